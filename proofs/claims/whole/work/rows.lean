section
-- ===== PART A: goes FIRST, ahead of the names: the tables' words, and 'selects' of the private methods out of them =====
/-- a private method of a class that the tables say can be made, by its rows of tables_1 -/
def lw_okq (q : MethodName × Nat) : Prop := (q.1.cls ≠ "java/lang/invoke/MethodHandle" ∧ q.1.cls ≠ "java/lang/invoke/VarHandle") ∧ Cond.instantiable q.1.cls q.2 ∈ tables_1 ∧ Cond.privateMethod q.1 ∈ tables_1 ∧ Cond.instanceMethod q.1 ∈ tables_1
theorem lw_p0 : lw_okq (⟨"HeightLines", "forgetChains", "()V"⟩, 11) := ⟨⟨by decide +kernel, by decide +kernel⟩, List.mem_of_getElem? (i := 10) (by decide +kernel), List.mem_of_getElem? (i := 63) (by decide +kernel), List.mem_of_getElem? (i := 64) (by decide +kernel)⟩
theorem lw_p1 : lw_okq (⟨"HeightLines", "hasRow", "(I)Z"⟩, 11) := ⟨⟨by decide +kernel, by decide +kernel⟩, List.mem_of_getElem? (i := 10) (by decide +kernel), List.mem_of_getElem? (i := 71) (by decide +kernel), List.mem_of_getElem? (i := 72) (by decide +kernel)⟩
theorem lw_p2 : lw_okq (⟨"HeightLines", "sampleAt", "(II)I"⟩, 11) := ⟨⟨by decide +kernel, by decide +kernel⟩, List.mem_of_getElem? (i := 10) (by decide +kernel), List.mem_of_getElem? (i := 86) (by decide +kernel), List.mem_of_getElem? (i := 87) (by decide +kernel)⟩
theorem lw_p3 : lw_okq (⟨"HeightLines", "drawLines", "()V"⟩, 11) := ⟨⟨by decide +kernel, by decide +kernel⟩, List.mem_of_getElem? (i := 10) (by decide +kernel), List.mem_of_getElem? (i := 104) (by decide +kernel), List.mem_of_getElem? (i := 105) (by decide +kernel)⟩
theorem lw_p4 : lw_okq (⟨"HeightLines", "drawCell", "(II)V"⟩, 11) := ⟨⟨by decide +kernel, by decide +kernel⟩, List.mem_of_getElem? (i := 10) (by decide +kernel), List.mem_of_getElem? (i := 108) (by decide +kernel), List.mem_of_getElem? (i := 109) (by decide +kernel)⟩
theorem lw_p5 : lw_okq (⟨"HeightLines", "cornersAbove", "(II)I"⟩, 11) := ⟨⟨by decide +kernel, by decide +kernel⟩, List.mem_of_getElem? (i := 10) (by decide +kernel), List.mem_of_getElem? (i := 112) (by decide +kernel), List.mem_of_getElem? (i := 113) (by decide +kernel)⟩
theorem lw_p6 : lw_okq (⟨"HeightLines", "cornerSample", "(III)I"⟩, 11) := ⟨⟨by decide +kernel, by decide +kernel⟩, List.mem_of_getElem? (i := 10) (by decide +kernel), List.mem_of_getElem? (i := 116) (by decide +kernel), List.mem_of_getElem? (i := 117) (by decide +kernel)⟩
theorem lw_p7 : lw_okq (⟨"HeightLines", "isAbove", "(I)Z"⟩, 11) := ⟨⟨by decide +kernel, by decide +kernel⟩, List.mem_of_getElem? (i := 10) (by decide +kernel), List.mem_of_getElem? (i := 120) (by decide +kernel), List.mem_of_getElem? (i := 121) (by decide +kernel)⟩
theorem lw_p8 : lw_okq (⟨"HeightLines", "isMiddleAbove", "(II)Z"⟩, 11) := ⟨⟨by decide +kernel, by decide +kernel⟩, List.mem_of_getElem? (i := 10) (by decide +kernel), List.mem_of_getElem? (i := 124) (by decide +kernel), List.mem_of_getElem? (i := 125) (by decide +kernel)⟩
theorem lw_p9 : lw_okq (⟨"HeightLines", "sideEdge", "(III)I"⟩, 11) := ⟨⟨by decide +kernel, by decide +kernel⟩, List.mem_of_getElem? (i := 10) (by decide +kernel), List.mem_of_getElem? (i := 135) (by decide +kernel), List.mem_of_getElem? (i := 136) (by decide +kernel)⟩
theorem lw_p10 : lw_okq (⟨"HeightLines", "rightwardEdge", "(II)I"⟩, 11) := ⟨⟨by decide +kernel, by decide +kernel⟩, List.mem_of_getElem? (i := 10) (by decide +kernel), List.mem_of_getElem? (i := 139) (by decide +kernel), List.mem_of_getElem? (i := 140) (by decide +kernel)⟩
theorem lw_p11 : lw_okq (⟨"HeightLines", "upwardEdge", "(II)I"⟩, 11) := ⟨⟨by decide +kernel, by decide +kernel⟩, List.mem_of_getElem? (i := 10) (by decide +kernel), List.mem_of_getElem? (i := 143) (by decide +kernel), List.mem_of_getElem? (i := 144) (by decide +kernel)⟩
theorem lw_p12 : lw_okq (⟨"HeightLines", "rightwardEdges", "()I"⟩, 11) := ⟨⟨by decide +kernel, by decide +kernel⟩, List.mem_of_getElem? (i := 10) (by decide +kernel), List.mem_of_getElem? (i := 147) (by decide +kernel), List.mem_of_getElem? (i := 148) (by decide +kernel)⟩
theorem lw_p13 : lw_okq (⟨"HeightLines", "gatherOpenChains", "()V"⟩, 11) := ⟨⟨by decide +kernel, by decide +kernel⟩, List.mem_of_getElem? (i := 10) (by decide +kernel), List.mem_of_getElem? (i := 157) (by decide +kernel), List.mem_of_getElem? (i := 158) (by decide +kernel)⟩
theorem lw_p14 : lw_okq (⟨"HeightLines", "edgeCount", "()I"⟩, 11) := ⟨⟨by decide +kernel, by decide +kernel⟩, List.mem_of_getElem? (i := 10) (by decide +kernel), List.mem_of_getElem? (i := 161) (by decide +kernel), List.mem_of_getElem? (i := 162) (by decide +kernel)⟩
theorem lw_p15 : lw_okq (⟨"HeightLines", "gatherChain", "(I)V"⟩, 11) := ⟨⟨by decide +kernel, by decide +kernel⟩, List.mem_of_getElem? (i := 10) (by decide +kernel), List.mem_of_getElem? (i := 165) (by decide +kernel), List.mem_of_getElem? (i := 166) (by decide +kernel)⟩
def lw_privs_1 : List (MethodName × Nat) := [(⟨"HeightLines", "forgetChains", "()V"⟩, 11), (⟨"HeightLines", "hasRow", "(I)Z"⟩, 11), (⟨"HeightLines", "sampleAt", "(II)I"⟩, 11), (⟨"HeightLines", "drawLines", "()V"⟩, 11), (⟨"HeightLines", "drawCell", "(II)V"⟩, 11), (⟨"HeightLines", "cornersAbove", "(II)I"⟩, 11), (⟨"HeightLines", "cornerSample", "(III)I"⟩, 11), (⟨"HeightLines", "isAbove", "(I)Z"⟩, 11), (⟨"HeightLines", "isMiddleAbove", "(II)Z"⟩, 11), (⟨"HeightLines", "sideEdge", "(III)I"⟩, 11), (⟨"HeightLines", "rightwardEdge", "(II)I"⟩, 11), (⟨"HeightLines", "upwardEdge", "(II)I"⟩, 11), (⟨"HeightLines", "rightwardEdges", "()I"⟩, 11), (⟨"HeightLines", "gatherOpenChains", "()V"⟩, 11), (⟨"HeightLines", "edgeCount", "()I"⟩, 11), (⟨"HeightLines", "gatherChain", "(I)V"⟩, 11)]
theorem lw_r1 : ∀ q ∈ lw_privs_1, lw_okq q := List.forall_mem_cons.mpr ⟨lw_p0, List.forall_mem_cons.mpr ⟨lw_p1, List.forall_mem_cons.mpr ⟨lw_p2, List.forall_mem_cons.mpr ⟨lw_p3, List.forall_mem_cons.mpr ⟨lw_p4, List.forall_mem_cons.mpr ⟨lw_p5, List.forall_mem_cons.mpr ⟨lw_p6, List.forall_mem_cons.mpr ⟨lw_p7, List.forall_mem_cons.mpr ⟨lw_p8, List.forall_mem_cons.mpr ⟨lw_p9, List.forall_mem_cons.mpr ⟨lw_p10, List.forall_mem_cons.mpr ⟨lw_p11, List.forall_mem_cons.mpr ⟨lw_p12, List.forall_mem_cons.mpr ⟨lw_p13, List.forall_mem_cons.mpr ⟨lw_p14, List.forall_mem_cons.mpr ⟨lw_p15, fun _ h => absurd h List.not_mem_nil⟩⟩⟩⟩⟩⟩⟩⟩⟩⟩⟩⟩⟩⟩⟩⟩
theorem lw_p16 : lw_okq (⟨"HeightLines", "gatherClosedChains", "()V"⟩, 11) := ⟨⟨by decide +kernel, by decide +kernel⟩, List.mem_of_getElem? (i := 10) (by decide +kernel), List.mem_of_getElem? (i := 169) (by decide +kernel), List.mem_of_getElem? (i := 170) (by decide +kernel)⟩
theorem lw_p17 : lw_okq (⟨"HeightLines", "hasChain", "(I)Z"⟩, 11) := ⟨⟨by decide +kernel, by decide +kernel⟩, List.mem_of_getElem? (i := 10) (by decide +kernel), List.mem_of_getElem? (i := 177) (by decide +kernel), List.mem_of_getElem? (i := 178) (by decide +kernel)⟩
theorem lw_p18 : lw_okq (⟨"HeightLines", "withinInRow", "(II)I"⟩, 11) := ⟨⟨by decide +kernel, by decide +kernel⟩, List.mem_of_getElem? (i := 10) (by decide +kernel), List.mem_of_getElem? (i := 195) (by decide +kernel), List.mem_of_getElem? (i := 196) (by decide +kernel)⟩
theorem lw_p19 : lw_okq (⟨"HeightLines", "isCrossed", "(I)Z"⟩, 11) := ⟨⟨by decide +kernel, by decide +kernel⟩, List.mem_of_getElem? (i := 10) (by decide +kernel), List.mem_of_getElem? (i := 203) (by decide +kernel), List.mem_of_getElem? (i := 204) (by decide +kernel)⟩
theorem lw_p20 : lw_okq (⟨"HeightLines", "firstSample", "(I)I"⟩, 11) := ⟨⟨by decide +kernel, by decide +kernel⟩, List.mem_of_getElem? (i := 10) (by decide +kernel), List.mem_of_getElem? (i := 207) (by decide +kernel), List.mem_of_getElem? (i := 208) (by decide +kernel)⟩
theorem lw_p21 : lw_okq (⟨"HeightLines", "secondSample", "(I)I"⟩, 11) := ⟨⟨by decide +kernel, by decide +kernel⟩, List.mem_of_getElem? (i := 10) (by decide +kernel), List.mem_of_getElem? (i := 211) (by decide +kernel), List.mem_of_getElem? (i := 212) (by decide +kernel)⟩
theorem lw_p22 : lw_okq (⟨"java/lang/Throwable", "fillInStackTrace", "(I)Ljava/lang/Throwable;"⟩, 6) := ⟨⟨by decide +kernel, by decide +kernel⟩, List.mem_of_getElem? (i := 259) (by decide +kernel), List.mem_of_getElem? (i := 257) (by decide +kernel), List.mem_of_getElem? (i := 258) (by decide +kernel)⟩
theorem lw_p23 : lw_okq (⟨"HeightLinesModel", "all", "()I"⟩, 10) := ⟨⟨by decide +kernel, by decide +kernel⟩, List.mem_of_getElem? (i := 290) (by decide +kernel), List.mem_of_getElem? (i := 358) (by decide +kernel), List.mem_of_getElem? (i := 359) (by decide +kernel)⟩
theorem lw_p24 : lw_okq (⟨"HeightLinesModel", "isCrossed", "(I)Z"⟩, 10) := ⟨⟨by decide +kernel, by decide +kernel⟩, List.mem_of_getElem? (i := 290) (by decide +kernel), List.mem_of_getElem? (i := 362) (by decide +kernel), List.mem_of_getElem? (i := 363) (by decide +kernel)⟩
theorem lw_p25 : lw_okq (⟨"HeightLinesModel", "first", "(I)I"⟩, 10) := ⟨⟨by decide +kernel, by decide +kernel⟩, List.mem_of_getElem? (i := 290) (by decide +kernel), List.mem_of_getElem? (i := 366) (by decide +kernel), List.mem_of_getElem? (i := 367) (by decide +kernel)⟩
theorem lw_p26 : lw_okq (⟨"HeightLinesModel", "xOf", "(I)I"⟩, 10) := ⟨⟨by decide +kernel, by decide +kernel⟩, List.mem_of_getElem? (i := 290) (by decide +kernel), List.mem_of_getElem? (i := 370) (by decide +kernel), List.mem_of_getElem? (i := 371) (by decide +kernel)⟩
theorem lw_p27 : lw_okq (⟨"HeightLinesModel", "isAcross", "(I)Z"⟩, 10) := ⟨⟨by decide +kernel, by decide +kernel⟩, List.mem_of_getElem? (i := 290) (by decide +kernel), List.mem_of_getElem? (i := 374) (by decide +kernel), List.mem_of_getElem? (i := 375) (by decide +kernel)⟩
theorem lw_p28 : lw_okq (⟨"HeightLinesModel", "yOf", "(I)I"⟩, 10) := ⟨⟨by decide +kernel, by decide +kernel⟩, List.mem_of_getElem? (i := 290) (by decide +kernel), List.mem_of_getElem? (i := 378) (by decide +kernel), List.mem_of_getElem? (i := 379) (by decide +kernel)⟩
theorem lw_p29 : lw_okq (⟨"HeightLinesModel", "at", "(II)I"⟩, 10) := ⟨⟨by decide +kernel, by decide +kernel⟩, List.mem_of_getElem? (i := 290) (by decide +kernel), List.mem_of_getElem? (i := 382) (by decide +kernel), List.mem_of_getElem? (i := 383) (by decide +kernel)⟩
theorem lw_p30 : lw_okq (⟨"HeightLinesModel", "isAbove", "(I)Z"⟩, 10) := ⟨⟨by decide +kernel, by decide +kernel⟩, List.mem_of_getElem? (i := 290) (by decide +kernel), List.mem_of_getElem? (i := 386) (by decide +kernel), List.mem_of_getElem? (i := 387) (by decide +kernel)⟩
theorem lw_p31 : lw_okq (⟨"HeightLinesModel", "second", "(I)I"⟩, 10) := ⟨⟨by decide +kernel, by decide +kernel⟩, List.mem_of_getElem? (i := 290) (by decide +kernel), List.mem_of_getElem? (i := 390) (by decide +kernel), List.mem_of_getElem? (i := 391) (by decide +kernel)⟩
def lw_privs_2 : List (MethodName × Nat) := [(⟨"HeightLines", "gatherClosedChains", "()V"⟩, 11), (⟨"HeightLines", "hasChain", "(I)Z"⟩, 11), (⟨"HeightLines", "withinInRow", "(II)I"⟩, 11), (⟨"HeightLines", "isCrossed", "(I)Z"⟩, 11), (⟨"HeightLines", "firstSample", "(I)I"⟩, 11), (⟨"HeightLines", "secondSample", "(I)I"⟩, 11), (⟨"java/lang/Throwable", "fillInStackTrace", "(I)Ljava/lang/Throwable;"⟩, 6), (⟨"HeightLinesModel", "all", "()I"⟩, 10), (⟨"HeightLinesModel", "isCrossed", "(I)Z"⟩, 10), (⟨"HeightLinesModel", "first", "(I)I"⟩, 10), (⟨"HeightLinesModel", "xOf", "(I)I"⟩, 10), (⟨"HeightLinesModel", "isAcross", "(I)Z"⟩, 10), (⟨"HeightLinesModel", "yOf", "(I)I"⟩, 10), (⟨"HeightLinesModel", "at", "(II)I"⟩, 10), (⟨"HeightLinesModel", "isAbove", "(I)Z"⟩, 10), (⟨"HeightLinesModel", "second", "(I)I"⟩, 10)]
theorem lw_r2 : ∀ q ∈ lw_privs_2, lw_okq q := List.forall_mem_cons.mpr ⟨lw_p16, List.forall_mem_cons.mpr ⟨lw_p17, List.forall_mem_cons.mpr ⟨lw_p18, List.forall_mem_cons.mpr ⟨lw_p19, List.forall_mem_cons.mpr ⟨lw_p20, List.forall_mem_cons.mpr ⟨lw_p21, List.forall_mem_cons.mpr ⟨lw_p22, List.forall_mem_cons.mpr ⟨lw_p23, List.forall_mem_cons.mpr ⟨lw_p24, List.forall_mem_cons.mpr ⟨lw_p25, List.forall_mem_cons.mpr ⟨lw_p26, List.forall_mem_cons.mpr ⟨lw_p27, List.forall_mem_cons.mpr ⟨lw_p28, List.forall_mem_cons.mpr ⟨lw_p29, List.forall_mem_cons.mpr ⟨lw_p30, List.forall_mem_cons.mpr ⟨lw_p31, fun _ h => absurd h List.not_mem_nil⟩⟩⟩⟩⟩⟩⟩⟩⟩⟩⟩⟩⟩⟩⟩⟩
theorem lw_p32 : lw_okq (⟨"HeightLinesModel", "isLedTo", "(I)Z"⟩, 10) := ⟨⟨by decide +kernel, by decide +kernel⟩, List.mem_of_getElem? (i := 290) (by decide +kernel), List.mem_of_getElem? (i := 394) (by decide +kernel), List.mem_of_getElem? (i := 395) (by decide +kernel)⟩
theorem lw_p33 : lw_okq (⟨"HeightLinesModel", "isCell", "(II)Z"⟩, 10) := ⟨⟨by decide +kernel, by decide +kernel⟩, List.mem_of_getElem? (i := 290) (by decide +kernel), List.mem_of_getElem? (i := 398) (by decide +kernel), List.mem_of_getElem? (i := 399) (by decide +kernel)⟩
theorem lw_p34 : lw_okq (⟨"HeightLinesModel", "isUp", "(III)Z"⟩, 10) := ⟨⟨by decide +kernel, by decide +kernel⟩, List.mem_of_getElem? (i := 290) (by decide +kernel), List.mem_of_getElem? (i := 402) (by decide +kernel), List.mem_of_getElem? (i := 403) (by decide +kernel)⟩
theorem lw_p35 : lw_okq (⟨"HeightLinesModel", "corner", "(III)I"⟩, 10) := ⟨⟨by decide +kernel, by decide +kernel⟩, List.mem_of_getElem? (i := 290) (by decide +kernel), List.mem_of_getElem? (i := 406) (by decide +kernel), List.mem_of_getElem? (i := 407) (by decide +kernel)⟩
theorem lw_p36 : lw_okq (⟨"HeightLinesModel", "chain", "(IZ)V"⟩, 10) := ⟨⟨by decide +kernel, by decide +kernel⟩, List.mem_of_getElem? (i := 290) (by decide +kernel), List.mem_of_getElem? (i := 410) (by decide +kernel), List.mem_of_getElem? (i := 411) (by decide +kernel)⟩
theorem lw_p37 : lw_okq (⟨"HeightLinesModel", "next", "(I)I"⟩, 10) := ⟨⟨by decide +kernel, by decide +kernel⟩, List.mem_of_getElem? (i := 290) (by decide +kernel), List.mem_of_getElem? (i := 414) (by decide +kernel), List.mem_of_getElem? (i := 415) (by decide +kernel)⟩
theorem lw_p38 : lw_okq (⟨"HeightLinesModel", "isDown", "(III)Z"⟩, 10) := ⟨⟨by decide +kernel, by decide +kernel⟩, List.mem_of_getElem? (i := 290) (by decide +kernel), List.mem_of_getElem? (i := 418) (by decide +kernel), List.mem_of_getElem? (i := 419) (by decide +kernel)⟩
theorem lw_p39 : lw_okq (⟨"HeightLinesModel", "leads", "(III)I"⟩, 10) := ⟨⟨by decide +kernel, by decide +kernel⟩, List.mem_of_getElem? (i := 290) (by decide +kernel), List.mem_of_getElem? (i := 422) (by decide +kernel), List.mem_of_getElem? (i := 423) (by decide +kernel)⟩
theorem lw_p40 : lw_okq (⟨"HeightLinesModel", "isMiddleAbove", "(II)Z"⟩, 10) := ⟨⟨by decide +kernel, by decide +kernel⟩, List.mem_of_getElem? (i := 290) (by decide +kernel), List.mem_of_getElem? (i := 426) (by decide +kernel), List.mem_of_getElem? (i := 427) (by decide +kernel)⟩
theorem lw_p41 : lw_okq (⟨"HeightLinesModel", "edgeOf", "(III)I"⟩, 10) := ⟨⟨by decide +kernel, by decide +kernel⟩, List.mem_of_getElem? (i := 290) (by decide +kernel), List.mem_of_getElem? (i := 431) (by decide +kernel), List.mem_of_getElem? (i := 432) (by decide +kernel)⟩
theorem lw_p42 : lw_okq (⟨"HeightLinesModel", "isChain", "(I)Z"⟩, 10) := ⟨⟨by decide +kernel, by decide +kernel⟩, List.mem_of_getElem? (i := 290) (by decide +kernel), List.mem_of_getElem? (i := 439) (by decide +kernel), List.mem_of_getElem? (i := 440) (by decide +kernel)⟩
def lw_privs_3 : List (MethodName × Nat) := [(⟨"HeightLinesModel", "isLedTo", "(I)Z"⟩, 10), (⟨"HeightLinesModel", "isCell", "(II)Z"⟩, 10), (⟨"HeightLinesModel", "isUp", "(III)Z"⟩, 10), (⟨"HeightLinesModel", "corner", "(III)I"⟩, 10), (⟨"HeightLinesModel", "chain", "(IZ)V"⟩, 10), (⟨"HeightLinesModel", "next", "(I)I"⟩, 10), (⟨"HeightLinesModel", "isDown", "(III)Z"⟩, 10), (⟨"HeightLinesModel", "leads", "(III)I"⟩, 10), (⟨"HeightLinesModel", "isMiddleAbove", "(II)Z"⟩, 10), (⟨"HeightLinesModel", "edgeOf", "(III)I"⟩, 10), (⟨"HeightLinesModel", "isChain", "(I)Z"⟩, 10)]
theorem lw_r3 : ∀ q ∈ lw_privs_3, lw_okq q := List.forall_mem_cons.mpr ⟨lw_p32, List.forall_mem_cons.mpr ⟨lw_p33, List.forall_mem_cons.mpr ⟨lw_p34, List.forall_mem_cons.mpr ⟨lw_p35, List.forall_mem_cons.mpr ⟨lw_p36, List.forall_mem_cons.mpr ⟨lw_p37, List.forall_mem_cons.mpr ⟨lw_p38, List.forall_mem_cons.mpr ⟨lw_p39, List.forall_mem_cons.mpr ⟨lw_p40, List.forall_mem_cons.mpr ⟨lw_p41, List.forall_mem_cons.mpr ⟨lw_p42, fun _ h => absurd h List.not_mem_nil⟩⟩⟩⟩⟩⟩⟩⟩⟩⟩⟩
def lw_privs : List (MethodName × Nat) := lw_privs_1 ++ (lw_privs_2 ++ (lw_privs_3))
def lw_tbl : List Cond := k2_sels lw_privs ++ tables_1
theorem lw_privs_ok : ∀ q ∈ lw_privs, lw_okq q := by
  show ∀ q ∈ lw_privs_1 ++ (lw_privs_2 ++ (lw_privs_3)), lw_okq q
  exact List.forall_mem_append.mpr ⟨lw_r1, List.forall_mem_append.mpr ⟨lw_r2, lw_r3⟩⟩
end
section
/-! ===== BEGIN words of one list among another's, by their places ===== -/
theorem goodIn_r {big : List Cond} (ws : List Cond) (ps : List Nat) (hp : ws = ps.filterMap (fun i => big[i]?)) (h : ws.all goodWord = true) : GoodIn big ws := by
  intro w hw
  have h1 := List.all_eq_true.mp h w hw
  rw [hp] at hw
  obtain ⟨i, -, hi⟩ := List.mem_filterMap.mp hw
  have hm : w ∈ big := by first | exact List.mem_of_getElem? hi | exact List.getElem?_mem hi
  exact ⟨hm, good_of_word h1⟩
theorem goodIn_app {big a b : List Cond} (ha : GoodIn big a) (hb : GoodIn big b) : GoodIn big (a ++ b) := fun w h => (List.mem_append.mp h).elim (ha w) (hb w)
theorem goodIn_ca {big a b : List Cond} {c : Cond} (ha : GoodIn big (c :: a)) (hb : GoodIn big b) : GoodIn big (c :: (a ++ b)) := fun w h => (List.mem_cons.mp h).elim (fun e => ha w (List.mem_cons.mpr (Or.inl e))) (fun h => (List.mem_append.mp h).elim (fun h => ha w (List.mem_cons.mpr (Or.inr h))) (hb w))
theorem goodIn_sub {big ws : List Cond} (hm : ∀ w ∈ ws, w ∈ big) (h : ws.all goodWord = true) : GoodIn big ws := fun w hw => ⟨hm w hw, good_of_word (List.all_eq_true.mp h w hw)⟩
/-! ===== END ===== -/

/-! ===== BEGIN exceptions that leave a method, and their catching by the caller (launches without stack traces) ===== -/
section VXA
/-! The laws vx_back, vx_callV, vx_callS, vx_callSW, vx_throw0, vx_throwS follow proofs of the library, with one case more: JvmDerived/Free/Laws.lean (Back.of_free), Shelf42/LK1.lean (callV, callS), Shelf/KitTraced.lean (throwNew0V, throwNewS). -/
/-- where a method has thrown q: the class by its name, the cell, what was written, the world -/
def vx_T (XC : String → State → State → Prop) (st : State) (q : Addr) (t : State) (mc ms : Nat) (free : Addr → Prop) : Prop :=
  ∃ (E : String) (ce : Cell) (L : List Loc), XC E st t ∧ t.heap[q]? = some ce ∧ ce.vm = .none ∧ st.vm.findClass E = some ce.cls ∧ st.WarmedH t.vm ∧ st.sameButNew ({ t with vm := st.vm } : State) L mc ms ∧ ∀ z ∈ L, free z.base
def vx_Q (Qc : Array Value → State → Outcome → State → Prop) (XC : String → State → State → Prop) (mc ms : Nat) (free : Addr → Prop) : Array Value → State → Outcome → State → Prop := fun a st o t =>
  (Qc a st o t ∧ ∃ L, FrameEnd st o t L mc ms ∧ ∀ q ∈ L, free q.base) ∨ ∃ q, o = .threw q ∧ vx_T XC st q t mc ms free
/-- a callee that returns or throws -/
def vx_Met (l : Launch) (y : MethodName) (ws : List Cond) (rm : Room) (Pc : Array Value → State → Prop) (Qc : Array Value → State → Outcome → State → Prop) (XC : String → State → State → Prop) (mc ms : Nat) (free : Addr → Prop) : Prop :=
  MetFree l y (headSpec ws rm) Pc (fun _ _ _ _ _ => True) (vx_Q Qc XC mc ms free)
def vx_Post (XC : String → State → State → Prop) (mc ms : Nat) (free : Addr → Prop) : Pt → Array Value → Addr → Pt → Prop := fun A a q B =>
  ∃ (g : JFrame) (mk : MethodId) (t : State) (L : List Loc) (E : String) (ce : Cell), B.U.heap = t.heap ∧ B.U.vm = t.vm ∧ XC E (A.U.calling g mk a) t ∧ t.heap[q]? = some ce ∧ ce.vm = .none ∧ A.U.vm.findClass E = some ce.cls ∧ B.locs = A.locs ++ L ∧ (∀ z ∈ L, free z.base) ∧ B.cells = A.cells + mc ∧ B.slots = A.slots + ms
def vx_Back (l : Launch) (R : Room) (p : Program) (e : Env) (below : List Frame) (s : State) (sargs : Array Value) (y : MethodName) (len W9 : Nat)
    (Pre : Pt → Array Value → Prop) (Post : Pt → Array Value → Option Value → Pt → Prop) (PostX : Pt → Array Value → Addr → Pt → Prop) : Prop :=
  ∀ (m : MethodId) (meth : Method) (c : Code) (A : Pt) (g : JFrame) (ig : Instr) (mk : MethodId) (a : Array Value),
    Stand p l e R s m sargs below meth c A.U A.locs A.cells A.slots → g.method = m → g.locals.size = c.maxLocals → decode c.code g.pc = .ok (ig, len) →
    2 * g.monitorRoom + (g.stack.map fun v => v.category).sum ≤ W9 → A.U.methodNamed? y = some mk → Pre A a →
    (∃ (v : Option Value) (B : Pt), Stand p l e R s m sargs below meth c B.U B.locs B.cells B.slots ∧ Post A a v B ∧
      Steps p.tables e below (doInvoke e (A.U.setTop g) [] mk a).1 (B.U.setTop { g with pc := g.pc + len, stack := v.toList ++ g.stack })) ∨
    (∃ (q : Addr) (B : Pt), Stand p l e R s m sargs below meth c B.U B.locs B.cells B.slots ∧ PostX A a q B ∧
      Steps p.tables e below (doInvoke e (A.U.setTop g) [] mk a).1 ((B.U.setTop g).pushFrame (.throwing q)))
section Payer
variable {l : Launch} {R : Room} {p : Program} {e : Env} {below : List Frame} {s : State} {sargs : Array Value} {y : MethodName} {len W9 : Nat}
theorem vx_back {ws : List Cond} {rm : Room} {Pc : Array Value → State → Prop} {Qc : Array Value → State → Outcome → State → Prop} {XC : String → State → State → Prop} {mc ms : Nat} {free : Addr → Prop} {bytes : ByteArray} {maxL : Nat} {ret : Option FieldType}
    (hM : vx_Met l y ws rm Pc Qc XC mc ms free) (hblind : FrameBlind Pc) (hrc : rm.cells = mc) (hrs : rm.slots = ms)
    (hframes : rm.frames + 1 ≤ R.frames) (hlocals : W9 + (maxL + 11) + rm.locals ≤ R.locals)
    (hws : ∀ w ∈ ws, ∀ a' U, s.WarmedH U.vm → w.before a' U = true) (hcode : Cond.code y bytes maxL ret ∈ ws) (hinit : ∀ a' U, s.WarmedH U.vm → (Cond.initialized y.cls).before a' U = true) :
    vx_Back l R p e below s sargs y len W9 (PreOf R mc ms Pc) (PostOf Qc mc ms free) (vx_Post XC mc ms free) := by
  intro m meth c A g ig mk a X hg hsize hdg hW hn hp
  have h1 : (headSpec ws rm).pre.before a A.U = true := atoms_intro fun w hw => hws w hw _ _ X.warmed
  have h2 : (Cond.code y bytes maxL ret).before a A.U = true := hws _ hcode _ _ X.warmed
  have h3 : (Cond.initialized y.cls).before a A.U = true := hinit _ _ X.warmed
  have h4 : A.cells + (headSpec ws rm).room.cells ≤ R.cells := by rw [show (headSpec ws rm).room.cells = mc from hrc]; exact hp.1
  have h5 : A.slots + (headSpec ws rm).room.slots ≤ R.slots := by rw [show (headSpec ws rm).room.slots = ms from hrs]; exact hp.2.1
  have hPc : Pc a (A.U.calling g mk a) := hblind _ _ _ _ hp.2.2
  obtain ⟨U, Ls, c0, s0⟩ := A
  dsimp only [Pt.U, Pt.locs, Pt.cells, Pt.slots] at h1 h2 h3 h4 h5 X hn hPc ⊢
  obtain ⟨methY, cY, hmY, hcY, -, hlY, -, -, -, -⟩ := Cond.code_spec hn h2
  obtain ⟨kY, hkY, -⟩ := className_of_methodNamed hn
  have hinitY : kY.init = .initialized := Cond.initialized_spec (findClass_of_methodNamed hn) hkY h3
  have h : At U g.method c below := by rw [hg]; exact X.here
  have hlocals9 : W9 + (maxL + 11) + (headSpec ws rm).room.locals ≤ R.locals := hlocals
  have happ : (headSpec ws rm).appliesLoose y e.platform (U.calling g mk a) = true :=
    Spec.appliesLoose_calling (g := g) h hdg hn hkY hinitY
      (X.room_calling (g := g) (R' := (headSpec ws rm).room) hsize hmY hcY hframes (by rw [hlY]; omega) h4 h5) h1
  obtain ⟨mid, hmid⟩ := h.above
  have hfr : (U.setTop g).frames = (.java g :: mid) ++ below := by rw [State.frames_setTop' g h.top, hmid]; rfl
  obtain ⟨o, s₂, hsteps, -, hend, hq⟩ := Steps.callFree hM p X.admits X.cas X.clock (acts := []) hfr happ hPc trivial
  have hq' : vx_Q Qc XC mc ms free a (U.calling g mk a) o s₂ := hq
  rw [State.frames_setTop' g h.top] at hend
  obtain ⟨g₀, hg0⟩ := Option.isSome_iff_exists.mp h.top
  obtain ⟨r, hr⟩ := State.topJava?_eq_some.mp hg0
  have hr' : (({ U with heap := s₂.heap, slotsUsed := s₂.slotsUsed } : State).setVm s₂.vm).frames = .java g₀ :: r := hr
  rcases hq' with ⟨hqc, L, hfe, hL⟩ | ⟨q, rfl, E, ce, L, hx, hce, hcv, hcl, hW₂, hsm, hL⟩
  · obtain ⟨⟨v, rfl⟩, hW₂, e2, q2, q3, q4, q5, q6⟩ := id hfe
    have e3 : s₂ = ({ (U.calling g mk a).setFrames s₂.frames with heap := s₂.heap, slotsUsed := s₂.slotsUsed } : State).setVm s₂.vm := by
      have : s₂ = ({ s₂ with vm := (U.calling g mk a).vm } : State).setVm s₂.vm := rfl
      rw [e2] at this
      exact this
    obtain ⟨c₂, i₂, len₂, hc₂, hd₂, hf₂⟩ := hend
    have hW' : U.WarmedH s₂.vm := hW₂
    have hcc : c₂ = c := by
      have h1 : s₂.code? g.method = U.code? g.method := by
        rw [State.code?_eq, State.code?_eq, hW'.alike.method?]
      exact Option.some.inj (hc₂.symm.trans (h1.trans h.code))
    subst hcc
    have hlen : len₂ = len := by rw [hdg] at hd₂; cases hd₂; rfl
    subst hlen
    have hs₂ : s₂ = (({ U with heap := s₂.heap, slotsUsed := s₂.slotsUsed } : State).setVm s₂.vm).setTop { g with pc := g.pc + len₂, stack := v.toList ++ g.stack } := by
      refine e3.trans ?_
      rw [hf₂, State.calling_eq h.top, State.setFrames_setFrames, State.setTop_of_frames _ hr', hr]
      rfl
    have hsame : U.sameButNew ({ U with heap := s₂.heap, slotsUsed := s₂.slotsUsed } : State) L mc ms := by
      refine ⟨?_, q2, q3, q4, q5, q6⟩
      obtain ⟨t, ht, -⟩ := State.frames_cons hr
      show ({ U with heap := s₂.heap, slotsUsed := s₂.slotsUsed } : State) = { U.setFrames U.frames with heap := s₂.heap, slotsUsed := s₂.slotsUsed }
      rw [State.setFrames_self ht]
    subst hg
    refine Or.inl ⟨v, ⟨(({ U with heap := s₂.heap, slotsUsed := s₂.slotsUsed } : State).setVm s₂.vm), Ls ++ L, c0 + mc, s0 + ms⟩,
      ⟨X.admits, X.cas, X.clock, X.frames, X.room, X.hears, X.method, X.code, (X.here.setHeapUsed s₂.heap s₂.slotsUsed).setVm hW'.alike, X.tail, State.WarmedH.trans X.warmed hW', X.limits, X.bytes, X.same.trans (hsame.setVm s.vm)⟩,
      ⟨g, mk, s₂, L, rfl, rfl, hqc, rfl, hL, rfl, rfl⟩, ?_⟩
    show Steps p.tables e below _ ((({ U with heap := s₂.heap, slotsUsed := s₂.slotsUsed } : State).setVm s₂.vm).setTop { g with pc := g.pc + len₂, stack := v.toList ++ g.stack })
    rw [← hs₂]
    exact hsteps
  · obtain ⟨e2, q2, q3, q4, q5, q6⟩ := id hsm
    have e3 : s₂ = ({ (U.calling g mk a).setFrames s₂.frames with heap := s₂.heap, slotsUsed := s₂.slotsUsed } : State).setVm s₂.vm := by
      have : s₂ = ({ s₂ with vm := (U.calling g mk a).vm } : State).setVm s₂.vm := rfl
      rw [e2] at this
      exact this
    have hf₂ : s₂.frames = .throwing q :: .java g :: U.frames.tail := hend
    have hW' : U.WarmedH s₂.vm := hW₂
    have hs₂ : s₂ = ((({ U with heap := s₂.heap, slotsUsed := s₂.slotsUsed } : State).setVm s₂.vm).setTop g).pushFrame (.throwing q) := by
      refine e3.trans ?_
      rw [hf₂, State.calling_eq h.top, State.setFrames_setFrames, State.pushFrame, State.frames_setTop _ hr', State.setTop_of_frames _ hr', State.setFrames_setFrames, hr]
      rfl
    have hsame : U.sameButNew ({ U with heap := s₂.heap, slotsUsed := s₂.slotsUsed } : State) L mc ms := by
      refine ⟨?_, q2, q3, q4, q5, q6⟩
      obtain ⟨t, ht, -⟩ := State.frames_cons hr
      show ({ U with heap := s₂.heap, slotsUsed := s₂.slotsUsed } : State) = { U.setFrames U.frames with heap := s₂.heap, slotsUsed := s₂.slotsUsed }
      rw [State.setFrames_self ht]
    subst hg
    refine Or.inr ⟨q, ⟨(({ U with heap := s₂.heap, slotsUsed := s₂.slotsUsed } : State).setVm s₂.vm), Ls ++ L, c0 + mc, s0 + ms⟩,
      ⟨X.admits, X.cas, X.clock, X.frames, X.room, X.hears, X.method, X.code, (X.here.setHeapUsed s₂.heap s₂.slotsUsed).setVm hW'.alike, X.tail, State.WarmedH.trans X.warmed hW', X.limits, X.bytes, X.same.trans (hsame.setVm s.vm)⟩,
      ⟨g, mk, s₂, L, E, ce, rfl, rfl, hx, hce, hcv, hcl, rfl, hL, rfl, rfl⟩, ?_⟩
    show Steps p.tables e below _ (((({ U with heap := s₂.heap, slotsUsed := s₂.slotsUsed } : State).setVm s₂.vm).setTop g).pushFrame (.throwing q))
    rw [← hs₂]
    exact hsteps
end Payer
section Calls
variable {p : Program} {l : Launch} {e : Env} {R : Room} {s : State} {m : MethodId} {args : Array Value} {below : List Frame} {meth : Method} {c : Code} {T : State} {locs : List Loc} {cells slots : Nat}
theorem vx_callV (X : Stand p l e R s m args below meth c T locs cells slots) (hexec : p.tables.exec = Jvm.exec) {own C : String} {index : Nat} {y : MethodName} {bytes : ByteArray} {maxL : Nat} {ret : Option FieldType}
    (hown : s.vm.findClass own = some m.cls) (hlink : (Cond.methodLink own index y).before args s = true) (hinst : (Cond.instanceMethod y).before args s = true) (hsel : (Cond.selects C y y).before args s = true)
    (hcode : (Cond.code y bytes maxL ret).before args s = true) (hy : y.cls ≠ "java/lang/invoke/MethodHandle" ∧ y.cls ≠ "java/lang/invoke/VarHandle")
    {W9 : Nat} {Pre : Pt → Array Value → Prop} {Post : Pt → Array Value → Option Value → Pt → Prop} {PostX : Pt → Array Value → Addr → Pt → Prop} (hK : vx_Back l R p e below s args y 3 W9 Pre Post PostX)
    {b : Addr} {cellB : Cell} (hcell : T.heap[b]? = some cellB) (hobj : cellB.vm.isStatics = false) (hcls : s.vm.findClass C = some cellB.cls)
    {g : JFrame} (hg : g.method = m) (hsize : g.locals.size = c.maxLocals) {argsL rest : List Value} (hlen : ∀ sig, parseMethodDescriptor y.desc = some sig → argsL.length = sig.parameters.length)
    (hstack : g.stack = argsL.reverse ++ .ref b :: rest) (hW : 2 * g.monitorRoom + (rest.map fun v => v.category).sum ≤ W9) (hdg : decode c.code g.pc = .ok (.invokevirtual index, 3))
    (hpre : ∀ vm₁, s.WarmedH vm₁ → Pre ⟨T.setVm vm₁, locs, cells, slots⟩ (Value.ref b :: argsL).toArray) :
    (∃ (v : Option Value) (vm₁ : Vm) (B : Pt), s.WarmedH vm₁ ∧ Stand p l e R s m args below meth c B.U B.locs B.cells B.slots ∧ Post ⟨T.setVm vm₁, locs, cells, slots⟩ (Value.ref b :: argsL).toArray v B ∧
      ∀ target, Steps p.tables e below (B.U.setTop { g with pc := g.pc + 3, stack := v.toList ++ rest }) target → Steps p.tables e below (T.setTop g) target) ∨
    (∃ (q : Addr) (vm₁ : Vm) (B : Pt), s.WarmedH vm₁ ∧ Stand p l e R s m args below meth c B.U B.locs B.cells B.slots ∧ PostX ⟨T.setVm vm₁, locs, cells, slots⟩ (Value.ref b :: argsL).toArray q B ∧
      Steps p.tables e below (T.setTop g) ((B.U.setTop { g with stack := rest }).pushFrame (.throwing q))) := by
  obtain ⟨mk, methM, hnamed, hmethM, hstM, habM⟩ := Cond.instanceMethod_spec hinst
  obtain ⟨methM', cM, hmethM', -, -, -, -, -, -, hsigM⟩ := Cond.code_spec hnamed hcode
  cases hmethM.symm.trans hmethM'
  obtain ⟨c2, r2, m2, q1, q2, q3, q4, kP, hkP, hkPi⟩ := Cond.selects_spec hsel
  cases hcls.symm.trans q1
  cases (State.methodFound?_of_named hnamed hy).symm.trans q2
  cases hnamed.symm.trans q3
  have hselP : selectMethod e.platform s.vm cellB.cls mk = .method mk := by rw [Launch.admits_selectMethod X.admits]; exact q4
  obtain ⟨vm₁, X₁, hstep₁⟩ := X.invokevirtual hexec hown hlink hnamed hmethM hstM hkP hkPi hy (a := b) (cell := cellB) hcell
    (fun z h => by rw [h] at hobj; cases hobj) hselP hmethM habM hkP hkPi (g := g) hg (argsL := argsL) (rest := rest) (hlen _ hsigM) hstack hdg
  rcases hK m meth c ⟨T.setVm vm₁, locs, cells, slots⟩ { g with stack := rest } (.invokevirtual index) mk (Value.ref b :: argsL).toArray X₁ hg hsize hdg hW (X₁.named hnamed) (hpre vm₁ X₁.warmed) with ⟨v, B, X', hpost, hsteps⟩ | ⟨q, B, X', hpost, hsteps⟩
  · exact Or.inl ⟨v, vm₁, B, X₁.warmed, X', hpost, fun target h => hstep₁ _ fun acts => by rw [doInvoke_state]; exact hsteps.trans h⟩
  · exact Or.inr ⟨q, vm₁, B, X₁.warmed, X', hpost, hstep₁ _ fun acts => by rw [doInvoke_state]; exact hsteps⟩
theorem vx_callS (X : Stand p l e R s m args below meth c T locs cells slots) (hexec : p.tables.exec = Jvm.exec) {own : String} {index : Nat} {y : MethodName} {bytes : ByteArray} {maxL : Nat} {ret : Option FieldType}
    (hown : s.vm.findClass own = some m.cls) (hlink : (Cond.methodLink own index y).before args s = true) (hstat : (Cond.static y).before args s = true) (hinit : (Cond.initialized y.cls).before args s = true)
    (hcode : (Cond.code y bytes maxL ret).before args s = true) (hy : y.cls ≠ "java/lang/invoke/MethodHandle" ∧ y.cls ≠ "java/lang/invoke/VarHandle")
    {W9 : Nat} {Pre : Pt → Array Value → Prop} {Post : Pt → Array Value → Option Value → Pt → Prop} {PostX : Pt → Array Value → Addr → Pt → Prop} (hK : vx_Back l R p e below s args y 3 W9 Pre Post PostX)
    {g : JFrame} (hg : g.method = m) (hsize : g.locals.size = c.maxLocals) {argsL rest : List Value} (hlen : ∀ sig, parseMethodDescriptor y.desc = some sig → argsL.length = sig.parameters.length)
    (hstack : g.stack = argsL.reverse ++ rest) (hW : 2 * g.monitorRoom + (rest.map fun v => v.category).sum ≤ W9) (hdg : decode c.code g.pc = .ok (.invokestatic index, 3))
    (hpre : ∀ vm₁, s.WarmedH vm₁ → Pre ⟨T.setVm vm₁, locs, cells, slots⟩ argsL.toArray) :
    (∃ (v : Option Value) (vm₁ : Vm) (B : Pt), s.WarmedH vm₁ ∧ Stand p l e R s m args below meth c B.U B.locs B.cells B.slots ∧ Post ⟨T.setVm vm₁, locs, cells, slots⟩ argsL.toArray v B ∧
      ∀ target, Steps p.tables e below (B.U.setTop { g with pc := g.pc + 3, stack := v.toList ++ rest }) target → Steps p.tables e below (T.setTop g) target) ∨
    (∃ (q : Addr) (vm₁ : Vm) (B : Pt), s.WarmedH vm₁ ∧ Stand p l e R s m args below meth c B.U B.locs B.cells B.slots ∧ PostX ⟨T.setVm vm₁, locs, cells, slots⟩ argsL.toArray q B ∧
      Steps p.tables e below (T.setTop g) ((B.U.setTop { g with stack := rest }).pushFrame (.throwing q))) := by
  obtain ⟨mk, hnamed⟩ := Cond.code_named hcode
  obtain ⟨methM, cM, hmethM, -, -, -, -, -, -, hsigM⟩ := Cond.code_spec hnamed hcode
  have hstatic : methM.isStatic = true := Cond.static_spec hnamed hmethM hstat
  obtain ⟨kP, hkP, -⟩ := className_of_methodNamed hnamed
  have hinitP : kP.init = .initialized := Cond.initialized_spec (findClass_of_methodNamed hnamed) hkP hinit
  obtain ⟨vm₁, X₁, hstep₁⟩ := X.invokestatic hexec hown hlink hnamed hmethM hstatic hkP hinitP hy (g := g) hg (argsL := argsL) (rest := rest) (hlen _ hsigM) hstack hdg
  rcases hK m meth c ⟨T.setVm vm₁, locs, cells, slots⟩ { g with stack := rest } (.invokestatic index) mk argsL.toArray X₁ hg hsize hdg hW (X₁.named hnamed) (hpre vm₁ X₁.warmed) with ⟨v, B, X', hpost, hsteps⟩ | ⟨q, B, X', hpost, hsteps⟩
  · exact Or.inl ⟨v, vm₁, B, X₁.warmed, X', hpost, fun target h => hstep₁ _ fun acts => by rw [doInvoke_state]; exact hsteps.trans h⟩
  · exact Or.inr ⟨q, vm₁, B, X₁.warmed, X', hpost, hstep₁ _ fun acts => by rw [doInvoke_state]; exact hsteps⟩
end Calls
theorem vx_cls {s : State} {T : State} {vm₁ : Vm} {E : String} {k : ClassId} (hW : s.WarmedH vm₁) (h : (T.setVm vm₁).vm.findClass E = some k) : s.vm.findClass E = some k := by
  have h1 : vm₁.findClass E = some k := h
  rw [hW.alike.findClass] at h1
  exact h1
/-- the method's frame g, with q thrown over it -/
def vx_W (p : Program) (l : Launch) (e : Env) (R : Room) (s : State) (m : MethodId) (args : Array Value) (below : List Frame) (meth : Method) (c : Code) (H : Heap) (locs : List Loc) (cells slots : Nat) (Q : State → Prop) (g : JFrame) (q : Addr) : Prop :=
  ∀ T : State, T.heap = H → Stand p l e R s m args below meth c T locs cells slots → ∃ t, Steps p.tables e below ((T.setTop g).pushFrame (.throwing q)) t ∧ Q t
def vx_Run (p : Program) (l : Launch) (e : Env) (R : Room) (s : State) (m : MethodId) (args : Array Value) (below : List Frame) (meth : Method) (c : Code) (H : Heap) (locs : List Loc) (cells slots mc ms : Nat) (g : JFrame) (rest : List Value) (Qa : State → Outcome → State → Prop) (XC : String → State → State → Prop) (free : Addr → Prop) : Prop :=
  ∀ T : State, T.heap = H → Stand p l e R s m args below meth c T locs cells slots →
    (∃ (v : Option Value) (st₀ t T' : State) (L : List Loc), st₀.heap = H ∧ Stand p l e R s m args below meth c T' (locs ++ L) (cells + mc) (slots + ms) ∧ (∀ q ∈ L, free q.base) ∧ T'.heap = t.heap ∧ T'.vm = t.vm ∧ Qa st₀ (.returned v) t ∧
      Goes p e below T g T' { g with pc := g.pc + 3, stack := v.toList ++ rest }) ∨
    (∃ (q : Addr) (st₀ t T' : State) (L : List Loc) (E : String) (ce : Cell), st₀.heap = H ∧ Stand p l e R s m args below meth c T' (locs ++ L) (cells + mc) (slots + ms) ∧ (∀ z ∈ L, free z.base) ∧ T'.heap = t.heap ∧ T'.vm = t.vm ∧ XC E st₀ t ∧ t.heap[q]? = some ce ∧ ce.vm = .none ∧ s.vm.findClass E = some ce.cls ∧
      Steps p.tables e below (T.setTop g) ((T'.setTop { g with stack := rest }).pushFrame (.throwing q)))
def vx_X {S : Type} (px : S → Prop) (B : String → S → State → Prop) (A : Nat → Prop) : String → State → State → Prop := fun E st t => ∃ u : S, px u ∧ B E u t ∧ va_F A st t
section Runs
variable {p : Program} {l : Launch} {e : Env} {R : Room} {s : State} {m : MethodId} {args : Array Value} {below : List Frame} {meth : Method} {c : Code} {H : Heap} {locs : List Loc} {cells slots : Nat}
variable {y : MethodName} {bytes cc : ByteArray} {maxL nL mc ms n index : Nat} {ret : Option FieldType} {ws : List Cond} {rm : Room} {Pc : Array Value → State → Prop} {Qc : Array Value → State → Outcome → State → Prop} {XC : String → State → State → Prop} {free : Addr → Prop} {Ts : List Cond} {own C : String} {b : Addr} {As rest : List Value} {g : JFrame}
theorem vx_callBack (cb : CallB R s args own index y bytes maxL ret ws rm mc ms n) (hM : vx_Met l y ws rm Pc Qc XC mc ms free) (hbl : FrameBlind Pc) : vx_Back l R p e below s args y 3 8 (PreOf R mc ms Pc) (PostOf Qc mc ms free) (vx_Post XC mc ms free) := by
  obtain ⟨hrc, hrs, hfr, hlo, hws, hcw, -, hini, -⟩ := cb
  exact vx_back (bytes := bytes) (maxL := maxL) (ret := ret) hM hbl hrc hrs hfr hlo hws hcw (fun a' U hW => word_at hW (Or.inl (by first | rfl | simp [Cond.onTables, Cond.keeps, Cond.steady])) hini)
theorem vx_runV (S : CallFix p m c cc nL s args Ts own) (hM : vx_Met l y ws rm Pc Qc XC mc ms free) (cw : CallW R s args own C index y bytes maxL ret ws rm mc ms n) (hp : PreV s H C b Pc As)
    (hg : g.method = m) (hn : As.length = n) (hsize : g.locals.size = nL) (hstack : g.stack = As.reverse ++ .ref b :: rest) (hW : 2 * g.monitorRoom + (rest.map fun v => v.category).sum ≤ 8) (hdg : decode cc g.pc = .ok (.invokevirtual index, 3)) (hf : cells + mc ≤ R.cells ∧ slots + ms ≤ R.slots) :
    vx_Run p l e R s m args below meth c H locs cells slots mc ms g rest (Qc (Value.ref b :: As).toArray) XC free := by
  have hK : vx_Back l R p e below s args y 3 8 (PreOf R mc ms Pc) (PostOf Qc mc ms free) (vx_Post XC mc ms free) := vx_callBack cw.1 hM hp.1
  obtain ⟨⟨-, -, -, -, -, -, hcode, -, hy, hlen, hl⟩, hin, hse⟩ := cw
  obtain ⟨hx, hb, hml, ho, -⟩ := S
  obtain ⟨-, ⟨cellB, hcB, hoB, hclB⟩, hPc⟩ := hp
  intro T hT X
  rcases vx_callV X hx (C := C) (bytes := bytes) (maxL := maxL) (ret := ret) ho hl hin hse hcode hy hK (by rw [hT]; exact hcB) hoB hclB hg (hsize.trans hml.symm) (argsL := As) (rest := rest) (fun sig h => hn.trans (hlen sig h)) hstack hW (by rw [hb]; exact hdg)
    (fun vm₁ hW₁ => ⟨hf.1, hf.2, hPc (T.setVm vm₁) hT hW₁⟩) with ⟨v, vm₁, ⟨U', l2, c2, s2⟩, hW₁, X', ⟨g', mk, t, L, e1, e2, hq, h1, hL, h2, h3⟩, st⟩ | ⟨q, vm₁, ⟨U', l2, c2, s2⟩, hW₁, X', ⟨g', mk, t, L, E, ce, e1, e2, hq, hce, hcv, hcl, h1, hL, h2, h3⟩, st⟩
  · dsimp only [Pt.U, Pt.locs, Pt.cells, Pt.slots] at X' e1 e2 h1 h2 h3 st
    subst h1; subst h2; subst h3
    exact Or.inl ⟨v, (T.setVm vm₁).calling g' mk (Value.ref b :: As).toArray, t, U', L, hT, X', hL, e1, e2, hq, st⟩
  · dsimp only [Pt.U, Pt.locs, Pt.cells, Pt.slots] at X' e1 e2 h1 h2 h3 st hcl
    subst h1; subst h2; subst h3
    exact Or.inr ⟨q, (T.setVm vm₁).calling g' mk (Value.ref b :: As).toArray, t, U', L, E, ce, hT, X', hL, e1, e2, hq, hce, hcv, vx_cls hW₁ hcl, st⟩
theorem vx_runS (S : CallFix p m c cc nL s args Ts own) (hM : vx_Met l y ws rm Pc Qc XC mc ms free) (cw : CallB R s args own index y bytes maxL ret ws rm mc ms n ∧ (Cond.static y).before args s = true) (hp : PreS s H Pc As)
    (hg : g.method = m) (hn : As.length = n) (hsize : g.locals.size = nL) (hstack : g.stack = As.reverse ++ rest) (hW : 2 * g.monitorRoom + (rest.map fun v => v.category).sum ≤ 8) (hdg : decode cc g.pc = .ok (.invokestatic index, 3)) (hf : cells + mc ≤ R.cells ∧ slots + ms ≤ R.slots) :
    vx_Run p l e R s m args below meth c H locs cells slots mc ms g rest (Qc As.toArray) XC free := by
  have hK : vx_Back l R p e below s args y 3 8 (PreOf R mc ms Pc) (PostOf Qc mc ms free) (vx_Post XC mc ms free) := vx_callBack cw.1 hM hp.1
  obtain ⟨⟨-, -, -, -, -, -, hcode, hini, hy, hlen, hl⟩, hstt⟩ := cw
  obtain ⟨hx, hb, hml, ho, -⟩ := S
  intro T hT X
  rcases vx_callS X hx (bytes := bytes) (maxL := maxL) (ret := ret) ho hl hstt hini hcode hy hK hg (hsize.trans hml.symm) (argsL := As) (rest := rest) (fun sig h => hn.trans (hlen sig h)) hstack hW (by rw [hb]; exact hdg)
    (fun vm₁ hW₁ => ⟨hf.1, hf.2, hp.2 (T.setVm vm₁) hT hW₁⟩) with ⟨v, vm₁, ⟨U', l2, c2, s2⟩, hW₁, X', ⟨g', mk, t, L, e1, e2, hq, h1, hL, h2, h3⟩, st⟩ | ⟨q, vm₁, ⟨U', l2, c2, s2⟩, hW₁, X', ⟨g', mk, t, L, E, ce, e1, e2, hq, hce, hcv, hcl, h1, hL, h2, h3⟩, st⟩
  · dsimp only [Pt.U, Pt.locs, Pt.cells, Pt.slots] at X' e1 e2 h1 h2 h3 st
    subst h1; subst h2; subst h3
    exact Or.inl ⟨v, (T.setVm vm₁).calling g' mk As.toArray, t, U', L, hT, X', hL, e1, e2, hq, st⟩
  · dsimp only [Pt.U, Pt.locs, Pt.cells, Pt.slots] at X' e1 e2 h1 h2 h3 st hcl
    subst h1; subst h2; subst h3
    exact Or.inr ⟨q, (T.setVm vm₁).calling g' mk As.toArray, t, U', L, E, ce, hT, X', hL, e1, e2, hq, hce, hcv, vx_cls hW₁ hcl, st⟩
end Runs
section Rows
variable {p : Program} {l : Launch} {e : Env} {R : Room} {s : State} {m : MethodId} {args : Array Value} {below : List Frame} {meth : Method} {c : Code} {H : Heap} {locs : List Loc} {cells slots : Nat} {Q : State → Prop}
variable {mc ms : Nat} {free : Addr → Prop} {A0 A1 : Nat → Prop} {H0 : Heap} {a : Array Value} {pc : Nat} {ls : Array Slot} {st0 rest : List Value}
theorem vx_keep {st₀ t T' : State} {L : List Loc} (h0 : st₀.heap = H) (e1 : T'.heap = t.heap) (hS : va_S A0 H0 H locs) (hA : ∀ q, q < H.size → A1 q → A0 q) (hf : ∀ q, free q → A0 q) (hL : ∀ q ∈ L, free q.base) (hF : va_F A1 st₀ t) :
    H.size ≤ T'.heap.size ∧ (∀ q : Nat, q < H.size → ¬ A1 q → T'.heap[q]? = H[q]?) ∧ va_S A0 H0 T'.heap (locs ++ L) := by
  obtain ⟨hz, hk⟩ := hF
  rw [h0] at hz hk
  exact ⟨by rw [e1]; exact hz, fun q h1 h2 => by rw [e1]; exact hk q h1 h2,
    ⟨Nat.le_trans hS.1 (by rw [e1]; exact hz), fun q h1 h2 => by rw [e1, hk q (Nat.lt_of_lt_of_le h1 hS.1) (fun z => h2 (hA q (Nat.lt_of_lt_of_le h1 hS.1) z))]; exact hS.2.1 q h1 h2, fun q hq => by
      rcases List.mem_append.mp hq with h | h
      · exact hS.2.2 q h
      · exact hf _ (hL q h)⟩⟩
theorem vx_calli {S SX : Type} {post : Int32 → S → Prop} {px : SX → Prop} {B : S → State → Prop} {BX : String → SX → State → Prop} {AX : Nat → Prop} (hr : vx_Run p l e R s m args below meth c H locs cells slots mc ms (F0 m pc ls st0) rest (va_Qi post B A1 a) (vx_X px BX AX) free) (hS : va_S A0 H0 H locs) (hA : ∀ q, q < H.size → A1 q → A0 q) (hf : ∀ q, free q → A0 q) (hAX : ∀ q, q < H.size → AX q → A0 q)
    (kx : ∀ (E : String) (ce : Cell) (q9 : Addr) (u : SX) (t : State) (H1 : Heap) (locs1 : List Loc), t.heap = H1 → s.vm.Alike t.vm → px u → BX E u t → H.size ≤ H1.size → (∀ q : Nat, q < H.size → ¬ AX q → H1[q]? = H[q]?) → va_S A0 H0 H1 locs1 → H1[q9]? = some ce → ce.vm = .none → s.vm.findClass E = some ce.cls → vx_W p l e R s m args below meth c H1 locs1 (cells + mc) (slots + ms) Q (F0 m pc ls rest) q9)
    (kk : ∀ (r : Int32) (u : S) (t : State) (H1 : Heap) (locs1 : List Loc), t.heap = H1 → s.vm.Alike t.vm → post r u → B u t → H.size ≤ H1.size → (∀ q : Nat, q < H.size → ¬ A1 q → H1[q]? = H[q]?) → va_S A0 H0 H1 locs1 → W p l e R s m args below meth c H1 locs1 (cells + mc) (slots + ms) Q (F0 m (pc + 3) ls (.int r :: rest))) : W p l e R s m args below meth c H locs cells slots Q (F0 m pc ls st0) := by
  intro T hT X
  rcases hr T hT X with ⟨v, st₀, t, T', L, h0, X', hL, e1, e2, ⟨⟨r, u, hv, hp, hb⟩, hF⟩, st⟩ | ⟨q, st₀, t, T', L, E, ce, h0, X', hL, e1, e2, ⟨u, hp, hb, hF⟩, hce, hcv, hcl, st⟩
  · cases hv
    obtain ⟨k1, k2, k3⟩ := vx_keep h0 e1 hS hA hf hL hF
    obtain ⟨t2, a1, b1⟩ := kk r u t T'.heap (locs ++ L) e1.symm (by rw [← e2]; exact X'.warmed.alike) hp hb k1 k2 k3 T' rfl X'
    exact ⟨t2, st t2 a1, b1⟩
  · obtain ⟨k1, k2, k3⟩ := vx_keep h0 e1 hS hAX hf hL hF
    obtain ⟨t2, a1, b1⟩ := kx E ce q u t T'.heap (locs ++ L) e1.symm (by rw [← e2]; exact X'.warmed.alike) hp hb k1 k2 k3 (by rw [e1]; exact hce) hcv hcl T' rfl X'
    exact ⟨t2, st.trans a1, b1⟩
theorem vx_calll {S SX : Type} {post : Int64 → S → Prop} {px : SX → Prop} {B : S → State → Prop} {BX : String → SX → State → Prop} {AX : Nat → Prop} (hr : vx_Run p l e R s m args below meth c H locs cells slots mc ms (F0 m pc ls st0) rest (va_Ql post B A1 a) (vx_X px BX AX) free) (hS : va_S A0 H0 H locs) (hA : ∀ q, q < H.size → A1 q → A0 q) (hf : ∀ q, free q → A0 q) (hAX : ∀ q, q < H.size → AX q → A0 q)
    (kx : ∀ (E : String) (ce : Cell) (q9 : Addr) (u : SX) (t : State) (H1 : Heap) (locs1 : List Loc), t.heap = H1 → s.vm.Alike t.vm → px u → BX E u t → H.size ≤ H1.size → (∀ q : Nat, q < H.size → ¬ AX q → H1[q]? = H[q]?) → va_S A0 H0 H1 locs1 → H1[q9]? = some ce → ce.vm = .none → s.vm.findClass E = some ce.cls → vx_W p l e R s m args below meth c H1 locs1 (cells + mc) (slots + ms) Q (F0 m pc ls rest) q9)
    (kk : ∀ (r : Int64) (u : S) (t : State) (H1 : Heap) (locs1 : List Loc), t.heap = H1 → s.vm.Alike t.vm → post r u → B u t → H.size ≤ H1.size → (∀ q : Nat, q < H.size → ¬ A1 q → H1[q]? = H[q]?) → va_S A0 H0 H1 locs1 → W p l e R s m args below meth c H1 locs1 (cells + mc) (slots + ms) Q (F0 m (pc + 3) ls (.long r :: rest))) : W p l e R s m args below meth c H locs cells slots Q (F0 m pc ls st0) := by
  intro T hT X
  rcases hr T hT X with ⟨v, st₀, t, T', L, h0, X', hL, e1, e2, ⟨⟨r, u, hv, hp, hb⟩, hF⟩, st⟩ | ⟨q, st₀, t, T', L, E, ce, h0, X', hL, e1, e2, ⟨u, hp, hb, hF⟩, hce, hcv, hcl, st⟩
  · cases hv
    obtain ⟨k1, k2, k3⟩ := vx_keep h0 e1 hS hA hf hL hF
    obtain ⟨t2, a1, b1⟩ := kk r u t T'.heap (locs ++ L) e1.symm (by rw [← e2]; exact X'.warmed.alike) hp hb k1 k2 k3 T' rfl X'
    exact ⟨t2, st t2 a1, b1⟩
  · obtain ⟨k1, k2, k3⟩ := vx_keep h0 e1 hS hAX hf hL hF
    obtain ⟨t2, a1, b1⟩ := kx E ce q u t T'.heap (locs ++ L) e1.symm (by rw [← e2]; exact X'.warmed.alike) hp hb k1 k2 k3 (by rw [e1]; exact hce) hcv hcl T' rfl X'
    exact ⟨t2, st.trans a1, b1⟩
theorem vx_callf {S SX : Type} {post : UInt32 → S → Prop} {px : SX → Prop} {B : S → State → Prop} {BX : String → SX → State → Prop} {AX : Nat → Prop} (hr : vx_Run p l e R s m args below meth c H locs cells slots mc ms (F0 m pc ls st0) rest (va_Qf post B A1 a) (vx_X px BX AX) free) (hS : va_S A0 H0 H locs) (hA : ∀ q, q < H.size → A1 q → A0 q) (hf : ∀ q, free q → A0 q) (hAX : ∀ q, q < H.size → AX q → A0 q)
    (kx : ∀ (E : String) (ce : Cell) (q9 : Addr) (u : SX) (t : State) (H1 : Heap) (locs1 : List Loc), t.heap = H1 → s.vm.Alike t.vm → px u → BX E u t → H.size ≤ H1.size → (∀ q : Nat, q < H.size → ¬ AX q → H1[q]? = H[q]?) → va_S A0 H0 H1 locs1 → H1[q9]? = some ce → ce.vm = .none → s.vm.findClass E = some ce.cls → vx_W p l e R s m args below meth c H1 locs1 (cells + mc) (slots + ms) Q (F0 m pc ls rest) q9)
    (kk : ∀ (r : UInt32) (u : S) (t : State) (H1 : Heap) (locs1 : List Loc), t.heap = H1 → s.vm.Alike t.vm → post r u → B u t → H.size ≤ H1.size → (∀ q : Nat, q < H.size → ¬ A1 q → H1[q]? = H[q]?) → va_S A0 H0 H1 locs1 → W p l e R s m args below meth c H1 locs1 (cells + mc) (slots + ms) Q (F0 m (pc + 3) ls (.float r :: rest))) : W p l e R s m args below meth c H locs cells slots Q (F0 m pc ls st0) := by
  intro T hT X
  rcases hr T hT X with ⟨v, st₀, t, T', L, h0, X', hL, e1, e2, ⟨⟨r, u, hv, hp, hb⟩, hF⟩, st⟩ | ⟨q, st₀, t, T', L, E, ce, h0, X', hL, e1, e2, ⟨u, hp, hb, hF⟩, hce, hcv, hcl, st⟩
  · cases hv
    obtain ⟨k1, k2, k3⟩ := vx_keep h0 e1 hS hA hf hL hF
    obtain ⟨t2, a1, b1⟩ := kk r u t T'.heap (locs ++ L) e1.symm (by rw [← e2]; exact X'.warmed.alike) hp hb k1 k2 k3 T' rfl X'
    exact ⟨t2, st t2 a1, b1⟩
  · obtain ⟨k1, k2, k3⟩ := vx_keep h0 e1 hS hAX hf hL hF
    obtain ⟨t2, a1, b1⟩ := kx E ce q u t T'.heap (locs ++ L) e1.symm (by rw [← e2]; exact X'.warmed.alike) hp hb k1 k2 k3 (by rw [e1]; exact hce) hcv hcl T' rfl X'
    exact ⟨t2, st.trans a1, b1⟩
theorem vx_calld {S SX : Type} {post : UInt64 → S → Prop} {px : SX → Prop} {B : S → State → Prop} {BX : String → SX → State → Prop} {AX : Nat → Prop} (hr : vx_Run p l e R s m args below meth c H locs cells slots mc ms (F0 m pc ls st0) rest (va_Qd post B A1 a) (vx_X px BX AX) free) (hS : va_S A0 H0 H locs) (hA : ∀ q, q < H.size → A1 q → A0 q) (hf : ∀ q, free q → A0 q) (hAX : ∀ q, q < H.size → AX q → A0 q)
    (kx : ∀ (E : String) (ce : Cell) (q9 : Addr) (u : SX) (t : State) (H1 : Heap) (locs1 : List Loc), t.heap = H1 → s.vm.Alike t.vm → px u → BX E u t → H.size ≤ H1.size → (∀ q : Nat, q < H.size → ¬ AX q → H1[q]? = H[q]?) → va_S A0 H0 H1 locs1 → H1[q9]? = some ce → ce.vm = .none → s.vm.findClass E = some ce.cls → vx_W p l e R s m args below meth c H1 locs1 (cells + mc) (slots + ms) Q (F0 m pc ls rest) q9)
    (kk : ∀ (r : UInt64) (u : S) (t : State) (H1 : Heap) (locs1 : List Loc), t.heap = H1 → s.vm.Alike t.vm → post r u → B u t → H.size ≤ H1.size → (∀ q : Nat, q < H.size → ¬ A1 q → H1[q]? = H[q]?) → va_S A0 H0 H1 locs1 → W p l e R s m args below meth c H1 locs1 (cells + mc) (slots + ms) Q (F0 m (pc + 3) ls (.double r :: rest))) : W p l e R s m args below meth c H locs cells slots Q (F0 m pc ls st0) := by
  intro T hT X
  rcases hr T hT X with ⟨v, st₀, t, T', L, h0, X', hL, e1, e2, ⟨⟨r, u, hv, hp, hb⟩, hF⟩, st⟩ | ⟨q, st₀, t, T', L, E, ce, h0, X', hL, e1, e2, ⟨u, hp, hb, hF⟩, hce, hcv, hcl, st⟩
  · cases hv
    obtain ⟨k1, k2, k3⟩ := vx_keep h0 e1 hS hA hf hL hF
    obtain ⟨t2, a1, b1⟩ := kk r u t T'.heap (locs ++ L) e1.symm (by rw [← e2]; exact X'.warmed.alike) hp hb k1 k2 k3 T' rfl X'
    exact ⟨t2, st t2 a1, b1⟩
  · obtain ⟨k1, k2, k3⟩ := vx_keep h0 e1 hS hAX hf hL hF
    obtain ⟨t2, a1, b1⟩ := kx E ce q u t T'.heap (locs ++ L) e1.symm (by rw [← e2]; exact X'.warmed.alike) hp hb k1 k2 k3 (by rw [e1]; exact hce) hcv hcl T' rfl X'
    exact ⟨t2, st.trans a1, b1⟩
theorem vx_callv {S SX : Type} {post : S → Prop} {px : SX → Prop} {B : S → State → Prop} {BX : String → SX → State → Prop} {AX : Nat → Prop} (hr : vx_Run p l e R s m args below meth c H locs cells slots mc ms (F0 m pc ls st0) rest (va_Qv post B A1 a) (vx_X px BX AX) free) (hS : va_S A0 H0 H locs) (hA : ∀ q, q < H.size → A1 q → A0 q) (hf : ∀ q, free q → A0 q) (hAX : ∀ q, q < H.size → AX q → A0 q)
    (kx : ∀ (E : String) (ce : Cell) (q9 : Addr) (u : SX) (t : State) (H1 : Heap) (locs1 : List Loc), t.heap = H1 → s.vm.Alike t.vm → px u → BX E u t → H.size ≤ H1.size → (∀ q : Nat, q < H.size → ¬ AX q → H1[q]? = H[q]?) → va_S A0 H0 H1 locs1 → H1[q9]? = some ce → ce.vm = .none → s.vm.findClass E = some ce.cls → vx_W p l e R s m args below meth c H1 locs1 (cells + mc) (slots + ms) Q (F0 m pc ls rest) q9)
    (kk : ∀ (u : S) (t : State) (H1 : Heap) (locs1 : List Loc), t.heap = H1 → s.vm.Alike t.vm → post u → B u t → H.size ≤ H1.size → (∀ q : Nat, q < H.size → ¬ A1 q → H1[q]? = H[q]?) → va_S A0 H0 H1 locs1 → W p l e R s m args below meth c H1 locs1 (cells + mc) (slots + ms) Q (F0 m (pc + 3) ls (rest))) : W p l e R s m args below meth c H locs cells slots Q (F0 m pc ls st0) := by
  intro T hT X
  rcases hr T hT X with ⟨v, st₀, t, T', L, h0, X', hL, e1, e2, ⟨⟨u, hv, hp, hb⟩, hF⟩, st⟩ | ⟨q, st₀, t, T', L, E, ce, h0, X', hL, e1, e2, ⟨u, hp, hb, hF⟩, hce, hcv, hcl, st⟩
  · cases hv
    obtain ⟨k1, k2, k3⟩ := vx_keep h0 e1 hS hA hf hL hF
    obtain ⟨t2, a1, b1⟩ := kk u t T'.heap (locs ++ L) e1.symm (by rw [← e2]; exact X'.warmed.alike) hp hb k1 k2 k3 T' rfl X'
    exact ⟨t2, st t2 a1, b1⟩
  · obtain ⟨k1, k2, k3⟩ := vx_keep h0 e1 hS hAX hf hL hF
    obtain ⟨t2, a1, b1⟩ := kx E ce q u t T'.heap (locs ++ L) e1.symm (by rw [← e2]; exact X'.warmed.alike) hp hb k1 k2 k3 (by rw [e1]; exact hce) hcv hcl T' rfl X'
    exact ⟨t2, st.trans a1, b1⟩
end Rows
section Ends
variable {p : Program} {l : Launch} {e : Env} {R : Room} {s : State} {m : MethodId} {args : Array Value} {below : List Frame} {meth : Method} {c : Code} {H : Heap} {locs : List Loc} {cells slots : Nat} {Q : State → Prop}
variable {mc ms : Nat} {free : Addr → Prop} {A0 A1 : Nat → Prop} {H0 : Heap} {a : Array Value} {ls : Array Slot} {st0 rest : List Value}
variable {Qc : Array Value → State → Outcome → State → Prop} {XC : String → State → State → Prop}
/-- what a body that may throw owes at its end -/
def vx_MQ (below : List Frame) (Qc : Array Value → State → Outcome → State → Prop) (XC : String → State → State → Prop) (a : Array Value) (s : State) (mc ms : Nat) (free : Addr → Prop) : State → Prop := fun t =>
  ∃ o, t.status = .running ∧ Ended t below o ∧ vx_Q Qc XC mc ms free a s o t
theorem vx_ret {g : JFrame} {mc ms : Nat} (k : W p l e R s m args below meth c H locs cells slots (MQ below Qc args s mc ms free) g) : W p l e R s m args below meth c H locs cells slots (vx_MQ below Qc XC args s mc ms free) g := by
  intro T hT X
  obtain ⟨t, a1, o, b1, b2, b3, b4⟩ := k T hT X
  exact ⟨t, a1, o, b1, b2, Or.inl ⟨b3, b4⟩⟩
/-- not caught here: it goes on to the caller -/
theorem vx_widen {g : JFrame} {q : Addr} {k n : Nat} (h1 : cells ≤ k) (h2 : slots ≤ n) (kk : vx_W p l e R s m args below meth c H locs k n Q g q) : vx_W p l e R s m args below meth c H locs cells slots Q g q := fun T hT X => kk T hT (stand_widen X h1 h2)
theorem vx_out {pc : Nat} {E : String} {ce : Cell} {q : Addr} {mc ms : Nat} (hout : ∀ x ∈ c.exceptionTable.toList, covers x pc = false) (hlocks : meth.locks = false) (hcell : H[q]? = some ce) (hv : ce.vm = .none) (hcl : s.vm.findClass E = some ce.cls)
    (hx : ∀ t : State, t.heap = H → s.vm.Alike t.vm → XC E s t) (hf : ∀ z ∈ locs, free z.base) (hc : cells ≤ mc) (hs : slots ≤ ms) :
    vx_W p l e R s m args below meth c H locs cells slots (vx_MQ below Qc XC args s mc ms free) (F0 m pc ls rest) q := by
  intro T hT X
  obtain ⟨st1, hrun, hend, hW, hsm⟩ := X.leaveThrown q (g := F0 m pc ls rest) rfl rfl rfl hout hlocks
  have hcell9 : (T.setFrames (.throwing q :: below)).heap[q]? = some ce := by
    show T.heap[q]? = some ce
    rw [hT]; exact hcell
  exact ⟨_, st1, .threw q, hrun, hend, Or.inr ⟨q, rfl, E, ce, locs, hx _ hT hW.alike, hcell9, hv, hcl, hW, hsm.mono hc hs, hf⟩⟩
theorem vx_frame {U : State} {k n : Nat} (h : s.sameButNew ({ U with vm := s.vm } : State) locs k n) : s.heap.size ≤ U.heap.size ∧ ∀ q : Nat, q < s.heap.size → (∀ z ∈ locs, z.base ≠ q) → U.heap[q]? = s.heap[q]? := by
  obtain ⟨-, h2, -, -, -, h6⟩ := h
  refine ⟨h2, fun q hq hz => ?_⟩
  obtain ⟨c9, e1, e2, e3, e4⟩ := h6 q _ (Array.getElem?_eq_getElem hq)
  have hs : c9.slots = (s.heap[q]).slots := Array.ext_getElem? fun i => e4 i fun hm => hz _ hm rfl
  have h9 : c9 = s.heap[q] := by
    rw [hs] at e2
    exact e2
  have e5 : U.heap[q]? = some c9 := e1
  rw [e5, h9, Array.getElem?_eq_getElem hq]
/-- the words of a throw but the four that speak of the heap -/
def vx_no (w : Cond) : Bool := decide (w ≠ .isRef (.static Bundle.tN "UNASSIGNED_STACK" Bundle.steD)) && decide (w ≠ .isRef (.static Bundle.tN "SUPPRESSED_SENTINEL" Bundle.listD)) && decide (w ≠ .laysStatic Bundle.tN "UNASSIGNED_STACK" Bundle.steD) && decide (w ≠ .laysStatic Bundle.tN "SUPPRESSED_SENTINEL" Bundle.listD)
def vx_at0 (own : String) (ic : Nat) (X : String) (names : List String) : List Cond := (Bundle.ownAtoms0 own ic X names).filter vx_no
def vx_atS (own : String) (ic : Nat) (X : String) (names : List String) : List Cond := (Bundle.ownAtoms own ic X names).filter vx_no
/-- a word that the tables alone decide, or a good one -/
def vx_ot (w : Cond) : Bool := w.onTables || goodWord w
theorem vx_ot_at {args a' : Array Value} {s U : State} {w : Cond} (hW : s.WarmedH U.vm) (hvm : s.vm = U.vm) (hg : vx_ot w = true) (h : w.before args s = true) : w.before a' U = true := by
  simp only [vx_ot, Bool.or_eq_true] at hg
  rcases hg with hg | hg
  · exact va_tabs hg hvm h
  · exact word_at hW (good_of_word hg) h
/-- a list's words: the good ones out of the method's own list, the others by premises of their own -/
theorem vx_hat {args : Array Value} {s : State} {L B : List Cond} (h1 : ∀ w ∈ L.filter goodWord, w.before args s = true) (h2 : ∀ w ∈ L.filter (fun w => !goodWord w), w ∈ B) (h3 : ∀ w ∈ B, w.before args s = true) : ∀ w ∈ L, w.before args s = true := by
  intro w hw
  by_cases g : goodWord w = true
  · exact h1 w (List.mem_filter.mpr ⟨hw, g⟩)
  · refine h3 w (h2 w (List.mem_filter.mpr ⟨hw, ?_⟩))
    show (!goodWord w) = true
    cases hgw : goodWord w
    · rfl
    · exact absurd hgw g
theorem vx_c {args : Array Value} {s : State} {w : Cond} {B : List Cond} (h : w.before args s = true) (t : ∀ w ∈ B, w.before args s = true) : ∀ w' ∈ w :: B, w'.before args s = true := fun w' h' => (List.mem_cons.mp h').elim (fun e => by rw [e]; exact h) (t w')
theorem vx_n {args : Array Value} {s : State} : ∀ w ∈ ([] : List Cond), w.before args s = true := fun _ h => nomatch h
theorem vx_own {args : Array Value} {s : State} {L : List Cond} (h1 : ∀ w ∈ L.filter vx_no, w.before args s = true)
    (hU : (Cond.isRef (.static Bundle.tN "UNASSIGNED_STACK" Bundle.steD)).before args s = true) (hN : (Cond.isRef (.static Bundle.tN "SUPPRESSED_SENTINEL" Bundle.listD)).before args s = true)
    (lU : (Cond.laysStatic Bundle.tN "UNASSIGNED_STACK" Bundle.steD).before args s = true) (lN : (Cond.laysStatic Bundle.tN "SUPPRESSED_SENTINEL" Bundle.listD).before args s = true) : ∀ w ∈ L, w.before args s = true := by
  intro w hw
  by_cases e1 : w = .isRef (.static Bundle.tN "UNASSIGNED_STACK" Bundle.steD)
  · rw [e1]; exact hU
  · by_cases e2 : w = .isRef (.static Bundle.tN "SUPPRESSED_SENTINEL" Bundle.listD)
    · rw [e2]; exact hN
    · by_cases e3 : w = .laysStatic Bundle.tN "UNASSIGNED_STACK" Bundle.steD
      · rw [e3]; exact lU
      · by_cases e4 : w = .laysStatic Bundle.tN "SUPPRESSED_SENTINEL" Bundle.listD
        · rw [e4]; exact lN
        · exact h1 w (List.mem_filter.mpr ⟨hw, by unfold vx_no; rw [decide_eq_true e1, decide_eq_true e2, decide_eq_true e3, decide_eq_true e4]; rfl⟩)
/-- where a static field lies, its class's statics cell in H -/
def vx_L (C n d : String) (A : Nat → Prop) (U : State) (H : Heap) : Prop := ∃ (c : ClassId) (k : Class) (i : Nat) (f : Field) (a : Nat) (cell : Cell), U.vm.findClass C = some c ∧ U.fieldFound? C n d = some (c, k, i, f) ∧ f.isStatic = true ∧ k.statics = some a ∧ H[a]? = some cell ∧ cell.vm.isStatics = true ∧ cell.cls = c ∧ f.slot < cell.slots.size ∧ k.staticTypes[f.slot]? = some f.type ∧ ¬ A a
theorem vx_L.moved {C n d : String} {A : Nat → Prop} {u U : State} {H : Heap} (hvm : u.vm.Alike U.vm) (h : vx_L C n d A u H) : vx_L C n d A U H := by
  obtain ⟨c, k, i, f, a, cell, h1, h2, h3, h4, h5, h6, h7, h8, h9, h10⟩ := h
  obtain ⟨k', hi', he⟩ := State.fieldFound?_setVm hvm h2
  exact ⟨c, k', i, f, a, cell, by rw [hvm.findClass]; exact h1, hi', h3, by rw [he]; exact h4, h5, h6, h7, h8, by rw [he]; exact h9, h10⟩
theorem vx_L.kept {C n d : String} {A : Nat → Prop} {U : State} {H H1 : Heap} (h : vx_L C n d A U H) (hq : ∀ a : Nat, a < H.size → ¬ A a → H1[a]? = H[a]?) : vx_L C n d A U H1 := by
  obtain ⟨c, k, i, f, a, cell, h1, h2, h3, h4, h5, h6, h7, h8, h9, h10⟩ := h
  exact ⟨c, k, i, f, a, cell, h1, h2, h3, h4, by rw [hq a (Array.getElem?_eq_some_iff.mp h5).1 h10]; exact h5, h6, h7, h8, h9, h10⟩
theorem vx_L.narrow {C n d : String} {A B : Nat → Prop} {U : State} {H : Heap} (h : vx_L C n d A U H) (hAB : ∀ q, B q → A q) : vx_L C n d B U H := by
  obtain ⟨c, k, i, f, a, cell, h1, h2, h3, h4, h5, h6, h7, h8, h9, h10⟩ := h
  exact ⟨c, k, i, f, a, cell, h1, h2, h3, h4, h5, h6, h7, h8, h9, fun z => h10 (hAB _ z)⟩
theorem vx_L.word {C n d : String} {A : Nat → Prop} {s : State} {args : Array Value} (h : vx_L C n d A s s.heap) : (Cond.laysStatic C n d).before args s = true := by
  obtain ⟨c, k, i, f, a, cell, h1, h2, h3, h4, h5, h6, h7, h8, h9, -⟩ := h
  show (Cond.laysStatic C n d).holds args s none s [] = true
  exact Cond.laysStatic_of h1 h2 h3 h4 h5 h6 h7 h8 h9
/-- .. and what it holds: null or some reference -/
def vx_Zq (C n d : String) (A : Nat → Prop) (U : State) (H : Heap) : Prop := va_Zq C n d A U H ∧ vx_L C n d A U H
theorem vx_Zq.moved {C n d : String} {A : Nat → Prop} {u U : State} {H : Heap} (hvm : u.vm.Alike U.vm) (h : vx_Zq C n d A u H) : vx_Zq C n d A U H := ⟨va_Zq.moved hvm h.1, vx_L.moved hvm h.2⟩
theorem vx_Zq.kept {C n d : String} {A : Nat → Prop} {U : State} {H H1 : Heap} (h : vx_Zq C n d A U H) (hq : ∀ a : Nat, a < H.size → ¬ A a → H1[a]? = H[a]?) : vx_Zq C n d A U H1 := ⟨va_Zq.kept h.1 hq, vx_L.kept h.2 hq⟩
theorem vx_Zq.narrow {C n d : String} {A B : Nat → Prop} {U : State} {H : Heap} (h : vx_Zq C n d A U H) (hAB : ∀ q, B q → A q) : vx_Zq C n d B U H := ⟨va_Zq.narrow h.1 hAB, vx_L.narrow h.2 hAB⟩
theorem vx_Zqof {args : Array Value} {s : State} {C n d : String} {A : Nat → Prop} (hl : (Cond.laysStatic C n d).before args s = true) (hini : (Cond.initialized C).before args s = true) (h : (Cond.isRef (.static C n d)).before args s = true) (hA : ∀ a : Nat, a < s.heap.size → ¬ A a) : vx_Zq C n d A s s.heap := by
  refine ⟨va_Zqof hl hini h hA, ?_⟩
  obtain ⟨c, k, i, f, a, cell, h1, h2, h3, h4, h5, h6, h7, h8, h9⟩ := Cond.laysStatic_spec hl
  exact ⟨c, k, i, f, a, cell, h1, h2, h3, h4, h5, h6, h7, h8, h9, hA a (Array.getElem?_eq_some_iff.mp h5).1⟩
theorem vx_isRef {C n d : String} {v : Value} {A : Nat → Prop} {s : State} {args : Array Value} (h : va_Z C n d v A s s.heap) (hv : v.isRef = true) : (Cond.isRef (.static C n d)).before args s = true := by
  obtain ⟨cf, kf, fi, f, a, cell, h1, h2, h3, h4, h5, h6, h7, -⟩ := h
  have he : (Term.static C n d).eval args s none [] s = some v := by
    simp [Term.eval, State.fieldNamed?, h1, h2, h4, h5, h6, h7]
  simp only [Cond.before, Cond.holds, Cond.value, he]
  cases v <;> simp_all [Value.isRef]
theorem vx_isRefq {C n d : String} {A : Nat → Prop} {s : State} {args : Array Value} (h : va_Zq C n d A s s.heap) : (Cond.isRef (.static C n d)).before args s = true := by
  rcases h with h | ⟨t, h⟩
  · exact vx_isRef h rfl
  · exact vx_isRef h rfl
/-- the same frame, seen from here: as if the method were called anew in this heap -/
theorem vx_rebase {T : State} (X : Stand p l e R s m args below meth c T locs cells slots) {R' : Room} (hf : R'.frames ≤ R.frames) (hl : R'.locals ≤ R.locals) (hc : cells + R'.cells ≤ R.cells) (hs : slots + R'.slots ≤ R.slots) :
    Stand p l e R' ((T.setVm s.vm).setFrames (.invoking m args :: below)) m args below meth c T [] 0 0 := by
  have htop : (T.setVm s.vm).topJava?.isSome := X.here.top
  have hF : ((T.setVm s.vm).setFrames (.invoking m args :: below)).frames = .invoking m args :: below := State.frames_setFrames _ (State.cur_lt_of_top htop)
  obtain ⟨g₀, hg0⟩ := Option.isSome_iff_exists.mp htop
  obtain ⟨r, hr⟩ := State.topJava?_eq_some.mp hg0
  have hl9 : e.platform.stackLimits (T.setVm s.vm).me = e.platform.stackLimits s.me := X.limits
  have hb9 : (T.setVm s.vm).me.stackBytes = s.me.stackBytes := X.bytes
  refine ⟨X.admits, X.cas, X.clock, hF, ?_, X.hears, X.method, X.code, X.here, X.tail, X.warmed, ?_, ?_, ?_⟩
  · have h := X.room
    have hU : ((T.setVm s.vm).setFrames (.invoking m args :: below)).localsInUse = s.localsInUse := by
      rw [State.localsInUse_invoking hF (meth := meth) (c := c) X.method X.code, State.localsInUse_invoking X.frames X.method X.code]
    simp only [State.hasRoom, Bool.and_eq_true, decide_eq_true_eq] at h ⊢
    obtain ⟨⟨⟨⟨h1, h2, h3, h4, h5, h6⟩, h7⟩, h8⟩, h9⟩ := h
    rw [X.frames, List.length_cons] at h2 h3
    have q1 := X.heapSize
    have q2 := X.used
    simp only [hF, hU, List.length_cons, State.stackLimits_setFrames, State.stackBytes_setFrames, hl9, hb9]
    refine ⟨⟨⟨⟨by omega, by omega, by omega, by omega, by omega, h6⟩, ?_⟩, ?_⟩, X.book⟩
    · show T.heap.size + R'.cells ≤ e.platform.maxCells
      omega
    · show T.slotsUsed + R'.slots ≤ e.platform.maxSlots
      omega
  · rw [State.stackLimits_setFrames]; rfl
  · rw [State.stackBytes_setFrames]; rfl
  · refine ⟨?_, Nat.le_refl _, Nat.le_refl _, ?_, ?_, fun a c9 h9 => ⟨c9, h9, rfl, rfl, fun _ _ => rfl⟩⟩
    · obtain ⟨t, ht, -⟩ := State.frames_cons hr
      show T.setVm s.vm = { ((T.setVm s.vm).setFrames (.invoking m args :: below)).setFrames (T.setVm s.vm).frames with heap := T.heap, slotsUsed := T.slotsUsed }
      rw [State.setFrames_setFrames, State.setFrames_self ht]
      rfl
    · show T.slotsUsed = T.slotsUsed + ((T.heap.toList.drop T.heap.size).map (·.slots.size)).sum
      rw [List.drop_eq_nil_of_le (Nat.le_of_eq Array.length_toList)]
      rfl
    · show ((T.heap.toList.drop T.heap.size).map (·.slots.size)).sum ≤ 0
      rw [List.drop_eq_nil_of_le (Nat.le_of_eq Array.length_toList)]
      exact Nat.le_refl _
/-- 'throw new E()': new; dup; invokespecial; athrow -/
theorem vx_throw0 {cc : ByteArray} {pc : Nat} (hexec : p.tables.exec = Jvm.exec) (hb : c.code = cc) (hl : l.stackTraces = false) {own cls : String} {names : List String} {ik ic mc ms : Nat} {A : Nat → Prop}
    (hown : s.vm.findClass own = some m.cls) (hcls : Bundle.fit cls = true) (hnames : ∀ n ∈ names, Bundle.fit n = true)
    (hk : (Cond.classLink own ik cls).before args s = true) (hini : (Cond.initialized cls).before args s = true) (hat : ∀ w ∈ vx_at0 own ic cls names, w.before args s = true)
    (hgood : ∀ w ∈ Cond.classLink own ik cls :: Cond.initialized cls :: vx_at0 own ic cls names, vx_ot w = true)
    (hU : vx_Zq Bundle.tN "UNASSIGNED_STACK" Bundle.steD A s s.heap) (hN : vx_Zq Bundle.tN "SUPPRESSED_SENTINEL" Bundle.listD A s s.heap) (hS : va_S A s.heap H locs) (hsize : ls.size = c.maxLocals)
    (d0 : decode cc pc = .ok (.new ik, 3)) (d3 : decode cc (pc + 3) = .ok (.dup, 1)) (d4 : decode cc (pc + 4) = .ok (.invokespecial ic, 3)) (d7 : decode cc (pc + 7) = .ok (.athrow, 1))
    (hout : ∀ x ∈ c.exceptionTable.toList, covers x (pc + 7) = false)
    (hRframes : names.length + 3 < R.frames) (hRlocals : (rest.map fun v => v.category).sum + (13 * (names.length + 1) + 42) ≤ R.locals) (hRcells : cells + 1 ≤ R.cells) (hRslots : slots + 6 ≤ R.slots) (hlocks : meth.locks = false)
    (hx : ∀ t : State, s.vm.Alike t.vm → H.size ≤ t.heap.size → (∀ q : Nat, q < H.size → t.heap[q]? = H[q]?) → XC cls s t)
    (hf : ∀ z ∈ locs, free z.base) (hc : cells + 1 ≤ mc) (hs : slots + 6 ≤ ms) :
    W p l e R s m args below meth c H locs cells slots (vx_MQ below Qc XC args s mc ms free) (F0 m pc ls rest) := by
  intro T hT X
  have htr : e.platform.stackTraces = false := (show e.platform.stackTraces = l.stackTraces by rw [X.admits.platform]).trans hl
  have Y := vx_rebase X (R' := { frames := R.frames, locals := R.locals, cells := 1, slots := 6 }) (Nat.le_refl _) (Nat.le_refl _) hRcells hRslots
  obtain ⟨s', hA⟩ : ∃ z, z = (T.setVm s.vm).setFrames (.invoking m args :: below) := ⟨_, rfl⟩
  rw [← hA] at Y
  have hvm : s'.vm = s.vm := by rw [hA]; rfl
  have hhp : s'.heap = H := by rw [hA]; exact hT
  have hW0 : s.WarmedH s'.vm := by rw [hvm]; exact State.WarmedH.refl s
  have hat' : ∀ w ∈ vx_at0 own ic cls names, w.before args s' = true := fun w hw => vx_ot_at hW0 hvm.symm (hgood w (List.mem_cons_of_mem _ (List.mem_cons_of_mem _ hw))) (hat w hw)
  have hk' : (Cond.classLink own ik cls).before args s' = true := vx_ot_at hW0 hvm.symm (hgood _ List.mem_cons_self) hk
  have hini' : (Cond.initialized cls).before args s' = true := vx_ot_at hW0 hvm.symm (hgood _ (List.mem_cons_of_mem _ List.mem_cons_self)) hini
  have hU' : vx_Zq Bundle.tN "UNASSIGNED_STACK" Bundle.steD A s' s'.heap := by rw [hhp]; exact vx_Zq.moved hW0.alike (hU.kept hS.2.1)
  have hN' : vx_Zq Bundle.tN "SUPPRESSED_SENTINEL" Bundle.listD A s' s'.heap := by rw [hhp]; exact vx_Zq.moved hW0.alike (hN.kept hS.2.1)
  have h : ∀ w ∈ Bundle.ownAtoms0 own ic cls names, w.before args s' = true := vx_own hat' (vx_isRefq hU'.1) (vx_isRefq hN'.1) hU'.2.word hN'.2.word
  have hown' : s'.vm.findClass own = some m.cls := by rw [hvm]; exact hown
  have hins : (Cond.instantiable cls 6).before args s' = true := h _ (by simp [Bundle.ownAtoms0])
  obtain ⟨vm₁, cX, kX, hfX, hkX, -, -, X₁, st1⟩ := Y.newCold hexec (own := own) (C := cls) (index := ik) (n := 6) hown' hk' hins hini'
    (g := F0 m pc ls rest) rfl (by rw [hb]; exact d0) (Nat.le_refl _) (Nat.le_refl _)
  generalize hT1 : (T.setVm vm₁).pushCell { cls := cX, slots := kX.instanceTypes.map defaultValue, vm := .none } = T1 at X₁ st1
  have hcat : (Value.ref T.heap.size).category = 1 := rfl
  have hcellA : T1.heap[T.heap.size]? = some (freshCell cX kX) := by rw [← hT1]; exact State.heap_pushCell_size _ _
  have d3' : decode c.code (pc + 3) = .ok (.dup, 1) := by rw [hb]; exact d3
  obtain ⟨U, hsteps, hrun, hend, hW, hsame, ce, hce, hO⟩ := X₁.ctorThrow0 hexec htr (own := own) (cls := cls) (names := names) (ic := ic) hown' hcls hnames h (fun x hx => nomatch hx) hfX hkX hcellA (by rw [hhp, hT]; exact Nat.le_refl _)
    (g := { method := m, pc := pc + 4, locals := ls, stack := .ref T.heap.size :: .ref T.heap.size :: rest, locked := none }) rfl hsize rfl rfl (rest := rest) rfl
    (by rw [hb]; exact d4) (by rw [hb]; exact d7) hout hRframes (by simp only [List.map_cons, List.sum_cons, hcat]; omega) hlocks
  obtain ⟨f1, f2⟩ := vx_frame hsame
  rw [hhp] at f1 f2
  have hWs : s.WarmedH U.vm := State.WarmedH.trans hW0 hW
  have hcl : s.vm.findClass cls = some ce.cls := by
    have h9 := hO.cls
    rw [hvm] at h9
    exact h9
  have hall : s.sameButNew ({ U with vm := s.vm } : State) locs mc ms := by
    subst hA
    obtain ⟨e1, e2⟩ := hsame
    rw [State.setFrames_setFrames] at e1
    have h2 : (T.setVm s.vm).sameButNew ({ U with vm := s.vm } : State) [] (0 + 1) (0 + 6) := ⟨e1, e2⟩
    have h3 := X.same.trans h2
    rw [List.append_nil] at h3
    exact h3.mono hc hs
  refine ⟨U, ?_, .threw T.heap.size, hrun, hend, Or.inr ⟨T.heap.size, rfl, cls, ce, locs, hx U hWs.alike f1 (fun q hq => f2 q hq (fun z hz => nomatch hz)), hce, hO.vm, hcl, hWs, hall, hf⟩⟩
  refine st1 _ ?_
  show Steps p.tables e below (T1.setTop { method := m, pc := pc + 3, locals := ls, stack := .ref T.heap.size :: rest, locked := none }) _
  jvm_step X₁.here [X₁.here.top, hexec, d3', Value.category]
  exact hsteps
/-- 'throw new E("text")': new; dup; ldc; invokespecial; athrow -/
theorem vx_throwS {cc : ByteArray} {pc : Nat} (hexec : p.tables.exec = Jvm.exec) (hb : c.code = cc) (hl : l.stackTraces = false) {own cls text : String} {names : List String} {ik is ic mc ms sa : Nat} {A : Nat → Prop}
    (hown : s.vm.findClass own = some m.cls) (hcls : Bundle.fit cls = true) (hnames : ∀ n ∈ names, Bundle.fit n = true)
    (hk : (Cond.classLink own ik cls).before args s = true) (hini : (Cond.initialized cls).before args s = true) (hstr : vk_R own is text sa s) (hat : ∀ w ∈ vx_atS own ic cls names, w.before args s = true)
    (hgood : ∀ w ∈ Cond.classLink own ik cls :: Cond.initialized cls :: vx_atS own ic cls names, vx_ot w = true)
    (hU : vx_Zq Bundle.tN "UNASSIGNED_STACK" Bundle.steD A s s.heap) (hN : vx_Zq Bundle.tN "SUPPRESSED_SENTINEL" Bundle.listD A s s.heap) (hS : va_S A s.heap H locs) (hsize : ls.size = c.maxLocals)
    (d0 : decode cc pc = .ok (.new ik, 3)) (d3 : decode cc (pc + 3) = .ok (.dup, 1)) (d4 : decode cc (pc + 4) = .ok (.ldc is, 2)) (d6 : decode cc (pc + 6) = .ok (.invokespecial ic, 3)) (d9 : decode cc (pc + 9) = .ok (.athrow, 1))
    (hout : ∀ x ∈ c.exceptionTable.toList, covers x (pc + 9) = false)
    (hRframes : names.length + 3 < R.frames) (hRlocals : (rest.map fun v => v.category).sum + (13 * (names.length + 1) + 43) ≤ R.locals) (hRcells : cells + 1 ≤ R.cells) (hRslots : slots + 6 ≤ R.slots) (hlocks : meth.locks = false)
    (hx : ∀ t : State, s.vm.Alike t.vm → H.size ≤ t.heap.size → (∀ q : Nat, q < H.size → t.heap[q]? = H[q]?) → XC cls s t)
    (hf : ∀ z ∈ locs, free z.base) (hc : cells + 1 ≤ mc) (hs : slots + 6 ≤ ms) :
    W p l e R s m args below meth c H locs cells slots (vx_MQ below Qc XC args s mc ms free) (F0 m pc ls rest) := by
  intro T hT X
  have htr : e.platform.stackTraces = false := (show e.platform.stackTraces = l.stackTraces by rw [X.admits.platform]).trans hl
  have Y := vx_rebase X (R' := { frames := R.frames, locals := R.locals, cells := 1, slots := 6 }) (Nat.le_refl _) (Nat.le_refl _) hRcells hRslots
  obtain ⟨s', hA⟩ : ∃ z, z = (T.setVm s.vm).setFrames (.invoking m args :: below) := ⟨_, rfl⟩
  rw [← hA] at Y
  have hvm : s'.vm = s.vm := by rw [hA]; rfl
  have hhp : s'.heap = H := by rw [hA]; exact hT
  have hW0 : s.WarmedH s'.vm := by rw [hvm]; exact State.WarmedH.refl s
  have hat' : ∀ w ∈ vx_atS own ic cls names, w.before args s' = true := fun w hw => vx_ot_at hW0 hvm.symm (hgood w (List.mem_cons_of_mem _ (List.mem_cons_of_mem _ hw))) (hat w hw)
  have hk' : (Cond.classLink own ik cls).before args s' = true := vx_ot_at hW0 hvm.symm (hgood _ List.mem_cons_self) hk
  have hini' : (Cond.initialized cls).before args s' = true := vx_ot_at hW0 hvm.symm (hgood _ (List.mem_cons_of_mem _ List.mem_cons_self)) hini
  have hU' : vx_Zq Bundle.tN "UNASSIGNED_STACK" Bundle.steD A s' s'.heap := by rw [hhp]; exact vx_Zq.moved hW0.alike (hU.kept hS.2.1)
  have hN' : vx_Zq Bundle.tN "SUPPRESSED_SENTINEL" Bundle.listD A s' s'.heap := by rw [hhp]; exact vx_Zq.moved hW0.alike (hN.kept hS.2.1)
  have h : ∀ w ∈ Bundle.ownAtoms own ic cls names, w.before args s' = true := vx_own hat' (vx_isRefq hU'.1) (vx_isRefq hN'.1) hU'.2.word hN'.2.word
  have hown' : s'.vm.findClass own = some m.cls := by rw [hvm]; exact hown
  have hins : (Cond.instantiable cls 6).before args s' = true := h _ (by simp [Bundle.ownAtoms])
  obtain ⟨vm₁, cX, kX, hfX, hkX, -, -, X₁, st1⟩ := Y.newCold hexec (own := own) (C := cls) (index := ik) (n := 6) hown' hk' hins hini'
    (g := F0 m pc ls rest) rfl (by rw [hb]; exact d0) (Nat.le_refl _) (Nat.le_refl _)
  generalize hT1 : (T.setVm vm₁).pushCell { cls := cX, slots := kX.instanceTypes.map defaultValue, vm := .none } = T1 at X₁ st1
  have hcat : (Value.ref T.heap.size).category = 1 := rfl
  have hcellA : T1.heap[T.heap.size]? = some (freshCell cX kX) := by rw [← hT1]; exact State.heap_pushCell_size _ _
  have d3' : decode c.code (pc + 3) = .ok (.dup, 1) := by rw [hb]; exact d3
  have d4' : decode c.code (pc + 4) = .ok (.ldc is, 2) := by rw [hb]; exact d4
  have hstr' : vk_R own is text sa s' := vk_R.warm hW0 hstr
  obtain ⟨U, hsteps, hrun, hend, hW, hsame, ce, hce, hO⟩ := X₁.ctorThrowS hexec htr (own := own) (cls := cls) (names := names) (ic := ic) hown' hcls hnames h (fun x hx => nomatch hx) hfX hkX hcellA (by rw [hhp, hT]; exact Nat.le_refl _) (msg := .ref sa) rfl
    (g := { method := m, pc := pc + 6, locals := ls, stack := .ref sa :: .ref T.heap.size :: .ref T.heap.size :: rest, locked := none }) rfl hsize rfl rfl (rest := rest) rfl
    (by rw [hb]; exact d6) (by rw [hb]; exact d9) hout hRframes (by simp only [List.map_cons, List.sum_cons, hcat]; omega) hlocks
  obtain ⟨f1, f2⟩ := vx_frame hsame
  rw [hhp] at f1 f2
  have hWs : s.WarmedH U.vm := State.WarmedH.trans hW0 hW
  have hcl : s.vm.findClass cls = some ce.cls := by
    have h9 := hO.cls
    rw [hvm] at h9
    exact h9
  have hall : s.sameButNew ({ U with vm := s.vm } : State) locs mc ms := by
    subst hA
    obtain ⟨e1, e2⟩ := hsame
    rw [State.setFrames_setFrames] at e1
    have h2 : (T.setVm s.vm).sameButNew ({ U with vm := s.vm } : State) [] (0 + 1) (0 + 6) := ⟨e1, e2⟩
    have h3 := X.same.trans h2
    rw [List.append_nil] at h3
    exact h3.mono hc hs
  refine ⟨U, ?_, .threw T.heap.size, hrun, hend, Or.inr ⟨T.heap.size, rfl, cls, ce, locs, hx U hWs.alike f1 (fun q hq => f2 q hq (fun z hz => nomatch hz)), hce, hO.vm, hcl, hWs, hall, hf⟩⟩
  refine st1 _ ?_
  show Steps p.tables e below (T1.setTop { method := m, pc := pc + 3, locals := ls, stack := .ref T.heap.size :: rest, locked := none }) _
  jvm_step X₁.here [X₁.here.top, hexec, d3', Value.category]
  exact X₁.ldcString hexec (own := own) (text := text) (index := is) (a := sa) hown' hstr'.1 hstr'.2
    (g := { method := m, pc := pc + 4, locals := ls, stack := .ref T.heap.size :: .ref T.heap.size :: rest, locked := none }) rfl d4' _ hsteps
/-- 'throw new E("text")', the text by a wide index -/
theorem vx_throwSW {cc : ByteArray} {pc : Nat} (hexec : p.tables.exec = Jvm.exec) (hb : c.code = cc) (hl : l.stackTraces = false) {own cls text : String} {names : List String} {ik is ic mc ms sa : Nat} {A : Nat → Prop}
    (hown : s.vm.findClass own = some m.cls) (hcls : Bundle.fit cls = true) (hnames : ∀ n ∈ names, Bundle.fit n = true)
    (hk : (Cond.classLink own ik cls).before args s = true) (hini : (Cond.initialized cls).before args s = true) (hstr : vk_R own is text sa s) (hat : ∀ w ∈ vx_atS own ic cls names, w.before args s = true)
    (hgood : ∀ w ∈ Cond.classLink own ik cls :: Cond.initialized cls :: vx_atS own ic cls names, vx_ot w = true)
    (hU : vx_Zq Bundle.tN "UNASSIGNED_STACK" Bundle.steD A s s.heap) (hN : vx_Zq Bundle.tN "SUPPRESSED_SENTINEL" Bundle.listD A s s.heap) (hS : va_S A s.heap H locs) (hsize : ls.size = c.maxLocals)
    (d0 : decode cc pc = .ok (.new ik, 3)) (d3 : decode cc (pc + 3) = .ok (.dup, 1)) (d4 : decode cc (pc + 4) = .ok (.ldc_w is, 3)) (d7 : decode cc (pc + 7) = .ok (.invokespecial ic, 3)) (d10 : decode cc (pc + 10) = .ok (.athrow, 1))
    (hout : ∀ x ∈ c.exceptionTable.toList, covers x (pc + 10) = false)
    (hRframes : names.length + 3 < R.frames) (hRlocals : (rest.map fun v => v.category).sum + (13 * (names.length + 1) + 43) ≤ R.locals) (hRcells : cells + 1 ≤ R.cells) (hRslots : slots + 6 ≤ R.slots) (hlocks : meth.locks = false)
    (hx : ∀ t : State, s.vm.Alike t.vm → H.size ≤ t.heap.size → (∀ q : Nat, q < H.size → t.heap[q]? = H[q]?) → XC cls s t)
    (hf : ∀ z ∈ locs, free z.base) (hc : cells + 1 ≤ mc) (hs : slots + 6 ≤ ms) :
    W p l e R s m args below meth c H locs cells slots (vx_MQ below Qc XC args s mc ms free) (F0 m pc ls rest) := by
  intro T hT X
  have htr : e.platform.stackTraces = false := (show e.platform.stackTraces = l.stackTraces by rw [X.admits.platform]).trans hl
  have Y := vx_rebase X (R' := { frames := R.frames, locals := R.locals, cells := 1, slots := 6 }) (Nat.le_refl _) (Nat.le_refl _) hRcells hRslots
  obtain ⟨s', hA⟩ : ∃ z, z = (T.setVm s.vm).setFrames (.invoking m args :: below) := ⟨_, rfl⟩
  rw [← hA] at Y
  have hvm : s'.vm = s.vm := by rw [hA]; rfl
  have hhp : s'.heap = H := by rw [hA]; exact hT
  have hW0 : s.WarmedH s'.vm := by rw [hvm]; exact State.WarmedH.refl s
  have hat' : ∀ w ∈ vx_atS own ic cls names, w.before args s' = true := fun w hw => vx_ot_at hW0 hvm.symm (hgood w (List.mem_cons_of_mem _ (List.mem_cons_of_mem _ hw))) (hat w hw)
  have hk' : (Cond.classLink own ik cls).before args s' = true := vx_ot_at hW0 hvm.symm (hgood _ List.mem_cons_self) hk
  have hini' : (Cond.initialized cls).before args s' = true := vx_ot_at hW0 hvm.symm (hgood _ (List.mem_cons_of_mem _ List.mem_cons_self)) hini
  have hU' : vx_Zq Bundle.tN "UNASSIGNED_STACK" Bundle.steD A s' s'.heap := by rw [hhp]; exact vx_Zq.moved hW0.alike (hU.kept hS.2.1)
  have hN' : vx_Zq Bundle.tN "SUPPRESSED_SENTINEL" Bundle.listD A s' s'.heap := by rw [hhp]; exact vx_Zq.moved hW0.alike (hN.kept hS.2.1)
  have h : ∀ w ∈ Bundle.ownAtoms own ic cls names, w.before args s' = true := vx_own hat' (vx_isRefq hU'.1) (vx_isRefq hN'.1) hU'.2.word hN'.2.word
  have hown' : s'.vm.findClass own = some m.cls := by rw [hvm]; exact hown
  have hins : (Cond.instantiable cls 6).before args s' = true := h _ (by simp [Bundle.ownAtoms])
  obtain ⟨vm₁, cX, kX, hfX, hkX, -, -, X₁, st1⟩ := Y.newCold hexec (own := own) (C := cls) (index := ik) (n := 6) hown' hk' hins hini'
    (g := F0 m pc ls rest) rfl (by rw [hb]; exact d0) (Nat.le_refl _) (Nat.le_refl _)
  generalize hT1 : (T.setVm vm₁).pushCell { cls := cX, slots := kX.instanceTypes.map defaultValue, vm := .none } = T1 at X₁ st1
  have hcat : (Value.ref T.heap.size).category = 1 := rfl
  have hcellA : T1.heap[T.heap.size]? = some (freshCell cX kX) := by rw [← hT1]; exact State.heap_pushCell_size _ _
  have d3' : decode c.code (pc + 3) = .ok (.dup, 1) := by rw [hb]; exact d3
  have d4' : decode c.code (pc + 4) = .ok (.ldc_w is, 3) := by rw [hb]; exact d4
  have hstr' : vk_R own is text sa s' := vk_R.warm hW0 hstr
  obtain ⟨U, hsteps, hrun, hend, hW, hsame, ce, hce, hO⟩ := X₁.ctorThrowS hexec htr (own := own) (cls := cls) (names := names) (ic := ic) hown' hcls hnames h (fun x hx => nomatch hx) hfX hkX hcellA (by rw [hhp, hT]; exact Nat.le_refl _) (msg := .ref sa) rfl
    (g := { method := m, pc := pc + 7, locals := ls, stack := .ref sa :: .ref T.heap.size :: .ref T.heap.size :: rest, locked := none }) rfl hsize rfl rfl (rest := rest) rfl
    (by rw [hb]; exact d7) (by rw [hb]; exact d10) hout hRframes (by simp only [List.map_cons, List.sum_cons, hcat]; omega) hlocks
  obtain ⟨f1, f2⟩ := vx_frame hsame
  rw [hhp] at f1 f2
  have hWs : s.WarmedH U.vm := State.WarmedH.trans hW0 hW
  have hcl : s.vm.findClass cls = some ce.cls := by
    have h9 := hO.cls
    rw [hvm] at h9
    exact h9
  have hall : s.sameButNew ({ U with vm := s.vm } : State) locs mc ms := by
    subst hA
    obtain ⟨e1, e2⟩ := hsame
    rw [State.setFrames_setFrames] at e1
    have h2 : (T.setVm s.vm).sameButNew ({ U with vm := s.vm } : State) [] (0 + 1) (0 + 6) := ⟨e1, e2⟩
    have h3 := X.same.trans h2
    rw [List.append_nil] at h3
    exact h3.mono hc hs
  refine ⟨U, ?_, .threw T.heap.size, hrun, hend, Or.inr ⟨T.heap.size, rfl, cls, ce, locs, hx U hWs.alike f1 (fun q hq => f2 q hq (fun z hz => nomatch hz)), hce, hO.vm, hcl, hWs, hall, hf⟩⟩
  refine st1 _ ?_
  show Steps p.tables e below (T1.setTop { method := m, pc := pc + 3, locals := ls, stack := .ref T.heap.size :: rest, locked := none }) _
  jvm_step X₁.here [X₁.here.top, hexec, d3', Value.category]
  exact X₁.ldcStringW hexec (own := own) (text := text) (index := is) (a := sa) hown' hstr'.1 hstr'.2
    (g := { method := m, pc := pc + 4, locals := ls, stack := .ref T.heap.size :: .ref T.heap.size :: rest, locked := none }) rfl d4' _ hsteps
end Ends
section Bodies
variable {l : Launch}
theorem vx_ofW {y : MethodName} {ws ws' : List Cond} {rm : Room} {Pc : Array Value → State → Prop} {Qc : Array Value → State → Outcome → State → Prop} {XC : String → State → State → Prop} {mc ms : Nat} {free : Addr → Prop} {cc : ByteArray} {maxL : Nat} {ret : Option FieldType}
    (hy : plainName y.cls = true) (hw : ws = Cond.code y cc maxL ret :: ws')
    (body : ∀ p e s m args below meth c s₁, BodyLoose p l y (headSpec ws rm) cc maxL ret e s m args below meth c s₁ → c.maxLocals = maxL → (∀ x ∈ c.exceptionTable.toList, False) → Pc args s →
      W p l e (headSpec ws rm).room s m args below meth c s.heap [] 0 0 (vx_MQ below Qc XC args s mc ms free) (entryFrame m args maxL)) : vx_Met l y ws rm Pc Qc XC mc ms free := by
  refine MetFree.of_bodyS (code := cc) (maxLocals := maxL) (ret := ret) hy ?_ ?_
  · intro args s m h hn
    obtain ⟨meth, c, h1, h2, h3, h4, h5, h6, -, -⟩ := Cond.code_spec hn (atoms_spec (ws := ws) h _ (by rw [hw]; exact List.mem_cons_self))
    exact ⟨meth, c, h1, h2, h3, h4, h5, h6⟩
  · intro p e s m args below meth c s₁ B hml hP _
    have hh0 : s₁.heap = s.heap := by rw [B.state]; rfl
    have ht : ∀ x ∈ c.exceptionTable.toList, False := by
      obtain ⟨meth9, c9, h1, h2, -, -, -, -, h7, -⟩ := Cond.code_spec B.named (atoms_spec (ws := ws) B.pre _ (by rw [hw]; exact List.mem_cons_self))
      cases Option.some.inj (h1.symm.trans B.method)
      cases Option.some.inj (h2.symm.trans (Stand.of_body B).code)
      intro x hx
      rw [Array.isEmpty_iff.mp h7] at hx
      cases hx
    obtain ⟨t, a1, o, b1, b2, b3⟩ := body p e s m args below meth c s₁ B hml ht hP s₁ hh0 (Stand.of_body B)
    exact ⟨t, o, a1, b1, b2, b3⟩
/-- the table of a body with handlers -/
theorem vx_table {p : Program} {x y : MethodName} {S : Spec} {cc bytes : ByteArray} {maxL maxL' : Nat} {ret ret' : Option FieldType} {e : Env} {s s₁ : State} {m : MethodId} {args : Array Value} {below : List Frame} {meth : Method} {c : Code} {hh : List (Nat × Nat × Nat × Nat)}
    (B : BodyLoose p l y S cc maxL ret e s m args below meth c s₁) (h : (Cond.codeWith y bytes maxL' ret' hh).before args s = true) : c.exceptionTable.toList = tableOf hh := by
  obtain ⟨m9, meth9, c9, hn9, h1, h2, -, -, h6, -⟩ := Cond.codeWith_spec h
  cases Option.some.inj (hn9.symm.trans B.named)
  cases Option.some.inj (h1.symm.trans B.method)
  cases Option.some.inj (h2.symm.trans (Stand.of_body B).code)
  rw [← h6, table_eq]
end Bodies
end VXA
/-! ===== END ===== -/
/-! ===== BEGIN a static call of a method with an exception table ===== -/
section VXS
variable {p : Program} {l : Launch} {e : Env} {R : Room} {s : State} {m : MethodId} {args : Array Value} {below : List Frame} {meth : Method} {c : Code} {T : State} {H : Heap} {locs : List Loc} {cells slots : Nat}
abbrev vx_CSW (R : Room) (s : State) (args : Array Value) (own : String) (index : Nat) (y : MethodName) (bytes : ByteArray) (maxL : Nat) (ret : Option FieldType) (hh : List (Nat × Nat × Nat × Nat)) (ws : List Cond) (rm : Room) (mc ms n : Nat) : Prop :=
  (rm.cells = mc ∧ rm.slots = ms ∧ rm.frames + 1 ≤ R.frames ∧ 8 + (maxL + 11) + rm.locals ≤ R.locals ∧ (∀ w ∈ ws, ∀ (a' : Array Value) (U : State), s.WarmedH U.vm → w.before a' U = true) ∧ Cond.codeWith y bytes maxL ret hh ∈ ws) ∧
  (Cond.codeWith y bytes maxL ret hh).before args s = true ∧ (Cond.initialized y.cls).before args s = true ∧ (y.cls ≠ "java/lang/invoke/MethodHandle" ∧ y.cls ≠ "java/lang/invoke/VarHandle") ∧
  (∀ sig, parseMethodDescriptor y.desc = some sig → n = sig.parameters.length) ∧ (Cond.methodLink own index y).before args s = true ∧ (Cond.static y).before args s = true
theorem vx_cwSW {own : String} {index maxL mc ms : Nat} {y : MethodName} {bytes : ByteArray} {ret : Option FieldType} {hh : List (Nat × Nat × Nat × Nat)} {Ts ws ws' : List Cond} {rm : Room} (n : Nat) (ht : ∀ w ∈ Ts, w.before args s = true) (hT : GoodIn Ts (va_wsS own index y ws)) (hw : ws = Cond.codeWith y bytes maxL ret hh :: ws') (hrc : rm.cells = mc) (hrs : rm.slots = ms)
    (hd : y.cls ≠ "java/lang/invoke/MethodHandle" ∧ y.cls ≠ "java/lang/invoke/VarHandle" ∧ (parseMethodDescriptor y.desc).map (fun d => d.parameters.length) = some n) (hR : rm.frames + 1 ≤ R.frames ∧ 8 + (maxL + 11) + rm.locals ≤ R.locals) :
    vx_CSW R s args own index y bytes maxL ret hh ws rm mc ms n := by
  have ok : ∀ w ∈ va_wsS own index y ws, w.before args s = true := fun w h => ht w (hT w h).1
  have hG : GoodIn Ts ws := fun w h => hT w (by unfold va_wsS; exact List.mem_append_right _ h)
  have hc : Cond.codeWith y bytes maxL ret hh ∈ ws := by rw [hw]; exact List.mem_cons_self
  refine ⟨⟨hrc, hrs, hR.1, hR.2, pay_in ht hG, hc⟩, ht _ (hG _ hc).1, ok _ (by simp [va_wsS]), ⟨hd.1, hd.2.1⟩, fun sig h => ?_, ok _ (by simp [va_wsS]), ok _ (by simp [va_wsS])⟩
  have h2 := hd.2.2
  rw [h] at h2
  exact (Option.some.inj h2).symm
theorem vx_callSW (X : Stand p l e R s m args below meth c T locs cells slots) (hexec : p.tables.exec = Jvm.exec) {own : String} {index : Nat} {y : MethodName} {bytes : ByteArray} {maxL : Nat} {ret : Option FieldType} {hh : List (Nat × Nat × Nat × Nat)}
    (hown : s.vm.findClass own = some m.cls) (hlink : (Cond.methodLink own index y).before args s = true) (hstat : (Cond.static y).before args s = true) (hinit : (Cond.initialized y.cls).before args s = true)
    (hcode : (Cond.codeWith y bytes maxL ret hh).before args s = true) (hy : y.cls ≠ "java/lang/invoke/MethodHandle" ∧ y.cls ≠ "java/lang/invoke/VarHandle")
    {W9 : Nat} {Pre : Pt → Array Value → Prop} {Post : Pt → Array Value → Option Value → Pt → Prop} (hK : Back l R p e below s args y 3 W9 Pre Post)
    {g : JFrame} (hg : g.method = m) (hsize : g.locals.size = c.maxLocals) {argsL rest : List Value} (hlen : ∀ sig, parseMethodDescriptor y.desc = some sig → argsL.length = sig.parameters.length)
    (hstack : g.stack = argsL.reverse ++ rest) (hW : 2 * g.monitorRoom + (rest.map fun v => v.category).sum ≤ W9) (hdg : decode c.code g.pc = .ok (.invokestatic index, 3))
    (hpre : ∀ vm₁, s.WarmedH vm₁ → Pre ⟨T.setVm vm₁, locs, cells, slots⟩ argsL.toArray) :
    ∃ (v : Option Value) (vm₁ : Vm) (B : Pt), s.WarmedH vm₁ ∧ Stand p l e R s m args below meth c B.U B.locs B.cells B.slots ∧ Post ⟨T.setVm vm₁, locs, cells, slots⟩ argsL.toArray v B ∧
      ∀ target, Steps p.tables e below (B.U.setTop { g with pc := g.pc + 3, stack := v.toList ++ rest }) target → Steps p.tables e below (T.setTop g) target := by
  obtain ⟨mk, methM, cM, hnamed, hmethM, -, -, -, -, -, -, hsigM⟩ := Cond.codeWith_spec hcode
  have hstatic : methM.isStatic = true := Cond.static_spec hnamed hmethM hstat
  obtain ⟨kP, hkP, -⟩ := className_of_methodNamed hnamed
  have hinitP : kP.init = .initialized := Cond.initialized_spec (findClass_of_methodNamed hnamed) hkP hinit
  obtain ⟨vm₁, X₁, hstep₁⟩ := X.invokestatic hexec hown hlink hnamed hmethM hstatic hkP hinitP hy (g := g) hg (argsL := argsL) (rest := rest) (hlen _ hsigM) hstack hdg
  obtain ⟨v, B, X', hpost, hsteps⟩ := hK m meth c ⟨T.setVm vm₁, locs, cells, slots⟩ { g with stack := rest } (.invokestatic index) mk argsL.toArray X₁ hg hsize hdg hW (X₁.named hnamed) (hpre vm₁ X₁.warmed)
  exact ⟨v, vm₁, B, X₁.warmed, X', hpost, fun target h => hstep₁ _ fun acts => by rw [doInvoke_state]; exact hsteps.trans h⟩
theorem vx_runSW {y : MethodName} {bytes cc : ByteArray} {maxL nL mc ms n index : Nat} {ret : Option FieldType} {hh : List (Nat × Nat × Nat × Nat)} {ws : List Cond} {rm : Room} {Pc : Array Value → State → Prop} {Qc : Array Value → State → Outcome → State → Prop} {free : Addr → Prop} {Ts : List Cond} {own : String} {As rest : List Value} {g : JFrame}
    (S : CallFix p m c cc nL s args Ts own) (hM : Met l y ws rm Pc Qc mc ms free) (cw : vx_CSW R s args own index y bytes maxL ret hh ws rm mc ms n) (hp : PreS s H Pc As)
    (hg : g.method = m) (hn : As.length = n) (hsize : g.locals.size = nL) (hstack : g.stack = As.reverse ++ rest) (hW : 2 * g.monitorRoom + (rest.map fun v => v.category).sum ≤ 8) (hdg : decode cc g.pc = .ok (.invokestatic index, 3)) (hf : cells + mc ≤ R.cells ∧ slots + ms ≤ R.slots) :
    va_Run p l e R s m args below meth c H locs cells slots mc ms g rest (Qc As.toArray) (free) := by
  obtain ⟨⟨hrc, hrs, hfr, hlo, hws, hcw⟩, hcode, hini, hy, hlen, hl, hstt⟩ := cw
  have hK : Back l R p e below s args y 3 8 (PreOf R mc ms Pc) (PostOf Qc mc ms free) := va_backW (hh := hh) (bytes := bytes) (maxL := maxL) (ret := ret) hM hp.1 hrc hrs hfr hlo hws hcw (fun a' U hW => word_at hW (Or.inl (by first | rfl | simp [Cond.onTables, Cond.keeps, Cond.steady])) hini)
  obtain ⟨hx, hb, hml, ho, -⟩ := S
  intro T hT X
  obtain ⟨v, vm₁, ⟨U', l2, c2, s2⟩, hW₁, X', ⟨g', mk, t, L, e1, e2, hq, h1, hL, h2, h3⟩, st⟩ := vx_callSW X hx (hh := hh) (bytes := bytes) (maxL := maxL) (ret := ret) ho hl hstt hini hcode hy hK hg (hsize.trans hml.symm) (argsL := As) (rest := rest) (fun sig h => hn.trans (hlen sig h)) hstack hW (by rw [hb]; exact hdg)
    (fun vm₁ hW₁ => ⟨hf.1, hf.2, hp.2 (T.setVm vm₁) hT hW₁⟩)
  dsimp only [Pt.U, Pt.locs, Pt.cells, Pt.slots] at X' e1 e2 h1 h2 h3 st
  subst h1; subst h2; subst h3
  exact ⟨v, (T.setVm vm₁).calling g' mk As.toArray, t, U', L, hT, X', hL, e1, e2, hq, st⟩
/-- a thing of a world lies in the heap -/
theorem vx_lt {D : va_G} {cl : List vw_C} {ws : va_W} {H1 : Heap} (h : va_P D cl ws H1) {k : Nat} {q : Nat × va_E} (hk : ws[k]? = some q) : q.1 < H1.size := (h k q hk).lt
end VXS
/-! ===== END ===== -/
/-! ===== BEGIN methods with a table of their own: called by a name, returning or throwing ===== -/
section VXH
/-! vx_backW, vx_callVX, vx_callSX, vx_callVW, vx_runVW, vx_runVX, vx_runSX, vx_ofWH follow the same proofs as their sisters above (Free/Laws.lean, Shelf42/LK1.lean); vx_outP calls Shelf42/NT130.lean (outThrough). -/
section
variable {l : Launch} {R : Room} {p : Program} {e : Env} {below : List Frame} {s : State} {sargs : Array Value} {y : MethodName} {len W9 : Nat}
theorem vx_backW {ws : List Cond} {rm : Room} {Pc : Array Value → State → Prop} {Qc : Array Value → State → Outcome → State → Prop} {XC : String → State → State → Prop} {mc ms : Nat} {free : Addr → Prop} {bytes : ByteArray} {maxL : Nat} {ret : Option FieldType} {hh : List (Nat × Nat × Nat × Nat)}
    (hM : vx_Met l y ws rm Pc Qc XC mc ms free) (hblind : FrameBlind Pc) (hrc : rm.cells = mc) (hrs : rm.slots = ms)
    (hframes : rm.frames + 1 ≤ R.frames) (hlocals : W9 + (maxL + 11) + rm.locals ≤ R.locals)
    (hws : ∀ w ∈ ws, ∀ a' U, s.WarmedH U.vm → w.before a' U = true) (hcode : Cond.codeWith y bytes maxL ret hh ∈ ws) (hinit : ∀ a' U, s.WarmedH U.vm → (Cond.initialized y.cls).before a' U = true) :
    vx_Back l R p e below s sargs y len W9 (PreOf R mc ms Pc) (PostOf Qc mc ms free) (vx_Post XC mc ms free) := by
  intro m meth c A g ig mk a X hg hsize hdg hW hn hp
  have h1 : (headSpec ws rm).pre.before a A.U = true := atoms_intro fun w hw => hws w hw _ _ X.warmed
  have h2 : (Cond.codeWith y bytes maxL ret hh).before a A.U = true := hws _ hcode _ _ X.warmed
  have h3 : (Cond.initialized y.cls).before a A.U = true := hinit _ _ X.warmed
  have h4 : A.cells + (headSpec ws rm).room.cells ≤ R.cells := by rw [show (headSpec ws rm).room.cells = mc from hrc]; exact hp.1
  have h5 : A.slots + (headSpec ws rm).room.slots ≤ R.slots := by rw [show (headSpec ws rm).room.slots = ms from hrs]; exact hp.2.1
  have hPc : Pc a (A.U.calling g mk a) := hblind _ _ _ _ hp.2.2
  obtain ⟨U, Ls, c0, s0⟩ := A
  dsimp only [Pt.U, Pt.locs, Pt.cells, Pt.slots] at h1 h2 h3 h4 h5 X hn hPc ⊢
  obtain ⟨m9, methY, cY, hn9, hmY, hcY, -, hlY, -⟩ := Cond.codeWith_spec h2
  cases Option.some.inj (hn9.symm.trans hn)
  obtain ⟨kY, hkY, -⟩ := className_of_methodNamed hn
  have hinitY : kY.init = .initialized := Cond.initialized_spec (findClass_of_methodNamed hn) hkY h3
  have h : At U g.method c below := by rw [hg]; exact X.here
  have hlocals9 : W9 + (maxL + 11) + (headSpec ws rm).room.locals ≤ R.locals := hlocals
  have happ : (headSpec ws rm).appliesLoose y e.platform (U.calling g mk a) = true :=
    Spec.appliesLoose_calling (g := g) h hdg hn hkY hinitY
      (X.room_calling (g := g) (R' := (headSpec ws rm).room) hsize hmY hcY hframes (by rw [hlY]; omega) h4 h5) h1
  obtain ⟨mid, hmid⟩ := h.above
  have hfr : (U.setTop g).frames = (.java g :: mid) ++ below := by rw [State.frames_setTop' g h.top, hmid]; rfl
  obtain ⟨o, s₂, hsteps, -, hend, hq⟩ := Steps.callFree hM p X.admits X.cas X.clock (acts := []) hfr happ hPc trivial
  have hq' : vx_Q Qc XC mc ms free a (U.calling g mk a) o s₂ := hq
  rw [State.frames_setTop' g h.top] at hend
  obtain ⟨g₀, hg0⟩ := Option.isSome_iff_exists.mp h.top
  obtain ⟨r, hr⟩ := State.topJava?_eq_some.mp hg0
  have hr' : (({ U with heap := s₂.heap, slotsUsed := s₂.slotsUsed } : State).setVm s₂.vm).frames = .java g₀ :: r := hr
  rcases hq' with ⟨hqc, L, hfe, hL⟩ | ⟨q, rfl, E, ce, L, hx, hce, hcv, hcl, hW₂, hsm, hL⟩
  · obtain ⟨⟨v, rfl⟩, hW₂, e2, q2, q3, q4, q5, q6⟩ := id hfe
    have e3 : s₂ = ({ (U.calling g mk a).setFrames s₂.frames with heap := s₂.heap, slotsUsed := s₂.slotsUsed } : State).setVm s₂.vm := by
      have : s₂ = ({ s₂ with vm := (U.calling g mk a).vm } : State).setVm s₂.vm := rfl
      rw [e2] at this
      exact this
    obtain ⟨c₂, i₂, len₂, hc₂, hd₂, hf₂⟩ := hend
    have hW' : U.WarmedH s₂.vm := hW₂
    have hcc : c₂ = c := by
      have h1 : s₂.code? g.method = U.code? g.method := by
        rw [State.code?_eq, State.code?_eq, hW'.alike.method?]
      exact Option.some.inj (hc₂.symm.trans (h1.trans h.code))
    subst hcc
    have hlen : len₂ = len := by rw [hdg] at hd₂; cases hd₂; rfl
    subst hlen
    have hs₂ : s₂ = (({ U with heap := s₂.heap, slotsUsed := s₂.slotsUsed } : State).setVm s₂.vm).setTop { g with pc := g.pc + len₂, stack := v.toList ++ g.stack } := by
      refine e3.trans ?_
      rw [hf₂, State.calling_eq h.top, State.setFrames_setFrames, State.setTop_of_frames _ hr', hr]
      rfl
    have hsame : U.sameButNew ({ U with heap := s₂.heap, slotsUsed := s₂.slotsUsed } : State) L mc ms := by
      refine ⟨?_, q2, q3, q4, q5, q6⟩
      obtain ⟨t, ht, -⟩ := State.frames_cons hr
      show ({ U with heap := s₂.heap, slotsUsed := s₂.slotsUsed } : State) = { U.setFrames U.frames with heap := s₂.heap, slotsUsed := s₂.slotsUsed }
      rw [State.setFrames_self ht]
    subst hg
    refine Or.inl ⟨v, ⟨(({ U with heap := s₂.heap, slotsUsed := s₂.slotsUsed } : State).setVm s₂.vm), Ls ++ L, c0 + mc, s0 + ms⟩,
      ⟨X.admits, X.cas, X.clock, X.frames, X.room, X.hears, X.method, X.code, (X.here.setHeapUsed s₂.heap s₂.slotsUsed).setVm hW'.alike, X.tail, State.WarmedH.trans X.warmed hW', X.limits, X.bytes, X.same.trans (hsame.setVm s.vm)⟩,
      ⟨g, mk, s₂, L, rfl, rfl, hqc, rfl, hL, rfl, rfl⟩, ?_⟩
    show Steps p.tables e below _ ((({ U with heap := s₂.heap, slotsUsed := s₂.slotsUsed } : State).setVm s₂.vm).setTop { g with pc := g.pc + len₂, stack := v.toList ++ g.stack })
    rw [← hs₂]
    exact hsteps
  · obtain ⟨e2, q2, q3, q4, q5, q6⟩ := id hsm
    have e3 : s₂ = ({ (U.calling g mk a).setFrames s₂.frames with heap := s₂.heap, slotsUsed := s₂.slotsUsed } : State).setVm s₂.vm := by
      have : s₂ = ({ s₂ with vm := (U.calling g mk a).vm } : State).setVm s₂.vm := rfl
      rw [e2] at this
      exact this
    have hf₂ : s₂.frames = .throwing q :: .java g :: U.frames.tail := hend
    have hW' : U.WarmedH s₂.vm := hW₂
    have hs₂ : s₂ = ((({ U with heap := s₂.heap, slotsUsed := s₂.slotsUsed } : State).setVm s₂.vm).setTop g).pushFrame (.throwing q) := by
      refine e3.trans ?_
      rw [hf₂, State.calling_eq h.top, State.setFrames_setFrames, State.pushFrame, State.frames_setTop _ hr', State.setTop_of_frames _ hr', State.setFrames_setFrames, hr]
      rfl
    have hsame : U.sameButNew ({ U with heap := s₂.heap, slotsUsed := s₂.slotsUsed } : State) L mc ms := by
      refine ⟨?_, q2, q3, q4, q5, q6⟩
      obtain ⟨t, ht, -⟩ := State.frames_cons hr
      show ({ U with heap := s₂.heap, slotsUsed := s₂.slotsUsed } : State) = { U.setFrames U.frames with heap := s₂.heap, slotsUsed := s₂.slotsUsed }
      rw [State.setFrames_self ht]
    subst hg
    refine Or.inr ⟨q, ⟨(({ U with heap := s₂.heap, slotsUsed := s₂.slotsUsed } : State).setVm s₂.vm), Ls ++ L, c0 + mc, s0 + ms⟩,
      ⟨X.admits, X.cas, X.clock, X.frames, X.room, X.hears, X.method, X.code, (X.here.setHeapUsed s₂.heap s₂.slotsUsed).setVm hW'.alike, X.tail, State.WarmedH.trans X.warmed hW', X.limits, X.bytes, X.same.trans (hsame.setVm s.vm)⟩,
      ⟨g, mk, s₂, L, E, ce, rfl, rfl, hx, hce, hcv, hcl, rfl, hL, rfl, rfl⟩, ?_⟩
    show Steps p.tables e below _ (((({ U with heap := s₂.heap, slotsUsed := s₂.slotsUsed } : State).setVm s₂.vm).setTop g).pushFrame (.throwing q))
    rw [← hs₂]
    exact hsteps
end
variable {p : Program} {l : Launch} {e : Env} {R : Room} {s : State} {m : MethodId} {args : Array Value} {below : List Frame} {meth : Method} {c : Code} {T : State} {H : Heap} {locs : List Loc} {cells slots : Nat}
theorem vx_callVX (X : Stand p l e R s m args below meth c T locs cells slots) (hexec : p.tables.exec = Jvm.exec) {own C : String} {index : Nat} {y : MethodName} {bytes : ByteArray} {maxL : Nat} {ret : Option FieldType} {hh : List (Nat × Nat × Nat × Nat)}
    (hown : s.vm.findClass own = some m.cls) (hlink : (Cond.methodLink own index y).before args s = true) (hinst : (Cond.instanceMethod y).before args s = true) (hsel : (Cond.selects C y y).before args s = true)
    (hcode : (Cond.codeWith y bytes maxL ret hh).before args s = true) (hy : y.cls ≠ "java/lang/invoke/MethodHandle" ∧ y.cls ≠ "java/lang/invoke/VarHandle")
    {W9 : Nat} {Pre : Pt → Array Value → Prop} {Post : Pt → Array Value → Option Value → Pt → Prop} {PostX : Pt → Array Value → Addr → Pt → Prop} (hK : vx_Back l R p e below s args y 3 W9 Pre Post PostX)
    {b : Addr} {cellB : Cell} (hcell : T.heap[b]? = some cellB) (hobj : cellB.vm.isStatics = false) (hcls : s.vm.findClass C = some cellB.cls)
    {g : JFrame} (hg : g.method = m) (hsize : g.locals.size = c.maxLocals) {argsL rest : List Value} (hlen : ∀ sig, parseMethodDescriptor y.desc = some sig → argsL.length = sig.parameters.length)
    (hstack : g.stack = argsL.reverse ++ .ref b :: rest) (hW : 2 * g.monitorRoom + (rest.map fun v => v.category).sum ≤ W9) (hdg : decode c.code g.pc = .ok (.invokevirtual index, 3))
    (hpre : ∀ vm₁, s.WarmedH vm₁ → Pre ⟨T.setVm vm₁, locs, cells, slots⟩ (Value.ref b :: argsL).toArray) :
    (∃ (v : Option Value) (vm₁ : Vm) (B : Pt), s.WarmedH vm₁ ∧ Stand p l e R s m args below meth c B.U B.locs B.cells B.slots ∧ Post ⟨T.setVm vm₁, locs, cells, slots⟩ (Value.ref b :: argsL).toArray v B ∧
      ∀ target, Steps p.tables e below (B.U.setTop { g with pc := g.pc + 3, stack := v.toList ++ rest }) target → Steps p.tables e below (T.setTop g) target) ∨
    (∃ (q : Addr) (vm₁ : Vm) (B : Pt), s.WarmedH vm₁ ∧ Stand p l e R s m args below meth c B.U B.locs B.cells B.slots ∧ PostX ⟨T.setVm vm₁, locs, cells, slots⟩ (Value.ref b :: argsL).toArray q B ∧
      Steps p.tables e below (T.setTop g) ((B.U.setTop { g with stack := rest }).pushFrame (.throwing q))) := by
  obtain ⟨mk, methM, hnamed, hmethM, hstM, habM⟩ := Cond.instanceMethod_spec hinst
  obtain ⟨m8, methM', cM, hn8, hmethM', -, -, -, -, -, -, hsigM⟩ := Cond.codeWith_spec hcode
  cases Option.some.inj (hn8.symm.trans hnamed)
  cases hmethM.symm.trans hmethM'
  obtain ⟨c2, r2, m2, q1, q2, q3, q4, kP, hkP, hkPi⟩ := Cond.selects_spec hsel
  cases hcls.symm.trans q1
  cases (State.methodFound?_of_named hnamed hy).symm.trans q2
  cases hnamed.symm.trans q3
  have hselP : selectMethod e.platform s.vm cellB.cls mk = .method mk := by rw [Launch.admits_selectMethod X.admits]; exact q4
  obtain ⟨vm₁, X₁, hstep₁⟩ := X.invokevirtual hexec hown hlink hnamed hmethM hstM hkP hkPi hy (a := b) (cell := cellB) hcell
    (fun z h => by rw [h] at hobj; cases hobj) hselP hmethM habM hkP hkPi (g := g) hg (argsL := argsL) (rest := rest) (hlen _ hsigM) hstack hdg
  rcases hK m meth c ⟨T.setVm vm₁, locs, cells, slots⟩ { g with stack := rest } (.invokevirtual index) mk (Value.ref b :: argsL).toArray X₁ hg hsize hdg hW (X₁.named hnamed) (hpre vm₁ X₁.warmed) with ⟨v, B, X', hpost, hsteps⟩ | ⟨q, B, X', hpost, hsteps⟩
  · exact Or.inl ⟨v, vm₁, B, X₁.warmed, X', hpost, fun target h => hstep₁ _ fun acts => by rw [doInvoke_state]; exact hsteps.trans h⟩
  · exact Or.inr ⟨q, vm₁, B, X₁.warmed, X', hpost, hstep₁ _ fun acts => by rw [doInvoke_state]; exact hsteps⟩
theorem vx_callSX (X : Stand p l e R s m args below meth c T locs cells slots) (hexec : p.tables.exec = Jvm.exec) {own : String} {index : Nat} {y : MethodName} {bytes : ByteArray} {maxL : Nat} {ret : Option FieldType} {hh : List (Nat × Nat × Nat × Nat)}
    (hown : s.vm.findClass own = some m.cls) (hlink : (Cond.methodLink own index y).before args s = true) (hstat : (Cond.static y).before args s = true) (hinit : (Cond.initialized y.cls).before args s = true)
    (hcode : (Cond.codeWith y bytes maxL ret hh).before args s = true) (hy : y.cls ≠ "java/lang/invoke/MethodHandle" ∧ y.cls ≠ "java/lang/invoke/VarHandle")
    {W9 : Nat} {Pre : Pt → Array Value → Prop} {Post : Pt → Array Value → Option Value → Pt → Prop} {PostX : Pt → Array Value → Addr → Pt → Prop} (hK : vx_Back l R p e below s args y 3 W9 Pre Post PostX)
    {g : JFrame} (hg : g.method = m) (hsize : g.locals.size = c.maxLocals) {argsL rest : List Value} (hlen : ∀ sig, parseMethodDescriptor y.desc = some sig → argsL.length = sig.parameters.length)
    (hstack : g.stack = argsL.reverse ++ rest) (hW : 2 * g.monitorRoom + (rest.map fun v => v.category).sum ≤ W9) (hdg : decode c.code g.pc = .ok (.invokestatic index, 3))
    (hpre : ∀ vm₁, s.WarmedH vm₁ → Pre ⟨T.setVm vm₁, locs, cells, slots⟩ argsL.toArray) :
    (∃ (v : Option Value) (vm₁ : Vm) (B : Pt), s.WarmedH vm₁ ∧ Stand p l e R s m args below meth c B.U B.locs B.cells B.slots ∧ Post ⟨T.setVm vm₁, locs, cells, slots⟩ argsL.toArray v B ∧
      ∀ target, Steps p.tables e below (B.U.setTop { g with pc := g.pc + 3, stack := v.toList ++ rest }) target → Steps p.tables e below (T.setTop g) target) ∨
    (∃ (q : Addr) (vm₁ : Vm) (B : Pt), s.WarmedH vm₁ ∧ Stand p l e R s m args below meth c B.U B.locs B.cells B.slots ∧ PostX ⟨T.setVm vm₁, locs, cells, slots⟩ argsL.toArray q B ∧
      Steps p.tables e below (T.setTop g) ((B.U.setTop { g with stack := rest }).pushFrame (.throwing q))) := by
  obtain ⟨mk, methM, cM, hnamed, hmethM, -, -, -, -, -, -, hsigM⟩ := Cond.codeWith_spec hcode
  have hstatic : methM.isStatic = true := Cond.static_spec hnamed hmethM hstat
  obtain ⟨kP, hkP, -⟩ := className_of_methodNamed hnamed
  have hinitP : kP.init = .initialized := Cond.initialized_spec (findClass_of_methodNamed hnamed) hkP hinit
  obtain ⟨vm₁, X₁, hstep₁⟩ := X.invokestatic hexec hown hlink hnamed hmethM hstatic hkP hinitP hy (g := g) hg (argsL := argsL) (rest := rest) (hlen _ hsigM) hstack hdg
  rcases hK m meth c ⟨T.setVm vm₁, locs, cells, slots⟩ { g with stack := rest } (.invokestatic index) mk argsL.toArray X₁ hg hsize hdg hW (X₁.named hnamed) (hpre vm₁ X₁.warmed) with ⟨v, B, X', hpost, hsteps⟩ | ⟨q, B, X', hpost, hsteps⟩
  · exact Or.inl ⟨v, vm₁, B, X₁.warmed, X', hpost, fun target h => hstep₁ _ fun acts => by rw [doInvoke_state]; exact hsteps.trans h⟩
  · exact Or.inr ⟨q, vm₁, B, X₁.warmed, X', hpost, hstep₁ _ fun acts => by rw [doInvoke_state]; exact hsteps⟩
theorem vx_callVW (X : Stand p l e R s m args below meth c T locs cells slots) (hexec : p.tables.exec = Jvm.exec) {own C : String} {index : Nat} {y : MethodName} {bytes : ByteArray} {maxL : Nat} {ret : Option FieldType} {hh : List (Nat × Nat × Nat × Nat)}
    (hown : s.vm.findClass own = some m.cls) (hlink : (Cond.methodLink own index y).before args s = true) (hinst : (Cond.instanceMethod y).before args s = true) (hsel : (Cond.selects C y y).before args s = true)
    (hcode : (Cond.codeWith y bytes maxL ret hh).before args s = true) (hy : y.cls ≠ "java/lang/invoke/MethodHandle" ∧ y.cls ≠ "java/lang/invoke/VarHandle")
    {W9 : Nat} {Pre : Pt → Array Value → Prop} {Post : Pt → Array Value → Option Value → Pt → Prop} (hK : Back l R p e below s args y 3 W9 Pre Post)
    {b : Addr} {cellB : Cell} (hcell : T.heap[b]? = some cellB) (hobj : cellB.vm.isStatics = false) (hcls : s.vm.findClass C = some cellB.cls)
    {g : JFrame} (hg : g.method = m) (hsize : g.locals.size = c.maxLocals) {argsL rest : List Value} (hlen : ∀ sig, parseMethodDescriptor y.desc = some sig → argsL.length = sig.parameters.length)
    (hstack : g.stack = argsL.reverse ++ .ref b :: rest) (hW : 2 * g.monitorRoom + (rest.map fun v => v.category).sum ≤ W9) (hdg : decode c.code g.pc = .ok (.invokevirtual index, 3))
    (hpre : ∀ vm₁, s.WarmedH vm₁ → Pre ⟨T.setVm vm₁, locs, cells, slots⟩ (Value.ref b :: argsL).toArray) :
    ∃ (v : Option Value) (vm₁ : Vm) (B : Pt), s.WarmedH vm₁ ∧ Stand p l e R s m args below meth c B.U B.locs B.cells B.slots ∧ Post ⟨T.setVm vm₁, locs, cells, slots⟩ (Value.ref b :: argsL).toArray v B ∧
      ∀ target, Steps p.tables e below (B.U.setTop { g with pc := g.pc + 3, stack := v.toList ++ rest }) target → Steps p.tables e below (T.setTop g) target := by
  obtain ⟨mk, methM, hnamed, hmethM, hstM, habM⟩ := Cond.instanceMethod_spec hinst
  obtain ⟨m8, methM', cM, hn8, hmethM', -, -, -, -, -, -, hsigM⟩ := Cond.codeWith_spec hcode
  cases Option.some.inj (hn8.symm.trans hnamed)
  cases hmethM.symm.trans hmethM'
  obtain ⟨c2, r2, m2, q1, q2, q3, q4, kP, hkP, hkPi⟩ := Cond.selects_spec hsel
  cases hcls.symm.trans q1
  cases (State.methodFound?_of_named hnamed hy).symm.trans q2
  cases hnamed.symm.trans q3
  have hselP : selectMethod e.platform s.vm cellB.cls mk = .method mk := by rw [Launch.admits_selectMethod X.admits]; exact q4
  obtain ⟨vm₁, X₁, hstep₁⟩ := X.invokevirtual hexec hown hlink hnamed hmethM hstM hkP hkPi hy (a := b) (cell := cellB) hcell
    (fun z h => by rw [h] at hobj; cases hobj) hselP hmethM habM hkP hkPi (g := g) hg (argsL := argsL) (rest := rest) (hlen _ hsigM) hstack hdg
  obtain ⟨v, B, X', hpost, hsteps⟩ := hK m meth c ⟨T.setVm vm₁, locs, cells, slots⟩ { g with stack := rest } (.invokevirtual index) mk (Value.ref b :: argsL).toArray X₁ hg hsize hdg hW (X₁.named hnamed) (hpre vm₁ X₁.warmed)
  exact ⟨v, vm₁, B, X₁.warmed, X', hpost, fun target h => hstep₁ _ fun acts => by rw [doInvoke_state]; exact hsteps.trans h⟩
abbrev vx_CVW (R : Room) (s : State) (args : Array Value) (own C : String) (index : Nat) (y : MethodName) (bytes : ByteArray) (maxL : Nat) (ret : Option FieldType) (hh : List (Nat × Nat × Nat × Nat)) (ws : List Cond) (rm : Room) (mc ms n : Nat) : Prop :=
  (rm.cells = mc ∧ rm.slots = ms ∧ rm.frames + 1 ≤ R.frames ∧ 8 + (maxL + 11) + rm.locals ≤ R.locals ∧ (∀ w ∈ ws, ∀ (a' : Array Value) (U : State), s.WarmedH U.vm → w.before a' U = true) ∧ Cond.codeWith y bytes maxL ret hh ∈ ws) ∧
  (Cond.codeWith y bytes maxL ret hh).before args s = true ∧ (Cond.initialized y.cls).before args s = true ∧ (y.cls ≠ "java/lang/invoke/MethodHandle" ∧ y.cls ≠ "java/lang/invoke/VarHandle") ∧
  (∀ sig, parseMethodDescriptor y.desc = some sig → n = sig.parameters.length) ∧ (Cond.methodLink own index y).before args s = true ∧ (Cond.instanceMethod y).before args s = true ∧ (Cond.selects C y y).before args s = true
theorem vx_cwVW {own C : String} {index maxL mc ms : Nat} {y : MethodName} {bytes : ByteArray} {ret : Option FieldType} {hh : List (Nat × Nat × Nat × Nat)} {Ts ws ws' : List Cond} {rm : Room} (n : Nat) (ht : ∀ w ∈ Ts, w.before args s = true) (hT : GoodIn Ts (wsV own index C y ws)) (hw : ws = Cond.codeWith y bytes maxL ret hh :: ws') (hrc : rm.cells = mc) (hrs : rm.slots = ms)
    (hd : y.cls = C ∧ y.cls ≠ "java/lang/invoke/MethodHandle" ∧ y.cls ≠ "java/lang/invoke/VarHandle" ∧ (parseMethodDescriptor y.desc).map (fun d => d.parameters.length) = some n) (hR : rm.frames + 1 ≤ R.frames ∧ 8 + (maxL + 11) + rm.locals ≤ R.locals) :
    vx_CVW R s args own C index y bytes maxL ret hh ws rm mc ms n := by
  obtain ⟨hC, hd⟩ := hd
  subst hC
  have ok : ∀ w ∈ wsV own index y.cls y ws, w.before args s = true := fun w h => ht w (hT w h).1
  have hG : GoodIn Ts ws := fun w h => hT w (by unfold wsV; exact List.mem_append_right _ h)
  have hc : Cond.codeWith y bytes maxL ret hh ∈ ws := by rw [hw]; exact List.mem_cons_self
  refine ⟨⟨hrc, hrs, hR.1, hR.2, pay_in ht hG, hc⟩, ht _ (hG _ hc).1, ok _ (by simp [wsV]), ⟨hd.1, hd.2.1⟩, fun sig h => ?_, ok _ (by simp [wsV]), ok _ (by simp [wsV]), ok _ (by simp [wsV])⟩
  have h2 := hd.2.2
  rw [h] at h2
  exact (Option.some.inj h2).symm
theorem vx_runVW {y : MethodName} {bytes cc : ByteArray} {maxL nL mc ms n index : Nat} {ret : Option FieldType} {hh : List (Nat × Nat × Nat × Nat)} {ws : List Cond} {rm : Room} {Pc : Array Value → State → Prop} {Qc : Array Value → State → Outcome → State → Prop} {free : Addr → Prop} {Ts : List Cond} {own C : String} {b : Addr} {As rest : List Value} {g : JFrame}
    (S : CallFix p m c cc nL s args Ts own) (hM : Met l y ws rm Pc Qc mc ms free) (cw : vx_CVW R s args own C index y bytes maxL ret hh ws rm mc ms n) (hp : PreV s H C b Pc As)
    (hg : g.method = m) (hn : As.length = n) (hsize : g.locals.size = nL) (hstack : g.stack = As.reverse ++ .ref b :: rest) (hW : 2 * g.monitorRoom + (rest.map fun v => v.category).sum ≤ 8) (hdg : decode cc g.pc = .ok (.invokevirtual index, 3)) (hf : cells + mc ≤ R.cells ∧ slots + ms ≤ R.slots) :
    va_Run p l e R s m args below meth c H locs cells slots mc ms g rest (Qc (Value.ref b :: As).toArray) free := by
  obtain ⟨⟨hrc, hrs, hfr, hlo, hws, hcw⟩, hcode, hini, hy, hlen, hl, hin, hse⟩ := cw
  have hK : Back l R p e below s args y 3 8 (PreOf R mc ms Pc) (PostOf Qc mc ms free) := va_backW (hh := hh) (bytes := bytes) (maxL := maxL) (ret := ret) hM hp.1 hrc hrs hfr hlo hws hcw (fun a' U hW => word_at hW (Or.inl (by first | rfl | simp [Cond.onTables, Cond.keeps, Cond.steady])) hini)
  obtain ⟨hx, hb, hml, ho, -⟩ := S
  obtain ⟨-, ⟨cellB, hcB, hoB, hclB⟩, hPc⟩ := hp
  intro T hT X
  obtain ⟨v, vm₁, ⟨U', l2, c2, s2⟩, hW₁, X', ⟨g', mk, t, L, e1, e2, hq, h1, hL, h2, h3⟩, st⟩ := vx_callVW X hx (C := C) (hh := hh) (bytes := bytes) (maxL := maxL) (ret := ret) ho hl hin hse hcode hy hK (by rw [hT]; exact hcB) hoB hclB hg (hsize.trans hml.symm) (argsL := As) (rest := rest) (fun sig h => hn.trans (hlen sig h)) hstack hW (by rw [hb]; exact hdg)
    (fun vm₁ hW₁ => ⟨hf.1, hf.2, hPc (T.setVm vm₁) hT hW₁⟩)
  dsimp only [Pt.U, Pt.locs, Pt.cells, Pt.slots] at X' e1 e2 h1 h2 h3 st
  subst h1; subst h2; subst h3
  exact ⟨v, (T.setVm vm₁).calling g' mk (Value.ref b :: As).toArray, t, U', L, hT, X', hL, e1, e2, hq, st⟩
section
variable {y : MethodName} {bytes cc : ByteArray} {maxL nL mc ms n index : Nat} {ret : Option FieldType} {ws : List Cond} {rm : Room} {Pc : Array Value → State → Prop} {Qc : Array Value → State → Outcome → State → Prop} {XC : String → State → State → Prop} {free : Addr → Prop} {Ts : List Cond} {own C : String} {b : Addr} {As rest : List Value} {g : JFrame}
theorem vx_runVX {hh : List (Nat × Nat × Nat × Nat)} (S : CallFix p m c cc nL s args Ts own) (hM : vx_Met l y ws rm Pc Qc XC mc ms free) (cw : vx_CVW R s args own C index y bytes maxL ret hh ws rm mc ms n) (hp : PreV s H C b Pc As)
    (hg : g.method = m) (hn : As.length = n) (hsize : g.locals.size = nL) (hstack : g.stack = As.reverse ++ .ref b :: rest) (hW : 2 * g.monitorRoom + (rest.map fun v => v.category).sum ≤ 8) (hdg : decode cc g.pc = .ok (.invokevirtual index, 3)) (hf : cells + mc ≤ R.cells ∧ slots + ms ≤ R.slots) :
    vx_Run p l e R s m args below meth c H locs cells slots mc ms g rest (Qc (Value.ref b :: As).toArray) XC free := by
  obtain ⟨⟨hrc, hrs, hfr, hlo, hws, hcw⟩, hcode, hini, hy, hlen, hl, hin, hse⟩ := cw
  have hK : vx_Back l R p e below s args y 3 8 (PreOf R mc ms Pc) (PostOf Qc mc ms free) (vx_Post XC mc ms free) := vx_backW (hh := hh) (bytes := bytes) (maxL := maxL) (ret := ret) hM hp.1 hrc hrs hfr hlo hws hcw (fun a' U hW => word_at hW (Or.inl (by first | rfl | simp [Cond.onTables, Cond.keeps, Cond.steady])) hini)
  obtain ⟨hx, hb, hml, ho, -⟩ := S
  obtain ⟨-, ⟨cellB, hcB, hoB, hclB⟩, hPc⟩ := hp
  intro T hT X
  rcases vx_callVX X hx (C := C) (hh := hh) (bytes := bytes) (maxL := maxL) (ret := ret) ho hl hin hse hcode hy hK (by rw [hT]; exact hcB) hoB hclB hg (hsize.trans hml.symm) (argsL := As) (rest := rest) (fun sig h => hn.trans (hlen sig h)) hstack hW (by rw [hb]; exact hdg)
    (fun vm₁ hW₁ => ⟨hf.1, hf.2, hPc (T.setVm vm₁) hT hW₁⟩) with ⟨v, vm₁, ⟨U', l2, c2, s2⟩, hW₁, X', ⟨g', mk, t, L, e1, e2, hq, h1, hL, h2, h3⟩, st⟩ | ⟨q, vm₁, ⟨U', l2, c2, s2⟩, hW₁, X', ⟨g', mk, t, L, E, ce, e1, e2, hq, hce, hcv, hcl, h1, hL, h2, h3⟩, st⟩
  · dsimp only [Pt.U, Pt.locs, Pt.cells, Pt.slots] at X' e1 e2 h1 h2 h3 st
    subst h1; subst h2; subst h3
    exact Or.inl ⟨v, (T.setVm vm₁).calling g' mk (Value.ref b :: As).toArray, t, U', L, hT, X', hL, e1, e2, hq, st⟩
  · dsimp only [Pt.U, Pt.locs, Pt.cells, Pt.slots] at X' e1 e2 h1 h2 h3 st hcl
    subst h1; subst h2; subst h3
    exact Or.inr ⟨q, (T.setVm vm₁).calling g' mk (Value.ref b :: As).toArray, t, U', L, E, ce, hT, X', hL, e1, e2, hq, hce, hcv, vx_cls hW₁ hcl, st⟩
theorem vx_runSX {hh : List (Nat × Nat × Nat × Nat)} (S : CallFix p m c cc nL s args Ts own) (hM : vx_Met l y ws rm Pc Qc XC mc ms free) (cw : vx_CSW R s args own index y bytes maxL ret hh ws rm mc ms n) (hp : PreS s H Pc As)
    (hg : g.method = m) (hn : As.length = n) (hsize : g.locals.size = nL) (hstack : g.stack = As.reverse ++ rest) (hW : 2 * g.monitorRoom + (rest.map fun v => v.category).sum ≤ 8) (hdg : decode cc g.pc = .ok (.invokestatic index, 3)) (hf : cells + mc ≤ R.cells ∧ slots + ms ≤ R.slots) :
    vx_Run p l e R s m args below meth c H locs cells slots mc ms g rest (Qc As.toArray) XC free := by
  obtain ⟨⟨hrc, hrs, hfr, hlo, hws, hcw⟩, hcode, hini, hy, hlen, hl, hstt⟩ := cw
  have hK : vx_Back l R p e below s args y 3 8 (PreOf R mc ms Pc) (PostOf Qc mc ms free) (vx_Post XC mc ms free) := vx_backW (hh := hh) (bytes := bytes) (maxL := maxL) (ret := ret) hM hp.1 hrc hrs hfr hlo hws hcw (fun a' U hW => word_at hW (Or.inl (by first | rfl | simp [Cond.onTables, Cond.keeps, Cond.steady])) hini)
  obtain ⟨hx, hb, hml, ho, -⟩ := S
  intro T hT X
  rcases vx_callSX X hx (hh := hh) (bytes := bytes) (maxL := maxL) (ret := ret) ho hl hstt hini hcode hy hK hg (hsize.trans hml.symm) (argsL := As) (rest := rest) (fun sig h => hn.trans (hlen sig h)) hstack hW (by rw [hb]; exact hdg)
    (fun vm₁ hW₁ => ⟨hf.1, hf.2, hp.2 (T.setVm vm₁) hT hW₁⟩) with ⟨v, vm₁, ⟨U', l2, c2, s2⟩, hW₁, X', ⟨g', mk, t, L, e1, e2, hq, h1, hL, h2, h3⟩, st⟩ | ⟨q, vm₁, ⟨U', l2, c2, s2⟩, hW₁, X', ⟨g', mk, t, L, E, ce, e1, e2, hq, hce, hcv, hcl, h1, hL, h2, h3⟩, st⟩
  · dsimp only [Pt.U, Pt.locs, Pt.cells, Pt.slots] at X' e1 e2 h1 h2 h3 st
    subst h1; subst h2; subst h3
    exact Or.inl ⟨v, (T.setVm vm₁).calling g' mk As.toArray, t, U', L, hT, X', hL, e1, e2, hq, st⟩
  · dsimp only [Pt.U, Pt.locs, Pt.cells, Pt.slots] at X' e1 e2 h1 h2 h3 st hcl
    subst h1; subst h2; subst h3
    exact Or.inr ⟨q, (T.setVm vm₁).calling g' mk As.toArray, t, U', L, E, ce, hT, X', hL, e1, e2, hq, hce, hcv, vx_cls hW₁ hcl, st⟩
end
end VXH
theorem vx_ofWH {l : Launch} {y : MethodName} {ws ws' : List Cond} {rm : Room} {Pc : Array Value → State → Prop} {Qc : Array Value → State → Outcome → State → Prop} {XC : String → State → State → Prop} {mc ms : Nat} {free : Addr → Prop} {cc : ByteArray} {maxL : Nat} {ret : Option FieldType} {hh : List (Nat × Nat × Nat × Nat)}
    (hy : plainName y.cls = true) (hw : ws = Cond.codeWith y cc maxL ret hh :: ws')
    (body : ∀ p e s m args below meth c s₁, BodyLoose p l y (headSpec ws rm) cc maxL ret e s m args below meth c s₁ → c.maxLocals = maxL → Pc args s →
      W p l e (headSpec ws rm).room s m args below meth c s.heap [] 0 0 (vx_MQ below Qc XC args s mc ms free) (entryFrame m args maxL)) : vx_Met l y ws rm Pc Qc XC mc ms free := by
  refine MetFree.of_bodyS (code := cc) (maxLocals := maxL) (ret := ret) hy ?_ ?_
  · intro args s m h hn
    obtain ⟨m9, meth, c, hn9, h1, h2, h3, h4, -, h5, h6, -⟩ := Cond.codeWith_spec (atoms_spec (ws := ws) h _ (by rw [hw]; exact List.mem_cons_self))
    cases hn.symm.trans hn9
    exact ⟨meth, c, h1, h2, h3, h4, h5, h6⟩
  · intro p e s m args below meth c s₁ B hml hP _
    have hh0 : s₁.heap = s.heap := by rw [B.state]; rfl
    obtain ⟨t, a1, o, b1, b2, b3⟩ := body p e s m args below meth c s₁ B hml hP s₁ hh0 (Stand.of_body B)
    exact ⟨t, o, a1, b1, b2, b3⟩
/-! ===== END ===== -/
end
section
def RX0 : String := "HeightLines"
def TX0 : u_T := fun k => match k with
  | 0 => ("HeightLines", "columns", "I", false)
  | 1 => ("HeightLines", "rows", "I", false)
  | 2 => ("HeightLines", "twiceHeight", "I", false)
  | 3 => ("HeightLines", "samples", "[I", true)
  | 4 => ("HeightLines", "next", "[I", true)
  | 5 => ("HeightLines", "before", "[I", true)
  | 6 => ("HeightLines", "order", "[I", true)
  | 7 => ("HeightLines", "starts", "[I", true)
  | 8 => ("HeightLines", "owner", "[I", true)
  | 9 => ("HeightLines", "openChains", "I", false)
  | _ => ("HeightLines", "chains", "I", false)
def tyX0 : Nat → FieldType := fun k => match k with
  | 0 => .int
  | 1 => .int
  | 2 => .int
  | 3 => .array .int
  | 4 => .array .int
  | 5 => .array .int
  | 6 => .array .int
  | 7 => .array .int
  | 8 => .array .int
  | 9 => .int
  | _ => .int
abbrev wsX00 : List Cond := u_ws RX0 TX0 11
theorem nmX0 : ∀ a, a < 11 → ∀ b, b < 11 → a ≠ b → (TX0 a).2.1 ≠ (TX0 b).2.1 := by decide +kernel
theorem tyX0_ok : ∀ k, k < 11 → parseFieldDescriptor (TX0 k).2.2.1 = some (tyX0 k) := by decide +kernel
abbrev cX0_init : ByteArray := prog_1_method_1_code
def yX0_init : MethodName := ⟨RX0, "<init>", "()V"⟩
abbrev cX0_field : ByteArray := prog_1_method_2_code
def yX0_field : MethodName := ⟨RX0, "field", "(II)Z"⟩
abbrev cX0_set : ByteArray := prog_1_method_3_code
def yX0_set : MethodName := ⟨RX0, "set", "(III)Z"⟩
abbrev cX0_row : ByteArray := prog_1_method_4_code
def yX0_row : MethodName := ⟨RX0, "row", "(III)Z"⟩
abbrev cX0_height : ByteArray := prog_1_method_5_code
def yX0_height : MethodName := ⟨RX0, "height", "(I)Z"⟩
abbrev cX0_make : ByteArray := prog_1_method_6_code
def yX0_make : MethodName := ⟨RX0, "make", "()I"⟩
abbrev cX0_size : ByteArray := prog_1_method_7_code
def yX0_size : MethodName := ⟨RX0, "size", "(I)I"⟩
abbrev cX0_isClosed : ByteArray := prog_1_method_8_code
def yX0_isClosed : MethodName := ⟨RX0, "isClosed", "(I)Z"⟩
abbrev cX0_edge : ByteArray := prog_1_method_9_code
def yX0_edge : MethodName := ⟨RX0, "edge", "(II)I"⟩
abbrev cX0_crossing : ByteArray := prog_1_method_10_code
def yX0_crossing : MethodName := ⟨RX0, "crossing", "(II)I"⟩
abbrev cX0_within : ByteArray := prog_1_method_11_code
def yX0_within : MethodName := ⟨RX0, "within", "(I)I"⟩
abbrev cX0_crossed : ByteArray := prog_1_method_12_code
def yX0_crossed : MethodName := ⟨RX0, "crossed", "()I"⟩
abbrev cX0_isSide : ByteArray := prog_1_method_13_code
def yX0_isSide : MethodName := ⟨RX0, "isSide", "(I)Z"⟩
abbrev cX0_heldToBounds : ByteArray := prog_1_method_14_code
def yX0_heldToBounds : MethodName := ⟨RX0, "heldToBounds", "(J)I"⟩
abbrev cX0_greatestDivisor : ByteArray := prog_1_method_15_code
def yX0_greatestDivisor : MethodName := ⟨RX0, "greatestDivisor", "(II)I"⟩
abbrev cX0_hasRow : ByteArray := prog_1_method_16_code
def yX0_hasRow : MethodName := ⟨RX0, "hasRow", "(I)Z"⟩
abbrev cX0_sampleAt : ByteArray := prog_1_method_17_code
def yX0_sampleAt : MethodName := ⟨RX0, "sampleAt", "(II)I"⟩
abbrev cX0_isAbove : ByteArray := prog_1_method_18_code
def yX0_isAbove : MethodName := ⟨RX0, "isAbove", "(I)Z"⟩
abbrev cX0_rightwardEdges : ByteArray := prog_1_method_19_code
def yX0_rightwardEdges : MethodName := ⟨RX0, "rightwardEdges", "()I"⟩
abbrev cX0_edgeCount : ByteArray := prog_1_method_20_code
def yX0_edgeCount : MethodName := ⟨RX0, "edgeCount", "()I"⟩
abbrev cX0_rightwardEdge : ByteArray := prog_1_method_21_code
def yX0_rightwardEdge : MethodName := ⟨RX0, "rightwardEdge", "(II)I"⟩
abbrev cX0_upwardEdge : ByteArray := prog_1_method_22_code
def yX0_upwardEdge : MethodName := ⟨RX0, "upwardEdge", "(II)I"⟩
abbrev cX0_firstSample : ByteArray := prog_1_method_23_code
def yX0_firstSample : MethodName := ⟨RX0, "firstSample", "(I)I"⟩
abbrev cX0_secondSample : ByteArray := prog_1_method_24_code
def yX0_secondSample : MethodName := ⟨RX0, "secondSample", "(I)I"⟩
abbrev cX0_isCrossed : ByteArray := prog_1_method_25_code
def yX0_isCrossed : MethodName := ⟨RX0, "isCrossed", "(I)Z"⟩
abbrev cX0_drawLines : ByteArray := prog_1_method_26_code
def yX0_drawLines : MethodName := ⟨RX0, "drawLines", "()V"⟩
abbrev cX0_drawCell : ByteArray := prog_1_method_27_code
def yX0_drawCell : MethodName := ⟨RX0, "drawCell", "(II)V"⟩
abbrev cX0_cornersAbove : ByteArray := prog_1_method_28_code
def yX0_cornersAbove : MethodName := ⟨RX0, "cornersAbove", "(II)I"⟩
abbrev cX0_cornerSample : ByteArray := prog_1_method_29_code
def yX0_cornerSample : MethodName := ⟨RX0, "cornerSample", "(III)I"⟩
abbrev cX0_sideEdge : ByteArray := prog_1_method_30_code
def yX0_sideEdge : MethodName := ⟨RX0, "sideEdge", "(III)I"⟩
abbrev cX0_hasCorner : ByteArray := prog_1_method_31_code
def yX0_hasCorner : MethodName := ⟨RX0, "hasCorner", "(II)Z"⟩
abbrev cX0_entersAt : ByteArray := prog_1_method_32_code
def yX0_entersAt : MethodName := ⟨RX0, "entersAt", "(II)Z"⟩
abbrev cX0_leavesAt : ByteArray := prog_1_method_33_code
def yX0_leavesAt : MethodName := ⟨RX0, "leavesAt", "(II)Z"⟩
abbrev cX0_exitFrom : ByteArray := prog_1_method_34_code
def yX0_exitFrom : MethodName := ⟨RX0, "exitFrom", "(III)I"⟩
abbrev cX0_isMiddleAbove : ByteArray := prog_1_method_35_code
def yX0_isMiddleAbove : MethodName := ⟨RX0, "isMiddleAbove", "(II)Z"⟩
abbrev cX0_hasChain : ByteArray := prog_1_method_36_code
def yX0_hasChain : MethodName := ⟨RX0, "hasChain", "(I)Z"⟩
abbrev cX0_forgetChains : ByteArray := prog_1_method_37_code
def yX0_forgetChains : MethodName := ⟨RX0, "forgetChains", "()V"⟩
abbrev cX0_gatherOpenChains : ByteArray := prog_1_method_38_code
def yX0_gatherOpenChains : MethodName := ⟨RX0, "gatherOpenChains", "()V"⟩
abbrev cX0_gatherClosedChains : ByteArray := prog_1_method_39_code
def yX0_gatherClosedChains : MethodName := ⟨RX0, "gatherClosedChains", "()V"⟩
abbrev cX0_gatherChain : ByteArray := prog_1_method_40_code
def yX0_gatherChain : MethodName := ⟨RX0, "gatherChain", "(I)V"⟩
abbrev cX0_withinInRow : ByteArray := prog_1_method_41_code
def yX0_withinInRow : MethodName := ⟨RX0, "withinInRow", "(II)I"⟩
def RX1 : String := "HeightLinesModel"
def TX1 : u_T := fun k => match k with
  | 0 => ("HeightLinesModel", "thrown", "I", false)
  | 1 => ("HeightLinesModel", "w", "I", false)
  | 2 => ("HeightLinesModel", "h", "I", false)
  | 3 => ("HeightLinesModel", "twice", "I", false)
  | 4 => ("HeightLinesModel", "samples", "[I", true)
  | 5 => ("HeightLinesModel", "edges", "[I", true)
  | 6 => ("HeightLinesModel", "begins", "[I", true)
  | 7 => ("HeightLinesModel", "closed", "[Z", true)
  | 8 => ("HeightLinesModel", "used", "[Z", true)
  | _ => ("HeightLinesModel", "chains", "I", false)
def tyX1 : Nat → FieldType := fun k => match k with
  | 0 => .int
  | 1 => .int
  | 2 => .int
  | 3 => .int
  | 4 => .array .int
  | 5 => .array .int
  | 6 => .array .int
  | 7 => .array .boolean
  | 8 => .array .boolean
  | _ => .int
abbrev wsX10 : List Cond := u_ws RX1 TX1 10
theorem nmX1 : ∀ a, a < 10 → ∀ b, b < 10 → a ≠ b → (TX1 a).2.1 ≠ (TX1 b).2.1 := by decide +kernel
theorem tyX1_ok : ∀ k, k < 10 → parseFieldDescriptor (TX1 k).2.2.1 = some (tyX1 k) := by decide +kernel
abbrev cX1_init : ByteArray := prog_3_method_1_code
def yX1_init : MethodName := ⟨RX1, "<init>", "()V"⟩
abbrev cX1_thrown : ByteArray := prog_3_method_2_code
def yX1_thrown : MethodName := ⟨RX1, "thrown", "()I"⟩
abbrev cX1_field : ByteArray := prog_3_method_3_code
def yX1_field : MethodName := ⟨RX1, "field", "(II)Z"⟩
abbrev cX1_set : ByteArray := prog_3_method_4_code
def yX1_set : MethodName := ⟨RX1, "set", "(III)Z"⟩
abbrev cX1_row : ByteArray := prog_3_method_5_code
def yX1_row : MethodName := ⟨RX1, "row", "(III)Z"⟩
abbrev cX1_height : ByteArray := prog_3_method_6_code
def yX1_height : MethodName := ⟨RX1, "height", "(I)Z"⟩
abbrev cX1_all : ByteArray := prog_3_method_7_code
def yX1_all : MethodName := ⟨RX1, "all", "()I"⟩
abbrev cX1_isAcross : ByteArray := prog_3_method_8_code
def yX1_isAcross : MethodName := ⟨RX1, "isAcross", "(I)Z"⟩
abbrev cX1_xOf : ByteArray := prog_3_method_9_code
def yX1_xOf : MethodName := ⟨RX1, "xOf", "(I)I"⟩
abbrev cX1_yOf : ByteArray := prog_3_method_10_code
def yX1_yOf : MethodName := ⟨RX1, "yOf", "(I)I"⟩
abbrev cX1_at : ByteArray := prog_3_method_11_code
def yX1_at : MethodName := ⟨RX1, "at", "(II)I"⟩
abbrev cX1_first : ByteArray := prog_3_method_12_code
def yX1_first : MethodName := ⟨RX1, "first", "(I)I"⟩
abbrev cX1_second : ByteArray := prog_3_method_13_code
def yX1_second : MethodName := ⟨RX1, "second", "(I)I"⟩
abbrev cX1_isAbove : ByteArray := prog_3_method_14_code
def yX1_isAbove : MethodName := ⟨RX1, "isAbove", "(I)Z"⟩
abbrev cX1_isCrossed : ByteArray := prog_3_method_15_code
def yX1_isCrossed : MethodName := ⟨RX1, "isCrossed", "(I)Z"⟩
abbrev cX1_corner : ByteArray := prog_3_method_16_code
def yX1_corner : MethodName := ⟨RX1, "corner", "(III)I"⟩
abbrev cX1_edgeOf : ByteArray := prog_3_method_17_code
def yX1_edgeOf : MethodName := ⟨RX1, "edgeOf", "(III)I"⟩
abbrev cX1_isDown : ByteArray := prog_3_method_18_code
def yX1_isDown : MethodName := ⟨RX1, "isDown", "(III)Z"⟩
abbrev cX1_isUp : ByteArray := prog_3_method_19_code
def yX1_isUp : MethodName := ⟨RX1, "isUp", "(III)Z"⟩
abbrev cX1_isMiddleAbove : ByteArray := prog_3_method_20_code
def yX1_isMiddleAbove : MethodName := ⟨RX1, "isMiddleAbove", "(II)Z"⟩
abbrev cX1_leads : ByteArray := prog_3_method_21_code
def yX1_leads : MethodName := ⟨RX1, "leads", "(III)I"⟩
abbrev cX1_isCell : ByteArray := prog_3_method_22_code
def yX1_isCell : MethodName := ⟨RX1, "isCell", "(II)Z"⟩
abbrev cX1_next : ByteArray := prog_3_method_23_code
def yX1_next : MethodName := ⟨RX1, "next", "(I)I"⟩
abbrev cX1_isLedTo : ByteArray := prog_3_method_24_code
def yX1_isLedTo : MethodName := ⟨RX1, "isLedTo", "(I)Z"⟩
abbrev cX1_chain : ByteArray := prog_3_method_25_code
def yX1_chain : MethodName := ⟨RX1, "chain", "(IZ)V"⟩
abbrev cX1_make : ByteArray := prog_3_method_26_code
def yX1_make : MethodName := ⟨RX1, "make", "()I"⟩
abbrev cX1_isChain : ByteArray := prog_3_method_27_code
def yX1_isChain : MethodName := ⟨RX1, "isChain", "(I)Z"⟩
abbrev cX1_size : ByteArray := prog_3_method_28_code
def yX1_size : MethodName := ⟨RX1, "size", "(I)I"⟩
abbrev cX1_isClosed : ByteArray := prog_3_method_29_code
def yX1_isClosed : MethodName := ⟨RX1, "isClosed", "(I)Z"⟩
abbrev cX1_edge : ByteArray := prog_3_method_30_code
def yX1_edge : MethodName := ⟨RX1, "edge", "(II)I"⟩
abbrev cX1_crossing : ByteArray := prog_3_method_31_code
def yX1_crossing : MethodName := ⟨RX1, "crossing", "(II)I"⟩
abbrev cX1_within : ByteArray := prog_3_method_32_code
def yX1_within : MethodName := ⟨RX1, "within", "(I)I"⟩
abbrev cX1_crossed : ByteArray := prog_3_method_33_code
def yX1_crossed : MethodName := ⟨RX1, "crossed", "()I"⟩
def RJ9 : String := "java/lang/Math"
def TJ9 : u_T := fun k => match k with
  | _ => ("", "", "", false)
def tyJ9 : Nat → FieldType := fun k => match k with
  | _ => .int
abbrev wsJ90 : List Cond := u_ws RJ9 TJ9 0
theorem nmJ9 : ∀ a, a < 0 → ∀ b, b < 0 → a ≠ b → (TJ9 a).2.1 ≠ (TJ9 b).2.1 := by decide +kernel
theorem tyJ9_ok : ∀ k, k < 0 → parseFieldDescriptor (TJ9 k).2.2.1 = some (tyJ9 k) := by decide +kernel
abbrev cJ9_abs_0f7a4 : ByteArray := prog_5_method_59_code
def yJ9_abs_0f7a4 : MethodName := ⟨RJ9, "abs", "(I)I"⟩
abbrev cJ9_max_f86c9 : ByteArray := prog_5_method_66_code
def yJ9_max_f86c9 : MethodName := ⟨RJ9, "max", "(JJ)J"⟩
abbrev cJ9_min_f86c9 : ByteArray := prog_5_method_70_code
def yJ9_min_f86c9 : MethodName := ⟨RJ9, "min", "(JJ)J"⟩
def RJ7 : String := "java/util/Arrays"
def TJ7 : u_T := fun k => match k with
  | _ => ("", "", "", false)
def tyJ7 : Nat → FieldType := fun k => match k with
  | _ => .int
abbrev wsJ70 : List Cond := u_ws RJ7 TJ7 0
theorem nmJ7 : ∀ a, a < 0 → ∀ b, b < 0 → a ≠ b → (TJ7 a).2.1 ≠ (TJ7 b).2.1 := by decide +kernel
theorem tyJ7_ok : ∀ k, k < 0 → parseFieldDescriptor (TJ7 k).2.2.1 = some (tyJ7 k) := by decide +kernel
abbrev cJ7_fill_53178 : ByteArray := prog_8_method_103_code
def yJ7_fill_53178 : MethodName := ⟨RJ7, "fill", "([II)V"⟩
def RL : String := "HeightLinesLaw"
abbrev cL_crossing : ByteArray := method_3_code
def yL_crossing : MethodName := ⟨RL, "crossing", "(LHeightLines;II[J)I"⟩
abbrev cL_law : ByteArray := code
def yL_law : MethodName := ⟨RL, "law", "([I)Z"⟩
def wsX0_init : List Cond := .code yX0_init cX0_init 1 none :: ([.methodLink RX0 3 objectInit, .instanceMethod objectInit, .code objectInit ⟨#[0xb1]⟩ 1 none, .fieldLink RX0 9 "HeightLines" "columns" "I", .fieldLink RX0 13 "HeightLines" "rows" "I", .fieldLink RX0 16 "HeightLines" "twiceHeight" "I", .arrayClass .int, .fieldLink RX0 19 "HeightLines" "samples" "[I", .fieldLink RX0 23 "HeightLines" "next" "[I", .fieldLink RX0 26 "HeightLines" "before" "[I", .fieldLink RX0 29 "HeightLines" "order" "[I", .fieldLink RX0 32 "HeightLines" "starts" "[I", .fieldLink RX0 35 "HeightLines" "owner" "[I", .fieldLink RX0 38 "HeightLines" "openChains" "I", .fieldLink RX0 41 "HeightLines" "chains" "I"] ++ wsX00)
def wsX0_isSide : List Cond := .code yX0_isSide cX0_isSide 1 (some .boolean) :: ([])
def wsJ7_fill_53178 : List Cond := .code yJ7_fill_53178 cJ7_fill_53178 4 none :: ([])
def wsX0_forgetChains : List Cond := .code yX0_forgetChains cX0_forgetChains 1 none :: ([.fieldLink RX0 41 "HeightLines" "chains" "I", .fieldLink RX0 38 "HeightLines" "openChains" "I", .fieldLink RX0 35 "HeightLines" "owner" "[I", .methodLink RX0 48 yJ7_fill_53178, .static yJ7_fill_53178, .initialized RJ7, .code yJ7_fill_53178 cJ7_fill_53178 4 none] ++ wsX00)
def wsX0_field : List Cond := .code yX0_field cX0_field 3 (some .boolean) :: ([.fieldLink RX0 9 "HeightLines" "columns" "I", .fieldLink RX0 13 "HeightLines" "rows" "I", .fieldLink RX0 19 "HeightLines" "samples" "[I", .methodLink RX0 44 yX0_isSide, .static yX0_isSide, .initialized RX0, .code yX0_isSide cX0_isSide 1 (some .boolean), .methodLink RX0 48 yJ7_fill_53178, .static yJ7_fill_53178, .initialized RJ7, .code yJ7_fill_53178 cJ7_fill_53178 4 none, .methodLink RX0 54 yX0_forgetChains, .instanceMethod yX0_forgetChains, .selects RX0 yX0_forgetChains yX0_forgetChains, .code yX0_forgetChains cX0_forgetChains 1 none, .fieldLink RX0 41 "HeightLines" "chains" "I", .fieldLink RX0 38 "HeightLines" "openChains" "I", .fieldLink RX0 35 "HeightLines" "owner" "[I"] ++ wsX00)
def wsX0_hasRow : List Cond := .code yX0_hasRow cX0_hasRow 2 (some .boolean) :: ([.fieldLink RX0 13 "HeightLines" "rows" "I"] ++ wsX00)
def wsX0_heldToBounds : List Cond := .code yX0_heldToBounds cX0_heldToBounds 2 (some .int) :: ([.constantLong RX0 116 (-1000000), .constantLong RX0 118 (1000000), .methodLink RX0 120 Lib.MathLoose.min_long.x, .static Lib.MathLoose.min_long.x, .initialized "java/lang/Math", .code Lib.MathLoose.min_long.x Lib.MathLoose.min_long.code 4 (some .long), .methodLink RX0 124 Lib.MathLoose.max_long.x, .static Lib.MathLoose.max_long.x, .code Lib.MathLoose.max_long.x Lib.MathLoose.max_long.code 4 (some .long)])
def wsX0_sampleAt : List Cond := .code yX0_sampleAt cX0_sampleAt 3 (some .int) :: ([.fieldLink RX0 9 "HeightLines" "columns" "I"] ++ wsX00)
def wsX0_set : List Cond := .code yX0_set cX0_set 4 (some .boolean) :: ([.fieldLink RX0 9 "HeightLines" "columns" "I", .fieldLink RX0 19 "HeightLines" "samples" "[I", .methodLink RX0 57 yX0_hasRow, .instanceMethod yX0_hasRow, .selects RX0 yX0_hasRow yX0_hasRow, .initialized RX0, .code yX0_hasRow cX0_hasRow 2 (some .boolean), .fieldLink RX0 13 "HeightLines" "rows" "I", .methodLink RX0 60 yX0_heldToBounds, .static yX0_heldToBounds, .code yX0_heldToBounds cX0_heldToBounds 2 (some .int), .constantLong RX0 116 (-1000000), .constantLong RX0 118 (1000000), .methodLink RX0 120 Lib.MathLoose.min_long.x, .static Lib.MathLoose.min_long.x, .initialized "java/lang/Math", .code Lib.MathLoose.min_long.x Lib.MathLoose.min_long.code 4 (some .long), .methodLink RX0 124 Lib.MathLoose.max_long.x, .static Lib.MathLoose.max_long.x, .code Lib.MathLoose.max_long.x Lib.MathLoose.max_long.code 4 (some .long), .methodLink RX0 64 yX0_sampleAt, .instanceMethod yX0_sampleAt, .selects RX0 yX0_sampleAt yX0_sampleAt, .code yX0_sampleAt cX0_sampleAt 3 (some .int)] ++ wsX00)
def wsX0_row : List Cond := .code yX0_row cX0_row 5 (some .boolean) :: ([.fieldLink RX0 9 "HeightLines" "columns" "I", .fieldLink RX0 19 "HeightLines" "samples" "[I", .methodLink RX0 57 yX0_hasRow, .instanceMethod yX0_hasRow, .selects RX0 yX0_hasRow yX0_hasRow, .initialized RX0, .code yX0_hasRow cX0_hasRow 2 (some .boolean), .fieldLink RX0 13 "HeightLines" "rows" "I", .methodLink RX0 64 yX0_sampleAt, .instanceMethod yX0_sampleAt, .selects RX0 yX0_sampleAt yX0_sampleAt, .code yX0_sampleAt cX0_sampleAt 3 (some .int), .methodLink RX0 60 yX0_heldToBounds, .static yX0_heldToBounds, .code yX0_heldToBounds cX0_heldToBounds 2 (some .int), .constantLong RX0 116 (-1000000), .constantLong RX0 118 (1000000), .methodLink RX0 120 Lib.MathLoose.min_long.x, .static Lib.MathLoose.min_long.x, .initialized "java/lang/Math", .code Lib.MathLoose.min_long.x Lib.MathLoose.min_long.code 4 (some .long), .methodLink RX0 124 Lib.MathLoose.max_long.x, .static Lib.MathLoose.max_long.x, .code Lib.MathLoose.max_long.x Lib.MathLoose.max_long.code 4 (some .long)] ++ wsX00)
def wsX0_height : List Cond := .code yX0_height cX0_height 3 (some .boolean) :: ([.constant RX0 68 (-1999999), .constant RX0 69 (1999999), .fieldLink RX0 16 "HeightLines" "twiceHeight" "I"] ++ wsX00)
def wsX0_cornerSample : List Cond := .code yX0_cornerSample cX0_cornerSample 4 (some .int) :: ([.methodLink RX0 64 yX0_sampleAt, .instanceMethod yX0_sampleAt, .selects RX0 yX0_sampleAt yX0_sampleAt, .initialized RX0, .code yX0_sampleAt cX0_sampleAt 3 (some .int), .fieldLink RX0 9 "HeightLines" "columns" "I"] ++ wsX00)
def wsX0_isAbove : List Cond := .code yX0_isAbove cX0_isAbove 2 (some .boolean) :: ([.fieldLink RX0 19 "HeightLines" "samples" "[I", .fieldLink RX0 16 "HeightLines" "twiceHeight" "I"] ++ wsX00)
def wsX0_cornersAbove : List Cond := .code yX0_cornersAbove cX0_cornersAbove 5 (some .int) :: ([.methodLink RX0 154 yX0_cornerSample, .instanceMethod yX0_cornerSample, .selects RX0 yX0_cornerSample yX0_cornerSample, .initialized RX0, .code yX0_cornerSample cX0_cornerSample 4 (some .int), .methodLink RX0 64 yX0_sampleAt, .instanceMethod yX0_sampleAt, .selects RX0 yX0_sampleAt yX0_sampleAt, .code yX0_sampleAt cX0_sampleAt 3 (some .int), .fieldLink RX0 9 "HeightLines" "columns" "I", .methodLink RX0 130 yX0_isAbove, .instanceMethod yX0_isAbove, .selects RX0 yX0_isAbove yX0_isAbove, .code yX0_isAbove cX0_isAbove 2 (some .boolean), .fieldLink RX0 19 "HeightLines" "samples" "[I", .fieldLink RX0 16 "HeightLines" "twiceHeight" "I"] ++ wsX00)
def wsX0_isMiddleAbove : List Cond := .code yX0_isMiddleAbove cX0_isMiddleAbove 17 (some .boolean) :: ([.fieldLink RX0 19 "HeightLines" "samples" "[I", .constantLong RX0 169 (2), .fieldLink RX0 16 "HeightLines" "twiceHeight" "I", .methodLink RX0 154 yX0_cornerSample, .instanceMethod yX0_cornerSample, .selects RX0 yX0_cornerSample yX0_cornerSample, .initialized RX0, .code yX0_cornerSample cX0_cornerSample 4 (some .int), .methodLink RX0 64 yX0_sampleAt, .instanceMethod yX0_sampleAt, .selects RX0 yX0_sampleAt yX0_sampleAt, .code yX0_sampleAt cX0_sampleAt 3 (some .int), .fieldLink RX0 9 "HeightLines" "columns" "I"] ++ wsX00)
def wsX0_hasCorner : List Cond := .code yX0_hasCorner cX0_hasCorner 2 (some .boolean) :: ([])
def wsX0_entersAt : List Cond := .code yX0_entersAt cX0_entersAt 2 (some .boolean) :: ([.methodLink RX0 163 yX0_hasCorner, .static yX0_hasCorner, .initialized RX0, .code yX0_hasCorner cX0_hasCorner 2 (some .boolean)])
def wsX0_rightwardEdge : List Cond := .code yX0_rightwardEdge cX0_rightwardEdge 3 (some .int) :: ([.fieldLink RX0 9 "HeightLines" "columns" "I"] ++ wsX00)
def wsX0_rightwardEdges : List Cond := .code yX0_rightwardEdges cX0_rightwardEdges 1 (some .int) :: ([.fieldLink RX0 13 "HeightLines" "rows" "I", .fieldLink RX0 9 "HeightLines" "columns" "I"] ++ wsX00)
def wsX0_upwardEdge : List Cond := .code yX0_upwardEdge cX0_upwardEdge 3 (some .int) :: ([.fieldLink RX0 9 "HeightLines" "columns" "I", .methodLink RX0 127 yX0_rightwardEdges, .instanceMethod yX0_rightwardEdges, .selects RX0 yX0_rightwardEdges yX0_rightwardEdges, .initialized RX0, .code yX0_rightwardEdges cX0_rightwardEdges 1 (some .int), .fieldLink RX0 13 "HeightLines" "rows" "I"] ++ wsX00)
def wsX0_sideEdge : List Cond := .code yX0_sideEdge cX0_sideEdge 4 (some .int) :: ([.methodLink RX0 157 yX0_rightwardEdge, .instanceMethod yX0_rightwardEdge, .selects RX0 yX0_rightwardEdge yX0_rightwardEdge, .initialized RX0, .code yX0_rightwardEdge cX0_rightwardEdge 3 (some .int), .fieldLink RX0 9 "HeightLines" "columns" "I", .methodLink RX0 160 yX0_upwardEdge, .instanceMethod yX0_upwardEdge, .selects RX0 yX0_upwardEdge yX0_upwardEdge, .code yX0_upwardEdge cX0_upwardEdge 3 (some .int), .methodLink RX0 127 yX0_rightwardEdges, .instanceMethod yX0_rightwardEdges, .selects RX0 yX0_rightwardEdges yX0_rightwardEdges, .code yX0_rightwardEdges cX0_rightwardEdges 1 (some .int), .fieldLink RX0 13 "HeightLines" "rows" "I"] ++ wsX00)
def wsX0_leavesAt : List Cond := .code yX0_leavesAt cX0_leavesAt 2 (some .boolean) :: ([.methodLink RX0 163 yX0_hasCorner, .static yX0_hasCorner, .initialized RX0, .code yX0_hasCorner cX0_hasCorner 2 (some .boolean)])
def wsX0_exitFrom : List Cond := .code yX0_exitFrom cX0_exitFrom 5 (some .int) :: ([.methodLink RX0 166 yX0_leavesAt, .static yX0_leavesAt, .initialized RX0, .code yX0_leavesAt cX0_leavesAt 2 (some .boolean), .methodLink RX0 163 yX0_hasCorner, .static yX0_hasCorner, .code yX0_hasCorner cX0_hasCorner 2 (some .boolean)])
def wsX0_drawCell_r1 : List Cond := [Cond.fieldLink RX0 23 "HeightLines" "next" "[I", Cond.fieldLink RX0 26 "HeightLines" "before" "[I", Cond.methodLink RX0 137 yX0_cornersAbove, Cond.instanceMethod yX0_cornersAbove, Cond.selects RX0 yX0_cornersAbove yX0_cornersAbove, Cond.initialized RX0, Cond.code yX0_cornersAbove cX0_cornersAbove 5 (some .int), Cond.methodLink RX0 154 yX0_cornerSample, Cond.instanceMethod yX0_cornerSample, Cond.selects RX0 yX0_cornerSample yX0_cornerSample, Cond.code yX0_cornerSample cX0_cornerSample 4 (some .int), Cond.methodLink RX0 64 yX0_sampleAt, Cond.instanceMethod yX0_sampleAt, Cond.selects RX0 yX0_sampleAt yX0_sampleAt, Cond.code yX0_sampleAt cX0_sampleAt 3 (some .int), Cond.fieldLink RX0 9 "HeightLines" "columns" "I", Cond.methodLink RX0 130 yX0_isAbove, Cond.instanceMethod yX0_isAbove, Cond.selects RX0 yX0_isAbove yX0_isAbove, Cond.code yX0_isAbove cX0_isAbove 2 (some .boolean), Cond.fieldLink RX0 19 "HeightLines" "samples" "[I", Cond.fieldLink RX0 16 "HeightLines" "twiceHeight" "I", Cond.methodLink RX0 140 yX0_isMiddleAbove, Cond.instanceMethod yX0_isMiddleAbove]
def wsX0_drawCell_r2 : List Cond := [Cond.selects RX0 yX0_isMiddleAbove yX0_isMiddleAbove, Cond.code yX0_isMiddleAbove cX0_isMiddleAbove 17 (some .boolean), Cond.constantLong RX0 169 (2), Cond.methodLink RX0 144 yX0_entersAt, Cond.static yX0_entersAt, Cond.code yX0_entersAt cX0_entersAt 2 (some .boolean), Cond.methodLink RX0 163 yX0_hasCorner, Cond.static yX0_hasCorner, Cond.code yX0_hasCorner cX0_hasCorner 2 (some .boolean), Cond.methodLink RX0 147 yX0_sideEdge, Cond.instanceMethod yX0_sideEdge, Cond.selects RX0 yX0_sideEdge yX0_sideEdge, Cond.code yX0_sideEdge cX0_sideEdge 4 (some .int), Cond.methodLink RX0 157 yX0_rightwardEdge, Cond.instanceMethod yX0_rightwardEdge, Cond.selects RX0 yX0_rightwardEdge yX0_rightwardEdge, Cond.code yX0_rightwardEdge cX0_rightwardEdge 3 (some .int), Cond.methodLink RX0 160 yX0_upwardEdge, Cond.instanceMethod yX0_upwardEdge, Cond.selects RX0 yX0_upwardEdge yX0_upwardEdge, Cond.code yX0_upwardEdge cX0_upwardEdge 3 (some .int), Cond.methodLink RX0 127 yX0_rightwardEdges, Cond.instanceMethod yX0_rightwardEdges, Cond.selects RX0 yX0_rightwardEdges yX0_rightwardEdges]
def wsX0_drawCell_r3 : List Cond := [Cond.code yX0_rightwardEdges cX0_rightwardEdges 1 (some .int), Cond.fieldLink RX0 13 "HeightLines" "rows" "I", Cond.methodLink RX0 151 yX0_exitFrom, Cond.static yX0_exitFrom, Cond.code yX0_exitFrom cX0_exitFrom 5 (some .int), Cond.methodLink RX0 166 yX0_leavesAt, Cond.static yX0_leavesAt, Cond.code yX0_leavesAt cX0_leavesAt 2 (some .boolean)]
def wsX0_drawCell : List Cond := .code yX0_drawCell cX0_drawCell 9 none :: ((wsX0_drawCell_r1 ++ (wsX0_drawCell_r2 ++ wsX0_drawCell_r3)) ++ wsX00)
def wsX0_drawLines_r1 : List Cond := [Cond.fieldLink RX0 23 "HeightLines" "next" "[I", Cond.fieldLink RX0 26 "HeightLines" "before" "[I", Cond.fieldLink RX0 13 "HeightLines" "rows" "I", Cond.fieldLink RX0 9 "HeightLines" "columns" "I", Cond.methodLink RX0 48 yJ7_fill_53178, Cond.static yJ7_fill_53178, Cond.initialized RJ7, Cond.code yJ7_fill_53178 cJ7_fill_53178 4 none, Cond.methodLink RX0 133 yX0_drawCell, Cond.instanceMethod yX0_drawCell, Cond.selects RX0 yX0_drawCell yX0_drawCell, Cond.initialized RX0, Cond.code yX0_drawCell cX0_drawCell 9 none, Cond.methodLink RX0 137 yX0_cornersAbove, Cond.instanceMethod yX0_cornersAbove, Cond.selects RX0 yX0_cornersAbove yX0_cornersAbove, Cond.code yX0_cornersAbove cX0_cornersAbove 5 (some .int), Cond.methodLink RX0 154 yX0_cornerSample, Cond.instanceMethod yX0_cornerSample, Cond.selects RX0 yX0_cornerSample yX0_cornerSample, Cond.code yX0_cornerSample cX0_cornerSample 4 (some .int), Cond.methodLink RX0 64 yX0_sampleAt, Cond.instanceMethod yX0_sampleAt, Cond.selects RX0 yX0_sampleAt yX0_sampleAt]
def wsX0_drawLines_r2 : List Cond := [Cond.code yX0_sampleAt cX0_sampleAt 3 (some .int), Cond.methodLink RX0 130 yX0_isAbove, Cond.instanceMethod yX0_isAbove, Cond.selects RX0 yX0_isAbove yX0_isAbove, Cond.code yX0_isAbove cX0_isAbove 2 (some .boolean), Cond.fieldLink RX0 19 "HeightLines" "samples" "[I", Cond.fieldLink RX0 16 "HeightLines" "twiceHeight" "I", Cond.methodLink RX0 140 yX0_isMiddleAbove, Cond.instanceMethod yX0_isMiddleAbove, Cond.selects RX0 yX0_isMiddleAbove yX0_isMiddleAbove, Cond.code yX0_isMiddleAbove cX0_isMiddleAbove 17 (some .boolean), Cond.constantLong RX0 169 (2), Cond.methodLink RX0 144 yX0_entersAt, Cond.static yX0_entersAt, Cond.code yX0_entersAt cX0_entersAt 2 (some .boolean), Cond.methodLink RX0 163 yX0_hasCorner, Cond.static yX0_hasCorner, Cond.code yX0_hasCorner cX0_hasCorner 2 (some .boolean), Cond.methodLink RX0 147 yX0_sideEdge, Cond.instanceMethod yX0_sideEdge, Cond.selects RX0 yX0_sideEdge yX0_sideEdge, Cond.code yX0_sideEdge cX0_sideEdge 4 (some .int), Cond.methodLink RX0 157 yX0_rightwardEdge, Cond.instanceMethod yX0_rightwardEdge]
def wsX0_drawLines_r3 : List Cond := [Cond.selects RX0 yX0_rightwardEdge yX0_rightwardEdge, Cond.code yX0_rightwardEdge cX0_rightwardEdge 3 (some .int), Cond.methodLink RX0 160 yX0_upwardEdge, Cond.instanceMethod yX0_upwardEdge, Cond.selects RX0 yX0_upwardEdge yX0_upwardEdge, Cond.code yX0_upwardEdge cX0_upwardEdge 3 (some .int), Cond.methodLink RX0 127 yX0_rightwardEdges, Cond.instanceMethod yX0_rightwardEdges, Cond.selects RX0 yX0_rightwardEdges yX0_rightwardEdges, Cond.code yX0_rightwardEdges cX0_rightwardEdges 1 (some .int), Cond.methodLink RX0 151 yX0_exitFrom, Cond.static yX0_exitFrom, Cond.code yX0_exitFrom cX0_exitFrom 5 (some .int), Cond.methodLink RX0 166 yX0_leavesAt, Cond.static yX0_leavesAt, Cond.code yX0_leavesAt cX0_leavesAt 2 (some .boolean)]
def wsX0_drawLines : List Cond := .code yX0_drawLines cX0_drawLines 3 none :: ((wsX0_drawLines_r1 ++ (wsX0_drawLines_r2 ++ wsX0_drawLines_r3)) ++ wsX00)
def wsX0_edgeCount : List Cond := .code yX0_edgeCount cX0_edgeCount 1 (some .int) :: ([.fieldLink RX0 13 "HeightLines" "rows" "I", .fieldLink RX0 9 "HeightLines" "columns" "I", .methodLink RX0 127 yX0_rightwardEdges, .instanceMethod yX0_rightwardEdges, .selects RX0 yX0_rightwardEdges yX0_rightwardEdges, .initialized RX0, .code yX0_rightwardEdges cX0_rightwardEdges 1 (some .int)] ++ wsX00)
def wsX0_gatherChain : List Cond := .code yX0_gatherChain cX0_gatherChain 5 none :: ([.fieldLink RX0 32 "HeightLines" "starts" "[I", .fieldLink RX0 41 "HeightLines" "chains" "I", .fieldLink RX0 35 "HeightLines" "owner" "[I", .fieldLink RX0 29 "HeightLines" "order" "[I", .fieldLink RX0 23 "HeightLines" "next" "[I"] ++ wsX00)
def wsX0_gatherOpenChains : List Cond := .code yX0_gatherOpenChains cX0_gatherOpenChains 2 none :: ([.fieldLink RX0 23 "HeightLines" "next" "[I", .fieldLink RX0 26 "HeightLines" "before" "[I", .fieldLink RX0 41 "HeightLines" "chains" "I", .fieldLink RX0 38 "HeightLines" "openChains" "I", .methodLink RX0 86 yX0_edgeCount, .instanceMethod yX0_edgeCount, .selects RX0 yX0_edgeCount yX0_edgeCount, .initialized RX0, .code yX0_edgeCount cX0_edgeCount 1 (some .int), .fieldLink RX0 13 "HeightLines" "rows" "I", .fieldLink RX0 9 "HeightLines" "columns" "I", .methodLink RX0 127 yX0_rightwardEdges, .instanceMethod yX0_rightwardEdges, .selects RX0 yX0_rightwardEdges yX0_rightwardEdges, .code yX0_rightwardEdges cX0_rightwardEdges 1 (some .int), .methodLink RX0 171 yX0_gatherChain, .instanceMethod yX0_gatherChain, .selects RX0 yX0_gatherChain yX0_gatherChain, .code yX0_gatherChain cX0_gatherChain 5 none, .fieldLink RX0 32 "HeightLines" "starts" "[I", .fieldLink RX0 35 "HeightLines" "owner" "[I", .fieldLink RX0 29 "HeightLines" "order" "[I"] ++ wsX00)
def wsX0_gatherClosedChains : List Cond := .code yX0_gatherClosedChains cX0_gatherClosedChains 2 none :: ([.fieldLink RX0 23 "HeightLines" "next" "[I", .fieldLink RX0 35 "HeightLines" "owner" "[I", .methodLink RX0 86 yX0_edgeCount, .instanceMethod yX0_edgeCount, .selects RX0 yX0_edgeCount yX0_edgeCount, .initialized RX0, .code yX0_edgeCount cX0_edgeCount 1 (some .int), .fieldLink RX0 13 "HeightLines" "rows" "I", .fieldLink RX0 9 "HeightLines" "columns" "I", .methodLink RX0 127 yX0_rightwardEdges, .instanceMethod yX0_rightwardEdges, .selects RX0 yX0_rightwardEdges yX0_rightwardEdges, .code yX0_rightwardEdges cX0_rightwardEdges 1 (some .int), .methodLink RX0 171 yX0_gatherChain, .instanceMethod yX0_gatherChain, .selects RX0 yX0_gatherChain yX0_gatherChain, .code yX0_gatherChain cX0_gatherChain 5 none, .fieldLink RX0 32 "HeightLines" "starts" "[I", .fieldLink RX0 41 "HeightLines" "chains" "I", .fieldLink RX0 29 "HeightLines" "order" "[I"] ++ wsX00)
def wsX0_make_r1 : List Cond := [Cond.fieldLink RX0 41 "HeightLines" "chains" "I", Cond.methodLink RX0 54 yX0_forgetChains, Cond.instanceMethod yX0_forgetChains, Cond.selects RX0 yX0_forgetChains yX0_forgetChains, Cond.initialized RX0, Cond.code yX0_forgetChains cX0_forgetChains 1 none, Cond.fieldLink RX0 38 "HeightLines" "openChains" "I", Cond.fieldLink RX0 35 "HeightLines" "owner" "[I", Cond.methodLink RX0 48 yJ7_fill_53178, Cond.static yJ7_fill_53178, Cond.initialized RJ7, Cond.code yJ7_fill_53178 cJ7_fill_53178 4 none, Cond.methodLink RX0 70 yX0_drawLines, Cond.instanceMethod yX0_drawLines, Cond.selects RX0 yX0_drawLines yX0_drawLines, Cond.code yX0_drawLines cX0_drawLines 3 none, Cond.fieldLink RX0 23 "HeightLines" "next" "[I", Cond.fieldLink RX0 26 "HeightLines" "before" "[I", Cond.fieldLink RX0 13 "HeightLines" "rows" "I", Cond.fieldLink RX0 9 "HeightLines" "columns" "I", Cond.methodLink RX0 133 yX0_drawCell, Cond.instanceMethod yX0_drawCell, Cond.selects RX0 yX0_drawCell yX0_drawCell, Cond.code yX0_drawCell cX0_drawCell 9 none]
def wsX0_make_r2 : List Cond := [Cond.methodLink RX0 137 yX0_cornersAbove, Cond.instanceMethod yX0_cornersAbove, Cond.selects RX0 yX0_cornersAbove yX0_cornersAbove, Cond.code yX0_cornersAbove cX0_cornersAbove 5 (some .int), Cond.methodLink RX0 154 yX0_cornerSample, Cond.instanceMethod yX0_cornerSample, Cond.selects RX0 yX0_cornerSample yX0_cornerSample, Cond.code yX0_cornerSample cX0_cornerSample 4 (some .int), Cond.methodLink RX0 64 yX0_sampleAt, Cond.instanceMethod yX0_sampleAt, Cond.selects RX0 yX0_sampleAt yX0_sampleAt, Cond.code yX0_sampleAt cX0_sampleAt 3 (some .int), Cond.methodLink RX0 130 yX0_isAbove, Cond.instanceMethod yX0_isAbove, Cond.selects RX0 yX0_isAbove yX0_isAbove, Cond.code yX0_isAbove cX0_isAbove 2 (some .boolean), Cond.fieldLink RX0 19 "HeightLines" "samples" "[I", Cond.fieldLink RX0 16 "HeightLines" "twiceHeight" "I", Cond.methodLink RX0 140 yX0_isMiddleAbove, Cond.instanceMethod yX0_isMiddleAbove, Cond.selects RX0 yX0_isMiddleAbove yX0_isMiddleAbove, Cond.code yX0_isMiddleAbove cX0_isMiddleAbove 17 (some .boolean), Cond.constantLong RX0 169 (2), Cond.methodLink RX0 144 yX0_entersAt]
def wsX0_make_r3 : List Cond := [Cond.static yX0_entersAt, Cond.code yX0_entersAt cX0_entersAt 2 (some .boolean), Cond.methodLink RX0 163 yX0_hasCorner, Cond.static yX0_hasCorner, Cond.code yX0_hasCorner cX0_hasCorner 2 (some .boolean), Cond.methodLink RX0 147 yX0_sideEdge, Cond.instanceMethod yX0_sideEdge, Cond.selects RX0 yX0_sideEdge yX0_sideEdge, Cond.code yX0_sideEdge cX0_sideEdge 4 (some .int), Cond.methodLink RX0 157 yX0_rightwardEdge, Cond.instanceMethod yX0_rightwardEdge, Cond.selects RX0 yX0_rightwardEdge yX0_rightwardEdge, Cond.code yX0_rightwardEdge cX0_rightwardEdge 3 (some .int), Cond.methodLink RX0 160 yX0_upwardEdge, Cond.instanceMethod yX0_upwardEdge, Cond.selects RX0 yX0_upwardEdge yX0_upwardEdge, Cond.code yX0_upwardEdge cX0_upwardEdge 3 (some .int), Cond.methodLink RX0 127 yX0_rightwardEdges, Cond.instanceMethod yX0_rightwardEdges, Cond.selects RX0 yX0_rightwardEdges yX0_rightwardEdges, Cond.code yX0_rightwardEdges cX0_rightwardEdges 1 (some .int), Cond.methodLink RX0 151 yX0_exitFrom, Cond.static yX0_exitFrom, Cond.code yX0_exitFrom cX0_exitFrom 5 (some .int)]
def wsX0_make_r4 : List Cond := [Cond.methodLink RX0 166 yX0_leavesAt, Cond.static yX0_leavesAt, Cond.code yX0_leavesAt cX0_leavesAt 2 (some .boolean), Cond.methodLink RX0 73 yX0_gatherOpenChains, Cond.instanceMethod yX0_gatherOpenChains, Cond.selects RX0 yX0_gatherOpenChains yX0_gatherOpenChains, Cond.code yX0_gatherOpenChains cX0_gatherOpenChains 2 none, Cond.methodLink RX0 86 yX0_edgeCount, Cond.instanceMethod yX0_edgeCount, Cond.selects RX0 yX0_edgeCount yX0_edgeCount, Cond.code yX0_edgeCount cX0_edgeCount 1 (some .int), Cond.methodLink RX0 171 yX0_gatherChain, Cond.instanceMethod yX0_gatherChain, Cond.selects RX0 yX0_gatherChain yX0_gatherChain, Cond.code yX0_gatherChain cX0_gatherChain 5 none, Cond.fieldLink RX0 32 "HeightLines" "starts" "[I", Cond.fieldLink RX0 29 "HeightLines" "order" "[I", Cond.methodLink RX0 76 yX0_gatherClosedChains, Cond.instanceMethod yX0_gatherClosedChains, Cond.selects RX0 yX0_gatherClosedChains yX0_gatherClosedChains, Cond.code yX0_gatherClosedChains cX0_gatherClosedChains 2 none]
def wsX0_make : List Cond := .code yX0_make cX0_make 1 (some .int) :: ((wsX0_make_r1 ++ (wsX0_make_r2 ++ (wsX0_make_r3 ++ wsX0_make_r4))) ++ wsX00)
def wsX0_hasChain : List Cond := .code yX0_hasChain cX0_hasChain 2 (some .boolean) :: ([.fieldLink RX0 41 "HeightLines" "chains" "I"] ++ wsX00)
def wsX0_size : List Cond := .code yX0_size cX0_size 2 (some .int) :: ([.fieldLink RX0 32 "HeightLines" "starts" "[I", .methodLink RX0 79 yX0_hasChain, .instanceMethod yX0_hasChain, .selects RX0 yX0_hasChain yX0_hasChain, .initialized RX0, .code yX0_hasChain cX0_hasChain 2 (some .boolean), .fieldLink RX0 41 "HeightLines" "chains" "I"] ++ wsX00)
def wsX0_isClosed : List Cond := .code yX0_isClosed cX0_isClosed 2 (some .boolean) :: ([.fieldLink RX0 38 "HeightLines" "openChains" "I", .methodLink RX0 79 yX0_hasChain, .instanceMethod yX0_hasChain, .selects RX0 yX0_hasChain yX0_hasChain, .initialized RX0, .code yX0_hasChain cX0_hasChain 2 (some .boolean), .fieldLink RX0 41 "HeightLines" "chains" "I"] ++ wsX00)
def wsX0_edge : List Cond := .code yX0_edge cX0_edge 3 (some .int) :: ([.fieldLink RX0 29 "HeightLines" "order" "[I", .fieldLink RX0 32 "HeightLines" "starts" "[I", .methodLink RX0 82 yX0_size, .instanceMethod yX0_size, .selects RX0 yX0_size yX0_size, .initialized RX0, .code yX0_size cX0_size 2 (some .int), .methodLink RX0 79 yX0_hasChain, .instanceMethod yX0_hasChain, .selects RX0 yX0_hasChain yX0_hasChain, .code yX0_hasChain cX0_hasChain 2 (some .boolean), .fieldLink RX0 41 "HeightLines" "chains" "I"] ++ wsX00)
def wsX0_firstSample : List Cond := .code yX0_firstSample cX0_firstSample 2 (some .int) :: ([.fieldLink RX0 9 "HeightLines" "columns" "I", .methodLink RX0 127 yX0_rightwardEdges, .instanceMethod yX0_rightwardEdges, .selects RX0 yX0_rightwardEdges yX0_rightwardEdges, .initialized RX0, .code yX0_rightwardEdges cX0_rightwardEdges 1 (some .int), .fieldLink RX0 13 "HeightLines" "rows" "I"] ++ wsX00)
def wsX0_secondSample : List Cond := .code yX0_secondSample cX0_secondSample 2 (some .int) :: ([.fieldLink RX0 9 "HeightLines" "columns" "I", .methodLink RX0 96 yX0_firstSample, .instanceMethod yX0_firstSample, .selects RX0 yX0_firstSample yX0_firstSample, .initialized RX0, .code yX0_firstSample cX0_firstSample 2 (some .int), .methodLink RX0 127 yX0_rightwardEdges, .instanceMethod yX0_rightwardEdges, .selects RX0 yX0_rightwardEdges yX0_rightwardEdges, .code yX0_rightwardEdges cX0_rightwardEdges 1 (some .int), .fieldLink RX0 13 "HeightLines" "rows" "I"] ++ wsX00)
def wsX0_isCrossed : List Cond := .code yX0_isCrossed cX0_isCrossed 2 (some .boolean) :: ([.methodLink RX0 96 yX0_firstSample, .instanceMethod yX0_firstSample, .selects RX0 yX0_firstSample yX0_firstSample, .initialized RX0, .code yX0_firstSample cX0_firstSample 2 (some .int), .fieldLink RX0 9 "HeightLines" "columns" "I", .methodLink RX0 127 yX0_rightwardEdges, .instanceMethod yX0_rightwardEdges, .selects RX0 yX0_rightwardEdges yX0_rightwardEdges, .code yX0_rightwardEdges cX0_rightwardEdges 1 (some .int), .fieldLink RX0 13 "HeightLines" "rows" "I", .methodLink RX0 130 yX0_isAbove, .instanceMethod yX0_isAbove, .selects RX0 yX0_isAbove yX0_isAbove, .code yX0_isAbove cX0_isAbove 2 (some .boolean), .fieldLink RX0 19 "HeightLines" "samples" "[I", .fieldLink RX0 16 "HeightLines" "twiceHeight" "I", .methodLink RX0 99 yX0_secondSample, .instanceMethod yX0_secondSample, .selects RX0 yX0_secondSample yX0_secondSample, .code yX0_secondSample cX0_secondSample 2 (some .int)] ++ wsX00)
def wsX0_greatestDivisor : List Cond := .code yX0_greatestDivisor cX0_greatestDivisor 6 (some .int) :: ([])
def wsX0_crossing_r1 : List Cond := [Cond.classLink RX0 93 "java/util/NoSuchElementException", Cond.initialized "java/util/NoSuchElementException", Cond.fieldLink RX0 19 "HeightLines" "samples" "[I", Cond.fieldLink RX0 16 "HeightLines" "twiceHeight" "I", Cond.methodLink RX0 102 Lib.Math.abs.name, Cond.static Lib.Math.abs.name, Cond.initialized "java/lang/Math", Cond.code Lib.Math.abs.name Lib.Math.abs.code 1 (some .int), Cond.methodLink RX0 86 yX0_edgeCount, Cond.instanceMethod yX0_edgeCount, Cond.selects RX0 yX0_edgeCount yX0_edgeCount, Cond.initialized RX0, Cond.code yX0_edgeCount cX0_edgeCount 1 (some .int), Cond.fieldLink RX0 13 "HeightLines" "rows" "I", Cond.fieldLink RX0 9 "HeightLines" "columns" "I", Cond.methodLink RX0 127 yX0_rightwardEdges, Cond.instanceMethod yX0_rightwardEdges, Cond.selects RX0 yX0_rightwardEdges yX0_rightwardEdges, Cond.code yX0_rightwardEdges cX0_rightwardEdges 1 (some .int), Cond.methodLink RX0 90 yX0_isCrossed, Cond.instanceMethod yX0_isCrossed, Cond.selects RX0 yX0_isCrossed yX0_isCrossed, Cond.code yX0_isCrossed cX0_isCrossed 2 (some .boolean), Cond.methodLink RX0 96 yX0_firstSample]
def wsX0_crossing_r2 : List Cond := [Cond.instanceMethod yX0_firstSample, Cond.selects RX0 yX0_firstSample yX0_firstSample, Cond.code yX0_firstSample cX0_firstSample 2 (some .int), Cond.methodLink RX0 130 yX0_isAbove, Cond.instanceMethod yX0_isAbove, Cond.selects RX0 yX0_isAbove yX0_isAbove, Cond.code yX0_isAbove cX0_isAbove 2 (some .boolean), Cond.methodLink RX0 99 yX0_secondSample, Cond.instanceMethod yX0_secondSample, Cond.selects RX0 yX0_secondSample yX0_secondSample, Cond.code yX0_secondSample cX0_secondSample 2 (some .int), Cond.methodLink RX0 107 yX0_greatestDivisor, Cond.static yX0_greatestDivisor, Cond.code yX0_greatestDivisor cX0_greatestDivisor 6 (some .int)]
def wsX0_crossing : List Cond := .code yX0_crossing cX0_crossing 7 (some .int) :: ((wsX0_crossing_r1 ++ wsX0_crossing_r2) ++ wsX00 ++ (vx_at0 RX0 95 "java/util/NoSuchElementException" ["java/lang/RuntimeException", "java/lang/Exception"]).filter goodWord)
def wsX0_withinInRow : List Cond := .code yX0_withinInRow cX0_withinInRow 6 (some .int) :: ([.fieldLink RX0 9 "HeightLines" "columns" "I", .fieldLink RX0 35 "HeightLines" "owner" "[I", .methodLink RX0 157 yX0_rightwardEdge, .instanceMethod yX0_rightwardEdge, .selects RX0 yX0_rightwardEdge yX0_rightwardEdge, .initialized RX0, .code yX0_rightwardEdge cX0_rightwardEdge 3 (some .int)] ++ wsX00)
def wsX0_within : List Cond := .code yX0_within cX0_within 4 (some .int) :: ([.fieldLink RX0 13 "HeightLines" "rows" "I", .methodLink RX0 110 yX0_isClosed, .instanceMethod yX0_isClosed, .selects RX0 yX0_isClosed yX0_isClosed, .initialized RX0, .code yX0_isClosed cX0_isClosed 2 (some .boolean), .fieldLink RX0 38 "HeightLines" "openChains" "I", .methodLink RX0 79 yX0_hasChain, .instanceMethod yX0_hasChain, .selects RX0 yX0_hasChain yX0_hasChain, .code yX0_hasChain cX0_hasChain 2 (some .boolean), .fieldLink RX0 41 "HeightLines" "chains" "I", .methodLink RX0 113 yX0_withinInRow, .instanceMethod yX0_withinInRow, .selects RX0 yX0_withinInRow yX0_withinInRow, .code yX0_withinInRow cX0_withinInRow 6 (some .int), .fieldLink RX0 9 "HeightLines" "columns" "I", .fieldLink RX0 35 "HeightLines" "owner" "[I", .methodLink RX0 157 yX0_rightwardEdge, .instanceMethod yX0_rightwardEdge, .selects RX0 yX0_rightwardEdge yX0_rightwardEdge, .code yX0_rightwardEdge cX0_rightwardEdge 3 (some .int)] ++ wsX00)
def wsX0_crossed_r1 : List Cond := [Cond.methodLink RX0 86 yX0_edgeCount, Cond.instanceMethod yX0_edgeCount, Cond.selects RX0 yX0_edgeCount yX0_edgeCount, Cond.initialized RX0, Cond.code yX0_edgeCount cX0_edgeCount 1 (some .int), Cond.fieldLink RX0 13 "HeightLines" "rows" "I", Cond.fieldLink RX0 9 "HeightLines" "columns" "I", Cond.methodLink RX0 127 yX0_rightwardEdges, Cond.instanceMethod yX0_rightwardEdges, Cond.selects RX0 yX0_rightwardEdges yX0_rightwardEdges, Cond.code yX0_rightwardEdges cX0_rightwardEdges 1 (some .int), Cond.methodLink RX0 90 yX0_isCrossed, Cond.instanceMethod yX0_isCrossed, Cond.selects RX0 yX0_isCrossed yX0_isCrossed, Cond.code yX0_isCrossed cX0_isCrossed 2 (some .boolean), Cond.methodLink RX0 96 yX0_firstSample, Cond.instanceMethod yX0_firstSample, Cond.selects RX0 yX0_firstSample yX0_firstSample, Cond.code yX0_firstSample cX0_firstSample 2 (some .int), Cond.methodLink RX0 130 yX0_isAbove, Cond.instanceMethod yX0_isAbove, Cond.selects RX0 yX0_isAbove yX0_isAbove, Cond.code yX0_isAbove cX0_isAbove 2 (some .boolean), Cond.fieldLink RX0 19 "HeightLines" "samples" "[I"]
def wsX0_crossed_r2 : List Cond := [Cond.fieldLink RX0 16 "HeightLines" "twiceHeight" "I", Cond.methodLink RX0 99 yX0_secondSample, Cond.instanceMethod yX0_secondSample, Cond.selects RX0 yX0_secondSample yX0_secondSample, Cond.code yX0_secondSample cX0_secondSample 2 (some .int)]
def wsX0_crossed : List Cond := .code yX0_crossed cX0_crossed 3 (some .int) :: ((wsX0_crossed_r1 ++ wsX0_crossed_r2) ++ wsX00)
def wsX1_init : List Cond := .code yX1_init cX1_init 1 none :: ([.methodLink RX1 1 objectInit, .instanceMethod objectInit, .code objectInit ⟨#[0xb1]⟩ 1 none, .fieldLink RX1 7 "HeightLinesModel" "w" "I", .fieldLink RX1 13 "HeightLinesModel" "h" "I", .fieldLink RX1 16 "HeightLinesModel" "twice" "I", .arrayClass .int, .fieldLink RX1 19 "HeightLinesModel" "samples" "[I", .fieldLink RX1 23 "HeightLinesModel" "edges" "[I", .fieldLink RX1 26 "HeightLinesModel" "begins" "[I", .arrayClass .boolean, .fieldLink RX1 29 "HeightLinesModel" "closed" "[Z", .fieldLink RX1 33 "HeightLinesModel" "used" "[Z"] ++ wsX10)
def wsX1_thrown : List Cond := .code yX1_thrown cX1_thrown 1 (some .int) :: ([.fieldLink RX1 36 "HeightLinesModel" "thrown" "I"] ++ wsX10)
def wsX1_field : List Cond := .code yX1_field cX1_field 4 (some .boolean) :: ([.fieldLink RX1 36 "HeightLinesModel" "thrown" "I", .fieldLink RX1 7 "HeightLinesModel" "w" "I", .fieldLink RX1 13 "HeightLinesModel" "h" "I", .fieldLink RX1 39 "HeightLinesModel" "chains" "I", .fieldLink RX1 19 "HeightLinesModel" "samples" "[I"] ++ wsX10)
def wsX1_set : List Cond := .code yX1_set cX1_set 4 (some .boolean) :: ([.fieldLink RX1 36 "HeightLinesModel" "thrown" "I", .fieldLink RX1 7 "HeightLinesModel" "w" "I", .fieldLink RX1 13 "HeightLinesModel" "h" "I", .constant RX1 42 (-1000000), .constant RX1 43 (1000000), .fieldLink RX1 19 "HeightLinesModel" "samples" "[I"] ++ wsX10)
def wsX1_row : List Cond := .code yX1_row cX1_row 7 (some .boolean) :: ([.fieldLink RX1 36 "HeightLinesModel" "thrown" "I", .fieldLink RX1 13 "HeightLinesModel" "h" "I", .fieldLink RX1 7 "HeightLinesModel" "w" "I", .fieldLink RX1 19 "HeightLinesModel" "samples" "[I", .constantLong RX1 44 (-1000000), .constant RX1 42 (-1000000), .constantLong RX1 46 (1000000), .constant RX1 43 (1000000)] ++ wsX10)
def wsX1_height : List Cond := .code yX1_height cX1_height 2 (some .boolean) :: ([.fieldLink RX1 36 "HeightLinesModel" "thrown" "I", .constant RX1 48 (-1999999), .constant RX1 49 (1999999), .fieldLink RX1 16 "HeightLinesModel" "twice" "I"] ++ wsX10)
def wsX1_all : List Cond := .code yX1_all cX1_all 1 (some .int) :: ([.fieldLink RX1 13 "HeightLinesModel" "h" "I", .fieldLink RX1 7 "HeightLinesModel" "w" "I"] ++ wsX10)
def wsX1_isAcross : List Cond := .code yX1_isAcross cX1_isAcross 2 (some .boolean) :: ([.fieldLink RX1 13 "HeightLinesModel" "h" "I", .fieldLink RX1 7 "HeightLinesModel" "w" "I"] ++ wsX10)
def wsX1_xOf : List Cond := .code yX1_xOf cX1_xOf 2 (some .int) :: ([.fieldLink RX1 7 "HeightLinesModel" "w" "I", .fieldLink RX1 13 "HeightLinesModel" "h" "I", .methodLink RX1 50 yX1_isAcross, .instanceMethod yX1_isAcross, .selects RX1 yX1_isAcross yX1_isAcross, .initialized RX1, .code yX1_isAcross cX1_isAcross 2 (some .boolean)] ++ wsX10)
def wsX1_yOf : List Cond := .code yX1_yOf cX1_yOf 2 (some .int) :: ([.fieldLink RX1 7 "HeightLinesModel" "w" "I", .fieldLink RX1 13 "HeightLinesModel" "h" "I", .methodLink RX1 50 yX1_isAcross, .instanceMethod yX1_isAcross, .selects RX1 yX1_isAcross yX1_isAcross, .initialized RX1, .code yX1_isAcross cX1_isAcross 2 (some .boolean)] ++ wsX10)
def wsX1_at : List Cond := .code yX1_at cX1_at 3 (some .int) :: ([.fieldLink RX1 19 "HeightLinesModel" "samples" "[I"] ++ wsX10)
def wsX1_first : List Cond := .code yX1_first cX1_first 2 (some .int) :: ([.methodLink RX1 54 yX1_xOf, .instanceMethod yX1_xOf, .selects RX1 yX1_xOf yX1_xOf, .initialized RX1, .code yX1_xOf cX1_xOf 2 (some .int), .fieldLink RX1 7 "HeightLinesModel" "w" "I", .fieldLink RX1 13 "HeightLinesModel" "h" "I", .methodLink RX1 50 yX1_isAcross, .instanceMethod yX1_isAcross, .selects RX1 yX1_isAcross yX1_isAcross, .code yX1_isAcross cX1_isAcross 2 (some .boolean), .methodLink RX1 58 yX1_yOf, .instanceMethod yX1_yOf, .selects RX1 yX1_yOf yX1_yOf, .code yX1_yOf cX1_yOf 2 (some .int), .methodLink RX1 61 yX1_at, .instanceMethod yX1_at, .selects RX1 yX1_at yX1_at, .code yX1_at cX1_at 3 (some .int), .fieldLink RX1 19 "HeightLinesModel" "samples" "[I"] ++ wsX10)
def wsX1_second : List Cond := .code yX1_second cX1_second 2 (some .int) :: ([.methodLink RX1 50 yX1_isAcross, .instanceMethod yX1_isAcross, .selects RX1 yX1_isAcross yX1_isAcross, .initialized RX1, .code yX1_isAcross cX1_isAcross 2 (some .boolean), .fieldLink RX1 13 "HeightLinesModel" "h" "I", .fieldLink RX1 7 "HeightLinesModel" "w" "I", .methodLink RX1 54 yX1_xOf, .instanceMethod yX1_xOf, .selects RX1 yX1_xOf yX1_xOf, .code yX1_xOf cX1_xOf 2 (some .int), .methodLink RX1 58 yX1_yOf, .instanceMethod yX1_yOf, .selects RX1 yX1_yOf yX1_yOf, .code yX1_yOf cX1_yOf 2 (some .int), .methodLink RX1 61 yX1_at, .instanceMethod yX1_at, .selects RX1 yX1_at yX1_at, .code yX1_at cX1_at 3 (some .int), .fieldLink RX1 19 "HeightLinesModel" "samples" "[I"] ++ wsX10)
def wsX1_isAbove : List Cond := .code yX1_isAbove cX1_isAbove 2 (some .boolean) :: ([.fieldLink RX1 16 "HeightLinesModel" "twice" "I"] ++ wsX10)
def wsX1_isCrossed_r1 : List Cond := [Cond.methodLink RX1 65 yX1_first, Cond.instanceMethod yX1_first, Cond.selects RX1 yX1_first yX1_first, Cond.initialized RX1, Cond.code yX1_first cX1_first 2 (some .int), Cond.methodLink RX1 54 yX1_xOf, Cond.instanceMethod yX1_xOf, Cond.selects RX1 yX1_xOf yX1_xOf, Cond.code yX1_xOf cX1_xOf 2 (some .int), Cond.fieldLink RX1 7 "HeightLinesModel" "w" "I", Cond.fieldLink RX1 13 "HeightLinesModel" "h" "I", Cond.methodLink RX1 50 yX1_isAcross, Cond.instanceMethod yX1_isAcross, Cond.selects RX1 yX1_isAcross yX1_isAcross, Cond.code yX1_isAcross cX1_isAcross 2 (some .boolean), Cond.methodLink RX1 58 yX1_yOf, Cond.instanceMethod yX1_yOf, Cond.selects RX1 yX1_yOf yX1_yOf, Cond.code yX1_yOf cX1_yOf 2 (some .int), Cond.methodLink RX1 61 yX1_at, Cond.instanceMethod yX1_at, Cond.selects RX1 yX1_at yX1_at, Cond.code yX1_at cX1_at 3 (some .int), Cond.fieldLink RX1 19 "HeightLinesModel" "samples" "[I"]
def wsX1_isCrossed_r2 : List Cond := [Cond.methodLink RX1 68 yX1_isAbove, Cond.instanceMethod yX1_isAbove, Cond.selects RX1 yX1_isAbove yX1_isAbove, Cond.code yX1_isAbove cX1_isAbove 2 (some .boolean), Cond.fieldLink RX1 16 "HeightLinesModel" "twice" "I", Cond.methodLink RX1 71 yX1_second, Cond.instanceMethod yX1_second, Cond.selects RX1 yX1_second yX1_second, Cond.code yX1_second cX1_second 2 (some .int)]
def wsX1_isCrossed : List Cond := .code yX1_isCrossed cX1_isCrossed 2 (some .boolean) :: ((wsX1_isCrossed_r1 ++ wsX1_isCrossed_r2) ++ wsX10)
def wsX1_corner : List Cond := .code yX1_corner cX1_corner 4 (some .int) :: ([.methodLink RX1 61 yX1_at, .instanceMethod yX1_at, .selects RX1 yX1_at yX1_at, .initialized RX1, .code yX1_at cX1_at 3 (some .int), .fieldLink RX1 19 "HeightLinesModel" "samples" "[I"] ++ wsX10)
def wsX1_edgeOf : List Cond := .code yX1_edgeOf cX1_edgeOf 5 (some .int) :: ([.fieldLink RX1 13 "HeightLinesModel" "h" "I", .fieldLink RX1 7 "HeightLinesModel" "w" "I"] ++ wsX10)
def wsX1_isDown : List Cond := .code yX1_isDown cX1_isDown 4 (some .boolean) :: ([.methodLink RX1 74 yX1_corner, .instanceMethod yX1_corner, .selects RX1 yX1_corner yX1_corner, .initialized RX1, .code yX1_corner cX1_corner 4 (some .int), .methodLink RX1 61 yX1_at, .instanceMethod yX1_at, .selects RX1 yX1_at yX1_at, .code yX1_at cX1_at 3 (some .int), .fieldLink RX1 19 "HeightLinesModel" "samples" "[I", .methodLink RX1 68 yX1_isAbove, .instanceMethod yX1_isAbove, .selects RX1 yX1_isAbove yX1_isAbove, .code yX1_isAbove cX1_isAbove 2 (some .boolean), .fieldLink RX1 16 "HeightLinesModel" "twice" "I"] ++ wsX10)
def wsX1_isUp : List Cond := .code yX1_isUp cX1_isUp 4 (some .boolean) :: ([.methodLink RX1 74 yX1_corner, .instanceMethod yX1_corner, .selects RX1 yX1_corner yX1_corner, .initialized RX1, .code yX1_corner cX1_corner 4 (some .int), .methodLink RX1 61 yX1_at, .instanceMethod yX1_at, .selects RX1 yX1_at yX1_at, .code yX1_at cX1_at 3 (some .int), .fieldLink RX1 19 "HeightLinesModel" "samples" "[I", .methodLink RX1 68 yX1_isAbove, .instanceMethod yX1_isAbove, .selects RX1 yX1_isAbove yX1_isAbove, .code yX1_isAbove cX1_isAbove 2 (some .boolean), .fieldLink RX1 16 "HeightLinesModel" "twice" "I"] ++ wsX10)
def wsX1_isMiddleAbove : List Cond := .code yX1_isMiddleAbove cX1_isMiddleAbove 15 (some .boolean) :: ([.constantLong RX1 78 (2), .fieldLink RX1 16 "HeightLinesModel" "twice" "I", .methodLink RX1 74 yX1_corner, .instanceMethod yX1_corner, .selects RX1 yX1_corner yX1_corner, .initialized RX1, .code yX1_corner cX1_corner 4 (some .int), .methodLink RX1 61 yX1_at, .instanceMethod yX1_at, .selects RX1 yX1_at yX1_at, .code yX1_at cX1_at 3 (some .int), .fieldLink RX1 19 "HeightLinesModel" "samples" "[I"] ++ wsX10)
def wsX1_leads_r1 : List Cond := [Cond.methodLink RX1 80 yX1_isUp, Cond.instanceMethod yX1_isUp, Cond.selects RX1 yX1_isUp yX1_isUp, Cond.initialized RX1, Cond.code yX1_isUp cX1_isUp 4 (some .boolean), Cond.methodLink RX1 74 yX1_corner, Cond.instanceMethod yX1_corner, Cond.selects RX1 yX1_corner yX1_corner, Cond.code yX1_corner cX1_corner 4 (some .int), Cond.methodLink RX1 61 yX1_at, Cond.instanceMethod yX1_at, Cond.selects RX1 yX1_at yX1_at, Cond.code yX1_at cX1_at 3 (some .int), Cond.fieldLink RX1 19 "HeightLinesModel" "samples" "[I", Cond.methodLink RX1 68 yX1_isAbove, Cond.instanceMethod yX1_isAbove, Cond.selects RX1 yX1_isAbove yX1_isAbove, Cond.code yX1_isAbove cX1_isAbove 2 (some .boolean), Cond.fieldLink RX1 16 "HeightLinesModel" "twice" "I", Cond.methodLink RX1 84 yX1_isMiddleAbove, Cond.instanceMethod yX1_isMiddleAbove, Cond.selects RX1 yX1_isMiddleAbove yX1_isMiddleAbove, Cond.code yX1_isMiddleAbove cX1_isMiddleAbove 15 (some .boolean), Cond.constantLong RX1 78 (2)]
def wsX1_leads_r2 : List Cond := [Cond.methodLink RX1 88 yX1_edgeOf, Cond.instanceMethod yX1_edgeOf, Cond.selects RX1 yX1_edgeOf yX1_edgeOf, Cond.code yX1_edgeOf cX1_edgeOf 5 (some .int), Cond.fieldLink RX1 13 "HeightLinesModel" "h" "I", Cond.fieldLink RX1 7 "HeightLinesModel" "w" "I"]
def wsX1_leads : List Cond := .code yX1_leads cX1_leads 6 (some .int) :: ((wsX1_leads_r1 ++ wsX1_leads_r2) ++ wsX10)
def wsX1_isCell : List Cond := .code yX1_isCell cX1_isCell 3 (some .boolean) :: ([.fieldLink RX1 7 "HeightLinesModel" "w" "I", .fieldLink RX1 13 "HeightLinesModel" "h" "I"] ++ wsX10)
def wsX1_next_r1 : List Cond := [Cond.methodLink RX1 54 yX1_xOf, Cond.instanceMethod yX1_xOf, Cond.selects RX1 yX1_xOf yX1_xOf, Cond.initialized RX1, Cond.code yX1_xOf cX1_xOf 2 (some .int), Cond.fieldLink RX1 7 "HeightLinesModel" "w" "I", Cond.fieldLink RX1 13 "HeightLinesModel" "h" "I", Cond.methodLink RX1 50 yX1_isAcross, Cond.instanceMethod yX1_isAcross, Cond.selects RX1 yX1_isAcross yX1_isAcross, Cond.code yX1_isAcross cX1_isAcross 2 (some .boolean), Cond.methodLink RX1 58 yX1_yOf, Cond.instanceMethod yX1_yOf, Cond.selects RX1 yX1_yOf yX1_yOf, Cond.code yX1_yOf cX1_yOf 2 (some .int), Cond.methodLink RX1 91 yX1_isCell, Cond.instanceMethod yX1_isCell, Cond.selects RX1 yX1_isCell yX1_isCell, Cond.code yX1_isCell cX1_isCell 3 (some .boolean), Cond.methodLink RX1 94 yX1_isDown, Cond.instanceMethod yX1_isDown, Cond.selects RX1 yX1_isDown yX1_isDown, Cond.code yX1_isDown cX1_isDown 4 (some .boolean), Cond.methodLink RX1 74 yX1_corner]
def wsX1_next_r2 : List Cond := [Cond.instanceMethod yX1_corner, Cond.selects RX1 yX1_corner yX1_corner, Cond.code yX1_corner cX1_corner 4 (some .int), Cond.methodLink RX1 61 yX1_at, Cond.instanceMethod yX1_at, Cond.selects RX1 yX1_at yX1_at, Cond.code yX1_at cX1_at 3 (some .int), Cond.fieldLink RX1 19 "HeightLinesModel" "samples" "[I", Cond.methodLink RX1 68 yX1_isAbove, Cond.instanceMethod yX1_isAbove, Cond.selects RX1 yX1_isAbove yX1_isAbove, Cond.code yX1_isAbove cX1_isAbove 2 (some .boolean), Cond.fieldLink RX1 16 "HeightLinesModel" "twice" "I", Cond.methodLink RX1 97 yX1_leads, Cond.instanceMethod yX1_leads, Cond.selects RX1 yX1_leads yX1_leads, Cond.code yX1_leads cX1_leads 6 (some .int), Cond.methodLink RX1 80 yX1_isUp, Cond.instanceMethod yX1_isUp, Cond.selects RX1 yX1_isUp yX1_isUp, Cond.code yX1_isUp cX1_isUp 4 (some .boolean), Cond.methodLink RX1 84 yX1_isMiddleAbove, Cond.instanceMethod yX1_isMiddleAbove, Cond.selects RX1 yX1_isMiddleAbove yX1_isMiddleAbove]
def wsX1_next_r3 : List Cond := [Cond.code yX1_isMiddleAbove cX1_isMiddleAbove 15 (some .boolean), Cond.constantLong RX1 78 (2), Cond.methodLink RX1 88 yX1_edgeOf, Cond.instanceMethod yX1_edgeOf, Cond.selects RX1 yX1_edgeOf yX1_edgeOf, Cond.code yX1_edgeOf cX1_edgeOf 5 (some .int)]
def wsX1_next : List Cond := .code yX1_next cX1_next 9 (some .int) :: ((wsX1_next_r1 ++ (wsX1_next_r2 ++ wsX1_next_r3)) ++ wsX10)
def wsX1_isLedTo_r1 : List Cond := [Cond.methodLink RX1 54 yX1_xOf, Cond.instanceMethod yX1_xOf, Cond.selects RX1 yX1_xOf yX1_xOf, Cond.initialized RX1, Cond.code yX1_xOf cX1_xOf 2 (some .int), Cond.fieldLink RX1 7 "HeightLinesModel" "w" "I", Cond.fieldLink RX1 13 "HeightLinesModel" "h" "I", Cond.methodLink RX1 50 yX1_isAcross, Cond.instanceMethod yX1_isAcross, Cond.selects RX1 yX1_isAcross yX1_isAcross, Cond.code yX1_isAcross cX1_isAcross 2 (some .boolean), Cond.methodLink RX1 58 yX1_yOf, Cond.instanceMethod yX1_yOf, Cond.selects RX1 yX1_yOf yX1_yOf, Cond.code yX1_yOf cX1_yOf 2 (some .int), Cond.methodLink RX1 91 yX1_isCell, Cond.instanceMethod yX1_isCell, Cond.selects RX1 yX1_isCell yX1_isCell, Cond.code yX1_isCell cX1_isCell 3 (some .boolean), Cond.methodLink RX1 80 yX1_isUp, Cond.instanceMethod yX1_isUp, Cond.selects RX1 yX1_isUp yX1_isUp, Cond.code yX1_isUp cX1_isUp 4 (some .boolean), Cond.methodLink RX1 74 yX1_corner]
def wsX1_isLedTo_r2 : List Cond := [Cond.instanceMethod yX1_corner, Cond.selects RX1 yX1_corner yX1_corner, Cond.code yX1_corner cX1_corner 4 (some .int), Cond.methodLink RX1 61 yX1_at, Cond.instanceMethod yX1_at, Cond.selects RX1 yX1_at yX1_at, Cond.code yX1_at cX1_at 3 (some .int), Cond.fieldLink RX1 19 "HeightLinesModel" "samples" "[I", Cond.methodLink RX1 68 yX1_isAbove, Cond.instanceMethod yX1_isAbove, Cond.selects RX1 yX1_isAbove yX1_isAbove, Cond.code yX1_isAbove cX1_isAbove 2 (some .boolean), Cond.fieldLink RX1 16 "HeightLinesModel" "twice" "I"]
def wsX1_isLedTo : List Cond := .code yX1_isLedTo cX1_isLedTo 9 (some .boolean) :: ((wsX1_isLedTo_r1 ++ wsX1_isLedTo_r2) ++ wsX10)
def wsX1_chain_r1 : List Cond := [Cond.fieldLink RX1 26 "HeightLinesModel" "begins" "[I", Cond.fieldLink RX1 39 "HeightLinesModel" "chains" "I", Cond.fieldLink RX1 33 "HeightLinesModel" "used" "[Z", Cond.fieldLink RX1 23 "HeightLinesModel" "edges" "[I", Cond.fieldLink RX1 29 "HeightLinesModel" "closed" "[Z", Cond.methodLink RX1 100 yX1_next, Cond.instanceMethod yX1_next, Cond.selects RX1 yX1_next yX1_next, Cond.initialized RX1, Cond.code yX1_next cX1_next 9 (some .int), Cond.methodLink RX1 54 yX1_xOf, Cond.instanceMethod yX1_xOf, Cond.selects RX1 yX1_xOf yX1_xOf, Cond.code yX1_xOf cX1_xOf 2 (some .int), Cond.fieldLink RX1 7 "HeightLinesModel" "w" "I", Cond.fieldLink RX1 13 "HeightLinesModel" "h" "I", Cond.methodLink RX1 50 yX1_isAcross, Cond.instanceMethod yX1_isAcross, Cond.selects RX1 yX1_isAcross yX1_isAcross, Cond.code yX1_isAcross cX1_isAcross 2 (some .boolean), Cond.methodLink RX1 58 yX1_yOf, Cond.instanceMethod yX1_yOf, Cond.selects RX1 yX1_yOf yX1_yOf, Cond.code yX1_yOf cX1_yOf 2 (some .int)]
def wsX1_chain_r2 : List Cond := [Cond.methodLink RX1 91 yX1_isCell, Cond.instanceMethod yX1_isCell, Cond.selects RX1 yX1_isCell yX1_isCell, Cond.code yX1_isCell cX1_isCell 3 (some .boolean), Cond.methodLink RX1 94 yX1_isDown, Cond.instanceMethod yX1_isDown, Cond.selects RX1 yX1_isDown yX1_isDown, Cond.code yX1_isDown cX1_isDown 4 (some .boolean), Cond.methodLink RX1 74 yX1_corner, Cond.instanceMethod yX1_corner, Cond.selects RX1 yX1_corner yX1_corner, Cond.code yX1_corner cX1_corner 4 (some .int), Cond.methodLink RX1 61 yX1_at, Cond.instanceMethod yX1_at, Cond.selects RX1 yX1_at yX1_at, Cond.code yX1_at cX1_at 3 (some .int), Cond.fieldLink RX1 19 "HeightLinesModel" "samples" "[I", Cond.methodLink RX1 68 yX1_isAbove, Cond.instanceMethod yX1_isAbove, Cond.selects RX1 yX1_isAbove yX1_isAbove, Cond.code yX1_isAbove cX1_isAbove 2 (some .boolean), Cond.fieldLink RX1 16 "HeightLinesModel" "twice" "I", Cond.methodLink RX1 97 yX1_leads, Cond.instanceMethod yX1_leads]
def wsX1_chain_r3 : List Cond := [Cond.selects RX1 yX1_leads yX1_leads, Cond.code yX1_leads cX1_leads 6 (some .int), Cond.methodLink RX1 80 yX1_isUp, Cond.instanceMethod yX1_isUp, Cond.selects RX1 yX1_isUp yX1_isUp, Cond.code yX1_isUp cX1_isUp 4 (some .boolean), Cond.methodLink RX1 84 yX1_isMiddleAbove, Cond.instanceMethod yX1_isMiddleAbove, Cond.selects RX1 yX1_isMiddleAbove yX1_isMiddleAbove, Cond.code yX1_isMiddleAbove cX1_isMiddleAbove 15 (some .boolean), Cond.constantLong RX1 78 (2), Cond.methodLink RX1 88 yX1_edgeOf, Cond.instanceMethod yX1_edgeOf, Cond.selects RX1 yX1_edgeOf yX1_edgeOf, Cond.code yX1_edgeOf cX1_edgeOf 5 (some .int)]
def wsX1_chain : List Cond := .code yX1_chain cX1_chain 5 none :: ((wsX1_chain_r1 ++ (wsX1_chain_r2 ++ wsX1_chain_r3)) ++ wsX10)
def wsX1_make_r1 : List Cond := [Cond.fieldLink RX1 36 "HeightLinesModel" "thrown" "I", Cond.fieldLink RX1 39 "HeightLinesModel" "chains" "I", Cond.fieldLink RX1 26 "HeightLinesModel" "begins" "[I", Cond.fieldLink RX1 33 "HeightLinesModel" "used" "[Z", Cond.methodLink RX1 103 yX1_all, Cond.instanceMethod yX1_all, Cond.selects RX1 yX1_all yX1_all, Cond.initialized RX1, Cond.code yX1_all cX1_all 1 (some .int), Cond.fieldLink RX1 13 "HeightLinesModel" "h" "I", Cond.fieldLink RX1 7 "HeightLinesModel" "w" "I", Cond.methodLink RX1 107 yX1_isCrossed, Cond.instanceMethod yX1_isCrossed, Cond.selects RX1 yX1_isCrossed yX1_isCrossed, Cond.code yX1_isCrossed cX1_isCrossed 2 (some .boolean), Cond.methodLink RX1 65 yX1_first, Cond.instanceMethod yX1_first, Cond.selects RX1 yX1_first yX1_first, Cond.code yX1_first cX1_first 2 (some .int), Cond.methodLink RX1 54 yX1_xOf, Cond.instanceMethod yX1_xOf, Cond.selects RX1 yX1_xOf yX1_xOf, Cond.code yX1_xOf cX1_xOf 2 (some .int), Cond.methodLink RX1 50 yX1_isAcross]
def wsX1_make_r2 : List Cond := [Cond.instanceMethod yX1_isAcross, Cond.selects RX1 yX1_isAcross yX1_isAcross, Cond.code yX1_isAcross cX1_isAcross 2 (some .boolean), Cond.methodLink RX1 58 yX1_yOf, Cond.instanceMethod yX1_yOf, Cond.selects RX1 yX1_yOf yX1_yOf, Cond.code yX1_yOf cX1_yOf 2 (some .int), Cond.methodLink RX1 61 yX1_at, Cond.instanceMethod yX1_at, Cond.selects RX1 yX1_at yX1_at, Cond.code yX1_at cX1_at 3 (some .int), Cond.fieldLink RX1 19 "HeightLinesModel" "samples" "[I", Cond.methodLink RX1 68 yX1_isAbove, Cond.instanceMethod yX1_isAbove, Cond.selects RX1 yX1_isAbove yX1_isAbove, Cond.code yX1_isAbove cX1_isAbove 2 (some .boolean), Cond.fieldLink RX1 16 "HeightLinesModel" "twice" "I", Cond.methodLink RX1 71 yX1_second, Cond.instanceMethod yX1_second, Cond.selects RX1 yX1_second yX1_second, Cond.code yX1_second cX1_second 2 (some .int), Cond.methodLink RX1 110 yX1_isLedTo, Cond.instanceMethod yX1_isLedTo, Cond.selects RX1 yX1_isLedTo yX1_isLedTo]
def wsX1_make_r3 : List Cond := [Cond.code yX1_isLedTo cX1_isLedTo 9 (some .boolean), Cond.methodLink RX1 91 yX1_isCell, Cond.instanceMethod yX1_isCell, Cond.selects RX1 yX1_isCell yX1_isCell, Cond.code yX1_isCell cX1_isCell 3 (some .boolean), Cond.methodLink RX1 80 yX1_isUp, Cond.instanceMethod yX1_isUp, Cond.selects RX1 yX1_isUp yX1_isUp, Cond.code yX1_isUp cX1_isUp 4 (some .boolean), Cond.methodLink RX1 74 yX1_corner, Cond.instanceMethod yX1_corner, Cond.selects RX1 yX1_corner yX1_corner, Cond.code yX1_corner cX1_corner 4 (some .int), Cond.methodLink RX1 113 yX1_chain, Cond.instanceMethod yX1_chain, Cond.selects RX1 yX1_chain yX1_chain, Cond.code yX1_chain cX1_chain 5 none, Cond.fieldLink RX1 23 "HeightLinesModel" "edges" "[I", Cond.fieldLink RX1 29 "HeightLinesModel" "closed" "[Z", Cond.methodLink RX1 100 yX1_next, Cond.instanceMethod yX1_next, Cond.selects RX1 yX1_next yX1_next, Cond.code yX1_next cX1_next 9 (some .int), Cond.methodLink RX1 94 yX1_isDown]
def wsX1_make_r4 : List Cond := [Cond.instanceMethod yX1_isDown, Cond.selects RX1 yX1_isDown yX1_isDown, Cond.code yX1_isDown cX1_isDown 4 (some .boolean), Cond.methodLink RX1 97 yX1_leads, Cond.instanceMethod yX1_leads, Cond.selects RX1 yX1_leads yX1_leads, Cond.code yX1_leads cX1_leads 6 (some .int), Cond.methodLink RX1 84 yX1_isMiddleAbove, Cond.instanceMethod yX1_isMiddleAbove, Cond.selects RX1 yX1_isMiddleAbove yX1_isMiddleAbove, Cond.code yX1_isMiddleAbove cX1_isMiddleAbove 15 (some .boolean), Cond.constantLong RX1 78 (2), Cond.methodLink RX1 88 yX1_edgeOf, Cond.instanceMethod yX1_edgeOf, Cond.selects RX1 yX1_edgeOf yX1_edgeOf, Cond.code yX1_edgeOf cX1_edgeOf 5 (some .int)]
def wsX1_make : List Cond := .code yX1_make cX1_make 2 (some .int) :: ((wsX1_make_r1 ++ (wsX1_make_r2 ++ (wsX1_make_r3 ++ wsX1_make_r4))) ++ wsX10)
def wsX1_isChain : List Cond := .code yX1_isChain cX1_isChain 2 (some .boolean) :: ([.fieldLink RX1 39 "HeightLinesModel" "chains" "I"] ++ wsX10)
def wsX1_size : List Cond := .code yX1_size cX1_size 2 (some .int) :: ([.fieldLink RX1 36 "HeightLinesModel" "thrown" "I", .fieldLink RX1 26 "HeightLinesModel" "begins" "[I", .methodLink RX1 117 yX1_isChain, .instanceMethod yX1_isChain, .selects RX1 yX1_isChain yX1_isChain, .initialized RX1, .code yX1_isChain cX1_isChain 2 (some .boolean), .fieldLink RX1 39 "HeightLinesModel" "chains" "I"] ++ wsX10)
def wsX1_isClosed : List Cond := .code yX1_isClosed cX1_isClosed 2 (some .boolean) :: ([.fieldLink RX1 36 "HeightLinesModel" "thrown" "I", .fieldLink RX1 29 "HeightLinesModel" "closed" "[Z", .methodLink RX1 117 yX1_isChain, .instanceMethod yX1_isChain, .selects RX1 yX1_isChain yX1_isChain, .initialized RX1, .code yX1_isChain cX1_isChain 2 (some .boolean), .fieldLink RX1 39 "HeightLinesModel" "chains" "I"] ++ wsX10)
def wsX1_edge : List Cond := .code yX1_edge cX1_edge 3 (some .int) :: ([.fieldLink RX1 36 "HeightLinesModel" "thrown" "I", .fieldLink RX1 26 "HeightLinesModel" "begins" "[I", .fieldLink RX1 23 "HeightLinesModel" "edges" "[I", .methodLink RX1 117 yX1_isChain, .instanceMethod yX1_isChain, .selects RX1 yX1_isChain yX1_isChain, .initialized RX1, .code yX1_isChain cX1_isChain 2 (some .boolean), .fieldLink RX1 39 "HeightLinesModel" "chains" "I"] ++ wsX10)
def wsX1_crossing_r1 : List Cond := [Cond.fieldLink RX1 36 "HeightLinesModel" "thrown" "I", Cond.fieldLink RX1 16 "HeightLinesModel" "twice" "I", Cond.methodLink RX1 103 yX1_all, Cond.instanceMethod yX1_all, Cond.selects RX1 yX1_all yX1_all, Cond.initialized RX1, Cond.code yX1_all cX1_all 1 (some .int), Cond.fieldLink RX1 13 "HeightLinesModel" "h" "I", Cond.fieldLink RX1 7 "HeightLinesModel" "w" "I", Cond.methodLink RX1 107 yX1_isCrossed, Cond.instanceMethod yX1_isCrossed, Cond.selects RX1 yX1_isCrossed yX1_isCrossed, Cond.code yX1_isCrossed cX1_isCrossed 2 (some .boolean), Cond.methodLink RX1 65 yX1_first, Cond.instanceMethod yX1_first, Cond.selects RX1 yX1_first yX1_first, Cond.code yX1_first cX1_first 2 (some .int), Cond.methodLink RX1 54 yX1_xOf, Cond.instanceMethod yX1_xOf, Cond.selects RX1 yX1_xOf yX1_xOf, Cond.code yX1_xOf cX1_xOf 2 (some .int), Cond.methodLink RX1 50 yX1_isAcross, Cond.instanceMethod yX1_isAcross, Cond.selects RX1 yX1_isAcross yX1_isAcross]
def wsX1_crossing_r2 : List Cond := [Cond.code yX1_isAcross cX1_isAcross 2 (some .boolean), Cond.methodLink RX1 58 yX1_yOf, Cond.instanceMethod yX1_yOf, Cond.selects RX1 yX1_yOf yX1_yOf, Cond.code yX1_yOf cX1_yOf 2 (some .int), Cond.methodLink RX1 61 yX1_at, Cond.instanceMethod yX1_at, Cond.selects RX1 yX1_at yX1_at, Cond.code yX1_at cX1_at 3 (some .int), Cond.fieldLink RX1 19 "HeightLinesModel" "samples" "[I", Cond.methodLink RX1 68 yX1_isAbove, Cond.instanceMethod yX1_isAbove, Cond.selects RX1 yX1_isAbove yX1_isAbove, Cond.code yX1_isAbove cX1_isAbove 2 (some .boolean), Cond.methodLink RX1 71 yX1_second, Cond.instanceMethod yX1_second, Cond.selects RX1 yX1_second yX1_second, Cond.code yX1_second cX1_second 2 (some .int)]
def wsX1_crossing : List Cond := .code yX1_crossing cX1_crossing 9 (some .int) :: ((wsX1_crossing_r1 ++ wsX1_crossing_r2) ++ wsX10)
def wsX1_within : List Cond := .code yX1_within cX1_within 7 (some .int) :: ([.fieldLink RX1 36 "HeightLinesModel" "thrown" "I", .fieldLink RX1 29 "HeightLinesModel" "closed" "[Z", .fieldLink RX1 13 "HeightLinesModel" "h" "I", .fieldLink RX1 7 "HeightLinesModel" "w" "I", .fieldLink RX1 26 "HeightLinesModel" "begins" "[I", .fieldLink RX1 23 "HeightLinesModel" "edges" "[I", .methodLink RX1 117 yX1_isChain, .instanceMethod yX1_isChain, .selects RX1 yX1_isChain yX1_isChain, .initialized RX1, .code yX1_isChain cX1_isChain 2 (some .boolean), .fieldLink RX1 39 "HeightLinesModel" "chains" "I", .methodLink RX1 50 yX1_isAcross, .instanceMethod yX1_isAcross, .selects RX1 yX1_isAcross yX1_isAcross, .code yX1_isAcross cX1_isAcross 2 (some .boolean), .methodLink RX1 58 yX1_yOf, .instanceMethod yX1_yOf, .selects RX1 yX1_yOf yX1_yOf, .code yX1_yOf cX1_yOf 2 (some .int), .methodLink RX1 54 yX1_xOf, .instanceMethod yX1_xOf, .selects RX1 yX1_xOf yX1_xOf, .code yX1_xOf cX1_xOf 2 (some .int)] ++ wsX10)
def wsX1_crossed_r1 : List Cond := [Cond.fieldLink RX1 36 "HeightLinesModel" "thrown" "I", Cond.methodLink RX1 103 yX1_all, Cond.instanceMethod yX1_all, Cond.selects RX1 yX1_all yX1_all, Cond.initialized RX1, Cond.code yX1_all cX1_all 1 (some .int), Cond.fieldLink RX1 13 "HeightLinesModel" "h" "I", Cond.fieldLink RX1 7 "HeightLinesModel" "w" "I", Cond.methodLink RX1 107 yX1_isCrossed, Cond.instanceMethod yX1_isCrossed, Cond.selects RX1 yX1_isCrossed yX1_isCrossed, Cond.code yX1_isCrossed cX1_isCrossed 2 (some .boolean), Cond.methodLink RX1 65 yX1_first, Cond.instanceMethod yX1_first, Cond.selects RX1 yX1_first yX1_first, Cond.code yX1_first cX1_first 2 (some .int), Cond.methodLink RX1 54 yX1_xOf, Cond.instanceMethod yX1_xOf, Cond.selects RX1 yX1_xOf yX1_xOf, Cond.code yX1_xOf cX1_xOf 2 (some .int), Cond.methodLink RX1 50 yX1_isAcross, Cond.instanceMethod yX1_isAcross, Cond.selects RX1 yX1_isAcross yX1_isAcross, Cond.code yX1_isAcross cX1_isAcross 2 (some .boolean)]
def wsX1_crossed_r2 : List Cond := [Cond.methodLink RX1 58 yX1_yOf, Cond.instanceMethod yX1_yOf, Cond.selects RX1 yX1_yOf yX1_yOf, Cond.code yX1_yOf cX1_yOf 2 (some .int), Cond.methodLink RX1 61 yX1_at, Cond.instanceMethod yX1_at, Cond.selects RX1 yX1_at yX1_at, Cond.code yX1_at cX1_at 3 (some .int), Cond.fieldLink RX1 19 "HeightLinesModel" "samples" "[I", Cond.methodLink RX1 68 yX1_isAbove, Cond.instanceMethod yX1_isAbove, Cond.selects RX1 yX1_isAbove yX1_isAbove, Cond.code yX1_isAbove cX1_isAbove 2 (some .boolean), Cond.fieldLink RX1 16 "HeightLinesModel" "twice" "I", Cond.methodLink RX1 71 yX1_second, Cond.instanceMethod yX1_second, Cond.selects RX1 yX1_second yX1_second, Cond.code yX1_second cX1_second 2 (some .int)]
def wsX1_crossed : List Cond := .code yX1_crossed cX1_crossed 3 (some .int) :: ((wsX1_crossed_r1 ++ wsX1_crossed_r2) ++ wsX10)
def wsJ9_abs_0f7a4 : List Cond := .code yJ9_abs_0f7a4 cJ9_abs_0f7a4 1 (some .int) :: ([])
def wsJ9_max_f86c9 : List Cond := .code yJ9_max_f86c9 cJ9_max_f86c9 4 (some .long) :: ([])
def wsJ9_min_f86c9 : List Cond := .code yJ9_min_f86c9 cJ9_min_f86c9 4 (some .long) :: ([])
def wsL_crossing_r1 : List Cond := [Cond.classLink RL 13 "java/util/NoSuchElementException", Cond.methodLink RL 7 yX0_crossing, Cond.instanceMethod yX0_crossing, Cond.selects RX0 yX0_crossing yX0_crossing, Cond.initialized RX0, Cond.code yX0_crossing cX0_crossing 7 (some .int), Cond.classLink RX0 93 "java/util/NoSuchElementException", Cond.initialized "java/util/NoSuchElementException", Cond.fieldLink RX0 19 "HeightLines" "samples" "[I", Cond.fieldLink RX0 16 "HeightLines" "twiceHeight" "I", Cond.methodLink RX0 102 Lib.Math.abs.name, Cond.static Lib.Math.abs.name, Cond.initialized "java/lang/Math", Cond.code Lib.Math.abs.name Lib.Math.abs.code 1 (some .int), Cond.methodLink RX0 86 yX0_edgeCount, Cond.instanceMethod yX0_edgeCount, Cond.selects RX0 yX0_edgeCount yX0_edgeCount, Cond.code yX0_edgeCount cX0_edgeCount 1 (some .int), Cond.fieldLink RX0 13 "HeightLines" "rows" "I", Cond.fieldLink RX0 9 "HeightLines" "columns" "I", Cond.methodLink RX0 127 yX0_rightwardEdges, Cond.instanceMethod yX0_rightwardEdges, Cond.selects RX0 yX0_rightwardEdges yX0_rightwardEdges, Cond.code yX0_rightwardEdges cX0_rightwardEdges 1 (some .int)]
def wsL_crossing_r2 : List Cond := [Cond.methodLink RX0 90 yX0_isCrossed, Cond.instanceMethod yX0_isCrossed, Cond.selects RX0 yX0_isCrossed yX0_isCrossed, Cond.code yX0_isCrossed cX0_isCrossed 2 (some .boolean), Cond.methodLink RX0 96 yX0_firstSample, Cond.instanceMethod yX0_firstSample, Cond.selects RX0 yX0_firstSample yX0_firstSample, Cond.code yX0_firstSample cX0_firstSample 2 (some .int), Cond.methodLink RX0 130 yX0_isAbove, Cond.instanceMethod yX0_isAbove, Cond.selects RX0 yX0_isAbove yX0_isAbove, Cond.code yX0_isAbove cX0_isAbove 2 (some .boolean), Cond.methodLink RX0 99 yX0_secondSample, Cond.instanceMethod yX0_secondSample, Cond.selects RX0 yX0_secondSample yX0_secondSample, Cond.code yX0_secondSample cX0_secondSample 2 (some .int), Cond.methodLink RX0 107 yX0_greatestDivisor, Cond.static yX0_greatestDivisor, Cond.code yX0_greatestDivisor cX0_greatestDivisor 6 (some .int)]
def wsL_crossing : List Cond := .codeWith yL_crossing cL_crossing 5 (some .int) [(0, 10, 13, 13)] :: ((wsL_crossing_r1 ++ wsL_crossing_r2) ++ wsX00 ++ (vx_at0 RX0 95 "java/util/NoSuchElementException" ["java/lang/RuntimeException", "java/lang/Exception"]).filter goodWord)
def wsL_law0_r1 : List Cond := [Cond.classLink RL 8 RX0, Cond.instantiable RX0 11, Cond.initialized RX0, Cond.classLink RL 16 RX1, Cond.instantiable RX1 10, Cond.initialized RX1, Cond.arrayClass .long, Cond.methodLink RL 15 yX0_init, Cond.instanceMethod yX0_init, Cond.code yX0_init cX0_init 1 none, Cond.methodLink RX0 3 objectInit, Cond.instanceMethod objectInit, Cond.code objectInit ⟨#[0xb1]⟩ 1 none, Cond.fieldLink RX0 9 "HeightLines" "columns" "I", Cond.fieldLink RX0 13 "HeightLines" "rows" "I", Cond.fieldLink RX0 16 "HeightLines" "twiceHeight" "I", Cond.arrayClass .int, Cond.fieldLink RX0 19 "HeightLines" "samples" "[I", Cond.fieldLink RX0 23 "HeightLines" "next" "[I", Cond.fieldLink RX0 26 "HeightLines" "before" "[I", Cond.fieldLink RX0 29 "HeightLines" "order" "[I", Cond.fieldLink RX0 32 "HeightLines" "starts" "[I", Cond.fieldLink RX0 35 "HeightLines" "owner" "[I", Cond.fieldLink RX0 38 "HeightLines" "openChains" "I"]
def wsL_law0_r2 : List Cond := [Cond.fieldLink RX0 41 "HeightLines" "chains" "I", Cond.methodLink RL 18 yX1_init, Cond.instanceMethod yX1_init, Cond.code yX1_init cX1_init 1 none, Cond.methodLink RX1 1 objectInit, Cond.fieldLink RX1 7 "HeightLinesModel" "w" "I", Cond.fieldLink RX1 13 "HeightLinesModel" "h" "I", Cond.fieldLink RX1 16 "HeightLinesModel" "twice" "I", Cond.fieldLink RX1 19 "HeightLinesModel" "samples" "[I", Cond.fieldLink RX1 23 "HeightLinesModel" "edges" "[I", Cond.fieldLink RX1 26 "HeightLinesModel" "begins" "[I", Cond.arrayClass .boolean, Cond.fieldLink RX1 29 "HeightLinesModel" "closed" "[Z", Cond.fieldLink RX1 33 "HeightLinesModel" "used" "[Z", Cond.methodLink RL 19 yX0_field, Cond.instanceMethod yX0_field, Cond.selects RX0 yX0_field yX0_field, Cond.code yX0_field cX0_field 3 (some .boolean), Cond.methodLink RX0 44 yX0_isSide, Cond.static yX0_isSide, Cond.code yX0_isSide cX0_isSide 1 (some .boolean), Cond.methodLink RX0 48 yJ7_fill_53178, Cond.static yJ7_fill_53178, Cond.initialized RJ7]
def wsL_law0_r3 : List Cond := [Cond.code yJ7_fill_53178 cJ7_fill_53178 4 none, Cond.methodLink RX0 54 yX0_forgetChains, Cond.instanceMethod yX0_forgetChains, Cond.selects RX0 yX0_forgetChains yX0_forgetChains, Cond.code yX0_forgetChains cX0_forgetChains 1 none, Cond.methodLink RL 23 yX1_field, Cond.instanceMethod yX1_field, Cond.selects RX1 yX1_field yX1_field, Cond.code yX1_field cX1_field 4 (some .boolean), Cond.fieldLink RX1 36 "HeightLinesModel" "thrown" "I", Cond.fieldLink RX1 39 "HeightLinesModel" "chains" "I", Cond.methodLink RL 24 yX0_set, Cond.instanceMethod yX0_set, Cond.selects RX0 yX0_set yX0_set, Cond.code yX0_set cX0_set 4 (some .boolean), Cond.methodLink RX0 57 yX0_hasRow, Cond.instanceMethod yX0_hasRow, Cond.selects RX0 yX0_hasRow yX0_hasRow, Cond.code yX0_hasRow cX0_hasRow 2 (some .boolean), Cond.methodLink RX0 60 yX0_heldToBounds, Cond.static yX0_heldToBounds, Cond.code yX0_heldToBounds cX0_heldToBounds 2 (some .int), Cond.constantLong RX0 116 (-1000000), Cond.constantLong RX0 118 (1000000)]
def wsL_law0_r4 : List Cond := [Cond.methodLink RX0 120 Lib.MathLoose.min_long.x, Cond.static Lib.MathLoose.min_long.x, Cond.initialized "java/lang/Math", Cond.code Lib.MathLoose.min_long.x Lib.MathLoose.min_long.code 4 (some .long), Cond.methodLink RX0 124 Lib.MathLoose.max_long.x, Cond.static Lib.MathLoose.max_long.x, Cond.code Lib.MathLoose.max_long.x Lib.MathLoose.max_long.code 4 (some .long), Cond.methodLink RX0 64 yX0_sampleAt, Cond.instanceMethod yX0_sampleAt, Cond.selects RX0 yX0_sampleAt yX0_sampleAt, Cond.code yX0_sampleAt cX0_sampleAt 3 (some .int), Cond.methodLink RL 28 yX1_set, Cond.instanceMethod yX1_set, Cond.selects RX1 yX1_set yX1_set, Cond.code yX1_set cX1_set 4 (some .boolean), Cond.constant RX1 42 (-1000000), Cond.constant RX1 43 (1000000), Cond.methodLink RL 29 yX0_row, Cond.instanceMethod yX0_row, Cond.selects RX0 yX0_row yX0_row, Cond.code yX0_row cX0_row 5 (some .boolean), Cond.methodLink RL 32 yX1_row, Cond.instanceMethod yX1_row, Cond.selects RX1 yX1_row yX1_row]
def wsL_law0_r5 : List Cond := [Cond.code yX1_row cX1_row 7 (some .boolean), Cond.constantLong RX1 44 (-1000000), Cond.constantLong RX1 46 (1000000), Cond.methodLink RL 33 yX0_height, Cond.instanceMethod yX0_height, Cond.selects RX0 yX0_height yX0_height, Cond.code yX0_height cX0_height 3 (some .boolean), Cond.constant RX0 68 (-1999999), Cond.constant RX0 69 (1999999), Cond.methodLink RL 37 yX1_height, Cond.instanceMethod yX1_height, Cond.selects RX1 yX1_height yX1_height, Cond.code yX1_height cX1_height 2 (some .boolean), Cond.constant RX1 48 (-1999999), Cond.constant RX1 49 (1999999), Cond.methodLink RL 38 yX0_make, Cond.instanceMethod yX0_make, Cond.selects RX0 yX0_make yX0_make, Cond.code yX0_make cX0_make 1 (some .int), Cond.methodLink RX0 70 yX0_drawLines, Cond.instanceMethod yX0_drawLines, Cond.selects RX0 yX0_drawLines yX0_drawLines, Cond.code yX0_drawLines cX0_drawLines 3 none, Cond.methodLink RX0 133 yX0_drawCell]
def wsL_law0_r6 : List Cond := [Cond.instanceMethod yX0_drawCell, Cond.selects RX0 yX0_drawCell yX0_drawCell, Cond.code yX0_drawCell cX0_drawCell 9 none, Cond.methodLink RX0 137 yX0_cornersAbove, Cond.instanceMethod yX0_cornersAbove, Cond.selects RX0 yX0_cornersAbove yX0_cornersAbove, Cond.code yX0_cornersAbove cX0_cornersAbove 5 (some .int), Cond.methodLink RX0 154 yX0_cornerSample, Cond.instanceMethod yX0_cornerSample, Cond.selects RX0 yX0_cornerSample yX0_cornerSample, Cond.code yX0_cornerSample cX0_cornerSample 4 (some .int), Cond.methodLink RX0 130 yX0_isAbove, Cond.instanceMethod yX0_isAbove, Cond.selects RX0 yX0_isAbove yX0_isAbove, Cond.code yX0_isAbove cX0_isAbove 2 (some .boolean), Cond.methodLink RX0 140 yX0_isMiddleAbove, Cond.instanceMethod yX0_isMiddleAbove, Cond.selects RX0 yX0_isMiddleAbove yX0_isMiddleAbove, Cond.code yX0_isMiddleAbove cX0_isMiddleAbove 17 (some .boolean), Cond.constantLong RX0 169 (2), Cond.methodLink RX0 144 yX0_entersAt, Cond.static yX0_entersAt, Cond.code yX0_entersAt cX0_entersAt 2 (some .boolean), Cond.methodLink RX0 163 yX0_hasCorner]
def wsL_law0_r7 : List Cond := [Cond.static yX0_hasCorner, Cond.code yX0_hasCorner cX0_hasCorner 2 (some .boolean), Cond.methodLink RX0 147 yX0_sideEdge, Cond.instanceMethod yX0_sideEdge, Cond.selects RX0 yX0_sideEdge yX0_sideEdge, Cond.code yX0_sideEdge cX0_sideEdge 4 (some .int), Cond.methodLink RX0 157 yX0_rightwardEdge, Cond.instanceMethod yX0_rightwardEdge, Cond.selects RX0 yX0_rightwardEdge yX0_rightwardEdge, Cond.code yX0_rightwardEdge cX0_rightwardEdge 3 (some .int), Cond.methodLink RX0 160 yX0_upwardEdge, Cond.instanceMethod yX0_upwardEdge, Cond.selects RX0 yX0_upwardEdge yX0_upwardEdge, Cond.code yX0_upwardEdge cX0_upwardEdge 3 (some .int), Cond.methodLink RX0 127 yX0_rightwardEdges, Cond.instanceMethod yX0_rightwardEdges, Cond.selects RX0 yX0_rightwardEdges yX0_rightwardEdges, Cond.code yX0_rightwardEdges cX0_rightwardEdges 1 (some .int), Cond.methodLink RX0 151 yX0_exitFrom, Cond.static yX0_exitFrom, Cond.code yX0_exitFrom cX0_exitFrom 5 (some .int), Cond.methodLink RX0 166 yX0_leavesAt, Cond.static yX0_leavesAt, Cond.code yX0_leavesAt cX0_leavesAt 2 (some .boolean)]
def wsL_law0_r8 : List Cond := [Cond.methodLink RX0 73 yX0_gatherOpenChains, Cond.instanceMethod yX0_gatherOpenChains, Cond.selects RX0 yX0_gatherOpenChains yX0_gatherOpenChains, Cond.code yX0_gatherOpenChains cX0_gatherOpenChains 2 none, Cond.methodLink RX0 86 yX0_edgeCount, Cond.instanceMethod yX0_edgeCount, Cond.selects RX0 yX0_edgeCount yX0_edgeCount, Cond.code yX0_edgeCount cX0_edgeCount 1 (some .int), Cond.methodLink RX0 171 yX0_gatherChain, Cond.instanceMethod yX0_gatherChain, Cond.selects RX0 yX0_gatherChain yX0_gatherChain, Cond.code yX0_gatherChain cX0_gatherChain 5 none, Cond.methodLink RX0 76 yX0_gatherClosedChains, Cond.instanceMethod yX0_gatherClosedChains, Cond.selects RX0 yX0_gatherClosedChains yX0_gatherClosedChains, Cond.code yX0_gatherClosedChains cX0_gatherClosedChains 2 none, Cond.methodLink RL 42 yX1_make, Cond.instanceMethod yX1_make, Cond.selects RX1 yX1_make yX1_make, Cond.code yX1_make cX1_make 2 (some .int), Cond.methodLink RX1 103 yX1_all, Cond.instanceMethod yX1_all, Cond.selects RX1 yX1_all yX1_all, Cond.code yX1_all cX1_all 1 (some .int)]
def wsL_law0_r9 : List Cond := [Cond.methodLink RX1 107 yX1_isCrossed, Cond.instanceMethod yX1_isCrossed, Cond.selects RX1 yX1_isCrossed yX1_isCrossed, Cond.code yX1_isCrossed cX1_isCrossed 2 (some .boolean), Cond.methodLink RX1 65 yX1_first, Cond.instanceMethod yX1_first, Cond.selects RX1 yX1_first yX1_first, Cond.code yX1_first cX1_first 2 (some .int), Cond.methodLink RX1 54 yX1_xOf, Cond.instanceMethod yX1_xOf, Cond.selects RX1 yX1_xOf yX1_xOf, Cond.code yX1_xOf cX1_xOf 2 (some .int), Cond.methodLink RX1 50 yX1_isAcross, Cond.instanceMethod yX1_isAcross, Cond.selects RX1 yX1_isAcross yX1_isAcross, Cond.code yX1_isAcross cX1_isAcross 2 (some .boolean), Cond.methodLink RX1 58 yX1_yOf, Cond.instanceMethod yX1_yOf, Cond.selects RX1 yX1_yOf yX1_yOf, Cond.code yX1_yOf cX1_yOf 2 (some .int), Cond.methodLink RX1 61 yX1_at, Cond.instanceMethod yX1_at, Cond.selects RX1 yX1_at yX1_at, Cond.code yX1_at cX1_at 3 (some .int)]
def wsL_law0_r10 : List Cond := [Cond.methodLink RX1 68 yX1_isAbove, Cond.instanceMethod yX1_isAbove, Cond.selects RX1 yX1_isAbove yX1_isAbove, Cond.code yX1_isAbove cX1_isAbove 2 (some .boolean), Cond.methodLink RX1 71 yX1_second, Cond.instanceMethod yX1_second, Cond.selects RX1 yX1_second yX1_second, Cond.code yX1_second cX1_second 2 (some .int), Cond.methodLink RX1 110 yX1_isLedTo, Cond.instanceMethod yX1_isLedTo, Cond.selects RX1 yX1_isLedTo yX1_isLedTo, Cond.code yX1_isLedTo cX1_isLedTo 9 (some .boolean), Cond.methodLink RX1 91 yX1_isCell, Cond.instanceMethod yX1_isCell, Cond.selects RX1 yX1_isCell yX1_isCell, Cond.code yX1_isCell cX1_isCell 3 (some .boolean), Cond.methodLink RX1 80 yX1_isUp, Cond.instanceMethod yX1_isUp, Cond.selects RX1 yX1_isUp yX1_isUp, Cond.code yX1_isUp cX1_isUp 4 (some .boolean), Cond.methodLink RX1 74 yX1_corner, Cond.instanceMethod yX1_corner, Cond.selects RX1 yX1_corner yX1_corner, Cond.code yX1_corner cX1_corner 4 (some .int)]
def wsL_law0_r11 : List Cond := [Cond.methodLink RX1 113 yX1_chain, Cond.instanceMethod yX1_chain, Cond.selects RX1 yX1_chain yX1_chain, Cond.code yX1_chain cX1_chain 5 none, Cond.methodLink RX1 100 yX1_next, Cond.instanceMethod yX1_next, Cond.selects RX1 yX1_next yX1_next, Cond.code yX1_next cX1_next 9 (some .int), Cond.methodLink RX1 94 yX1_isDown, Cond.instanceMethod yX1_isDown, Cond.selects RX1 yX1_isDown yX1_isDown, Cond.code yX1_isDown cX1_isDown 4 (some .boolean), Cond.methodLink RX1 97 yX1_leads, Cond.instanceMethod yX1_leads, Cond.selects RX1 yX1_leads yX1_leads, Cond.code yX1_leads cX1_leads 6 (some .int), Cond.methodLink RX1 84 yX1_isMiddleAbove, Cond.instanceMethod yX1_isMiddleAbove, Cond.selects RX1 yX1_isMiddleAbove yX1_isMiddleAbove, Cond.code yX1_isMiddleAbove cX1_isMiddleAbove 15 (some .boolean), Cond.constantLong RX1 78 (2), Cond.methodLink RX1 88 yX1_edgeOf, Cond.instanceMethod yX1_edgeOf, Cond.selects RX1 yX1_edgeOf yX1_edgeOf]
def wsL_law0_r12 : List Cond := [Cond.code yX1_edgeOf cX1_edgeOf 5 (some .int), Cond.methodLink RL 43 yX0_size, Cond.instanceMethod yX0_size, Cond.selects RX0 yX0_size yX0_size, Cond.code yX0_size cX0_size 2 (some .int), Cond.methodLink RX0 79 yX0_hasChain, Cond.instanceMethod yX0_hasChain, Cond.selects RX0 yX0_hasChain yX0_hasChain, Cond.code yX0_hasChain cX0_hasChain 2 (some .boolean), Cond.methodLink RL 47 yX1_size, Cond.instanceMethod yX1_size, Cond.selects RX1 yX1_size yX1_size, Cond.code yX1_size cX1_size 2 (some .int), Cond.methodLink RX1 117 yX1_isChain, Cond.instanceMethod yX1_isChain, Cond.selects RX1 yX1_isChain yX1_isChain, Cond.code yX1_isChain cX1_isChain 2 (some .boolean), Cond.methodLink RL 48 yX0_isClosed, Cond.instanceMethod yX0_isClosed, Cond.selects RX0 yX0_isClosed yX0_isClosed, Cond.code yX0_isClosed cX0_isClosed 2 (some .boolean), Cond.methodLink RL 51 yX1_isClosed, Cond.instanceMethod yX1_isClosed, Cond.selects RX1 yX1_isClosed yX1_isClosed]
def wsL_law0_r13 : List Cond := [Cond.code yX1_isClosed cX1_isClosed 2 (some .boolean), Cond.methodLink RL 52 yX0_edge, Cond.instanceMethod yX0_edge, Cond.selects RX0 yX0_edge yX0_edge, Cond.code yX0_edge cX0_edge 3 (some .int), Cond.methodLink RX0 82 yX0_size, Cond.methodLink RL 55 yX1_edge, Cond.instanceMethod yX1_edge, Cond.selects RX1 yX1_edge yX1_edge, Cond.code yX1_edge cX1_edge 3 (some .int), Cond.methodLink RL 56 yL_crossing, Cond.static yL_crossing, Cond.initialized RL, Cond.codeWith yL_crossing cL_crossing 5 (some .int) [(0, 10, 13, 13)], Cond.classLink RL 13 "java/util/NoSuchElementException", Cond.methodLink RL 7 yX0_crossing, Cond.instanceMethod yX0_crossing, Cond.selects RX0 yX0_crossing yX0_crossing, Cond.code yX0_crossing cX0_crossing 7 (some .int), Cond.classLink RX0 93 "java/util/NoSuchElementException", Cond.initialized "java/util/NoSuchElementException", Cond.methodLink RX0 102 Lib.Math.abs.name, Cond.static Lib.Math.abs.name, Cond.code Lib.Math.abs.name Lib.Math.abs.code 1 (some .int)]
def wsL_law0_r14 : List Cond := [Cond.methodLink RX0 90 yX0_isCrossed, Cond.instanceMethod yX0_isCrossed, Cond.selects RX0 yX0_isCrossed yX0_isCrossed, Cond.code yX0_isCrossed cX0_isCrossed 2 (some .boolean), Cond.methodLink RX0 96 yX0_firstSample, Cond.instanceMethod yX0_firstSample, Cond.selects RX0 yX0_firstSample yX0_firstSample, Cond.code yX0_firstSample cX0_firstSample 2 (some .int), Cond.methodLink RX0 99 yX0_secondSample, Cond.instanceMethod yX0_secondSample, Cond.selects RX0 yX0_secondSample yX0_secondSample, Cond.code yX0_secondSample cX0_secondSample 2 (some .int), Cond.methodLink RX0 107 yX0_greatestDivisor, Cond.static yX0_greatestDivisor, Cond.code yX0_greatestDivisor cX0_greatestDivisor 6 (some .int), Cond.methodLink RL 61 yX1_crossing, Cond.instanceMethod yX1_crossing, Cond.selects RX1 yX1_crossing yX1_crossing, Cond.code yX1_crossing cX1_crossing 9 (some .int), Cond.methodLink RL 62 yX1_thrown, Cond.instanceMethod yX1_thrown, Cond.selects RX1 yX1_thrown yX1_thrown, Cond.code yX1_thrown cX1_thrown 1 (some .int), Cond.methodLink RL 65 yX0_within]
def wsL_law0_r15 : List Cond := [Cond.instanceMethod yX0_within, Cond.selects RX0 yX0_within yX0_within, Cond.code yX0_within cX0_within 4 (some .int), Cond.methodLink RX0 110 yX0_isClosed, Cond.methodLink RX0 113 yX0_withinInRow, Cond.instanceMethod yX0_withinInRow, Cond.selects RX0 yX0_withinInRow yX0_withinInRow, Cond.code yX0_withinInRow cX0_withinInRow 6 (some .int), Cond.methodLink RL 68 yX1_within, Cond.instanceMethod yX1_within, Cond.selects RX1 yX1_within yX1_within, Cond.code yX1_within cX1_within 7 (some .int), Cond.methodLink RL 69 yX0_crossed, Cond.instanceMethod yX0_crossed, Cond.selects RX0 yX0_crossed yX0_crossed, Cond.code yX0_crossed cX0_crossed 3 (some .int), Cond.methodLink RL 72 yX1_crossed, Cond.instanceMethod yX1_crossed, Cond.selects RX1 yX1_crossed yX1_crossed, Cond.code yX1_crossed cX1_crossed 3 (some .int)]
def wsL_law0 : List Cond := (wsL_law0_r1 ++ (wsL_law0_r2 ++ (wsL_law0_r3 ++ (wsL_law0_r4 ++ (wsL_law0_r5 ++ (wsL_law0_r6 ++ (wsL_law0_r7 ++ (wsL_law0_r8 ++ (wsL_law0_r9 ++ (wsL_law0_r10 ++ (wsL_law0_r11 ++ (wsL_law0_r12 ++ (wsL_law0_r13 ++ (wsL_law0_r14 ++ wsL_law0_r15)))))))))))))) ++ wsX00 ++ wsX10 ++ ([] : List Cond)
def wsL_law : List Cond := wsL_law0 ++ (vx_at0 RX0 95 "java/util/NoSuchElementException" ["java/lang/RuntimeException", "java/lang/Exception"]).filter goodWord
set_option maxRecDepth 20000 in
theorem wsL_law_in0 : ∀ w ∈ wsL_law0, w ∈ lw_tbl := fun w h => (goodIn_p wsL_law0 [56, 59, 336, 98, 101, 104, 108, 377, 112, 116, 119, 124, 127, 131, 381, 135, 387, 139, 393, 145, 149, 153, 157, 161, 165, 169, 173, 176, 180, 184, 188, 192, 195, 198, 202, 206, 210, 214, 399, 403, 407, 411, 415, 419, 423, 427, 431, 435, 439, 443, 447, 451, 455, 459, 463, 467, 471, 476, 218, 222, 480, 484, 226, 488, 230, 492, 264, 328, 248, 252, 256, 331, 496, 373, 235, 240, 500, 244, 504] (by decide +kernel) (by decide +kernel) w h).1
theorem wsL_law_x0 : ∀ w ∈ (vx_at0 RX0 95 "java/util/NoSuchElementException" ["java/lang/RuntimeException", "java/lang/Exception"]).filter goodWord, w ∈ lw_tbl := by decide +kernel
theorem wsL_law_in : ∀ w ∈ wsL_law, w ∈ lw_tbl := fun w h => (List.mem_append.mp h).elim (fun h => wsL_law_in0 w h) (fun h => wsL_law_x0 w h)
theorem inlX0 : ∀ w ∈ wsX00, w ∈ wsL_law := fun _ h => List.mem_append_left _ (List.mem_append_left _ (List.mem_append_left _ (List.mem_append_right _ h)))
theorem inX0 : ∀ w ∈ wsX00, w ∈ lw_tbl := fun w h => wsL_law_in w (inlX0 w h)
theorem inlX1 : ∀ w ∈ wsX10, w ∈ wsL_law := fun _ h => List.mem_append_left _ (List.mem_append_left _ (List.mem_append_right _ h))
theorem inX1 : ∀ w ∈ wsX10, w ∈ lw_tbl := fun w h => wsL_law_in w (inlX1 w h)
theorem inJ9 : ∀ w ∈ wsJ90, w ∈ lw_tbl := by decide +kernel
theorem inJ7 : ∀ w ∈ wsJ70, w ∈ lw_tbl := by decide +kernel
theorem dX0_init_0 : decode cX0_init 0 = .ok (.aload_n 0, 1) := by decide +kernel
theorem dX0_init_1 : decode cX0_init 1 = .ok (.invokespecial 3, 3) := by decide +kernel
theorem dX0_init_4 : decode cX0_init 4 = .ok (.aload_n 0, 1) := by decide +kernel
theorem dX0_init_5 : decode cX0_init 5 = .ok (.iconst 2, 1) := by decide +kernel
theorem dX0_init_6 : decode cX0_init 6 = .ok (.putfield 9, 3) := by decide +kernel
theorem dX0_init_9 : decode cX0_init 9 = .ok (.aload_n 0, 1) := by decide +kernel
theorem dX0_init_10 : decode cX0_init 10 = .ok (.iconst 2, 1) := by decide +kernel
theorem dX0_init_11 : decode cX0_init 11 = .ok (.putfield 13, 3) := by decide +kernel
theorem dX0_init_14 : decode cX0_init 14 = .ok (.aload_n 0, 1) := by decide +kernel
theorem dX0_init_15 : decode cX0_init 15 = .ok (.iconst 1, 1) := by decide +kernel
theorem dX0_init_16 : decode cX0_init 16 = .ok (.putfield 16, 3) := by decide +kernel
theorem dX0_init_19 : decode cX0_init 19 = .ok (.aload_n 0, 1) := by decide +kernel
theorem dX0_init_20 : decode cX0_init 20 = .ok (.sipush 144, 3) := by decide +kernel
theorem dX0_init_23 : decode cX0_init 23 = .ok (.newarray .int, 2) := by decide +kernel
theorem dX0_init_25 : decode cX0_init 25 = .ok (.putfield 19, 3) := by decide +kernel
theorem dX0_init_28 : decode cX0_init 28 = .ok (.aload_n 0, 1) := by decide +kernel
theorem dX0_init_29 : decode cX0_init 29 = .ok (.sipush 264, 3) := by decide +kernel
theorem dX0_init_32 : decode cX0_init 32 = .ok (.newarray .int, 2) := by decide +kernel
theorem dX0_init_34 : decode cX0_init 34 = .ok (.putfield 23, 3) := by decide +kernel
theorem dX0_init_37 : decode cX0_init 37 = .ok (.aload_n 0, 1) := by decide +kernel
theorem dX0_init_38 : decode cX0_init 38 = .ok (.sipush 264, 3) := by decide +kernel
theorem dX0_init_41 : decode cX0_init 41 = .ok (.newarray .int, 2) := by decide +kernel
theorem dX0_init_43 : decode cX0_init 43 = .ok (.putfield 26, 3) := by decide +kernel
theorem dX0_init_46 : decode cX0_init 46 = .ok (.aload_n 0, 1) := by decide +kernel
theorem dX0_init_47 : decode cX0_init 47 = .ok (.sipush 264, 3) := by decide +kernel
theorem dX0_init_50 : decode cX0_init 50 = .ok (.newarray .int, 2) := by decide +kernel
theorem dX0_init_52 : decode cX0_init 52 = .ok (.putfield 29, 3) := by decide +kernel
theorem dX0_init_55 : decode cX0_init 55 = .ok (.aload_n 0, 1) := by decide +kernel
theorem dX0_init_56 : decode cX0_init 56 = .ok (.sipush 133, 3) := by decide +kernel
theorem dX0_init_59 : decode cX0_init 59 = .ok (.newarray .int, 2) := by decide +kernel
theorem dX0_init_61 : decode cX0_init 61 = .ok (.putfield 32, 3) := by decide +kernel
theorem dX0_init_64 : decode cX0_init 64 = .ok (.aload_n 0, 1) := by decide +kernel
theorem dX0_init_65 : decode cX0_init 65 = .ok (.sipush 264, 3) := by decide +kernel
theorem dX0_init_68 : decode cX0_init 68 = .ok (.newarray .int, 2) := by decide +kernel
theorem dX0_init_70 : decode cX0_init 70 = .ok (.putfield 35, 3) := by decide +kernel
theorem dX0_init_73 : decode cX0_init 73 = .ok (.aload_n 0, 1) := by decide +kernel
theorem dX0_init_74 : decode cX0_init 74 = .ok (.iconst 0, 1) := by decide +kernel
theorem dX0_init_75 : decode cX0_init 75 = .ok (.putfield 38, 3) := by decide +kernel
theorem dX0_init_78 : decode cX0_init 78 = .ok (.aload_n 0, 1) := by decide +kernel
theorem dX0_init_79 : decode cX0_init 79 = .ok (.iconst 0, 1) := by decide +kernel
theorem dX0_init_80 : decode cX0_init 80 = .ok (.putfield 41, 3) := by decide +kernel
theorem dX0_init_83 : decode cX0_init 83 = .ok (.return_, 1) := by decide +kernel
set_option maxRecDepth 20000 in
theorem ggX0_field_X0_isSide : GoodIn wsX0_field wsX0_isSide := goodIn_r _ [7] (by decide +kernel) (by decide +kernel)
set_option maxRecDepth 20000 in
theorem gX0_field_X0_isSide : GoodIn wsX0_field (va_wsS RX0 44 yX0_isSide wsX0_isSide) := goodIn_app (goodIn_of _ (by decide +kernel)) ggX0_field_X0_isSide
set_option maxRecDepth 20000 in
theorem ggX0_field_J7_fill_53178 : GoodIn wsX0_field wsJ7_fill_53178 := goodIn_r _ [11] (by decide +kernel) (by decide +kernel)
set_option maxRecDepth 20000 in
theorem gX0_field_J7_fill_53178 : GoodIn wsX0_field (va_wsS RX0 48 yJ7_fill_53178 wsJ7_fill_53178) := goodIn_app (goodIn_of _ (by decide +kernel)) ggX0_field_J7_fill_53178
set_option maxRecDepth 20000 in
theorem ggX0_field_X0_forgetChains : GoodIn wsX0_field wsX0_forgetChains := goodIn_r _ [15, 16, 17, 18, 8, 9, 10, 11, 19, 20, 21, 22, 23, 24, 25, 26, 27, 28, 29] (by decide +kernel) (by decide +kernel)
set_option maxRecDepth 20000 in
theorem gX0_field_X0_forgetChains : GoodIn wsX0_field (wsV RX0 54 RX0 yX0_forgetChains wsX0_forgetChains) := goodIn_app (goodIn_of _ (by decide +kernel)) ggX0_field_X0_forgetChains
theorem dX0_field_0 : decode cX0_field 0 = .ok (.iload_n 1, 1) := by decide +kernel
theorem dX0_field_1 : decode cX0_field 1 = .ok (.invokestatic 44, 3) := by decide +kernel
theorem dX0_field_4 : decode cX0_field 4 = .ok (.ifCond .eq 10, 3) := by decide +kernel
theorem dX0_field_7 : decode cX0_field 7 = .ok (.iload_n 2, 1) := by decide +kernel
theorem dX0_field_8 : decode cX0_field 8 = .ok (.invokestatic 44, 3) := by decide +kernel
theorem dX0_field_11 : decode cX0_field 11 = .ok (.ifCond .ne 5, 3) := by decide +kernel
theorem dX0_field_14 : decode cX0_field 14 = .ok (.iconst 0, 1) := by decide +kernel
theorem dX0_field_15 : decode cX0_field 15 = .ok (.ireturn, 1) := by decide +kernel
theorem dX0_field_16 : decode cX0_field 16 = .ok (.aload_n 0, 1) := by decide +kernel
theorem dX0_field_17 : decode cX0_field 17 = .ok (.iload_n 1, 1) := by decide +kernel
theorem dX0_field_18 : decode cX0_field 18 = .ok (.putfield 9, 3) := by decide +kernel
theorem dX0_field_21 : decode cX0_field 21 = .ok (.aload_n 0, 1) := by decide +kernel
theorem dX0_field_22 : decode cX0_field 22 = .ok (.iload_n 2, 1) := by decide +kernel
theorem dX0_field_23 : decode cX0_field 23 = .ok (.putfield 13, 3) := by decide +kernel
theorem dX0_field_26 : decode cX0_field 26 = .ok (.aload_n 0, 1) := by decide +kernel
theorem dX0_field_27 : decode cX0_field 27 = .ok (.getfield 19, 3) := by decide +kernel
theorem dX0_field_30 : decode cX0_field 30 = .ok (.iconst 0, 1) := by decide +kernel
theorem dX0_field_31 : decode cX0_field 31 = .ok (.invokestatic 48, 3) := by decide +kernel
theorem dX0_field_34 : decode cX0_field 34 = .ok (.aload_n 0, 1) := by decide +kernel
theorem dX0_field_35 : decode cX0_field 35 = .ok (.invokevirtual 54, 3) := by decide +kernel
theorem dX0_field_38 : decode cX0_field 38 = .ok (.iconst 1, 1) := by decide +kernel
theorem dX0_field_39 : decode cX0_field 39 = .ok (.ireturn, 1) := by decide +kernel
set_option maxRecDepth 20000 in
theorem ggX0_set_X0_hasRow : GoodIn wsX0_set wsX0_hasRow := goodIn_r _ [7, 8, 25, 26, 27, 28, 29, 30, 31, 32, 33, 34, 35] (by decide +kernel) (by decide +kernel)
set_option maxRecDepth 20000 in
theorem gX0_set_X0_hasRow : GoodIn wsX0_set (wsV RX0 57 RX0 yX0_hasRow wsX0_hasRow) := goodIn_app (goodIn_of _ (by decide +kernel)) ggX0_set_X0_hasRow
set_option maxRecDepth 20000 in
theorem ggX0_set_X0_heldToBounds : GoodIn wsX0_set wsX0_heldToBounds := goodIn_r _ [11, 12, 13, 14, 15, 16, 17, 18, 19, 20] (by decide +kernel) (by decide +kernel)
set_option maxRecDepth 20000 in
theorem gX0_set_X0_heldToBounds : GoodIn wsX0_set (va_wsS RX0 60 yX0_heldToBounds wsX0_heldToBounds) := goodIn_app (goodIn_of _ (by decide +kernel)) ggX0_set_X0_heldToBounds
set_option maxRecDepth 20000 in
theorem ggX0_set_X0_sampleAt : GoodIn wsX0_set wsX0_sampleAt := goodIn_r _ [24, 1, 25, 26, 27, 28, 29, 30, 31, 32, 33, 34, 35] (by decide +kernel) (by decide +kernel)
set_option maxRecDepth 20000 in
theorem gX0_set_X0_sampleAt : GoodIn wsX0_set (wsV RX0 64 RX0 yX0_sampleAt wsX0_sampleAt) := goodIn_app (goodIn_of _ (by decide +kernel)) ggX0_set_X0_sampleAt
theorem dX0_set_0 : decode cX0_set 0 = .ok (.iload_n 1, 1) := by decide +kernel
theorem dX0_set_1 : decode cX0_set 1 = .ok (.ifCond .lt 28, 3) := by decide +kernel
theorem dX0_set_4 : decode cX0_set 4 = .ok (.iload_n 1, 1) := by decide +kernel
theorem dX0_set_5 : decode cX0_set 5 = .ok (.aload_n 0, 1) := by decide +kernel
theorem dX0_set_6 : decode cX0_set 6 = .ok (.getfield 9, 3) := by decide +kernel
theorem dX0_set_9 : decode cX0_set 9 = .ok (.if_icmp .ge 20, 3) := by decide +kernel
theorem dX0_set_12 : decode cX0_set 12 = .ok (.aload_n 0, 1) := by decide +kernel
theorem dX0_set_13 : decode cX0_set 13 = .ok (.iload_n 2, 1) := by decide +kernel
theorem dX0_set_14 : decode cX0_set 14 = .ok (.invokevirtual 57, 3) := by decide +kernel
theorem dX0_set_17 : decode cX0_set 17 = .ok (.ifCond .eq 12, 3) := by decide +kernel
theorem dX0_set_20 : decode cX0_set 20 = .ok (.iload_n 3, 1) := by decide +kernel
theorem dX0_set_21 : decode cX0_set 21 = .ok (.iload_n 3, 1) := by decide +kernel
theorem dX0_set_22 : decode cX0_set 22 = .ok (.i2l, 1) := by decide +kernel
theorem dX0_set_23 : decode cX0_set 23 = .ok (.invokestatic 60, 3) := by decide +kernel
theorem dX0_set_26 : decode cX0_set 26 = .ok (.if_icmp .eq 5, 3) := by decide +kernel
theorem dX0_set_29 : decode cX0_set 29 = .ok (.iconst 0, 1) := by decide +kernel
theorem dX0_set_30 : decode cX0_set 30 = .ok (.ireturn, 1) := by decide +kernel
theorem dX0_set_31 : decode cX0_set 31 = .ok (.aload_n 0, 1) := by decide +kernel
theorem dX0_set_32 : decode cX0_set 32 = .ok (.getfield 19, 3) := by decide +kernel
theorem dX0_set_35 : decode cX0_set 35 = .ok (.aload_n 0, 1) := by decide +kernel
theorem dX0_set_36 : decode cX0_set 36 = .ok (.iload_n 1, 1) := by decide +kernel
theorem dX0_set_37 : decode cX0_set 37 = .ok (.iload_n 2, 1) := by decide +kernel
theorem dX0_set_38 : decode cX0_set 38 = .ok (.invokevirtual 64, 3) := by decide +kernel
theorem dX0_set_41 : decode cX0_set 41 = .ok (.iload_n 3, 1) := by decide +kernel
theorem dX0_set_42 : decode cX0_set 42 = .ok (.iastore, 1) := by decide +kernel
theorem dX0_set_43 : decode cX0_set 43 = .ok (.iconst 1, 1) := by decide +kernel
theorem dX0_set_44 : decode cX0_set 44 = .ok (.ireturn, 1) := by decide +kernel
set_option maxRecDepth 20000 in
theorem ggX0_row_X0_hasRow : GoodIn wsX0_row wsX0_hasRow := goodIn_r _ [7, 8, 25, 26, 27, 28, 29, 30, 31, 32, 33, 34, 35] (by decide +kernel) (by decide +kernel)
set_option maxRecDepth 20000 in
theorem gX0_row_X0_hasRow : GoodIn wsX0_row (wsV RX0 57 RX0 yX0_hasRow wsX0_hasRow) := goodIn_app (goodIn_of _ (by decide +kernel)) ggX0_row_X0_hasRow
set_option maxRecDepth 20000 in
theorem ggX0_row_X0_sampleAt : GoodIn wsX0_row wsX0_sampleAt := goodIn_r _ [12, 1, 25, 26, 27, 28, 29, 30, 31, 32, 33, 34, 35] (by decide +kernel) (by decide +kernel)
set_option maxRecDepth 20000 in
theorem gX0_row_X0_sampleAt : GoodIn wsX0_row (wsV RX0 64 RX0 yX0_sampleAt wsX0_sampleAt) := goodIn_app (goodIn_of _ (by decide +kernel)) ggX0_row_X0_sampleAt
set_option maxRecDepth 20000 in
theorem ggX0_row_X0_heldToBounds : GoodIn wsX0_row wsX0_heldToBounds := goodIn_r _ [15, 16, 17, 18, 19, 20, 21, 22, 23, 24] (by decide +kernel) (by decide +kernel)
set_option maxRecDepth 20000 in
theorem gX0_row_X0_heldToBounds : GoodIn wsX0_row (va_wsS RX0 60 yX0_heldToBounds wsX0_heldToBounds) := goodIn_app (goodIn_of _ (by decide +kernel)) ggX0_row_X0_heldToBounds
theorem dX0_row_0 : decode cX0_row 0 = .ok (.aload_n 0, 1) := by decide +kernel
theorem dX0_row_1 : decode cX0_row 1 = .ok (.iload_n 1, 1) := by decide +kernel
theorem dX0_row_2 : decode cX0_row 2 = .ok (.invokevirtual 57, 3) := by decide +kernel
theorem dX0_row_5 : decode cX0_row 5 = .ok (.ifCond .ne 5, 3) := by decide +kernel
theorem dX0_row_8 : decode cX0_row 8 = .ok (.iconst 0, 1) := by decide +kernel
theorem dX0_row_9 : decode cX0_row 9 = .ok (.ireturn, 1) := by decide +kernel
theorem dX0_row_10 : decode cX0_row 10 = .ok (.iconst 0, 1) := by decide +kernel
theorem dX0_row_11 : decode cX0_row 11 = .ok (.istore 4, 2) := by decide +kernel
theorem dX0_row_13 : decode cX0_row 13 = .ok (.iload 4, 2) := by decide +kernel
theorem dX0_row_15 : decode cX0_row 15 = .ok (.aload_n 0, 1) := by decide +kernel
theorem dX0_row_16 : decode cX0_row 16 = .ok (.getfield 9, 3) := by decide +kernel
theorem dX0_row_19 : decode cX0_row 19 = .ok (.if_icmp .ge 33, 3) := by decide +kernel
theorem dX0_row_22 : decode cX0_row 22 = .ok (.aload_n 0, 1) := by decide +kernel
theorem dX0_row_23 : decode cX0_row 23 = .ok (.getfield 19, 3) := by decide +kernel
theorem dX0_row_26 : decode cX0_row 26 = .ok (.aload_n 0, 1) := by decide +kernel
theorem dX0_row_27 : decode cX0_row 27 = .ok (.iload 4, 2) := by decide +kernel
theorem dX0_row_29 : decode cX0_row 29 = .ok (.iload_n 1, 1) := by decide +kernel
theorem dX0_row_30 : decode cX0_row 30 = .ok (.invokevirtual 64, 3) := by decide +kernel
theorem dX0_row_33 : decode cX0_row 33 = .ok (.iload_n 2, 1) := by decide +kernel
theorem dX0_row_34 : decode cX0_row 34 = .ok (.i2l, 1) := by decide +kernel
theorem dX0_row_35 : decode cX0_row 35 = .ok (.iload 4, 2) := by decide +kernel
theorem dX0_row_37 : decode cX0_row 37 = .ok (.i2l, 1) := by decide +kernel
theorem dX0_row_38 : decode cX0_row 38 = .ok (.iload_n 3, 1) := by decide +kernel
theorem dX0_row_39 : decode cX0_row 39 = .ok (.i2l, 1) := by decide +kernel
theorem dX0_row_40 : decode cX0_row 40 = .ok (.lmul, 1) := by decide +kernel
theorem dX0_row_41 : decode cX0_row 41 = .ok (.ladd, 1) := by decide +kernel
theorem dX0_row_42 : decode cX0_row 42 = .ok (.invokestatic 60, 3) := by decide +kernel
theorem dX0_row_45 : decode cX0_row 45 = .ok (.iastore, 1) := by decide +kernel
theorem dX0_row_46 : decode cX0_row 46 = .ok (.iinc 4 1, 3) := by decide +kernel
theorem dX0_row_49 : decode cX0_row 49 = .ok (.goto (-36), 3) := by decide +kernel
theorem dX0_row_52 : decode cX0_row 52 = .ok (.iconst 1, 1) := by decide +kernel
theorem dX0_row_53 : decode cX0_row 53 = .ok (.ireturn, 1) := by decide +kernel
theorem dX0_height_0 : decode cX0_height 0 = .ok (.iload_n 1, 1) := by decide +kernel
theorem dX0_height_1 : decode cX0_height 1 = .ok (.iconst 1, 1) := by decide +kernel
theorem dX0_height_2 : decode cX0_height 2 = .ok (.iand, 1) := by decide +kernel
theorem dX0_height_3 : decode cX0_height 3 = .ok (.iconst 1, 1) := by decide +kernel
theorem dX0_height_4 : decode cX0_height 4 = .ok (.if_icmp .ne 7, 3) := by decide +kernel
theorem dX0_height_7 : decode cX0_height 7 = .ok (.iconst 1, 1) := by decide +kernel
theorem dX0_height_8 : decode cX0_height 8 = .ok (.goto 4, 3) := by decide +kernel
theorem dX0_height_11 : decode cX0_height 11 = .ok (.iconst 0, 1) := by decide +kernel
theorem dX0_height_12 : decode cX0_height 12 = .ok (.istore_n 2, 1) := by decide +kernel
theorem dX0_height_13 : decode cX0_height 13 = .ok (.iload_n 2, 1) := by decide +kernel
theorem dX0_height_14 : decode cX0_height 14 = .ok (.ifCond .eq 15, 3) := by decide +kernel
theorem dX0_height_17 : decode cX0_height 17 = .ok (.iload_n 1, 1) := by decide +kernel
theorem dX0_height_18 : decode cX0_height 18 = .ok (.ldc 68, 2) := by decide +kernel
theorem dX0_height_20 : decode cX0_height 20 = .ok (.if_icmp .lt 9, 3) := by decide +kernel
theorem dX0_height_23 : decode cX0_height 23 = .ok (.iload_n 1, 1) := by decide +kernel
theorem dX0_height_24 : decode cX0_height 24 = .ok (.ldc 69, 2) := by decide +kernel
theorem dX0_height_26 : decode cX0_height 26 = .ok (.if_icmp .le 5, 3) := by decide +kernel
theorem dX0_height_29 : decode cX0_height 29 = .ok (.iconst 0, 1) := by decide +kernel
theorem dX0_height_30 : decode cX0_height 30 = .ok (.ireturn, 1) := by decide +kernel
theorem dX0_height_31 : decode cX0_height 31 = .ok (.aload_n 0, 1) := by decide +kernel
theorem dX0_height_32 : decode cX0_height 32 = .ok (.iload_n 1, 1) := by decide +kernel
theorem dX0_height_33 : decode cX0_height 33 = .ok (.putfield 16, 3) := by decide +kernel
theorem dX0_height_36 : decode cX0_height 36 = .ok (.iconst 1, 1) := by decide +kernel
theorem dX0_height_37 : decode cX0_height 37 = .ok (.ireturn, 1) := by decide +kernel
set_option maxRecDepth 20000 in
theorem ggX0_make_X0_forgetChains : GoodIn wsX0_make wsX0_forgetChains := goodIn_r _ [6, 1, 7, 8, 9, 10, 11, 12, 94, 95, 96, 97, 98, 99, 100, 101, 102, 103, 104] (by decide +kernel) (by decide +kernel)
set_option maxRecDepth 20000 in
theorem gX0_make_X0_forgetChains : GoodIn wsX0_make (wsV RX0 54 RX0 yX0_forgetChains wsX0_forgetChains) := goodIn_app (goodIn_of _ (by decide +kernel)) ggX0_make_X0_forgetChains
set_option maxRecDepth 20000 in
theorem ggX0_make_X0_drawLines : GoodIn wsX0_make wsX0_drawLines := goodIn_r _ [16, 17, 18, 19, 20, 9, 10, 11, 12, 21, 22, 23, 5, 24, 25, 26, 27, 28, 29, 30, 31, 32, 33, 34, 35, 36, 37, 38, 39, 40, 41, 42, 43, 44, 45, 46, 47, 48, 49, 50, 51, 52, 53, 54, 55, 56, 57, 58, 59, 60, 61, 62, 63, 64, 65, 66, 67, 68, 69, 70, 71, 72, 73, 74, 75, 94, 95, 96, 97, 98, 99, 100, 101, 102, 103, 104] (by decide +kernel) (by decide +kernel)
set_option maxRecDepth 20000 in
theorem gX0_make_X0_drawLines : GoodIn wsX0_make (wsV RX0 70 RX0 yX0_drawLines wsX0_drawLines) := goodIn_app (goodIn_of _ (by decide +kernel)) ggX0_make_X0_drawLines
set_option maxRecDepth 20000 in
theorem ggX0_make_X0_gatherOpenChains : GoodIn wsX0_make wsX0_gatherOpenChains := goodIn_r _ [79, 17, 18, 1, 7, 80, 81, 82, 5, 83, 19, 20, 66, 67, 68, 69, 84, 85, 86, 87, 88, 8, 89, 94, 95, 96, 97, 98, 99, 100, 101, 102, 103, 104] (by decide +kernel) (by decide +kernel)
set_option maxRecDepth 20000 in
theorem gX0_make_X0_gatherOpenChains : GoodIn wsX0_make (wsV RX0 73 RX0 yX0_gatherOpenChains wsX0_gatherOpenChains) := goodIn_app (goodIn_of _ (by decide +kernel)) ggX0_make_X0_gatherOpenChains
set_option maxRecDepth 20000 in
theorem ggX0_make_X0_gatherClosedChains : GoodIn wsX0_make wsX0_gatherClosedChains := goodIn_r _ [93, 17, 8, 80, 81, 82, 5, 83, 19, 20, 66, 67, 68, 69, 84, 85, 86, 87, 88, 1, 89, 94, 95, 96, 97, 98, 99, 100, 101, 102, 103, 104] (by decide +kernel) (by decide +kernel)
set_option maxRecDepth 20000 in
theorem gX0_make_X0_gatherClosedChains : GoodIn wsX0_make (wsV RX0 76 RX0 yX0_gatherClosedChains wsX0_gatherClosedChains) := goodIn_app (goodIn_of _ (by decide +kernel)) ggX0_make_X0_gatherClosedChains
theorem dX0_make_0 : decode cX0_make 0 = .ok (.aload_n 0, 1) := by decide +kernel
theorem dX0_make_1 : decode cX0_make 1 = .ok (.invokevirtual 54, 3) := by decide +kernel
theorem dX0_make_4 : decode cX0_make 4 = .ok (.aload_n 0, 1) := by decide +kernel
theorem dX0_make_5 : decode cX0_make 5 = .ok (.invokevirtual 70, 3) := by decide +kernel
theorem dX0_make_8 : decode cX0_make 8 = .ok (.aload_n 0, 1) := by decide +kernel
theorem dX0_make_9 : decode cX0_make 9 = .ok (.invokevirtual 73, 3) := by decide +kernel
theorem dX0_make_12 : decode cX0_make 12 = .ok (.aload_n 0, 1) := by decide +kernel
theorem dX0_make_13 : decode cX0_make 13 = .ok (.invokevirtual 76, 3) := by decide +kernel
theorem dX0_make_16 : decode cX0_make 16 = .ok (.aload_n 0, 1) := by decide +kernel
theorem dX0_make_17 : decode cX0_make 17 = .ok (.getfield 41, 3) := by decide +kernel
theorem dX0_make_20 : decode cX0_make 20 = .ok (.ireturn, 1) := by decide +kernel
set_option maxRecDepth 20000 in
theorem ggX0_size_X0_hasChain : GoodIn wsX0_size wsX0_hasChain := goodIn_r _ [6, 7, 8, 9, 10, 11, 12, 13, 14, 15, 16, 17, 18] (by decide +kernel) (by decide +kernel)
set_option maxRecDepth 20000 in
theorem gX0_size_X0_hasChain : GoodIn wsX0_size (wsV RX0 79 RX0 yX0_hasChain wsX0_hasChain) := goodIn_app (goodIn_of _ (by decide +kernel)) ggX0_size_X0_hasChain
theorem dX0_size_0 : decode cX0_size 0 = .ok (.aload_n 0, 1) := by decide +kernel
theorem dX0_size_1 : decode cX0_size 1 = .ok (.iload_n 1, 1) := by decide +kernel
theorem dX0_size_2 : decode cX0_size 2 = .ok (.invokevirtual 79, 3) := by decide +kernel
theorem dX0_size_5 : decode cX0_size 5 = .ok (.ifCond .eq 21, 3) := by decide +kernel
theorem dX0_size_8 : decode cX0_size 8 = .ok (.aload_n 0, 1) := by decide +kernel
theorem dX0_size_9 : decode cX0_size 9 = .ok (.getfield 32, 3) := by decide +kernel
theorem dX0_size_12 : decode cX0_size 12 = .ok (.iload_n 1, 1) := by decide +kernel
theorem dX0_size_13 : decode cX0_size 13 = .ok (.iconst 1, 1) := by decide +kernel
theorem dX0_size_14 : decode cX0_size 14 = .ok (.iadd, 1) := by decide +kernel
theorem dX0_size_15 : decode cX0_size 15 = .ok (.iaload, 1) := by decide +kernel
theorem dX0_size_16 : decode cX0_size 16 = .ok (.aload_n 0, 1) := by decide +kernel
theorem dX0_size_17 : decode cX0_size 17 = .ok (.getfield 32, 3) := by decide +kernel
theorem dX0_size_20 : decode cX0_size 20 = .ok (.iload_n 1, 1) := by decide +kernel
theorem dX0_size_21 : decode cX0_size 21 = .ok (.iaload, 1) := by decide +kernel
theorem dX0_size_22 : decode cX0_size 22 = .ok (.isub, 1) := by decide +kernel
theorem dX0_size_23 : decode cX0_size 23 = .ok (.goto 4, 3) := by decide +kernel
theorem dX0_size_26 : decode cX0_size 26 = .ok (.iconst (-1), 1) := by decide +kernel
theorem dX0_size_27 : decode cX0_size 27 = .ok (.ireturn, 1) := by decide +kernel
set_option maxRecDepth 20000 in
theorem ggX0_isClosed_X0_hasChain : GoodIn wsX0_isClosed wsX0_hasChain := goodIn_r _ [6, 7, 8, 9, 10, 11, 12, 13, 14, 15, 16, 17, 18] (by decide +kernel) (by decide +kernel)
set_option maxRecDepth 20000 in
theorem gX0_isClosed_X0_hasChain : GoodIn wsX0_isClosed (wsV RX0 79 RX0 yX0_hasChain wsX0_hasChain) := goodIn_app (goodIn_of _ (by decide +kernel)) ggX0_isClosed_X0_hasChain
theorem dX0_isClosed_0 : decode cX0_isClosed 0 = .ok (.aload_n 0, 1) := by decide +kernel
theorem dX0_isClosed_1 : decode cX0_isClosed 1 = .ok (.iload_n 1, 1) := by decide +kernel
theorem dX0_isClosed_2 : decode cX0_isClosed 2 = .ok (.invokevirtual 79, 3) := by decide +kernel
theorem dX0_isClosed_5 : decode cX0_isClosed 5 = .ok (.ifCond .eq 15, 3) := by decide +kernel
theorem dX0_isClosed_8 : decode cX0_isClosed 8 = .ok (.iload_n 1, 1) := by decide +kernel
theorem dX0_isClosed_9 : decode cX0_isClosed 9 = .ok (.aload_n 0, 1) := by decide +kernel
theorem dX0_isClosed_10 : decode cX0_isClosed 10 = .ok (.getfield 38, 3) := by decide +kernel
theorem dX0_isClosed_13 : decode cX0_isClosed 13 = .ok (.if_icmp .lt 7, 3) := by decide +kernel
theorem dX0_isClosed_16 : decode cX0_isClosed 16 = .ok (.iconst 1, 1) := by decide +kernel
theorem dX0_isClosed_17 : decode cX0_isClosed 17 = .ok (.goto 4, 3) := by decide +kernel
theorem dX0_isClosed_20 : decode cX0_isClosed 20 = .ok (.iconst 0, 1) := by decide +kernel
theorem dX0_isClosed_21 : decode cX0_isClosed 21 = .ok (.ireturn, 1) := by decide +kernel
set_option maxRecDepth 20000 in
theorem ggX0_edge_X0_size : GoodIn wsX0_edge wsX0_size := goodIn_r _ [7, 2, 8, 9, 10, 6, 11, 12, 13, 14, 15, 16, 17, 18, 19, 20, 21, 22, 23] (by decide +kernel) (by decide +kernel)
set_option maxRecDepth 20000 in
theorem gX0_edge_X0_size : GoodIn wsX0_edge (wsV RX0 82 RX0 yX0_size wsX0_size) := goodIn_app (goodIn_of _ (by decide +kernel)) ggX0_edge_X0_size
theorem dX0_edge_0 : decode cX0_edge 0 = .ok (.iload_n 2, 1) := by decide +kernel
theorem dX0_edge_1 : decode cX0_edge 1 = .ok (.ifCond .lt 28, 3) := by decide +kernel
theorem dX0_edge_4 : decode cX0_edge 4 = .ok (.iload_n 2, 1) := by decide +kernel
theorem dX0_edge_5 : decode cX0_edge 5 = .ok (.aload_n 0, 1) := by decide +kernel
theorem dX0_edge_6 : decode cX0_edge 6 = .ok (.iload_n 1, 1) := by decide +kernel
theorem dX0_edge_7 : decode cX0_edge 7 = .ok (.invokevirtual 82, 3) := by decide +kernel
theorem dX0_edge_10 : decode cX0_edge 10 = .ok (.if_icmp .ge 19, 3) := by decide +kernel
theorem dX0_edge_13 : decode cX0_edge 13 = .ok (.aload_n 0, 1) := by decide +kernel
theorem dX0_edge_14 : decode cX0_edge 14 = .ok (.getfield 29, 3) := by decide +kernel
theorem dX0_edge_17 : decode cX0_edge 17 = .ok (.aload_n 0, 1) := by decide +kernel
theorem dX0_edge_18 : decode cX0_edge 18 = .ok (.getfield 32, 3) := by decide +kernel
theorem dX0_edge_21 : decode cX0_edge 21 = .ok (.iload_n 1, 1) := by decide +kernel
theorem dX0_edge_22 : decode cX0_edge 22 = .ok (.iaload, 1) := by decide +kernel
theorem dX0_edge_23 : decode cX0_edge 23 = .ok (.iload_n 2, 1) := by decide +kernel
theorem dX0_edge_24 : decode cX0_edge 24 = .ok (.iadd, 1) := by decide +kernel
theorem dX0_edge_25 : decode cX0_edge 25 = .ok (.iaload, 1) := by decide +kernel
theorem dX0_edge_26 : decode cX0_edge 26 = .ok (.goto 4, 3) := by decide +kernel
theorem dX0_edge_29 : decode cX0_edge 29 = .ok (.iconst (-1), 1) := by decide +kernel
theorem dX0_edge_30 : decode cX0_edge 30 = .ok (.ireturn, 1) := by decide +kernel
set_option maxRecDepth 20000 in
theorem ggX0_crossing_X0_edgeCount : GoodIn wsX0_crossing wsX0_edgeCount := goodIn_r _ [13, 14, 15, 16, 17, 18, 12, 19, 39, 40, 41, 42, 43, 44, 45, 46, 47, 48, 49] (by decide +kernel) (by decide +kernel)
set_option maxRecDepth 20000 in
theorem gX0_crossing_X0_edgeCount : GoodIn wsX0_crossing (wsV RX0 86 RX0 yX0_edgeCount wsX0_edgeCount) := goodIn_app (goodIn_of _ (by decide +kernel)) ggX0_crossing_X0_edgeCount
set_option maxRecDepth 20000 in
theorem ggX0_crossing_X0_isCrossed : GoodIn wsX0_crossing wsX0_isCrossed := goodIn_r _ [23, 24, 25, 26, 12, 27, 15, 16, 17, 18, 19, 14, 28, 29, 30, 31, 3, 4, 32, 33, 34, 35, 39, 40, 41, 42, 43, 44, 45, 46, 47, 48, 49] (by decide +kernel) (by decide +kernel)
set_option maxRecDepth 20000 in
theorem gX0_crossing_X0_isCrossed : GoodIn wsX0_crossing (wsV RX0 90 RX0 yX0_isCrossed wsX0_isCrossed) := goodIn_app (goodIn_of _ (by decide +kernel)) ggX0_crossing_X0_isCrossed
set_option maxRecDepth 20000 in
theorem ggX0_crossing_X0_firstSample : GoodIn wsX0_crossing wsX0_firstSample := goodIn_r _ [27, 15, 16, 17, 18, 12, 19, 14, 39, 40, 41, 42, 43, 44, 45, 46, 47, 48, 49] (by decide +kernel) (by decide +kernel)
set_option maxRecDepth 20000 in
theorem gX0_crossing_X0_firstSample : GoodIn wsX0_crossing (wsV RX0 96 RX0 yX0_firstSample wsX0_firstSample) := goodIn_app (goodIn_of _ (by decide +kernel)) ggX0_crossing_X0_firstSample
set_option maxRecDepth 20000 in
theorem ggX0_crossing_X0_secondSample : GoodIn wsX0_crossing wsX0_secondSample := goodIn_r _ [35, 15, 24, 25, 26, 12, 27, 16, 17, 18, 19, 14, 39, 40, 41, 42, 43, 44, 45, 46, 47, 48, 49] (by decide +kernel) (by decide +kernel)
set_option maxRecDepth 20000 in
theorem gX0_crossing_X0_secondSample : GoodIn wsX0_crossing (wsV RX0 99 RX0 yX0_secondSample wsX0_secondSample) := goodIn_app (goodIn_of _ (by decide +kernel)) ggX0_crossing_X0_secondSample
set_option maxRecDepth 20000 in
theorem ggX0_crossing_X0_greatestDivisor : GoodIn wsX0_crossing wsX0_greatestDivisor := goodIn_r _ [38] (by decide +kernel) (by decide +kernel)
set_option maxRecDepth 20000 in
theorem gX0_crossing_X0_greatestDivisor : GoodIn wsX0_crossing (va_wsS RX0 107 yX0_greatestDivisor wsX0_greatestDivisor) := goodIn_app (goodIn_of _ (by decide +kernel)) ggX0_crossing_X0_greatestDivisor
theorem dX0_crossing_0 : decode cX0_crossing 0 = .ok (.iload_n 1, 1) := by decide +kernel
theorem dX0_crossing_1 : decode cX0_crossing 1 = .ok (.ifCond .lt 28, 3) := by decide +kernel
theorem dX0_crossing_4 : decode cX0_crossing 4 = .ok (.iload_n 1, 1) := by decide +kernel
theorem dX0_crossing_5 : decode cX0_crossing 5 = .ok (.aload_n 0, 1) := by decide +kernel
theorem dX0_crossing_6 : decode cX0_crossing 6 = .ok (.invokevirtual 86, 3) := by decide +kernel
theorem dX0_crossing_9 : decode cX0_crossing 9 = .ok (.if_icmp .ge 20, 3) := by decide +kernel
theorem dX0_crossing_12 : decode cX0_crossing 12 = .ok (.aload_n 0, 1) := by decide +kernel
theorem dX0_crossing_13 : decode cX0_crossing 13 = .ok (.iload_n 1, 1) := by decide +kernel
theorem dX0_crossing_14 : decode cX0_crossing 14 = .ok (.invokevirtual 90, 3) := by decide +kernel
theorem dX0_crossing_17 : decode cX0_crossing 17 = .ok (.ifCond .eq 12, 3) := by decide +kernel
theorem dX0_crossing_20 : decode cX0_crossing 20 = .ok (.iload_n 2, 1) := by decide +kernel
theorem dX0_crossing_21 : decode cX0_crossing 21 = .ok (.ifCond .lt 8, 3) := by decide +kernel
theorem dX0_crossing_24 : decode cX0_crossing 24 = .ok (.iload_n 2, 1) := by decide +kernel
theorem dX0_crossing_25 : decode cX0_crossing 25 = .ok (.iconst 1, 1) := by decide +kernel
theorem dX0_crossing_26 : decode cX0_crossing 26 = .ok (.if_icmp .le 11, 3) := by decide +kernel
theorem dX0_crossing_29 : decode cX0_crossing 29 = .ok (.new 93, 3) := by decide +kernel
theorem dX0_crossing_32 : decode cX0_crossing 32 = .ok (.dup, 1) := by decide +kernel
theorem dX0_crossing_33 : decode cX0_crossing 33 = .ok (.invokespecial 95, 3) := by decide +kernel
theorem dX0_crossing_36 : decode cX0_crossing 36 = .ok (.athrow, 1) := by decide +kernel
theorem dX0_crossing_37 : decode cX0_crossing 37 = .ok (.aload_n 0, 1) := by decide +kernel
theorem dX0_crossing_38 : decode cX0_crossing 38 = .ok (.getfield 19, 3) := by decide +kernel
theorem dX0_crossing_41 : decode cX0_crossing 41 = .ok (.aload_n 0, 1) := by decide +kernel
theorem dX0_crossing_42 : decode cX0_crossing 42 = .ok (.iload_n 1, 1) := by decide +kernel
theorem dX0_crossing_43 : decode cX0_crossing 43 = .ok (.invokevirtual 96, 3) := by decide +kernel
theorem dX0_crossing_46 : decode cX0_crossing 46 = .ok (.iaload, 1) := by decide +kernel
theorem dX0_crossing_47 : decode cX0_crossing 47 = .ok (.istore_n 3, 1) := by decide +kernel
theorem dX0_crossing_48 : decode cX0_crossing 48 = .ok (.aload_n 0, 1) := by decide +kernel
theorem dX0_crossing_49 : decode cX0_crossing 49 = .ok (.getfield 19, 3) := by decide +kernel
theorem dX0_crossing_52 : decode cX0_crossing 52 = .ok (.aload_n 0, 1) := by decide +kernel
theorem dX0_crossing_53 : decode cX0_crossing 53 = .ok (.iload_n 1, 1) := by decide +kernel
theorem dX0_crossing_54 : decode cX0_crossing 54 = .ok (.invokevirtual 99, 3) := by decide +kernel
theorem dX0_crossing_57 : decode cX0_crossing 57 = .ok (.iaload, 1) := by decide +kernel
theorem dX0_crossing_58 : decode cX0_crossing 58 = .ok (.istore 4, 2) := by decide +kernel
theorem dX0_crossing_60 : decode cX0_crossing 60 = .ok (.aload_n 0, 1) := by decide +kernel
theorem dX0_crossing_61 : decode cX0_crossing 61 = .ok (.getfield 16, 3) := by decide +kernel
theorem dX0_crossing_64 : decode cX0_crossing 64 = .ok (.iconst 2, 1) := by decide +kernel
theorem dX0_crossing_65 : decode cX0_crossing 65 = .ok (.iload_n 3, 1) := by decide +kernel
theorem dX0_crossing_66 : decode cX0_crossing 66 = .ok (.imul, 1) := by decide +kernel
theorem dX0_crossing_67 : decode cX0_crossing 67 = .ok (.isub, 1) := by decide +kernel
theorem dX0_crossing_68 : decode cX0_crossing 68 = .ok (.invokestatic 102, 3) := by decide +kernel
theorem dX0_crossing_71 : decode cX0_crossing 71 = .ok (.istore 5, 2) := by decide +kernel
theorem dX0_crossing_73 : decode cX0_crossing 73 = .ok (.iconst 2, 1) := by decide +kernel
theorem dX0_crossing_74 : decode cX0_crossing 74 = .ok (.iload 4, 2) := by decide +kernel
theorem dX0_crossing_76 : decode cX0_crossing 76 = .ok (.iload_n 3, 1) := by decide +kernel
theorem dX0_crossing_77 : decode cX0_crossing 77 = .ok (.isub, 1) := by decide +kernel
theorem dX0_crossing_78 : decode cX0_crossing 78 = .ok (.imul, 1) := by decide +kernel
theorem dX0_crossing_79 : decode cX0_crossing 79 = .ok (.invokestatic 102, 3) := by decide +kernel
theorem dX0_crossing_82 : decode cX0_crossing 82 = .ok (.istore 6, 2) := by decide +kernel
theorem dX0_crossing_84 : decode cX0_crossing 84 = .ok (.iload_n 2, 1) := by decide +kernel
theorem dX0_crossing_85 : decode cX0_crossing 85 = .ok (.ifCond .ne 8, 3) := by decide +kernel
theorem dX0_crossing_88 : decode cX0_crossing 88 = .ok (.iload 5, 2) := by decide +kernel
theorem dX0_crossing_90 : decode cX0_crossing 90 = .ok (.goto 5, 3) := by decide +kernel
theorem dX0_crossing_93 : decode cX0_crossing 93 = .ok (.iload 6, 2) := by decide +kernel
theorem dX0_crossing_95 : decode cX0_crossing 95 = .ok (.iload 5, 2) := by decide +kernel
theorem dX0_crossing_97 : decode cX0_crossing 97 = .ok (.iload 6, 2) := by decide +kernel
theorem dX0_crossing_99 : decode cX0_crossing 99 = .ok (.invokestatic 107, 3) := by decide +kernel
theorem dX0_crossing_102 : decode cX0_crossing 102 = .ok (.idiv, 1) := by decide +kernel
theorem dX0_crossing_103 : decode cX0_crossing 103 = .ok (.ireturn, 1) := by decide +kernel
set_option maxRecDepth 20000 in
theorem ggX0_within_X0_isClosed : GoodIn wsX0_within wsX0_isClosed := goodIn_r _ [6, 7, 8, 9, 10, 5, 11, 12, 23, 24, 25, 26, 27, 28, 29, 30, 31, 32, 33] (by decide +kernel) (by decide +kernel)
set_option maxRecDepth 20000 in
theorem gX0_within_X0_isClosed : GoodIn wsX0_within (wsV RX0 110 RX0 yX0_isClosed wsX0_isClosed) := goodIn_app (goodIn_of _ (by decide +kernel)) ggX0_within_X0_isClosed
set_option maxRecDepth 20000 in
theorem ggX0_within_X0_withinInRow : GoodIn wsX0_within wsX0_withinInRow := goodIn_r _ [16, 17, 18, 19, 20, 21, 5, 22, 23, 24, 25, 26, 27, 28, 29, 30, 31, 32, 33] (by decide +kernel) (by decide +kernel)
set_option maxRecDepth 20000 in
theorem gX0_within_X0_withinInRow : GoodIn wsX0_within (wsV RX0 113 RX0 yX0_withinInRow wsX0_withinInRow) := goodIn_app (goodIn_of _ (by decide +kernel)) ggX0_within_X0_withinInRow
theorem dX0_within_0 : decode cX0_within 0 = .ok (.aload_n 0, 1) := by decide +kernel
theorem dX0_within_1 : decode cX0_within 1 = .ok (.iload_n 1, 1) := by decide +kernel
theorem dX0_within_2 : decode cX0_within 2 = .ok (.invokevirtual 110, 3) := by decide +kernel
theorem dX0_within_5 : decode cX0_within 5 = .ok (.ifCond .ne 5, 3) := by decide +kernel
theorem dX0_within_8 : decode cX0_within 8 = .ok (.iconst (-1), 1) := by decide +kernel
theorem dX0_within_9 : decode cX0_within 9 = .ok (.ireturn, 1) := by decide +kernel
theorem dX0_within_10 : decode cX0_within 10 = .ok (.iconst 0, 1) := by decide +kernel
theorem dX0_within_11 : decode cX0_within 11 = .ok (.istore_n 2, 1) := by decide +kernel
theorem dX0_within_12 : decode cX0_within 12 = .ok (.iconst 0, 1) := by decide +kernel
theorem dX0_within_13 : decode cX0_within 13 = .ok (.istore_n 3, 1) := by decide +kernel
theorem dX0_within_14 : decode cX0_within 14 = .ok (.iload_n 3, 1) := by decide +kernel
theorem dX0_within_15 : decode cX0_within 15 = .ok (.aload_n 0, 1) := by decide +kernel
theorem dX0_within_16 : decode cX0_within 16 = .ok (.getfield 13, 3) := by decide +kernel
theorem dX0_within_19 : decode cX0_within 19 = .ok (.if_icmp .ge 18, 3) := by decide +kernel
theorem dX0_within_22 : decode cX0_within 22 = .ok (.iload_n 2, 1) := by decide +kernel
theorem dX0_within_23 : decode cX0_within 23 = .ok (.aload_n 0, 1) := by decide +kernel
theorem dX0_within_24 : decode cX0_within 24 = .ok (.iload_n 1, 1) := by decide +kernel
theorem dX0_within_25 : decode cX0_within 25 = .ok (.iload_n 3, 1) := by decide +kernel
theorem dX0_within_26 : decode cX0_within 26 = .ok (.invokevirtual 113, 3) := by decide +kernel
theorem dX0_within_29 : decode cX0_within 29 = .ok (.iadd, 1) := by decide +kernel
theorem dX0_within_30 : decode cX0_within 30 = .ok (.istore_n 2, 1) := by decide +kernel
theorem dX0_within_31 : decode cX0_within 31 = .ok (.iinc 3 1, 3) := by decide +kernel
theorem dX0_within_34 : decode cX0_within 34 = .ok (.goto (-20), 3) := by decide +kernel
theorem dX0_within_37 : decode cX0_within 37 = .ok (.iload_n 2, 1) := by decide +kernel
theorem dX0_within_38 : decode cX0_within 38 = .ok (.ireturn, 1) := by decide +kernel
set_option maxRecDepth 20000 in
theorem ggX0_crossed_X0_edgeCount : GoodIn wsX0_crossed wsX0_edgeCount := goodIn_r _ [5, 6, 7, 8, 9, 10, 4, 11, 30, 31, 32, 33, 34, 35, 36, 37, 38, 39, 40] (by decide +kernel) (by decide +kernel)
set_option maxRecDepth 20000 in
theorem gX0_crossed_X0_edgeCount : GoodIn wsX0_crossed (wsV RX0 86 RX0 yX0_edgeCount wsX0_edgeCount) := goodIn_app (goodIn_of _ (by decide +kernel)) ggX0_crossed_X0_edgeCount
set_option maxRecDepth 20000 in
theorem ggX0_crossed_X0_isCrossed : GoodIn wsX0_crossed wsX0_isCrossed := goodIn_r _ [15, 16, 17, 18, 4, 19, 7, 8, 9, 10, 11, 6, 20, 21, 22, 23, 24, 25, 26, 27, 28, 29, 30, 31, 32, 33, 34, 35, 36, 37, 38, 39, 40] (by decide +kernel) (by decide +kernel)
set_option maxRecDepth 20000 in
theorem gX0_crossed_X0_isCrossed : GoodIn wsX0_crossed (wsV RX0 90 RX0 yX0_isCrossed wsX0_isCrossed) := goodIn_app (goodIn_of _ (by decide +kernel)) ggX0_crossed_X0_isCrossed
theorem dX0_crossed_0 : decode cX0_crossed 0 = .ok (.iconst 0, 1) := by decide +kernel
theorem dX0_crossed_1 : decode cX0_crossed 1 = .ok (.istore_n 1, 1) := by decide +kernel
theorem dX0_crossed_2 : decode cX0_crossed 2 = .ok (.iconst 0, 1) := by decide +kernel
theorem dX0_crossed_3 : decode cX0_crossed 3 = .ok (.istore_n 2, 1) := by decide +kernel
theorem dX0_crossed_4 : decode cX0_crossed 4 = .ok (.iload_n 2, 1) := by decide +kernel
theorem dX0_crossed_5 : decode cX0_crossed 5 = .ok (.aload_n 0, 1) := by decide +kernel
theorem dX0_crossed_6 : decode cX0_crossed 6 = .ok (.invokevirtual 86, 3) := by decide +kernel
theorem dX0_crossed_9 : decode cX0_crossed 9 = .ok (.if_icmp .ge 20, 3) := by decide +kernel
theorem dX0_crossed_12 : decode cX0_crossed 12 = .ok (.aload_n 0, 1) := by decide +kernel
theorem dX0_crossed_13 : decode cX0_crossed 13 = .ok (.iload_n 2, 1) := by decide +kernel
theorem dX0_crossed_14 : decode cX0_crossed 14 = .ok (.invokevirtual 90, 3) := by decide +kernel
theorem dX0_crossed_17 : decode cX0_crossed 17 = .ok (.ifCond .eq 6, 3) := by decide +kernel
theorem dX0_crossed_20 : decode cX0_crossed 20 = .ok (.iinc 1 1, 3) := by decide +kernel
theorem dX0_crossed_23 : decode cX0_crossed 23 = .ok (.iinc 2 1, 3) := by decide +kernel
theorem dX0_crossed_26 : decode cX0_crossed 26 = .ok (.goto (-22), 3) := by decide +kernel
theorem dX0_crossed_29 : decode cX0_crossed 29 = .ok (.iload_n 1, 1) := by decide +kernel
theorem dX0_crossed_30 : decode cX0_crossed 30 = .ok (.ireturn, 1) := by decide +kernel
theorem dX0_isSide_0 : decode cX0_isSide 0 = .ok (.iload_n 0, 1) := by decide +kernel
theorem dX0_isSide_1 : decode cX0_isSide 1 = .ok (.iconst 2, 1) := by decide +kernel
theorem dX0_isSide_2 : decode cX0_isSide 2 = .ok (.if_icmp .lt 13, 3) := by decide +kernel
theorem dX0_isSide_5 : decode cX0_isSide 5 = .ok (.iload_n 0, 1) := by decide +kernel
theorem dX0_isSide_6 : decode cX0_isSide 6 = .ok (.bipush 12, 2) := by decide +kernel
theorem dX0_isSide_8 : decode cX0_isSide 8 = .ok (.if_icmp .gt 7, 3) := by decide +kernel
theorem dX0_isSide_11 : decode cX0_isSide 11 = .ok (.iconst 1, 1) := by decide +kernel
theorem dX0_isSide_12 : decode cX0_isSide 12 = .ok (.goto 4, 3) := by decide +kernel
theorem dX0_isSide_15 : decode cX0_isSide 15 = .ok (.iconst 0, 1) := by decide +kernel
theorem dX0_isSide_16 : decode cX0_isSide 16 = .ok (.ireturn, 1) := by decide +kernel
theorem dX0_heldToBounds_0 : decode cX0_heldToBounds 0 = .ok (.ldc2_w 116, 3) := by decide +kernel
theorem dX0_heldToBounds_3 : decode cX0_heldToBounds 3 = .ok (.ldc2_w 118, 3) := by decide +kernel
theorem dX0_heldToBounds_6 : decode cX0_heldToBounds 6 = .ok (.lload_n 0, 1) := by decide +kernel
theorem dX0_heldToBounds_7 : decode cX0_heldToBounds 7 = .ok (.invokestatic 120, 3) := by decide +kernel
theorem dX0_heldToBounds_10 : decode cX0_heldToBounds 10 = .ok (.invokestatic 124, 3) := by decide +kernel
theorem dX0_heldToBounds_13 : decode cX0_heldToBounds 13 = .ok (.l2i, 1) := by decide +kernel
theorem dX0_heldToBounds_14 : decode cX0_heldToBounds 14 = .ok (.ireturn, 1) := by decide +kernel
theorem dX0_greatestDivisor_0 : decode cX0_greatestDivisor 0 = .ok (.iload_n 0, 1) := by decide +kernel
theorem dX0_greatestDivisor_1 : decode cX0_greatestDivisor 1 = .ok (.istore_n 2, 1) := by decide +kernel
theorem dX0_greatestDivisor_2 : decode cX0_greatestDivisor 2 = .ok (.iload_n 1, 1) := by decide +kernel
theorem dX0_greatestDivisor_3 : decode cX0_greatestDivisor 3 = .ok (.istore_n 3, 1) := by decide +kernel
theorem dX0_greatestDivisor_4 : decode cX0_greatestDivisor 4 = .ok (.iconst 0, 1) := by decide +kernel
theorem dX0_greatestDivisor_5 : decode cX0_greatestDivisor 5 = .ok (.istore 4, 2) := by decide +kernel
theorem dX0_greatestDivisor_7 : decode cX0_greatestDivisor 7 = .ok (.iload 4, 2) := by decide +kernel
theorem dX0_greatestDivisor_9 : decode cX0_greatestDivisor 9 = .ok (.bipush 64, 2) := by decide +kernel
theorem dX0_greatestDivisor_11 : decode cX0_greatestDivisor 11 = .ok (.if_icmp .ge 23, 3) := by decide +kernel
theorem dX0_greatestDivisor_14 : decode cX0_greatestDivisor 14 = .ok (.iload_n 3, 1) := by decide +kernel
theorem dX0_greatestDivisor_15 : decode cX0_greatestDivisor 15 = .ok (.ifCond .eq 19, 3) := by decide +kernel
theorem dX0_greatestDivisor_18 : decode cX0_greatestDivisor 18 = .ok (.iload_n 2, 1) := by decide +kernel
theorem dX0_greatestDivisor_19 : decode cX0_greatestDivisor 19 = .ok (.iload_n 3, 1) := by decide +kernel
theorem dX0_greatestDivisor_20 : decode cX0_greatestDivisor 20 = .ok (.irem, 1) := by decide +kernel
theorem dX0_greatestDivisor_21 : decode cX0_greatestDivisor 21 = .ok (.istore 5, 2) := by decide +kernel
theorem dX0_greatestDivisor_23 : decode cX0_greatestDivisor 23 = .ok (.iload_n 3, 1) := by decide +kernel
theorem dX0_greatestDivisor_24 : decode cX0_greatestDivisor 24 = .ok (.istore_n 2, 1) := by decide +kernel
theorem dX0_greatestDivisor_25 : decode cX0_greatestDivisor 25 = .ok (.iload 5, 2) := by decide +kernel
theorem dX0_greatestDivisor_27 : decode cX0_greatestDivisor 27 = .ok (.istore_n 3, 1) := by decide +kernel
theorem dX0_greatestDivisor_28 : decode cX0_greatestDivisor 28 = .ok (.iinc 4 1, 3) := by decide +kernel
theorem dX0_greatestDivisor_31 : decode cX0_greatestDivisor 31 = .ok (.goto (-24), 3) := by decide +kernel
theorem dX0_greatestDivisor_34 : decode cX0_greatestDivisor 34 = .ok (.iload_n 2, 1) := by decide +kernel
theorem dX0_greatestDivisor_35 : decode cX0_greatestDivisor 35 = .ok (.ireturn, 1) := by decide +kernel
theorem dX0_hasRow_0 : decode cX0_hasRow 0 = .ok (.iload_n 1, 1) := by decide +kernel
theorem dX0_hasRow_1 : decode cX0_hasRow 1 = .ok (.ifCond .lt 15, 3) := by decide +kernel
theorem dX0_hasRow_4 : decode cX0_hasRow 4 = .ok (.iload_n 1, 1) := by decide +kernel
theorem dX0_hasRow_5 : decode cX0_hasRow 5 = .ok (.aload_n 0, 1) := by decide +kernel
theorem dX0_hasRow_6 : decode cX0_hasRow 6 = .ok (.getfield 13, 3) := by decide +kernel
theorem dX0_hasRow_9 : decode cX0_hasRow 9 = .ok (.if_icmp .ge 7, 3) := by decide +kernel
theorem dX0_hasRow_12 : decode cX0_hasRow 12 = .ok (.iconst 1, 1) := by decide +kernel
theorem dX0_hasRow_13 : decode cX0_hasRow 13 = .ok (.goto 4, 3) := by decide +kernel
theorem dX0_hasRow_16 : decode cX0_hasRow 16 = .ok (.iconst 0, 1) := by decide +kernel
theorem dX0_hasRow_17 : decode cX0_hasRow 17 = .ok (.ireturn, 1) := by decide +kernel
theorem dX0_sampleAt_0 : decode cX0_sampleAt 0 = .ok (.iload_n 2, 1) := by decide +kernel
theorem dX0_sampleAt_1 : decode cX0_sampleAt 1 = .ok (.aload_n 0, 1) := by decide +kernel
theorem dX0_sampleAt_2 : decode cX0_sampleAt 2 = .ok (.getfield 9, 3) := by decide +kernel
theorem dX0_sampleAt_5 : decode cX0_sampleAt 5 = .ok (.imul, 1) := by decide +kernel
theorem dX0_sampleAt_6 : decode cX0_sampleAt 6 = .ok (.iload_n 1, 1) := by decide +kernel
theorem dX0_sampleAt_7 : decode cX0_sampleAt 7 = .ok (.iadd, 1) := by decide +kernel
theorem dX0_sampleAt_8 : decode cX0_sampleAt 8 = .ok (.ireturn, 1) := by decide +kernel
theorem dX0_isAbove_0 : decode cX0_isAbove 0 = .ok (.iconst 2, 1) := by decide +kernel
theorem dX0_isAbove_1 : decode cX0_isAbove 1 = .ok (.aload_n 0, 1) := by decide +kernel
theorem dX0_isAbove_2 : decode cX0_isAbove 2 = .ok (.getfield 19, 3) := by decide +kernel
theorem dX0_isAbove_5 : decode cX0_isAbove 5 = .ok (.iload_n 1, 1) := by decide +kernel
theorem dX0_isAbove_6 : decode cX0_isAbove 6 = .ok (.iaload, 1) := by decide +kernel
theorem dX0_isAbove_7 : decode cX0_isAbove 7 = .ok (.imul, 1) := by decide +kernel
theorem dX0_isAbove_8 : decode cX0_isAbove 8 = .ok (.aload_n 0, 1) := by decide +kernel
theorem dX0_isAbove_9 : decode cX0_isAbove 9 = .ok (.getfield 16, 3) := by decide +kernel
theorem dX0_isAbove_12 : decode cX0_isAbove 12 = .ok (.if_icmp .le 7, 3) := by decide +kernel
theorem dX0_isAbove_15 : decode cX0_isAbove 15 = .ok (.iconst 1, 1) := by decide +kernel
theorem dX0_isAbove_16 : decode cX0_isAbove 16 = .ok (.goto 4, 3) := by decide +kernel
theorem dX0_isAbove_19 : decode cX0_isAbove 19 = .ok (.iconst 0, 1) := by decide +kernel
theorem dX0_isAbove_20 : decode cX0_isAbove 20 = .ok (.ireturn, 1) := by decide +kernel
theorem dX0_rightwardEdges_0 : decode cX0_rightwardEdges 0 = .ok (.aload_n 0, 1) := by decide +kernel
theorem dX0_rightwardEdges_1 : decode cX0_rightwardEdges 1 = .ok (.getfield 13, 3) := by decide +kernel
theorem dX0_rightwardEdges_4 : decode cX0_rightwardEdges 4 = .ok (.aload_n 0, 1) := by decide +kernel
theorem dX0_rightwardEdges_5 : decode cX0_rightwardEdges 5 = .ok (.getfield 9, 3) := by decide +kernel
theorem dX0_rightwardEdges_8 : decode cX0_rightwardEdges 8 = .ok (.iconst 1, 1) := by decide +kernel
theorem dX0_rightwardEdges_9 : decode cX0_rightwardEdges 9 = .ok (.isub, 1) := by decide +kernel
theorem dX0_rightwardEdges_10 : decode cX0_rightwardEdges 10 = .ok (.imul, 1) := by decide +kernel
theorem dX0_rightwardEdges_11 : decode cX0_rightwardEdges 11 = .ok (.ireturn, 1) := by decide +kernel
set_option maxRecDepth 20000 in
theorem ggX0_edgeCount_X0_rightwardEdges : GoodIn wsX0_edgeCount wsX0_rightwardEdges := goodIn_r _ [7, 1, 2, 8, 9, 10, 11, 12, 13, 14, 15, 16, 17, 18] (by decide +kernel) (by decide +kernel)
set_option maxRecDepth 20000 in
theorem gX0_edgeCount_X0_rightwardEdges : GoodIn wsX0_edgeCount (wsV RX0 127 RX0 yX0_rightwardEdges wsX0_rightwardEdges) := goodIn_app (goodIn_of _ (by decide +kernel)) ggX0_edgeCount_X0_rightwardEdges
theorem dX0_edgeCount_0 : decode cX0_edgeCount 0 = .ok (.aload_n 0, 1) := by decide +kernel
theorem dX0_edgeCount_1 : decode cX0_edgeCount 1 = .ok (.invokevirtual 127, 3) := by decide +kernel
theorem dX0_edgeCount_4 : decode cX0_edgeCount 4 = .ok (.aload_n 0, 1) := by decide +kernel
theorem dX0_edgeCount_5 : decode cX0_edgeCount 5 = .ok (.getfield 13, 3) := by decide +kernel
theorem dX0_edgeCount_8 : decode cX0_edgeCount 8 = .ok (.iconst 1, 1) := by decide +kernel
theorem dX0_edgeCount_9 : decode cX0_edgeCount 9 = .ok (.isub, 1) := by decide +kernel
theorem dX0_edgeCount_10 : decode cX0_edgeCount 10 = .ok (.aload_n 0, 1) := by decide +kernel
theorem dX0_edgeCount_11 : decode cX0_edgeCount 11 = .ok (.getfield 9, 3) := by decide +kernel
theorem dX0_edgeCount_14 : decode cX0_edgeCount 14 = .ok (.imul, 1) := by decide +kernel
theorem dX0_edgeCount_15 : decode cX0_edgeCount 15 = .ok (.iadd, 1) := by decide +kernel
theorem dX0_edgeCount_16 : decode cX0_edgeCount 16 = .ok (.ireturn, 1) := by decide +kernel
theorem dX0_rightwardEdge_0 : decode cX0_rightwardEdge 0 = .ok (.iload_n 2, 1) := by decide +kernel
theorem dX0_rightwardEdge_1 : decode cX0_rightwardEdge 1 = .ok (.aload_n 0, 1) := by decide +kernel
theorem dX0_rightwardEdge_2 : decode cX0_rightwardEdge 2 = .ok (.getfield 9, 3) := by decide +kernel
theorem dX0_rightwardEdge_5 : decode cX0_rightwardEdge 5 = .ok (.iconst 1, 1) := by decide +kernel
theorem dX0_rightwardEdge_6 : decode cX0_rightwardEdge 6 = .ok (.isub, 1) := by decide +kernel
theorem dX0_rightwardEdge_7 : decode cX0_rightwardEdge 7 = .ok (.imul, 1) := by decide +kernel
theorem dX0_rightwardEdge_8 : decode cX0_rightwardEdge 8 = .ok (.iload_n 1, 1) := by decide +kernel
theorem dX0_rightwardEdge_9 : decode cX0_rightwardEdge 9 = .ok (.iadd, 1) := by decide +kernel
theorem dX0_rightwardEdge_10 : decode cX0_rightwardEdge 10 = .ok (.ireturn, 1) := by decide +kernel
set_option maxRecDepth 20000 in
theorem ggX0_upwardEdge_X0_rightwardEdges : GoodIn wsX0_upwardEdge wsX0_rightwardEdges := goodIn_r _ [6, 7, 1, 8, 9, 10, 11, 12, 13, 14, 15, 16, 17, 18] (by decide +kernel) (by decide +kernel)
set_option maxRecDepth 20000 in
theorem gX0_upwardEdge_X0_rightwardEdges : GoodIn wsX0_upwardEdge (wsV RX0 127 RX0 yX0_rightwardEdges wsX0_rightwardEdges) := goodIn_app (goodIn_of _ (by decide +kernel)) ggX0_upwardEdge_X0_rightwardEdges
theorem dX0_upwardEdge_0 : decode cX0_upwardEdge 0 = .ok (.aload_n 0, 1) := by decide +kernel
theorem dX0_upwardEdge_1 : decode cX0_upwardEdge 1 = .ok (.invokevirtual 127, 3) := by decide +kernel
theorem dX0_upwardEdge_4 : decode cX0_upwardEdge 4 = .ok (.iload_n 2, 1) := by decide +kernel
theorem dX0_upwardEdge_5 : decode cX0_upwardEdge 5 = .ok (.aload_n 0, 1) := by decide +kernel
theorem dX0_upwardEdge_6 : decode cX0_upwardEdge 6 = .ok (.getfield 9, 3) := by decide +kernel
theorem dX0_upwardEdge_9 : decode cX0_upwardEdge 9 = .ok (.imul, 1) := by decide +kernel
theorem dX0_upwardEdge_10 : decode cX0_upwardEdge 10 = .ok (.iadd, 1) := by decide +kernel
theorem dX0_upwardEdge_11 : decode cX0_upwardEdge 11 = .ok (.iload_n 1, 1) := by decide +kernel
theorem dX0_upwardEdge_12 : decode cX0_upwardEdge 12 = .ok (.iadd, 1) := by decide +kernel
theorem dX0_upwardEdge_13 : decode cX0_upwardEdge 13 = .ok (.ireturn, 1) := by decide +kernel
set_option maxRecDepth 20000 in
theorem ggX0_firstSample_X0_rightwardEdges : GoodIn wsX0_firstSample wsX0_rightwardEdges := goodIn_r _ [6, 7, 1, 8, 9, 10, 11, 12, 13, 14, 15, 16, 17, 18] (by decide +kernel) (by decide +kernel)
set_option maxRecDepth 20000 in
theorem gX0_firstSample_X0_rightwardEdges : GoodIn wsX0_firstSample (wsV RX0 127 RX0 yX0_rightwardEdges wsX0_rightwardEdges) := goodIn_app (goodIn_of _ (by decide +kernel)) ggX0_firstSample_X0_rightwardEdges
end
section
theorem dX0_firstSample_0 : decode cX0_firstSample 0 = .ok (.iload_n 1, 1) := by decide +kernel
theorem dX0_firstSample_1 : decode cX0_firstSample 1 = .ok (.aload_n 0, 1) := by decide +kernel
theorem dX0_firstSample_2 : decode cX0_firstSample 2 = .ok (.invokevirtual 127, 3) := by decide +kernel
theorem dX0_firstSample_5 : decode cX0_firstSample 5 = .ok (.if_icmp .lt 10, 3) := by decide +kernel
theorem dX0_firstSample_8 : decode cX0_firstSample 8 = .ok (.iload_n 1, 1) := by decide +kernel
theorem dX0_firstSample_9 : decode cX0_firstSample 9 = .ok (.aload_n 0, 1) := by decide +kernel
theorem dX0_firstSample_10 : decode cX0_firstSample 10 = .ok (.invokevirtual 127, 3) := by decide +kernel
theorem dX0_firstSample_13 : decode cX0_firstSample 13 = .ok (.isub, 1) := by decide +kernel
theorem dX0_firstSample_14 : decode cX0_firstSample 14 = .ok (.ireturn, 1) := by decide +kernel
theorem dX0_firstSample_15 : decode cX0_firstSample 15 = .ok (.iload_n 1, 1) := by decide +kernel
theorem dX0_firstSample_16 : decode cX0_firstSample 16 = .ok (.iload_n 1, 1) := by decide +kernel
theorem dX0_firstSample_17 : decode cX0_firstSample 17 = .ok (.aload_n 0, 1) := by decide +kernel
theorem dX0_firstSample_18 : decode cX0_firstSample 18 = .ok (.getfield 9, 3) := by decide +kernel
theorem dX0_firstSample_21 : decode cX0_firstSample 21 = .ok (.iconst 1, 1) := by decide +kernel
theorem dX0_firstSample_22 : decode cX0_firstSample 22 = .ok (.isub, 1) := by decide +kernel
theorem dX0_firstSample_23 : decode cX0_firstSample 23 = .ok (.idiv, 1) := by decide +kernel
theorem dX0_firstSample_24 : decode cX0_firstSample 24 = .ok (.iadd, 1) := by decide +kernel
theorem dX0_firstSample_25 : decode cX0_firstSample 25 = .ok (.ireturn, 1) := by decide +kernel
set_option maxRecDepth 20000 in
theorem ggX0_secondSample_X0_firstSample : GoodIn wsX0_secondSample wsX0_firstSample := goodIn_r _ [6, 1, 7, 8, 9, 5, 10, 11, 12, 13, 14, 15, 16, 17, 18, 19, 20, 21, 22] (by decide +kernel) (by decide +kernel)
set_option maxRecDepth 20000 in
theorem gX0_secondSample_X0_firstSample : GoodIn wsX0_secondSample (wsV RX0 96 RX0 yX0_firstSample wsX0_firstSample) := goodIn_app (goodIn_of _ (by decide +kernel)) ggX0_secondSample_X0_firstSample
set_option maxRecDepth 20000 in
theorem ggX0_secondSample_X0_rightwardEdges : GoodIn wsX0_secondSample wsX0_rightwardEdges := goodIn_r _ [10, 11, 1, 12, 13, 14, 15, 16, 17, 18, 19, 20, 21, 22] (by decide +kernel) (by decide +kernel)
set_option maxRecDepth 20000 in
theorem gX0_secondSample_X0_rightwardEdges : GoodIn wsX0_secondSample (wsV RX0 127 RX0 yX0_rightwardEdges wsX0_rightwardEdges) := goodIn_app (goodIn_of _ (by decide +kernel)) ggX0_secondSample_X0_rightwardEdges
theorem dX0_secondSample_0 : decode cX0_secondSample 0 = .ok (.aload_n 0, 1) := by decide +kernel
theorem dX0_secondSample_1 : decode cX0_secondSample 1 = .ok (.iload_n 1, 1) := by decide +kernel
theorem dX0_secondSample_2 : decode cX0_secondSample 2 = .ok (.invokevirtual 96, 3) := by decide +kernel
theorem dX0_secondSample_5 : decode cX0_secondSample 5 = .ok (.iload_n 1, 1) := by decide +kernel
theorem dX0_secondSample_6 : decode cX0_secondSample 6 = .ok (.aload_n 0, 1) := by decide +kernel
theorem dX0_secondSample_7 : decode cX0_secondSample 7 = .ok (.invokevirtual 127, 3) := by decide +kernel
theorem dX0_secondSample_10 : decode cX0_secondSample 10 = .ok (.if_icmp .ge 7, 3) := by decide +kernel
theorem dX0_secondSample_13 : decode cX0_secondSample 13 = .ok (.iconst 1, 1) := by decide +kernel
theorem dX0_secondSample_14 : decode cX0_secondSample 14 = .ok (.goto 7, 3) := by decide +kernel
theorem dX0_secondSample_17 : decode cX0_secondSample 17 = .ok (.aload_n 0, 1) := by decide +kernel
theorem dX0_secondSample_18 : decode cX0_secondSample 18 = .ok (.getfield 9, 3) := by decide +kernel
theorem dX0_secondSample_21 : decode cX0_secondSample 21 = .ok (.iadd, 1) := by decide +kernel
theorem dX0_secondSample_22 : decode cX0_secondSample 22 = .ok (.ireturn, 1) := by decide +kernel
set_option maxRecDepth 20000 in
theorem ggX0_isCrossed_X0_firstSample : GoodIn wsX0_isCrossed wsX0_firstSample := goodIn_r _ [5, 6, 7, 8, 9, 4, 10, 11, 22, 23, 24, 25, 26, 27, 28, 29, 30, 31, 32] (by decide +kernel) (by decide +kernel)
set_option maxRecDepth 20000 in
theorem gX0_isCrossed_X0_firstSample : GoodIn wsX0_isCrossed (wsV RX0 96 RX0 yX0_firstSample wsX0_firstSample) := goodIn_app (goodIn_of _ (by decide +kernel)) ggX0_isCrossed_X0_firstSample
set_option maxRecDepth 20000 in
theorem ggX0_isCrossed_X0_isAbove : GoodIn wsX0_isCrossed wsX0_isAbove := goodIn_r _ [15, 16, 17, 22, 23, 24, 25, 26, 27, 28, 29, 30, 31, 32] (by decide +kernel) (by decide +kernel)
set_option maxRecDepth 20000 in
theorem gX0_isCrossed_X0_isAbove : GoodIn wsX0_isCrossed (wsV RX0 130 RX0 yX0_isAbove wsX0_isAbove) := goodIn_app (goodIn_of _ (by decide +kernel)) ggX0_isCrossed_X0_isAbove
set_option maxRecDepth 20000 in
theorem ggX0_isCrossed_X0_secondSample : GoodIn wsX0_isCrossed wsX0_secondSample := goodIn_r _ [21, 6, 1, 2, 3, 4, 5, 7, 8, 9, 10, 11, 22, 23, 24, 25, 26, 27, 28, 29, 30, 31, 32] (by decide +kernel) (by decide +kernel)
set_option maxRecDepth 20000 in
theorem gX0_isCrossed_X0_secondSample : GoodIn wsX0_isCrossed (wsV RX0 99 RX0 yX0_secondSample wsX0_secondSample) := goodIn_app (goodIn_of _ (by decide +kernel)) ggX0_isCrossed_X0_secondSample
theorem dX0_isCrossed_0 : decode cX0_isCrossed 0 = .ok (.aload_n 0, 1) := by decide +kernel
theorem dX0_isCrossed_1 : decode cX0_isCrossed 1 = .ok (.aload_n 0, 1) := by decide +kernel
theorem dX0_isCrossed_2 : decode cX0_isCrossed 2 = .ok (.iload_n 1, 1) := by decide +kernel
theorem dX0_isCrossed_3 : decode cX0_isCrossed 3 = .ok (.invokevirtual 96, 3) := by decide +kernel
theorem dX0_isCrossed_6 : decode cX0_isCrossed 6 = .ok (.invokevirtual 130, 3) := by decide +kernel
theorem dX0_isCrossed_9 : decode cX0_isCrossed 9 = .ok (.aload_n 0, 1) := by decide +kernel
theorem dX0_isCrossed_10 : decode cX0_isCrossed 10 = .ok (.aload_n 0, 1) := by decide +kernel
theorem dX0_isCrossed_11 : decode cX0_isCrossed 11 = .ok (.iload_n 1, 1) := by decide +kernel
theorem dX0_isCrossed_12 : decode cX0_isCrossed 12 = .ok (.invokevirtual 99, 3) := by decide +kernel
theorem dX0_isCrossed_15 : decode cX0_isCrossed 15 = .ok (.invokevirtual 130, 3) := by decide +kernel
theorem dX0_isCrossed_18 : decode cX0_isCrossed 18 = .ok (.if_icmp .eq 7, 3) := by decide +kernel
theorem dX0_isCrossed_21 : decode cX0_isCrossed 21 = .ok (.iconst 1, 1) := by decide +kernel
theorem dX0_isCrossed_22 : decode cX0_isCrossed 22 = .ok (.goto 4, 3) := by decide +kernel
theorem dX0_isCrossed_25 : decode cX0_isCrossed 25 = .ok (.iconst 0, 1) := by decide +kernel
theorem dX0_isCrossed_26 : decode cX0_isCrossed 26 = .ok (.ireturn, 1) := by decide +kernel
set_option maxRecDepth 20000 in
theorem ggX0_drawLines_J7_fill_53178 : GoodIn wsX0_drawLines wsJ7_fill_53178 := goodIn_r _ [8] (by decide +kernel) (by decide +kernel)
set_option maxRecDepth 20000 in
theorem gX0_drawLines_J7_fill_53178 : GoodIn wsX0_drawLines (va_wsS RX0 48 yJ7_fill_53178 wsJ7_fill_53178) := goodIn_app (goodIn_of _ (by decide +kernel)) ggX0_drawLines_J7_fill_53178
set_option maxRecDepth 20000 in
theorem ggX0_drawLines_X0_drawCell : GoodIn wsX0_drawLines wsX0_drawCell := goodIn_r _ [13, 1, 2, 14, 15, 16, 12, 17, 18, 19, 20, 21, 22, 23, 24, 25, 4, 26, 27, 28, 29, 30, 31, 32, 33, 34, 35, 36, 37, 38, 39, 40, 41, 42, 43, 44, 45, 46, 47, 48, 49, 50, 51, 52, 53, 54, 55, 56, 57, 58, 3, 59, 60, 61, 62, 63, 64, 65, 66, 67, 68, 69, 70, 71, 72, 73, 74, 75] (by decide +kernel) (by decide +kernel)
set_option maxRecDepth 20000 in
theorem gX0_drawLines_X0_drawCell : GoodIn wsX0_drawLines (wsV RX0 133 RX0 yX0_drawCell wsX0_drawCell) := goodIn_app (goodIn_of _ (by decide +kernel)) ggX0_drawLines_X0_drawCell
theorem dX0_drawLines_0 : decode cX0_drawLines 0 = .ok (.aload_n 0, 1) := by decide +kernel
theorem dX0_drawLines_1 : decode cX0_drawLines 1 = .ok (.getfield 23, 3) := by decide +kernel
theorem dX0_drawLines_4 : decode cX0_drawLines 4 = .ok (.iconst (-1), 1) := by decide +kernel
theorem dX0_drawLines_5 : decode cX0_drawLines 5 = .ok (.invokestatic 48, 3) := by decide +kernel
theorem dX0_drawLines_8 : decode cX0_drawLines 8 = .ok (.aload_n 0, 1) := by decide +kernel
theorem dX0_drawLines_9 : decode cX0_drawLines 9 = .ok (.getfield 26, 3) := by decide +kernel
theorem dX0_drawLines_12 : decode cX0_drawLines 12 = .ok (.iconst (-1), 1) := by decide +kernel
theorem dX0_drawLines_13 : decode cX0_drawLines 13 = .ok (.invokestatic 48, 3) := by decide +kernel
theorem dX0_drawLines_16 : decode cX0_drawLines 16 = .ok (.iconst 0, 1) := by decide +kernel
theorem dX0_drawLines_17 : decode cX0_drawLines 17 = .ok (.istore_n 1, 1) := by decide +kernel
theorem dX0_drawLines_18 : decode cX0_drawLines 18 = .ok (.iload_n 1, 1) := by decide +kernel
theorem dX0_drawLines_19 : decode cX0_drawLines 19 = .ok (.iconst 1, 1) := by decide +kernel
theorem dX0_drawLines_20 : decode cX0_drawLines 20 = .ok (.iadd, 1) := by decide +kernel
theorem dX0_drawLines_21 : decode cX0_drawLines 21 = .ok (.aload_n 0, 1) := by decide +kernel
theorem dX0_drawLines_22 : decode cX0_drawLines 22 = .ok (.getfield 13, 3) := by decide +kernel
theorem dX0_drawLines_25 : decode cX0_drawLines 25 = .ok (.if_icmp .ge 33, 3) := by decide +kernel
theorem dX0_drawLines_28 : decode cX0_drawLines 28 = .ok (.iconst 0, 1) := by decide +kernel
theorem dX0_drawLines_29 : decode cX0_drawLines 29 = .ok (.istore_n 2, 1) := by decide +kernel
theorem dX0_drawLines_30 : decode cX0_drawLines 30 = .ok (.iload_n 2, 1) := by decide +kernel
theorem dX0_drawLines_31 : decode cX0_drawLines 31 = .ok (.iconst 1, 1) := by decide +kernel
theorem dX0_drawLines_32 : decode cX0_drawLines 32 = .ok (.iadd, 1) := by decide +kernel
theorem dX0_drawLines_33 : decode cX0_drawLines 33 = .ok (.aload_n 0, 1) := by decide +kernel
theorem dX0_drawLines_34 : decode cX0_drawLines 34 = .ok (.getfield 9, 3) := by decide +kernel
theorem dX0_drawLines_37 : decode cX0_drawLines 37 = .ok (.if_icmp .ge 15, 3) := by decide +kernel
theorem dX0_drawLines_40 : decode cX0_drawLines 40 = .ok (.aload_n 0, 1) := by decide +kernel
theorem dX0_drawLines_41 : decode cX0_drawLines 41 = .ok (.iload_n 2, 1) := by decide +kernel
theorem dX0_drawLines_42 : decode cX0_drawLines 42 = .ok (.iload_n 1, 1) := by decide +kernel
theorem dX0_drawLines_43 : decode cX0_drawLines 43 = .ok (.invokevirtual 133, 3) := by decide +kernel
theorem dX0_drawLines_46 : decode cX0_drawLines 46 = .ok (.iinc 2 1, 3) := by decide +kernel
theorem dX0_drawLines_49 : decode cX0_drawLines 49 = .ok (.goto (-19), 3) := by decide +kernel
theorem dX0_drawLines_52 : decode cX0_drawLines 52 = .ok (.iinc 1 1, 3) := by decide +kernel
theorem dX0_drawLines_55 : decode cX0_drawLines 55 = .ok (.goto (-37), 3) := by decide +kernel
theorem dX0_drawLines_58 : decode cX0_drawLines 58 = .ok (.return_, 1) := by decide +kernel
set_option maxRecDepth 20000 in
theorem ggX0_drawCell_X0_cornersAbove : GoodIn wsX0_drawCell wsX0_cornersAbove := goodIn_r _ [7, 8, 9, 10, 6, 11, 12, 13, 14, 15, 16, 17, 18, 19, 20, 21, 22, 57, 58, 59, 60, 61, 62, 63, 64, 65, 66, 67] (by decide +kernel) (by decide +kernel)
set_option maxRecDepth 20000 in
theorem gX0_drawCell_X0_cornersAbove : GoodIn wsX0_drawCell (wsV RX0 137 RX0 yX0_cornersAbove wsX0_cornersAbove) := goodIn_app (goodIn_of _ (by decide +kernel)) ggX0_drawCell_X0_cornersAbove
set_option maxRecDepth 20000 in
theorem ggX0_drawCell_X0_isMiddleAbove : GoodIn wsX0_drawCell wsX0_isMiddleAbove := goodIn_r _ [26, 21, 27, 22, 8, 9, 10, 6, 11, 12, 13, 14, 15, 16, 57, 58, 59, 60, 61, 62, 63, 64, 65, 66, 67] (by decide +kernel) (by decide +kernel)
set_option maxRecDepth 20000 in
theorem gX0_drawCell_X0_isMiddleAbove : GoodIn wsX0_drawCell (wsV RX0 140 RX0 yX0_isMiddleAbove wsX0_isMiddleAbove) := goodIn_app (goodIn_of _ (by decide +kernel)) ggX0_drawCell_X0_isMiddleAbove
set_option maxRecDepth 20000 in
theorem ggX0_drawCell_X0_entersAt : GoodIn wsX0_drawCell wsX0_entersAt := goodIn_r _ [30, 31, 32, 6, 33] (by decide +kernel) (by decide +kernel)
set_option maxRecDepth 20000 in
theorem gX0_drawCell_X0_entersAt : GoodIn wsX0_drawCell (va_wsS RX0 144 yX0_entersAt wsX0_entersAt) := goodIn_app (goodIn_of _ (by decide +kernel)) ggX0_drawCell_X0_entersAt
set_option maxRecDepth 20000 in
theorem ggX0_drawCell_X0_sideEdge : GoodIn wsX0_drawCell wsX0_sideEdge := goodIn_r _ [37, 38, 39, 40, 6, 41, 16, 42, 43, 44, 45, 46, 47, 48, 49, 50, 57, 58, 59, 60, 61, 62, 63, 64, 65, 66, 67] (by decide +kernel) (by decide +kernel)
set_option maxRecDepth 20000 in
theorem gX0_drawCell_X0_sideEdge : GoodIn wsX0_drawCell (wsV RX0 147 RX0 yX0_sideEdge wsX0_sideEdge) := goodIn_app (goodIn_of _ (by decide +kernel)) ggX0_drawCell_X0_sideEdge
set_option maxRecDepth 20000 in
theorem ggX0_drawCell_X0_exitFrom : GoodIn wsX0_drawCell wsX0_exitFrom := goodIn_r _ [53, 54, 55, 6, 56, 31, 32, 33] (by decide +kernel) (by decide +kernel)
set_option maxRecDepth 20000 in
theorem gX0_drawCell_X0_exitFrom : GoodIn wsX0_drawCell (va_wsS RX0 151 yX0_exitFrom wsX0_exitFrom) := goodIn_app (goodIn_of _ (by decide +kernel)) ggX0_drawCell_X0_exitFrom
theorem dX0_drawCell_0 : decode cX0_drawCell 0 = .ok (.aload_n 0, 1) := by decide +kernel
theorem dX0_drawCell_1 : decode cX0_drawCell 1 = .ok (.iload_n 1, 1) := by decide +kernel
theorem dX0_drawCell_2 : decode cX0_drawCell 2 = .ok (.iload_n 2, 1) := by decide +kernel
theorem dX0_drawCell_3 : decode cX0_drawCell 3 = .ok (.invokevirtual 137, 3) := by decide +kernel
theorem dX0_drawCell_6 : decode cX0_drawCell 6 = .ok (.istore_n 3, 1) := by decide +kernel
theorem dX0_drawCell_7 : decode cX0_drawCell 7 = .ok (.iload_n 3, 1) := by decide +kernel
theorem dX0_drawCell_8 : decode cX0_drawCell 8 = .ok (.iconst 5, 1) := by decide +kernel
theorem dX0_drawCell_9 : decode cX0_drawCell 9 = .ok (.if_icmp .eq 9, 3) := by decide +kernel
theorem dX0_drawCell_12 : decode cX0_drawCell 12 = .ok (.iload_n 3, 1) := by decide +kernel
theorem dX0_drawCell_13 : decode cX0_drawCell 13 = .ok (.bipush 10, 2) := by decide +kernel
theorem dX0_drawCell_15 : decode cX0_drawCell 15 = .ok (.if_icmp .ne 7, 3) := by decide +kernel
theorem dX0_drawCell_18 : decode cX0_drawCell 18 = .ok (.iconst 1, 1) := by decide +kernel
theorem dX0_drawCell_19 : decode cX0_drawCell 19 = .ok (.goto 4, 3) := by decide +kernel
theorem dX0_drawCell_22 : decode cX0_drawCell 22 = .ok (.iconst 0, 1) := by decide +kernel
theorem dX0_drawCell_23 : decode cX0_drawCell 23 = .ok (.istore 4, 2) := by decide +kernel
theorem dX0_drawCell_25 : decode cX0_drawCell 25 = .ok (.iload 4, 2) := by decide +kernel
theorem dX0_drawCell_27 : decode cX0_drawCell 27 = .ok (.ifCond .eq 16, 3) := by decide +kernel
theorem dX0_drawCell_30 : decode cX0_drawCell 30 = .ok (.aload_n 0, 1) := by decide +kernel
theorem dX0_drawCell_31 : decode cX0_drawCell 31 = .ok (.iload_n 1, 1) := by decide +kernel
theorem dX0_drawCell_32 : decode cX0_drawCell 32 = .ok (.iload_n 2, 1) := by decide +kernel
theorem dX0_drawCell_33 : decode cX0_drawCell 33 = .ok (.invokevirtual 140, 3) := by decide +kernel
theorem dX0_drawCell_36 : decode cX0_drawCell 36 = .ok (.ifCond .eq 7, 3) := by decide +kernel
theorem dX0_drawCell_39 : decode cX0_drawCell 39 = .ok (.iconst 1, 1) := by decide +kernel
theorem dX0_drawCell_40 : decode cX0_drawCell 40 = .ok (.goto 4, 3) := by decide +kernel
theorem dX0_drawCell_43 : decode cX0_drawCell 43 = .ok (.iconst 3, 1) := by decide +kernel
theorem dX0_drawCell_44 : decode cX0_drawCell 44 = .ok (.istore 5, 2) := by decide +kernel
theorem dX0_drawCell_46 : decode cX0_drawCell 46 = .ok (.iconst 0, 1) := by decide +kernel
theorem dX0_drawCell_47 : decode cX0_drawCell 47 = .ok (.istore 6, 2) := by decide +kernel
theorem dX0_drawCell_49 : decode cX0_drawCell 49 = .ok (.iload 6, 2) := by decide +kernel
theorem dX0_drawCell_51 : decode cX0_drawCell 51 = .ok (.iconst 4, 1) := by decide +kernel
theorem dX0_drawCell_52 : decode cX0_drawCell 52 = .ok (.if_icmp .ge 62, 3) := by decide +kernel
theorem dX0_drawCell_55 : decode cX0_drawCell 55 = .ok (.iload_n 3, 1) := by decide +kernel
theorem dX0_drawCell_56 : decode cX0_drawCell 56 = .ok (.iload 6, 2) := by decide +kernel
theorem dX0_drawCell_58 : decode cX0_drawCell 58 = .ok (.invokestatic 144, 3) := by decide +kernel
theorem dX0_drawCell_61 : decode cX0_drawCell 61 = .ok (.ifCond .eq 47, 3) := by decide +kernel
theorem dX0_drawCell_64 : decode cX0_drawCell 64 = .ok (.aload_n 0, 1) := by decide +kernel
theorem dX0_drawCell_65 : decode cX0_drawCell 65 = .ok (.iload_n 1, 1) := by decide +kernel
theorem dX0_drawCell_66 : decode cX0_drawCell 66 = .ok (.iload_n 2, 1) := by decide +kernel
theorem dX0_drawCell_67 : decode cX0_drawCell 67 = .ok (.iload 6, 2) := by decide +kernel
theorem dX0_drawCell_69 : decode cX0_drawCell 69 = .ok (.invokevirtual 147, 3) := by decide +kernel
theorem dX0_drawCell_72 : decode cX0_drawCell 72 = .ok (.istore 7, 2) := by decide +kernel
theorem dX0_drawCell_74 : decode cX0_drawCell 74 = .ok (.aload_n 0, 1) := by decide +kernel
theorem dX0_drawCell_75 : decode cX0_drawCell 75 = .ok (.iload_n 1, 1) := by decide +kernel
theorem dX0_drawCell_76 : decode cX0_drawCell 76 = .ok (.iload_n 2, 1) := by decide +kernel
theorem dX0_drawCell_77 : decode cX0_drawCell 77 = .ok (.iload_n 3, 1) := by decide +kernel
theorem dX0_drawCell_78 : decode cX0_drawCell 78 = .ok (.iload 6, 2) := by decide +kernel
theorem dX0_drawCell_80 : decode cX0_drawCell 80 = .ok (.iload 5, 2) := by decide +kernel
theorem dX0_drawCell_82 : decode cX0_drawCell 82 = .ok (.invokestatic 151, 3) := by decide +kernel
theorem dX0_drawCell_85 : decode cX0_drawCell 85 = .ok (.invokevirtual 147, 3) := by decide +kernel
theorem dX0_drawCell_88 : decode cX0_drawCell 88 = .ok (.istore 8, 2) := by decide +kernel
theorem dX0_drawCell_90 : decode cX0_drawCell 90 = .ok (.aload_n 0, 1) := by decide +kernel
theorem dX0_drawCell_91 : decode cX0_drawCell 91 = .ok (.getfield 23, 3) := by decide +kernel
theorem dX0_drawCell_94 : decode cX0_drawCell 94 = .ok (.iload 7, 2) := by decide +kernel
theorem dX0_drawCell_96 : decode cX0_drawCell 96 = .ok (.iload 8, 2) := by decide +kernel
theorem dX0_drawCell_98 : decode cX0_drawCell 98 = .ok (.iastore, 1) := by decide +kernel
theorem dX0_drawCell_99 : decode cX0_drawCell 99 = .ok (.aload_n 0, 1) := by decide +kernel
theorem dX0_drawCell_100 : decode cX0_drawCell 100 = .ok (.getfield 26, 3) := by decide +kernel
theorem dX0_drawCell_103 : decode cX0_drawCell 103 = .ok (.iload 8, 2) := by decide +kernel
theorem dX0_drawCell_105 : decode cX0_drawCell 105 = .ok (.iload 7, 2) := by decide +kernel
theorem dX0_drawCell_107 : decode cX0_drawCell 107 = .ok (.iastore, 1) := by decide +kernel
theorem dX0_drawCell_108 : decode cX0_drawCell 108 = .ok (.iinc 6 1, 3) := by decide +kernel
theorem dX0_drawCell_111 : decode cX0_drawCell 111 = .ok (.goto (-62), 3) := by decide +kernel
theorem dX0_drawCell_114 : decode cX0_drawCell 114 = .ok (.return_, 1) := by decide +kernel
set_option maxRecDepth 20000 in
theorem ggX0_cornersAbove_X0_cornerSample : GoodIn wsX0_cornersAbove wsX0_cornerSample := goodIn_r _ [5, 6, 7, 8, 4, 9, 10, 17, 18, 19, 20, 21, 22, 23, 24, 25, 26, 27] (by decide +kernel) (by decide +kernel)
set_option maxRecDepth 20000 in
theorem gX0_cornersAbove_X0_cornerSample : GoodIn wsX0_cornersAbove (wsV RX0 154 RX0 yX0_cornerSample wsX0_cornerSample) := goodIn_app (goodIn_of _ (by decide +kernel)) ggX0_cornersAbove_X0_cornerSample
set_option maxRecDepth 20000 in
theorem ggX0_cornersAbove_X0_isAbove : GoodIn wsX0_cornersAbove wsX0_isAbove := goodIn_r _ [14, 15, 16, 17, 18, 19, 20, 21, 22, 23, 24, 25, 26, 27] (by decide +kernel) (by decide +kernel)
set_option maxRecDepth 20000 in
theorem gX0_cornersAbove_X0_isAbove : GoodIn wsX0_cornersAbove (wsV RX0 130 RX0 yX0_isAbove wsX0_isAbove) := goodIn_app (goodIn_of _ (by decide +kernel)) ggX0_cornersAbove_X0_isAbove
theorem dX0_cornersAbove_0 : decode cX0_cornersAbove 0 = .ok (.iconst 0, 1) := by decide +kernel
theorem dX0_cornersAbove_1 : decode cX0_cornersAbove 1 = .ok (.istore_n 3, 1) := by decide +kernel
theorem dX0_cornersAbove_2 : decode cX0_cornersAbove 2 = .ok (.iconst 0, 1) := by decide +kernel
theorem dX0_cornersAbove_3 : decode cX0_cornersAbove 3 = .ok (.istore 4, 2) := by decide +kernel
theorem dX0_cornersAbove_5 : decode cX0_cornersAbove 5 = .ok (.iload 4, 2) := by decide +kernel
theorem dX0_cornersAbove_7 : decode cX0_cornersAbove 7 = .ok (.iconst 4, 1) := by decide +kernel
theorem dX0_cornersAbove_8 : decode cX0_cornersAbove 8 = .ok (.if_icmp .ge 31, 3) := by decide +kernel
theorem dX0_cornersAbove_11 : decode cX0_cornersAbove 11 = .ok (.aload_n 0, 1) := by decide +kernel
theorem dX0_cornersAbove_12 : decode cX0_cornersAbove 12 = .ok (.aload_n 0, 1) := by decide +kernel
theorem dX0_cornersAbove_13 : decode cX0_cornersAbove 13 = .ok (.iload_n 1, 1) := by decide +kernel
theorem dX0_cornersAbove_14 : decode cX0_cornersAbove 14 = .ok (.iload_n 2, 1) := by decide +kernel
theorem dX0_cornersAbove_15 : decode cX0_cornersAbove 15 = .ok (.iload 4, 2) := by decide +kernel
theorem dX0_cornersAbove_17 : decode cX0_cornersAbove 17 = .ok (.invokevirtual 154, 3) := by decide +kernel
theorem dX0_cornersAbove_20 : decode cX0_cornersAbove 20 = .ok (.invokevirtual 130, 3) := by decide +kernel
theorem dX0_cornersAbove_23 : decode cX0_cornersAbove 23 = .ok (.ifCond .eq 10, 3) := by decide +kernel
theorem dX0_cornersAbove_26 : decode cX0_cornersAbove 26 = .ok (.iload_n 3, 1) := by decide +kernel
theorem dX0_cornersAbove_27 : decode cX0_cornersAbove 27 = .ok (.iconst 1, 1) := by decide +kernel
theorem dX0_cornersAbove_28 : decode cX0_cornersAbove 28 = .ok (.iload 4, 2) := by decide +kernel
theorem dX0_cornersAbove_30 : decode cX0_cornersAbove 30 = .ok (.ishl, 1) := by decide +kernel
theorem dX0_cornersAbove_31 : decode cX0_cornersAbove 31 = .ok (.ior, 1) := by decide +kernel
theorem dX0_cornersAbove_32 : decode cX0_cornersAbove 32 = .ok (.istore_n 3, 1) := by decide +kernel
theorem dX0_cornersAbove_33 : decode cX0_cornersAbove 33 = .ok (.iinc 4 1, 3) := by decide +kernel
theorem dX0_cornersAbove_36 : decode cX0_cornersAbove 36 = .ok (.goto (-31), 3) := by decide +kernel
theorem dX0_cornersAbove_39 : decode cX0_cornersAbove 39 = .ok (.iload_n 3, 1) := by decide +kernel
theorem dX0_cornersAbove_40 : decode cX0_cornersAbove 40 = .ok (.ireturn, 1) := by decide +kernel
set_option maxRecDepth 20000 in
theorem ggX0_cornerSample_X0_sampleAt : GoodIn wsX0_cornerSample wsX0_sampleAt := goodIn_r _ [5, 6, 7, 8, 9, 10, 11, 12, 13, 14, 15, 16, 17] (by decide +kernel) (by decide +kernel)
set_option maxRecDepth 20000 in
theorem gX0_cornerSample_X0_sampleAt : GoodIn wsX0_cornerSample (wsV RX0 64 RX0 yX0_sampleAt wsX0_sampleAt) := goodIn_app (goodIn_of _ (by decide +kernel)) ggX0_cornerSample_X0_sampleAt
theorem dX0_cornerSample_0 : decode cX0_cornerSample 0 = .ok (.iload_n 3, 1) := by decide +kernel
theorem dX0_cornerSample_1 : decode cX0_cornerSample 1 = .ok (.tableswitch 54 0 2 #[27, 34, 43], 27) := by decide +kernel
theorem dX0_cornerSample_28 : decode cX0_cornerSample 28 = .ok (.aload_n 0, 1) := by decide +kernel
theorem dX0_cornerSample_29 : decode cX0_cornerSample 29 = .ok (.iload_n 1, 1) := by decide +kernel
theorem dX0_cornerSample_30 : decode cX0_cornerSample 30 = .ok (.iload_n 2, 1) := by decide +kernel
theorem dX0_cornerSample_31 : decode cX0_cornerSample 31 = .ok (.invokevirtual 64, 3) := by decide +kernel
theorem dX0_cornerSample_34 : decode cX0_cornerSample 34 = .ok (.ireturn, 1) := by decide +kernel
theorem dX0_cornerSample_35 : decode cX0_cornerSample 35 = .ok (.aload_n 0, 1) := by decide +kernel
theorem dX0_cornerSample_36 : decode cX0_cornerSample 36 = .ok (.iload_n 1, 1) := by decide +kernel
theorem dX0_cornerSample_37 : decode cX0_cornerSample 37 = .ok (.iconst 1, 1) := by decide +kernel
theorem dX0_cornerSample_38 : decode cX0_cornerSample 38 = .ok (.iadd, 1) := by decide +kernel
theorem dX0_cornerSample_39 : decode cX0_cornerSample 39 = .ok (.iload_n 2, 1) := by decide +kernel
theorem dX0_cornerSample_40 : decode cX0_cornerSample 40 = .ok (.invokevirtual 64, 3) := by decide +kernel
theorem dX0_cornerSample_43 : decode cX0_cornerSample 43 = .ok (.ireturn, 1) := by decide +kernel
theorem dX0_cornerSample_44 : decode cX0_cornerSample 44 = .ok (.aload_n 0, 1) := by decide +kernel
theorem dX0_cornerSample_45 : decode cX0_cornerSample 45 = .ok (.iload_n 1, 1) := by decide +kernel
theorem dX0_cornerSample_46 : decode cX0_cornerSample 46 = .ok (.iconst 1, 1) := by decide +kernel
theorem dX0_cornerSample_47 : decode cX0_cornerSample 47 = .ok (.iadd, 1) := by decide +kernel
theorem dX0_cornerSample_48 : decode cX0_cornerSample 48 = .ok (.iload_n 2, 1) := by decide +kernel
theorem dX0_cornerSample_49 : decode cX0_cornerSample 49 = .ok (.iconst 1, 1) := by decide +kernel
theorem dX0_cornerSample_50 : decode cX0_cornerSample 50 = .ok (.iadd, 1) := by decide +kernel
theorem dX0_cornerSample_51 : decode cX0_cornerSample 51 = .ok (.invokevirtual 64, 3) := by decide +kernel
theorem dX0_cornerSample_54 : decode cX0_cornerSample 54 = .ok (.ireturn, 1) := by decide +kernel
theorem dX0_cornerSample_55 : decode cX0_cornerSample 55 = .ok (.aload_n 0, 1) := by decide +kernel
theorem dX0_cornerSample_56 : decode cX0_cornerSample 56 = .ok (.iload_n 1, 1) := by decide +kernel
theorem dX0_cornerSample_57 : decode cX0_cornerSample 57 = .ok (.iload_n 2, 1) := by decide +kernel
theorem dX0_cornerSample_58 : decode cX0_cornerSample 58 = .ok (.iconst 1, 1) := by decide +kernel
theorem dX0_cornerSample_59 : decode cX0_cornerSample 59 = .ok (.iadd, 1) := by decide +kernel
theorem dX0_cornerSample_60 : decode cX0_cornerSample 60 = .ok (.invokevirtual 64, 3) := by decide +kernel
theorem dX0_cornerSample_63 : decode cX0_cornerSample 63 = .ok (.ireturn, 1) := by decide +kernel
set_option maxRecDepth 20000 in
theorem ggX0_sideEdge_X0_rightwardEdge : GoodIn wsX0_sideEdge wsX0_rightwardEdge := goodIn_r _ [5, 6, 16, 17, 18, 19, 20, 21, 22, 23, 24, 25, 26] (by decide +kernel) (by decide +kernel)
set_option maxRecDepth 20000 in
theorem gX0_sideEdge_X0_rightwardEdge : GoodIn wsX0_sideEdge (wsV RX0 157 RX0 yX0_rightwardEdge wsX0_rightwardEdge) := goodIn_app (goodIn_of _ (by decide +kernel)) ggX0_sideEdge_X0_rightwardEdge
set_option maxRecDepth 20000 in
theorem ggX0_sideEdge_X0_upwardEdge : GoodIn wsX0_sideEdge wsX0_upwardEdge := goodIn_r _ [10, 6, 11, 12, 13, 4, 14, 15, 16, 17, 18, 19, 20, 21, 22, 23, 24, 25, 26] (by decide +kernel) (by decide +kernel)
set_option maxRecDepth 20000 in
theorem gX0_sideEdge_X0_upwardEdge : GoodIn wsX0_sideEdge (wsV RX0 160 RX0 yX0_upwardEdge wsX0_upwardEdge) := goodIn_app (goodIn_of _ (by decide +kernel)) ggX0_sideEdge_X0_upwardEdge
theorem dX0_sideEdge_0 : decode cX0_sideEdge 0 = .ok (.iload_n 3, 1) := by decide +kernel
theorem dX0_sideEdge_1 : decode cX0_sideEdge 1 = .ok (.tableswitch 52 0 2 #[27, 34, 43], 27) := by decide +kernel
theorem dX0_sideEdge_28 : decode cX0_sideEdge 28 = .ok (.aload_n 0, 1) := by decide +kernel
theorem dX0_sideEdge_29 : decode cX0_sideEdge 29 = .ok (.iload_n 1, 1) := by decide +kernel
theorem dX0_sideEdge_30 : decode cX0_sideEdge 30 = .ok (.iload_n 2, 1) := by decide +kernel
theorem dX0_sideEdge_31 : decode cX0_sideEdge 31 = .ok (.invokevirtual 157, 3) := by decide +kernel
theorem dX0_sideEdge_34 : decode cX0_sideEdge 34 = .ok (.ireturn, 1) := by decide +kernel
theorem dX0_sideEdge_35 : decode cX0_sideEdge 35 = .ok (.aload_n 0, 1) := by decide +kernel
theorem dX0_sideEdge_36 : decode cX0_sideEdge 36 = .ok (.iload_n 1, 1) := by decide +kernel
theorem dX0_sideEdge_37 : decode cX0_sideEdge 37 = .ok (.iconst 1, 1) := by decide +kernel
theorem dX0_sideEdge_38 : decode cX0_sideEdge 38 = .ok (.iadd, 1) := by decide +kernel
theorem dX0_sideEdge_39 : decode cX0_sideEdge 39 = .ok (.iload_n 2, 1) := by decide +kernel
theorem dX0_sideEdge_40 : decode cX0_sideEdge 40 = .ok (.invokevirtual 160, 3) := by decide +kernel
theorem dX0_sideEdge_43 : decode cX0_sideEdge 43 = .ok (.ireturn, 1) := by decide +kernel
theorem dX0_sideEdge_44 : decode cX0_sideEdge 44 = .ok (.aload_n 0, 1) := by decide +kernel
theorem dX0_sideEdge_45 : decode cX0_sideEdge 45 = .ok (.iload_n 1, 1) := by decide +kernel
theorem dX0_sideEdge_46 : decode cX0_sideEdge 46 = .ok (.iload_n 2, 1) := by decide +kernel
theorem dX0_sideEdge_47 : decode cX0_sideEdge 47 = .ok (.iconst 1, 1) := by decide +kernel
theorem dX0_sideEdge_48 : decode cX0_sideEdge 48 = .ok (.iadd, 1) := by decide +kernel
theorem dX0_sideEdge_49 : decode cX0_sideEdge 49 = .ok (.invokevirtual 157, 3) := by decide +kernel
theorem dX0_sideEdge_52 : decode cX0_sideEdge 52 = .ok (.ireturn, 1) := by decide +kernel
theorem dX0_sideEdge_53 : decode cX0_sideEdge 53 = .ok (.aload_n 0, 1) := by decide +kernel
theorem dX0_sideEdge_54 : decode cX0_sideEdge 54 = .ok (.iload_n 1, 1) := by decide +kernel
theorem dX0_sideEdge_55 : decode cX0_sideEdge 55 = .ok (.iload_n 2, 1) := by decide +kernel
theorem dX0_sideEdge_56 : decode cX0_sideEdge 56 = .ok (.invokevirtual 160, 3) := by decide +kernel
theorem dX0_sideEdge_59 : decode cX0_sideEdge 59 = .ok (.ireturn, 1) := by decide +kernel
theorem dX0_hasCorner_0 : decode cX0_hasCorner 0 = .ok (.iload_n 0, 1) := by decide +kernel
theorem dX0_hasCorner_1 : decode cX0_hasCorner 1 = .ok (.iload_n 1, 1) := by decide +kernel
theorem dX0_hasCorner_2 : decode cX0_hasCorner 2 = .ok (.iconst 4, 1) := by decide +kernel
theorem dX0_hasCorner_3 : decode cX0_hasCorner 3 = .ok (.irem, 1) := by decide +kernel
theorem dX0_hasCorner_4 : decode cX0_hasCorner 4 = .ok (.ishr, 1) := by decide +kernel
theorem dX0_hasCorner_5 : decode cX0_hasCorner 5 = .ok (.iconst 1, 1) := by decide +kernel
theorem dX0_hasCorner_6 : decode cX0_hasCorner 6 = .ok (.iand, 1) := by decide +kernel
theorem dX0_hasCorner_7 : decode cX0_hasCorner 7 = .ok (.iconst 1, 1) := by decide +kernel
theorem dX0_hasCorner_8 : decode cX0_hasCorner 8 = .ok (.if_icmp .ne 7, 3) := by decide +kernel
theorem dX0_hasCorner_11 : decode cX0_hasCorner 11 = .ok (.iconst 1, 1) := by decide +kernel
theorem dX0_hasCorner_12 : decode cX0_hasCorner 12 = .ok (.goto 4, 3) := by decide +kernel
theorem dX0_hasCorner_15 : decode cX0_hasCorner 15 = .ok (.iconst 0, 1) := by decide +kernel
theorem dX0_hasCorner_16 : decode cX0_hasCorner 16 = .ok (.ireturn, 1) := by decide +kernel
set_option maxRecDepth 20000 in
theorem ggX0_entersAt_X0_hasCorner : GoodIn wsX0_entersAt wsX0_hasCorner := goodIn_r _ [4] (by decide +kernel) (by decide +kernel)
set_option maxRecDepth 20000 in
theorem gX0_entersAt_X0_hasCorner : GoodIn wsX0_entersAt (va_wsS RX0 163 yX0_hasCorner wsX0_hasCorner) := goodIn_app (goodIn_of _ (by decide +kernel)) ggX0_entersAt_X0_hasCorner
theorem dX0_entersAt_0 : decode cX0_entersAt 0 = .ok (.iload_n 0, 1) := by decide +kernel
theorem dX0_entersAt_1 : decode cX0_entersAt 1 = .ok (.iload_n 1, 1) := by decide +kernel
theorem dX0_entersAt_2 : decode cX0_entersAt 2 = .ok (.invokestatic 163, 3) := by decide +kernel
theorem dX0_entersAt_5 : decode cX0_entersAt 5 = .ok (.ifCond .eq 17, 3) := by decide +kernel
theorem dX0_entersAt_8 : decode cX0_entersAt 8 = .ok (.iload_n 0, 1) := by decide +kernel
theorem dX0_entersAt_9 : decode cX0_entersAt 9 = .ok (.iload_n 1, 1) := by decide +kernel
theorem dX0_entersAt_10 : decode cX0_entersAt 10 = .ok (.iconst 1, 1) := by decide +kernel
theorem dX0_entersAt_11 : decode cX0_entersAt 11 = .ok (.iadd, 1) := by decide +kernel
theorem dX0_entersAt_12 : decode cX0_entersAt 12 = .ok (.invokestatic 163, 3) := by decide +kernel
theorem dX0_entersAt_15 : decode cX0_entersAt 15 = .ok (.ifCond .ne 7, 3) := by decide +kernel
theorem dX0_entersAt_18 : decode cX0_entersAt 18 = .ok (.iconst 1, 1) := by decide +kernel
theorem dX0_entersAt_19 : decode cX0_entersAt 19 = .ok (.goto 4, 3) := by decide +kernel
theorem dX0_entersAt_22 : decode cX0_entersAt 22 = .ok (.iconst 0, 1) := by decide +kernel
theorem dX0_entersAt_23 : decode cX0_entersAt 23 = .ok (.ireturn, 1) := by decide +kernel
set_option maxRecDepth 20000 in
theorem ggX0_leavesAt_X0_hasCorner : GoodIn wsX0_leavesAt wsX0_hasCorner := goodIn_r _ [4] (by decide +kernel) (by decide +kernel)
set_option maxRecDepth 20000 in
theorem gX0_leavesAt_X0_hasCorner : GoodIn wsX0_leavesAt (va_wsS RX0 163 yX0_hasCorner wsX0_hasCorner) := goodIn_app (goodIn_of _ (by decide +kernel)) ggX0_leavesAt_X0_hasCorner
theorem dX0_leavesAt_0 : decode cX0_leavesAt 0 = .ok (.iload_n 0, 1) := by decide +kernel
theorem dX0_leavesAt_1 : decode cX0_leavesAt 1 = .ok (.iload_n 1, 1) := by decide +kernel
theorem dX0_leavesAt_2 : decode cX0_leavesAt 2 = .ok (.invokestatic 163, 3) := by decide +kernel
theorem dX0_leavesAt_5 : decode cX0_leavesAt 5 = .ok (.ifCond .ne 17, 3) := by decide +kernel
theorem dX0_leavesAt_8 : decode cX0_leavesAt 8 = .ok (.iload_n 0, 1) := by decide +kernel
theorem dX0_leavesAt_9 : decode cX0_leavesAt 9 = .ok (.iload_n 1, 1) := by decide +kernel
theorem dX0_leavesAt_10 : decode cX0_leavesAt 10 = .ok (.iconst 1, 1) := by decide +kernel
theorem dX0_leavesAt_11 : decode cX0_leavesAt 11 = .ok (.iadd, 1) := by decide +kernel
theorem dX0_leavesAt_12 : decode cX0_leavesAt 12 = .ok (.invokestatic 163, 3) := by decide +kernel
theorem dX0_leavesAt_15 : decode cX0_leavesAt 15 = .ok (.ifCond .eq 7, 3) := by decide +kernel
theorem dX0_leavesAt_18 : decode cX0_leavesAt 18 = .ok (.iconst 1, 1) := by decide +kernel
theorem dX0_leavesAt_19 : decode cX0_leavesAt 19 = .ok (.goto 4, 3) := by decide +kernel
theorem dX0_leavesAt_22 : decode cX0_leavesAt 22 = .ok (.iconst 0, 1) := by decide +kernel
theorem dX0_leavesAt_23 : decode cX0_leavesAt 23 = .ok (.ireturn, 1) := by decide +kernel
set_option maxRecDepth 20000 in
theorem ggX0_exitFrom_X0_leavesAt : GoodIn wsX0_exitFrom wsX0_leavesAt := goodIn_r _ [4, 5, 6, 3, 7] (by decide +kernel) (by decide +kernel)
set_option maxRecDepth 20000 in
theorem gX0_exitFrom_X0_leavesAt : GoodIn wsX0_exitFrom (va_wsS RX0 166 yX0_leavesAt wsX0_leavesAt) := goodIn_app (goodIn_of _ (by decide +kernel)) ggX0_exitFrom_X0_leavesAt
theorem dX0_exitFrom_0 : decode cX0_exitFrom 0 = .ok (.iload_n 1, 1) := by decide +kernel
theorem dX0_exitFrom_1 : decode cX0_exitFrom 1 = .ok (.iload_n 2, 1) := by decide +kernel
theorem dX0_exitFrom_2 : decode cX0_exitFrom 2 = .ok (.iadd, 1) := by decide +kernel
theorem dX0_exitFrom_3 : decode cX0_exitFrom 3 = .ok (.iconst 4, 1) := by decide +kernel
theorem dX0_exitFrom_4 : decode cX0_exitFrom 4 = .ok (.irem, 1) := by decide +kernel
theorem dX0_exitFrom_5 : decode cX0_exitFrom 5 = .ok (.istore_n 3, 1) := by decide +kernel
theorem dX0_exitFrom_6 : decode cX0_exitFrom 6 = .ok (.iconst 0, 1) := by decide +kernel
theorem dX0_exitFrom_7 : decode cX0_exitFrom 7 = .ok (.istore 4, 2) := by decide +kernel
theorem dX0_exitFrom_9 : decode cX0_exitFrom 9 = .ok (.iload 4, 2) := by decide +kernel
theorem dX0_exitFrom_11 : decode cX0_exitFrom 11 = .ok (.iconst 4, 1) := by decide +kernel
theorem dX0_exitFrom_12 : decode cX0_exitFrom 12 = .ok (.if_icmp .ge 23, 3) := by decide +kernel
theorem dX0_exitFrom_15 : decode cX0_exitFrom 15 = .ok (.iload_n 0, 1) := by decide +kernel
theorem dX0_exitFrom_16 : decode cX0_exitFrom 16 = .ok (.iload_n 3, 1) := by decide +kernel
theorem dX0_exitFrom_17 : decode cX0_exitFrom 17 = .ok (.invokestatic 166, 3) := by decide +kernel
theorem dX0_exitFrom_20 : decode cX0_exitFrom 20 = .ok (.ifCond .ne 15, 3) := by decide +kernel
theorem dX0_exitFrom_23 : decode cX0_exitFrom 23 = .ok (.iload_n 3, 1) := by decide +kernel
theorem dX0_exitFrom_24 : decode cX0_exitFrom 24 = .ok (.iload_n 2, 1) := by decide +kernel
theorem dX0_exitFrom_25 : decode cX0_exitFrom 25 = .ok (.iadd, 1) := by decide +kernel
theorem dX0_exitFrom_26 : decode cX0_exitFrom 26 = .ok (.iconst 4, 1) := by decide +kernel
theorem dX0_exitFrom_27 : decode cX0_exitFrom 27 = .ok (.irem, 1) := by decide +kernel
theorem dX0_exitFrom_28 : decode cX0_exitFrom 28 = .ok (.istore_n 3, 1) := by decide +kernel
theorem dX0_exitFrom_29 : decode cX0_exitFrom 29 = .ok (.iinc 4 1, 3) := by decide +kernel
theorem dX0_exitFrom_32 : decode cX0_exitFrom 32 = .ok (.goto (-23), 3) := by decide +kernel
theorem dX0_exitFrom_35 : decode cX0_exitFrom 35 = .ok (.iload_n 3, 1) := by decide +kernel
theorem dX0_exitFrom_36 : decode cX0_exitFrom 36 = .ok (.ireturn, 1) := by decide +kernel
set_option maxRecDepth 20000 in
theorem ggX0_isMiddleAbove_X0_cornerSample : GoodIn wsX0_isMiddleAbove wsX0_cornerSample := goodIn_r _ [8, 9, 10, 11, 7, 12, 13, 14, 15, 16, 17, 18, 19, 20, 21, 22, 23, 24] (by decide +kernel) (by decide +kernel)
set_option maxRecDepth 20000 in
theorem gX0_isMiddleAbove_X0_cornerSample : GoodIn wsX0_isMiddleAbove (wsV RX0 154 RX0 yX0_cornerSample wsX0_cornerSample) := goodIn_app (goodIn_of _ (by decide +kernel)) ggX0_isMiddleAbove_X0_cornerSample
theorem dX0_isMiddleAbove_0 : decode cX0_isMiddleAbove 0 = .ok (.aload_n 0, 1) := by decide +kernel
theorem dX0_isMiddleAbove_1 : decode cX0_isMiddleAbove 1 = .ok (.getfield 19, 3) := by decide +kernel
theorem dX0_isMiddleAbove_4 : decode cX0_isMiddleAbove 4 = .ok (.aload_n 0, 1) := by decide +kernel
theorem dX0_isMiddleAbove_5 : decode cX0_isMiddleAbove 5 = .ok (.iload_n 1, 1) := by decide +kernel
theorem dX0_isMiddleAbove_6 : decode cX0_isMiddleAbove 6 = .ok (.iload_n 2, 1) := by decide +kernel
theorem dX0_isMiddleAbove_7 : decode cX0_isMiddleAbove 7 = .ok (.iconst 0, 1) := by decide +kernel
theorem dX0_isMiddleAbove_8 : decode cX0_isMiddleAbove 8 = .ok (.invokevirtual 154, 3) := by decide +kernel
theorem dX0_isMiddleAbove_11 : decode cX0_isMiddleAbove 11 = .ok (.iaload, 1) := by decide +kernel
theorem dX0_isMiddleAbove_12 : decode cX0_isMiddleAbove 12 = .ok (.i2l, 1) := by decide +kernel
theorem dX0_isMiddleAbove_13 : decode cX0_isMiddleAbove 13 = .ok (.lstore_n 3, 1) := by decide +kernel
theorem dX0_isMiddleAbove_14 : decode cX0_isMiddleAbove 14 = .ok (.aload_n 0, 1) := by decide +kernel
theorem dX0_isMiddleAbove_15 : decode cX0_isMiddleAbove 15 = .ok (.getfield 19, 3) := by decide +kernel
theorem dX0_isMiddleAbove_18 : decode cX0_isMiddleAbove 18 = .ok (.aload_n 0, 1) := by decide +kernel
theorem dX0_isMiddleAbove_19 : decode cX0_isMiddleAbove 19 = .ok (.iload_n 1, 1) := by decide +kernel
theorem dX0_isMiddleAbove_20 : decode cX0_isMiddleAbove 20 = .ok (.iload_n 2, 1) := by decide +kernel
theorem dX0_isMiddleAbove_21 : decode cX0_isMiddleAbove 21 = .ok (.iconst 1, 1) := by decide +kernel
theorem dX0_isMiddleAbove_22 : decode cX0_isMiddleAbove 22 = .ok (.invokevirtual 154, 3) := by decide +kernel
theorem dX0_isMiddleAbove_25 : decode cX0_isMiddleAbove 25 = .ok (.iaload, 1) := by decide +kernel
theorem dX0_isMiddleAbove_26 : decode cX0_isMiddleAbove 26 = .ok (.i2l, 1) := by decide +kernel
theorem dX0_isMiddleAbove_27 : decode cX0_isMiddleAbove 27 = .ok (.lstore 5, 2) := by decide +kernel
theorem dX0_isMiddleAbove_29 : decode cX0_isMiddleAbove 29 = .ok (.aload_n 0, 1) := by decide +kernel
theorem dX0_isMiddleAbove_30 : decode cX0_isMiddleAbove 30 = .ok (.getfield 19, 3) := by decide +kernel
theorem dX0_isMiddleAbove_33 : decode cX0_isMiddleAbove 33 = .ok (.aload_n 0, 1) := by decide +kernel
theorem dX0_isMiddleAbove_34 : decode cX0_isMiddleAbove 34 = .ok (.iload_n 1, 1) := by decide +kernel
theorem dX0_isMiddleAbove_35 : decode cX0_isMiddleAbove 35 = .ok (.iload_n 2, 1) := by decide +kernel
theorem dX0_isMiddleAbove_36 : decode cX0_isMiddleAbove 36 = .ok (.iconst 2, 1) := by decide +kernel
theorem dX0_isMiddleAbove_37 : decode cX0_isMiddleAbove 37 = .ok (.invokevirtual 154, 3) := by decide +kernel
theorem dX0_isMiddleAbove_40 : decode cX0_isMiddleAbove 40 = .ok (.iaload, 1) := by decide +kernel
theorem dX0_isMiddleAbove_41 : decode cX0_isMiddleAbove 41 = .ok (.i2l, 1) := by decide +kernel
theorem dX0_isMiddleAbove_42 : decode cX0_isMiddleAbove 42 = .ok (.lstore 7, 2) := by decide +kernel
theorem dX0_isMiddleAbove_44 : decode cX0_isMiddleAbove 44 = .ok (.aload_n 0, 1) := by decide +kernel
theorem dX0_isMiddleAbove_45 : decode cX0_isMiddleAbove 45 = .ok (.getfield 19, 3) := by decide +kernel
theorem dX0_isMiddleAbove_48 : decode cX0_isMiddleAbove 48 = .ok (.aload_n 0, 1) := by decide +kernel
theorem dX0_isMiddleAbove_49 : decode cX0_isMiddleAbove 49 = .ok (.iload_n 1, 1) := by decide +kernel
theorem dX0_isMiddleAbove_50 : decode cX0_isMiddleAbove 50 = .ok (.iload_n 2, 1) := by decide +kernel
theorem dX0_isMiddleAbove_51 : decode cX0_isMiddleAbove 51 = .ok (.iconst 3, 1) := by decide +kernel
theorem dX0_isMiddleAbove_52 : decode cX0_isMiddleAbove 52 = .ok (.invokevirtual 154, 3) := by decide +kernel
theorem dX0_isMiddleAbove_55 : decode cX0_isMiddleAbove 55 = .ok (.iaload, 1) := by decide +kernel
theorem dX0_isMiddleAbove_56 : decode cX0_isMiddleAbove 56 = .ok (.i2l, 1) := by decide +kernel
theorem dX0_isMiddleAbove_57 : decode cX0_isMiddleAbove 57 = .ok (.lstore 9, 2) := by decide +kernel
theorem dX0_isMiddleAbove_59 : decode cX0_isMiddleAbove 59 = .ok (.lload_n 3, 1) := by decide +kernel
theorem dX0_isMiddleAbove_60 : decode cX0_isMiddleAbove 60 = .ok (.lload 7, 2) := by decide +kernel
theorem dX0_isMiddleAbove_62 : decode cX0_isMiddleAbove 62 = .ok (.ladd, 1) := by decide +kernel
theorem dX0_isMiddleAbove_63 : decode cX0_isMiddleAbove 63 = .ok (.lload 5, 2) := by decide +kernel
theorem dX0_isMiddleAbove_65 : decode cX0_isMiddleAbove 65 = .ok (.lsub, 1) := by decide +kernel
theorem dX0_isMiddleAbove_66 : decode cX0_isMiddleAbove 66 = .ok (.lload 9, 2) := by decide +kernel
theorem dX0_isMiddleAbove_68 : decode cX0_isMiddleAbove 68 = .ok (.lsub, 1) := by decide +kernel
theorem dX0_isMiddleAbove_69 : decode cX0_isMiddleAbove 69 = .ok (.lstore 11, 2) := by decide +kernel
theorem dX0_isMiddleAbove_71 : decode cX0_isMiddleAbove 71 = .ok (.ldc2_w 169, 3) := by decide +kernel
theorem dX0_isMiddleAbove_74 : decode cX0_isMiddleAbove 74 = .ok (.lload_n 3, 1) := by decide +kernel
theorem dX0_isMiddleAbove_75 : decode cX0_isMiddleAbove 75 = .ok (.lload 7, 2) := by decide +kernel
theorem dX0_isMiddleAbove_77 : decode cX0_isMiddleAbove 77 = .ok (.lmul, 1) := by decide +kernel
theorem dX0_isMiddleAbove_78 : decode cX0_isMiddleAbove 78 = .ok (.lload 5, 2) := by decide +kernel
theorem dX0_isMiddleAbove_80 : decode cX0_isMiddleAbove 80 = .ok (.lload 9, 2) := by decide +kernel
theorem dX0_isMiddleAbove_82 : decode cX0_isMiddleAbove 82 = .ok (.lmul, 1) := by decide +kernel
theorem dX0_isMiddleAbove_83 : decode cX0_isMiddleAbove 83 = .ok (.lsub, 1) := by decide +kernel
theorem dX0_isMiddleAbove_84 : decode cX0_isMiddleAbove 84 = .ok (.lmul, 1) := by decide +kernel
theorem dX0_isMiddleAbove_85 : decode cX0_isMiddleAbove 85 = .ok (.lstore 13, 2) := by decide +kernel
theorem dX0_isMiddleAbove_87 : decode cX0_isMiddleAbove 87 = .ok (.aload_n 0, 1) := by decide +kernel
theorem dX0_isMiddleAbove_88 : decode cX0_isMiddleAbove 88 = .ok (.getfield 16, 3) := by decide +kernel
theorem dX0_isMiddleAbove_91 : decode cX0_isMiddleAbove 91 = .ok (.i2l, 1) := by decide +kernel
theorem dX0_isMiddleAbove_92 : decode cX0_isMiddleAbove 92 = .ok (.lload 11, 2) := by decide +kernel
theorem dX0_isMiddleAbove_94 : decode cX0_isMiddleAbove 94 = .ok (.lmul, 1) := by decide +kernel
theorem dX0_isMiddleAbove_95 : decode cX0_isMiddleAbove 95 = .ok (.lstore 15, 2) := by decide +kernel
theorem dX0_isMiddleAbove_97 : decode cX0_isMiddleAbove 97 = .ok (.lload 11, 2) := by decide +kernel
theorem dX0_isMiddleAbove_99 : decode cX0_isMiddleAbove 99 = .ok (.lconst 0, 1) := by decide +kernel
theorem dX0_isMiddleAbove_100 : decode cX0_isMiddleAbove 100 = .ok (.lcmp, 1) := by decide +kernel
theorem dX0_isMiddleAbove_101 : decode cX0_isMiddleAbove 101 = .ok (.ifCond .le 19, 3) := by decide +kernel
theorem dX0_isMiddleAbove_104 : decode cX0_isMiddleAbove 104 = .ok (.lload 13, 2) := by decide +kernel
theorem dX0_isMiddleAbove_106 : decode cX0_isMiddleAbove 106 = .ok (.lload 15, 2) := by decide +kernel
theorem dX0_isMiddleAbove_108 : decode cX0_isMiddleAbove 108 = .ok (.lcmp, 1) := by decide +kernel
theorem dX0_isMiddleAbove_109 : decode cX0_isMiddleAbove 109 = .ok (.ifCond .le 7, 3) := by decide +kernel
theorem dX0_isMiddleAbove_112 : decode cX0_isMiddleAbove 112 = .ok (.iconst 1, 1) := by decide +kernel
theorem dX0_isMiddleAbove_113 : decode cX0_isMiddleAbove 113 = .ok (.goto 20, 3) := by decide +kernel
theorem dX0_isMiddleAbove_116 : decode cX0_isMiddleAbove 116 = .ok (.iconst 0, 1) := by decide +kernel
theorem dX0_isMiddleAbove_117 : decode cX0_isMiddleAbove 117 = .ok (.goto 16, 3) := by decide +kernel
theorem dX0_isMiddleAbove_120 : decode cX0_isMiddleAbove 120 = .ok (.lload 13, 2) := by decide +kernel
theorem dX0_isMiddleAbove_122 : decode cX0_isMiddleAbove 122 = .ok (.lload 15, 2) := by decide +kernel
theorem dX0_isMiddleAbove_124 : decode cX0_isMiddleAbove 124 = .ok (.lcmp, 1) := by decide +kernel
theorem dX0_isMiddleAbove_125 : decode cX0_isMiddleAbove 125 = .ok (.ifCond .ge 7, 3) := by decide +kernel
theorem dX0_isMiddleAbove_128 : decode cX0_isMiddleAbove 128 = .ok (.iconst 1, 1) := by decide +kernel
theorem dX0_isMiddleAbove_129 : decode cX0_isMiddleAbove 129 = .ok (.goto 4, 3) := by decide +kernel
theorem dX0_isMiddleAbove_132 : decode cX0_isMiddleAbove 132 = .ok (.iconst 0, 1) := by decide +kernel
theorem dX0_isMiddleAbove_133 : decode cX0_isMiddleAbove 133 = .ok (.ireturn, 1) := by decide +kernel
theorem dX0_hasChain_0 : decode cX0_hasChain 0 = .ok (.iload_n 1, 1) := by decide +kernel
theorem dX0_hasChain_1 : decode cX0_hasChain 1 = .ok (.ifCond .lt 15, 3) := by decide +kernel
theorem dX0_hasChain_4 : decode cX0_hasChain 4 = .ok (.iload_n 1, 1) := by decide +kernel
theorem dX0_hasChain_5 : decode cX0_hasChain 5 = .ok (.aload_n 0, 1) := by decide +kernel
theorem dX0_hasChain_6 : decode cX0_hasChain 6 = .ok (.getfield 41, 3) := by decide +kernel
theorem dX0_hasChain_9 : decode cX0_hasChain 9 = .ok (.if_icmp .ge 7, 3) := by decide +kernel
theorem dX0_hasChain_12 : decode cX0_hasChain 12 = .ok (.iconst 1, 1) := by decide +kernel
theorem dX0_hasChain_13 : decode cX0_hasChain 13 = .ok (.goto 4, 3) := by decide +kernel
theorem dX0_hasChain_16 : decode cX0_hasChain 16 = .ok (.iconst 0, 1) := by decide +kernel
theorem dX0_hasChain_17 : decode cX0_hasChain 17 = .ok (.ireturn, 1) := by decide +kernel
set_option maxRecDepth 20000 in
theorem ggX0_forgetChains_J7_fill_53178 : GoodIn wsX0_forgetChains wsJ7_fill_53178 := goodIn_r _ [7] (by decide +kernel) (by decide +kernel)
set_option maxRecDepth 20000 in
theorem gX0_forgetChains_J7_fill_53178 : GoodIn wsX0_forgetChains (va_wsS RX0 48 yJ7_fill_53178 wsJ7_fill_53178) := goodIn_app (goodIn_of _ (by decide +kernel)) ggX0_forgetChains_J7_fill_53178
theorem dX0_forgetChains_0 : decode cX0_forgetChains 0 = .ok (.aload_n 0, 1) := by decide +kernel
theorem dX0_forgetChains_1 : decode cX0_forgetChains 1 = .ok (.iconst 0, 1) := by decide +kernel
theorem dX0_forgetChains_2 : decode cX0_forgetChains 2 = .ok (.putfield 41, 3) := by decide +kernel
theorem dX0_forgetChains_5 : decode cX0_forgetChains 5 = .ok (.aload_n 0, 1) := by decide +kernel
theorem dX0_forgetChains_6 : decode cX0_forgetChains 6 = .ok (.iconst 0, 1) := by decide +kernel
theorem dX0_forgetChains_7 : decode cX0_forgetChains 7 = .ok (.putfield 38, 3) := by decide +kernel
theorem dX0_forgetChains_10 : decode cX0_forgetChains 10 = .ok (.aload_n 0, 1) := by decide +kernel
theorem dX0_forgetChains_11 : decode cX0_forgetChains 11 = .ok (.getfield 35, 3) := by decide +kernel
theorem dX0_forgetChains_14 : decode cX0_forgetChains 14 = .ok (.iconst (-1), 1) := by decide +kernel
theorem dX0_forgetChains_15 : decode cX0_forgetChains 15 = .ok (.invokestatic 48, 3) := by decide +kernel
theorem dX0_forgetChains_18 : decode cX0_forgetChains 18 = .ok (.return_, 1) := by decide +kernel
set_option maxRecDepth 20000 in
theorem ggX0_gatherOpenChains_X0_edgeCount : GoodIn wsX0_gatherOpenChains wsX0_edgeCount := goodIn_r _ [9, 10, 11, 12, 13, 14, 8, 15, 23, 24, 25, 26, 27, 28, 29, 30, 31, 32, 33] (by decide +kernel) (by decide +kernel)
set_option maxRecDepth 20000 in
theorem gX0_gatherOpenChains_X0_edgeCount : GoodIn wsX0_gatherOpenChains (wsV RX0 86 RX0 yX0_edgeCount wsX0_edgeCount) := goodIn_app (goodIn_of _ (by decide +kernel)) ggX0_gatherOpenChains_X0_edgeCount
set_option maxRecDepth 20000 in
theorem ggX0_gatherOpenChains_X0_gatherChain : GoodIn wsX0_gatherOpenChains wsX0_gatherChain := goodIn_r _ [19, 20, 3, 21, 22, 1, 23, 24, 25, 26, 27, 28, 29, 30, 31, 32, 33] (by decide +kernel) (by decide +kernel)
set_option maxRecDepth 20000 in
theorem gX0_gatherOpenChains_X0_gatherChain : GoodIn wsX0_gatherOpenChains (wsV RX0 171 RX0 yX0_gatherChain wsX0_gatherChain) := goodIn_app (goodIn_of _ (by decide +kernel)) ggX0_gatherOpenChains_X0_gatherChain
theorem dX0_gatherOpenChains_0 : decode cX0_gatherOpenChains 0 = .ok (.iconst 0, 1) := by decide +kernel
theorem dX0_gatherOpenChains_1 : decode cX0_gatherOpenChains 1 = .ok (.istore_n 1, 1) := by decide +kernel
theorem dX0_gatherOpenChains_2 : decode cX0_gatherOpenChains 2 = .ok (.iload_n 1, 1) := by decide +kernel
theorem dX0_gatherOpenChains_3 : decode cX0_gatherOpenChains 3 = .ok (.aload_n 0, 1) := by decide +kernel
theorem dX0_gatherOpenChains_4 : decode cX0_gatherOpenChains 4 = .ok (.invokevirtual 86, 3) := by decide +kernel
theorem dX0_gatherOpenChains_7 : decode cX0_gatherOpenChains 7 = .ok (.if_icmp .ge 34, 3) := by decide +kernel
theorem dX0_gatherOpenChains_10 : decode cX0_gatherOpenChains 10 = .ok (.aload_n 0, 1) := by decide +kernel
theorem dX0_gatherOpenChains_11 : decode cX0_gatherOpenChains 11 = .ok (.getfield 23, 3) := by decide +kernel
theorem dX0_gatherOpenChains_14 : decode cX0_gatherOpenChains 14 = .ok (.iload_n 1, 1) := by decide +kernel
theorem dX0_gatherOpenChains_15 : decode cX0_gatherOpenChains 15 = .ok (.iaload, 1) := by decide +kernel
theorem dX0_gatherOpenChains_16 : decode cX0_gatherOpenChains 16 = .ok (.iconst (-1), 1) := by decide +kernel
theorem dX0_gatherOpenChains_17 : decode cX0_gatherOpenChains 17 = .ok (.if_icmp .eq 18, 3) := by decide +kernel
theorem dX0_gatherOpenChains_20 : decode cX0_gatherOpenChains 20 = .ok (.aload_n 0, 1) := by decide +kernel
theorem dX0_gatherOpenChains_21 : decode cX0_gatherOpenChains 21 = .ok (.getfield 26, 3) := by decide +kernel
theorem dX0_gatherOpenChains_24 : decode cX0_gatherOpenChains 24 = .ok (.iload_n 1, 1) := by decide +kernel
theorem dX0_gatherOpenChains_25 : decode cX0_gatherOpenChains 25 = .ok (.iaload, 1) := by decide +kernel
theorem dX0_gatherOpenChains_26 : decode cX0_gatherOpenChains 26 = .ok (.iconst (-1), 1) := by decide +kernel
theorem dX0_gatherOpenChains_27 : decode cX0_gatherOpenChains 27 = .ok (.if_icmp .ne 8, 3) := by decide +kernel
theorem dX0_gatherOpenChains_30 : decode cX0_gatherOpenChains 30 = .ok (.aload_n 0, 1) := by decide +kernel
theorem dX0_gatherOpenChains_31 : decode cX0_gatherOpenChains 31 = .ok (.iload_n 1, 1) := by decide +kernel
theorem dX0_gatherOpenChains_32 : decode cX0_gatherOpenChains 32 = .ok (.invokevirtual 171, 3) := by decide +kernel
theorem dX0_gatherOpenChains_35 : decode cX0_gatherOpenChains 35 = .ok (.iinc 1 1, 3) := by decide +kernel
theorem dX0_gatherOpenChains_38 : decode cX0_gatherOpenChains 38 = .ok (.goto (-36), 3) := by decide +kernel
theorem dX0_gatherOpenChains_41 : decode cX0_gatherOpenChains 41 = .ok (.aload_n 0, 1) := by decide +kernel
theorem dX0_gatherOpenChains_42 : decode cX0_gatherOpenChains 42 = .ok (.aload_n 0, 1) := by decide +kernel
theorem dX0_gatherOpenChains_43 : decode cX0_gatherOpenChains 43 = .ok (.getfield 41, 3) := by decide +kernel
theorem dX0_gatherOpenChains_46 : decode cX0_gatherOpenChains 46 = .ok (.putfield 38, 3) := by decide +kernel
theorem dX0_gatherOpenChains_49 : decode cX0_gatherOpenChains 49 = .ok (.return_, 1) := by decide +kernel
set_option maxRecDepth 20000 in
theorem ggX0_gatherClosedChains_X0_edgeCount : GoodIn wsX0_gatherClosedChains wsX0_edgeCount := goodIn_r _ [7, 8, 9, 10, 11, 12, 6, 13, 21, 22, 23, 24, 25, 26, 27, 28, 29, 30, 31] (by decide +kernel) (by decide +kernel)
set_option maxRecDepth 20000 in
theorem gX0_gatherClosedChains_X0_edgeCount : GoodIn wsX0_gatherClosedChains (wsV RX0 86 RX0 yX0_edgeCount wsX0_edgeCount) := goodIn_app (goodIn_of _ (by decide +kernel)) ggX0_gatherClosedChains_X0_edgeCount
set_option maxRecDepth 20000 in
theorem ggX0_gatherClosedChains_X0_gatherChain : GoodIn wsX0_gatherClosedChains wsX0_gatherChain := goodIn_r _ [17, 18, 19, 2, 20, 1, 21, 22, 23, 24, 25, 26, 27, 28, 29, 30, 31] (by decide +kernel) (by decide +kernel)
set_option maxRecDepth 20000 in
theorem gX0_gatherClosedChains_X0_gatherChain : GoodIn wsX0_gatherClosedChains (wsV RX0 171 RX0 yX0_gatherChain wsX0_gatherChain) := goodIn_app (goodIn_of _ (by decide +kernel)) ggX0_gatherClosedChains_X0_gatherChain
theorem dX0_gatherClosedChains_0 : decode cX0_gatherClosedChains 0 = .ok (.iconst 0, 1) := by decide +kernel
theorem dX0_gatherClosedChains_1 : decode cX0_gatherClosedChains 1 = .ok (.istore_n 1, 1) := by decide +kernel
theorem dX0_gatherClosedChains_2 : decode cX0_gatherClosedChains 2 = .ok (.iload_n 1, 1) := by decide +kernel
theorem dX0_gatherClosedChains_3 : decode cX0_gatherClosedChains 3 = .ok (.aload_n 0, 1) := by decide +kernel
theorem dX0_gatherClosedChains_4 : decode cX0_gatherClosedChains 4 = .ok (.invokevirtual 86, 3) := by decide +kernel
theorem dX0_gatherClosedChains_7 : decode cX0_gatherClosedChains 7 = .ok (.if_icmp .ge 34, 3) := by decide +kernel
theorem dX0_gatherClosedChains_10 : decode cX0_gatherClosedChains 10 = .ok (.aload_n 0, 1) := by decide +kernel
theorem dX0_gatherClosedChains_11 : decode cX0_gatherClosedChains 11 = .ok (.getfield 23, 3) := by decide +kernel
theorem dX0_gatherClosedChains_14 : decode cX0_gatherClosedChains 14 = .ok (.iload_n 1, 1) := by decide +kernel
theorem dX0_gatherClosedChains_15 : decode cX0_gatherClosedChains 15 = .ok (.iaload, 1) := by decide +kernel
theorem dX0_gatherClosedChains_16 : decode cX0_gatherClosedChains 16 = .ok (.iconst (-1), 1) := by decide +kernel
theorem dX0_gatherClosedChains_17 : decode cX0_gatherClosedChains 17 = .ok (.if_icmp .eq 18, 3) := by decide +kernel
theorem dX0_gatherClosedChains_20 : decode cX0_gatherClosedChains 20 = .ok (.aload_n 0, 1) := by decide +kernel
theorem dX0_gatherClosedChains_21 : decode cX0_gatherClosedChains 21 = .ok (.getfield 35, 3) := by decide +kernel
theorem dX0_gatherClosedChains_24 : decode cX0_gatherClosedChains 24 = .ok (.iload_n 1, 1) := by decide +kernel
theorem dX0_gatherClosedChains_25 : decode cX0_gatherClosedChains 25 = .ok (.iaload, 1) := by decide +kernel
theorem dX0_gatherClosedChains_26 : decode cX0_gatherClosedChains 26 = .ok (.iconst (-1), 1) := by decide +kernel
theorem dX0_gatherClosedChains_27 : decode cX0_gatherClosedChains 27 = .ok (.if_icmp .ne 8, 3) := by decide +kernel
theorem dX0_gatherClosedChains_30 : decode cX0_gatherClosedChains 30 = .ok (.aload_n 0, 1) := by decide +kernel
theorem dX0_gatherClosedChains_31 : decode cX0_gatherClosedChains 31 = .ok (.iload_n 1, 1) := by decide +kernel
theorem dX0_gatherClosedChains_32 : decode cX0_gatherClosedChains 32 = .ok (.invokevirtual 171, 3) := by decide +kernel
theorem dX0_gatherClosedChains_35 : decode cX0_gatherClosedChains 35 = .ok (.iinc 1 1, 3) := by decide +kernel
theorem dX0_gatherClosedChains_38 : decode cX0_gatherClosedChains 38 = .ok (.goto (-36), 3) := by decide +kernel
theorem dX0_gatherClosedChains_41 : decode cX0_gatherClosedChains 41 = .ok (.return_, 1) := by decide +kernel
theorem dX0_gatherChain_0 : decode cX0_gatherChain 0 = .ok (.aload_n 0, 1) := by decide +kernel
theorem dX0_gatherChain_1 : decode cX0_gatherChain 1 = .ok (.getfield 32, 3) := by decide +kernel
theorem dX0_gatherChain_4 : decode cX0_gatherChain 4 = .ok (.aload_n 0, 1) := by decide +kernel
theorem dX0_gatherChain_5 : decode cX0_gatherChain 5 = .ok (.getfield 41, 3) := by decide +kernel
theorem dX0_gatherChain_8 : decode cX0_gatherChain 8 = .ok (.iaload, 1) := by decide +kernel
theorem dX0_gatherChain_9 : decode cX0_gatherChain 9 = .ok (.istore_n 2, 1) := by decide +kernel
theorem dX0_gatherChain_10 : decode cX0_gatherChain 10 = .ok (.iload_n 1, 1) := by decide +kernel
theorem dX0_gatherChain_11 : decode cX0_gatherChain 11 = .ok (.istore_n 3, 1) := by decide +kernel
theorem dX0_gatherChain_12 : decode cX0_gatherChain 12 = .ok (.iconst 0, 1) := by decide +kernel
theorem dX0_gatherChain_13 : decode cX0_gatherChain 13 = .ok (.istore 4, 2) := by decide +kernel
theorem dX0_gatherChain_15 : decode cX0_gatherChain 15 = .ok (.iload 4, 2) := by decide +kernel
theorem dX0_gatherChain_17 : decode cX0_gatherChain 17 = .ok (.sipush 264, 3) := by decide +kernel
theorem dX0_gatherChain_20 : decode cX0_gatherChain 20 = .ok (.if_icmp .ge 51, 3) := by decide +kernel
theorem dX0_gatherChain_23 : decode cX0_gatherChain 23 = .ok (.iload_n 3, 1) := by decide +kernel
theorem dX0_gatherChain_24 : decode cX0_gatherChain 24 = .ok (.iconst (-1), 1) := by decide +kernel
theorem dX0_gatherChain_25 : decode cX0_gatherChain 25 = .ok (.if_icmp .eq 46, 3) := by decide +kernel
theorem dX0_gatherChain_28 : decode cX0_gatherChain 28 = .ok (.aload_n 0, 1) := by decide +kernel
theorem dX0_gatherChain_29 : decode cX0_gatherChain 29 = .ok (.getfield 35, 3) := by decide +kernel
theorem dX0_gatherChain_32 : decode cX0_gatherChain 32 = .ok (.iload_n 3, 1) := by decide +kernel
theorem dX0_gatherChain_33 : decode cX0_gatherChain 33 = .ok (.iaload, 1) := by decide +kernel
theorem dX0_gatherChain_34 : decode cX0_gatherChain 34 = .ok (.iconst (-1), 1) := by decide +kernel
theorem dX0_gatherChain_35 : decode cX0_gatherChain 35 = .ok (.if_icmp .ne 36, 3) := by decide +kernel
theorem dX0_gatherChain_38 : decode cX0_gatherChain 38 = .ok (.aload_n 0, 1) := by decide +kernel
theorem dX0_gatherChain_39 : decode cX0_gatherChain 39 = .ok (.getfield 35, 3) := by decide +kernel
theorem dX0_gatherChain_42 : decode cX0_gatherChain 42 = .ok (.iload_n 3, 1) := by decide +kernel
theorem dX0_gatherChain_43 : decode cX0_gatherChain 43 = .ok (.aload_n 0, 1) := by decide +kernel
theorem dX0_gatherChain_44 : decode cX0_gatherChain 44 = .ok (.getfield 41, 3) := by decide +kernel
theorem dX0_gatherChain_47 : decode cX0_gatherChain 47 = .ok (.iastore, 1) := by decide +kernel
theorem dX0_gatherChain_48 : decode cX0_gatherChain 48 = .ok (.aload_n 0, 1) := by decide +kernel
theorem dX0_gatherChain_49 : decode cX0_gatherChain 49 = .ok (.getfield 29, 3) := by decide +kernel
theorem dX0_gatherChain_52 : decode cX0_gatherChain 52 = .ok (.iload_n 2, 1) := by decide +kernel
theorem dX0_gatherChain_53 : decode cX0_gatherChain 53 = .ok (.iload_n 3, 1) := by decide +kernel
theorem dX0_gatherChain_54 : decode cX0_gatherChain 54 = .ok (.iastore, 1) := by decide +kernel
theorem dX0_gatherChain_55 : decode cX0_gatherChain 55 = .ok (.iinc 2 1, 3) := by decide +kernel
theorem dX0_gatherChain_58 : decode cX0_gatherChain 58 = .ok (.aload_n 0, 1) := by decide +kernel
theorem dX0_gatherChain_59 : decode cX0_gatherChain 59 = .ok (.getfield 23, 3) := by decide +kernel
theorem dX0_gatherChain_62 : decode cX0_gatherChain 62 = .ok (.iload_n 3, 1) := by decide +kernel
theorem dX0_gatherChain_63 : decode cX0_gatherChain 63 = .ok (.iaload, 1) := by decide +kernel
theorem dX0_gatherChain_64 : decode cX0_gatherChain 64 = .ok (.istore_n 3, 1) := by decide +kernel
theorem dX0_gatherChain_65 : decode cX0_gatherChain 65 = .ok (.iinc 4 1, 3) := by decide +kernel
theorem dX0_gatherChain_68 : decode cX0_gatherChain 68 = .ok (.goto (-53), 3) := by decide +kernel
theorem dX0_gatherChain_71 : decode cX0_gatherChain 71 = .ok (.aload_n 0, 1) := by decide +kernel
theorem dX0_gatherChain_72 : decode cX0_gatherChain 72 = .ok (.dup, 1) := by decide +kernel
theorem dX0_gatherChain_73 : decode cX0_gatherChain 73 = .ok (.getfield 41, 3) := by decide +kernel
theorem dX0_gatherChain_76 : decode cX0_gatherChain 76 = .ok (.iconst 1, 1) := by decide +kernel
theorem dX0_gatherChain_77 : decode cX0_gatherChain 77 = .ok (.iadd, 1) := by decide +kernel
theorem dX0_gatherChain_78 : decode cX0_gatherChain 78 = .ok (.putfield 41, 3) := by decide +kernel
theorem dX0_gatherChain_81 : decode cX0_gatherChain 81 = .ok (.aload_n 0, 1) := by decide +kernel
theorem dX0_gatherChain_82 : decode cX0_gatherChain 82 = .ok (.getfield 32, 3) := by decide +kernel
theorem dX0_gatherChain_85 : decode cX0_gatherChain 85 = .ok (.aload_n 0, 1) := by decide +kernel
theorem dX0_gatherChain_86 : decode cX0_gatherChain 86 = .ok (.getfield 41, 3) := by decide +kernel
theorem dX0_gatherChain_89 : decode cX0_gatherChain 89 = .ok (.iload_n 2, 1) := by decide +kernel
theorem dX0_gatherChain_90 : decode cX0_gatherChain 90 = .ok (.iastore, 1) := by decide +kernel
theorem dX0_gatherChain_91 : decode cX0_gatherChain 91 = .ok (.return_, 1) := by decide +kernel
set_option maxRecDepth 20000 in
theorem ggX0_withinInRow_X0_rightwardEdge : GoodIn wsX0_withinInRow wsX0_rightwardEdge := goodIn_r _ [7, 1, 8, 9, 10, 11, 12, 13, 14, 15, 16, 17, 18] (by decide +kernel) (by decide +kernel)
set_option maxRecDepth 20000 in
theorem gX0_withinInRow_X0_rightwardEdge : GoodIn wsX0_withinInRow (wsV RX0 157 RX0 yX0_rightwardEdge wsX0_rightwardEdge) := goodIn_app (goodIn_of _ (by decide +kernel)) ggX0_withinInRow_X0_rightwardEdge
theorem dX0_withinInRow_0 : decode cX0_withinInRow 0 = .ok (.iconst 0, 1) := by decide +kernel
theorem dX0_withinInRow_1 : decode cX0_withinInRow 1 = .ok (.istore_n 3, 1) := by decide +kernel
theorem dX0_withinInRow_2 : decode cX0_withinInRow 2 = .ok (.iconst 0, 1) := by decide +kernel
theorem dX0_withinInRow_3 : decode cX0_withinInRow 3 = .ok (.istore 4, 2) := by decide +kernel
theorem dX0_withinInRow_5 : decode cX0_withinInRow 5 = .ok (.iconst 1, 1) := by decide +kernel
theorem dX0_withinInRow_6 : decode cX0_withinInRow 6 = .ok (.istore 5, 2) := by decide +kernel
theorem dX0_withinInRow_8 : decode cX0_withinInRow 8 = .ok (.iload 5, 2) := by decide +kernel
theorem dX0_withinInRow_10 : decode cX0_withinInRow 10 = .ok (.aload_n 0, 1) := by decide +kernel
theorem dX0_withinInRow_11 : decode cX0_withinInRow 11 = .ok (.getfield 9, 3) := by decide +kernel
theorem dX0_withinInRow_14 : decode cX0_withinInRow 14 = .ok (.if_icmp .ge 47, 3) := by decide +kernel
theorem dX0_withinInRow_17 : decode cX0_withinInRow 17 = .ok (.aload_n 0, 1) := by decide +kernel
theorem dX0_withinInRow_18 : decode cX0_withinInRow 18 = .ok (.getfield 35, 3) := by decide +kernel
theorem dX0_withinInRow_21 : decode cX0_withinInRow 21 = .ok (.aload_n 0, 1) := by decide +kernel
theorem dX0_withinInRow_22 : decode cX0_withinInRow 22 = .ok (.iload 5, 2) := by decide +kernel
theorem dX0_withinInRow_24 : decode cX0_withinInRow 24 = .ok (.iconst 1, 1) := by decide +kernel
theorem dX0_withinInRow_25 : decode cX0_withinInRow 25 = .ok (.isub, 1) := by decide +kernel
theorem dX0_withinInRow_26 : decode cX0_withinInRow 26 = .ok (.iload_n 2, 1) := by decide +kernel
theorem dX0_withinInRow_27 : decode cX0_withinInRow 27 = .ok (.invokevirtual 157, 3) := by decide +kernel
theorem dX0_withinInRow_30 : decode cX0_withinInRow 30 = .ok (.iaload, 1) := by decide +kernel
theorem dX0_withinInRow_31 : decode cX0_withinInRow 31 = .ok (.iload_n 1, 1) := by decide +kernel
theorem dX0_withinInRow_32 : decode cX0_withinInRow 32 = .ok (.if_icmp .ne 15, 3) := by decide +kernel
theorem dX0_withinInRow_35 : decode cX0_withinInRow 35 = .ok (.iload 4, 2) := by decide +kernel
theorem dX0_withinInRow_37 : decode cX0_withinInRow 37 = .ok (.ifCond .ne 7, 3) := by decide +kernel
theorem dX0_withinInRow_40 : decode cX0_withinInRow 40 = .ok (.iconst 1, 1) := by decide +kernel
theorem dX0_withinInRow_41 : decode cX0_withinInRow 41 = .ok (.goto 4, 3) := by decide +kernel
theorem dX0_withinInRow_44 : decode cX0_withinInRow 44 = .ok (.iconst 0, 1) := by decide +kernel
theorem dX0_withinInRow_45 : decode cX0_withinInRow 45 = .ok (.istore 4, 2) := by decide +kernel
theorem dX0_withinInRow_47 : decode cX0_withinInRow 47 = .ok (.iload 4, 2) := by decide +kernel
theorem dX0_withinInRow_49 : decode cX0_withinInRow 49 = .ok (.ifCond .eq 6, 3) := by decide +kernel
theorem dX0_withinInRow_52 : decode cX0_withinInRow 52 = .ok (.iinc 3 1, 3) := by decide +kernel
theorem dX0_withinInRow_55 : decode cX0_withinInRow 55 = .ok (.iinc 5 1, 3) := by decide +kernel
theorem dX0_withinInRow_58 : decode cX0_withinInRow 58 = .ok (.goto (-50), 3) := by decide +kernel
theorem dX0_withinInRow_61 : decode cX0_withinInRow 61 = .ok (.iload_n 3, 1) := by decide +kernel
theorem dX0_withinInRow_62 : decode cX0_withinInRow 62 = .ok (.ireturn, 1) := by decide +kernel
theorem dX1_init_0 : decode cX1_init 0 = .ok (.aload_n 0, 1) := by decide +kernel
theorem dX1_init_1 : decode cX1_init 1 = .ok (.invokespecial 1, 3) := by decide +kernel
theorem dX1_init_4 : decode cX1_init 4 = .ok (.aload_n 0, 1) := by decide +kernel
theorem dX1_init_5 : decode cX1_init 5 = .ok (.iconst 2, 1) := by decide +kernel
theorem dX1_init_6 : decode cX1_init 6 = .ok (.putfield 7, 3) := by decide +kernel
theorem dX1_init_9 : decode cX1_init 9 = .ok (.aload_n 0, 1) := by decide +kernel
theorem dX1_init_10 : decode cX1_init 10 = .ok (.iconst 2, 1) := by decide +kernel
theorem dX1_init_11 : decode cX1_init 11 = .ok (.putfield 13, 3) := by decide +kernel
theorem dX1_init_14 : decode cX1_init 14 = .ok (.aload_n 0, 1) := by decide +kernel
theorem dX1_init_15 : decode cX1_init 15 = .ok (.iconst 1, 1) := by decide +kernel
theorem dX1_init_16 : decode cX1_init 16 = .ok (.putfield 16, 3) := by decide +kernel
theorem dX1_init_19 : decode cX1_init 19 = .ok (.aload_n 0, 1) := by decide +kernel
theorem dX1_init_20 : decode cX1_init 20 = .ok (.sipush 144, 3) := by decide +kernel
theorem dX1_init_23 : decode cX1_init 23 = .ok (.newarray .int, 2) := by decide +kernel
theorem dX1_init_25 : decode cX1_init 25 = .ok (.putfield 19, 3) := by decide +kernel
theorem dX1_init_28 : decode cX1_init 28 = .ok (.aload_n 0, 1) := by decide +kernel
theorem dX1_init_29 : decode cX1_init 29 = .ok (.sipush 264, 3) := by decide +kernel
theorem dX1_init_32 : decode cX1_init 32 = .ok (.newarray .int, 2) := by decide +kernel
theorem dX1_init_34 : decode cX1_init 34 = .ok (.putfield 23, 3) := by decide +kernel
theorem dX1_init_37 : decode cX1_init 37 = .ok (.aload_n 0, 1) := by decide +kernel
theorem dX1_init_38 : decode cX1_init 38 = .ok (.sipush 266, 3) := by decide +kernel
theorem dX1_init_41 : decode cX1_init 41 = .ok (.newarray .int, 2) := by decide +kernel
theorem dX1_init_43 : decode cX1_init 43 = .ok (.putfield 26, 3) := by decide +kernel
theorem dX1_init_46 : decode cX1_init 46 = .ok (.aload_n 0, 1) := by decide +kernel
theorem dX1_init_47 : decode cX1_init 47 = .ok (.sipush 265, 3) := by decide +kernel
theorem dX1_init_50 : decode cX1_init 50 = .ok (.newarray .boolean, 2) := by decide +kernel
theorem dX1_init_52 : decode cX1_init 52 = .ok (.putfield 29, 3) := by decide +kernel
theorem dX1_init_55 : decode cX1_init 55 = .ok (.aload_n 0, 1) := by decide +kernel
theorem dX1_init_56 : decode cX1_init 56 = .ok (.sipush 264, 3) := by decide +kernel
theorem dX1_init_59 : decode cX1_init 59 = .ok (.newarray .boolean, 2) := by decide +kernel
theorem dX1_init_61 : decode cX1_init 61 = .ok (.putfield 33, 3) := by decide +kernel
theorem dX1_init_64 : decode cX1_init 64 = .ok (.return_, 1) := by decide +kernel
theorem dX1_thrown_0 : decode cX1_thrown 0 = .ok (.aload_n 0, 1) := by decide +kernel
theorem dX1_thrown_1 : decode cX1_thrown 1 = .ok (.getfield 36, 3) := by decide +kernel
theorem dX1_thrown_4 : decode cX1_thrown 4 = .ok (.ireturn, 1) := by decide +kernel
theorem dX1_field_0 : decode cX1_field 0 = .ok (.aload_n 0, 1) := by decide +kernel
theorem dX1_field_1 : decode cX1_field 1 = .ok (.iconst 0, 1) := by decide +kernel
theorem dX1_field_2 : decode cX1_field 2 = .ok (.putfield 36, 3) := by decide +kernel
theorem dX1_field_5 : decode cX1_field 5 = .ok (.iload_n 1, 1) := by decide +kernel
theorem dX1_field_6 : decode cX1_field 6 = .ok (.iconst 2, 1) := by decide +kernel
theorem dX1_field_7 : decode cX1_field 7 = .ok (.if_icmp .lt 20, 3) := by decide +kernel
theorem dX1_field_10 : decode cX1_field 10 = .ok (.iload_n 1, 1) := by decide +kernel
theorem dX1_field_11 : decode cX1_field 11 = .ok (.bipush 12, 2) := by decide +kernel
theorem dX1_field_13 : decode cX1_field 13 = .ok (.if_icmp .gt 14, 3) := by decide +kernel
theorem dX1_field_16 : decode cX1_field 16 = .ok (.iload_n 2, 1) := by decide +kernel
theorem dX1_field_17 : decode cX1_field 17 = .ok (.iconst 2, 1) := by decide +kernel
theorem dX1_field_18 : decode cX1_field 18 = .ok (.if_icmp .lt 9, 3) := by decide +kernel
theorem dX1_field_21 : decode cX1_field 21 = .ok (.iload_n 2, 1) := by decide +kernel
theorem dX1_field_22 : decode cX1_field 22 = .ok (.bipush 12, 2) := by decide +kernel
theorem dX1_field_24 : decode cX1_field 24 = .ok (.if_icmp .le 5, 3) := by decide +kernel
theorem dX1_field_27 : decode cX1_field 27 = .ok (.iconst 0, 1) := by decide +kernel
theorem dX1_field_28 : decode cX1_field 28 = .ok (.ireturn, 1) := by decide +kernel
theorem dX1_field_29 : decode cX1_field 29 = .ok (.aload_n 0, 1) := by decide +kernel
theorem dX1_field_30 : decode cX1_field 30 = .ok (.iload_n 1, 1) := by decide +kernel
theorem dX1_field_31 : decode cX1_field 31 = .ok (.putfield 7, 3) := by decide +kernel
theorem dX1_field_34 : decode cX1_field 34 = .ok (.aload_n 0, 1) := by decide +kernel
theorem dX1_field_35 : decode cX1_field 35 = .ok (.iload_n 2, 1) := by decide +kernel
theorem dX1_field_36 : decode cX1_field 36 = .ok (.putfield 13, 3) := by decide +kernel
theorem dX1_field_39 : decode cX1_field 39 = .ok (.aload_n 0, 1) := by decide +kernel
theorem dX1_field_40 : decode cX1_field 40 = .ok (.iconst 0, 1) := by decide +kernel
theorem dX1_field_41 : decode cX1_field 41 = .ok (.putfield 39, 3) := by decide +kernel
theorem dX1_field_44 : decode cX1_field 44 = .ok (.iconst 0, 1) := by decide +kernel
theorem dX1_field_45 : decode cX1_field 45 = .ok (.istore_n 3, 1) := by decide +kernel
theorem dX1_field_46 : decode cX1_field 46 = .ok (.iload_n 3, 1) := by decide +kernel
theorem dX1_field_47 : decode cX1_field 47 = .ok (.sipush 144, 3) := by decide +kernel
theorem dX1_field_50 : decode cX1_field 50 = .ok (.if_icmp .ge 16, 3) := by decide +kernel
theorem dX1_field_53 : decode cX1_field 53 = .ok (.aload_n 0, 1) := by decide +kernel
theorem dX1_field_54 : decode cX1_field 54 = .ok (.getfield 19, 3) := by decide +kernel
theorem dX1_field_57 : decode cX1_field 57 = .ok (.iload_n 3, 1) := by decide +kernel
theorem dX1_field_58 : decode cX1_field 58 = .ok (.iconst 0, 1) := by decide +kernel
theorem dX1_field_59 : decode cX1_field 59 = .ok (.iastore, 1) := by decide +kernel
theorem dX1_field_60 : decode cX1_field 60 = .ok (.iinc 3 1, 3) := by decide +kernel
theorem dX1_field_63 : decode cX1_field 63 = .ok (.goto (-17), 3) := by decide +kernel
theorem dX1_field_66 : decode cX1_field 66 = .ok (.iconst 1, 1) := by decide +kernel
theorem dX1_field_67 : decode cX1_field 67 = .ok (.ireturn, 1) := by decide +kernel
theorem dX1_set_0 : decode cX1_set 0 = .ok (.aload_n 0, 1) := by decide +kernel
theorem dX1_set_1 : decode cX1_set 1 = .ok (.iconst 0, 1) := by decide +kernel
theorem dX1_set_2 : decode cX1_set 2 = .ok (.putfield 36, 3) := by decide +kernel
theorem dX1_set_5 : decode cX1_set 5 = .ok (.iload_n 1, 1) := by decide +kernel
theorem dX1_set_6 : decode cX1_set 6 = .ok (.ifCond .lt 35, 3) := by decide +kernel
theorem dX1_set_9 : decode cX1_set 9 = .ok (.iload_n 1, 1) := by decide +kernel
theorem dX1_set_10 : decode cX1_set 10 = .ok (.aload_n 0, 1) := by decide +kernel
theorem dX1_set_11 : decode cX1_set 11 = .ok (.getfield 7, 3) := by decide +kernel
theorem dX1_set_14 : decode cX1_set 14 = .ok (.if_icmp .ge 27, 3) := by decide +kernel
theorem dX1_set_17 : decode cX1_set 17 = .ok (.iload_n 2, 1) := by decide +kernel
theorem dX1_set_18 : decode cX1_set 18 = .ok (.ifCond .lt 23, 3) := by decide +kernel
theorem dX1_set_21 : decode cX1_set 21 = .ok (.iload_n 2, 1) := by decide +kernel
theorem dX1_set_22 : decode cX1_set 22 = .ok (.aload_n 0, 1) := by decide +kernel
theorem dX1_set_23 : decode cX1_set 23 = .ok (.getfield 13, 3) := by decide +kernel
theorem dX1_set_26 : decode cX1_set 26 = .ok (.if_icmp .ge 15, 3) := by decide +kernel
theorem dX1_set_29 : decode cX1_set 29 = .ok (.iload_n 3, 1) := by decide +kernel
theorem dX1_set_30 : decode cX1_set 30 = .ok (.ldc 42, 2) := by decide +kernel
theorem dX1_set_32 : decode cX1_set 32 = .ok (.if_icmp .lt 9, 3) := by decide +kernel
theorem dX1_set_35 : decode cX1_set 35 = .ok (.iload_n 3, 1) := by decide +kernel
theorem dX1_set_36 : decode cX1_set 36 = .ok (.ldc 43, 2) := by decide +kernel
theorem dX1_set_38 : decode cX1_set 38 = .ok (.if_icmp .le 5, 3) := by decide +kernel
theorem dX1_set_41 : decode cX1_set 41 = .ok (.iconst 0, 1) := by decide +kernel
theorem dX1_set_42 : decode cX1_set 42 = .ok (.ireturn, 1) := by decide +kernel
theorem dX1_set_43 : decode cX1_set 43 = .ok (.aload_n 0, 1) := by decide +kernel
theorem dX1_set_44 : decode cX1_set 44 = .ok (.getfield 19, 3) := by decide +kernel
theorem dX1_set_47 : decode cX1_set 47 = .ok (.bipush 12, 2) := by decide +kernel
theorem dX1_set_49 : decode cX1_set 49 = .ok (.iload_n 2, 1) := by decide +kernel
theorem dX1_set_50 : decode cX1_set 50 = .ok (.imul, 1) := by decide +kernel
theorem dX1_set_51 : decode cX1_set 51 = .ok (.iload_n 1, 1) := by decide +kernel
theorem dX1_set_52 : decode cX1_set 52 = .ok (.iadd, 1) := by decide +kernel
theorem dX1_set_53 : decode cX1_set 53 = .ok (.iload_n 3, 1) := by decide +kernel
theorem dX1_set_54 : decode cX1_set 54 = .ok (.iastore, 1) := by decide +kernel
theorem dX1_set_55 : decode cX1_set 55 = .ok (.iconst 1, 1) := by decide +kernel
theorem dX1_set_56 : decode cX1_set 56 = .ok (.ireturn, 1) := by decide +kernel
theorem dX1_row_0 : decode cX1_row 0 = .ok (.aload_n 0, 1) := by decide +kernel
theorem dX1_row_1 : decode cX1_row 1 = .ok (.iconst 0, 1) := by decide +kernel
theorem dX1_row_2 : decode cX1_row 2 = .ok (.putfield 36, 3) := by decide +kernel
theorem dX1_row_5 : decode cX1_row 5 = .ok (.iload_n 1, 1) := by decide +kernel
theorem dX1_row_6 : decode cX1_row 6 = .ok (.ifCond .lt 11, 3) := by decide +kernel
theorem dX1_row_9 : decode cX1_row 9 = .ok (.iload_n 1, 1) := by decide +kernel
theorem dX1_row_10 : decode cX1_row 10 = .ok (.aload_n 0, 1) := by decide +kernel
theorem dX1_row_11 : decode cX1_row 11 = .ok (.getfield 13, 3) := by decide +kernel
theorem dX1_row_14 : decode cX1_row 14 = .ok (.if_icmp .lt 5, 3) := by decide +kernel
theorem dX1_row_17 : decode cX1_row 17 = .ok (.iconst 0, 1) := by decide +kernel
theorem dX1_row_18 : decode cX1_row 18 = .ok (.ireturn, 1) := by decide +kernel
theorem dX1_row_19 : decode cX1_row 19 = .ok (.iconst 0, 1) := by decide +kernel
theorem dX1_row_20 : decode cX1_row 20 = .ok (.istore 4, 2) := by decide +kernel
theorem dX1_row_22 : decode cX1_row 22 = .ok (.iload 4, 2) := by decide +kernel
theorem dX1_row_24 : decode cX1_row 24 = .ok (.aload_n 0, 1) := by decide +kernel
theorem dX1_row_25 : decode cX1_row 25 = .ok (.getfield 7, 3) := by decide +kernel
theorem dX1_row_28 : decode cX1_row 28 = .ok (.if_icmp .ge 63, 3) := by decide +kernel
theorem dX1_row_31 : decode cX1_row 31 = .ok (.iload_n 2, 1) := by decide +kernel
theorem dX1_row_32 : decode cX1_row 32 = .ok (.i2l, 1) := by decide +kernel
theorem dX1_row_33 : decode cX1_row 33 = .ok (.iload_n 3, 1) := by decide +kernel
theorem dX1_row_34 : decode cX1_row 34 = .ok (.i2l, 1) := by decide +kernel
theorem dX1_row_35 : decode cX1_row 35 = .ok (.iload 4, 2) := by decide +kernel
theorem dX1_row_37 : decode cX1_row 37 = .ok (.i2l, 1) := by decide +kernel
theorem dX1_row_38 : decode cX1_row 38 = .ok (.lmul, 1) := by decide +kernel
theorem dX1_row_39 : decode cX1_row 39 = .ok (.ladd, 1) := by decide +kernel
theorem dX1_row_40 : decode cX1_row 40 = .ok (.lstore 5, 2) := by decide +kernel
theorem dX1_row_42 : decode cX1_row 42 = .ok (.aload_n 0, 1) := by decide +kernel
theorem dX1_row_43 : decode cX1_row 43 = .ok (.getfield 19, 3) := by decide +kernel
theorem dX1_row_46 : decode cX1_row 46 = .ok (.bipush 12, 2) := by decide +kernel
theorem dX1_row_48 : decode cX1_row 48 = .ok (.iload_n 1, 1) := by decide +kernel
theorem dX1_row_49 : decode cX1_row 49 = .ok (.imul, 1) := by decide +kernel
theorem dX1_row_50 : decode cX1_row 50 = .ok (.iload 4, 2) := by decide +kernel
theorem dX1_row_52 : decode cX1_row 52 = .ok (.iadd, 1) := by decide +kernel
theorem dX1_row_53 : decode cX1_row 53 = .ok (.lload 5, 2) := by decide +kernel
theorem dX1_row_55 : decode cX1_row 55 = .ok (.ldc2_w 44, 3) := by decide +kernel
theorem dX1_row_58 : decode cX1_row 58 = .ok (.lcmp, 1) := by decide +kernel
theorem dX1_row_59 : decode cX1_row 59 = .ok (.ifCond .ge 8, 3) := by decide +kernel
theorem dX1_row_62 : decode cX1_row 62 = .ok (.ldc 42, 2) := by decide +kernel
theorem dX1_row_64 : decode cX1_row 64 = .ok (.goto 20, 3) := by decide +kernel
theorem dX1_row_67 : decode cX1_row 67 = .ok (.lload 5, 2) := by decide +kernel
theorem dX1_row_69 : decode cX1_row 69 = .ok (.ldc2_w 46, 3) := by decide +kernel
theorem dX1_row_72 : decode cX1_row 72 = .ok (.lcmp, 1) := by decide +kernel
theorem dX1_row_73 : decode cX1_row 73 = .ok (.ifCond .le 8, 3) := by decide +kernel
theorem dX1_row_76 : decode cX1_row 76 = .ok (.ldc 43, 2) := by decide +kernel
theorem dX1_row_78 : decode cX1_row 78 = .ok (.goto 6, 3) := by decide +kernel
theorem dX1_row_81 : decode cX1_row 81 = .ok (.lload 5, 2) := by decide +kernel
theorem dX1_row_83 : decode cX1_row 83 = .ok (.l2i, 1) := by decide +kernel
theorem dX1_row_84 : decode cX1_row 84 = .ok (.iastore, 1) := by decide +kernel
theorem dX1_row_85 : decode cX1_row 85 = .ok (.iinc 4 1, 3) := by decide +kernel
theorem dX1_row_88 : decode cX1_row 88 = .ok (.goto (-66), 3) := by decide +kernel
theorem dX1_row_91 : decode cX1_row 91 = .ok (.iconst 1, 1) := by decide +kernel
theorem dX1_row_92 : decode cX1_row 92 = .ok (.ireturn, 1) := by decide +kernel
theorem dX1_height_0 : decode cX1_height 0 = .ok (.aload_n 0, 1) := by decide +kernel
theorem dX1_height_1 : decode cX1_height 1 = .ok (.iconst 0, 1) := by decide +kernel
theorem dX1_height_2 : decode cX1_height 2 = .ok (.putfield 36, 3) := by decide +kernel
theorem dX1_height_5 : decode cX1_height 5 = .ok (.iload_n 1, 1) := by decide +kernel
theorem dX1_height_6 : decode cX1_height 6 = .ok (.ldc 48, 2) := by decide +kernel
theorem dX1_height_8 : decode cX1_height 8 = .ok (.if_icmp .lt 15, 3) := by decide +kernel
theorem dX1_height_11 : decode cX1_height 11 = .ok (.iload_n 1, 1) := by decide +kernel
theorem dX1_height_12 : decode cX1_height 12 = .ok (.ldc 49, 2) := by decide +kernel
theorem dX1_height_14 : decode cX1_height 14 = .ok (.if_icmp .gt 9, 3) := by decide +kernel
theorem dX1_height_17 : decode cX1_height 17 = .ok (.iload_n 1, 1) := by decide +kernel
theorem dX1_height_18 : decode cX1_height 18 = .ok (.iconst 2, 1) := by decide +kernel
theorem dX1_height_19 : decode cX1_height 19 = .ok (.irem, 1) := by decide +kernel
theorem dX1_height_20 : decode cX1_height 20 = .ok (.ifCond .ne 5, 3) := by decide +kernel
theorem dX1_height_23 : decode cX1_height 23 = .ok (.iconst 0, 1) := by decide +kernel
theorem dX1_height_24 : decode cX1_height 24 = .ok (.ireturn, 1) := by decide +kernel
theorem dX1_height_25 : decode cX1_height 25 = .ok (.aload_n 0, 1) := by decide +kernel
theorem dX1_height_26 : decode cX1_height 26 = .ok (.iload_n 1, 1) := by decide +kernel
theorem dX1_height_27 : decode cX1_height 27 = .ok (.putfield 16, 3) := by decide +kernel
theorem dX1_height_30 : decode cX1_height 30 = .ok (.iconst 1, 1) := by decide +kernel
theorem dX1_height_31 : decode cX1_height 31 = .ok (.ireturn, 1) := by decide +kernel
theorem dX1_all_0 : decode cX1_all 0 = .ok (.aload_n 0, 1) := by decide +kernel
theorem dX1_all_1 : decode cX1_all 1 = .ok (.getfield 13, 3) := by decide +kernel
theorem dX1_all_4 : decode cX1_all 4 = .ok (.aload_n 0, 1) := by decide +kernel
theorem dX1_all_5 : decode cX1_all 5 = .ok (.getfield 7, 3) := by decide +kernel
theorem dX1_all_8 : decode cX1_all 8 = .ok (.iconst 1, 1) := by decide +kernel
theorem dX1_all_9 : decode cX1_all 9 = .ok (.isub, 1) := by decide +kernel
theorem dX1_all_10 : decode cX1_all 10 = .ok (.imul, 1) := by decide +kernel
theorem dX1_all_11 : decode cX1_all 11 = .ok (.aload_n 0, 1) := by decide +kernel
theorem dX1_all_12 : decode cX1_all 12 = .ok (.getfield 13, 3) := by decide +kernel
theorem dX1_all_15 : decode cX1_all 15 = .ok (.iconst 1, 1) := by decide +kernel
theorem dX1_all_16 : decode cX1_all 16 = .ok (.isub, 1) := by decide +kernel
theorem dX1_all_17 : decode cX1_all 17 = .ok (.aload_n 0, 1) := by decide +kernel
theorem dX1_all_18 : decode cX1_all 18 = .ok (.getfield 7, 3) := by decide +kernel
theorem dX1_all_21 : decode cX1_all 21 = .ok (.imul, 1) := by decide +kernel
theorem dX1_all_22 : decode cX1_all 22 = .ok (.iadd, 1) := by decide +kernel
theorem dX1_all_23 : decode cX1_all 23 = .ok (.ireturn, 1) := by decide +kernel
theorem dX1_isAcross_0 : decode cX1_isAcross 0 = .ok (.iload_n 1, 1) := by decide +kernel
theorem dX1_isAcross_1 : decode cX1_isAcross 1 = .ok (.aload_n 0, 1) := by decide +kernel
theorem dX1_isAcross_2 : decode cX1_isAcross 2 = .ok (.getfield 13, 3) := by decide +kernel
theorem dX1_isAcross_5 : decode cX1_isAcross 5 = .ok (.aload_n 0, 1) := by decide +kernel
theorem dX1_isAcross_6 : decode cX1_isAcross 6 = .ok (.getfield 7, 3) := by decide +kernel
theorem dX1_isAcross_9 : decode cX1_isAcross 9 = .ok (.iconst 1, 1) := by decide +kernel
theorem dX1_isAcross_10 : decode cX1_isAcross 10 = .ok (.isub, 1) := by decide +kernel
theorem dX1_isAcross_11 : decode cX1_isAcross 11 = .ok (.imul, 1) := by decide +kernel
theorem dX1_isAcross_12 : decode cX1_isAcross 12 = .ok (.if_icmp .ge 7, 3) := by decide +kernel
theorem dX1_isAcross_15 : decode cX1_isAcross 15 = .ok (.iconst 1, 1) := by decide +kernel
theorem dX1_isAcross_16 : decode cX1_isAcross 16 = .ok (.goto 4, 3) := by decide +kernel
theorem dX1_isAcross_19 : decode cX1_isAcross 19 = .ok (.iconst 0, 1) := by decide +kernel
theorem dX1_isAcross_20 : decode cX1_isAcross 20 = .ok (.ireturn, 1) := by decide +kernel
set_option maxRecDepth 20000 in
theorem ggX1_xOf_X1_isAcross : GoodIn wsX1_xOf wsX1_isAcross := goodIn_r _ [7, 2, 1, 8, 9, 10, 11, 12, 13, 14, 15, 16, 17] (by decide +kernel) (by decide +kernel)
set_option maxRecDepth 20000 in
theorem gX1_xOf_X1_isAcross : GoodIn wsX1_xOf (wsV RX1 50 RX1 yX1_isAcross wsX1_isAcross) := goodIn_app (goodIn_of _ (by decide +kernel)) ggX1_xOf_X1_isAcross
theorem dX1_xOf_0 : decode cX1_xOf 0 = .ok (.aload_n 0, 1) := by decide +kernel
theorem dX1_xOf_1 : decode cX1_xOf 1 = .ok (.iload_n 1, 1) := by decide +kernel
theorem dX1_xOf_2 : decode cX1_xOf 2 = .ok (.invokevirtual 50, 3) := by decide +kernel
theorem dX1_xOf_5 : decode cX1_xOf 5 = .ok (.ifCond .eq 14, 3) := by decide +kernel
theorem dX1_xOf_8 : decode cX1_xOf 8 = .ok (.iload_n 1, 1) := by decide +kernel
theorem dX1_xOf_9 : decode cX1_xOf 9 = .ok (.aload_n 0, 1) := by decide +kernel
theorem dX1_xOf_10 : decode cX1_xOf 10 = .ok (.getfield 7, 3) := by decide +kernel
theorem dX1_xOf_13 : decode cX1_xOf 13 = .ok (.iconst 1, 1) := by decide +kernel
theorem dX1_xOf_14 : decode cX1_xOf 14 = .ok (.isub, 1) := by decide +kernel
theorem dX1_xOf_15 : decode cX1_xOf 15 = .ok (.irem, 1) := by decide +kernel
theorem dX1_xOf_16 : decode cX1_xOf 16 = .ok (.goto 21, 3) := by decide +kernel
theorem dX1_xOf_19 : decode cX1_xOf 19 = .ok (.iload_n 1, 1) := by decide +kernel
theorem dX1_xOf_20 : decode cX1_xOf 20 = .ok (.aload_n 0, 1) := by decide +kernel
theorem dX1_xOf_21 : decode cX1_xOf 21 = .ok (.getfield 13, 3) := by decide +kernel
theorem dX1_xOf_24 : decode cX1_xOf 24 = .ok (.aload_n 0, 1) := by decide +kernel
theorem dX1_xOf_25 : decode cX1_xOf 25 = .ok (.getfield 7, 3) := by decide +kernel
theorem dX1_xOf_28 : decode cX1_xOf 28 = .ok (.iconst 1, 1) := by decide +kernel
theorem dX1_xOf_29 : decode cX1_xOf 29 = .ok (.isub, 1) := by decide +kernel
theorem dX1_xOf_30 : decode cX1_xOf 30 = .ok (.imul, 1) := by decide +kernel
theorem dX1_xOf_31 : decode cX1_xOf 31 = .ok (.isub, 1) := by decide +kernel
theorem dX1_xOf_32 : decode cX1_xOf 32 = .ok (.aload_n 0, 1) := by decide +kernel
theorem dX1_xOf_33 : decode cX1_xOf 33 = .ok (.getfield 7, 3) := by decide +kernel
theorem dX1_xOf_36 : decode cX1_xOf 36 = .ok (.irem, 1) := by decide +kernel
theorem dX1_xOf_37 : decode cX1_xOf 37 = .ok (.ireturn, 1) := by decide +kernel
set_option maxRecDepth 20000 in
theorem ggX1_yOf_X1_isAcross : GoodIn wsX1_yOf wsX1_isAcross := goodIn_r _ [7, 2, 1, 8, 9, 10, 11, 12, 13, 14, 15, 16, 17] (by decide +kernel) (by decide +kernel)
set_option maxRecDepth 20000 in
theorem gX1_yOf_X1_isAcross : GoodIn wsX1_yOf (wsV RX1 50 RX1 yX1_isAcross wsX1_isAcross) := goodIn_app (goodIn_of _ (by decide +kernel)) ggX1_yOf_X1_isAcross
theorem dX1_yOf_0 : decode cX1_yOf 0 = .ok (.aload_n 0, 1) := by decide +kernel
theorem dX1_yOf_1 : decode cX1_yOf 1 = .ok (.iload_n 1, 1) := by decide +kernel
theorem dX1_yOf_2 : decode cX1_yOf 2 = .ok (.invokevirtual 50, 3) := by decide +kernel
theorem dX1_yOf_5 : decode cX1_yOf 5 = .ok (.ifCond .eq 14, 3) := by decide +kernel
theorem dX1_yOf_8 : decode cX1_yOf 8 = .ok (.iload_n 1, 1) := by decide +kernel
theorem dX1_yOf_9 : decode cX1_yOf 9 = .ok (.aload_n 0, 1) := by decide +kernel
theorem dX1_yOf_10 : decode cX1_yOf 10 = .ok (.getfield 7, 3) := by decide +kernel
theorem dX1_yOf_13 : decode cX1_yOf 13 = .ok (.iconst 1, 1) := by decide +kernel
theorem dX1_yOf_14 : decode cX1_yOf 14 = .ok (.isub, 1) := by decide +kernel
theorem dX1_yOf_15 : decode cX1_yOf 15 = .ok (.idiv, 1) := by decide +kernel
theorem dX1_yOf_16 : decode cX1_yOf 16 = .ok (.goto 21, 3) := by decide +kernel
theorem dX1_yOf_19 : decode cX1_yOf 19 = .ok (.iload_n 1, 1) := by decide +kernel
theorem dX1_yOf_20 : decode cX1_yOf 20 = .ok (.aload_n 0, 1) := by decide +kernel
theorem dX1_yOf_21 : decode cX1_yOf 21 = .ok (.getfield 13, 3) := by decide +kernel
theorem dX1_yOf_24 : decode cX1_yOf 24 = .ok (.aload_n 0, 1) := by decide +kernel
theorem dX1_yOf_25 : decode cX1_yOf 25 = .ok (.getfield 7, 3) := by decide +kernel
end
section
theorem dX1_yOf_28 : decode cX1_yOf 28 = .ok (.iconst 1, 1) := by decide +kernel
theorem dX1_yOf_29 : decode cX1_yOf 29 = .ok (.isub, 1) := by decide +kernel
theorem dX1_yOf_30 : decode cX1_yOf 30 = .ok (.imul, 1) := by decide +kernel
theorem dX1_yOf_31 : decode cX1_yOf 31 = .ok (.isub, 1) := by decide +kernel
theorem dX1_yOf_32 : decode cX1_yOf 32 = .ok (.aload_n 0, 1) := by decide +kernel
theorem dX1_yOf_33 : decode cX1_yOf 33 = .ok (.getfield 7, 3) := by decide +kernel
theorem dX1_yOf_36 : decode cX1_yOf 36 = .ok (.idiv, 1) := by decide +kernel
theorem dX1_yOf_37 : decode cX1_yOf 37 = .ok (.ireturn, 1) := by decide +kernel
theorem dX1_at_0 : decode cX1_at 0 = .ok (.aload_n 0, 1) := by decide +kernel
theorem dX1_at_1 : decode cX1_at 1 = .ok (.getfield 19, 3) := by decide +kernel
theorem dX1_at_4 : decode cX1_at 4 = .ok (.bipush 12, 2) := by decide +kernel
theorem dX1_at_6 : decode cX1_at 6 = .ok (.iload_n 2, 1) := by decide +kernel
theorem dX1_at_7 : decode cX1_at 7 = .ok (.imul, 1) := by decide +kernel
theorem dX1_at_8 : decode cX1_at 8 = .ok (.iload_n 1, 1) := by decide +kernel
theorem dX1_at_9 : decode cX1_at 9 = .ok (.iadd, 1) := by decide +kernel
theorem dX1_at_10 : decode cX1_at 10 = .ok (.iaload, 1) := by decide +kernel
theorem dX1_at_11 : decode cX1_at 11 = .ok (.ireturn, 1) := by decide +kernel
set_option maxRecDepth 20000 in
theorem ggX1_first_X1_xOf : GoodIn wsX1_first wsX1_xOf := goodIn_r _ [5, 6, 7, 8, 9, 10, 4, 11, 21, 22, 23, 24, 25, 26, 27, 28, 29, 30] (by decide +kernel) (by decide +kernel)
set_option maxRecDepth 20000 in
theorem gX1_first_X1_xOf : GoodIn wsX1_first (wsV RX1 54 RX1 yX1_xOf wsX1_xOf) := goodIn_app (goodIn_of _ (by decide +kernel)) ggX1_first_X1_xOf
set_option maxRecDepth 20000 in
theorem ggX1_first_X1_yOf : GoodIn wsX1_first wsX1_yOf := goodIn_r _ [15, 6, 7, 8, 9, 10, 4, 11, 21, 22, 23, 24, 25, 26, 27, 28, 29, 30] (by decide +kernel) (by decide +kernel)
set_option maxRecDepth 20000 in
theorem gX1_first_X1_yOf : GoodIn wsX1_first (wsV RX1 58 RX1 yX1_yOf wsX1_yOf) := goodIn_app (goodIn_of _ (by decide +kernel)) ggX1_first_X1_yOf
set_option maxRecDepth 20000 in
theorem ggX1_first_X1_at : GoodIn wsX1_first wsX1_at := goodIn_r _ [19, 20, 21, 22, 23, 24, 25, 26, 27, 28, 29, 30] (by decide +kernel) (by decide +kernel)
set_option maxRecDepth 20000 in
theorem gX1_first_X1_at : GoodIn wsX1_first (wsV RX1 61 RX1 yX1_at wsX1_at) := goodIn_app (goodIn_of _ (by decide +kernel)) ggX1_first_X1_at
theorem dX1_first_0 : decode cX1_first 0 = .ok (.aload_n 0, 1) := by decide +kernel
theorem dX1_first_1 : decode cX1_first 1 = .ok (.aload_n 0, 1) := by decide +kernel
theorem dX1_first_2 : decode cX1_first 2 = .ok (.iload_n 1, 1) := by decide +kernel
theorem dX1_first_3 : decode cX1_first 3 = .ok (.invokevirtual 54, 3) := by decide +kernel
theorem dX1_first_6 : decode cX1_first 6 = .ok (.aload_n 0, 1) := by decide +kernel
theorem dX1_first_7 : decode cX1_first 7 = .ok (.iload_n 1, 1) := by decide +kernel
theorem dX1_first_8 : decode cX1_first 8 = .ok (.invokevirtual 58, 3) := by decide +kernel
theorem dX1_first_11 : decode cX1_first 11 = .ok (.invokevirtual 61, 3) := by decide +kernel
theorem dX1_first_14 : decode cX1_first 14 = .ok (.ireturn, 1) := by decide +kernel
set_option maxRecDepth 20000 in
theorem ggX1_second_X1_isAcross : GoodIn wsX1_second wsX1_isAcross := goodIn_r _ [5, 6, 7, 21, 22, 23, 24, 25, 26, 27, 28, 29, 30] (by decide +kernel) (by decide +kernel)
set_option maxRecDepth 20000 in
theorem gX1_second_X1_isAcross : GoodIn wsX1_second (wsV RX1 50 RX1 yX1_isAcross wsX1_isAcross) := goodIn_app (goodIn_of _ (by decide +kernel)) ggX1_second_X1_isAcross
set_option maxRecDepth 20000 in
theorem ggX1_second_X1_xOf : GoodIn wsX1_second wsX1_xOf := goodIn_r _ [11, 7, 6, 1, 2, 3, 4, 5, 21, 22, 23, 24, 25, 26, 27, 28, 29, 30] (by decide +kernel) (by decide +kernel)
set_option maxRecDepth 20000 in
theorem gX1_second_X1_xOf : GoodIn wsX1_second (wsV RX1 54 RX1 yX1_xOf wsX1_xOf) := goodIn_app (goodIn_of _ (by decide +kernel)) ggX1_second_X1_xOf
set_option maxRecDepth 20000 in
theorem ggX1_second_X1_yOf : GoodIn wsX1_second wsX1_yOf := goodIn_r _ [15, 7, 6, 1, 2, 3, 4, 5, 21, 22, 23, 24, 25, 26, 27, 28, 29, 30] (by decide +kernel) (by decide +kernel)
set_option maxRecDepth 20000 in
theorem gX1_second_X1_yOf : GoodIn wsX1_second (wsV RX1 58 RX1 yX1_yOf wsX1_yOf) := goodIn_app (goodIn_of _ (by decide +kernel)) ggX1_second_X1_yOf
set_option maxRecDepth 20000 in
theorem ggX1_second_X1_at : GoodIn wsX1_second wsX1_at := goodIn_r _ [19, 20, 21, 22, 23, 24, 25, 26, 27, 28, 29, 30] (by decide +kernel) (by decide +kernel)
set_option maxRecDepth 20000 in
theorem gX1_second_X1_at : GoodIn wsX1_second (wsV RX1 61 RX1 yX1_at wsX1_at) := goodIn_app (goodIn_of _ (by decide +kernel)) ggX1_second_X1_at
theorem dX1_second_0 : decode cX1_second 0 = .ok (.aload_n 0, 1) := by decide +kernel
theorem dX1_second_1 : decode cX1_second 1 = .ok (.iload_n 1, 1) := by decide +kernel
theorem dX1_second_2 : decode cX1_second 2 = .ok (.invokevirtual 50, 3) := by decide +kernel
theorem dX1_second_5 : decode cX1_second 5 = .ok (.ifCond .eq 22, 3) := by decide +kernel
theorem dX1_second_8 : decode cX1_second 8 = .ok (.aload_n 0, 1) := by decide +kernel
theorem dX1_second_9 : decode cX1_second 9 = .ok (.aload_n 0, 1) := by decide +kernel
theorem dX1_second_10 : decode cX1_second 10 = .ok (.iload_n 1, 1) := by decide +kernel
theorem dX1_second_11 : decode cX1_second 11 = .ok (.invokevirtual 54, 3) := by decide +kernel
theorem dX1_second_14 : decode cX1_second 14 = .ok (.iconst 1, 1) := by decide +kernel
theorem dX1_second_15 : decode cX1_second 15 = .ok (.iadd, 1) := by decide +kernel
theorem dX1_second_16 : decode cX1_second 16 = .ok (.aload_n 0, 1) := by decide +kernel
theorem dX1_second_17 : decode cX1_second 17 = .ok (.iload_n 1, 1) := by decide +kernel
theorem dX1_second_18 : decode cX1_second 18 = .ok (.invokevirtual 58, 3) := by decide +kernel
theorem dX1_second_21 : decode cX1_second 21 = .ok (.invokevirtual 61, 3) := by decide +kernel
theorem dX1_second_24 : decode cX1_second 24 = .ok (.goto 19, 3) := by decide +kernel
theorem dX1_second_27 : decode cX1_second 27 = .ok (.aload_n 0, 1) := by decide +kernel
theorem dX1_second_28 : decode cX1_second 28 = .ok (.aload_n 0, 1) := by decide +kernel
theorem dX1_second_29 : decode cX1_second 29 = .ok (.iload_n 1, 1) := by decide +kernel
theorem dX1_second_30 : decode cX1_second 30 = .ok (.invokevirtual 54, 3) := by decide +kernel
theorem dX1_second_33 : decode cX1_second 33 = .ok (.aload_n 0, 1) := by decide +kernel
theorem dX1_second_34 : decode cX1_second 34 = .ok (.iload_n 1, 1) := by decide +kernel
theorem dX1_second_35 : decode cX1_second 35 = .ok (.invokevirtual 58, 3) := by decide +kernel
theorem dX1_second_38 : decode cX1_second 38 = .ok (.iconst 1, 1) := by decide +kernel
theorem dX1_second_39 : decode cX1_second 39 = .ok (.iadd, 1) := by decide +kernel
theorem dX1_second_40 : decode cX1_second 40 = .ok (.invokevirtual 61, 3) := by decide +kernel
theorem dX1_second_43 : decode cX1_second 43 = .ok (.ireturn, 1) := by decide +kernel
theorem dX1_isAbove_0 : decode cX1_isAbove 0 = .ok (.iconst 2, 1) := by decide +kernel
theorem dX1_isAbove_1 : decode cX1_isAbove 1 = .ok (.iload_n 1, 1) := by decide +kernel
theorem dX1_isAbove_2 : decode cX1_isAbove 2 = .ok (.imul, 1) := by decide +kernel
theorem dX1_isAbove_3 : decode cX1_isAbove 3 = .ok (.aload_n 0, 1) := by decide +kernel
theorem dX1_isAbove_4 : decode cX1_isAbove 4 = .ok (.getfield 16, 3) := by decide +kernel
theorem dX1_isAbove_7 : decode cX1_isAbove 7 = .ok (.if_icmp .le 7, 3) := by decide +kernel
theorem dX1_isAbove_10 : decode cX1_isAbove 10 = .ok (.iconst 1, 1) := by decide +kernel
theorem dX1_isAbove_11 : decode cX1_isAbove 11 = .ok (.goto 4, 3) := by decide +kernel
theorem dX1_isAbove_14 : decode cX1_isAbove 14 = .ok (.iconst 0, 1) := by decide +kernel
theorem dX1_isAbove_15 : decode cX1_isAbove 15 = .ok (.ireturn, 1) := by decide +kernel
set_option maxRecDepth 20000 in
theorem ggX1_isCrossed_X1_first : GoodIn wsX1_isCrossed wsX1_first := goodIn_r _ [5, 6, 7, 8, 4, 9, 10, 11, 12, 13, 14, 15, 16, 17, 18, 19, 20, 21, 22, 23, 24, 34, 35, 36, 37, 38, 39, 40, 41, 42, 43] (by decide +kernel) (by decide +kernel)
set_option maxRecDepth 20000 in
theorem gX1_isCrossed_X1_first : GoodIn wsX1_isCrossed (wsV RX1 65 RX1 yX1_first wsX1_first) := goodIn_app (goodIn_of _ (by decide +kernel)) ggX1_isCrossed_X1_first
set_option maxRecDepth 20000 in
theorem ggX1_isCrossed_X1_isAbove : GoodIn wsX1_isCrossed wsX1_isAbove := goodIn_r _ [28, 29, 34, 35, 36, 37, 38, 39, 40, 41, 42, 43] (by decide +kernel) (by decide +kernel)
set_option maxRecDepth 20000 in
theorem gX1_isCrossed_X1_isAbove : GoodIn wsX1_isCrossed (wsV RX1 68 RX1 yX1_isAbove wsX1_isAbove) := goodIn_app (goodIn_of _ (by decide +kernel)) ggX1_isCrossed_X1_isAbove
set_option maxRecDepth 20000 in
theorem ggX1_isCrossed_X1_second : GoodIn wsX1_isCrossed wsX1_second := goodIn_r _ [33, 12, 13, 14, 4, 15, 11, 10, 6, 7, 8, 9, 16, 17, 18, 19, 20, 21, 22, 23, 24, 34, 35, 36, 37, 38, 39, 40, 41, 42, 43] (by decide +kernel) (by decide +kernel)
set_option maxRecDepth 20000 in
theorem gX1_isCrossed_X1_second : GoodIn wsX1_isCrossed (wsV RX1 71 RX1 yX1_second wsX1_second) := goodIn_app (goodIn_of _ (by decide +kernel)) ggX1_isCrossed_X1_second
theorem dX1_isCrossed_0 : decode cX1_isCrossed 0 = .ok (.aload_n 0, 1) := by decide +kernel
theorem dX1_isCrossed_1 : decode cX1_isCrossed 1 = .ok (.aload_n 0, 1) := by decide +kernel
theorem dX1_isCrossed_2 : decode cX1_isCrossed 2 = .ok (.iload_n 1, 1) := by decide +kernel
theorem dX1_isCrossed_3 : decode cX1_isCrossed 3 = .ok (.invokevirtual 65, 3) := by decide +kernel
theorem dX1_isCrossed_6 : decode cX1_isCrossed 6 = .ok (.invokevirtual 68, 3) := by decide +kernel
theorem dX1_isCrossed_9 : decode cX1_isCrossed 9 = .ok (.aload_n 0, 1) := by decide +kernel
theorem dX1_isCrossed_10 : decode cX1_isCrossed 10 = .ok (.aload_n 0, 1) := by decide +kernel
theorem dX1_isCrossed_11 : decode cX1_isCrossed 11 = .ok (.iload_n 1, 1) := by decide +kernel
theorem dX1_isCrossed_12 : decode cX1_isCrossed 12 = .ok (.invokevirtual 71, 3) := by decide +kernel
theorem dX1_isCrossed_15 : decode cX1_isCrossed 15 = .ok (.invokevirtual 68, 3) := by decide +kernel
theorem dX1_isCrossed_18 : decode cX1_isCrossed 18 = .ok (.if_icmp .eq 7, 3) := by decide +kernel
theorem dX1_isCrossed_21 : decode cX1_isCrossed 21 = .ok (.iconst 1, 1) := by decide +kernel
theorem dX1_isCrossed_22 : decode cX1_isCrossed 22 = .ok (.goto 4, 3) := by decide +kernel
theorem dX1_isCrossed_25 : decode cX1_isCrossed 25 = .ok (.iconst 0, 1) := by decide +kernel
theorem dX1_isCrossed_26 : decode cX1_isCrossed 26 = .ok (.ireturn, 1) := by decide +kernel
set_option maxRecDepth 20000 in
theorem ggX1_corner_X1_at : GoodIn wsX1_corner wsX1_at := goodIn_r _ [5, 6, 7, 8, 9, 10, 11, 12, 13, 14, 15, 16] (by decide +kernel) (by decide +kernel)
set_option maxRecDepth 20000 in
theorem gX1_corner_X1_at : GoodIn wsX1_corner (wsV RX1 61 RX1 yX1_at wsX1_at) := goodIn_app (goodIn_of _ (by decide +kernel)) ggX1_corner_X1_at
theorem dX1_corner_0 : decode cX1_corner 0 = .ok (.iload_n 3, 1) := by decide +kernel
theorem dX1_corner_1 : decode cX1_corner 1 = .ok (.iconst 3, 1) := by decide +kernel
theorem dX1_corner_2 : decode cX1_corner 2 = .ok (.iand, 1) := by decide +kernel
theorem dX1_corner_3 : decode cX1_corner 3 = .ok (.tableswitch 52 0 2 #[25, 32, 41], 25) := by decide +kernel
theorem dX1_corner_28 : decode cX1_corner 28 = .ok (.aload_n 0, 1) := by decide +kernel
theorem dX1_corner_29 : decode cX1_corner 29 = .ok (.iload_n 1, 1) := by decide +kernel
theorem dX1_corner_30 : decode cX1_corner 30 = .ok (.iload_n 2, 1) := by decide +kernel
theorem dX1_corner_31 : decode cX1_corner 31 = .ok (.invokevirtual 61, 3) := by decide +kernel
theorem dX1_corner_34 : decode cX1_corner 34 = .ok (.ireturn, 1) := by decide +kernel
theorem dX1_corner_35 : decode cX1_corner 35 = .ok (.aload_n 0, 1) := by decide +kernel
theorem dX1_corner_36 : decode cX1_corner 36 = .ok (.iload_n 1, 1) := by decide +kernel
theorem dX1_corner_37 : decode cX1_corner 37 = .ok (.iconst 1, 1) := by decide +kernel
theorem dX1_corner_38 : decode cX1_corner 38 = .ok (.iadd, 1) := by decide +kernel
theorem dX1_corner_39 : decode cX1_corner 39 = .ok (.iload_n 2, 1) := by decide +kernel
theorem dX1_corner_40 : decode cX1_corner 40 = .ok (.invokevirtual 61, 3) := by decide +kernel
theorem dX1_corner_43 : decode cX1_corner 43 = .ok (.ireturn, 1) := by decide +kernel
theorem dX1_corner_44 : decode cX1_corner 44 = .ok (.aload_n 0, 1) := by decide +kernel
theorem dX1_corner_45 : decode cX1_corner 45 = .ok (.iload_n 1, 1) := by decide +kernel
theorem dX1_corner_46 : decode cX1_corner 46 = .ok (.iconst 1, 1) := by decide +kernel
theorem dX1_corner_47 : decode cX1_corner 47 = .ok (.iadd, 1) := by decide +kernel
theorem dX1_corner_48 : decode cX1_corner 48 = .ok (.iload_n 2, 1) := by decide +kernel
theorem dX1_corner_49 : decode cX1_corner 49 = .ok (.iconst 1, 1) := by decide +kernel
theorem dX1_corner_50 : decode cX1_corner 50 = .ok (.iadd, 1) := by decide +kernel
theorem dX1_corner_51 : decode cX1_corner 51 = .ok (.invokevirtual 61, 3) := by decide +kernel
theorem dX1_corner_54 : decode cX1_corner 54 = .ok (.ireturn, 1) := by decide +kernel
theorem dX1_corner_55 : decode cX1_corner 55 = .ok (.aload_n 0, 1) := by decide +kernel
theorem dX1_corner_56 : decode cX1_corner 56 = .ok (.iload_n 1, 1) := by decide +kernel
theorem dX1_corner_57 : decode cX1_corner 57 = .ok (.iload_n 2, 1) := by decide +kernel
theorem dX1_corner_58 : decode cX1_corner 58 = .ok (.iconst 1, 1) := by decide +kernel
theorem dX1_corner_59 : decode cX1_corner 59 = .ok (.iadd, 1) := by decide +kernel
theorem dX1_corner_60 : decode cX1_corner 60 = .ok (.invokevirtual 61, 3) := by decide +kernel
theorem dX1_corner_63 : decode cX1_corner 63 = .ok (.ireturn, 1) := by decide +kernel
theorem dX1_edgeOf_0 : decode cX1_edgeOf 0 = .ok (.aload_n 0, 1) := by decide +kernel
theorem dX1_edgeOf_1 : decode cX1_edgeOf 1 = .ok (.getfield 13, 3) := by decide +kernel
theorem dX1_edgeOf_4 : decode cX1_edgeOf 4 = .ok (.aload_n 0, 1) := by decide +kernel
theorem dX1_edgeOf_5 : decode cX1_edgeOf 5 = .ok (.getfield 7, 3) := by decide +kernel
theorem dX1_edgeOf_8 : decode cX1_edgeOf 8 = .ok (.iconst 1, 1) := by decide +kernel
theorem dX1_edgeOf_9 : decode cX1_edgeOf 9 = .ok (.isub, 1) := by decide +kernel
theorem dX1_edgeOf_10 : decode cX1_edgeOf 10 = .ok (.imul, 1) := by decide +kernel
theorem dX1_edgeOf_11 : decode cX1_edgeOf 11 = .ok (.istore 4, 2) := by decide +kernel
theorem dX1_edgeOf_13 : decode cX1_edgeOf 13 = .ok (.iload_n 3, 1) := by decide +kernel
theorem dX1_edgeOf_14 : decode cX1_edgeOf 14 = .ok (.iconst 3, 1) := by decide +kernel
theorem dX1_edgeOf_15 : decode cX1_edgeOf 15 = .ok (.iand, 1) := by decide +kernel
theorem dX1_edgeOf_16 : decode cX1_edgeOf 16 = .ok (.tableswitch 66 0 2 #[28, 39, 53], 28) := by decide +kernel
theorem dX1_edgeOf_44 : decode cX1_edgeOf 44 = .ok (.iload_n 2, 1) := by decide +kernel
theorem dX1_edgeOf_45 : decode cX1_edgeOf 45 = .ok (.aload_n 0, 1) := by decide +kernel
theorem dX1_edgeOf_46 : decode cX1_edgeOf 46 = .ok (.getfield 7, 3) := by decide +kernel
theorem dX1_edgeOf_49 : decode cX1_edgeOf 49 = .ok (.iconst 1, 1) := by decide +kernel
theorem dX1_edgeOf_50 : decode cX1_edgeOf 50 = .ok (.isub, 1) := by decide +kernel
theorem dX1_edgeOf_51 : decode cX1_edgeOf 51 = .ok (.imul, 1) := by decide +kernel
theorem dX1_edgeOf_52 : decode cX1_edgeOf 52 = .ok (.iload_n 1, 1) := by decide +kernel
theorem dX1_edgeOf_53 : decode cX1_edgeOf 53 = .ok (.iadd, 1) := by decide +kernel
theorem dX1_edgeOf_54 : decode cX1_edgeOf 54 = .ok (.ireturn, 1) := by decide +kernel
theorem dX1_edgeOf_55 : decode cX1_edgeOf 55 = .ok (.iload 4, 2) := by decide +kernel
theorem dX1_edgeOf_57 : decode cX1_edgeOf 57 = .ok (.iload_n 2, 1) := by decide +kernel
theorem dX1_edgeOf_58 : decode cX1_edgeOf 58 = .ok (.aload_n 0, 1) := by decide +kernel
theorem dX1_edgeOf_59 : decode cX1_edgeOf 59 = .ok (.getfield 7, 3) := by decide +kernel
theorem dX1_edgeOf_62 : decode cX1_edgeOf 62 = .ok (.imul, 1) := by decide +kernel
theorem dX1_edgeOf_63 : decode cX1_edgeOf 63 = .ok (.iadd, 1) := by decide +kernel
theorem dX1_edgeOf_64 : decode cX1_edgeOf 64 = .ok (.iload_n 1, 1) := by decide +kernel
theorem dX1_edgeOf_65 : decode cX1_edgeOf 65 = .ok (.iadd, 1) := by decide +kernel
theorem dX1_edgeOf_66 : decode cX1_edgeOf 66 = .ok (.iconst 1, 1) := by decide +kernel
theorem dX1_edgeOf_67 : decode cX1_edgeOf 67 = .ok (.iadd, 1) := by decide +kernel
theorem dX1_edgeOf_68 : decode cX1_edgeOf 68 = .ok (.ireturn, 1) := by decide +kernel
theorem dX1_edgeOf_69 : decode cX1_edgeOf 69 = .ok (.iload_n 2, 1) := by decide +kernel
theorem dX1_edgeOf_70 : decode cX1_edgeOf 70 = .ok (.iconst 1, 1) := by decide +kernel
theorem dX1_edgeOf_71 : decode cX1_edgeOf 71 = .ok (.iadd, 1) := by decide +kernel
theorem dX1_edgeOf_72 : decode cX1_edgeOf 72 = .ok (.aload_n 0, 1) := by decide +kernel
theorem dX1_edgeOf_73 : decode cX1_edgeOf 73 = .ok (.getfield 7, 3) := by decide +kernel
theorem dX1_edgeOf_76 : decode cX1_edgeOf 76 = .ok (.iconst 1, 1) := by decide +kernel
theorem dX1_edgeOf_77 : decode cX1_edgeOf 77 = .ok (.isub, 1) := by decide +kernel
theorem dX1_edgeOf_78 : decode cX1_edgeOf 78 = .ok (.imul, 1) := by decide +kernel
theorem dX1_edgeOf_79 : decode cX1_edgeOf 79 = .ok (.iload_n 1, 1) := by decide +kernel
theorem dX1_edgeOf_80 : decode cX1_edgeOf 80 = .ok (.iadd, 1) := by decide +kernel
theorem dX1_edgeOf_81 : decode cX1_edgeOf 81 = .ok (.ireturn, 1) := by decide +kernel
theorem dX1_edgeOf_82 : decode cX1_edgeOf 82 = .ok (.iload 4, 2) := by decide +kernel
theorem dX1_edgeOf_84 : decode cX1_edgeOf 84 = .ok (.iload_n 2, 1) := by decide +kernel
theorem dX1_edgeOf_85 : decode cX1_edgeOf 85 = .ok (.aload_n 0, 1) := by decide +kernel
theorem dX1_edgeOf_86 : decode cX1_edgeOf 86 = .ok (.getfield 7, 3) := by decide +kernel
theorem dX1_edgeOf_89 : decode cX1_edgeOf 89 = .ok (.imul, 1) := by decide +kernel
theorem dX1_edgeOf_90 : decode cX1_edgeOf 90 = .ok (.iadd, 1) := by decide +kernel
theorem dX1_edgeOf_91 : decode cX1_edgeOf 91 = .ok (.iload_n 1, 1) := by decide +kernel
theorem dX1_edgeOf_92 : decode cX1_edgeOf 92 = .ok (.iadd, 1) := by decide +kernel
theorem dX1_edgeOf_93 : decode cX1_edgeOf 93 = .ok (.ireturn, 1) := by decide +kernel
set_option maxRecDepth 20000 in
theorem ggX1_isDown_X1_corner : GoodIn wsX1_isDown wsX1_corner := goodIn_r _ [5, 6, 7, 8, 4, 9, 10, 16, 17, 18, 19, 20, 21, 22, 23, 24, 25] (by decide +kernel) (by decide +kernel)
set_option maxRecDepth 20000 in
theorem gX1_isDown_X1_corner : GoodIn wsX1_isDown (wsV RX1 74 RX1 yX1_corner wsX1_corner) := goodIn_app (goodIn_of _ (by decide +kernel)) ggX1_isDown_X1_corner
set_option maxRecDepth 20000 in
theorem ggX1_isDown_X1_isAbove : GoodIn wsX1_isDown wsX1_isAbove := goodIn_r _ [14, 15, 16, 17, 18, 19, 20, 21, 22, 23, 24, 25] (by decide +kernel) (by decide +kernel)
set_option maxRecDepth 20000 in
theorem gX1_isDown_X1_isAbove : GoodIn wsX1_isDown (wsV RX1 68 RX1 yX1_isAbove wsX1_isAbove) := goodIn_app (goodIn_of _ (by decide +kernel)) ggX1_isDown_X1_isAbove
theorem dX1_isDown_0 : decode cX1_isDown 0 = .ok (.aload_n 0, 1) := by decide +kernel
theorem dX1_isDown_1 : decode cX1_isDown 1 = .ok (.aload_n 0, 1) := by decide +kernel
theorem dX1_isDown_2 : decode cX1_isDown 2 = .ok (.iload_n 1, 1) := by decide +kernel
theorem dX1_isDown_3 : decode cX1_isDown 3 = .ok (.iload_n 2, 1) := by decide +kernel
theorem dX1_isDown_4 : decode cX1_isDown 4 = .ok (.iload_n 3, 1) := by decide +kernel
theorem dX1_isDown_5 : decode cX1_isDown 5 = .ok (.invokevirtual 74, 3) := by decide +kernel
theorem dX1_isDown_8 : decode cX1_isDown 8 = .ok (.invokevirtual 68, 3) := by decide +kernel
theorem dX1_isDown_11 : decode cX1_isDown 11 = .ok (.ifCond .eq 23, 3) := by decide +kernel
theorem dX1_isDown_14 : decode cX1_isDown 14 = .ok (.aload_n 0, 1) := by decide +kernel
theorem dX1_isDown_15 : decode cX1_isDown 15 = .ok (.aload_n 0, 1) := by decide +kernel
theorem dX1_isDown_16 : decode cX1_isDown 16 = .ok (.iload_n 1, 1) := by decide +kernel
theorem dX1_isDown_17 : decode cX1_isDown 17 = .ok (.iload_n 2, 1) := by decide +kernel
theorem dX1_isDown_18 : decode cX1_isDown 18 = .ok (.iload_n 3, 1) := by decide +kernel
theorem dX1_isDown_19 : decode cX1_isDown 19 = .ok (.iconst 1, 1) := by decide +kernel
theorem dX1_isDown_20 : decode cX1_isDown 20 = .ok (.iadd, 1) := by decide +kernel
theorem dX1_isDown_21 : decode cX1_isDown 21 = .ok (.invokevirtual 74, 3) := by decide +kernel
theorem dX1_isDown_24 : decode cX1_isDown 24 = .ok (.invokevirtual 68, 3) := by decide +kernel
theorem dX1_isDown_27 : decode cX1_isDown 27 = .ok (.ifCond .ne 7, 3) := by decide +kernel
theorem dX1_isDown_30 : decode cX1_isDown 30 = .ok (.iconst 1, 1) := by decide +kernel
theorem dX1_isDown_31 : decode cX1_isDown 31 = .ok (.goto 4, 3) := by decide +kernel
theorem dX1_isDown_34 : decode cX1_isDown 34 = .ok (.iconst 0, 1) := by decide +kernel
theorem dX1_isDown_35 : decode cX1_isDown 35 = .ok (.ireturn, 1) := by decide +kernel
set_option maxRecDepth 20000 in
theorem ggX1_isUp_X1_corner : GoodIn wsX1_isUp wsX1_corner := goodIn_r _ [5, 6, 7, 8, 4, 9, 10, 16, 17, 18, 19, 20, 21, 22, 23, 24, 25] (by decide +kernel) (by decide +kernel)
set_option maxRecDepth 20000 in
theorem gX1_isUp_X1_corner : GoodIn wsX1_isUp (wsV RX1 74 RX1 yX1_corner wsX1_corner) := goodIn_app (goodIn_of _ (by decide +kernel)) ggX1_isUp_X1_corner
set_option maxRecDepth 20000 in
theorem ggX1_isUp_X1_isAbove : GoodIn wsX1_isUp wsX1_isAbove := goodIn_r _ [14, 15, 16, 17, 18, 19, 20, 21, 22, 23, 24, 25] (by decide +kernel) (by decide +kernel)
set_option maxRecDepth 20000 in
theorem gX1_isUp_X1_isAbove : GoodIn wsX1_isUp (wsV RX1 68 RX1 yX1_isAbove wsX1_isAbove) := goodIn_app (goodIn_of _ (by decide +kernel)) ggX1_isUp_X1_isAbove
theorem dX1_isUp_0 : decode cX1_isUp 0 = .ok (.aload_n 0, 1) := by decide +kernel
theorem dX1_isUp_1 : decode cX1_isUp 1 = .ok (.aload_n 0, 1) := by decide +kernel
theorem dX1_isUp_2 : decode cX1_isUp 2 = .ok (.iload_n 1, 1) := by decide +kernel
theorem dX1_isUp_3 : decode cX1_isUp 3 = .ok (.iload_n 2, 1) := by decide +kernel
theorem dX1_isUp_4 : decode cX1_isUp 4 = .ok (.iload_n 3, 1) := by decide +kernel
theorem dX1_isUp_5 : decode cX1_isUp 5 = .ok (.invokevirtual 74, 3) := by decide +kernel
theorem dX1_isUp_8 : decode cX1_isUp 8 = .ok (.invokevirtual 68, 3) := by decide +kernel
theorem dX1_isUp_11 : decode cX1_isUp 11 = .ok (.ifCond .ne 23, 3) := by decide +kernel
theorem dX1_isUp_14 : decode cX1_isUp 14 = .ok (.aload_n 0, 1) := by decide +kernel
theorem dX1_isUp_15 : decode cX1_isUp 15 = .ok (.aload_n 0, 1) := by decide +kernel
theorem dX1_isUp_16 : decode cX1_isUp 16 = .ok (.iload_n 1, 1) := by decide +kernel
theorem dX1_isUp_17 : decode cX1_isUp 17 = .ok (.iload_n 2, 1) := by decide +kernel
theorem dX1_isUp_18 : decode cX1_isUp 18 = .ok (.iload_n 3, 1) := by decide +kernel
theorem dX1_isUp_19 : decode cX1_isUp 19 = .ok (.iconst 1, 1) := by decide +kernel
theorem dX1_isUp_20 : decode cX1_isUp 20 = .ok (.iadd, 1) := by decide +kernel
theorem dX1_isUp_21 : decode cX1_isUp 21 = .ok (.invokevirtual 74, 3) := by decide +kernel
theorem dX1_isUp_24 : decode cX1_isUp 24 = .ok (.invokevirtual 68, 3) := by decide +kernel
theorem dX1_isUp_27 : decode cX1_isUp 27 = .ok (.ifCond .eq 7, 3) := by decide +kernel
theorem dX1_isUp_30 : decode cX1_isUp 30 = .ok (.iconst 1, 1) := by decide +kernel
theorem dX1_isUp_31 : decode cX1_isUp 31 = .ok (.goto 4, 3) := by decide +kernel
theorem dX1_isUp_34 : decode cX1_isUp 34 = .ok (.iconst 0, 1) := by decide +kernel
theorem dX1_isUp_35 : decode cX1_isUp 35 = .ok (.ireturn, 1) := by decide +kernel
set_option maxRecDepth 20000 in
theorem ggX1_isMiddleAbove_X1_corner : GoodIn wsX1_isMiddleAbove wsX1_corner := goodIn_r _ [7, 8, 9, 10, 6, 11, 12, 13, 14, 15, 16, 17, 18, 19, 20, 21, 22] (by decide +kernel) (by decide +kernel)
set_option maxRecDepth 20000 in
theorem gX1_isMiddleAbove_X1_corner : GoodIn wsX1_isMiddleAbove (wsV RX1 74 RX1 yX1_corner wsX1_corner) := goodIn_app (goodIn_of _ (by decide +kernel)) ggX1_isMiddleAbove_X1_corner
theorem dX1_isMiddleAbove_0 : decode cX1_isMiddleAbove 0 = .ok (.aload_n 0, 1) := by decide +kernel
theorem dX1_isMiddleAbove_1 : decode cX1_isMiddleAbove 1 = .ok (.iload_n 1, 1) := by decide +kernel
theorem dX1_isMiddleAbove_2 : decode cX1_isMiddleAbove 2 = .ok (.iload_n 2, 1) := by decide +kernel
theorem dX1_isMiddleAbove_3 : decode cX1_isMiddleAbove 3 = .ok (.iconst 0, 1) := by decide +kernel
theorem dX1_isMiddleAbove_4 : decode cX1_isMiddleAbove 4 = .ok (.invokevirtual 74, 3) := by decide +kernel
theorem dX1_isMiddleAbove_7 : decode cX1_isMiddleAbove 7 = .ok (.i2l, 1) := by decide +kernel
theorem dX1_isMiddleAbove_8 : decode cX1_isMiddleAbove 8 = .ok (.lstore_n 3, 1) := by decide +kernel
theorem dX1_isMiddleAbove_9 : decode cX1_isMiddleAbove 9 = .ok (.aload_n 0, 1) := by decide +kernel
theorem dX1_isMiddleAbove_10 : decode cX1_isMiddleAbove 10 = .ok (.iload_n 1, 1) := by decide +kernel
theorem dX1_isMiddleAbove_11 : decode cX1_isMiddleAbove 11 = .ok (.iload_n 2, 1) := by decide +kernel
theorem dX1_isMiddleAbove_12 : decode cX1_isMiddleAbove 12 = .ok (.iconst 1, 1) := by decide +kernel
theorem dX1_isMiddleAbove_13 : decode cX1_isMiddleAbove 13 = .ok (.invokevirtual 74, 3) := by decide +kernel
theorem dX1_isMiddleAbove_16 : decode cX1_isMiddleAbove 16 = .ok (.i2l, 1) := by decide +kernel
theorem dX1_isMiddleAbove_17 : decode cX1_isMiddleAbove 17 = .ok (.lstore 5, 2) := by decide +kernel
theorem dX1_isMiddleAbove_19 : decode cX1_isMiddleAbove 19 = .ok (.aload_n 0, 1) := by decide +kernel
theorem dX1_isMiddleAbove_20 : decode cX1_isMiddleAbove 20 = .ok (.iload_n 1, 1) := by decide +kernel
theorem dX1_isMiddleAbove_21 : decode cX1_isMiddleAbove 21 = .ok (.iload_n 2, 1) := by decide +kernel
theorem dX1_isMiddleAbove_22 : decode cX1_isMiddleAbove 22 = .ok (.iconst 2, 1) := by decide +kernel
theorem dX1_isMiddleAbove_23 : decode cX1_isMiddleAbove 23 = .ok (.invokevirtual 74, 3) := by decide +kernel
theorem dX1_isMiddleAbove_26 : decode cX1_isMiddleAbove 26 = .ok (.i2l, 1) := by decide +kernel
theorem dX1_isMiddleAbove_27 : decode cX1_isMiddleAbove 27 = .ok (.lstore 7, 2) := by decide +kernel
theorem dX1_isMiddleAbove_29 : decode cX1_isMiddleAbove 29 = .ok (.aload_n 0, 1) := by decide +kernel
theorem dX1_isMiddleAbove_30 : decode cX1_isMiddleAbove 30 = .ok (.iload_n 1, 1) := by decide +kernel
theorem dX1_isMiddleAbove_31 : decode cX1_isMiddleAbove 31 = .ok (.iload_n 2, 1) := by decide +kernel
theorem dX1_isMiddleAbove_32 : decode cX1_isMiddleAbove 32 = .ok (.iconst 3, 1) := by decide +kernel
theorem dX1_isMiddleAbove_33 : decode cX1_isMiddleAbove 33 = .ok (.invokevirtual 74, 3) := by decide +kernel
theorem dX1_isMiddleAbove_36 : decode cX1_isMiddleAbove 36 = .ok (.i2l, 1) := by decide +kernel
theorem dX1_isMiddleAbove_37 : decode cX1_isMiddleAbove 37 = .ok (.lstore 9, 2) := by decide +kernel
theorem dX1_isMiddleAbove_39 : decode cX1_isMiddleAbove 39 = .ok (.lload_n 3, 1) := by decide +kernel
theorem dX1_isMiddleAbove_40 : decode cX1_isMiddleAbove 40 = .ok (.lload 7, 2) := by decide +kernel
theorem dX1_isMiddleAbove_42 : decode cX1_isMiddleAbove 42 = .ok (.ladd, 1) := by decide +kernel
theorem dX1_isMiddleAbove_43 : decode cX1_isMiddleAbove 43 = .ok (.lload 5, 2) := by decide +kernel
theorem dX1_isMiddleAbove_45 : decode cX1_isMiddleAbove 45 = .ok (.lsub, 1) := by decide +kernel
theorem dX1_isMiddleAbove_46 : decode cX1_isMiddleAbove 46 = .ok (.lload 9, 2) := by decide +kernel
theorem dX1_isMiddleAbove_48 : decode cX1_isMiddleAbove 48 = .ok (.lsub, 1) := by decide +kernel
theorem dX1_isMiddleAbove_49 : decode cX1_isMiddleAbove 49 = .ok (.lstore 11, 2) := by decide +kernel
theorem dX1_isMiddleAbove_51 : decode cX1_isMiddleAbove 51 = .ok (.ldc2_w 78, 3) := by decide +kernel
theorem dX1_isMiddleAbove_54 : decode cX1_isMiddleAbove 54 = .ok (.lload_n 3, 1) := by decide +kernel
theorem dX1_isMiddleAbove_55 : decode cX1_isMiddleAbove 55 = .ok (.lload 7, 2) := by decide +kernel
theorem dX1_isMiddleAbove_57 : decode cX1_isMiddleAbove 57 = .ok (.lmul, 1) := by decide +kernel
theorem dX1_isMiddleAbove_58 : decode cX1_isMiddleAbove 58 = .ok (.lload 5, 2) := by decide +kernel
theorem dX1_isMiddleAbove_60 : decode cX1_isMiddleAbove 60 = .ok (.lload 9, 2) := by decide +kernel
theorem dX1_isMiddleAbove_62 : decode cX1_isMiddleAbove 62 = .ok (.lmul, 1) := by decide +kernel
theorem dX1_isMiddleAbove_63 : decode cX1_isMiddleAbove 63 = .ok (.lsub, 1) := by decide +kernel
theorem dX1_isMiddleAbove_64 : decode cX1_isMiddleAbove 64 = .ok (.lmul, 1) := by decide +kernel
theorem dX1_isMiddleAbove_65 : decode cX1_isMiddleAbove 65 = .ok (.lstore 13, 2) := by decide +kernel
theorem dX1_isMiddleAbove_67 : decode cX1_isMiddleAbove 67 = .ok (.lload 11, 2) := by decide +kernel
theorem dX1_isMiddleAbove_69 : decode cX1_isMiddleAbove 69 = .ok (.lconst 0, 1) := by decide +kernel
theorem dX1_isMiddleAbove_70 : decode cX1_isMiddleAbove 70 = .ok (.lcmp, 1) := by decide +kernel
theorem dX1_isMiddleAbove_71 : decode cX1_isMiddleAbove 71 = .ok (.ifCond .le 25, 3) := by decide +kernel
theorem dX1_isMiddleAbove_74 : decode cX1_isMiddleAbove 74 = .ok (.lload 13, 2) := by decide +kernel
theorem dX1_isMiddleAbove_76 : decode cX1_isMiddleAbove 76 = .ok (.aload_n 0, 1) := by decide +kernel
theorem dX1_isMiddleAbove_77 : decode cX1_isMiddleAbove 77 = .ok (.getfield 16, 3) := by decide +kernel
theorem dX1_isMiddleAbove_80 : decode cX1_isMiddleAbove 80 = .ok (.i2l, 1) := by decide +kernel
theorem dX1_isMiddleAbove_81 : decode cX1_isMiddleAbove 81 = .ok (.lload 11, 2) := by decide +kernel
theorem dX1_isMiddleAbove_83 : decode cX1_isMiddleAbove 83 = .ok (.lmul, 1) := by decide +kernel
theorem dX1_isMiddleAbove_84 : decode cX1_isMiddleAbove 84 = .ok (.lcmp, 1) := by decide +kernel
theorem dX1_isMiddleAbove_85 : decode cX1_isMiddleAbove 85 = .ok (.ifCond .le 7, 3) := by decide +kernel
theorem dX1_isMiddleAbove_88 : decode cX1_isMiddleAbove 88 = .ok (.iconst 1, 1) := by decide +kernel
theorem dX1_isMiddleAbove_89 : decode cX1_isMiddleAbove 89 = .ok (.goto 26, 3) := by decide +kernel
theorem dX1_isMiddleAbove_92 : decode cX1_isMiddleAbove 92 = .ok (.iconst 0, 1) := by decide +kernel
theorem dX1_isMiddleAbove_93 : decode cX1_isMiddleAbove 93 = .ok (.goto 22, 3) := by decide +kernel
theorem dX1_isMiddleAbove_96 : decode cX1_isMiddleAbove 96 = .ok (.lload 13, 2) := by decide +kernel
theorem dX1_isMiddleAbove_98 : decode cX1_isMiddleAbove 98 = .ok (.aload_n 0, 1) := by decide +kernel
theorem dX1_isMiddleAbove_99 : decode cX1_isMiddleAbove 99 = .ok (.getfield 16, 3) := by decide +kernel
theorem dX1_isMiddleAbove_102 : decode cX1_isMiddleAbove 102 = .ok (.i2l, 1) := by decide +kernel
theorem dX1_isMiddleAbove_103 : decode cX1_isMiddleAbove 103 = .ok (.lload 11, 2) := by decide +kernel
theorem dX1_isMiddleAbove_105 : decode cX1_isMiddleAbove 105 = .ok (.lmul, 1) := by decide +kernel
theorem dX1_isMiddleAbove_106 : decode cX1_isMiddleAbove 106 = .ok (.lcmp, 1) := by decide +kernel
theorem dX1_isMiddleAbove_107 : decode cX1_isMiddleAbove 107 = .ok (.ifCond .ge 7, 3) := by decide +kernel
theorem dX1_isMiddleAbove_110 : decode cX1_isMiddleAbove 110 = .ok (.iconst 1, 1) := by decide +kernel
theorem dX1_isMiddleAbove_111 : decode cX1_isMiddleAbove 111 = .ok (.goto 4, 3) := by decide +kernel
theorem dX1_isMiddleAbove_114 : decode cX1_isMiddleAbove 114 = .ok (.iconst 0, 1) := by decide +kernel
theorem dX1_isMiddleAbove_115 : decode cX1_isMiddleAbove 115 = .ok (.ireturn, 1) := by decide +kernel
set_option maxRecDepth 20000 in
theorem ggX1_leads_X1_isUp : GoodIn wsX1_leads wsX1_isUp := goodIn_r _ [5, 6, 7, 8, 4, 9, 10, 11, 12, 13, 14, 15, 16, 17, 18, 19, 31, 32, 33, 34, 35, 36, 37, 38, 39, 40] (by decide +kernel) (by decide +kernel)
set_option maxRecDepth 20000 in
theorem gX1_leads_X1_isUp : GoodIn wsX1_leads (wsV RX1 80 RX1 yX1_isUp wsX1_isUp) := goodIn_app (goodIn_of _ (by decide +kernel)) ggX1_leads_X1_isUp
set_option maxRecDepth 20000 in
theorem ggX1_leads_X1_isMiddleAbove : GoodIn wsX1_leads wsX1_isMiddleAbove := goodIn_r _ [23, 24, 19, 6, 7, 8, 4, 9, 10, 11, 12, 13, 14, 31, 32, 33, 34, 35, 36, 37, 38, 39, 40] (by decide +kernel) (by decide +kernel)
set_option maxRecDepth 20000 in
theorem gX1_leads_X1_isMiddleAbove : GoodIn wsX1_leads (wsV RX1 84 RX1 yX1_isMiddleAbove wsX1_isMiddleAbove) := goodIn_app (goodIn_of _ (by decide +kernel)) ggX1_leads_X1_isMiddleAbove
set_option maxRecDepth 20000 in
theorem ggX1_leads_X1_edgeOf : GoodIn wsX1_leads wsX1_edgeOf := goodIn_r _ [28, 29, 30, 31, 32, 33, 34, 35, 36, 37, 38, 39, 40] (by decide +kernel) (by decide +kernel)
set_option maxRecDepth 20000 in
theorem gX1_leads_X1_edgeOf : GoodIn wsX1_leads (wsV RX1 88 RX1 yX1_edgeOf wsX1_edgeOf) := goodIn_app (goodIn_of _ (by decide +kernel)) ggX1_leads_X1_edgeOf
theorem dX1_leads_0 : decode cX1_leads 0 = .ok (.aload_n 0, 1) := by decide +kernel
theorem dX1_leads_1 : decode cX1_leads 1 = .ok (.iload_n 1, 1) := by decide +kernel
theorem dX1_leads_2 : decode cX1_leads 2 = .ok (.iload_n 2, 1) := by decide +kernel
theorem dX1_leads_3 : decode cX1_leads 3 = .ok (.iload_n 3, 1) := by decide +kernel
theorem dX1_leads_4 : decode cX1_leads 4 = .ok (.iconst 1, 1) := by decide +kernel
theorem dX1_leads_5 : decode cX1_leads 5 = .ok (.iadd, 1) := by decide +kernel
theorem dX1_leads_6 : decode cX1_leads 6 = .ok (.invokevirtual 80, 3) := by decide +kernel
theorem dX1_leads_9 : decode cX1_leads 9 = .ok (.ifCond .eq 19, 3) := by decide +kernel
theorem dX1_leads_12 : decode cX1_leads 12 = .ok (.aload_n 0, 1) := by decide +kernel
theorem dX1_leads_13 : decode cX1_leads 13 = .ok (.iload_n 1, 1) := by decide +kernel
theorem dX1_leads_14 : decode cX1_leads 14 = .ok (.iload_n 2, 1) := by decide +kernel
theorem dX1_leads_15 : decode cX1_leads 15 = .ok (.iload_n 3, 1) := by decide +kernel
theorem dX1_leads_16 : decode cX1_leads 16 = .ok (.iconst 3, 1) := by decide +kernel
theorem dX1_leads_17 : decode cX1_leads 17 = .ok (.iadd, 1) := by decide +kernel
theorem dX1_leads_18 : decode cX1_leads 18 = .ok (.invokevirtual 80, 3) := by decide +kernel
theorem dX1_leads_21 : decode cX1_leads 21 = .ok (.ifCond .eq 7, 3) := by decide +kernel
theorem dX1_leads_24 : decode cX1_leads 24 = .ok (.iconst 1, 1) := by decide +kernel
theorem dX1_leads_25 : decode cX1_leads 25 = .ok (.goto 4, 3) := by decide +kernel
theorem dX1_leads_28 : decode cX1_leads 28 = .ok (.iconst 0, 1) := by decide +kernel
theorem dX1_leads_29 : decode cX1_leads 29 = .ok (.istore 4, 2) := by decide +kernel
theorem dX1_leads_31 : decode cX1_leads 31 = .ok (.iload 4, 2) := by decide +kernel
theorem dX1_leads_33 : decode cX1_leads 33 = .ok (.ifCond .eq 28, 3) := by decide +kernel
theorem dX1_leads_36 : decode cX1_leads 36 = .ok (.aload_n 0, 1) := by decide +kernel
theorem dX1_leads_37 : decode cX1_leads 37 = .ok (.iload_n 1, 1) := by decide +kernel
theorem dX1_leads_38 : decode cX1_leads 38 = .ok (.iload_n 2, 1) := by decide +kernel
theorem dX1_leads_39 : decode cX1_leads 39 = .ok (.aload_n 0, 1) := by decide +kernel
theorem dX1_leads_40 : decode cX1_leads 40 = .ok (.iload_n 1, 1) := by decide +kernel
theorem dX1_leads_41 : decode cX1_leads 41 = .ok (.iload_n 2, 1) := by decide +kernel
theorem dX1_leads_42 : decode cX1_leads 42 = .ok (.invokevirtual 84, 3) := by decide +kernel
theorem dX1_leads_45 : decode cX1_leads 45 = .ok (.ifCond .eq 9, 3) := by decide +kernel
theorem dX1_leads_48 : decode cX1_leads 48 = .ok (.iload_n 3, 1) := by decide +kernel
theorem dX1_leads_49 : decode cX1_leads 49 = .ok (.iconst 1, 1) := by decide +kernel
theorem dX1_leads_50 : decode cX1_leads 50 = .ok (.iadd, 1) := by decide +kernel
theorem dX1_leads_51 : decode cX1_leads 51 = .ok (.goto 6, 3) := by decide +kernel
theorem dX1_leads_54 : decode cX1_leads 54 = .ok (.iload_n 3, 1) := by decide +kernel
theorem dX1_leads_55 : decode cX1_leads 55 = .ok (.iconst 3, 1) := by decide +kernel
theorem dX1_leads_56 : decode cX1_leads 56 = .ok (.iadd, 1) := by decide +kernel
theorem dX1_leads_57 : decode cX1_leads 57 = .ok (.invokevirtual 88, 3) := by decide +kernel
theorem dX1_leads_60 : decode cX1_leads 60 = .ok (.ireturn, 1) := by decide +kernel
theorem dX1_leads_61 : decode cX1_leads 61 = .ok (.iload_n 3, 1) := by decide +kernel
theorem dX1_leads_62 : decode cX1_leads 62 = .ok (.iconst 1, 1) := by decide +kernel
theorem dX1_leads_63 : decode cX1_leads 63 = .ok (.iadd, 1) := by decide +kernel
theorem dX1_leads_64 : decode cX1_leads 64 = .ok (.istore 5, 2) := by decide +kernel
theorem dX1_leads_66 : decode cX1_leads 66 = .ok (.aload_n 0, 1) := by decide +kernel
theorem dX1_leads_67 : decode cX1_leads 67 = .ok (.iload_n 1, 1) := by decide +kernel
theorem dX1_leads_68 : decode cX1_leads 68 = .ok (.iload_n 2, 1) := by decide +kernel
theorem dX1_leads_69 : decode cX1_leads 69 = .ok (.iload 5, 2) := by decide +kernel
theorem dX1_leads_71 : decode cX1_leads 71 = .ok (.invokevirtual 80, 3) := by decide +kernel
theorem dX1_leads_74 : decode cX1_leads 74 = .ok (.ifCond .ne 9, 3) := by decide +kernel
theorem dX1_leads_77 : decode cX1_leads 77 = .ok (.iinc 5 1, 3) := by decide +kernel
theorem dX1_leads_80 : decode cX1_leads 80 = .ok (.goto (-14), 3) := by decide +kernel
theorem dX1_leads_83 : decode cX1_leads 83 = .ok (.aload_n 0, 1) := by decide +kernel
theorem dX1_leads_84 : decode cX1_leads 84 = .ok (.iload_n 1, 1) := by decide +kernel
theorem dX1_leads_85 : decode cX1_leads 85 = .ok (.iload_n 2, 1) := by decide +kernel
theorem dX1_leads_86 : decode cX1_leads 86 = .ok (.iload 5, 2) := by decide +kernel
theorem dX1_leads_88 : decode cX1_leads 88 = .ok (.invokevirtual 88, 3) := by decide +kernel
theorem dX1_leads_91 : decode cX1_leads 91 = .ok (.ireturn, 1) := by decide +kernel
theorem dX1_isCell_0 : decode cX1_isCell 0 = .ok (.iload_n 1, 1) := by decide +kernel
theorem dX1_isCell_1 : decode cX1_isCell 1 = .ok (.ifCond .lt 31, 3) := by decide +kernel
theorem dX1_isCell_4 : decode cX1_isCell 4 = .ok (.iload_n 1, 1) := by decide +kernel
theorem dX1_isCell_5 : decode cX1_isCell 5 = .ok (.aload_n 0, 1) := by decide +kernel
theorem dX1_isCell_6 : decode cX1_isCell 6 = .ok (.getfield 7, 3) := by decide +kernel
theorem dX1_isCell_9 : decode cX1_isCell 9 = .ok (.iconst 1, 1) := by decide +kernel
theorem dX1_isCell_10 : decode cX1_isCell 10 = .ok (.isub, 1) := by decide +kernel
theorem dX1_isCell_11 : decode cX1_isCell 11 = .ok (.if_icmp .ge 21, 3) := by decide +kernel
theorem dX1_isCell_14 : decode cX1_isCell 14 = .ok (.iload_n 2, 1) := by decide +kernel
theorem dX1_isCell_15 : decode cX1_isCell 15 = .ok (.ifCond .lt 17, 3) := by decide +kernel
theorem dX1_isCell_18 : decode cX1_isCell 18 = .ok (.iload_n 2, 1) := by decide +kernel
theorem dX1_isCell_19 : decode cX1_isCell 19 = .ok (.aload_n 0, 1) := by decide +kernel
theorem dX1_isCell_20 : decode cX1_isCell 20 = .ok (.getfield 13, 3) := by decide +kernel
theorem dX1_isCell_23 : decode cX1_isCell 23 = .ok (.iconst 1, 1) := by decide +kernel
theorem dX1_isCell_24 : decode cX1_isCell 24 = .ok (.isub, 1) := by decide +kernel
theorem dX1_isCell_25 : decode cX1_isCell 25 = .ok (.if_icmp .ge 7, 3) := by decide +kernel
theorem dX1_isCell_28 : decode cX1_isCell 28 = .ok (.iconst 1, 1) := by decide +kernel
theorem dX1_isCell_29 : decode cX1_isCell 29 = .ok (.goto 4, 3) := by decide +kernel
theorem dX1_isCell_32 : decode cX1_isCell 32 = .ok (.iconst 0, 1) := by decide +kernel
theorem dX1_isCell_33 : decode cX1_isCell 33 = .ok (.ireturn, 1) := by decide +kernel
set_option maxRecDepth 20000 in
theorem ggX1_next_X1_xOf : GoodIn wsX1_next wsX1_xOf := goodIn_r _ [5, 6, 7, 8, 9, 10, 4, 11, 55, 56, 57, 58, 59, 60, 61, 62, 63, 64] (by decide +kernel) (by decide +kernel)
set_option maxRecDepth 20000 in
theorem gX1_next_X1_xOf : GoodIn wsX1_next (wsV RX1 54 RX1 yX1_xOf wsX1_xOf) := goodIn_app (goodIn_of _ (by decide +kernel)) ggX1_next_X1_xOf
set_option maxRecDepth 20000 in
theorem ggX1_next_X1_yOf : GoodIn wsX1_next wsX1_yOf := goodIn_r _ [15, 6, 7, 8, 9, 10, 4, 11, 55, 56, 57, 58, 59, 60, 61, 62, 63, 64] (by decide +kernel) (by decide +kernel)
set_option maxRecDepth 20000 in
theorem gX1_next_X1_yOf : GoodIn wsX1_next (wsV RX1 58 RX1 yX1_yOf wsX1_yOf) := goodIn_app (goodIn_of _ (by decide +kernel)) ggX1_next_X1_yOf
set_option maxRecDepth 20000 in
theorem ggX1_next_X1_isAcross : GoodIn wsX1_next wsX1_isAcross := goodIn_r _ [11, 7, 6, 55, 56, 57, 58, 59, 60, 61, 62, 63, 64] (by decide +kernel) (by decide +kernel)
set_option maxRecDepth 20000 in
theorem gX1_next_X1_isAcross : GoodIn wsX1_next (wsV RX1 50 RX1 yX1_isAcross wsX1_isAcross) := goodIn_app (goodIn_of _ (by decide +kernel)) ggX1_next_X1_isAcross
set_option maxRecDepth 20000 in
theorem ggX1_next_X1_isCell : GoodIn wsX1_next wsX1_isCell := goodIn_r _ [19, 6, 7, 55, 56, 57, 58, 59, 60, 61, 62, 63, 64] (by decide +kernel) (by decide +kernel)
set_option maxRecDepth 20000 in
theorem gX1_next_X1_isCell : GoodIn wsX1_next (wsV RX1 91 RX1 yX1_isCell wsX1_isCell) := goodIn_app (goodIn_of _ (by decide +kernel)) ggX1_next_X1_isCell
set_option maxRecDepth 20000 in
theorem ggX1_next_X1_isDown : GoodIn wsX1_next wsX1_isDown := goodIn_r _ [23, 24, 25, 26, 4, 27, 28, 29, 30, 31, 32, 33, 34, 35, 36, 37, 55, 56, 57, 58, 59, 60, 61, 62, 63, 64] (by decide +kernel) (by decide +kernel)
set_option maxRecDepth 20000 in
theorem gX1_next_X1_isDown : GoodIn wsX1_next (wsV RX1 94 RX1 yX1_isDown wsX1_isDown) := goodIn_app (goodIn_of _ (by decide +kernel)) ggX1_next_X1_isDown
set_option maxRecDepth 20000 in
theorem ggX1_next_X1_leads : GoodIn wsX1_next wsX1_leads := goodIn_r _ [41, 42, 43, 44, 4, 45, 24, 25, 26, 27, 28, 29, 30, 31, 32, 33, 34, 35, 36, 37, 46, 47, 48, 49, 50, 51, 52, 53, 54, 7, 6, 55, 56, 57, 58, 59, 60, 61, 62, 63, 64] (by decide +kernel) (by decide +kernel)
set_option maxRecDepth 20000 in
theorem gX1_next_X1_leads : GoodIn wsX1_next (wsV RX1 97 RX1 yX1_leads wsX1_leads) := goodIn_app (goodIn_of _ (by decide +kernel)) ggX1_next_X1_leads
theorem dX1_next_0 : decode cX1_next 0 = .ok (.aload_n 0, 1) := by decide +kernel
theorem dX1_next_1 : decode cX1_next 1 = .ok (.iload_n 1, 1) := by decide +kernel
theorem dX1_next_2 : decode cX1_next 2 = .ok (.invokevirtual 54, 3) := by decide +kernel
theorem dX1_next_5 : decode cX1_next 5 = .ok (.istore_n 2, 1) := by decide +kernel
theorem dX1_next_6 : decode cX1_next 6 = .ok (.aload_n 0, 1) := by decide +kernel
theorem dX1_next_7 : decode cX1_next 7 = .ok (.iload_n 1, 1) := by decide +kernel
theorem dX1_next_8 : decode cX1_next 8 = .ok (.invokevirtual 58, 3) := by decide +kernel
theorem dX1_next_11 : decode cX1_next 11 = .ok (.istore_n 3, 1) := by decide +kernel
theorem dX1_next_12 : decode cX1_next 12 = .ok (.iconst (-1), 1) := by decide +kernel
theorem dX1_next_13 : decode cX1_next 13 = .ok (.istore 4, 2) := by decide +kernel
theorem dX1_next_15 : decode cX1_next 15 = .ok (.iconst 0, 1) := by decide +kernel
theorem dX1_next_16 : decode cX1_next 16 = .ok (.istore 5, 2) := by decide +kernel
theorem dX1_next_18 : decode cX1_next 18 = .ok (.iload 5, 2) := by decide +kernel
theorem dX1_next_20 : decode cX1_next 20 = .ok (.iconst 2, 1) := by decide +kernel
theorem dX1_next_21 : decode cX1_next 21 = .ok (.if_icmp .ge 104, 3) := by decide +kernel
theorem dX1_next_24 : decode cX1_next 24 = .ok (.aload_n 0, 1) := by decide +kernel
theorem dX1_next_25 : decode cX1_next 25 = .ok (.iload_n 1, 1) := by decide +kernel
theorem dX1_next_26 : decode cX1_next 26 = .ok (.invokevirtual 50, 3) := by decide +kernel
theorem dX1_next_29 : decode cX1_next 29 = .ok (.ifCond .eq 7, 3) := by decide +kernel
theorem dX1_next_32 : decode cX1_next 32 = .ok (.iload_n 2, 1) := by decide +kernel
theorem dX1_next_33 : decode cX1_next 33 = .ok (.goto 7, 3) := by decide +kernel
theorem dX1_next_36 : decode cX1_next 36 = .ok (.iload_n 2, 1) := by decide +kernel
theorem dX1_next_37 : decode cX1_next 37 = .ok (.iload 5, 2) := by decide +kernel
theorem dX1_next_39 : decode cX1_next 39 = .ok (.isub, 1) := by decide +kernel
theorem dX1_next_40 : decode cX1_next 40 = .ok (.istore 6, 2) := by decide +kernel
theorem dX1_next_42 : decode cX1_next 42 = .ok (.aload_n 0, 1) := by decide +kernel
theorem dX1_next_43 : decode cX1_next 43 = .ok (.iload_n 1, 1) := by decide +kernel
theorem dX1_next_44 : decode cX1_next 44 = .ok (.invokevirtual 50, 3) := by decide +kernel
theorem dX1_next_47 : decode cX1_next 47 = .ok (.ifCond .eq 10, 3) := by decide +kernel
theorem dX1_next_50 : decode cX1_next 50 = .ok (.iload_n 3, 1) := by decide +kernel
theorem dX1_next_51 : decode cX1_next 51 = .ok (.iload 5, 2) := by decide +kernel
theorem dX1_next_53 : decode cX1_next 53 = .ok (.isub, 1) := by decide +kernel
theorem dX1_next_54 : decode cX1_next 54 = .ok (.goto 4, 3) := by decide +kernel
theorem dX1_next_57 : decode cX1_next 57 = .ok (.iload_n 3, 1) := by decide +kernel
theorem dX1_next_58 : decode cX1_next 58 = .ok (.istore 7, 2) := by decide +kernel
theorem dX1_next_60 : decode cX1_next 60 = .ok (.aload_n 0, 1) := by decide +kernel
theorem dX1_next_61 : decode cX1_next 61 = .ok (.iload_n 1, 1) := by decide +kernel
theorem dX1_next_62 : decode cX1_next 62 = .ok (.invokevirtual 50, 3) := by decide +kernel
theorem dX1_next_65 : decode cX1_next 65 = .ok (.ifCond .eq 10, 3) := by decide +kernel
theorem dX1_next_68 : decode cX1_next 68 = .ok (.iconst 2, 1) := by decide +kernel
theorem dX1_next_69 : decode cX1_next 69 = .ok (.iload 5, 2) := by decide +kernel
theorem dX1_next_71 : decode cX1_next 71 = .ok (.imul, 1) := by decide +kernel
theorem dX1_next_72 : decode cX1_next 72 = .ok (.goto 9, 3) := by decide +kernel
theorem dX1_next_75 : decode cX1_next 75 = .ok (.iconst 3, 1) := by decide +kernel
theorem dX1_next_76 : decode cX1_next 76 = .ok (.iconst 2, 1) := by decide +kernel
theorem dX1_next_77 : decode cX1_next 77 = .ok (.iload 5, 2) := by decide +kernel
theorem dX1_next_79 : decode cX1_next 79 = .ok (.imul, 1) := by decide +kernel
theorem dX1_next_80 : decode cX1_next 80 = .ok (.isub, 1) := by decide +kernel
theorem dX1_next_81 : decode cX1_next 81 = .ok (.istore 8, 2) := by decide +kernel
theorem dX1_next_83 : decode cX1_next 83 = .ok (.aload_n 0, 1) := by decide +kernel
theorem dX1_next_84 : decode cX1_next 84 = .ok (.iload 6, 2) := by decide +kernel
theorem dX1_next_86 : decode cX1_next 86 = .ok (.iload 7, 2) := by decide +kernel
theorem dX1_next_88 : decode cX1_next 88 = .ok (.invokevirtual 91, 3) := by decide +kernel
theorem dX1_next_91 : decode cX1_next 91 = .ok (.ifCond .eq 28, 3) := by decide +kernel
theorem dX1_next_94 : decode cX1_next 94 = .ok (.aload_n 0, 1) := by decide +kernel
theorem dX1_next_95 : decode cX1_next 95 = .ok (.iload 6, 2) := by decide +kernel
theorem dX1_next_97 : decode cX1_next 97 = .ok (.iload 7, 2) := by decide +kernel
theorem dX1_next_99 : decode cX1_next 99 = .ok (.iload 8, 2) := by decide +kernel
theorem dX1_next_101 : decode cX1_next 101 = .ok (.invokevirtual 94, 3) := by decide +kernel
theorem dX1_next_104 : decode cX1_next 104 = .ok (.ifCond .eq 15, 3) := by decide +kernel
theorem dX1_next_107 : decode cX1_next 107 = .ok (.aload_n 0, 1) := by decide +kernel
theorem dX1_next_108 : decode cX1_next 108 = .ok (.iload 6, 2) := by decide +kernel
theorem dX1_next_110 : decode cX1_next 110 = .ok (.iload 7, 2) := by decide +kernel
theorem dX1_next_112 : decode cX1_next 112 = .ok (.iload 8, 2) := by decide +kernel
theorem dX1_next_114 : decode cX1_next 114 = .ok (.invokevirtual 97, 3) := by decide +kernel
theorem dX1_next_117 : decode cX1_next 117 = .ok (.istore 4, 2) := by decide +kernel
theorem dX1_next_119 : decode cX1_next 119 = .ok (.iinc 5 1, 3) := by decide +kernel
theorem dX1_next_122 : decode cX1_next 122 = .ok (.goto (-104), 3) := by decide +kernel
theorem dX1_next_125 : decode cX1_next 125 = .ok (.iload 4, 2) := by decide +kernel
theorem dX1_next_127 : decode cX1_next 127 = .ok (.ireturn, 1) := by decide +kernel
set_option maxRecDepth 20000 in
theorem ggX1_isLedTo_X1_xOf : GoodIn wsX1_isLedTo wsX1_xOf := goodIn_r _ [5, 6, 7, 8, 9, 10, 4, 11, 38, 39, 40, 41, 42, 43, 44, 45, 46, 47] (by decide +kernel) (by decide +kernel)
set_option maxRecDepth 20000 in
theorem gX1_isLedTo_X1_xOf : GoodIn wsX1_isLedTo (wsV RX1 54 RX1 yX1_xOf wsX1_xOf) := goodIn_app (goodIn_of _ (by decide +kernel)) ggX1_isLedTo_X1_xOf
set_option maxRecDepth 20000 in
theorem ggX1_isLedTo_X1_yOf : GoodIn wsX1_isLedTo wsX1_yOf := goodIn_r _ [15, 6, 7, 8, 9, 10, 4, 11, 38, 39, 40, 41, 42, 43, 44, 45, 46, 47] (by decide +kernel) (by decide +kernel)
set_option maxRecDepth 20000 in
theorem gX1_isLedTo_X1_yOf : GoodIn wsX1_isLedTo (wsV RX1 58 RX1 yX1_yOf wsX1_yOf) := goodIn_app (goodIn_of _ (by decide +kernel)) ggX1_isLedTo_X1_yOf
set_option maxRecDepth 20000 in
theorem ggX1_isLedTo_X1_isAcross : GoodIn wsX1_isLedTo wsX1_isAcross := goodIn_r _ [11, 7, 6, 38, 39, 40, 41, 42, 43, 44, 45, 46, 47] (by decide +kernel) (by decide +kernel)
set_option maxRecDepth 20000 in
theorem gX1_isLedTo_X1_isAcross : GoodIn wsX1_isLedTo (wsV RX1 50 RX1 yX1_isAcross wsX1_isAcross) := goodIn_app (goodIn_of _ (by decide +kernel)) ggX1_isLedTo_X1_isAcross
set_option maxRecDepth 20000 in
theorem ggX1_isLedTo_X1_isCell : GoodIn wsX1_isLedTo wsX1_isCell := goodIn_r _ [19, 6, 7, 38, 39, 40, 41, 42, 43, 44, 45, 46, 47] (by decide +kernel) (by decide +kernel)
set_option maxRecDepth 20000 in
theorem gX1_isLedTo_X1_isCell : GoodIn wsX1_isLedTo (wsV RX1 91 RX1 yX1_isCell wsX1_isCell) := goodIn_app (goodIn_of _ (by decide +kernel)) ggX1_isLedTo_X1_isCell
set_option maxRecDepth 20000 in
theorem ggX1_isLedTo_X1_isUp : GoodIn wsX1_isLedTo wsX1_isUp := goodIn_r _ [23, 24, 25, 26, 4, 27, 28, 29, 30, 31, 32, 33, 34, 35, 36, 37, 38, 39, 40, 41, 42, 43, 44, 45, 46, 47] (by decide +kernel) (by decide +kernel)
set_option maxRecDepth 20000 in
theorem gX1_isLedTo_X1_isUp : GoodIn wsX1_isLedTo (wsV RX1 80 RX1 yX1_isUp wsX1_isUp) := goodIn_app (goodIn_of _ (by decide +kernel)) ggX1_isLedTo_X1_isUp
theorem dX1_isLedTo_0 : decode cX1_isLedTo 0 = .ok (.aload_n 0, 1) := by decide +kernel
theorem dX1_isLedTo_1 : decode cX1_isLedTo 1 = .ok (.iload_n 1, 1) := by decide +kernel
theorem dX1_isLedTo_2 : decode cX1_isLedTo 2 = .ok (.invokevirtual 54, 3) := by decide +kernel
theorem dX1_isLedTo_5 : decode cX1_isLedTo 5 = .ok (.istore_n 2, 1) := by decide +kernel
theorem dX1_isLedTo_6 : decode cX1_isLedTo 6 = .ok (.aload_n 0, 1) := by decide +kernel
theorem dX1_isLedTo_7 : decode cX1_isLedTo 7 = .ok (.iload_n 1, 1) := by decide +kernel
theorem dX1_isLedTo_8 : decode cX1_isLedTo 8 = .ok (.invokevirtual 58, 3) := by decide +kernel
theorem dX1_isLedTo_11 : decode cX1_isLedTo 11 = .ok (.istore_n 3, 1) := by decide +kernel
theorem dX1_isLedTo_12 : decode cX1_isLedTo 12 = .ok (.iconst 0, 1) := by decide +kernel
theorem dX1_isLedTo_13 : decode cX1_isLedTo 13 = .ok (.istore 4, 2) := by decide +kernel
theorem dX1_isLedTo_15 : decode cX1_isLedTo 15 = .ok (.iconst 0, 1) := by decide +kernel
theorem dX1_isLedTo_16 : decode cX1_isLedTo 16 = .ok (.istore 5, 2) := by decide +kernel
theorem dX1_isLedTo_18 : decode cX1_isLedTo 18 = .ok (.iload 5, 2) := by decide +kernel
theorem dX1_isLedTo_20 : decode cX1_isLedTo 20 = .ok (.iconst 2, 1) := by decide +kernel
theorem dX1_isLedTo_21 : decode cX1_isLedTo 21 = .ok (.if_icmp .ge 104, 3) := by decide +kernel
theorem dX1_isLedTo_24 : decode cX1_isLedTo 24 = .ok (.aload_n 0, 1) := by decide +kernel
theorem dX1_isLedTo_25 : decode cX1_isLedTo 25 = .ok (.iload_n 1, 1) := by decide +kernel
theorem dX1_isLedTo_26 : decode cX1_isLedTo 26 = .ok (.invokevirtual 50, 3) := by decide +kernel
theorem dX1_isLedTo_29 : decode cX1_isLedTo 29 = .ok (.ifCond .eq 7, 3) := by decide +kernel
theorem dX1_isLedTo_32 : decode cX1_isLedTo 32 = .ok (.iload_n 2, 1) := by decide +kernel
theorem dX1_isLedTo_33 : decode cX1_isLedTo 33 = .ok (.goto 7, 3) := by decide +kernel
theorem dX1_isLedTo_36 : decode cX1_isLedTo 36 = .ok (.iload_n 2, 1) := by decide +kernel
theorem dX1_isLedTo_37 : decode cX1_isLedTo 37 = .ok (.iload 5, 2) := by decide +kernel
theorem dX1_isLedTo_39 : decode cX1_isLedTo 39 = .ok (.isub, 1) := by decide +kernel
theorem dX1_isLedTo_40 : decode cX1_isLedTo 40 = .ok (.istore 6, 2) := by decide +kernel
theorem dX1_isLedTo_42 : decode cX1_isLedTo 42 = .ok (.aload_n 0, 1) := by decide +kernel
theorem dX1_isLedTo_43 : decode cX1_isLedTo 43 = .ok (.iload_n 1, 1) := by decide +kernel
theorem dX1_isLedTo_44 : decode cX1_isLedTo 44 = .ok (.invokevirtual 50, 3) := by decide +kernel
theorem dX1_isLedTo_47 : decode cX1_isLedTo 47 = .ok (.ifCond .eq 10, 3) := by decide +kernel
theorem dX1_isLedTo_50 : decode cX1_isLedTo 50 = .ok (.iload_n 3, 1) := by decide +kernel
theorem dX1_isLedTo_51 : decode cX1_isLedTo 51 = .ok (.iload 5, 2) := by decide +kernel
theorem dX1_isLedTo_53 : decode cX1_isLedTo 53 = .ok (.isub, 1) := by decide +kernel
theorem dX1_isLedTo_54 : decode cX1_isLedTo 54 = .ok (.goto 4, 3) := by decide +kernel
theorem dX1_isLedTo_57 : decode cX1_isLedTo 57 = .ok (.iload_n 3, 1) := by decide +kernel
theorem dX1_isLedTo_58 : decode cX1_isLedTo 58 = .ok (.istore 7, 2) := by decide +kernel
theorem dX1_isLedTo_60 : decode cX1_isLedTo 60 = .ok (.aload_n 0, 1) := by decide +kernel
theorem dX1_isLedTo_61 : decode cX1_isLedTo 61 = .ok (.iload_n 1, 1) := by decide +kernel
theorem dX1_isLedTo_62 : decode cX1_isLedTo 62 = .ok (.invokevirtual 50, 3) := by decide +kernel
theorem dX1_isLedTo_65 : decode cX1_isLedTo 65 = .ok (.ifCond .eq 10, 3) := by decide +kernel
theorem dX1_isLedTo_68 : decode cX1_isLedTo 68 = .ok (.iconst 2, 1) := by decide +kernel
theorem dX1_isLedTo_69 : decode cX1_isLedTo 69 = .ok (.iload 5, 2) := by decide +kernel
theorem dX1_isLedTo_71 : decode cX1_isLedTo 71 = .ok (.imul, 1) := by decide +kernel
theorem dX1_isLedTo_72 : decode cX1_isLedTo 72 = .ok (.goto 9, 3) := by decide +kernel
theorem dX1_isLedTo_75 : decode cX1_isLedTo 75 = .ok (.iconst 3, 1) := by decide +kernel
theorem dX1_isLedTo_76 : decode cX1_isLedTo 76 = .ok (.iconst 2, 1) := by decide +kernel
theorem dX1_isLedTo_77 : decode cX1_isLedTo 77 = .ok (.iload 5, 2) := by decide +kernel
theorem dX1_isLedTo_79 : decode cX1_isLedTo 79 = .ok (.imul, 1) := by decide +kernel
theorem dX1_isLedTo_80 : decode cX1_isLedTo 80 = .ok (.isub, 1) := by decide +kernel
theorem dX1_isLedTo_81 : decode cX1_isLedTo 81 = .ok (.istore 8, 2) := by decide +kernel
theorem dX1_isLedTo_83 : decode cX1_isLedTo 83 = .ok (.iload 4, 2) := by decide +kernel
theorem dX1_isLedTo_85 : decode cX1_isLedTo 85 = .ok (.ifCond .ne 27, 3) := by decide +kernel
theorem dX1_isLedTo_88 : decode cX1_isLedTo 88 = .ok (.aload_n 0, 1) := by decide +kernel
theorem dX1_isLedTo_89 : decode cX1_isLedTo 89 = .ok (.iload 6, 2) := by decide +kernel
theorem dX1_isLedTo_91 : decode cX1_isLedTo 91 = .ok (.iload 7, 2) := by decide +kernel
theorem dX1_isLedTo_93 : decode cX1_isLedTo 93 = .ok (.invokevirtual 91, 3) := by decide +kernel
theorem dX1_isLedTo_96 : decode cX1_isLedTo 96 = .ok (.ifCond .eq 20, 3) := by decide +kernel
theorem dX1_isLedTo_99 : decode cX1_isLedTo 99 = .ok (.aload_n 0, 1) := by decide +kernel
theorem dX1_isLedTo_100 : decode cX1_isLedTo 100 = .ok (.iload 6, 2) := by decide +kernel
theorem dX1_isLedTo_102 : decode cX1_isLedTo 102 = .ok (.iload 7, 2) := by decide +kernel
theorem dX1_isLedTo_104 : decode cX1_isLedTo 104 = .ok (.iload 8, 2) := by decide +kernel
theorem dX1_isLedTo_106 : decode cX1_isLedTo 106 = .ok (.invokevirtual 80, 3) := by decide +kernel
theorem dX1_isLedTo_109 : decode cX1_isLedTo 109 = .ok (.ifCond .eq 7, 3) := by decide +kernel
theorem dX1_isLedTo_112 : decode cX1_isLedTo 112 = .ok (.iconst 1, 1) := by decide +kernel
theorem dX1_isLedTo_113 : decode cX1_isLedTo 113 = .ok (.goto 4, 3) := by decide +kernel
theorem dX1_isLedTo_116 : decode cX1_isLedTo 116 = .ok (.iconst 0, 1) := by decide +kernel
theorem dX1_isLedTo_117 : decode cX1_isLedTo 117 = .ok (.istore 4, 2) := by decide +kernel
theorem dX1_isLedTo_119 : decode cX1_isLedTo 119 = .ok (.iinc 5 1, 3) := by decide +kernel
theorem dX1_isLedTo_122 : decode cX1_isLedTo 122 = .ok (.goto (-104), 3) := by decide +kernel
theorem dX1_isLedTo_125 : decode cX1_isLedTo 125 = .ok (.iload 4, 2) := by decide +kernel
theorem dX1_isLedTo_127 : decode cX1_isLedTo 127 = .ok (.ireturn, 1) := by decide +kernel
set_option maxRecDepth 20000 in
theorem ggX1_chain_X1_next : GoodIn wsX1_chain wsX1_next := goodIn_r _ [10, 11, 12, 13, 9, 14, 15, 16, 17, 18, 19, 20, 21, 22, 23, 24, 25, 26, 27, 28, 29, 30, 31, 32, 33, 34, 35, 36, 37, 38, 39, 40, 41, 42, 43, 44, 45, 46, 47, 48, 49, 50, 51, 52, 53, 54, 55, 56, 57, 58, 59, 60, 61, 62, 63, 64, 65, 66, 67, 68, 69, 70, 71, 72, 73] (by decide +kernel) (by decide +kernel)
set_option maxRecDepth 20000 in
theorem gX1_chain_X1_next : GoodIn wsX1_chain (wsV RX1 100 RX1 yX1_next wsX1_next) := goodIn_app (goodIn_of _ (by decide +kernel)) ggX1_chain_X1_next
theorem dX1_chain_0 : decode cX1_chain 0 = .ok (.aload_n 0, 1) := by decide +kernel
theorem dX1_chain_1 : decode cX1_chain 1 = .ok (.getfield 26, 3) := by decide +kernel
theorem dX1_chain_4 : decode cX1_chain 4 = .ok (.aload_n 0, 1) := by decide +kernel
theorem dX1_chain_5 : decode cX1_chain 5 = .ok (.getfield 39, 3) := by decide +kernel
theorem dX1_chain_8 : decode cX1_chain 8 = .ok (.iaload, 1) := by decide +kernel
theorem dX1_chain_9 : decode cX1_chain 9 = .ok (.istore_n 3, 1) := by decide +kernel
theorem dX1_chain_10 : decode cX1_chain 10 = .ok (.iload_n 1, 1) := by decide +kernel
theorem dX1_chain_11 : decode cX1_chain 11 = .ok (.istore 4, 2) := by decide +kernel
theorem dX1_chain_13 : decode cX1_chain 13 = .ok (.iload 4, 2) := by decide +kernel
theorem dX1_chain_15 : decode cX1_chain 15 = .ok (.iconst (-1), 1) := by decide +kernel
theorem dX1_chain_16 : decode cX1_chain 16 = .ok (.if_icmp .eq 43, 3) := by decide +kernel
theorem dX1_chain_19 : decode cX1_chain 19 = .ok (.aload_n 0, 1) := by decide +kernel
theorem dX1_chain_20 : decode cX1_chain 20 = .ok (.getfield 33, 3) := by decide +kernel
theorem dX1_chain_23 : decode cX1_chain 23 = .ok (.iload 4, 2) := by decide +kernel
theorem dX1_chain_25 : decode cX1_chain 25 = .ok (.baload, 1) := by decide +kernel
theorem dX1_chain_26 : decode cX1_chain 26 = .ok (.ifCond .ne 33, 3) := by decide +kernel
theorem dX1_chain_29 : decode cX1_chain 29 = .ok (.aload_n 0, 1) := by decide +kernel
theorem dX1_chain_30 : decode cX1_chain 30 = .ok (.getfield 33, 3) := by decide +kernel
theorem dX1_chain_33 : decode cX1_chain 33 = .ok (.iload 4, 2) := by decide +kernel
theorem dX1_chain_35 : decode cX1_chain 35 = .ok (.iconst 1, 1) := by decide +kernel
theorem dX1_chain_36 : decode cX1_chain 36 = .ok (.bastore, 1) := by decide +kernel
theorem dX1_chain_37 : decode cX1_chain 37 = .ok (.aload_n 0, 1) := by decide +kernel
theorem dX1_chain_38 : decode cX1_chain 38 = .ok (.getfield 23, 3) := by decide +kernel
theorem dX1_chain_41 : decode cX1_chain 41 = .ok (.iload_n 3, 1) := by decide +kernel
theorem dX1_chain_42 : decode cX1_chain 42 = .ok (.iload 4, 2) := by decide +kernel
theorem dX1_chain_44 : decode cX1_chain 44 = .ok (.iastore, 1) := by decide +kernel
theorem dX1_chain_45 : decode cX1_chain 45 = .ok (.iinc 3 1, 3) := by decide +kernel
theorem dX1_chain_48 : decode cX1_chain 48 = .ok (.aload_n 0, 1) := by decide +kernel
theorem dX1_chain_49 : decode cX1_chain 49 = .ok (.iload 4, 2) := by decide +kernel
theorem dX1_chain_51 : decode cX1_chain 51 = .ok (.invokevirtual 100, 3) := by decide +kernel
theorem dX1_chain_54 : decode cX1_chain 54 = .ok (.istore 4, 2) := by decide +kernel
theorem dX1_chain_56 : decode cX1_chain 56 = .ok (.goto (-43), 3) := by decide +kernel
theorem dX1_chain_59 : decode cX1_chain 59 = .ok (.aload_n 0, 1) := by decide +kernel
theorem dX1_chain_60 : decode cX1_chain 60 = .ok (.getfield 29, 3) := by decide +kernel
theorem dX1_chain_63 : decode cX1_chain 63 = .ok (.aload_n 0, 1) := by decide +kernel
theorem dX1_chain_64 : decode cX1_chain 64 = .ok (.getfield 39, 3) := by decide +kernel
theorem dX1_chain_67 : decode cX1_chain 67 = .ok (.iload_n 2, 1) := by decide +kernel
theorem dX1_chain_68 : decode cX1_chain 68 = .ok (.bastore, 1) := by decide +kernel
theorem dX1_chain_69 : decode cX1_chain 69 = .ok (.aload_n 0, 1) := by decide +kernel
theorem dX1_chain_70 : decode cX1_chain 70 = .ok (.dup, 1) := by decide +kernel
theorem dX1_chain_71 : decode cX1_chain 71 = .ok (.getfield 39, 3) := by decide +kernel
theorem dX1_chain_74 : decode cX1_chain 74 = .ok (.iconst 1, 1) := by decide +kernel
theorem dX1_chain_75 : decode cX1_chain 75 = .ok (.iadd, 1) := by decide +kernel
theorem dX1_chain_76 : decode cX1_chain 76 = .ok (.putfield 39, 3) := by decide +kernel
theorem dX1_chain_79 : decode cX1_chain 79 = .ok (.aload_n 0, 1) := by decide +kernel
theorem dX1_chain_80 : decode cX1_chain 80 = .ok (.getfield 26, 3) := by decide +kernel
theorem dX1_chain_83 : decode cX1_chain 83 = .ok (.aload_n 0, 1) := by decide +kernel
theorem dX1_chain_84 : decode cX1_chain 84 = .ok (.getfield 39, 3) := by decide +kernel
theorem dX1_chain_87 : decode cX1_chain 87 = .ok (.iload_n 3, 1) := by decide +kernel
theorem dX1_chain_88 : decode cX1_chain 88 = .ok (.iastore, 1) := by decide +kernel
theorem dX1_chain_89 : decode cX1_chain 89 = .ok (.return_, 1) := by decide +kernel
set_option maxRecDepth 20000 in
theorem ggX1_make_X1_all : GoodIn wsX1_make wsX1_all := goodIn_r _ [9, 10, 11, 89, 90, 91, 92, 93, 94, 95, 96, 97, 98] (by decide +kernel) (by decide +kernel)
set_option maxRecDepth 20000 in
theorem gX1_make_X1_all : GoodIn wsX1_make (wsV RX1 103 RX1 yX1_all wsX1_all) := goodIn_app (goodIn_of _ (by decide +kernel)) ggX1_make_X1_all
set_option maxRecDepth 20000 in
theorem ggX1_make_X1_isCrossed : GoodIn wsX1_make wsX1_isCrossed := goodIn_r _ [15, 16, 17, 18, 8, 19, 20, 21, 22, 23, 11, 10, 24, 25, 26, 27, 28, 29, 30, 31, 32, 33, 34, 35, 36, 37, 38, 39, 40, 41, 42, 43, 44, 45, 89, 90, 91, 92, 93, 94, 95, 96, 97, 98] (by decide +kernel) (by decide +kernel)
set_option maxRecDepth 20000 in
theorem gX1_make_X1_isCrossed : GoodIn wsX1_make (wsV RX1 107 RX1 yX1_isCrossed wsX1_isCrossed) := goodIn_app (goodIn_of _ (by decide +kernel)) ggX1_make_X1_isCrossed
set_option maxRecDepth 20000 in
theorem ggX1_make_X1_isLedTo : GoodIn wsX1_make wsX1_isLedTo := goodIn_r _ [49, 20, 21, 22, 8, 23, 11, 10, 24, 25, 26, 27, 28, 29, 30, 31, 50, 51, 52, 53, 54, 55, 56, 57, 58, 59, 60, 61, 32, 33, 34, 35, 36, 37, 38, 39, 40, 41, 89, 90, 91, 92, 93, 94, 95, 96, 97, 98] (by decide +kernel) (by decide +kernel)
set_option maxRecDepth 20000 in
theorem gX1_make_X1_isLedTo : GoodIn wsX1_make (wsV RX1 110 RX1 yX1_isLedTo wsX1_isLedTo) := goodIn_app (goodIn_of _ (by decide +kernel)) ggX1_make_X1_isLedTo
set_option maxRecDepth 20000 in
theorem ggX1_make_X1_chain : GoodIn wsX1_make wsX1_chain := goodIn_r _ [65, 3, 2, 4, 66, 67, 68, 69, 70, 8, 71, 20, 21, 22, 23, 11, 10, 24, 25, 26, 27, 28, 29, 30, 31, 50, 51, 52, 53, 72, 73, 74, 75, 58, 59, 60, 61, 32, 33, 34, 35, 36, 37, 38, 39, 40, 41, 76, 77, 78, 79, 54, 55, 56, 57, 80, 81, 82, 83, 84, 85, 86, 87, 88, 89, 90, 91, 92, 93, 94, 95, 96, 97, 98] (by decide +kernel) (by decide +kernel)
set_option maxRecDepth 20000 in
theorem gX1_make_X1_chain : GoodIn wsX1_make (wsV RX1 113 RX1 yX1_chain wsX1_chain) := goodIn_app (goodIn_of _ (by decide +kernel)) ggX1_make_X1_chain
theorem dX1_make_0 : decode cX1_make 0 = .ok (.aload_n 0, 1) := by decide +kernel
theorem dX1_make_1 : decode cX1_make 1 = .ok (.iconst 0, 1) := by decide +kernel
theorem dX1_make_2 : decode cX1_make 2 = .ok (.putfield 36, 3) := by decide +kernel
theorem dX1_make_5 : decode cX1_make 5 = .ok (.aload_n 0, 1) := by decide +kernel
theorem dX1_make_6 : decode cX1_make 6 = .ok (.iconst 0, 1) := by decide +kernel
theorem dX1_make_7 : decode cX1_make 7 = .ok (.putfield 39, 3) := by decide +kernel
theorem dX1_make_10 : decode cX1_make 10 = .ok (.aload_n 0, 1) := by decide +kernel
theorem dX1_make_11 : decode cX1_make 11 = .ok (.getfield 26, 3) := by decide +kernel
theorem dX1_make_14 : decode cX1_make 14 = .ok (.iconst 0, 1) := by decide +kernel
theorem dX1_make_15 : decode cX1_make 15 = .ok (.iconst 0, 1) := by decide +kernel
theorem dX1_make_16 : decode cX1_make 16 = .ok (.iastore, 1) := by decide +kernel
theorem dX1_make_17 : decode cX1_make 17 = .ok (.iconst 0, 1) := by decide +kernel
theorem dX1_make_18 : decode cX1_make 18 = .ok (.istore_n 1, 1) := by decide +kernel
theorem dX1_make_19 : decode cX1_make 19 = .ok (.iload_n 1, 1) := by decide +kernel
theorem dX1_make_20 : decode cX1_make 20 = .ok (.sipush 264, 3) := by decide +kernel
theorem dX1_make_23 : decode cX1_make 23 = .ok (.if_icmp .ge 16, 3) := by decide +kernel
theorem dX1_make_26 : decode cX1_make 26 = .ok (.aload_n 0, 1) := by decide +kernel
theorem dX1_make_27 : decode cX1_make 27 = .ok (.getfield 33, 3) := by decide +kernel
theorem dX1_make_30 : decode cX1_make 30 = .ok (.iload_n 1, 1) := by decide +kernel
theorem dX1_make_31 : decode cX1_make 31 = .ok (.iconst 0, 1) := by decide +kernel
theorem dX1_make_32 : decode cX1_make 32 = .ok (.bastore, 1) := by decide +kernel
theorem dX1_make_33 : decode cX1_make 33 = .ok (.iinc 1 1, 3) := by decide +kernel
theorem dX1_make_36 : decode cX1_make 36 = .ok (.goto (-17), 3) := by decide +kernel
theorem dX1_make_39 : decode cX1_make 39 = .ok (.iconst 0, 1) := by decide +kernel
theorem dX1_make_40 : decode cX1_make 40 = .ok (.istore_n 1, 1) := by decide +kernel
theorem dX1_make_41 : decode cX1_make 41 = .ok (.iload_n 1, 1) := by decide +kernel
theorem dX1_make_42 : decode cX1_make 42 = .ok (.aload_n 0, 1) := by decide +kernel
theorem dX1_make_43 : decode cX1_make 43 = .ok (.invokevirtual 103, 3) := by decide +kernel
theorem dX1_make_46 : decode cX1_make 46 = .ok (.if_icmp .ge 31, 3) := by decide +kernel
theorem dX1_make_49 : decode cX1_make 49 = .ok (.aload_n 0, 1) := by decide +kernel
theorem dX1_make_50 : decode cX1_make 50 = .ok (.iload_n 1, 1) := by decide +kernel
theorem dX1_make_51 : decode cX1_make 51 = .ok (.invokevirtual 107, 3) := by decide +kernel
theorem dX1_make_54 : decode cX1_make 54 = .ok (.ifCond .eq 17, 3) := by decide +kernel
theorem dX1_make_57 : decode cX1_make 57 = .ok (.aload_n 0, 1) := by decide +kernel
theorem dX1_make_58 : decode cX1_make 58 = .ok (.iload_n 1, 1) := by decide +kernel
theorem dX1_make_59 : decode cX1_make 59 = .ok (.invokevirtual 110, 3) := by decide +kernel
theorem dX1_make_62 : decode cX1_make 62 = .ok (.ifCond .ne 9, 3) := by decide +kernel
theorem dX1_make_65 : decode cX1_make 65 = .ok (.aload_n 0, 1) := by decide +kernel
theorem dX1_make_66 : decode cX1_make 66 = .ok (.iload_n 1, 1) := by decide +kernel
theorem dX1_make_67 : decode cX1_make 67 = .ok (.iconst 0, 1) := by decide +kernel
theorem dX1_make_68 : decode cX1_make 68 = .ok (.invokevirtual 113, 3) := by decide +kernel
theorem dX1_make_71 : decode cX1_make 71 = .ok (.iinc 1 1, 3) := by decide +kernel
theorem dX1_make_74 : decode cX1_make 74 = .ok (.goto (-33), 3) := by decide +kernel
theorem dX1_make_77 : decode cX1_make 77 = .ok (.iconst 0, 1) := by decide +kernel
theorem dX1_make_78 : decode cX1_make 78 = .ok (.istore_n 1, 1) := by decide +kernel
theorem dX1_make_79 : decode cX1_make 79 = .ok (.iload_n 1, 1) := by decide +kernel
theorem dX1_make_80 : decode cX1_make 80 = .ok (.aload_n 0, 1) := by decide +kernel
theorem dX1_make_81 : decode cX1_make 81 = .ok (.invokevirtual 103, 3) := by decide +kernel
theorem dX1_make_84 : decode cX1_make 84 = .ok (.if_icmp .ge 32, 3) := by decide +kernel
theorem dX1_make_87 : decode cX1_make 87 = .ok (.aload_n 0, 1) := by decide +kernel
theorem dX1_make_88 : decode cX1_make 88 = .ok (.iload_n 1, 1) := by decide +kernel
theorem dX1_make_89 : decode cX1_make 89 = .ok (.invokevirtual 107, 3) := by decide +kernel
theorem dX1_make_92 : decode cX1_make 92 = .ok (.ifCond .eq 18, 3) := by decide +kernel
theorem dX1_make_95 : decode cX1_make 95 = .ok (.aload_n 0, 1) := by decide +kernel
theorem dX1_make_96 : decode cX1_make 96 = .ok (.getfield 33, 3) := by decide +kernel
theorem dX1_make_99 : decode cX1_make 99 = .ok (.iload_n 1, 1) := by decide +kernel
theorem dX1_make_100 : decode cX1_make 100 = .ok (.baload, 1) := by decide +kernel
theorem dX1_make_101 : decode cX1_make 101 = .ok (.ifCond .ne 9, 3) := by decide +kernel
theorem dX1_make_104 : decode cX1_make 104 = .ok (.aload_n 0, 1) := by decide +kernel
theorem dX1_make_105 : decode cX1_make 105 = .ok (.iload_n 1, 1) := by decide +kernel
theorem dX1_make_106 : decode cX1_make 106 = .ok (.iconst 1, 1) := by decide +kernel
theorem dX1_make_107 : decode cX1_make 107 = .ok (.invokevirtual 113, 3) := by decide +kernel
theorem dX1_make_110 : decode cX1_make 110 = .ok (.iinc 1 1, 3) := by decide +kernel
theorem dX1_make_113 : decode cX1_make 113 = .ok (.goto (-34), 3) := by decide +kernel
theorem dX1_make_116 : decode cX1_make 116 = .ok (.aload_n 0, 1) := by decide +kernel
theorem dX1_make_117 : decode cX1_make 117 = .ok (.getfield 39, 3) := by decide +kernel
theorem dX1_make_120 : decode cX1_make 120 = .ok (.ireturn, 1) := by decide +kernel
theorem dX1_isChain_0 : decode cX1_isChain 0 = .ok (.iload_n 1, 1) := by decide +kernel
theorem dX1_isChain_1 : decode cX1_isChain 1 = .ok (.ifCond .lt 15, 3) := by decide +kernel
theorem dX1_isChain_4 : decode cX1_isChain 4 = .ok (.iload_n 1, 1) := by decide +kernel
theorem dX1_isChain_5 : decode cX1_isChain 5 = .ok (.aload_n 0, 1) := by decide +kernel
theorem dX1_isChain_6 : decode cX1_isChain 6 = .ok (.getfield 39, 3) := by decide +kernel
theorem dX1_isChain_9 : decode cX1_isChain 9 = .ok (.if_icmp .ge 7, 3) := by decide +kernel
theorem dX1_isChain_12 : decode cX1_isChain 12 = .ok (.iconst 1, 1) := by decide +kernel
theorem dX1_isChain_13 : decode cX1_isChain 13 = .ok (.goto 4, 3) := by decide +kernel
theorem dX1_isChain_16 : decode cX1_isChain 16 = .ok (.iconst 0, 1) := by decide +kernel
theorem dX1_isChain_17 : decode cX1_isChain 17 = .ok (.ireturn, 1) := by decide +kernel
set_option maxRecDepth 20000 in
theorem ggX1_size_X1_isChain : GoodIn wsX1_size wsX1_isChain := goodIn_r _ [7, 8, 9, 10, 11, 12, 13, 14, 15, 16, 17, 18] (by decide +kernel) (by decide +kernel)
set_option maxRecDepth 20000 in
theorem gX1_size_X1_isChain : GoodIn wsX1_size (wsV RX1 117 RX1 yX1_isChain wsX1_isChain) := goodIn_app (goodIn_of _ (by decide +kernel)) ggX1_size_X1_isChain
theorem dX1_size_0 : decode cX1_size 0 = .ok (.aload_n 0, 1) := by decide +kernel
theorem dX1_size_1 : decode cX1_size 1 = .ok (.iconst 0, 1) := by decide +kernel
theorem dX1_size_2 : decode cX1_size 2 = .ok (.putfield 36, 3) := by decide +kernel
theorem dX1_size_5 : decode cX1_size 5 = .ok (.aload_n 0, 1) := by decide +kernel
theorem dX1_size_6 : decode cX1_size 6 = .ok (.iload_n 1, 1) := by decide +kernel
theorem dX1_size_7 : decode cX1_size 7 = .ok (.invokevirtual 117, 3) := by decide +kernel
theorem dX1_size_10 : decode cX1_size 10 = .ok (.ifCond .eq 21, 3) := by decide +kernel
theorem dX1_size_13 : decode cX1_size 13 = .ok (.aload_n 0, 1) := by decide +kernel
theorem dX1_size_14 : decode cX1_size 14 = .ok (.getfield 26, 3) := by decide +kernel
theorem dX1_size_17 : decode cX1_size 17 = .ok (.iload_n 1, 1) := by decide +kernel
theorem dX1_size_18 : decode cX1_size 18 = .ok (.iconst 1, 1) := by decide +kernel
theorem dX1_size_19 : decode cX1_size 19 = .ok (.iadd, 1) := by decide +kernel
theorem dX1_size_20 : decode cX1_size 20 = .ok (.iaload, 1) := by decide +kernel
theorem dX1_size_21 : decode cX1_size 21 = .ok (.aload_n 0, 1) := by decide +kernel
theorem dX1_size_22 : decode cX1_size 22 = .ok (.getfield 26, 3) := by decide +kernel
theorem dX1_size_25 : decode cX1_size 25 = .ok (.iload_n 1, 1) := by decide +kernel
theorem dX1_size_26 : decode cX1_size 26 = .ok (.iaload, 1) := by decide +kernel
theorem dX1_size_27 : decode cX1_size 27 = .ok (.isub, 1) := by decide +kernel
theorem dX1_size_28 : decode cX1_size 28 = .ok (.goto 4, 3) := by decide +kernel
theorem dX1_size_31 : decode cX1_size 31 = .ok (.iconst (-1), 1) := by decide +kernel
theorem dX1_size_32 : decode cX1_size 32 = .ok (.ireturn, 1) := by decide +kernel
set_option maxRecDepth 20000 in
theorem ggX1_isClosed_X1_isChain : GoodIn wsX1_isClosed wsX1_isChain := goodIn_r _ [7, 8, 9, 10, 11, 12, 13, 14, 15, 16, 17, 18] (by decide +kernel) (by decide +kernel)
set_option maxRecDepth 20000 in
theorem gX1_isClosed_X1_isChain : GoodIn wsX1_isClosed (wsV RX1 117 RX1 yX1_isChain wsX1_isChain) := goodIn_app (goodIn_of _ (by decide +kernel)) ggX1_isClosed_X1_isChain
theorem dX1_isClosed_0 : decode cX1_isClosed 0 = .ok (.aload_n 0, 1) := by decide +kernel
theorem dX1_isClosed_1 : decode cX1_isClosed 1 = .ok (.iconst 0, 1) := by decide +kernel
theorem dX1_isClosed_2 : decode cX1_isClosed 2 = .ok (.putfield 36, 3) := by decide +kernel
theorem dX1_isClosed_5 : decode cX1_isClosed 5 = .ok (.aload_n 0, 1) := by decide +kernel
theorem dX1_isClosed_6 : decode cX1_isClosed 6 = .ok (.iload_n 1, 1) := by decide +kernel
theorem dX1_isClosed_7 : decode cX1_isClosed 7 = .ok (.invokevirtual 117, 3) := by decide +kernel
theorem dX1_isClosed_10 : decode cX1_isClosed 10 = .ok (.ifCond .eq 16, 3) := by decide +kernel
theorem dX1_isClosed_13 : decode cX1_isClosed 13 = .ok (.aload_n 0, 1) := by decide +kernel
theorem dX1_isClosed_14 : decode cX1_isClosed 14 = .ok (.getfield 29, 3) := by decide +kernel
theorem dX1_isClosed_17 : decode cX1_isClosed 17 = .ok (.iload_n 1, 1) := by decide +kernel
theorem dX1_isClosed_18 : decode cX1_isClosed 18 = .ok (.baload, 1) := by decide +kernel
theorem dX1_isClosed_19 : decode cX1_isClosed 19 = .ok (.ifCond .eq 7, 3) := by decide +kernel
theorem dX1_isClosed_22 : decode cX1_isClosed 22 = .ok (.iconst 1, 1) := by decide +kernel
theorem dX1_isClosed_23 : decode cX1_isClosed 23 = .ok (.goto 4, 3) := by decide +kernel
theorem dX1_isClosed_26 : decode cX1_isClosed 26 = .ok (.iconst 0, 1) := by decide +kernel
theorem dX1_isClosed_27 : decode cX1_isClosed 27 = .ok (.ireturn, 1) := by decide +kernel
set_option maxRecDepth 20000 in
theorem ggX1_edge_X1_isChain : GoodIn wsX1_edge wsX1_isChain := goodIn_r _ [8, 9, 10, 11, 12, 13, 14, 15, 16, 17, 18, 19] (by decide +kernel) (by decide +kernel)
set_option maxRecDepth 20000 in
theorem gX1_edge_X1_isChain : GoodIn wsX1_edge (wsV RX1 117 RX1 yX1_isChain wsX1_isChain) := goodIn_app (goodIn_of _ (by decide +kernel)) ggX1_edge_X1_isChain
theorem dX1_edge_0 : decode cX1_edge 0 = .ok (.aload_n 0, 1) := by decide +kernel
theorem dX1_edge_1 : decode cX1_edge 1 = .ok (.iconst 0, 1) := by decide +kernel
theorem dX1_edge_2 : decode cX1_edge 2 = .ok (.putfield 36, 3) := by decide +kernel
theorem dX1_edge_5 : decode cX1_edge 5 = .ok (.aload_n 0, 1) := by decide +kernel
theorem dX1_edge_6 : decode cX1_edge 6 = .ok (.iload_n 1, 1) := by decide +kernel
theorem dX1_edge_7 : decode cX1_edge 7 = .ok (.invokevirtual 117, 3) := by decide +kernel
theorem dX1_edge_10 : decode cX1_edge 10 = .ok (.ifCond .eq 42, 3) := by decide +kernel
theorem dX1_edge_13 : decode cX1_edge 13 = .ok (.iload_n 2, 1) := by decide +kernel
theorem dX1_edge_14 : decode cX1_edge 14 = .ok (.ifCond .lt 38, 3) := by decide +kernel
theorem dX1_edge_17 : decode cX1_edge 17 = .ok (.iload_n 2, 1) := by decide +kernel
theorem dX1_edge_18 : decode cX1_edge 18 = .ok (.aload_n 0, 1) := by decide +kernel
theorem dX1_edge_19 : decode cX1_edge 19 = .ok (.getfield 26, 3) := by decide +kernel
theorem dX1_edge_22 : decode cX1_edge 22 = .ok (.iload_n 1, 1) := by decide +kernel
theorem dX1_edge_23 : decode cX1_edge 23 = .ok (.iconst 1, 1) := by decide +kernel
theorem dX1_edge_24 : decode cX1_edge 24 = .ok (.iadd, 1) := by decide +kernel
theorem dX1_edge_25 : decode cX1_edge 25 = .ok (.iaload, 1) := by decide +kernel
theorem dX1_edge_26 : decode cX1_edge 26 = .ok (.aload_n 0, 1) := by decide +kernel
theorem dX1_edge_27 : decode cX1_edge 27 = .ok (.getfield 26, 3) := by decide +kernel
theorem dX1_edge_30 : decode cX1_edge 30 = .ok (.iload_n 1, 1) := by decide +kernel
theorem dX1_edge_31 : decode cX1_edge 31 = .ok (.iaload, 1) := by decide +kernel
theorem dX1_edge_32 : decode cX1_edge 32 = .ok (.isub, 1) := by decide +kernel
theorem dX1_edge_33 : decode cX1_edge 33 = .ok (.if_icmp .ge 19, 3) := by decide +kernel
theorem dX1_edge_36 : decode cX1_edge 36 = .ok (.aload_n 0, 1) := by decide +kernel
theorem dX1_edge_37 : decode cX1_edge 37 = .ok (.getfield 23, 3) := by decide +kernel
theorem dX1_edge_40 : decode cX1_edge 40 = .ok (.aload_n 0, 1) := by decide +kernel
theorem dX1_edge_41 : decode cX1_edge 41 = .ok (.getfield 26, 3) := by decide +kernel
theorem dX1_edge_44 : decode cX1_edge 44 = .ok (.iload_n 1, 1) := by decide +kernel
theorem dX1_edge_45 : decode cX1_edge 45 = .ok (.iaload, 1) := by decide +kernel
theorem dX1_edge_46 : decode cX1_edge 46 = .ok (.iload_n 2, 1) := by decide +kernel
theorem dX1_edge_47 : decode cX1_edge 47 = .ok (.iadd, 1) := by decide +kernel
theorem dX1_edge_48 : decode cX1_edge 48 = .ok (.iaload, 1) := by decide +kernel
theorem dX1_edge_49 : decode cX1_edge 49 = .ok (.goto 4, 3) := by decide +kernel
theorem dX1_edge_52 : decode cX1_edge 52 = .ok (.iconst (-1), 1) := by decide +kernel
theorem dX1_edge_53 : decode cX1_edge 53 = .ok (.ireturn, 1) := by decide +kernel
set_option maxRecDepth 20000 in
theorem ggX1_crossing_X1_all : GoodIn wsX1_crossing wsX1_all := goodIn_r _ [7, 8, 9, 43, 44, 45, 46, 47, 48, 49, 50, 51, 52] (by decide +kernel) (by decide +kernel)
set_option maxRecDepth 20000 in
theorem gX1_crossing_X1_all : GoodIn wsX1_crossing (wsV RX1 103 RX1 yX1_all wsX1_all) := goodIn_app (goodIn_of _ (by decide +kernel)) ggX1_crossing_X1_all
set_option maxRecDepth 20000 in
theorem ggX1_crossing_X1_isCrossed : GoodIn wsX1_crossing wsX1_isCrossed := goodIn_r _ [13, 14, 15, 16, 6, 17, 18, 19, 20, 21, 9, 8, 22, 23, 24, 25, 26, 27, 28, 29, 30, 31, 32, 33, 34, 35, 36, 37, 38, 2, 39, 40, 41, 42, 43, 44, 45, 46, 47, 48, 49, 50, 51, 52] (by decide +kernel) (by decide +kernel)
set_option maxRecDepth 20000 in
theorem gX1_crossing_X1_isCrossed : GoodIn wsX1_crossing (wsV RX1 107 RX1 yX1_isCrossed wsX1_isCrossed) := goodIn_app (goodIn_of _ (by decide +kernel)) ggX1_crossing_X1_isCrossed
set_option maxRecDepth 20000 in
theorem ggX1_crossing_X1_first : GoodIn wsX1_crossing wsX1_first := goodIn_r _ [17, 18, 19, 20, 6, 21, 9, 8, 22, 23, 24, 25, 26, 27, 28, 29, 30, 31, 32, 33, 34, 43, 44, 45, 46, 47, 48, 49, 50, 51, 52] (by decide +kernel) (by decide +kernel)
set_option maxRecDepth 20000 in
theorem gX1_crossing_X1_first : GoodIn wsX1_crossing (wsV RX1 65 RX1 yX1_first wsX1_first) := goodIn_app (goodIn_of _ (by decide +kernel)) ggX1_crossing_X1_first
set_option maxRecDepth 20000 in
theorem ggX1_crossing_X1_second : GoodIn wsX1_crossing wsX1_second := goodIn_r _ [42, 22, 23, 24, 6, 25, 8, 9, 18, 19, 20, 21, 26, 27, 28, 29, 30, 31, 32, 33, 34, 43, 44, 45, 46, 47, 48, 49, 50, 51, 52] (by decide +kernel) (by decide +kernel)
set_option maxRecDepth 20000 in
theorem gX1_crossing_X1_second : GoodIn wsX1_crossing (wsV RX1 71 RX1 yX1_second wsX1_second) := goodIn_app (goodIn_of _ (by decide +kernel)) ggX1_crossing_X1_second
theorem dX1_crossing_0 : decode cX1_crossing 0 = .ok (.iload_n 1, 1) := by decide +kernel
theorem dX1_crossing_1 : decode cX1_crossing 1 = .ok (.ifCond .lt 32, 3) := by decide +kernel
theorem dX1_crossing_4 : decode cX1_crossing 4 = .ok (.iload_n 1, 1) := by decide +kernel
theorem dX1_crossing_5 : decode cX1_crossing 5 = .ok (.aload_n 0, 1) := by decide +kernel
theorem dX1_crossing_6 : decode cX1_crossing 6 = .ok (.invokevirtual 103, 3) := by decide +kernel
theorem dX1_crossing_9 : decode cX1_crossing 9 = .ok (.if_icmp .ge 24, 3) := by decide +kernel
theorem dX1_crossing_12 : decode cX1_crossing 12 = .ok (.iload_n 2, 1) := by decide +kernel
theorem dX1_crossing_13 : decode cX1_crossing 13 = .ok (.ifCond .lt 20, 3) := by decide +kernel
theorem dX1_crossing_16 : decode cX1_crossing 16 = .ok (.iload_n 2, 1) := by decide +kernel
theorem dX1_crossing_17 : decode cX1_crossing 17 = .ok (.iconst 2, 1) := by decide +kernel
theorem dX1_crossing_18 : decode cX1_crossing 18 = .ok (.if_icmp .ge 15, 3) := by decide +kernel
theorem dX1_crossing_21 : decode cX1_crossing 21 = .ok (.aload_n 0, 1) := by decide +kernel
theorem dX1_crossing_22 : decode cX1_crossing 22 = .ok (.iload_n 1, 1) := by decide +kernel
theorem dX1_crossing_23 : decode cX1_crossing 23 = .ok (.invokevirtual 107, 3) := by decide +kernel
theorem dX1_crossing_26 : decode cX1_crossing 26 = .ok (.ifCond .eq 7, 3) := by decide +kernel
theorem dX1_crossing_29 : decode cX1_crossing 29 = .ok (.iconst 1, 1) := by decide +kernel
theorem dX1_crossing_30 : decode cX1_crossing 30 = .ok (.goto 4, 3) := by decide +kernel
theorem dX1_crossing_33 : decode cX1_crossing 33 = .ok (.iconst 0, 1) := by decide +kernel
theorem dX1_crossing_34 : decode cX1_crossing 34 = .ok (.istore_n 3, 1) := by decide +kernel
theorem dX1_crossing_35 : decode cX1_crossing 35 = .ok (.aload_n 0, 1) := by decide +kernel
theorem dX1_crossing_36 : decode cX1_crossing 36 = .ok (.iload_n 3, 1) := by decide +kernel
theorem dX1_crossing_37 : decode cX1_crossing 37 = .ok (.ifCond .eq 7, 3) := by decide +kernel
theorem dX1_crossing_40 : decode cX1_crossing 40 = .ok (.iconst 0, 1) := by decide +kernel
theorem dX1_crossing_41 : decode cX1_crossing 41 = .ok (.goto 4, 3) := by decide +kernel
theorem dX1_crossing_44 : decode cX1_crossing 44 = .ok (.iconst 1, 1) := by decide +kernel
theorem dX1_crossing_45 : decode cX1_crossing 45 = .ok (.putfield 36, 3) := by decide +kernel
theorem dX1_crossing_48 : decode cX1_crossing 48 = .ok (.iload_n 3, 1) := by decide +kernel
theorem dX1_crossing_49 : decode cX1_crossing 49 = .ok (.ifCond .ne 5, 3) := by decide +kernel
theorem dX1_crossing_52 : decode cX1_crossing 52 = .ok (.iconst 0, 1) := by decide +kernel
theorem dX1_crossing_53 : decode cX1_crossing 53 = .ok (.ireturn, 1) := by decide +kernel
theorem dX1_crossing_54 : decode cX1_crossing 54 = .ok (.aload_n 0, 1) := by decide +kernel
theorem dX1_crossing_55 : decode cX1_crossing 55 = .ok (.getfield 16, 3) := by decide +kernel
theorem dX1_crossing_58 : decode cX1_crossing 58 = .ok (.iconst 2, 1) := by decide +kernel
theorem dX1_crossing_59 : decode cX1_crossing 59 = .ok (.aload_n 0, 1) := by decide +kernel
theorem dX1_crossing_60 : decode cX1_crossing 60 = .ok (.iload_n 1, 1) := by decide +kernel
theorem dX1_crossing_61 : decode cX1_crossing 61 = .ok (.invokevirtual 65, 3) := by decide +kernel
theorem dX1_crossing_64 : decode cX1_crossing 64 = .ok (.imul, 1) := by decide +kernel
end
section
theorem dX1_crossing_65 : decode cX1_crossing 65 = .ok (.isub, 1) := by decide +kernel
theorem dX1_crossing_66 : decode cX1_crossing 66 = .ok (.istore 4, 2) := by decide +kernel
theorem dX1_crossing_68 : decode cX1_crossing 68 = .ok (.iconst 2, 1) := by decide +kernel
theorem dX1_crossing_69 : decode cX1_crossing 69 = .ok (.aload_n 0, 1) := by decide +kernel
theorem dX1_crossing_70 : decode cX1_crossing 70 = .ok (.iload_n 1, 1) := by decide +kernel
theorem dX1_crossing_71 : decode cX1_crossing 71 = .ok (.invokevirtual 71, 3) := by decide +kernel
theorem dX1_crossing_74 : decode cX1_crossing 74 = .ok (.aload_n 0, 1) := by decide +kernel
theorem dX1_crossing_75 : decode cX1_crossing 75 = .ok (.iload_n 1, 1) := by decide +kernel
theorem dX1_crossing_76 : decode cX1_crossing 76 = .ok (.invokevirtual 65, 3) := by decide +kernel
theorem dX1_crossing_79 : decode cX1_crossing 79 = .ok (.isub, 1) := by decide +kernel
theorem dX1_crossing_80 : decode cX1_crossing 80 = .ok (.imul, 1) := by decide +kernel
theorem dX1_crossing_81 : decode cX1_crossing 81 = .ok (.istore 5, 2) := by decide +kernel
theorem dX1_crossing_83 : decode cX1_crossing 83 = .ok (.iload 5, 2) := by decide +kernel
theorem dX1_crossing_85 : decode cX1_crossing 85 = .ok (.ifCond .ge 13, 3) := by decide +kernel
theorem dX1_crossing_88 : decode cX1_crossing 88 = .ok (.iload 4, 2) := by decide +kernel
theorem dX1_crossing_90 : decode cX1_crossing 90 = .ok (.ineg, 1) := by decide +kernel
theorem dX1_crossing_91 : decode cX1_crossing 91 = .ok (.istore 4, 2) := by decide +kernel
theorem dX1_crossing_93 : decode cX1_crossing 93 = .ok (.iload 5, 2) := by decide +kernel
theorem dX1_crossing_95 : decode cX1_crossing 95 = .ok (.ineg, 1) := by decide +kernel
theorem dX1_crossing_96 : decode cX1_crossing 96 = .ok (.istore 5, 2) := by decide +kernel
theorem dX1_crossing_98 : decode cX1_crossing 98 = .ok (.iload 4, 2) := by decide +kernel
theorem dX1_crossing_100 : decode cX1_crossing 100 = .ok (.istore 6, 2) := by decide +kernel
theorem dX1_crossing_102 : decode cX1_crossing 102 = .ok (.iload 5, 2) := by decide +kernel
theorem dX1_crossing_104 : decode cX1_crossing 104 = .ok (.istore 7, 2) := by decide +kernel
theorem dX1_crossing_106 : decode cX1_crossing 106 = .ok (.iload 7, 2) := by decide +kernel
theorem dX1_crossing_108 : decode cX1_crossing 108 = .ok (.ifCond .eq 21, 3) := by decide +kernel
theorem dX1_crossing_111 : decode cX1_crossing 111 = .ok (.iload 6, 2) := by decide +kernel
theorem dX1_crossing_113 : decode cX1_crossing 113 = .ok (.iload 7, 2) := by decide +kernel
theorem dX1_crossing_115 : decode cX1_crossing 115 = .ok (.irem, 1) := by decide +kernel
theorem dX1_crossing_116 : decode cX1_crossing 116 = .ok (.istore 8, 2) := by decide +kernel
theorem dX1_crossing_118 : decode cX1_crossing 118 = .ok (.iload 7, 2) := by decide +kernel
theorem dX1_crossing_120 : decode cX1_crossing 120 = .ok (.istore 6, 2) := by decide +kernel
theorem dX1_crossing_122 : decode cX1_crossing 122 = .ok (.iload 8, 2) := by decide +kernel
theorem dX1_crossing_124 : decode cX1_crossing 124 = .ok (.istore 7, 2) := by decide +kernel
theorem dX1_crossing_126 : decode cX1_crossing 126 = .ok (.goto (-20), 3) := by decide +kernel
theorem dX1_crossing_129 : decode cX1_crossing 129 = .ok (.iload_n 2, 1) := by decide +kernel
theorem dX1_crossing_130 : decode cX1_crossing 130 = .ok (.ifCond .ne 11, 3) := by decide +kernel
theorem dX1_crossing_133 : decode cX1_crossing 133 = .ok (.iload 4, 2) := by decide +kernel
theorem dX1_crossing_135 : decode cX1_crossing 135 = .ok (.iload 6, 2) := by decide +kernel
theorem dX1_crossing_137 : decode cX1_crossing 137 = .ok (.idiv, 1) := by decide +kernel
theorem dX1_crossing_138 : decode cX1_crossing 138 = .ok (.goto 8, 3) := by decide +kernel
theorem dX1_crossing_141 : decode cX1_crossing 141 = .ok (.iload 5, 2) := by decide +kernel
theorem dX1_crossing_143 : decode cX1_crossing 143 = .ok (.iload 6, 2) := by decide +kernel
theorem dX1_crossing_145 : decode cX1_crossing 145 = .ok (.idiv, 1) := by decide +kernel
theorem dX1_crossing_146 : decode cX1_crossing 146 = .ok (.ireturn, 1) := by decide +kernel
set_option maxRecDepth 20000 in
theorem ggX1_within_X1_isChain : GoodIn wsX1_within wsX1_isChain := goodIn_r _ [11, 12, 25, 26, 27, 28, 29, 30, 31, 32, 33, 34] (by decide +kernel) (by decide +kernel)
set_option maxRecDepth 20000 in
theorem gX1_within_X1_isChain : GoodIn wsX1_within (wsV RX1 117 RX1 yX1_isChain wsX1_isChain) := goodIn_app (goodIn_of _ (by decide +kernel)) ggX1_within_X1_isChain
set_option maxRecDepth 20000 in
theorem ggX1_within_X1_isAcross : GoodIn wsX1_within wsX1_isAcross := goodIn_r _ [16, 3, 4, 25, 26, 27, 28, 29, 30, 31, 32, 33, 34] (by decide +kernel) (by decide +kernel)
set_option maxRecDepth 20000 in
theorem gX1_within_X1_isAcross : GoodIn wsX1_within (wsV RX1 50 RX1 yX1_isAcross wsX1_isAcross) := goodIn_app (goodIn_of _ (by decide +kernel)) ggX1_within_X1_isAcross
set_option maxRecDepth 20000 in
theorem ggX1_within_X1_yOf : GoodIn wsX1_within wsX1_yOf := goodIn_r _ [20, 4, 3, 13, 14, 15, 10, 16, 25, 26, 27, 28, 29, 30, 31, 32, 33, 34] (by decide +kernel) (by decide +kernel)
set_option maxRecDepth 20000 in
theorem gX1_within_X1_yOf : GoodIn wsX1_within (wsV RX1 58 RX1 yX1_yOf wsX1_yOf) := goodIn_app (goodIn_of _ (by decide +kernel)) ggX1_within_X1_yOf
set_option maxRecDepth 20000 in
theorem ggX1_within_X1_xOf : GoodIn wsX1_within wsX1_xOf := goodIn_r _ [24, 4, 3, 13, 14, 15, 10, 16, 25, 26, 27, 28, 29, 30, 31, 32, 33, 34] (by decide +kernel) (by decide +kernel)
set_option maxRecDepth 20000 in
theorem gX1_within_X1_xOf : GoodIn wsX1_within (wsV RX1 54 RX1 yX1_xOf wsX1_xOf) := goodIn_app (goodIn_of _ (by decide +kernel)) ggX1_within_X1_xOf
theorem dX1_within_0 : decode cX1_within 0 = .ok (.aload_n 0, 1) := by decide +kernel
theorem dX1_within_1 : decode cX1_within 1 = .ok (.iconst 0, 1) := by decide +kernel
theorem dX1_within_2 : decode cX1_within 2 = .ok (.putfield 36, 3) := by decide +kernel
theorem dX1_within_5 : decode cX1_within 5 = .ok (.aload_n 0, 1) := by decide +kernel
theorem dX1_within_6 : decode cX1_within 6 = .ok (.iload_n 1, 1) := by decide +kernel
theorem dX1_within_7 : decode cX1_within 7 = .ok (.invokevirtual 117, 3) := by decide +kernel
theorem dX1_within_10 : decode cX1_within 10 = .ok (.ifCond .eq 12, 3) := by decide +kernel
theorem dX1_within_13 : decode cX1_within 13 = .ok (.aload_n 0, 1) := by decide +kernel
theorem dX1_within_14 : decode cX1_within 14 = .ok (.getfield 29, 3) := by decide +kernel
theorem dX1_within_17 : decode cX1_within 17 = .ok (.iload_n 1, 1) := by decide +kernel
theorem dX1_within_18 : decode cX1_within 18 = .ok (.baload, 1) := by decide +kernel
theorem dX1_within_19 : decode cX1_within 19 = .ok (.ifCond .ne 5, 3) := by decide +kernel
theorem dX1_within_22 : decode cX1_within 22 = .ok (.iconst (-1), 1) := by decide +kernel
theorem dX1_within_23 : decode cX1_within 23 = .ok (.ireturn, 1) := by decide +kernel
theorem dX1_within_24 : decode cX1_within 24 = .ok (.iconst 0, 1) := by decide +kernel
theorem dX1_within_25 : decode cX1_within 25 = .ok (.istore_n 2, 1) := by decide +kernel
theorem dX1_within_26 : decode cX1_within 26 = .ok (.iconst 0, 1) := by decide +kernel
theorem dX1_within_27 : decode cX1_within 27 = .ok (.istore_n 3, 1) := by decide +kernel
theorem dX1_within_28 : decode cX1_within 28 = .ok (.iload_n 3, 1) := by decide +kernel
theorem dX1_within_29 : decode cX1_within 29 = .ok (.aload_n 0, 1) := by decide +kernel
theorem dX1_within_30 : decode cX1_within 30 = .ok (.getfield 13, 3) := by decide +kernel
theorem dX1_within_33 : decode cX1_within 33 = .ok (.if_icmp .ge 119, 3) := by decide +kernel
theorem dX1_within_36 : decode cX1_within 36 = .ok (.iconst 0, 1) := by decide +kernel
theorem dX1_within_37 : decode cX1_within 37 = .ok (.istore 4, 2) := by decide +kernel
theorem dX1_within_39 : decode cX1_within 39 = .ok (.iload 4, 2) := by decide +kernel
theorem dX1_within_41 : decode cX1_within 41 = .ok (.aload_n 0, 1) := by decide +kernel
theorem dX1_within_42 : decode cX1_within 42 = .ok (.getfield 7, 3) := by decide +kernel
theorem dX1_within_45 : decode cX1_within 45 = .ok (.if_icmp .ge 101, 3) := by decide +kernel
theorem dX1_within_48 : decode cX1_within 48 = .ok (.iconst 0, 1) := by decide +kernel
theorem dX1_within_49 : decode cX1_within 49 = .ok (.istore 5, 2) := by decide +kernel
theorem dX1_within_51 : decode cX1_within 51 = .ok (.aload_n 0, 1) := by decide +kernel
theorem dX1_within_52 : decode cX1_within 52 = .ok (.getfield 26, 3) := by decide +kernel
theorem dX1_within_55 : decode cX1_within 55 = .ok (.iload_n 1, 1) := by decide +kernel
theorem dX1_within_56 : decode cX1_within 56 = .ok (.iaload, 1) := by decide +kernel
theorem dX1_within_57 : decode cX1_within 57 = .ok (.istore 6, 2) := by decide +kernel
theorem dX1_within_59 : decode cX1_within 59 = .ok (.iload 6, 2) := by decide +kernel
theorem dX1_within_61 : decode cX1_within 61 = .ok (.aload_n 0, 1) := by decide +kernel
theorem dX1_within_62 : decode cX1_within 62 = .ok (.getfield 26, 3) := by decide +kernel
theorem dX1_within_65 : decode cX1_within 65 = .ok (.iload_n 1, 1) := by decide +kernel
theorem dX1_within_66 : decode cX1_within 66 = .ok (.iconst 1, 1) := by decide +kernel
theorem dX1_within_67 : decode cX1_within 67 = .ok (.iadd, 1) := by decide +kernel
theorem dX1_within_68 : decode cX1_within 68 = .ok (.iaload, 1) := by decide +kernel
theorem dX1_within_69 : decode cX1_within 69 = .ok (.if_icmp .ge 64, 3) := by decide +kernel
theorem dX1_within_72 : decode cX1_within 72 = .ok (.iload 5, 2) := by decide +kernel
theorem dX1_within_74 : decode cX1_within 74 = .ok (.aload_n 0, 1) := by decide +kernel
theorem dX1_within_75 : decode cX1_within 75 = .ok (.aload_n 0, 1) := by decide +kernel
theorem dX1_within_76 : decode cX1_within 76 = .ok (.getfield 23, 3) := by decide +kernel
theorem dX1_within_79 : decode cX1_within 79 = .ok (.iload 6, 2) := by decide +kernel
theorem dX1_within_81 : decode cX1_within 81 = .ok (.iaload, 1) := by decide +kernel
theorem dX1_within_82 : decode cX1_within 82 = .ok (.invokevirtual 50, 3) := by decide +kernel
theorem dX1_within_85 : decode cX1_within 85 = .ok (.ifCond .eq 38, 3) := by decide +kernel
theorem dX1_within_88 : decode cX1_within 88 = .ok (.aload_n 0, 1) := by decide +kernel
theorem dX1_within_89 : decode cX1_within 89 = .ok (.aload_n 0, 1) := by decide +kernel
theorem dX1_within_90 : decode cX1_within 90 = .ok (.getfield 23, 3) := by decide +kernel
theorem dX1_within_93 : decode cX1_within 93 = .ok (.iload 6, 2) := by decide +kernel
theorem dX1_within_95 : decode cX1_within 95 = .ok (.iaload, 1) := by decide +kernel
theorem dX1_within_96 : decode cX1_within 96 = .ok (.invokevirtual 58, 3) := by decide +kernel
theorem dX1_within_99 : decode cX1_within 99 = .ok (.iload_n 3, 1) := by decide +kernel
theorem dX1_within_100 : decode cX1_within 100 = .ok (.if_icmp .ne 23, 3) := by decide +kernel
theorem dX1_within_103 : decode cX1_within 103 = .ok (.aload_n 0, 1) := by decide +kernel
theorem dX1_within_104 : decode cX1_within 104 = .ok (.aload_n 0, 1) := by decide +kernel
theorem dX1_within_105 : decode cX1_within 105 = .ok (.getfield 23, 3) := by decide +kernel
theorem dX1_within_108 : decode cX1_within 108 = .ok (.iload 6, 2) := by decide +kernel
theorem dX1_within_110 : decode cX1_within 110 = .ok (.iaload, 1) := by decide +kernel
theorem dX1_within_111 : decode cX1_within 111 = .ok (.invokevirtual 54, 3) := by decide +kernel
theorem dX1_within_114 : decode cX1_within 114 = .ok (.iload 4, 2) := by decide +kernel
theorem dX1_within_116 : decode cX1_within 116 = .ok (.if_icmp .ge 7, 3) := by decide +kernel
theorem dX1_within_119 : decode cX1_within 119 = .ok (.iconst 1, 1) := by decide +kernel
theorem dX1_within_120 : decode cX1_within 120 = .ok (.goto 4, 3) := by decide +kernel
theorem dX1_within_123 : decode cX1_within 123 = .ok (.iconst 0, 1) := by decide +kernel
theorem dX1_within_124 : decode cX1_within 124 = .ok (.iadd, 1) := by decide +kernel
theorem dX1_within_125 : decode cX1_within 125 = .ok (.istore 5, 2) := by decide +kernel
theorem dX1_within_127 : decode cX1_within 127 = .ok (.iinc 6 1, 3) := by decide +kernel
theorem dX1_within_130 : decode cX1_within 130 = .ok (.goto (-71), 3) := by decide +kernel
theorem dX1_within_133 : decode cX1_within 133 = .ok (.iload_n 2, 1) := by decide +kernel
theorem dX1_within_134 : decode cX1_within 134 = .ok (.iload 5, 2) := by decide +kernel
theorem dX1_within_136 : decode cX1_within 136 = .ok (.iconst 2, 1) := by decide +kernel
theorem dX1_within_137 : decode cX1_within 137 = .ok (.irem, 1) := by decide +kernel
theorem dX1_within_138 : decode cX1_within 138 = .ok (.iadd, 1) := by decide +kernel
theorem dX1_within_139 : decode cX1_within 139 = .ok (.istore_n 2, 1) := by decide +kernel
theorem dX1_within_140 : decode cX1_within 140 = .ok (.iinc 4 1, 3) := by decide +kernel
theorem dX1_within_143 : decode cX1_within 143 = .ok (.goto (-104), 3) := by decide +kernel
theorem dX1_within_146 : decode cX1_within 146 = .ok (.iinc 3 1, 3) := by decide +kernel
theorem dX1_within_149 : decode cX1_within 149 = .ok (.goto (-121), 3) := by decide +kernel
theorem dX1_within_152 : decode cX1_within 152 = .ok (.iload_n 2, 1) := by decide +kernel
theorem dX1_within_153 : decode cX1_within 153 = .ok (.ireturn, 1) := by decide +kernel
set_option maxRecDepth 20000 in
theorem ggX1_crossed_X1_all : GoodIn wsX1_crossed wsX1_all := goodIn_r _ [6, 7, 8, 43, 44, 45, 46, 47, 48, 49, 50, 51, 52] (by decide +kernel) (by decide +kernel)
set_option maxRecDepth 20000 in
theorem gX1_crossed_X1_all : GoodIn wsX1_crossed (wsV RX1 103 RX1 yX1_all wsX1_all) := goodIn_app (goodIn_of _ (by decide +kernel)) ggX1_crossed_X1_all
set_option maxRecDepth 20000 in
theorem ggX1_crossed_X1_isCrossed : GoodIn wsX1_crossed wsX1_isCrossed := goodIn_r _ [12, 13, 14, 15, 5, 16, 17, 18, 19, 20, 8, 7, 21, 22, 23, 24, 25, 26, 27, 28, 29, 30, 31, 32, 33, 34, 35, 36, 37, 38, 39, 40, 41, 42, 43, 44, 45, 46, 47, 48, 49, 50, 51, 52] (by decide +kernel) (by decide +kernel)
set_option maxRecDepth 20000 in
theorem gX1_crossed_X1_isCrossed : GoodIn wsX1_crossed (wsV RX1 107 RX1 yX1_isCrossed wsX1_isCrossed) := goodIn_app (goodIn_of _ (by decide +kernel)) ggX1_crossed_X1_isCrossed
theorem dX1_crossed_0 : decode cX1_crossed 0 = .ok (.aload_n 0, 1) := by decide +kernel
theorem dX1_crossed_1 : decode cX1_crossed 1 = .ok (.iconst 0, 1) := by decide +kernel
theorem dX1_crossed_2 : decode cX1_crossed 2 = .ok (.putfield 36, 3) := by decide +kernel
theorem dX1_crossed_5 : decode cX1_crossed 5 = .ok (.iconst 0, 1) := by decide +kernel
theorem dX1_crossed_6 : decode cX1_crossed 6 = .ok (.istore_n 1, 1) := by decide +kernel
theorem dX1_crossed_7 : decode cX1_crossed 7 = .ok (.iconst 0, 1) := by decide +kernel
theorem dX1_crossed_8 : decode cX1_crossed 8 = .ok (.istore_n 2, 1) := by decide +kernel
theorem dX1_crossed_9 : decode cX1_crossed 9 = .ok (.iload_n 2, 1) := by decide +kernel
theorem dX1_crossed_10 : decode cX1_crossed 10 = .ok (.aload_n 0, 1) := by decide +kernel
theorem dX1_crossed_11 : decode cX1_crossed 11 = .ok (.invokevirtual 103, 3) := by decide +kernel
theorem dX1_crossed_14 : decode cX1_crossed 14 = .ok (.if_icmp .ge 25, 3) := by decide +kernel
theorem dX1_crossed_17 : decode cX1_crossed 17 = .ok (.iload_n 1, 1) := by decide +kernel
theorem dX1_crossed_18 : decode cX1_crossed 18 = .ok (.aload_n 0, 1) := by decide +kernel
theorem dX1_crossed_19 : decode cX1_crossed 19 = .ok (.iload_n 2, 1) := by decide +kernel
theorem dX1_crossed_20 : decode cX1_crossed 20 = .ok (.invokevirtual 107, 3) := by decide +kernel
theorem dX1_crossed_23 : decode cX1_crossed 23 = .ok (.ifCond .eq 7, 3) := by decide +kernel
theorem dX1_crossed_26 : decode cX1_crossed 26 = .ok (.iconst 1, 1) := by decide +kernel
theorem dX1_crossed_27 : decode cX1_crossed 27 = .ok (.goto 4, 3) := by decide +kernel
theorem dX1_crossed_30 : decode cX1_crossed 30 = .ok (.iconst 0, 1) := by decide +kernel
theorem dX1_crossed_31 : decode cX1_crossed 31 = .ok (.iadd, 1) := by decide +kernel
theorem dX1_crossed_32 : decode cX1_crossed 32 = .ok (.istore_n 1, 1) := by decide +kernel
theorem dX1_crossed_33 : decode cX1_crossed 33 = .ok (.iinc 2 1, 3) := by decide +kernel
theorem dX1_crossed_36 : decode cX1_crossed 36 = .ok (.goto (-27), 3) := by decide +kernel
theorem dX1_crossed_39 : decode cX1_crossed 39 = .ok (.iload_n 1, 1) := by decide +kernel
theorem dX1_crossed_40 : decode cX1_crossed 40 = .ok (.ireturn, 1) := by decide +kernel
theorem dJ9_abs_0f7a4_0 : decode cJ9_abs_0f7a4 0 = .ok (.iload_n 0, 1) := by decide +kernel
theorem dJ9_abs_0f7a4_1 : decode cJ9_abs_0f7a4 1 = .ok (.ifCond .ge 8, 3) := by decide +kernel
theorem dJ9_abs_0f7a4_4 : decode cJ9_abs_0f7a4 4 = .ok (.iload_n 0, 1) := by decide +kernel
theorem dJ9_abs_0f7a4_5 : decode cJ9_abs_0f7a4 5 = .ok (.ineg, 1) := by decide +kernel
theorem dJ9_abs_0f7a4_6 : decode cJ9_abs_0f7a4 6 = .ok (.goto 4, 3) := by decide +kernel
theorem dJ9_abs_0f7a4_9 : decode cJ9_abs_0f7a4 9 = .ok (.iload_n 0, 1) := by decide +kernel
theorem dJ9_abs_0f7a4_10 : decode cJ9_abs_0f7a4 10 = .ok (.ireturn, 1) := by decide +kernel
theorem dJ9_max_f86c9_0 : decode cJ9_max_f86c9 0 = .ok (.lload_n 0, 1) := by decide +kernel
theorem dJ9_max_f86c9_1 : decode cJ9_max_f86c9 1 = .ok (.lload_n 2, 1) := by decide +kernel
theorem dJ9_max_f86c9_2 : decode cJ9_max_f86c9 2 = .ok (.lcmp, 1) := by decide +kernel
theorem dJ9_max_f86c9_3 : decode cJ9_max_f86c9 3 = .ok (.ifCond .lt 7, 3) := by decide +kernel
theorem dJ9_max_f86c9_6 : decode cJ9_max_f86c9 6 = .ok (.lload_n 0, 1) := by decide +kernel
theorem dJ9_max_f86c9_7 : decode cJ9_max_f86c9 7 = .ok (.goto 4, 3) := by decide +kernel
theorem dJ9_max_f86c9_10 : decode cJ9_max_f86c9 10 = .ok (.lload_n 2, 1) := by decide +kernel
theorem dJ9_max_f86c9_11 : decode cJ9_max_f86c9 11 = .ok (.lreturn, 1) := by decide +kernel
theorem dJ9_min_f86c9_0 : decode cJ9_min_f86c9 0 = .ok (.lload_n 0, 1) := by decide +kernel
theorem dJ9_min_f86c9_1 : decode cJ9_min_f86c9 1 = .ok (.lload_n 2, 1) := by decide +kernel
theorem dJ9_min_f86c9_2 : decode cJ9_min_f86c9 2 = .ok (.lcmp, 1) := by decide +kernel
theorem dJ9_min_f86c9_3 : decode cJ9_min_f86c9 3 = .ok (.ifCond .gt 7, 3) := by decide +kernel
theorem dJ9_min_f86c9_6 : decode cJ9_min_f86c9 6 = .ok (.lload_n 0, 1) := by decide +kernel
theorem dJ9_min_f86c9_7 : decode cJ9_min_f86c9 7 = .ok (.goto 4, 3) := by decide +kernel
theorem dJ9_min_f86c9_10 : decode cJ9_min_f86c9 10 = .ok (.lload_n 2, 1) := by decide +kernel
theorem dJ9_min_f86c9_11 : decode cJ9_min_f86c9 11 = .ok (.lreturn, 1) := by decide +kernel
theorem dJ7_fill_53178_0 : decode cJ7_fill_53178 0 = .ok (.iconst 0, 1) := by decide +kernel
theorem dJ7_fill_53178_1 : decode cJ7_fill_53178 1 = .ok (.istore_n 2, 1) := by decide +kernel
theorem dJ7_fill_53178_2 : decode cJ7_fill_53178 2 = .ok (.aload_n 0, 1) := by decide +kernel
theorem dJ7_fill_53178_3 : decode cJ7_fill_53178 3 = .ok (.arraylength, 1) := by decide +kernel
theorem dJ7_fill_53178_4 : decode cJ7_fill_53178 4 = .ok (.istore_n 3, 1) := by decide +kernel
theorem dJ7_fill_53178_5 : decode cJ7_fill_53178 5 = .ok (.iload_n 2, 1) := by decide +kernel
theorem dJ7_fill_53178_6 : decode cJ7_fill_53178 6 = .ok (.iload_n 3, 1) := by decide +kernel
theorem dJ7_fill_53178_7 : decode cJ7_fill_53178 7 = .ok (.if_icmp .ge 13, 3) := by decide +kernel
theorem dJ7_fill_53178_10 : decode cJ7_fill_53178 10 = .ok (.aload_n 0, 1) := by decide +kernel
theorem dJ7_fill_53178_11 : decode cJ7_fill_53178 11 = .ok (.iload_n 2, 1) := by decide +kernel
theorem dJ7_fill_53178_12 : decode cJ7_fill_53178 12 = .ok (.iload_n 1, 1) := by decide +kernel
theorem dJ7_fill_53178_13 : decode cJ7_fill_53178 13 = .ok (.iastore, 1) := by decide +kernel
theorem dJ7_fill_53178_14 : decode cJ7_fill_53178 14 = .ok (.iinc 2 1, 3) := by decide +kernel
theorem dJ7_fill_53178_17 : decode cJ7_fill_53178 17 = .ok (.goto (-12), 3) := by decide +kernel
theorem dJ7_fill_53178_20 : decode cJ7_fill_53178 20 = .ok (.return_, 1) := by decide +kernel
set_option maxRecDepth 20000 in
theorem ggL_crossing_X0_crossing : GoodIn wsL_crossing wsX0_crossing := goodIn_ca (goodIn_r _ [6, 7, 8, 9, 10, 11, 12, 13, 14, 15, 16, 17, 5, 18, 19, 20, 21, 22, 23, 24, 25, 26, 27, 28, 29, 30, 31, 32, 33, 34, 35, 36, 37, 38, 39, 40, 41, 42, 43, 44, 45, 46, 47, 48, 49, 50, 51, 52, 53, 54] (by decide +kernel) (by decide +kernel)) (goodIn_sub (fun _ h => List.mem_cons_of_mem _ (List.mem_append_right _ h)) (by decide +kernel))
set_option maxRecDepth 20000 in
theorem gL_crossing_X0_crossing : GoodIn wsL_crossing (wsV RL 7 RX0 yX0_crossing wsX0_crossing) := goodIn_app (goodIn_of _ (by decide +kernel)) ggL_crossing_X0_crossing
theorem dL_crossing_0 : decode cL_crossing 0 = .ok (.aload_n 3, 1) := by decide +kernel
theorem dL_crossing_1 : decode cL_crossing 1 = .ok (.iconst 0, 1) := by decide +kernel
theorem dL_crossing_2 : decode cL_crossing 2 = .ok (.aload_n 0, 1) := by decide +kernel
theorem dL_crossing_3 : decode cL_crossing 3 = .ok (.iload_n 1, 1) := by decide +kernel
theorem dL_crossing_4 : decode cL_crossing 4 = .ok (.iload_n 2, 1) := by decide +kernel
theorem dL_crossing_5 : decode cL_crossing 5 = .ok (.invokevirtual 7, 3) := by decide +kernel
theorem dL_crossing_8 : decode cL_crossing 8 = .ok (.i2l, 1) := by decide +kernel
theorem dL_crossing_9 : decode cL_crossing 9 = .ok (.lastore, 1) := by decide +kernel
theorem dL_crossing_10 : decode cL_crossing 10 = .ok (.goto 7, 3) := by decide +kernel
theorem dL_crossing_13 : decode cL_crossing 13 = .ok (.astore 4, 2) := by decide +kernel
theorem dL_crossing_15 : decode cL_crossing 15 = .ok (.iconst 1, 1) := by decide +kernel
theorem dL_crossing_16 : decode cL_crossing 16 = .ok (.ireturn, 1) := by decide +kernel
theorem dL_crossing_17 : decode cL_crossing 17 = .ok (.iconst 0, 1) := by decide +kernel
theorem dL_crossing_18 : decode cL_crossing 18 = .ok (.ireturn, 1) := by decide +kernel
set_option maxRecDepth 20000 in
theorem ggL_law_X0_init : GoodIn wsL_law wsX0_init := goodIn_r _ [9, 10, 11, 12, 13, 14, 15, 16, 17, 18, 19, 20, 21, 22, 23, 24, 356, 357, 358, 359, 360, 361, 362, 363, 364, 365, 366] (by decide +kernel) (by decide +kernel)
set_option maxRecDepth 20000 in
theorem gL_law_X0_init : GoodIn wsL_law (wsX0_init) := ggL_law_X0_init
set_option maxRecDepth 20000 in
theorem ggL_law_X1_init : GoodIn wsL_law wsX1_init := goodIn_r _ [27, 28, 11, 12, 29, 30, 31, 16, 32, 33, 34, 35, 36, 37, 367, 368, 369, 370, 371, 372, 373, 374, 375, 376] (by decide +kernel) (by decide +kernel)
set_option maxRecDepth 20000 in
theorem gL_law_X1_init : GoodIn wsL_law (wsX1_init) := ggL_law_X1_init
set_option maxRecDepth 20000 in
theorem ggL_law_X0_field : GoodIn wsL_law wsX0_field := goodIn_r _ [41, 13, 14, 17, 42, 43, 2, 44, 45, 46, 47, 48, 49, 50, 51, 52, 24, 23, 22, 356, 357, 358, 359, 360, 361, 362, 363, 364, 365, 366] (by decide +kernel) (by decide +kernel)
set_option maxRecDepth 20000 in
theorem gL_law_X0_field : GoodIn wsL_law (wsV RL 19 RX0 yX0_field wsX0_field) := goodIn_app (goodIn_of _ (by decide +kernel)) ggL_law_X0_field
set_option maxRecDepth 20000 in
theorem ggL_law_X1_field : GoodIn wsL_law wsX1_field := goodIn_r _ [56, 57, 29, 30, 58, 32, 367, 368, 369, 370, 371, 372, 373, 374, 375, 376] (by decide +kernel) (by decide +kernel)
set_option maxRecDepth 20000 in
theorem gL_law_X1_field : GoodIn wsL_law (wsV RL 23 RX1 yX1_field wsX1_field) := goodIn_app (goodIn_of _ (by decide +kernel)) ggL_law_X1_field
set_option maxRecDepth 20000 in
theorem ggL_law_X0_set : GoodIn wsL_law wsX0_set := goodIn_r _ [62, 13, 17, 63, 64, 65, 2, 66, 14, 67, 68, 69, 70, 71, 72, 73, 74, 75, 76, 77, 78, 79, 80, 81, 82, 356, 357, 358, 359, 360, 361, 362, 363, 364, 365, 366] (by decide +kernel) (by decide +kernel)
set_option maxRecDepth 20000 in
theorem gL_law_X0_set : GoodIn wsL_law (wsV RL 24 RX0 yX0_set wsX0_set) := goodIn_app (goodIn_of _ (by decide +kernel)) ggL_law_X0_set
set_option maxRecDepth 20000 in
theorem ggL_law_X1_set : GoodIn wsL_law wsX1_set := goodIn_r _ [86, 57, 29, 30, 87, 88, 32, 367, 368, 369, 370, 371, 372, 373, 374, 375, 376] (by decide +kernel) (by decide +kernel)
set_option maxRecDepth 20000 in
theorem gL_law_X1_set : GoodIn wsL_law (wsV RL 28 RX1 yX1_set wsX1_set) := goodIn_app (goodIn_of _ (by decide +kernel)) ggL_law_X1_set
set_option maxRecDepth 20000 in
theorem ggL_law_X0_row : GoodIn wsL_law wsX0_row := goodIn_r _ [92, 13, 17, 63, 64, 65, 2, 66, 14, 79, 80, 81, 82, 67, 68, 69, 70, 71, 72, 73, 74, 75, 76, 77, 78, 356, 357, 358, 359, 360, 361, 362, 363, 364, 365, 366] (by decide +kernel) (by decide +kernel)
set_option maxRecDepth 20000 in
theorem gL_law_X0_row : GoodIn wsL_law (wsV RL 29 RX0 yX0_row wsX0_row) := goodIn_app (goodIn_of _ (by decide +kernel)) ggL_law_X0_row
set_option maxRecDepth 20000 in
theorem ggL_law_X1_row : GoodIn wsL_law wsX1_row := goodIn_r _ [96, 57, 30, 29, 32, 97, 87, 98, 88, 367, 368, 369, 370, 371, 372, 373, 374, 375, 376] (by decide +kernel) (by decide +kernel)
set_option maxRecDepth 20000 in
theorem gL_law_X1_row : GoodIn wsL_law (wsV RL 32 RX1 yX1_row wsX1_row) := goodIn_app (goodIn_of _ (by decide +kernel)) ggL_law_X1_row
set_option maxRecDepth 20000 in
theorem ggL_law_X0_height : GoodIn wsL_law wsX0_height := goodIn_r _ [102, 103, 104, 15, 356, 357, 358, 359, 360, 361, 362, 363, 364, 365, 366] (by decide +kernel) (by decide +kernel)
set_option maxRecDepth 20000 in
theorem gL_law_X0_height : GoodIn wsL_law (wsV RL 33 RX0 yX0_height wsX0_height) := goodIn_app (goodIn_of _ (by decide +kernel)) ggL_law_X0_height
set_option maxRecDepth 20000 in
theorem ggL_law_X1_height : GoodIn wsL_law wsX1_height := goodIn_r _ [108, 57, 109, 110, 31, 367, 368, 369, 370, 371, 372, 373, 374, 375, 376] (by decide +kernel) (by decide +kernel)
set_option maxRecDepth 20000 in
theorem gL_law_X1_height : GoodIn wsL_law (wsV RL 37 RX1 yX1_height wsX1_height) := goodIn_app (goodIn_of _ (by decide +kernel)) ggL_law_X1_height
set_option maxRecDepth 20000 in
theorem ggL_law_X0_make : GoodIn wsL_law wsX0_make := goodIn_r _ [114, 24, 49, 50, 51, 2, 52, 23, 22, 45, 46, 47, 48, 115, 116, 117, 118, 18, 19, 14, 13, 119, 120, 121, 122, 123, 124, 125, 126, 127, 128, 129, 130, 79, 80, 81, 82, 131, 132, 133, 134, 17, 15, 135, 136, 137, 138, 139, 140, 141, 142, 143, 144, 145, 146, 147, 148, 149, 150, 151, 152, 153, 154, 155, 156, 157, 158, 159, 160, 161, 162, 163, 164, 165, 166, 167, 168, 169, 170, 171, 172, 173, 174, 175, 176, 177, 178, 179, 21, 20, 180, 181, 182, 183, 356, 357, 358, 359, 360, 361, 362, 363, 364, 365, 366] (by decide +kernel) (by decide +kernel)
set_option maxRecDepth 20000 in
theorem gL_law_X0_make : GoodIn wsL_law (wsV RL 38 RX0 yX0_make wsX0_make) := goodIn_app (goodIn_of _ (by decide +kernel)) ggL_law_X0_make
set_option maxRecDepth 20000 in
theorem ggL_law_X1_make : GoodIn wsL_law wsX1_make := goodIn_r _ [187, 57, 58, 34, 37, 188, 189, 190, 5, 191, 30, 29, 192, 193, 194, 195, 196, 197, 198, 199, 200, 201, 202, 203, 204, 205, 206, 207, 208, 209, 210, 211, 212, 213, 214, 215, 32, 216, 217, 218, 219, 31, 220, 221, 222, 223, 224, 225, 226, 227, 228, 229, 230, 231, 232, 233, 234, 235, 236, 237, 238, 239, 240, 241, 242, 243, 33, 36, 244, 245, 246, 247, 248, 249, 250, 251, 252, 253, 254, 255, 256, 257, 258, 259, 260, 261, 262, 263, 264, 367, 368, 369, 370, 371, 372, 373, 374, 375, 376] (by decide +kernel) (by decide +kernel)
set_option maxRecDepth 20000 in
theorem gL_law_X1_make : GoodIn wsL_law (wsV RL 42 RX1 yX1_make wsX1_make) := goodIn_app (goodIn_of _ (by decide +kernel)) ggL_law_X1_make
set_option maxRecDepth 20000 in
theorem ggL_law_X0_size : GoodIn wsL_law wsX0_size := goodIn_r _ [268, 21, 269, 270, 271, 2, 272, 24, 356, 357, 358, 359, 360, 361, 362, 363, 364, 365, 366] (by decide +kernel) (by decide +kernel)
set_option maxRecDepth 20000 in
theorem gL_law_X0_size : GoodIn wsL_law (wsV RL 43 RX0 yX0_size wsX0_size) := goodIn_app (goodIn_of _ (by decide +kernel)) ggL_law_X0_size
set_option maxRecDepth 20000 in
theorem ggL_law_X1_size : GoodIn wsL_law wsX1_size := goodIn_r _ [276, 57, 34, 277, 278, 279, 5, 280, 58, 367, 368, 369, 370, 371, 372, 373, 374, 375, 376] (by decide +kernel) (by decide +kernel)
set_option maxRecDepth 20000 in
theorem gL_law_X1_size : GoodIn wsL_law (wsV RL 47 RX1 yX1_size wsX1_size) := goodIn_app (goodIn_of _ (by decide +kernel)) ggL_law_X1_size
set_option maxRecDepth 20000 in
theorem ggL_law_X0_isClosed : GoodIn wsL_law wsX0_isClosed := goodIn_r _ [284, 23, 269, 270, 271, 2, 272, 24, 356, 357, 358, 359, 360, 361, 362, 363, 364, 365, 366] (by decide +kernel) (by decide +kernel)
set_option maxRecDepth 20000 in
theorem gL_law_X0_isClosed : GoodIn wsL_law (wsV RL 48 RX0 yX0_isClosed wsX0_isClosed) := goodIn_app (goodIn_of _ (by decide +kernel)) ggL_law_X0_isClosed
set_option maxRecDepth 20000 in
theorem ggL_law_X1_isClosed : GoodIn wsL_law wsX1_isClosed := goodIn_r _ [288, 57, 36, 277, 278, 279, 5, 280, 58, 367, 368, 369, 370, 371, 372, 373, 374, 375, 376] (by decide +kernel) (by decide +kernel)
set_option maxRecDepth 20000 in
theorem gL_law_X1_isClosed : GoodIn wsL_law (wsV RL 51 RX1 yX1_isClosed wsX1_isClosed) := goodIn_app (goodIn_of _ (by decide +kernel)) ggL_law_X1_isClosed
set_option maxRecDepth 20000 in
theorem ggL_law_X0_edge : GoodIn wsL_law wsX0_edge := goodIn_r _ [292, 20, 21, 293, 266, 267, 2, 268, 269, 270, 271, 272, 24, 356, 357, 358, 359, 360, 361, 362, 363, 364, 365, 366] (by decide +kernel) (by decide +kernel)
set_option maxRecDepth 20000 in
theorem gL_law_X0_edge : GoodIn wsL_law (wsV RL 52 RX0 yX0_edge wsX0_edge) := goodIn_app (goodIn_of _ (by decide +kernel)) ggL_law_X0_edge
set_option maxRecDepth 20000 in
theorem ggL_law_X1_edge : GoodIn wsL_law wsX1_edge := goodIn_r _ [297, 57, 34, 33, 277, 278, 279, 5, 280, 58, 367, 368, 369, 370, 371, 372, 373, 374, 375, 376] (by decide +kernel) (by decide +kernel)
set_option maxRecDepth 20000 in
theorem gL_law_X1_edge : GoodIn wsL_law (wsV RL 55 RX1 yX1_edge wsX1_edge) := goodIn_app (goodIn_of _ (by decide +kernel)) ggL_law_X1_edge
set_option maxRecDepth 20000 in
theorem ggL_law_L_crossing : GoodIn wsL_law wsL_crossing := goodIn_ca (goodIn_r _ [301, 302, 303, 304, 305, 2, 306, 307, 308, 17, 15, 309, 310, 74, 311, 172, 173, 174, 175, 14, 13, 158, 159, 160, 161, 312, 313, 314, 315, 316, 317, 318, 319, 131, 132, 133, 134, 320, 321, 322, 323, 324, 325, 326, 356, 357, 358, 359, 360, 361, 362, 363, 364, 365, 366] (by decide +kernel) (by decide +kernel)) (goodIn_sub (fun _ h => List.mem_append_right _ h) (by decide +kernel))
set_option maxRecDepth 20000 in
theorem gL_law_L_crossing : GoodIn wsL_law (va_wsS RL 56 yL_crossing wsL_crossing) := goodIn_app (goodIn_of _ (by decide +kernel)) ggL_law_L_crossing
set_option maxRecDepth 20000 in
theorem ggL_law_X1_crossing : GoodIn wsL_law wsX1_crossing := goodIn_r _ [330, 57, 31, 188, 189, 190, 5, 191, 30, 29, 192, 193, 194, 195, 196, 197, 198, 199, 200, 201, 202, 203, 204, 205, 206, 207, 208, 209, 210, 211, 212, 213, 214, 215, 32, 216, 217, 218, 219, 220, 221, 222, 223, 367, 368, 369, 370, 371, 372, 373, 374, 375, 376] (by decide +kernel) (by decide +kernel)
set_option maxRecDepth 20000 in
theorem gL_law_X1_crossing : GoodIn wsL_law (wsV RL 61 RX1 yX1_crossing wsX1_crossing) := goodIn_app (goodIn_of _ (by decide +kernel)) ggL_law_X1_crossing
set_option maxRecDepth 20000 in
theorem ggL_law_X1_thrown : GoodIn wsL_law wsX1_thrown := goodIn_r _ [334, 57, 367, 368, 369, 370, 371, 372, 373, 374, 375, 376] (by decide +kernel) (by decide +kernel)
set_option maxRecDepth 20000 in
theorem gL_law_X1_thrown : GoodIn wsL_law (wsV RL 62 RX1 yX1_thrown wsX1_thrown) := goodIn_app (goodIn_of _ (by decide +kernel)) ggL_law_X1_thrown
set_option maxRecDepth 20000 in
theorem ggL_law_X0_within : GoodIn wsL_law wsX0_within := goodIn_r _ [338, 14, 339, 282, 283, 2, 284, 23, 269, 270, 271, 272, 24, 340, 341, 342, 343, 13, 22, 150, 151, 152, 153, 356, 357, 358, 359, 360, 361, 362, 363, 364, 365, 366] (by decide +kernel) (by decide +kernel)
set_option maxRecDepth 20000 in
theorem gL_law_X0_within : GoodIn wsL_law (wsV RL 65 RX0 yX0_within wsX0_within) := goodIn_app (goodIn_of _ (by decide +kernel)) ggL_law_X0_within
set_option maxRecDepth 20000 in
theorem ggL_law_X1_within : GoodIn wsL_law wsX1_within := goodIn_r _ [347, 57, 36, 30, 29, 34, 33, 277, 278, 279, 5, 280, 58, 204, 205, 206, 207, 208, 209, 210, 211, 200, 201, 202, 203, 367, 368, 369, 370, 371, 372, 373, 374, 375, 376] (by decide +kernel) (by decide +kernel)
set_option maxRecDepth 20000 in
theorem gL_law_X1_within : GoodIn wsL_law (wsV RL 68 RX1 yX1_within wsX1_within) := goodIn_app (goodIn_of _ (by decide +kernel)) ggL_law_X1_within
set_option maxRecDepth 20000 in
theorem ggL_law_X0_crossed : GoodIn wsL_law wsX0_crossed := goodIn_r _ [351, 172, 173, 174, 2, 175, 14, 13, 158, 159, 160, 161, 312, 313, 314, 315, 316, 317, 318, 319, 131, 132, 133, 134, 17, 15, 320, 321, 322, 323, 356, 357, 358, 359, 360, 361, 362, 363, 364, 365, 366] (by decide +kernel) (by decide +kernel)
set_option maxRecDepth 20000 in
theorem gL_law_X0_crossed : GoodIn wsL_law (wsV RL 69 RX0 yX0_crossed wsX0_crossed) := goodIn_app (goodIn_of _ (by decide +kernel)) ggL_law_X0_crossed
set_option maxRecDepth 20000 in
theorem ggL_law_X1_crossed : GoodIn wsL_law wsX1_crossed := goodIn_r _ [355, 57, 188, 189, 190, 5, 191, 30, 29, 192, 193, 194, 195, 196, 197, 198, 199, 200, 201, 202, 203, 204, 205, 206, 207, 208, 209, 210, 211, 212, 213, 214, 215, 32, 216, 217, 218, 219, 31, 220, 221, 222, 223, 367, 368, 369, 370, 371, 372, 373, 374, 375, 376] (by decide +kernel) (by decide +kernel)
set_option maxRecDepth 20000 in
theorem gL_law_X1_crossed : GoodIn wsL_law (wsV RL 72 RX1 yX1_crossed wsX1_crossed) := goodIn_app (goodIn_of _ (by decide +kernel)) ggL_law_X1_crossed
theorem dL_law_0 : decode cL_law 0 = .ok (.new 8, 3) := by decide +kernel
theorem dL_law_3 : decode cL_law 3 = .ok (.dup, 1) := by decide +kernel
theorem dL_law_4 : decode cL_law 4 = .ok (.invokespecial 15, 3) := by decide +kernel
theorem dL_law_7 : decode cL_law 7 = .ok (.astore_n 1, 1) := by decide +kernel
theorem dL_law_8 : decode cL_law 8 = .ok (.new 16, 3) := by decide +kernel
theorem dL_law_11 : decode cL_law 11 = .ok (.dup, 1) := by decide +kernel
theorem dL_law_12 : decode cL_law 12 = .ok (.invokespecial 18, 3) := by decide +kernel
theorem dL_law_15 : decode cL_law 15 = .ok (.astore_n 2, 1) := by decide +kernel
theorem dL_law_16 : decode cL_law 16 = .ok (.iconst 1, 1) := by decide +kernel
theorem dL_law_17 : decode cL_law 17 = .ok (.newarray .long, 2) := by decide +kernel
theorem dL_law_19 : decode cL_law 19 = .ok (.astore_n 3, 1) := by decide +kernel
theorem dL_law_20 : decode cL_law 20 = .ok (.iconst 0, 1) := by decide +kernel
theorem dL_law_21 : decode cL_law 21 = .ok (.istore 4, 2) := by decide +kernel
theorem dL_law_23 : decode cL_law 23 = .ok (.iload 4, 2) := by decide +kernel
theorem dL_law_25 : decode cL_law 25 = .ok (.aload_n 0, 1) := by decide +kernel
theorem dL_law_26 : decode cL_law 26 = .ok (.arraylength, 1) := by decide +kernel
theorem dL_law_27 : decode cL_law 27 = .ok (.iconst 4, 1) := by decide +kernel
theorem dL_law_28 : decode cL_law 28 = .ok (.isub, 1) := by decide +kernel
theorem dL_law_29 : decode cL_law 29 = .ok (.if_icmp .gt 439, 3) := by decide +kernel
theorem dL_law_32 : decode cL_law 32 = .ok (.aload_n 0, 1) := by decide +kernel
theorem dL_law_33 : decode cL_law 33 = .ok (.iload 4, 2) := by decide +kernel
theorem dL_law_35 : decode cL_law 35 = .ok (.iaload, 1) := by decide +kernel
theorem dL_law_36 : decode cL_law 36 = .ok (.bipush 15, 2) := by decide +kernel
theorem dL_law_38 : decode cL_law 38 = .ok (.iand, 1) := by decide +kernel
theorem dL_law_39 : decode cL_law 39 = .ok (.tableswitch 423 0 10 #[57, 94, 143, 192, 217, 230, 255, 280, 317, 385, 410], 57) := by decide +kernel
theorem dL_law_96 : decode cL_law 96 = .ok (.aload_n 1, 1) := by decide +kernel
theorem dL_law_97 : decode cL_law 97 = .ok (.aload_n 0, 1) := by decide +kernel
theorem dL_law_98 : decode cL_law 98 = .ok (.iload 4, 2) := by decide +kernel
theorem dL_law_100 : decode cL_law 100 = .ok (.iconst 1, 1) := by decide +kernel
theorem dL_law_101 : decode cL_law 101 = .ok (.iadd, 1) := by decide +kernel
theorem dL_law_102 : decode cL_law 102 = .ok (.iaload, 1) := by decide +kernel
theorem dL_law_103 : decode cL_law 103 = .ok (.aload_n 0, 1) := by decide +kernel
theorem dL_law_104 : decode cL_law 104 = .ok (.iload 4, 2) := by decide +kernel
theorem dL_law_106 : decode cL_law 106 = .ok (.iconst 2, 1) := by decide +kernel
theorem dL_law_107 : decode cL_law 107 = .ok (.iadd, 1) := by decide +kernel
theorem dL_law_108 : decode cL_law 108 = .ok (.iaload, 1) := by decide +kernel
theorem dL_law_109 : decode cL_law 109 = .ok (.invokevirtual 19, 3) := by decide +kernel
theorem dL_law_112 : decode cL_law 112 = .ok (.aload_n 2, 1) := by decide +kernel
theorem dL_law_113 : decode cL_law 113 = .ok (.aload_n 0, 1) := by decide +kernel
theorem dL_law_114 : decode cL_law 114 = .ok (.iload 4, 2) := by decide +kernel
theorem dL_law_116 : decode cL_law 116 = .ok (.iconst 1, 1) := by decide +kernel
theorem dL_law_117 : decode cL_law 117 = .ok (.iadd, 1) := by decide +kernel
theorem dL_law_118 : decode cL_law 118 = .ok (.iaload, 1) := by decide +kernel
theorem dL_law_119 : decode cL_law 119 = .ok (.aload_n 0, 1) := by decide +kernel
theorem dL_law_120 : decode cL_law 120 = .ok (.iload 4, 2) := by decide +kernel
theorem dL_law_122 : decode cL_law 122 = .ok (.iconst 2, 1) := by decide +kernel
theorem dL_law_123 : decode cL_law 123 = .ok (.iadd, 1) := by decide +kernel
theorem dL_law_124 : decode cL_law 124 = .ok (.iaload, 1) := by decide +kernel
theorem dL_law_125 : decode cL_law 125 = .ok (.invokevirtual 23, 3) := by decide +kernel
theorem dL_law_128 : decode cL_law 128 = .ok (.if_icmp .eq 334, 3) := by decide +kernel
theorem dL_law_131 : decode cL_law 131 = .ok (.iconst 0, 1) := by decide +kernel
theorem dL_law_132 : decode cL_law 132 = .ok (.ireturn, 1) := by decide +kernel
theorem dL_law_133 : decode cL_law 133 = .ok (.aload_n 1, 1) := by decide +kernel
theorem dL_law_134 : decode cL_law 134 = .ok (.aload_n 0, 1) := by decide +kernel
theorem dL_law_135 : decode cL_law 135 = .ok (.iload 4, 2) := by decide +kernel
theorem dL_law_137 : decode cL_law 137 = .ok (.iconst 1, 1) := by decide +kernel
theorem dL_law_138 : decode cL_law 138 = .ok (.iadd, 1) := by decide +kernel
theorem dL_law_139 : decode cL_law 139 = .ok (.iaload, 1) := by decide +kernel
theorem dL_law_140 : decode cL_law 140 = .ok (.aload_n 0, 1) := by decide +kernel
theorem dL_law_141 : decode cL_law 141 = .ok (.iload 4, 2) := by decide +kernel
theorem dL_law_143 : decode cL_law 143 = .ok (.iconst 2, 1) := by decide +kernel
theorem dL_law_144 : decode cL_law 144 = .ok (.iadd, 1) := by decide +kernel
theorem dL_law_145 : decode cL_law 145 = .ok (.iaload, 1) := by decide +kernel
theorem dL_law_146 : decode cL_law 146 = .ok (.aload_n 0, 1) := by decide +kernel
theorem dL_law_147 : decode cL_law 147 = .ok (.iload 4, 2) := by decide +kernel
theorem dL_law_149 : decode cL_law 149 = .ok (.iconst 3, 1) := by decide +kernel
theorem dL_law_150 : decode cL_law 150 = .ok (.iadd, 1) := by decide +kernel
theorem dL_law_151 : decode cL_law 151 = .ok (.iaload, 1) := by decide +kernel
theorem dL_law_152 : decode cL_law 152 = .ok (.invokevirtual 24, 3) := by decide +kernel
theorem dL_law_155 : decode cL_law 155 = .ok (.aload_n 2, 1) := by decide +kernel
theorem dL_law_156 : decode cL_law 156 = .ok (.aload_n 0, 1) := by decide +kernel
theorem dL_law_157 : decode cL_law 157 = .ok (.iload 4, 2) := by decide +kernel
theorem dL_law_159 : decode cL_law 159 = .ok (.iconst 1, 1) := by decide +kernel
theorem dL_law_160 : decode cL_law 160 = .ok (.iadd, 1) := by decide +kernel
theorem dL_law_161 : decode cL_law 161 = .ok (.iaload, 1) := by decide +kernel
theorem dL_law_162 : decode cL_law 162 = .ok (.aload_n 0, 1) := by decide +kernel
theorem dL_law_163 : decode cL_law 163 = .ok (.iload 4, 2) := by decide +kernel
theorem dL_law_165 : decode cL_law 165 = .ok (.iconst 2, 1) := by decide +kernel
theorem dL_law_166 : decode cL_law 166 = .ok (.iadd, 1) := by decide +kernel
theorem dL_law_167 : decode cL_law 167 = .ok (.iaload, 1) := by decide +kernel
theorem dL_law_168 : decode cL_law 168 = .ok (.aload_n 0, 1) := by decide +kernel
theorem dL_law_169 : decode cL_law 169 = .ok (.iload 4, 2) := by decide +kernel
theorem dL_law_171 : decode cL_law 171 = .ok (.iconst 3, 1) := by decide +kernel
theorem dL_law_172 : decode cL_law 172 = .ok (.iadd, 1) := by decide +kernel
theorem dL_law_173 : decode cL_law 173 = .ok (.iaload, 1) := by decide +kernel
theorem dL_law_174 : decode cL_law 174 = .ok (.invokevirtual 28, 3) := by decide +kernel
theorem dL_law_177 : decode cL_law 177 = .ok (.if_icmp .eq 285, 3) := by decide +kernel
theorem dL_law_180 : decode cL_law 180 = .ok (.iconst 0, 1) := by decide +kernel
theorem dL_law_181 : decode cL_law 181 = .ok (.ireturn, 1) := by decide +kernel
theorem dL_law_182 : decode cL_law 182 = .ok (.aload_n 1, 1) := by decide +kernel
theorem dL_law_183 : decode cL_law 183 = .ok (.aload_n 0, 1) := by decide +kernel
theorem dL_law_184 : decode cL_law 184 = .ok (.iload 4, 2) := by decide +kernel
theorem dL_law_186 : decode cL_law 186 = .ok (.iconst 1, 1) := by decide +kernel
theorem dL_law_187 : decode cL_law 187 = .ok (.iadd, 1) := by decide +kernel
theorem dL_law_188 : decode cL_law 188 = .ok (.iaload, 1) := by decide +kernel
theorem dL_law_189 : decode cL_law 189 = .ok (.aload_n 0, 1) := by decide +kernel
theorem dL_law_190 : decode cL_law 190 = .ok (.iload 4, 2) := by decide +kernel
theorem dL_law_192 : decode cL_law 192 = .ok (.iconst 2, 1) := by decide +kernel
theorem dL_law_193 : decode cL_law 193 = .ok (.iadd, 1) := by decide +kernel
theorem dL_law_194 : decode cL_law 194 = .ok (.iaload, 1) := by decide +kernel
theorem dL_law_195 : decode cL_law 195 = .ok (.aload_n 0, 1) := by decide +kernel
theorem dL_law_196 : decode cL_law 196 = .ok (.iload 4, 2) := by decide +kernel
theorem dL_law_198 : decode cL_law 198 = .ok (.iconst 3, 1) := by decide +kernel
theorem dL_law_199 : decode cL_law 199 = .ok (.iadd, 1) := by decide +kernel
theorem dL_law_200 : decode cL_law 200 = .ok (.iaload, 1) := by decide +kernel
theorem dL_law_201 : decode cL_law 201 = .ok (.invokevirtual 29, 3) := by decide +kernel
theorem dL_law_204 : decode cL_law 204 = .ok (.aload_n 2, 1) := by decide +kernel
theorem dL_law_205 : decode cL_law 205 = .ok (.aload_n 0, 1) := by decide +kernel
theorem dL_law_206 : decode cL_law 206 = .ok (.iload 4, 2) := by decide +kernel
theorem dL_law_208 : decode cL_law 208 = .ok (.iconst 1, 1) := by decide +kernel
theorem dL_law_209 : decode cL_law 209 = .ok (.iadd, 1) := by decide +kernel
theorem dL_law_210 : decode cL_law 210 = .ok (.iaload, 1) := by decide +kernel
theorem dL_law_211 : decode cL_law 211 = .ok (.aload_n 0, 1) := by decide +kernel
theorem dL_law_212 : decode cL_law 212 = .ok (.iload 4, 2) := by decide +kernel
theorem dL_law_214 : decode cL_law 214 = .ok (.iconst 2, 1) := by decide +kernel
theorem dL_law_215 : decode cL_law 215 = .ok (.iadd, 1) := by decide +kernel
theorem dL_law_216 : decode cL_law 216 = .ok (.iaload, 1) := by decide +kernel
theorem dL_law_217 : decode cL_law 217 = .ok (.aload_n 0, 1) := by decide +kernel
theorem dL_law_218 : decode cL_law 218 = .ok (.iload 4, 2) := by decide +kernel
theorem dL_law_220 : decode cL_law 220 = .ok (.iconst 3, 1) := by decide +kernel
theorem dL_law_221 : decode cL_law 221 = .ok (.iadd, 1) := by decide +kernel
theorem dL_law_222 : decode cL_law 222 = .ok (.iaload, 1) := by decide +kernel
theorem dL_law_223 : decode cL_law 223 = .ok (.invokevirtual 32, 3) := by decide +kernel
theorem dL_law_226 : decode cL_law 226 = .ok (.if_icmp .eq 236, 3) := by decide +kernel
theorem dL_law_229 : decode cL_law 229 = .ok (.iconst 0, 1) := by decide +kernel
theorem dL_law_230 : decode cL_law 230 = .ok (.ireturn, 1) := by decide +kernel
theorem dL_law_231 : decode cL_law 231 = .ok (.aload_n 1, 1) := by decide +kernel
theorem dL_law_232 : decode cL_law 232 = .ok (.aload_n 0, 1) := by decide +kernel
theorem dL_law_233 : decode cL_law 233 = .ok (.iload 4, 2) := by decide +kernel
theorem dL_law_235 : decode cL_law 235 = .ok (.iconst 1, 1) := by decide +kernel
theorem dL_law_236 : decode cL_law 236 = .ok (.iadd, 1) := by decide +kernel
theorem dL_law_237 : decode cL_law 237 = .ok (.iaload, 1) := by decide +kernel
theorem dL_law_238 : decode cL_law 238 = .ok (.invokevirtual 33, 3) := by decide +kernel
theorem dL_law_241 : decode cL_law 241 = .ok (.aload_n 2, 1) := by decide +kernel
theorem dL_law_242 : decode cL_law 242 = .ok (.aload_n 0, 1) := by decide +kernel
theorem dL_law_243 : decode cL_law 243 = .ok (.iload 4, 2) := by decide +kernel
theorem dL_law_245 : decode cL_law 245 = .ok (.iconst 1, 1) := by decide +kernel
theorem dL_law_246 : decode cL_law 246 = .ok (.iadd, 1) := by decide +kernel
theorem dL_law_247 : decode cL_law 247 = .ok (.iaload, 1) := by decide +kernel
theorem dL_law_248 : decode cL_law 248 = .ok (.invokevirtual 37, 3) := by decide +kernel
theorem dL_law_251 : decode cL_law 251 = .ok (.if_icmp .eq 211, 3) := by decide +kernel
theorem dL_law_254 : decode cL_law 254 = .ok (.iconst 0, 1) := by decide +kernel
theorem dL_law_255 : decode cL_law 255 = .ok (.ireturn, 1) := by decide +kernel
theorem dL_law_256 : decode cL_law 256 = .ok (.aload_n 1, 1) := by decide +kernel
theorem dL_law_257 : decode cL_law 257 = .ok (.invokevirtual 38, 3) := by decide +kernel
theorem dL_law_260 : decode cL_law 260 = .ok (.aload_n 2, 1) := by decide +kernel
theorem dL_law_261 : decode cL_law 261 = .ok (.invokevirtual 42, 3) := by decide +kernel
theorem dL_law_264 : decode cL_law 264 = .ok (.if_icmp .eq 198, 3) := by decide +kernel
theorem dL_law_267 : decode cL_law 267 = .ok (.iconst 0, 1) := by decide +kernel
theorem dL_law_268 : decode cL_law 268 = .ok (.ireturn, 1) := by decide +kernel
theorem dL_law_269 : decode cL_law 269 = .ok (.aload_n 1, 1) := by decide +kernel
theorem dL_law_270 : decode cL_law 270 = .ok (.aload_n 0, 1) := by decide +kernel
theorem dL_law_271 : decode cL_law 271 = .ok (.iload 4, 2) := by decide +kernel
theorem dL_law_273 : decode cL_law 273 = .ok (.iconst 1, 1) := by decide +kernel
theorem dL_law_274 : decode cL_law 274 = .ok (.iadd, 1) := by decide +kernel
theorem dL_law_275 : decode cL_law 275 = .ok (.iaload, 1) := by decide +kernel
theorem dL_law_276 : decode cL_law 276 = .ok (.invokevirtual 43, 3) := by decide +kernel
theorem dL_law_279 : decode cL_law 279 = .ok (.aload_n 2, 1) := by decide +kernel
theorem dL_law_280 : decode cL_law 280 = .ok (.aload_n 0, 1) := by decide +kernel
theorem dL_law_281 : decode cL_law 281 = .ok (.iload 4, 2) := by decide +kernel
theorem dL_law_283 : decode cL_law 283 = .ok (.iconst 1, 1) := by decide +kernel
theorem dL_law_284 : decode cL_law 284 = .ok (.iadd, 1) := by decide +kernel
theorem dL_law_285 : decode cL_law 285 = .ok (.iaload, 1) := by decide +kernel
theorem dL_law_286 : decode cL_law 286 = .ok (.invokevirtual 47, 3) := by decide +kernel
theorem dL_law_289 : decode cL_law 289 = .ok (.if_icmp .eq 173, 3) := by decide +kernel
theorem dL_law_292 : decode cL_law 292 = .ok (.iconst 0, 1) := by decide +kernel
theorem dL_law_293 : decode cL_law 293 = .ok (.ireturn, 1) := by decide +kernel
theorem dL_law_294 : decode cL_law 294 = .ok (.aload_n 1, 1) := by decide +kernel
theorem dL_law_295 : decode cL_law 295 = .ok (.aload_n 0, 1) := by decide +kernel
theorem dL_law_296 : decode cL_law 296 = .ok (.iload 4, 2) := by decide +kernel
theorem dL_law_298 : decode cL_law 298 = .ok (.iconst 1, 1) := by decide +kernel
theorem dL_law_299 : decode cL_law 299 = .ok (.iadd, 1) := by decide +kernel
theorem dL_law_300 : decode cL_law 300 = .ok (.iaload, 1) := by decide +kernel
theorem dL_law_301 : decode cL_law 301 = .ok (.invokevirtual 48, 3) := by decide +kernel
theorem dL_law_304 : decode cL_law 304 = .ok (.aload_n 2, 1) := by decide +kernel
theorem dL_law_305 : decode cL_law 305 = .ok (.aload_n 0, 1) := by decide +kernel
theorem dL_law_306 : decode cL_law 306 = .ok (.iload 4, 2) := by decide +kernel
theorem dL_law_308 : decode cL_law 308 = .ok (.iconst 1, 1) := by decide +kernel
theorem dL_law_309 : decode cL_law 309 = .ok (.iadd, 1) := by decide +kernel
theorem dL_law_310 : decode cL_law 310 = .ok (.iaload, 1) := by decide +kernel
theorem dL_law_311 : decode cL_law 311 = .ok (.invokevirtual 51, 3) := by decide +kernel
theorem dL_law_314 : decode cL_law 314 = .ok (.if_icmp .eq 148, 3) := by decide +kernel
theorem dL_law_317 : decode cL_law 317 = .ok (.iconst 0, 1) := by decide +kernel
theorem dL_law_318 : decode cL_law 318 = .ok (.ireturn, 1) := by decide +kernel
theorem dL_law_319 : decode cL_law 319 = .ok (.aload_n 1, 1) := by decide +kernel
theorem dL_law_320 : decode cL_law 320 = .ok (.aload_n 0, 1) := by decide +kernel
theorem dL_law_321 : decode cL_law 321 = .ok (.iload 4, 2) := by decide +kernel
theorem dL_law_323 : decode cL_law 323 = .ok (.iconst 1, 1) := by decide +kernel
theorem dL_law_324 : decode cL_law 324 = .ok (.iadd, 1) := by decide +kernel
theorem dL_law_325 : decode cL_law 325 = .ok (.iaload, 1) := by decide +kernel
theorem dL_law_326 : decode cL_law 326 = .ok (.aload_n 0, 1) := by decide +kernel
theorem dL_law_327 : decode cL_law 327 = .ok (.iload 4, 2) := by decide +kernel
theorem dL_law_329 : decode cL_law 329 = .ok (.iconst 2, 1) := by decide +kernel
theorem dL_law_330 : decode cL_law 330 = .ok (.iadd, 1) := by decide +kernel
theorem dL_law_331 : decode cL_law 331 = .ok (.iaload, 1) := by decide +kernel
theorem dL_law_332 : decode cL_law 332 = .ok (.invokevirtual 52, 3) := by decide +kernel
theorem dL_law_335 : decode cL_law 335 = .ok (.aload_n 2, 1) := by decide +kernel
theorem dL_law_336 : decode cL_law 336 = .ok (.aload_n 0, 1) := by decide +kernel
theorem dL_law_337 : decode cL_law 337 = .ok (.iload 4, 2) := by decide +kernel
theorem dL_law_339 : decode cL_law 339 = .ok (.iconst 1, 1) := by decide +kernel
theorem dL_law_340 : decode cL_law 340 = .ok (.iadd, 1) := by decide +kernel
theorem dL_law_341 : decode cL_law 341 = .ok (.iaload, 1) := by decide +kernel
theorem dL_law_342 : decode cL_law 342 = .ok (.aload_n 0, 1) := by decide +kernel
theorem dL_law_343 : decode cL_law 343 = .ok (.iload 4, 2) := by decide +kernel
theorem dL_law_345 : decode cL_law 345 = .ok (.iconst 2, 1) := by decide +kernel
theorem dL_law_346 : decode cL_law 346 = .ok (.iadd, 1) := by decide +kernel
theorem dL_law_347 : decode cL_law 347 = .ok (.iaload, 1) := by decide +kernel
theorem dL_law_348 : decode cL_law 348 = .ok (.invokevirtual 55, 3) := by decide +kernel
theorem dL_law_351 : decode cL_law 351 = .ok (.if_icmp .eq 111, 3) := by decide +kernel
theorem dL_law_354 : decode cL_law 354 = .ok (.iconst 0, 1) := by decide +kernel
theorem dL_law_355 : decode cL_law 355 = .ok (.ireturn, 1) := by decide +kernel
theorem dL_law_356 : decode cL_law 356 = .ok (.aload_n 1, 1) := by decide +kernel
theorem dL_law_357 : decode cL_law 357 = .ok (.aload_n 0, 1) := by decide +kernel
theorem dL_law_358 : decode cL_law 358 = .ok (.iload 4, 2) := by decide +kernel
theorem dL_law_360 : decode cL_law 360 = .ok (.iconst 1, 1) := by decide +kernel
theorem dL_law_361 : decode cL_law 361 = .ok (.iadd, 1) := by decide +kernel
theorem dL_law_362 : decode cL_law 362 = .ok (.iaload, 1) := by decide +kernel
theorem dL_law_363 : decode cL_law 363 = .ok (.aload_n 0, 1) := by decide +kernel
theorem dL_law_364 : decode cL_law 364 = .ok (.iload 4, 2) := by decide +kernel
theorem dL_law_366 : decode cL_law 366 = .ok (.iconst 2, 1) := by decide +kernel
theorem dL_law_367 : decode cL_law 367 = .ok (.iadd, 1) := by decide +kernel
theorem dL_law_368 : decode cL_law 368 = .ok (.iaload, 1) := by decide +kernel
theorem dL_law_369 : decode cL_law 369 = .ok (.aload_n 3, 1) := by decide +kernel
theorem dL_law_370 : decode cL_law 370 = .ok (.invokestatic 56, 3) := by decide +kernel
theorem dL_law_373 : decode cL_law 373 = .ok (.istore 5, 2) := by decide +kernel
theorem dL_law_375 : decode cL_law 375 = .ok (.aload_n 2, 1) := by decide +kernel
theorem dL_law_376 : decode cL_law 376 = .ok (.aload_n 0, 1) := by decide +kernel
theorem dL_law_377 : decode cL_law 377 = .ok (.iload 4, 2) := by decide +kernel
theorem dL_law_379 : decode cL_law 379 = .ok (.iconst 1, 1) := by decide +kernel
theorem dL_law_380 : decode cL_law 380 = .ok (.iadd, 1) := by decide +kernel
theorem dL_law_381 : decode cL_law 381 = .ok (.iaload, 1) := by decide +kernel
theorem dL_law_382 : decode cL_law 382 = .ok (.aload_n 0, 1) := by decide +kernel
theorem dL_law_383 : decode cL_law 383 = .ok (.iload 4, 2) := by decide +kernel
theorem dL_law_385 : decode cL_law 385 = .ok (.iconst 2, 1) := by decide +kernel
theorem dL_law_386 : decode cL_law 386 = .ok (.iadd, 1) := by decide +kernel
theorem dL_law_387 : decode cL_law 387 = .ok (.iaload, 1) := by decide +kernel
theorem dL_law_388 : decode cL_law 388 = .ok (.invokevirtual 61, 3) := by decide +kernel
theorem dL_law_391 : decode cL_law 391 = .ok (.istore 6, 2) := by decide +kernel
theorem dL_law_393 : decode cL_law 393 = .ok (.aload_n 2, 1) := by decide +kernel
theorem dL_law_394 : decode cL_law 394 = .ok (.invokevirtual 62, 3) := by decide +kernel
theorem dL_law_397 : decode cL_law 397 = .ok (.iload 5, 2) := by decide +kernel
theorem dL_law_399 : decode cL_law 399 = .ok (.if_icmp .eq 5, 3) := by decide +kernel
theorem dL_law_402 : decode cL_law 402 = .ok (.iconst 0, 1) := by decide +kernel
theorem dL_law_403 : decode cL_law 403 = .ok (.ireturn, 1) := by decide +kernel
theorem dL_law_404 : decode cL_law 404 = .ok (.iload 5, 2) := by decide +kernel
theorem dL_law_406 : decode cL_law 406 = .ok (.ifCond .ne 15, 3) := by decide +kernel
theorem dL_law_409 : decode cL_law 409 = .ok (.aload_n 3, 1) := by decide +kernel
theorem dL_law_410 : decode cL_law 410 = .ok (.iconst 0, 1) := by decide +kernel
theorem dL_law_411 : decode cL_law 411 = .ok (.laload, 1) := by decide +kernel
theorem dL_law_412 : decode cL_law 412 = .ok (.iload 6, 2) := by decide +kernel
theorem dL_law_414 : decode cL_law 414 = .ok (.i2l, 1) := by decide +kernel
theorem dL_law_415 : decode cL_law 415 = .ok (.lcmp, 1) := by decide +kernel
theorem dL_law_416 : decode cL_law 416 = .ok (.ifCond .eq 5, 3) := by decide +kernel
theorem dL_law_419 : decode cL_law 419 = .ok (.iconst 0, 1) := by decide +kernel
theorem dL_law_420 : decode cL_law 420 = .ok (.ireturn, 1) := by decide +kernel
theorem dL_law_421 : decode cL_law 421 = .ok (.goto 41, 3) := by decide +kernel
theorem dL_law_424 : decode cL_law 424 = .ok (.aload_n 1, 1) := by decide +kernel
theorem dL_law_425 : decode cL_law 425 = .ok (.aload_n 0, 1) := by decide +kernel
theorem dL_law_426 : decode cL_law 426 = .ok (.iload 4, 2) := by decide +kernel
theorem dL_law_428 : decode cL_law 428 = .ok (.iconst 1, 1) := by decide +kernel
theorem dL_law_429 : decode cL_law 429 = .ok (.iadd, 1) := by decide +kernel
theorem dL_law_430 : decode cL_law 430 = .ok (.iaload, 1) := by decide +kernel
theorem dL_law_431 : decode cL_law 431 = .ok (.invokevirtual 65, 3) := by decide +kernel
theorem dL_law_434 : decode cL_law 434 = .ok (.aload_n 2, 1) := by decide +kernel
theorem dL_law_435 : decode cL_law 435 = .ok (.aload_n 0, 1) := by decide +kernel
theorem dL_law_436 : decode cL_law 436 = .ok (.iload 4, 2) := by decide +kernel
theorem dL_law_438 : decode cL_law 438 = .ok (.iconst 1, 1) := by decide +kernel
theorem dL_law_439 : decode cL_law 439 = .ok (.iadd, 1) := by decide +kernel
theorem dL_law_440 : decode cL_law 440 = .ok (.iaload, 1) := by decide +kernel
theorem dL_law_441 : decode cL_law 441 = .ok (.invokevirtual 68, 3) := by decide +kernel
theorem dL_law_444 : decode cL_law 444 = .ok (.if_icmp .eq 18, 3) := by decide +kernel
theorem dL_law_447 : decode cL_law 447 = .ok (.iconst 0, 1) := by decide +kernel
theorem dL_law_448 : decode cL_law 448 = .ok (.ireturn, 1) := by decide +kernel
theorem dL_law_449 : decode cL_law 449 = .ok (.aload_n 1, 1) := by decide +kernel
theorem dL_law_450 : decode cL_law 450 = .ok (.invokevirtual 69, 3) := by decide +kernel
theorem dL_law_453 : decode cL_law 453 = .ok (.aload_n 2, 1) := by decide +kernel
theorem dL_law_454 : decode cL_law 454 = .ok (.invokevirtual 72, 3) := by decide +kernel
theorem dL_law_457 : decode cL_law 457 = .ok (.if_icmp .eq 5, 3) := by decide +kernel
theorem dL_law_460 : decode cL_law 460 = .ok (.iconst 0, 1) := by decide +kernel
theorem dL_law_461 : decode cL_law 461 = .ok (.ireturn, 1) := by decide +kernel
theorem dL_law_462 : decode cL_law 462 = .ok (.iinc 4 4, 3) := by decide +kernel
theorem dL_law_465 : decode cL_law 465 = .ok (.goto (-442), 3) := by decide +kernel
theorem dL_law_468 : decode cL_law 468 = .ok (.iconst 1, 1) := by decide +kernel
theorem dL_law_469 : decode cL_law 469 = .ok (.ireturn, 1) := by decide +kernel
abbrev vwCl : List vw_C := [(RX0, TX0, 11), (RX1, TX1, 10)]
end
section
/-! the worlds of the two objects: the class's (W0) and the reference's (W1); read-only contracts and their call rows -/
abbrev W0 (o : Nat → Nat) (cI : ClassId) (co ro tw op ch : Int32) (sm nx bf od st ow : Nat → Int32) : va_W :=
  [(o 0, .inr (0, [.int co, .int ro, .int tw, .ref (o 1), .ref (o 2), .ref (o 3), .ref (o 4), .ref (o 5), .ref (o 6), .int op, .int ch])),
   (o 1, .inl (cI, 144, .inl sm)), (o 2, .inl (cI, 264, .inl nx)), (o 3, .inl (cI, 264, .inl bf)), (o 4, .inl (cI, 264, .inl od)), (o 5, .inl (cI, 133, .inl st)), (o 6, .inl (cI, 264, .inl ow))]
abbrev W1 (o : Nat → Nat) (cI cZ : ClassId) (th co ro tw ch : Int32) (sm od st cl us : Nat → Int32) : va_W :=
  [(o 0, .inr (1, [.int th, .int co, .int ro, .int tw, .ref (o 1), .ref (o 2), .ref (o 3), .ref (o 4), .ref (o 5), .int ch])),
   (o 1, .inl (cI, 144, .inl sm)), (o 2, .inl (cI, 264, .inl od)), (o 3, .inl (cI, 266, .inl st)), (o 4, .inl (cZ, 265, .inl cl)), (o 5, .inl (cZ, 264, .inl us))]
abbrev roMet (l : Launch) (y : MethodName) (ws : List Cond) (rm : Room) (D : va_G) (wc : va_W) (tyc : List (ClassId × FieldType)) (av : List Value) (post : Int32 → Prop) : Prop :=
  Met l y ws rm (va_Pc av (fun U => va_P D vwCl wc U.heap ∧ va_K D vwCl tyc U)) (va_Qi (fun r (_ : Unit) => post r) (fun _ _ => True) (fun _ => False)) 0 0 (fun _ => False)
theorem va_P0 (D : va_G) (cl : List vw_C) (H : Heap) : va_P D cl [] H := fun k q h => by simp at h
section ROC
variable {p : Program} {l : Launch} {e : Env} {R : Room} {s : State} {m : MethodId} {args : Array Value} {below : List Frame} {meth : Method} {c : Code} {H : Heap} {locs : List Loc} {cells slots : Nat} {Q : State → Prop}
variable {y : MethodName} {bytes cc : ByteArray} {maxL nL n index pc : Nat} {ret : Option FieldType} {wy : List Cond} {rm : Room} {Ts : List Cond} {own C : String} {b : Addr} {As rest st0 : List Value} {ls : Array Slot} {D : va_G} {ws wc : va_W} {tyc : List (ClassId × FieldType)} {A0 : Nat → Prop} {H0 : Heap} {post : Int32 → Prop}
theorem ro_V (S : CallFix p m c cc nL s args Ts own) (hM : roMet l y wy rm D wc tyc (.ref b :: As) post) (cw : CallW R s args own C index y bytes maxL ret wy rm 0 0 n)
    (hrecv : ∃ cell : Cell, H[b]? = some cell ∧ cell.vm.isStatics = false ∧ s.vm.findClass C = some cell.cls) (hPc : va_P D vwCl wc H) (hKc : va_K D vwCl tyc s) (hP : va_P D vwCl ws H) (hS : va_S A0 H0 H locs)
    (hn : As.length = n) (hsize : ls.size = nL) (hstack : st0 = As.reverse ++ .ref b :: rest) (hW : 2 * (F0 m pc ls st0).monitorRoom + (rest.map fun v => v.category).sum ≤ 8) (hdg : decode cc pc = .ok (.invokevirtual index, 3)) (hf : cells ≤ R.cells ∧ slots ≤ R.slots)
    (kk : ∀ (r : Int32) (H1 : Heap) (locs1 : List Loc), post r → va_P D vwCl ws H1 → va_S A0 H0 H1 locs1 → W p l e R s m args below meth c H1 locs1 cells slots Q (F0 m (pc + 3) ls (.int r :: rest))) : W p l e R s m args below meth c H locs cells slots Q (F0 m pc ls st0) := by
  refine va_calli (A1 := fun _ => False) (va_runV (As := As) (rest := rest) S hM cw ⟨fun a U g mk q => by obtain ⟨q0, qP, qK⟩ := q; exact ⟨q0, qP, va_K.moved (u := U) (U := U.calling g mk a) (Vm.Alike.refl U.vm) qK⟩, hrecv, fun U hU hW => ⟨rfl, by rw [hU]; exact hPc, va_K.moved hW.alike hKc⟩⟩ rfl hn hsize hstack hW hdg hf) hS (fun q _ h => h.elim) (fun q h => h.elim) (fun r u t H1 locs1 ht hvm hw hB hz1 hk1 hS1 => ?_)
  exact kk r H1 locs1 hw (hP.kept fun k q hk => hk1 q.1 (hP k q hk).lt (fun z => z)) hS1
theorem ro_S (S : CallFix p m c cc nL s args Ts own) (hM : roMet l y wy rm D wc tyc As post) (cw : CallB R s args own index y bytes maxL ret wy rm 0 0 n ∧ (Cond.static y).before args s = true)
    (hPc : va_P D vwCl wc H) (hKc : va_K D vwCl tyc s) (hP : va_P D vwCl ws H) (hS : va_S A0 H0 H locs)
    (hn : As.length = n) (hsize : ls.size = nL) (hstack : st0 = As.reverse ++ rest) (hW : 2 * (F0 m pc ls st0).monitorRoom + (rest.map fun v => v.category).sum ≤ 8) (hdg : decode cc pc = .ok (.invokestatic index, 3)) (hf : cells ≤ R.cells ∧ slots ≤ R.slots)
    (kk : ∀ (r : Int32) (H1 : Heap) (locs1 : List Loc), post r → va_P D vwCl ws H1 → va_S A0 H0 H1 locs1 → W p l e R s m args below meth c H1 locs1 cells slots Q (F0 m (pc + 3) ls (.int r :: rest))) : W p l e R s m args below meth c H locs cells slots Q (F0 m pc ls st0) := by
  refine va_calli (A1 := fun _ => False) (va_runS (As := As) (rest := rest) S hM cw ⟨fun a U g mk q => by obtain ⟨q0, qP, qK⟩ := q; exact ⟨q0, qP, va_K.moved (u := U) (U := U.calling g mk a) (Vm.Alike.refl U.vm) qK⟩, fun U hU hW => ⟨rfl, by rw [hU]; exact hPc, va_K.moved hW.alike hKc⟩⟩ rfl hn hsize hstack hW hdg hf) hS (fun q _ h => h.elim) (fun q h => h.elim) (fun r u t H1 locs1 ht hvm hw hB hz1 hk1 hS1 => ?_)
  exact kk r H1 locs1 hw (hP.kept fun k q hk => hk1 q.1 (hP k q hk).lt (fun z => z)) hS1
variable {x1 x2 x3 : Value}
theorem ro_V0 (S : CallFix p m c cc nL s args Ts own) (hM : roMet l y wy rm D wc tyc [.ref b] post) (cw : CallW R s args own C index y bytes maxL ret wy rm 0 0 n)
    (hrecv : ∃ cell : Cell, H[b]? = some cell ∧ cell.vm.isStatics = false ∧ s.vm.findClass C = some cell.cls) (hPc : va_P D vwCl wc H) (hKc : va_K D vwCl tyc s) (hP : va_P D vwCl ws H) (hS : va_S A0 H0 H locs)
    (hn : 0 = n) (hsize : ls.size = nL) (hW : 2 * (F0 m pc ls (.ref b :: rest)).monitorRoom + (rest.map fun v => v.category).sum ≤ 8) (hdg : decode cc pc = .ok (.invokevirtual index, 3)) (hf : cells ≤ R.cells ∧ slots ≤ R.slots)
    (kk : ∀ (r : Int32) (H1 : Heap) (locs1 : List Loc), post r → va_P D vwCl ws H1 → va_S A0 H0 H1 locs1 → W p l e R s m args below meth c H1 locs1 cells slots Q (F0 m (pc + 3) ls (.int r :: rest))) : W p l e R s m args below meth c H locs cells slots Q (F0 m pc ls (.ref b :: rest)) :=
  ro_V (As := []) (rest := rest) S hM cw hrecv hPc hKc hP hS hn hsize rfl hW hdg hf kk
theorem ro_V1 (S : CallFix p m c cc nL s args Ts own) (hM : roMet l y wy rm D wc tyc [.ref b, x1] post) (cw : CallW R s args own C index y bytes maxL ret wy rm 0 0 n)
    (hrecv : ∃ cell : Cell, H[b]? = some cell ∧ cell.vm.isStatics = false ∧ s.vm.findClass C = some cell.cls) (hPc : va_P D vwCl wc H) (hKc : va_K D vwCl tyc s) (hP : va_P D vwCl ws H) (hS : va_S A0 H0 H locs)
    (hn : 1 = n) (hsize : ls.size = nL) (hW : 2 * (F0 m pc ls (x1 :: .ref b :: rest)).monitorRoom + (rest.map fun v => v.category).sum ≤ 8) (hdg : decode cc pc = .ok (.invokevirtual index, 3)) (hf : cells ≤ R.cells ∧ slots ≤ R.slots)
    (kk : ∀ (r : Int32) (H1 : Heap) (locs1 : List Loc), post r → va_P D vwCl ws H1 → va_S A0 H0 H1 locs1 → W p l e R s m args below meth c H1 locs1 cells slots Q (F0 m (pc + 3) ls (.int r :: rest))) : W p l e R s m args below meth c H locs cells slots Q (F0 m pc ls (x1 :: .ref b :: rest)) :=
  ro_V (As := [x1]) (rest := rest) S hM cw hrecv hPc hKc hP hS hn hsize rfl hW hdg hf kk
theorem ro_V2 (S : CallFix p m c cc nL s args Ts own) (hM : roMet l y wy rm D wc tyc [.ref b, x1, x2] post) (cw : CallW R s args own C index y bytes maxL ret wy rm 0 0 n)
    (hrecv : ∃ cell : Cell, H[b]? = some cell ∧ cell.vm.isStatics = false ∧ s.vm.findClass C = some cell.cls) (hPc : va_P D vwCl wc H) (hKc : va_K D vwCl tyc s) (hP : va_P D vwCl ws H) (hS : va_S A0 H0 H locs)
    (hn : 2 = n) (hsize : ls.size = nL) (hW : 2 * (F0 m pc ls (x2 :: x1 :: .ref b :: rest)).monitorRoom + (rest.map fun v => v.category).sum ≤ 8) (hdg : decode cc pc = .ok (.invokevirtual index, 3)) (hf : cells ≤ R.cells ∧ slots ≤ R.slots)
    (kk : ∀ (r : Int32) (H1 : Heap) (locs1 : List Loc), post r → va_P D vwCl ws H1 → va_S A0 H0 H1 locs1 → W p l e R s m args below meth c H1 locs1 cells slots Q (F0 m (pc + 3) ls (.int r :: rest))) : W p l e R s m args below meth c H locs cells slots Q (F0 m pc ls (x2 :: x1 :: .ref b :: rest)) :=
  ro_V (As := [x1, x2]) (rest := rest) S hM cw hrecv hPc hKc hP hS hn hsize rfl hW hdg hf kk
theorem ro_V3 (S : CallFix p m c cc nL s args Ts own) (hM : roMet l y wy rm D wc tyc [.ref b, x1, x2, x3] post) (cw : CallW R s args own C index y bytes maxL ret wy rm 0 0 n)
    (hrecv : ∃ cell : Cell, H[b]? = some cell ∧ cell.vm.isStatics = false ∧ s.vm.findClass C = some cell.cls) (hPc : va_P D vwCl wc H) (hKc : va_K D vwCl tyc s) (hP : va_P D vwCl ws H) (hS : va_S A0 H0 H locs)
    (hn : 3 = n) (hsize : ls.size = nL) (hW : 2 * (F0 m pc ls (x3 :: x2 :: x1 :: .ref b :: rest)).monitorRoom + (rest.map fun v => v.category).sum ≤ 8) (hdg : decode cc pc = .ok (.invokevirtual index, 3)) (hf : cells ≤ R.cells ∧ slots ≤ R.slots)
    (kk : ∀ (r : Int32) (H1 : Heap) (locs1 : List Loc), post r → va_P D vwCl ws H1 → va_S A0 H0 H1 locs1 → W p l e R s m args below meth c H1 locs1 cells slots Q (F0 m (pc + 3) ls (.int r :: rest))) : W p l e R s m args below meth c H locs cells slots Q (F0 m pc ls (x3 :: x2 :: x1 :: .ref b :: rest)) :=
  ro_V (As := [x1, x2, x3]) (rest := rest) S hM cw hrecv hPc hKc hP hS hn hsize rfl hW hdg hf kk
theorem ro_S1 (S : CallFix p m c cc nL s args Ts own) (hM : roMet l y wy rm D wc tyc [x1] post) (cw : CallB R s args own index y bytes maxL ret wy rm 0 0 n ∧ (Cond.static y).before args s = true)
    (hPc : va_P D vwCl wc H) (hKc : va_K D vwCl tyc s) (hP : va_P D vwCl ws H) (hS : va_S A0 H0 H locs)
    (hn : 1 = n) (hsize : ls.size = nL) (hW : 2 * (F0 m pc ls (x1 :: rest)).monitorRoom + (rest.map fun v => v.category).sum ≤ 8) (hdg : decode cc pc = .ok (.invokestatic index, 3)) (hf : cells ≤ R.cells ∧ slots ≤ R.slots)
    (kk : ∀ (r : Int32) (H1 : Heap) (locs1 : List Loc), post r → va_P D vwCl ws H1 → va_S A0 H0 H1 locs1 → W p l e R s m args below meth c H1 locs1 cells slots Q (F0 m (pc + 3) ls (.int r :: rest))) : W p l e R s m args below meth c H locs cells slots Q (F0 m pc ls (x1 :: rest)) :=
  ro_S (As := [x1]) (rest := rest) S hM cw hPc hKc hP hS hn hsize rfl hW hdg hf kk
theorem ro_S2 (S : CallFix p m c cc nL s args Ts own) (hM : roMet l y wy rm D wc tyc [x1, x2] post) (cw : CallB R s args own index y bytes maxL ret wy rm 0 0 n ∧ (Cond.static y).before args s = true)
    (hPc : va_P D vwCl wc H) (hKc : va_K D vwCl tyc s) (hP : va_P D vwCl ws H) (hS : va_S A0 H0 H locs)
    (hn : 2 = n) (hsize : ls.size = nL) (hW : 2 * (F0 m pc ls (x2 :: x1 :: rest)).monitorRoom + (rest.map fun v => v.category).sum ≤ 8) (hdg : decode cc pc = .ok (.invokestatic index, 3)) (hf : cells ≤ R.cells ∧ slots ≤ R.slots)
    (kk : ∀ (r : Int32) (H1 : Heap) (locs1 : List Loc), post r → va_P D vwCl ws H1 → va_S A0 H0 H1 locs1 → W p l e R s m args below meth c H1 locs1 cells slots Q (F0 m (pc + 3) ls (.int r :: rest))) : W p l e R s m args below meth c H locs cells slots Q (F0 m pc ls (x2 :: x1 :: rest)) :=
  ro_S (As := [x1, x2]) (rest := rest) S hM cw hPc hKc hP hS hn hsize rfl hW hdg hf kk
theorem ro_S3 (S : CallFix p m c cc nL s args Ts own) (hM : roMet l y wy rm D wc tyc [x1, x2, x3] post) (cw : CallB R s args own index y bytes maxL ret wy rm 0 0 n ∧ (Cond.static y).before args s = true)
    (hPc : va_P D vwCl wc H) (hKc : va_K D vwCl tyc s) (hP : va_P D vwCl ws H) (hS : va_S A0 H0 H locs)
    (hn : 3 = n) (hsize : ls.size = nL) (hW : 2 * (F0 m pc ls (x3 :: x2 :: x1 :: rest)).monitorRoom + (rest.map fun v => v.category).sum ≤ 8) (hdg : decode cc pc = .ok (.invokestatic index, 3)) (hf : cells ≤ R.cells ∧ slots ≤ R.slots)
    (kk : ∀ (r : Int32) (H1 : Heap) (locs1 : List Loc), post r → va_P D vwCl ws H1 → va_S A0 H0 H1 locs1 → W p l e R s m args below meth c H1 locs1 cells slots Q (F0 m (pc + 3) ls (.int r :: rest))) : W p l e R s m args below meth c H locs cells slots Q (F0 m pc ls (x3 :: x2 :: x1 :: rest)) :=
  ro_S (As := [x1, x2, x3]) (rest := rest) S hM cw hPc hKc hP hS hn hsize rfl hW hdg hf kk
end ROC
end
section
/-! pure words: truth values as ints, the height test, the middle, edges by their numbers -/
def bI (b : Bool) : Int32 := if b then 1 else 0
theorem bI_0 {b : Bool} : bI b = 0 ↔ b = false := by cases b <;> decide
theorem bI_n0 {b : Bool} : ¬ bI b = 0 ↔ b = true := by cases b <;> decide
theorem bI_nar (b : Bool) : narrow .boolean (.int (bI b)) = .int (bI b) := by cases b <;> rfl
theorem bI_vp (b : Bool) : vp_nar .boolean (bI b) = bI b := by cases b <;> rfl
theorem bI_t : bI true = 1 := rfl
theorem bI_f : bI false = 0 := rfl
theorem bI_inj {a b : Bool} : bI a = bI b ↔ a = b := by cases a <;> cases b <;> decide
theorem bI_1 {b : Bool} (h : b = true) : (1 : Int32) = bI b := by rw [h]; rfl
theorem bI_z {b : Bool} (h : b = false) : (0 : Int32) = bI b := by rw [h]; rfl
/-- a sample is above the height -/
def abI (tw v : Int32) : Bool := decide (tw < 2 * v)
/-- the middle of a cell is above the height, in the ints and longs of both programs -/
def midI (tw a b c d : Int32) : Bool :=
  if 0 < a.toInt64 + c.toInt64 - b.toInt64 - d.toInt64 then decide (tw.toInt64 * (a.toInt64 + c.toInt64 - b.toInt64 - d.toInt64) < 2 * (a.toInt64 * c.toInt64 - b.toInt64 * d.toInt64))
  else decide (2 * (a.toInt64 * c.toInt64 - b.toInt64 * d.toInt64) < tw.toInt64 * (a.toInt64 + c.toInt64 - b.toInt64 - d.toInt64))
/-- held to the bounds -/
def holdI (v : Int64) : Int32 := (if (if v < 1000000 then v else 1000000) < -1000000 then (-1000000 : Int64) else (if v < 1000000 then v else 1000000)).toInt32
/-- how many edges go to the right; how many there are -/
def nR (w h : Nat) : Nat := h * (w - 1)
def nE (w h : Nat) : Nat := h * (w - 1) + (h - 1) * w
/-- the edges of a cell by its sides, the samples by their corners -/
def eO (w h x y k : Nat) : Nat := match k % 4 with
  | 0 => y * (w - 1) + x
  | 1 => nR w h + y * w + (x + 1)
  | 2 => (y + 1) * (w - 1) + x
  | _ => nR w h + y * w + x
def cX (x k : Nat) : Nat := match k % 4 with
  | 0 => x
  | 1 => x + 1
  | 2 => x + 1
  | _ => x
def cY (y k : Nat) : Nat := match k % 4 with
  | 0 => y
  | 1 => y
  | 2 => y + 1
  | _ => y + 1
/-- an edge's first sample and its second, in the class's numbers -/
def fS (w h e : Nat) : Nat := if nR w h ≤ e then e - nR w h else e + e / (w - 1)
def sS (w h e : Nat) : Nat := fS w h e + (if e < nR w h then 1 else w)
theorem nI_m1 {w : Nat} (hw : 1 ≤ w) : nI w - 1 = nI (w - 1) := by
  have := pk_sub (a := w) (b := 1) hw
  exact this
theorem nI_one : nI 1 = 1 := rfl
theorem nR_le {w h : Nat} (hw : w ≤ 12) (hh : h ≤ 12) : nR w h ≤ 132 := by
  have : h * (w - 1) ≤ 12 * 11 := Nat.mul_le_mul hh (by omega)
  simpa [nR] using this
theorem nE_eq (w h : Nat) : nE w h = nR w h + (h - 1) * w := rfl
theorem nE_le {w h : Nat} (hw : w ≤ 12) (hh : h ≤ 12) : nE w h ≤ 264 := by
  have h1 := nR_le hw hh
  have h2 : (h - 1) * w ≤ 11 * 12 := Nat.mul_le_mul (by omega) hw
  rw [nE_eq]; omega
theorem sA_lt {w h x y : Nat} (hw : w ≤ 12) (hh : h ≤ 12) (hx : x < w) (hy : y < h) : y * w + x < 144 := by
  have h1 : y * w ≤ 11 * 12 := Nat.mul_le_mul (by omega) hw
  omega
theorem fS_lt {w h e : Nat} (hw2 : 2 ≤ w) (hw : w ≤ 12) (hh2 : 2 ≤ h) (hh : h ≤ 12) (he : e < nE w h) : fS w h e < 144 ∧ sS w h e < 144 := by
  have h2 : (h - 1) * w ≤ 11 * 12 := Nat.mul_le_mul (by omega) hw
  have h3 := nR_le hw hh
  rw [nE_eq] at he
  unfold sS fS
  by_cases hr : nR w h ≤ e
  · rw [if_pos hr, if_neg (by omega)]; omega
  · rw [if_neg hr, if_pos (by omega)]
    have h4 : e / (w - 1) < h := Nat.div_lt_of_lt_mul (by unfold nR at hr; rw [Nat.mul_comm]; omega)
    have h5 : e / (w - 1) * (w - 1) ≤ e := Nat.div_mul_le_self e (w - 1)
    have h6 : e < h * (w - 1) := by unfold nR at hr; omega
    have h7 : e / (w - 1) ≤ 11 := by omega
    omega
end
section
/-! array rows whose index is a natural -/
section AN
variable {p : Program} {l : Launch} {e : Env} {R : Room} {s : State} {m : MethodId} {args : Array Value} {below : List Frame} {meth : Method} {c : Code} {H : Heap} {locs : List Loc} {cells slots : Nat} {Q : State → Prop}
variable {cc : ByteArray} {pc : Nat} {ls : Array Slot} {rest : List Value} {D : va_G} {cl : List vw_C} {A : Nat → Prop} {a : Nat} {tys : List (ClassId × FieldType)} {ws : va_W} {H0 : Heap}
theorem an_iald (hexec : p.tables.exec = Jvm.exec) (hb : c.code = cc) (hK : va_K D cl tys s) (hP : va_P D cl ws H) (q0 t0 : Nat) {cA : ClassId} {n : Nat} {f : Nat → Int32} (ha : ws[q0]? = some (a, .inl (cA, n, .inl f))) (ht : tys[t0]? = some (cA, .int)) {k : Nat} (hk : k < n) (hn : n < 2 ^ 31) (hdg : decode cc pc = .ok (.iaload, 1))
    (kk : W p l e R s m args below meth c H locs cells slots Q (F0 m (pc + 1) ls (.int (f k) :: rest))) : W p l e R s m args below meth c H locs cells slots Q (F0 m pc ls (.int (nI k) :: .ref a :: rest)) := by
  refine va_iald hexec hb hK hP q0 t0 ha ht (vp_in_nI hk hn) hdg ?_
  rw [nI_clamp (show k < 2 ^ 31 by omega)]
  exact kk
theorem an_zald (hexec : p.tables.exec = Jvm.exec) (hb : c.code = cc) (hK : va_K D cl tys s) (hP : va_P D cl ws H) (q0 t0 : Nat) {cA : ClassId} {n : Nat} {f : Nat → Int32} (ha : ws[q0]? = some (a, .inl (cA, n, .inl f))) (ht : tys[t0]? = some (cA, .boolean)) {k : Nat} (hk : k < n) (hn : n < 2 ^ 31) (hdg : decode cc pc = .ok (.baload, 1))
    (kk : W p l e R s m args below meth c H locs cells slots Q (F0 m (pc + 1) ls (.int (f k) :: rest))) : W p l e R s m args below meth c H locs cells slots Q (F0 m pc ls (.int (nI k) :: .ref a :: rest)) := by
  refine va_zald hexec hb hK hP q0 t0 ha ht (vp_in_nI hk hn) hdg ?_
  rw [nI_clamp (show k < 2 ^ 31 by omega)]
  exact kk
theorem an_iast (hexec : p.tables.exec = Jvm.exec) (hb : c.code = cc) (hK : va_K D cl tys s) (hP : va_P D cl ws H) (hD : va_D A ws) (hS : va_S A H0 H locs) (q0 t0 : Nat) {cA : ClassId} {n : Nat} {f : Nat → Int32} (ha : ws[q0]? = some (a, .inl (cA, n, .inl f))) (ht : tys[t0]? = some (cA, .int)) {k : Nat} {x : Int32} (hk : k < n) (hn : n < 2 ^ 31) (hdg : decode cc pc = .ok (.iastore, 1))
    (kk : ∀ (H1 : Heap) (locs1 : List Loc), va_P D cl (ws.set q0 (a, .inl (cA, n, .inl (upd f k x)))) H1 → va_D A (ws.set q0 (a, .inl (cA, n, .inl (upd f k x)))) → va_S A H0 H1 locs1 → W p l e R s m args below meth c H1 locs1 cells slots Q (F0 m (pc + 1) ls rest)) : W p l e R s m args below meth c H locs cells slots Q (F0 m pc ls (.int x :: .int (nI k) :: .ref a :: rest)) := by
  refine va_iast hexec hb hK hP hD hS q0 t0 ha ht (vp_in_nI hk hn) hdg ?_
  rw [nI_clamp (show k < 2 ^ 31 by omega)]
  exact kk
theorem an_zast (hexec : p.tables.exec = Jvm.exec) (hb : c.code = cc) (hK : va_K D cl tys s) (hP : va_P D cl ws H) (hD : va_D A ws) (hS : va_S A H0 H locs) (q0 t0 : Nat) {cA : ClassId} {n : Nat} {f : Nat → Int32} (ha : ws[q0]? = some (a, .inl (cA, n, .inl f))) (ht : tys[t0]? = some (cA, .boolean)) {k : Nat} {x : Bool} (hk : k < n) (hn : n < 2 ^ 31) (hdg : decode cc pc = .ok (.bastore, 1))
    (kk : ∀ (H1 : Heap) (locs1 : List Loc), va_P D cl (ws.set q0 (a, .inl (cA, n, .inl (upd f k (bI x))))) H1 → va_D A (ws.set q0 (a, .inl (cA, n, .inl (upd f k (bI x))))) → va_S A H0 H1 locs1 → W p l e R s m args below meth c H1 locs1 cells slots Q (F0 m (pc + 1) ls rest)) : W p l e R s m args below meth c H locs cells slots Q (F0 m pc ls (.int (bI x) :: .int (nI k) :: .ref a :: rest)) := by
  refine va_zast hexec hb hK hP hD hS q0 t0 ha ht (vp_in_nI hk hn) hdg ?_
  rw [nI_clamp (show k < 2 ^ 31 by omega), bI_vp]
  exact kk
end AN
theorem nI_and3 {k : Nat} (h : k < 2 ^ 31) : nI k &&& 3 = nI (k % 4) := pk_andN (by omega) 2 (by decide)
theorem nI_dif {a b : Nat} (ha : a < 2 ^ 31) (hb : b < 2 ^ 31) : (nI a = nI b) ↔ a = b := nI_eq ha hb
end
section
theorem nR_lt31 {w h : Nat} (hw : w ≤ 12) (hh : h ≤ 12) : nR w h < 2 ^ 31 := by have := nR_le hw hh; omega
theorem fS_a {w h e : Nat} (hw : w ≤ 12) (hh : h ≤ 12) (he : e < 264) (c : ¬ nI e < nI (nR w h)) : nI e - nI (nR w h) = nI (fS w h e) := by
  have h1 : nR w h ≤ e := by
    rw [nI_ltI (by omega) (nR_lt31 hw hh)] at c; omega
  rw [pk_sub h1]; unfold fS; rw [if_pos h1]
theorem fS_b {w h e : Nat} (gw : 2 ≤ w) (hw : w ≤ 12) (hh : h ≤ 12) (he : e < 264) (c : nI e < nI (nR w h)) : nI e + nI e / nI (w - 1) = nI (fS w h e) := by
  have h1 : e < nR w h := by
    rwa [nI_ltI (by omega) (nR_lt31 hw hh)] at c
  rw [pk_div (by omega) (by omega) (by omega), nI_add]; unfold fS; rw [if_neg (by omega)]
theorem sS_a {w h e : Nat} (hw : w ≤ 12) (hh : h ≤ 12) (he : e < 264) (c : nI (nR w h) ≤ nI e) : nI (fS w h e) + nI w = nI (sS w h e) := by
  have h1 : nR w h ≤ e := by
    rwa [nI_leI (nR_lt31 hw hh) (by omega)] at c
  rw [nI_add]; unfold sS; rw [if_neg (by omega)]
theorem sS_b {w h e : Nat} (hw : w ≤ 12) (hh : h ≤ 12) (he : e < 264) (c : ¬ nI (nR w h) ≤ nI e) : nI (fS w h e) + 1 = nI (sS w h e) := by
  have h1 : ¬ nR w h ≤ e := by
    rwa [nI_leI (nR_lt31 hw hh) (by omega)] at c
  rw [nI_1]; unfold sS; rw [if_pos (by omega)]
theorem hc_eq : ∀ a, a < 16 → ∀ k, k < 8 → ((nI a >>> ((nI k - nI k / 4 * 4) &&& 31)) &&& 1) = bI (a.testBit (k % 4)) := by decide +kernel
theorem bI_ne1 {b : Bool} (h : ¬ bI b = 1) : b = false := by cases b <;> simp_all [bI]
theorem bI_e1 {b : Bool} (h : bI b = 1) : b = true := by cases b <;> simp_all [bI]
/-- a line comes in, goes out over side k of a cell whose corners above are the bits of a -/
def inA (a k : Nat) : Bool := a.testBit (k % 4) && !a.testBit ((k + 1) % 4)
def outA (a k : Nat) : Bool := !a.testBit (k % 4) && a.testBit ((k + 1) % 4)
theorem mid_1 {tw a b c d : Int32} {lo mi lv : Int64} (h1 : lo = a.toInt64 + c.toInt64 - b.toInt64 - d.toInt64) (h2 : mi = 2 * (a.toInt64 * c.toInt64 - b.toInt64 * d.toInt64)) (h3 : lv = tw.toInt64 * lo) (c1 : ¬ lg_cmp lo 0 ≤ 0) : midI tw a b c d = decide (lv < mi) := by
  rw [lg_cmp_le] at c1
  subst h1 h2 h3
  unfold midI
  rw [if_pos (Int64.not_le.mp c1)]
theorem mid_2 {tw a b c d : Int32} {lo mi lv : Int64} (h1 : lo = a.toInt64 + c.toInt64 - b.toInt64 - d.toInt64) (h2 : mi = 2 * (a.toInt64 * c.toInt64 - b.toInt64 * d.toInt64)) (h3 : lv = tw.toInt64 * lo) (c1 : lg_cmp lo 0 ≤ 0) : midI tw a b c d = decide (mi < lv) := by
  rw [lg_cmp_le] at c1
  subst h1 h2 h3
  unfold midI
  rw [if_neg (Int64.not_lt.mpr c1)]
theorem nI_p1 (x : Nat) : nI x + 1 = nI (x + 1) := nI_1 x
end
section
/-! the reference's edges: where an edge lies -/
def xE (w h e : Nat) : Nat := if e < nR w h then e % (w - 1) else (e - nR w h) % w
def yE (w h e : Nat) : Nat := if e < nR w h then e / (w - 1) else (e - nR w h) / w
/-- a field's test at a place, an edge's first and second sample -/
def fst2 (w h : Nat) (f : Nat → Nat → Int32) (e : Nat) : Int32 := f (xE w h e) (yE w h e)
def snd2 (w h : Nat) (f : Nat → Nat → Int32) (e : Nat) : Int32 := if e < nR w h then f (xE w h e + 1) (yE w h e) else f (xE w h e) (yE w h e + 1)
def crB (w h : Nat) (f : Nat → Nat → Int32) (tw : Int32) (e : Nat) : Bool := abI tw (fst2 w h f e) != abI tw (snd2 w h f e)
theorem xE_a {w h e : Nat} (gw : 2 ≤ w) (hw : w ≤ 12) (he : e < 264) (c : e < nR w h) : nI e - nI e / nI (w - 1) * nI (w - 1) = nI (xE w h e) := by
  rw [pk_rem (by omega) (by omega) (by omega)]; unfold xE; rw [if_pos c]
theorem xE_b {w h e : Nat} (gw : 2 ≤ w) (hw : w ≤ 12) (hh : h ≤ 12) (he : e < 264) (c : ¬ e < nR w h) : (nI e - nI (nR w h)) - (nI e - nI (nR w h)) / nI w * nI w = nI (xE w h e) := by
  rw [pk_sub (by omega), pk_rem (by omega) (by omega) (by omega)]; unfold xE; rw [if_neg c]
theorem yE_a {w h e : Nat} (gw : 2 ≤ w) (hw : w ≤ 12) (he : e < 264) (c : e < nR w h) : nI e / nI (w - 1) = nI (yE w h e) := by
  rw [pk_div (by omega) (by omega) (by omega)]; unfold yE; rw [if_pos c]
theorem yE_b {w h e : Nat} (gw : 2 ≤ w) (hw : w ≤ 12) (hh : h ≤ 12) (he : e < 264) (c : ¬ e < nR w h) : (nI e - nI (nR w h)) / nI w = nI (yE w h e) := by
  rw [pk_sub (by omega), pk_div (by omega) (by omega) (by omega)]; unfold yE; rw [if_neg c]
theorem xy_a {w h e : Nat} (gw : 2 ≤ w) (c : e < nR w h) : xE w h e + 1 < w ∧ yE w h e < h := by
  unfold xE yE; rw [if_pos c, if_pos c]
  have h1 : e % (w - 1) < w - 1 := Nat.mod_lt _ (by omega)
  have h2 : e / (w - 1) < h := Nat.div_lt_of_lt_mul (by unfold nR at c; rw [Nat.mul_comm]; exact c)
  omega
theorem xy_b {w h e : Nat} (gw : 2 ≤ w) (gh : 2 ≤ h) (he : e < nE w h) (c : ¬ e < nR w h) : xE w h e < w ∧ yE w h e + 1 < h := by
  unfold xE yE; rw [if_neg c, if_neg c]
  rw [nE_eq] at he
  have h1 : (e - nR w h) % w < w := Nat.mod_lt _ (by omega)
  have h2 : (e - nR w h) / w < h - 1 := Nat.div_lt_of_lt_mul (by rw [Nat.mul_comm]; omega)
  omega
theorem xy_1 {w h e : Nat} (gw : 2 ≤ w) (gh : 2 ≤ h) (he : e < nE w h) : xE w h e < w ∧ yE w h e < h := by
  by_cases c : e < nR w h
  · have := xy_a gw c; omega
  · have := xy_b gw gh he c; omega
theorem nI_12 {x y : Nat} : (12 : Int32) * nI y + nI x = nI (12 * y + x) := by
  rw [show (12 : Int32) = nI 12 from rfl, pk_mul, nI_add]
theorem bd_t {P : Prop} [Decidable P] (h : ¬ bI (decide P) = 0) : P := of_decide_eq_true (bI_n0.mp h)
theorem bd_f {P : Prop} [Decidable P] (h : bI (decide P) = 0) : ¬ P := of_decide_eq_false (bI_0.mp h)
/-- a corner of a cell, above or not; a line comes in over side k, goes out over side k; where it goes out -/
def crn (f : Nat → Nat → Int32) (tw : Int32) (x y k : Nat) : Bool := abI tw (f (cX x k) (cY y k))
def dnB (f : Nat → Nat → Int32) (tw : Int32) (x y k : Nat) : Bool := crn f tw x y k && !crn f tw x y (k + 1)
def upB (f : Nat → Nat → Int32) (tw : Int32) (x y k : Nat) : Bool := !crn f tw x y k && crn f tw x y (k + 1)
def mdB (f : Nat → Nat → Int32) (tw : Int32) (x y : Nat) : Bool := midI tw (f x y) (f (x + 1) y) (f (x + 1) (y + 1)) (f x (y + 1))
theorem cX_0 {x k : Nat} (h : 0 = k % 4) : cX x k = x := by simp [cX, ← h]
theorem cX_1 {x k : Nat} (h : 1 = k % 4) : cX x k = x + 1 := by simp [cX, ← h]
theorem cX_2 {x k : Nat} (h : 2 = k % 4) : cX x k = x + 1 := by simp [cX, ← h]
theorem cX_3 {x k : Nat} (h : 3 = k % 4) : cX x k = x := by simp [cX, ← h]
theorem cY_0 {x k : Nat} (h : 0 = k % 4) : cY x k = x := by simp [cY, ← h]
theorem cY_1 {x k : Nat} (h : 1 = k % 4) : cY x k = x := by simp [cY, ← h]
theorem cY_2 {x k : Nat} (h : 2 = k % 4) : cY x k = x + 1 := by simp [cY, ← h]
theorem cY_3 {x k : Nat} (h : 3 = k % 4) : cY x k = x + 1 := by simp [cY, ← h]
theorem eO_0 {w h x y k : Nat} (e : 0 = k % 4) : eO w h x y k = y * (w - 1) + x := by simp [eO, ← e]
theorem eO_1 {w h x y k : Nat} (e : 1 = k % 4) : eO w h x y k = nR w h + y * w + (x + 1) := by simp [eO, ← e]
theorem eO_2 {w h x y k : Nat} (e : 2 = k % 4) : eO w h x y k = (y + 1) * (w - 1) + x := by simp [eO, ← e]
theorem eO_3 {w h x y k : Nat} (e : 3 = k % 4) : eO w h x y k = nR w h + y * w + x := by simp [eO, ← e]
theorem cX_lt {w x : Nat} (k : Nat) (h : x + 1 < w) : cX x k < w := by
  have : k % 4 < 4 := Nat.mod_lt _ (by decide)
  rcases (show 0 = k % 4 ∨ 1 = k % 4 ∨ 2 = k % 4 ∨ 3 = k % 4 by omega) with e | e | e | e
  · rw [cX_0 e]; omega
  · rw [cX_1 e]; omega
  · rw [cX_2 e]; omega
  · rw [cX_3 e]; omega
theorem cY_lt {w x : Nat} (k : Nat) (h : x + 1 < w) : cY x k < w := by
  have : k % 4 < 4 := Nat.mod_lt _ (by decide)
  rcases (show 0 = k % 4 ∨ 1 = k % 4 ∨ 2 = k % 4 ∨ 3 = k % 4 by omega) with e | e | e | e
  · rw [cY_0 e]; omega
  · rw [cY_1 e]; omega
  · rw [cY_2 e]; omega
  · rw [cY_3 e]; omega
end
section
/-! samples by edges in the class's numbers; the exit of a cell; masks; counts -/
theorem fS_eq {w h e : Nat} (gw : 2 ≤ w) : fS w h e = yE w h e * w + xE w h e := by
  unfold fS xE yE
  by_cases c : e < nR w h
  · rw [if_neg (by omega), if_pos c, if_pos c]
    have h1 := Nat.div_add_mod e (w - 1)
    have h2 : e / (w - 1) * w = (w - 1) * (e / (w - 1)) + e / (w - 1) := by
      have : w = (w - 1) + 1 := by omega
      rw [Nat.mul_comm, this, Nat.add_mul]; simp
    omega
  · rw [if_pos (by omega), if_neg c, if_neg c]
    have h1 := Nat.div_add_mod (e - nR w h) w
    rw [Nat.mul_comm] at h1
    omega
theorem sS_eq {w h e : Nat} (gw : 2 ≤ w) : sS w h e = if e < nR w h then yE w h e * w + (xE w h e + 1) else (yE w h e + 1) * w + xE w h e := by
  unfold sS
  rw [fS_eq gw]
  by_cases c : e < nR w h
  · rw [if_pos c, if_pos c]; omega
  · rw [if_neg c, if_neg c, Nat.add_mul]; omega
theorem fS_f {w h e : Nat} {f : Nat → Nat → Int32} {sm : Nat → Int32} (gw : 2 ≤ w) (gh : 2 ≤ h) (gf : ∀ x y, x < w → y < h → sm (y * w + x) = f x y) (ge : e < nE w h) : sm (fS w h e) = fst2 w h f e := by
  rw [fS_eq gw]
  exact gf _ _ (xy_1 gw gh ge).1 (xy_1 gw gh ge).2
theorem sS_f {w h e : Nat} {f : Nat → Nat → Int32} {sm : Nat → Int32} (gw : 2 ≤ w) (gh : 2 ≤ h) (gf : ∀ x y, x < w → y < h → sm (y * w + x) = f x y) (ge : e < nE w h) : sm (sS w h e) = snd2 w h f e := by
  rw [sS_eq gw]
  unfold snd2
  by_cases c : e < nR w h
  · rw [if_pos c, if_pos c]
    exact gf _ _ (xy_a gw c).1 (xy_a gw c).2
  · rw [if_neg c, if_neg c]
    exact gf _ _ (xy_b gw gh ge c).1 (xy_b gw gh ge c).2
theorem le_n {a b : Nat} (h : nI a ≤ nI b) (ha : a < 2 ^ 31) (hb : b < 2 ^ 31) : a ≤ b := (nI_leI ha hb).mp h
theorem nle_n {a b : Nat} (h : ¬ nI a ≤ nI b) (ha : a < 2 ^ 31) (hb : b < 2 ^ 31) : b < a := by
  rw [nI_leI ha hb] at h; omega
theorem rem4 {a : Nat} (h : a < 2 ^ 31) : nI a - nI a / 4 * 4 = nI (a % 4) := pk_rem (d := 4) h (by decide) (by decide)
def exL : Nat → Nat → Nat → Nat → Nat
  | 0, _, s, _ => s
  | n + 1, a, s, t => if outA a s then s else exL n a ((s + t) % 4) t
def exA (a k t : Nat) : Nat := exL 4 a ((k + t) % 4) t
theorem exL_0 {a s t n : Nat} (h : n = 0) : exL n a s t = s := by subst h; rfl
theorem exL_t {a s t n : Nat} (hn : 0 < n) (h : outA a s = true) : exL n a s t = s := by
  cases n with
  | zero => omega
  | succ n => simp [exL, h]
theorem exL_f {a s t n m : Nat} (hn : n = m + 1) (h : outA a s = false) : exL n a s t = exL m a ((s + t) % 4) t := by
  subst hn; simp [exL, h]
def mk4 (c : Nat → Bool) : Nat → Nat
  | 0 => 0
  | n + 1 => mk4 c n + (if c n then 2 ^ n else 0)
theorem mk4_lt (c : Nat → Bool) (n : Nat) : mk4 c n < 2 ^ n := by
  induction n with
  | zero => simp [mk4]
  | succ n ih => simp only [mk4]; rw [Nat.pow_succ]; split <;> omega
theorem or4 : ∀ j, j < 4 → ∀ m, m < 16 → m < 2 ^ j → nI m ||| ((1 : Int32) <<< (nI j &&& 31)) = nI (m + 2 ^ j) := by decide +kernel
theorem mk4_bit : ∀ (c : Nat → Bool) (k : Nat), k < 4 → (mk4 c 4).testBit k = c k := by
  intro c k hk
  rcases (show k = 0 ∨ k = 1 ∨ k = 2 ∨ k = 3 by omega) with rfl | rfl | rfl | rfl <;> simp only [mk4] <;> cases c 0 <;> cases c 1 <;> cases c 2 <;> cases c 3 <;> decide
/-- how many below n -/
def cntB (p : Nat → Bool) : Nat → Nat
  | 0 => 0
  | n + 1 => cntB p n + (if p n then 1 else 0)
theorem cntB_le (p : Nat → Bool) (n : Nat) : cntB p n ≤ n := by
  induction n with
  | zero => simp [cntB]
  | succ n ih => simp only [cntB]; split <;> omega
theorem cntB_t {p : Nat → Bool} {n : Nat} (h : p n = true) : cntB p (n + 1) = cntB p n + 1 := by simp [cntB, h]
theorem cntB_f {p : Nat → Bool} {n : Nat} (h : p n = false) : cntB p (n + 1) = cntB p n := by simp [cntB, h]
/-- Euclid's steps -/
def euc : Nat → Nat → Nat → Nat
  | 0, a, _ => a
  | n + 1, a, b => if b = 0 then a else euc n b (a % b)
theorem euc_0 {n a b : Nat} (h : n = 0 ∨ b = 0) : euc n a b = a := by
  cases n with
  | zero => rfl
  | succ n => rcases h with h | h <;> simp_all [euc]
theorem euc_s {n m a b : Nat} (hn : n = m + 1) (hb : ¬ b = 0) : euc n a b = euc m b (a % b) := by subst hn; simp [euc, hb]
theorem euc_gcd : ∀ (k n a b : Nat), b < 2 ^ k → 2 * k ≤ n → euc n a b = Nat.gcd a b := by
  intro k
  induction k with
  | zero =>
    intro n a b hb _
    have : b = 0 := by simpa using hb
    subst this
    rw [euc_0 (Or.inr rfl), Nat.gcd_zero_right]
  | succ k ih =>
    intro n a b hb hn
    by_cases hb0 : b = 0
    · subst hb0
      rw [euc_0 (Or.inr rfl), Nat.gcd_zero_right]
    · obtain ⟨m, rfl⟩ : ∃ m, n = m + 2 := ⟨n - 2, by omega⟩
      rw [euc_s (m := m + 1) rfl hb0]
      have g1 : Nat.gcd a b = Nat.gcd b (a % b) := by rw [Nat.gcd_comm a b, Nat.gcd_rec b a, Nat.gcd_comm]
      by_cases hr : a % b = 0
      · rw [euc_0 (Or.inr hr), g1, hr, Nat.gcd_zero_right]
      · rw [euc_s (m := m) rfl hr, g1]
        have g2 : Nat.gcd b (a % b) = Nat.gcd (a % b) (b % (a % b)) := by rw [Nat.gcd_comm b, Nat.gcd_rec (a % b) b, Nat.gcd_comm]
        rw [g2]
        have h1 : a % b < b := Nat.mod_lt _ (by omega)
        have h2 : b % (a % b) < a % b := Nat.mod_lt _ (by omega)
        have h3 : b % (a % b) + (a % b) ≤ b := by
          have h4 := Nat.mod_add_div b (a % b)
          have h5 : 1 ≤ b / (a % b) := Nat.div_pos (by omega) (by omega)
          have h6 : a % b * 1 ≤ a % b * (b / (a % b)) := Nat.mul_le_mul_left _ h5
          omega
        apply ih m
        · rw [Nat.pow_succ] at hb; omega
        · omega
end
section
/-! where a line that comes in over side k of a cell goes out; the reference's next edge -/
def ldB (f : Nat → Nat → Int32) (tw : Int32) (x y k : Nat) : Nat :=
  if upB f tw x y (k + 1) && upB f tw x y (k + 3) then (if mdB f tw x y then k + 1 else k + 3)
  else if upB f tw x y (k + 1) then k + 1 else if upB f tw x y (k + 2) then k + 2 else k + 3
theorem crn_4 (f : Nat → Nat → Int32) (tw : Int32) (x y k : Nat) : crn f tw x y (k + 4) = crn f tw x y k := by
  unfold crn cX cY; rw [Nat.add_mod_right]
theorem up_4 (f : Nat → Nat → Int32) (tw : Int32) (x y k : Nat) : upB f tw x y (k + 4) = upB f tw x y k := by
  unfold upB; rw [crn_4, show k + 4 + 1 = k + 1 + 4 from by omega, crn_4]
theorem dn_4 (f : Nat → Nat → Int32) (tw : Int32) (x y k : Nat) : dnB f tw x y (k + 4) = dnB f tw x y k := by
  unfold dnB; rw [crn_4, show k + 4 + 1 = k + 1 + 4 from by omega, crn_4]
theorem up_some {f : Nat → Nat → Int32} {tw : Int32} {x y k : Nat} (h : dnB f tw x y k = true) (h1 : upB f tw x y (k + 1) = false) (h2 : upB f tw x y (k + 2) = false) : upB f tw x y (k + 3) = true := by
  unfold dnB upB at *
  have h4 := crn_4 f tw x y k
  rw [show k + 3 + 1 = k + 4 from by omega, h4]
  simp only [Nat.add_assoc] at *
  revert h h1 h2
  cases crn f tw x y k <;> cases crn f tw x y (k + 1) <;> cases crn f tw x y (k + 2) <;> cases crn f tw x y (k + 3) <;> simp
theorem ldB_4 {f : Nat → Nat → Int32} {tw : Int32} {x y k : Nat} (h1 : upB f tw x y (k + 1) = true) (h3 : upB f tw x y (k + 3) = true) : ldB f tw x y k = if mdB f tw x y then k + 1 else k + 3 := by
  unfold ldB; simp [h1, h3]
theorem ldB_1 {f : Nat → Nat → Int32} {tw : Int32} {x y k : Nat} (h1 : upB f tw x y (k + 1) = true) (h3 : upB f tw x y (k + 3) = false) : ldB f tw x y k = k + 1 := by
  unfold ldB; simp [h1, h3]
theorem ldB_2 {f : Nat → Nat → Int32} {tw : Int32} {x y k : Nat} (h1 : upB f tw x y (k + 1) = false) (h2 : upB f tw x y (k + 2) = true) : ldB f tw x y k = k + 2 := by
  unfold ldB; simp [h1, h2]
theorem ldB_3 {f : Nat → Nat → Int32} {tw : Int32} {x y k : Nat} (h1 : upB f tw x y (k + 1) = false) (h2 : upB f tw x y (k + 2) = false) : ldB f tw x y k = k + 3 := by
  unfold ldB; simp [h1, h2]
/-- one cell beside an edge: is there a cell, does a line come in (go out) -/
def cl0 (w h x y : Nat) : Bool := decide (x + 1 < w) && decide (y + 1 < h)
def clY (w h x y : Nat) : Bool := decide (x + 1 < w) && (decide (1 ≤ y) && decide (y < h))
def clX (w h x y : Nat) : Bool := (decide (1 ≤ x) && decide (x < w)) && decide (y + 1 < h)
theorem d_0 {a : Nat} (ha : a < 2 ^ 31) : decide ((0 : Int32) ≤ nI a) = true := decide_eq_true (nI_pos' ha)
theorem d_l {a b : Nat} (ha : a < 2 ^ 30) (hb : b < 2 ^ 30) (h1 : 1 ≤ b) : decide (nI a < nI (b - 1)) = decide (a + 1 < b) := by
  have h2 : (nI a < nI (b - 1)) ↔ a + 1 < b := by rw [nI_ltI (by omega) (by omega)]; omega
  exact decide_eq_decide.mpr h2
theorem cl_0 {w h x y : Nat} (gw : 2 ≤ w) (gw2 : w ≤ 12) (gh : 2 ≤ h) (gh2 : h ≤ 12) (hx : x < 12) (hy : y < 12) : (decide (0 ≤ nI x) && decide (nI x < nI (w - 1)) && decide (0 ≤ nI y) && decide (nI y < nI (h - 1))) = cl0 w h x y := by
  unfold cl0
  rw [d_0 (by omega), d_0 (by omega), d_l (by omega) (by omega) (by omega), d_l (by omega) (by omega) (by omega)]
  simp
theorem cl_Y {w h x y : Nat} (gw : 2 ≤ w) (gw2 : w ≤ 12) (gh : 2 ≤ h) (gh2 : h ≤ 12) (hx : x < 12) (hy : y < 12) : (decide (0 ≤ nI x) && decide (nI x < nI (w - 1)) && decide (0 ≤ nI y - 1) && decide (nI y - 1 < nI (h - 1))) = clY w h x y := by
  unfold clY
  rcases Nat.eq_zero_or_pos y with rfl | h0
  · rw [show decide ((0 : Int32) ≤ nI 0 - 1) = false from by decide]; simp
  · rw [nI_m1 h0, d_0 (by omega), d_0 (by omega), d_l (by omega) (by omega) (by omega), d_l (by omega) (by omega) (by omega), show y - 1 + 1 = y from by omega, decide_eq_true (show 1 ≤ y from h0)]
    simp
theorem cl_X {w h x y : Nat} (gw : 2 ≤ w) (gw2 : w ≤ 12) (gh : 2 ≤ h) (gh2 : h ≤ 12) (hx : x < 12) (hy : y < 12) : (decide (0 ≤ nI x - 1) && decide (nI x - 1 < nI (w - 1)) && decide (0 ≤ nI y) && decide (nI y < nI (h - 1))) = clX w h x y := by
  unfold clX
  rcases Nat.eq_zero_or_pos x with rfl | h0
  · rw [show decide ((0 : Int32) ≤ nI 0 - 1) = false from by decide]; simp
  · rw [nI_m1 h0, d_0 (by omega), d_0 (by omega), d_l (by omega) (by omega) (by omega), d_l (by omega) (by omega) (by omega), show x - 1 + 1 = x from by omega, decide_eq_true (show 1 ≤ x from h0)]
    simp
/-- the reference's next edge, and whether a line leads to an edge -/
def nxR (w h : Nat) (f : Nat → Nat → Int32) (tw : Int32) (e : Nat) : Int32 :=
  if e < nR w h then
    (if clY w h (xE w h e) (yE w h e) && dnB f tw (xE w h e) (yE w h e - 1) 2 then nI (eO w h (xE w h e) (yE w h e - 1) (ldB f tw (xE w h e) (yE w h e - 1) 2))
     else if cl0 w h (xE w h e) (yE w h e) && dnB f tw (xE w h e) (yE w h e) 0 then nI (eO w h (xE w h e) (yE w h e) (ldB f tw (xE w h e) (yE w h e) 0)) else -1)
  else
    (if clX w h (xE w h e) (yE w h e) && dnB f tw (xE w h e - 1) (yE w h e) 1 then nI (eO w h (xE w h e - 1) (yE w h e) (ldB f tw (xE w h e - 1) (yE w h e) 1))
     else if cl0 w h (xE w h e) (yE w h e) && dnB f tw (xE w h e) (yE w h e) 3 then nI (eO w h (xE w h e) (yE w h e) (ldB f tw (xE w h e) (yE w h e) 3)) else -1)
def ltR (w h : Nat) (f : Nat → Nat → Int32) (tw : Int32) (e : Nat) : Bool :=
  if e < nR w h then (cl0 w h (xE w h e) (yE w h e) && upB f tw (xE w h e) (yE w h e) 0) || (clY w h (xE w h e) (yE w h e) && upB f tw (xE w h e) (yE w h e - 1) 2)
  else (cl0 w h (xE w h e) (yE w h e) && upB f tw (xE w h e) (yE w h e) 3) || (clX w h (xE w h e) (yE w h e) && upB f tw (xE w h e - 1) (yE w h e) 1)
theorem cl0_ok {w h x y : Nat} (h1 : cl0 w h x y = true) : x + 1 < w ∧ y + 1 < h := by unfold cl0 at h1; simp at h1; exact h1
theorem clY_ok {w h x y : Nat} (h1 : clY w h x y = true) : x + 1 < w ∧ 1 ≤ y ∧ (y - 1) + 1 < h := by unfold clY at h1; simp at h1; omega
theorem clX_ok {w h x y : Nat} (h1 : clX w h x y = true) : (x - 1) + 1 < w ∧ 1 ≤ x ∧ y + 1 < h := by unfold clX at h1; simp at h1; omega
end
section
/-! what each call accepts; rows; chains as lists -/
def okT (t : Int32) : Bool := decide (t &&& 1 = 1) && (decide (-1999999 ≤ t) && decide (t ≤ 1999999))
def okF (a b : Int32) : Bool := (decide (2 ≤ a) && decide (a ≤ 12)) && (decide (2 ≤ b) && decide (b ≤ 12))
def okY (h : Nat) (y : Int32) : Bool := decide (0 ≤ y) && decide (y < nI h)
def okS (w h : Nat) (x y v : Int32) : Bool := (decide (0 ≤ x) && decide (x < nI w)) && (okY h y && decide (v = holdI v.toInt64))
theorem okY_n {h : Nat} {y : Int32} (g : okY h y = true) (hh : h < 2 ^ 31) : ∃ j, j < h ∧ y = nI j := by
  unfold okY at g
  simp only [Bool.and_eq_true, decide_eq_true_eq] at g
  rcases pk_ix y hh with q | q | q
  · exact absurd g.1 (by rw [Int32.not_le]; exact q)
  · exact absurd g.2 (by rw [Int32.not_lt]; exact q)
  · exact q
theorem okY_nI {h j : Nat} (hj : j < h) (hh : h < 2 ^ 31) : okY h (nI j) = true := by
  unfold okY
  simp only [Bool.and_eq_true, decide_eq_true_eq]
  exact ⟨nI_pos' (by omega), nI_lt hj hh⟩
/-- row y of the class's samples, j of them written -/
def rowF (w y : Nat) (fr sp : Int32) (sm : Nat → Int32) : Nat → Nat → Int32
  | 0 => sm
  | j + 1 => upd (rowF w y fr sp sm j) (y * w + j) (holdI (fr.toInt64 + (nI j).toInt64 * sp.toInt64))
/-- how many edges lie in the chains ahead of chain i -/
def pfx (L : List (List Nat)) (i : Nat) : Nat := (L.take i).flatten.length
theorem pfx_0 (L : List (List Nat)) : pfx L 0 = 0 := by simp [pfx]
theorem pfx_len (L : List (List Nat)) : pfx L L.length = L.flatten.length := by simp [pfx]
theorem pfx_s {L : List (List Nat)} {i : Nat} (h : i < L.length) : pfx L (i + 1) = pfx L i + L[i].length := by
  unfold pfx
  rw [List.take_succ_eq_append_getElem h, List.flatten_append, List.length_append]
  congr 1
  simp
theorem pfx_mono {L : List (List Nat)} : ∀ {i j : Nat}, i ≤ j → pfx L i ≤ pfx L j := by
  intro i j h
  induction j with
  | zero => have : i = 0 := by omega
            subst this; exact Nat.le_refl _
  | succ j ih =>
    rcases Nat.lt_or_ge i (j + 1) with q | q
    · have h1 := ih (by omega)
      by_cases hj : j < L.length
      · rw [pfx_s hj]; omega
      · unfold pfx at *
        rw [show L.take (j + 1) = L.take j from by rw [List.take_of_length_le (by omega), List.take_of_length_le (by omega)]]
        exact h1
    · have : i = j + 1 := by omega
      subst this; exact Nat.le_refl _
theorem pfx_le {L : List (List Nat)} {i : Nat} (h : i ≤ L.length) : pfx L i ≤ L.flatten.length := by
  rw [← pfx_len]; exact pfx_mono h
/-- the answers of size, isClosed, edge out of the chains -/
def szL (L : List (List Nat)) (y : Int32) : Int32 := bif okY L.length y then nI (pfx L (y.toNatClampNeg + 1) - pfx L y.toNatClampNeg) else -1
def clL (L : List (List Nat)) (no : Nat) (y : Int32) : Bool := okY L.length y && decide (nI no ≤ y)
def edL (L : List (List Nat)) (y i : Int32) : Int32 := bif okY L.length y && okY (pfx L (y.toNatClampNeg + 1) - pfx L y.toNatClampNeg) i then nI (L.flatten.getD (pfx L y.toNatClampNeg + i.toNatClampNeg) 0) else -1
theorem szL_n {L : List (List Nat)} {j : Nat} (hj : j < L.length) (hL : L.length < 2 ^ 31) : szL L (nI j) = nI (pfx L (j + 1) - pfx L j) := by
  unfold szL; rw [okY_nI hj hL, nI_clamp (by omega)]; rfl
theorem szL_z {L : List (List Nat)} {y : Int32} (h : okY L.length y = false) : szL L y = -1 := by unfold szL; rw [h]; rfl
theorem nI_cl1 {j : Nat} (h : j < 2 ^ 30) : nI j + 1 = nI (j + 1) := nI_p1 j
theorem okT_ok {t : Int32} : okT t = true ↔ (t &&& 1 = 1) ∧ -1999999 ≤ t ∧ t ≤ 1999999 := by unfold okT; simp
theorem okF_ok {a b : Int32} : okF a b = true ↔ (2 ≤ a ∧ a ≤ 12) ∧ 2 ≤ b ∧ b ≤ 12 := by unfold okF; simp
theorem bf_of {P : Prop} {b : Bool} (h : b = true ↔ P) (n : ¬ P) : b = false := by cases b <;> simp_all
theorem edL_z {L : List (List Nat)} {y i : Int32} (h : okY L.length y = false ∨ okY (pfx L (y.toNatClampNeg + 1) - pfx L y.toNatClampNeg) i = false) : edL L y i = -1 := by
  unfold edL; rcases h with h | h <;> rw [h] <;> simp
theorem edL_n {L : List (List Nat)} {j i : Nat} (hj : j < L.length) (hi : i < pfx L (j + 1) - pfx L j) (hL : L.length < 2 ^ 31) (hz : pfx L (j + 1) - pfx L j < 2 ^ 31) : edL L (nI j) (nI i) = nI (L.flatten.getD (pfx L j + i) 0) := by
  unfold edL; rw [okY_nI hj hL, nI_clamp (by omega), nI_clamp (by omega), okY_nI hi hz]; rfl
theorem szL_c {L : List (List Nat)} {y : Int32} (gL : L.length ≤ 132) (gU : L.flatten.length ≤ 264) : okY L.length y = false ∧ szL L y = -1 ∨ ∃ j, j < L.length ∧ y = nI j ∧ szL L y = nI (pfx L (j + 1) - pfx L j) ∧ pfx L (j + 1) - pfx L j ≤ 264 := by
  cases h : okY L.length y with
  | false => exact Or.inl ⟨rfl, szL_z h⟩
  | true =>
    obtain ⟨j, hj, rfl⟩ := okY_n h (by omega)
    have := pfx_le (L := L) (i := j + 1) (by omega)
    exact Or.inr ⟨j, hj, rfl, szL_n hj (by omega), by omega⟩
theorem edL_c {L : List (List Nat)} {y i : Int32} (gL : L.length ≤ 132) (gU : L.flatten.length ≤ 264) (c1 : ¬ i < 0) (c2 : szL L y ≤ i) : (-1 : Int32) = edL L y i := by
  rcases szL_c gL gU (y := y) with ⟨h, -⟩ | ⟨j, hj, rfl, h, h2⟩
  · rw [edL_z (Or.inl h)]
  · rw [h] at c2
    rw [edL_z (Or.inr _)]
    unfold okY
    rw [nI_clamp (by omega), decide_eq_false (Int32.not_lt.mpr c2)]; simp
theorem edL_r {L : List (List Nat)} {y i : Int32} (gL : L.length ≤ 132) (gU : L.flatten.length ≤ 264) (c1 : ¬ i < 0) (c2 : ¬ szL L y ≤ i) : ∃ j i0, j < L.length ∧ i0 < pfx L (j + 1) - pfx L j ∧ y = nI j ∧ i = nI i0 := by
  rcases szL_c gL gU (y := y) with ⟨h, h1⟩ | ⟨j, hj, rfl, h, h2⟩
  · rw [h1] at c2
    exfalso
    apply c2
    rw [Int32.le_iff_toInt_le]
    have := Int32.not_lt.mp c1
    rw [Int32.le_iff_toInt_le] at this
    simp at this ⊢
    omega
  · rw [h] at c2
    obtain ⟨i0, hi, rfl⟩ := okY_n (h := pfx L (j + 1) - pfx L j) (y := i) (by unfold okY; rw [decide_eq_true (Int32.not_lt.mp c1), decide_eq_true (Int32.not_le.mp c2)]; rfl) (by omega)
    exact ⟨j, i0, hj, hi, rfl, rfl⟩
end
section
set_option maxHeartbeats 4000000 in
set_option maxRecDepth 100000 in
/-- isSide -/
theorem c_X0_isSide (l : Launch) (D : va_G) (x : Int32) : roMet l yX0_isSide wsX0_isSide ({ frames := 0, cells := 0, slots := 0, locals := 0 } : Room) D [] [] [.int x] (fun r => r = bI (decide (2 ≤ x) && decide (x ≤ 12))) := by
  refine Met.ofW (cc := cX0_isSide) (maxL := 1) (ret := (some .boolean)) (by decide) rfl ?_
  intro p e s m args below meth c s₁ B hml hv
  obtain ⟨rfl, hP, hK⟩ := hv
  have hx := B.exec
  have hb := B.bytes
  have hr := B.returns
  have hts := atoms_spec (ws := wsX0_isSide) B.pre
  have hown : s.vm.findClass RX0 = some m.cls := findClass_of_methodNamed B.named
  have hlocks := B.notSynchronized
  have hS : va_S (fun _ => False) s.heap s.heap [] := va_S.rf
  have hP : va_P D vwCl [] s.heap := hP
  have hl := lv_entry ([.int x]) (n := 1) (Nat.le_of_ble_eq_true rfl)
  rw [lg_entry_eq]
  generalize (lg_sl ([.int x]) ++ List.replicate (1 - (lg_sl ([.int x])).length) Slot.unset).toArray = ls at hl ⊢
  have hl : lv_has ls 1 [(0, .int x)] := hl
  refine lv_iload_n hx hb dX0_isSide_0 rfl (lv_at hl 0 rfl) ?_
  refine lv_iconst (v := 2) hx hb dX0_isSide_1 (by decide) ?_
  refine lv_icmp_lt (tgt := 15) hx hb dX0_isSide_2 (by decide) (fun c2 => ?_) (fun c2 => ?_)
  · refine lv_iconst (v := 0) hx hb dX0_isSide_15 (by decide) ?_
    exact W.zret (v := 0) (ty := .boolean) hx hb hr rfl (fun t ht hW => ⟨⟨_, (), rfl, by first | (simp_all [bI]; done) | (simp_all [bI, Int32.lt_iff_toInt_lt, Int32.le_iff_toInt_le]; try omega), trivial⟩, hS.F ht⟩) hS.2.2 dX0_isSide_16
  · refine lv_iload_n hx hb dX0_isSide_5 rfl (lv_at hl 0 rfl) ?_
    refine lv_bipush (v := 12) hx hb dX0_isSide_6 (by decide) ?_
    refine lv_icmp_gt (tgt := 15) hx hb dX0_isSide_8 (by decide) (fun c8 => ?_) (fun c8 => ?_)
    · refine lv_iconst (v := 0) hx hb dX0_isSide_15 (by decide) ?_
      exact W.zret (v := 0) (ty := .boolean) hx hb hr rfl (fun t ht hW => ⟨⟨_, (), rfl, by first | (simp_all [bI]; done) | (simp_all [bI, Int32.lt_iff_toInt_lt, Int32.le_iff_toInt_le]; try omega), trivial⟩, hS.F ht⟩) hS.2.2 dX0_isSide_16
    · refine lv_iconst (v := 1) hx hb dX0_isSide_11 (by decide) ?_
      refine lv_goto (tgt := 16) hx hb dX0_isSide_12 (by decide) ?_
      exact W.zret (v := 1) (ty := .boolean) hx hb hr rfl (fun t ht hW => ⟨⟨_, (), rfl, by first | (simp_all [bI]; done) | (simp_all [bI, Int32.lt_iff_toInt_lt, Int32.le_iff_toInt_le]; try omega), trivial⟩, hS.F ht⟩) hS.2.2 dX0_isSide_16

set_option maxHeartbeats 4000000 in
set_option maxRecDepth 100000 in
/-- hasRow -/
theorem c_X0_hasRow (l : Launch) (D : va_G) (o : Nat → Nat) (cI : ClassId) (co ro tw op ch : Int32) (sm nx bf od st ow : Nat → Int32) (y : Int32) : roMet l yX0_hasRow wsX0_hasRow ({ frames := 0, cells := 0, slots := 0, locals := 0 } : Room) D (W0 o cI co ro tw op ch sm nx bf od st ow) [(cI, .int)] [.ref (o 0), .int y] (fun r => r = bI (decide (0 ≤ y) && decide (y < ro))) := by
  refine Met.ofW (cc := cX0_hasRow) (maxL := 2) (ret := (some .boolean)) (by decide) rfl ?_
  intro p e s m args below meth c s₁ B hml hv
  obtain ⟨rfl, hP, hK⟩ := hv
  have hx := B.exec
  have hb := B.bytes
  have hr := B.returns
  have hts := atoms_spec (ws := wsX0_hasRow) B.pre
  have hown : s.vm.findClass RX0 = some m.cls := findClass_of_methodNamed B.named
  have hlocks := B.notSynchronized
  have hin0 : ∀ w ∈ u_ws RX0 TX0 11, w ∈ wsX0_hasRow := by decide +kernel
  have hS : va_S (fun _ => False) s.heap s.heap [] := va_S.rf
  have hP : va_P D vwCl (W0 o cI co ro tw op ch sm nx bf od st ow) s.heap := hP
  have hl := lv_entry ([.ref (o 0), .int y]) (n := 2) (Nat.le_of_ble_eq_true rfl)
  rw [lg_entry_eq]
  generalize (lg_sl ([.ref (o 0), .int y]) ++ List.replicate (2 - (lg_sl ([.ref (o 0), .int y])).length) Slot.unset).toArray = ls at hl ⊢
  have hl : lv_has ls 2 [(0, .ref (o 0)), (1, .int y)] := hl
  refine lv_iload_n hx hb dX0_hasRow_0 rfl (lv_at hl 1 rfl) ?_
  refine lv_if_lt (tgt := 16) hx hb dX0_hasRow_1 (by decide) (fun c1 => ?_) (fun c1 => ?_)
  · refine lv_iconst (v := 0) hx hb dX0_hasRow_16 (by decide) ?_
    exact W.zret (v := 0) (ty := .boolean) hx hb hr rfl (fun t ht hW => ⟨⟨_, (), rfl, by first | (simp_all [bI]; done) | (simp_all [bI, Int32.lt_iff_toInt_lt, Int32.le_iff_toInt_le]; try omega), trivial⟩, hS.F ht⟩) hS.2.2 dX0_hasRow_17
  · refine lv_iload_n hx hb dX0_hasRow_4 rfl (lv_at hl 1 rfl) ?_
    refine lv_aload_n hx hb dX0_hasRow_5 rfl (lv_at hl 0 rfl) ?_
    refine va_get (D := D) (ci := 0) (v := .int ro) (C := RX0) (T := TX0) (N := 11) hx hb hts hin0 hown hK hP 0 rfl rfl 1 (by decide) (hts (.fieldLink RX0 13 "HeightLines" "rows" "I") (by decide +kernel)) (fun _ h9 => h9) rfl dX0_hasRow_6 ?_
    refine lv_icmp_ge (tgt := 16) hx hb dX0_hasRow_9 (by decide) (fun c9 => ?_) (fun c9 => ?_)
    · refine lv_iconst (v := 0) hx hb dX0_hasRow_16 (by decide) ?_
      exact W.zret (v := 0) (ty := .boolean) hx hb hr rfl (fun t ht hW => ⟨⟨_, (), rfl, by first | (simp_all [bI]; done) | (simp_all [bI, Int32.lt_iff_toInt_lt, Int32.le_iff_toInt_le]; try omega), trivial⟩, hS.F ht⟩) hS.2.2 dX0_hasRow_17
    · refine lv_iconst (v := 1) hx hb dX0_hasRow_12 (by decide) ?_
      refine lv_goto (tgt := 17) hx hb dX0_hasRow_13 (by decide) ?_
      exact W.zret (v := 1) (ty := .boolean) hx hb hr rfl (fun t ht hW => ⟨⟨_, (), rfl, by first | (simp_all [bI]; done) | (simp_all [bI, Int32.lt_iff_toInt_lt, Int32.le_iff_toInt_le]; try omega), trivial⟩, hS.F ht⟩) hS.2.2 dX0_hasRow_17

set_option maxHeartbeats 4000000 in
set_option maxRecDepth 100000 in
/-- hasChain -/
theorem c_X0_hasChain (l : Launch) (D : va_G) (o : Nat → Nat) (cI : ClassId) (co ro tw op ch : Int32) (sm nx bf od st ow : Nat → Int32) (y : Int32) : roMet l yX0_hasChain wsX0_hasChain ({ frames := 0, cells := 0, slots := 0, locals := 0 } : Room) D (W0 o cI co ro tw op ch sm nx bf od st ow) [(cI, .int)] [.ref (o 0), .int y] (fun r => r = bI (decide (0 ≤ y) && decide (y < ch))) := by
  refine Met.ofW (cc := cX0_hasChain) (maxL := 2) (ret := (some .boolean)) (by decide) rfl ?_
  intro p e s m args below meth c s₁ B hml hv
  obtain ⟨rfl, hP, hK⟩ := hv
  have hx := B.exec
  have hb := B.bytes
  have hr := B.returns
  have hts := atoms_spec (ws := wsX0_hasChain) B.pre
  have hown : s.vm.findClass RX0 = some m.cls := findClass_of_methodNamed B.named
  have hlocks := B.notSynchronized
  have hin0 : ∀ w ∈ u_ws RX0 TX0 11, w ∈ wsX0_hasChain := by decide +kernel
  have hS : va_S (fun _ => False) s.heap s.heap [] := va_S.rf
  have hP : va_P D vwCl (W0 o cI co ro tw op ch sm nx bf od st ow) s.heap := hP
  have hl := lv_entry ([.ref (o 0), .int y]) (n := 2) (Nat.le_of_ble_eq_true rfl)
  rw [lg_entry_eq]
  generalize (lg_sl ([.ref (o 0), .int y]) ++ List.replicate (2 - (lg_sl ([.ref (o 0), .int y])).length) Slot.unset).toArray = ls at hl ⊢
  have hl : lv_has ls 2 [(0, .ref (o 0)), (1, .int y)] := hl
  refine lv_iload_n hx hb dX0_hasChain_0 rfl (lv_at hl 1 rfl) ?_
  refine lv_if_lt (tgt := 16) hx hb dX0_hasChain_1 (by decide) (fun c1 => ?_) (fun c1 => ?_)
  · refine lv_iconst (v := 0) hx hb dX0_hasChain_16 (by decide) ?_
    exact W.zret (v := 0) (ty := .boolean) hx hb hr rfl (fun t ht hW => ⟨⟨_, (), rfl, by first | (simp_all [bI]; done) | (simp_all [bI, Int32.lt_iff_toInt_lt, Int32.le_iff_toInt_le]; try omega), trivial⟩, hS.F ht⟩) hS.2.2 dX0_hasChain_17
  · refine lv_iload_n hx hb dX0_hasChain_4 rfl (lv_at hl 1 rfl) ?_
    refine lv_aload_n hx hb dX0_hasChain_5 rfl (lv_at hl 0 rfl) ?_
    refine va_get (D := D) (ci := 0) (v := .int ch) (C := RX0) (T := TX0) (N := 11) hx hb hts hin0 hown hK hP 0 rfl rfl 10 (by decide) (hts (.fieldLink RX0 41 "HeightLines" "chains" "I") (by decide +kernel)) (fun _ h9 => h9) rfl dX0_hasChain_6 ?_
    refine lv_icmp_ge (tgt := 16) hx hb dX0_hasChain_9 (by decide) (fun c9 => ?_) (fun c9 => ?_)
    · refine lv_iconst (v := 0) hx hb dX0_hasChain_16 (by decide) ?_
      exact W.zret (v := 0) (ty := .boolean) hx hb hr rfl (fun t ht hW => ⟨⟨_, (), rfl, by first | (simp_all [bI]; done) | (simp_all [bI, Int32.lt_iff_toInt_lt, Int32.le_iff_toInt_le]; try omega), trivial⟩, hS.F ht⟩) hS.2.2 dX0_hasChain_17
    · refine lv_iconst (v := 1) hx hb dX0_hasChain_12 (by decide) ?_
      refine lv_goto (tgt := 17) hx hb dX0_hasChain_13 (by decide) ?_
      exact W.zret (v := 1) (ty := .boolean) hx hb hr rfl (fun t ht hW => ⟨⟨_, (), rfl, by first | (simp_all [bI]; done) | (simp_all [bI, Int32.lt_iff_toInt_lt, Int32.le_iff_toInt_le]; try omega), trivial⟩, hS.F ht⟩) hS.2.2 dX0_hasChain_17

set_option maxHeartbeats 4000000 in
set_option maxRecDepth 100000 in
/-- sampleAt -/
theorem c_X0_sampleAt (l : Launch) (D : va_G) (o : Nat → Nat) (cI : ClassId) (ro tw op ch : Int32) (sm nx bf od st ow : Nat → Int32) (w : Nat) (x : Nat) (y : Nat) : roMet l yX0_sampleAt wsX0_sampleAt ({ frames := 0, cells := 0, slots := 0, locals := 0 } : Room) D (W0 o cI (nI w) ro tw op ch sm nx bf od st ow) [(cI, .int)] [.ref (o 0), .int (nI x), .int (nI y)] (fun r => r = nI (y * w + x)) := by
  refine Met.ofW (cc := cX0_sampleAt) (maxL := 3) (ret := (some .int)) (by decide) rfl ?_
  intro p e s m args below meth c s₁ B hml hv
  obtain ⟨rfl, hP, hK⟩ := hv
  have hx := B.exec
  have hb := B.bytes
  have hr := B.returns
  have hts := atoms_spec (ws := wsX0_sampleAt) B.pre
  have hown : s.vm.findClass RX0 = some m.cls := findClass_of_methodNamed B.named
  have hlocks := B.notSynchronized
  have hin0 : ∀ w ∈ u_ws RX0 TX0 11, w ∈ wsX0_sampleAt := by decide +kernel
  have hS : va_S (fun _ => False) s.heap s.heap [] := va_S.rf
  have hP : va_P D vwCl (W0 o cI (nI w) ro tw op ch sm nx bf od st ow) s.heap := hP
  have hl := lv_entry ([.ref (o 0), .int (nI x), .int (nI y)]) (n := 3) (Nat.le_of_ble_eq_true rfl)
  rw [lg_entry_eq]
  generalize (lg_sl ([.ref (o 0), .int (nI x), .int (nI y)]) ++ List.replicate (3 - (lg_sl ([.ref (o 0), .int (nI x), .int (nI y)])).length) Slot.unset).toArray = ls at hl ⊢
  have hl : lv_has ls 3 [(0, .ref (o 0)), (1, .int (nI x)), (2, .int (nI y))] := hl
  refine lv_iload_n hx hb dX0_sampleAt_0 rfl (lv_at hl 2 rfl) ?_
  refine lv_aload_n hx hb dX0_sampleAt_1 rfl (lv_at hl 0 rfl) ?_
  refine va_get (D := D) (ci := 0) (v := .int (nI w)) (C := RX0) (T := TX0) (N := 11) hx hb hts hin0 hown hK hP 0 rfl rfl 0 (by decide) (hts (.fieldLink RX0 9 "HeightLines" "columns" "I") (by decide +kernel)) (fun _ h9 => h9) rfl dX0_sampleAt_2 ?_
  refine lv_imul hx hb dX0_sampleAt_5 ?_
  refine lv_iload_n hx hb dX0_sampleAt_6 rfl (lv_at hl 1 rfl) ?_
  refine lv_iadd hx hb dX0_sampleAt_7 ?_
  exact W.iret (v := ((nI y * (nI w)) + nI x)) hx hb hr (fun t ht hW => ⟨⟨_, (), rfl, by rw [pk_mul, nI_add], trivial⟩, hS.F ht⟩) hS.2.2 dX0_sampleAt_8

set_option maxHeartbeats 4000000 in
set_option maxRecDepth 100000 in
/-- rightwardEdges -/
theorem c_X0_rightwardEdges (l : Launch) (D : va_G) (o : Nat → Nat) (cI : ClassId) (tw op ch : Int32) (sm nx bf od st ow : Nat → Int32) (w : Nat) (h : Nat) (hw : 1 ≤ w) : roMet l yX0_rightwardEdges wsX0_rightwardEdges ({ frames := 0, cells := 0, slots := 0, locals := 0 } : Room) D (W0 o cI (nI w) (nI h) tw op ch sm nx bf od st ow) [(cI, .int)] [.ref (o 0)] (fun r => r = nI (nR w h)) := by
  refine Met.ofW (cc := cX0_rightwardEdges) (maxL := 1) (ret := (some .int)) (by decide) rfl ?_
  intro p e s m args below meth c s₁ B hml hv
  obtain ⟨rfl, hP, hK⟩ := hv
  have hx := B.exec
  have hb := B.bytes
  have hr := B.returns
  have hts := atoms_spec (ws := wsX0_rightwardEdges) B.pre
  have hown : s.vm.findClass RX0 = some m.cls := findClass_of_methodNamed B.named
  have hlocks := B.notSynchronized
  have hin0 : ∀ w ∈ u_ws RX0 TX0 11, w ∈ wsX0_rightwardEdges := by decide +kernel
  have hS : va_S (fun _ => False) s.heap s.heap [] := va_S.rf
  have hP : va_P D vwCl (W0 o cI (nI w) (nI h) tw op ch sm nx bf od st ow) s.heap := hP
  have hl := lv_entry ([.ref (o 0)]) (n := 1) (Nat.le_of_ble_eq_true rfl)
  rw [lg_entry_eq]
  generalize (lg_sl ([.ref (o 0)]) ++ List.replicate (1 - (lg_sl ([.ref (o 0)])).length) Slot.unset).toArray = ls at hl ⊢
  have hl : lv_has ls 1 [(0, .ref (o 0))] := hl
  refine lv_aload_n hx hb dX0_rightwardEdges_0 rfl (lv_at hl 0 rfl) ?_
  refine va_get (D := D) (ci := 0) (v := .int (nI h)) (C := RX0) (T := TX0) (N := 11) hx hb hts hin0 hown hK hP 0 rfl rfl 1 (by decide) (hts (.fieldLink RX0 13 "HeightLines" "rows" "I") (by decide +kernel)) (fun _ h9 => h9) rfl dX0_rightwardEdges_1 ?_
  refine lv_aload_n hx hb dX0_rightwardEdges_4 rfl (lv_at hl 0 rfl) ?_
  refine va_get (D := D) (ci := 0) (v := .int (nI w)) (C := RX0) (T := TX0) (N := 11) hx hb hts hin0 hown hK hP 0 rfl rfl 0 (by decide) (hts (.fieldLink RX0 9 "HeightLines" "columns" "I") (by decide +kernel)) (fun _ h9 => h9) rfl dX0_rightwardEdges_5 ?_
  refine lv_iconst (v := 1) hx hb dX0_rightwardEdges_8 (by decide) ?_
  refine lv_isub hx hb dX0_rightwardEdges_9 ?_
  refine lv_imul hx hb dX0_rightwardEdges_10 ?_
  exact W.iret (v := ((nI h) * ((nI w) - 1))) hx hb hr (fun t ht hW => ⟨⟨_, (), rfl, by rw [nI_m1 hw, pk_mul]; rfl, trivial⟩, hS.F ht⟩) hS.2.2 dX0_rightwardEdges_11

set_option maxHeartbeats 4000000 in
set_option maxRecDepth 100000 in
/-- rightwardEdge -/
theorem c_X0_rightwardEdge (l : Launch) (D : va_G) (o : Nat → Nat) (cI : ClassId) (ro tw op ch : Int32) (sm nx bf od st ow : Nat → Int32) (w : Nat) (x : Nat) (y : Nat) (hw : 1 ≤ w) : roMet l yX0_rightwardEdge wsX0_rightwardEdge ({ frames := 0, cells := 0, slots := 0, locals := 0 } : Room) D (W0 o cI (nI w) ro tw op ch sm nx bf od st ow) [(cI, .int)] [.ref (o 0), .int (nI x), .int (nI y)] (fun r => r = nI (y * (w - 1) + x)) := by
  refine Met.ofW (cc := cX0_rightwardEdge) (maxL := 3) (ret := (some .int)) (by decide) rfl ?_
  intro p e s m args below meth c s₁ B hml hv
  obtain ⟨rfl, hP, hK⟩ := hv
  have hx := B.exec
  have hb := B.bytes
  have hr := B.returns
  have hts := atoms_spec (ws := wsX0_rightwardEdge) B.pre
  have hown : s.vm.findClass RX0 = some m.cls := findClass_of_methodNamed B.named
  have hlocks := B.notSynchronized
  have hin0 : ∀ w ∈ u_ws RX0 TX0 11, w ∈ wsX0_rightwardEdge := by decide +kernel
  have hS : va_S (fun _ => False) s.heap s.heap [] := va_S.rf
  have hP : va_P D vwCl (W0 o cI (nI w) ro tw op ch sm nx bf od st ow) s.heap := hP
  have hl := lv_entry ([.ref (o 0), .int (nI x), .int (nI y)]) (n := 3) (Nat.le_of_ble_eq_true rfl)
  rw [lg_entry_eq]
  generalize (lg_sl ([.ref (o 0), .int (nI x), .int (nI y)]) ++ List.replicate (3 - (lg_sl ([.ref (o 0), .int (nI x), .int (nI y)])).length) Slot.unset).toArray = ls at hl ⊢
  have hl : lv_has ls 3 [(0, .ref (o 0)), (1, .int (nI x)), (2, .int (nI y))] := hl
  refine lv_iload_n hx hb dX0_rightwardEdge_0 rfl (lv_at hl 2 rfl) ?_
  refine lv_aload_n hx hb dX0_rightwardEdge_1 rfl (lv_at hl 0 rfl) ?_
  refine va_get (D := D) (ci := 0) (v := .int (nI w)) (C := RX0) (T := TX0) (N := 11) hx hb hts hin0 hown hK hP 0 rfl rfl 0 (by decide) (hts (.fieldLink RX0 9 "HeightLines" "columns" "I") (by decide +kernel)) (fun _ h9 => h9) rfl dX0_rightwardEdge_2 ?_
  refine lv_iconst (v := 1) hx hb dX0_rightwardEdge_5 (by decide) ?_
  refine lv_isub hx hb dX0_rightwardEdge_6 ?_
  refine lv_imul hx hb dX0_rightwardEdge_7 ?_
  refine lv_iload_n hx hb dX0_rightwardEdge_8 rfl (lv_at hl 1 rfl) ?_
  refine lv_iadd hx hb dX0_rightwardEdge_9 ?_
  exact W.iret (v := ((nI y * ((nI w) - 1)) + nI x)) hx hb hr (fun t ht hW => ⟨⟨_, (), rfl, by rw [nI_m1 hw, pk_mul, nI_add], trivial⟩, hS.F ht⟩) hS.2.2 dX0_rightwardEdge_10

set_option maxHeartbeats 4000000 in
set_option maxRecDepth 100000 in
/-- isAbove -/
theorem c_X0_isAbove (l : Launch) (D : va_G) (o : Nat → Nat) (cI : ClassId) (co ro tw op ch : Int32) (sm nx bf od st ow : Nat → Int32) (k : Nat) (hk : k < 144) : roMet l yX0_isAbove wsX0_isAbove ({ frames := 0, cells := 0, slots := 0, locals := 0 } : Room) D (W0 o cI co ro tw op ch sm nx bf od st ow) [(cI, .int)] [.ref (o 0), .int (nI k)] (fun r => r = bI (abI tw (sm k))) := by
  refine Met.ofW (cc := cX0_isAbove) (maxL := 2) (ret := (some .boolean)) (by decide) rfl ?_
  intro p e s m args below meth c s₁ B hml hv
  obtain ⟨rfl, hP, hK⟩ := hv
  have hx := B.exec
  have hb := B.bytes
  have hr := B.returns
  have hts := atoms_spec (ws := wsX0_isAbove) B.pre
  have hown : s.vm.findClass RX0 = some m.cls := findClass_of_methodNamed B.named
  have hlocks := B.notSynchronized
  have hin0 : ∀ w ∈ u_ws RX0 TX0 11, w ∈ wsX0_isAbove := by decide +kernel
  have hS : va_S (fun _ => False) s.heap s.heap [] := va_S.rf
  have hP : va_P D vwCl (W0 o cI co ro tw op ch sm nx bf od st ow) s.heap := hP
  have hl := lv_entry ([.ref (o 0), .int (nI k)]) (n := 2) (Nat.le_of_ble_eq_true rfl)
  rw [lg_entry_eq]
  generalize (lg_sl ([.ref (o 0), .int (nI k)]) ++ List.replicate (2 - (lg_sl ([.ref (o 0), .int (nI k)])).length) Slot.unset).toArray = ls at hl ⊢
  have hl : lv_has ls 2 [(0, .ref (o 0)), (1, .int (nI k))] := hl
  refine lv_iconst (v := 2) hx hb dX0_isAbove_0 (by decide) ?_
  refine lv_aload_n hx hb dX0_isAbove_1 rfl (lv_at hl 0 rfl) ?_
  refine va_get (D := D) (ci := 0) (v := .ref (o 1)) (C := RX0) (T := TX0) (N := 11) hx hb hts hin0 hown hK hP 0 rfl rfl 3 (by decide) (hts (.fieldLink RX0 19 "HeightLines" "samples" "[I") (by decide +kernel)) (fun _ h9 => h9) rfl dX0_isAbove_2 ?_
  refine lv_iload_n hx hb dX0_isAbove_5 rfl (lv_at hl 1 rfl) ?_
  refine an_iald (D := D) hx hb hK hP 1 0 rfl rfl (k := k) hk (by decide) dX0_isAbove_6 ?_
  refine lv_imul hx hb dX0_isAbove_7 ?_
  refine lv_aload_n hx hb dX0_isAbove_8 rfl (lv_at hl 0 rfl) ?_
  refine va_get (D := D) (ci := 0) (v := .int tw) (C := RX0) (T := TX0) (N := 11) hx hb hts hin0 hown hK hP 0 rfl rfl 2 (by decide) (hts (.fieldLink RX0 16 "HeightLines" "twiceHeight" "I") (by decide +kernel)) (fun _ h9 => h9) rfl dX0_isAbove_9 ?_
  refine lv_icmp_le (tgt := 19) hx hb dX0_isAbove_12 (by decide) (fun c12 => ?_) (fun c12 => ?_)
  · refine lv_iconst (v := 0) hx hb dX0_isAbove_19 (by decide) ?_
    exact W.zret (v := 0) (ty := .boolean) hx hb hr rfl (fun t ht hW => ⟨⟨_, (), rfl, by first | (simp_all [bI, abI]; done) | (simp_all [bI, abI, Int32.lt_iff_toInt_lt, Int32.le_iff_toInt_le]; try omega), trivial⟩, hS.F ht⟩) hS.2.2 dX0_isAbove_20
  · refine lv_iconst (v := 1) hx hb dX0_isAbove_15 (by decide) ?_
    refine lv_goto (tgt := 20) hx hb dX0_isAbove_16 (by decide) ?_
    exact W.zret (v := 1) (ty := .boolean) hx hb hr rfl (fun t ht hW => ⟨⟨_, (), rfl, by first | (simp_all [bI, abI]; done) | (simp_all [bI, abI, Int32.lt_iff_toInt_lt, Int32.le_iff_toInt_le]; try omega), trivial⟩, hS.F ht⟩) hS.2.2 dX0_isAbove_20
end
section
set_option maxHeartbeats 4000000 in
set_option maxRecDepth 100000 in
theorem c_X0_edgeCount (l : Launch) (D : va_G) (o : Nat → Nat) (cI : ClassId) (tw op ch : Int32) (sm nx bf od st ow : Nat → Int32) (w : Nat) (h : Nat) (gw : 1 ≤ w) (gh : 1 ≤ h) : roMet l yX0_edgeCount wsX0_edgeCount ({ frames := 1, cells := 0, slots := 0, locals := 20 } : Room) D (W0 o cI (nI w) (nI h) tw op ch sm nx bf od st ow) [(cI, .int)] [.ref (o 0)] (fun r => r = nI (nE w h)) := by
  refine Met.ofW (cc := cX0_edgeCount) (maxL := 1) (ret := (some .int)) (by decide) rfl ?_
  intro p e s m args below meth c s₁ B hml hv
  obtain ⟨rfl, hP, hK⟩ := hv
  have hx := B.exec
  have hb := B.bytes
  have hr := B.returns
  have hts := atoms_spec (ws := wsX0_edgeCount) B.pre
  have hown : s.vm.findClass RX0 = some m.cls := findClass_of_methodNamed B.named
  have hlocks := B.notSynchronized
  have hin0 : ∀ w ∈ u_ws RX0 TX0 11, w ∈ wsX0_edgeCount := by decide +kernel
  have hS : va_S (fun _ => False) s.heap s.heap [] := va_S.rf
  have hP : va_P D vwCl (W0 o cI (nI w) (nI h) tw op ch sm nx bf od st ow) s.heap := hP
  have hl := lv_entry ([.ref (o 0)]) (n := 1) (Nat.le_of_ble_eq_true rfl)
  rw [lg_entry_eq]
  generalize (lg_sl ([.ref (o 0)]) ++ List.replicate (1 - (lg_sl ([.ref (o 0)])).length) Slot.unset).toArray = ls at hl ⊢
  have hl : lv_has ls 1 [(0, .ref (o 0))] := hl
  refine lv_aload_n hx hb dX0_edgeCount_0 rfl (lv_at hl 0 rfl) ?_
  refine ro_V0 ⟨hx, hb, hml, hown, hts⟩ (c_X0_rightwardEdges l D o cI tw op ch sm nx bf od st ow w h gw) (cwV 0 hts gX0_edgeCount_X0_rightwardEdges rfl rfl rfl (by decide +kernel) ⟨Nat.le_of_ble_eq_true rfl, Nat.le_of_ble_eq_true rfl⟩) (va_recv hK hP (ci := 0) (q0 := 0) rfl rfl) hP hK hP hS rfl hl.1 (lv_room (Nat.le_of_ble_eq_true rfl)) dX0_edgeCount_1 ⟨Nat.le_of_ble_eq_true rfl, Nat.le_of_ble_eq_true rfl⟩ (fun r1 H locs hr1 hP hS => ?_)
  subst hr1
  refine lv_aload_n hx hb dX0_edgeCount_4 rfl (lv_at hl 0 rfl) ?_
  refine va_get (D := D) (ci := 0) (v := .int (nI h)) (C := RX0) (T := TX0) (N := 11) hx hb hts hin0 hown hK hP 0 rfl rfl 1 (by decide) (hts (.fieldLink RX0 13 "HeightLines" "rows" "I") (by decide +kernel)) (fun _ h9 => h9) rfl dX0_edgeCount_5 ?_
  refine lv_iconst (v := 1) hx hb dX0_edgeCount_8 (by decide) ?_
  refine lv_isub hx hb dX0_edgeCount_9 ?_
  refine lv_aload_n hx hb dX0_edgeCount_10 rfl (lv_at hl 0 rfl) ?_
  refine va_get (D := D) (ci := 0) (v := .int (nI w)) (C := RX0) (T := TX0) (N := 11) hx hb hts hin0 hown hK hP 0 rfl rfl 0 (by decide) (hts (.fieldLink RX0 9 "HeightLines" "columns" "I") (by decide +kernel)) (fun _ h9 => h9) rfl dX0_edgeCount_11 ?_
  refine lv_imul hx hb dX0_edgeCount_14 ?_
  refine lv_iadd hx hb dX0_edgeCount_15 ?_
  exact W.iret (v := ((nI (nR w h)) + (((nI h) - 1) * (nI w)))) hx hb hr (fun t ht hW => ⟨⟨_, (), rfl, by rw [nI_m1 gh, pk_mul, nI_add]; rfl, trivial⟩, hS.F ht⟩) hS.2.2 dX0_edgeCount_16

set_option maxHeartbeats 4000000 in
set_option maxRecDepth 100000 in
theorem c_X0_upwardEdge (l : Launch) (D : va_G) (o : Nat → Nat) (cI : ClassId) (tw op ch : Int32) (sm nx bf od st ow : Nat → Int32) (w : Nat) (h : Nat) (x : Nat) (y : Nat) (gw : 1 ≤ w) : roMet l yX0_upwardEdge wsX0_upwardEdge ({ frames := 1, cells := 0, slots := 0, locals := 20 } : Room) D (W0 o cI (nI w) (nI h) tw op ch sm nx bf od st ow) [(cI, .int)] [.ref (o 0), .int (nI x), .int (nI y)] (fun r => r = nI (nR w h + y * w + x)) := by
  refine Met.ofW (cc := cX0_upwardEdge) (maxL := 3) (ret := (some .int)) (by decide) rfl ?_
  intro p e s m args below meth c s₁ B hml hv
  obtain ⟨rfl, hP, hK⟩ := hv
  have hx := B.exec
  have hb := B.bytes
  have hr := B.returns
  have hts := atoms_spec (ws := wsX0_upwardEdge) B.pre
  have hown : s.vm.findClass RX0 = some m.cls := findClass_of_methodNamed B.named
  have hlocks := B.notSynchronized
  have hin0 : ∀ w ∈ u_ws RX0 TX0 11, w ∈ wsX0_upwardEdge := by decide +kernel
  have hS : va_S (fun _ => False) s.heap s.heap [] := va_S.rf
  have hP : va_P D vwCl (W0 o cI (nI w) (nI h) tw op ch sm nx bf od st ow) s.heap := hP
  have hl := lv_entry ([.ref (o 0), .int (nI x), .int (nI y)]) (n := 3) (Nat.le_of_ble_eq_true rfl)
  rw [lg_entry_eq]
  generalize (lg_sl ([.ref (o 0), .int (nI x), .int (nI y)]) ++ List.replicate (3 - (lg_sl ([.ref (o 0), .int (nI x), .int (nI y)])).length) Slot.unset).toArray = ls at hl ⊢
  have hl : lv_has ls 3 [(0, .ref (o 0)), (1, .int (nI x)), (2, .int (nI y))] := hl
  refine lv_aload_n hx hb dX0_upwardEdge_0 rfl (lv_at hl 0 rfl) ?_
  refine ro_V0 ⟨hx, hb, hml, hown, hts⟩ (c_X0_rightwardEdges l D o cI tw op ch sm nx bf od st ow w h gw) (cwV 0 hts gX0_upwardEdge_X0_rightwardEdges rfl rfl rfl (by decide +kernel) ⟨Nat.le_of_ble_eq_true rfl, Nat.le_of_ble_eq_true rfl⟩) (va_recv hK hP (ci := 0) (q0 := 0) rfl rfl) hP hK hP hS rfl hl.1 (lv_room (Nat.le_of_ble_eq_true rfl)) dX0_upwardEdge_1 ⟨Nat.le_of_ble_eq_true rfl, Nat.le_of_ble_eq_true rfl⟩ (fun r1 H locs hr1 hP hS => ?_)
  subst hr1
  refine lv_iload_n hx hb dX0_upwardEdge_4 rfl (lv_at hl 2 rfl) ?_
  refine lv_aload_n hx hb dX0_upwardEdge_5 rfl (lv_at hl 0 rfl) ?_
  refine va_get (D := D) (ci := 0) (v := .int (nI w)) (C := RX0) (T := TX0) (N := 11) hx hb hts hin0 hown hK hP 0 rfl rfl 0 (by decide) (hts (.fieldLink RX0 9 "HeightLines" "columns" "I") (by decide +kernel)) (fun _ h9 => h9) rfl dX0_upwardEdge_6 ?_
  refine lv_imul hx hb dX0_upwardEdge_9 ?_
  refine lv_iadd hx hb dX0_upwardEdge_10 ?_
  refine lv_iload_n hx hb dX0_upwardEdge_11 rfl (lv_at hl 1 rfl) ?_
  refine lv_iadd hx hb dX0_upwardEdge_12 ?_
  exact W.iret (v := (((nI (nR w h)) + (nI y * (nI w))) + nI x)) hx hb hr (fun t ht hW => ⟨⟨_, (), rfl, by rw [pk_mul, nI_add, nI_add], trivial⟩, hS.F ht⟩) hS.2.2 dX0_upwardEdge_13

set_option maxHeartbeats 4000000 in
set_option maxRecDepth 100000 in
theorem c_X0_firstSample (l : Launch) (D : va_G) (o : Nat → Nat) (cI : ClassId) (tw op ch : Int32) (sm nx bf od st ow : Nat → Int32) (w : Nat) (h : Nat) (e0 : Nat) (gw : 2 ≤ w) (gw2 : w ≤ 12) (gh2 : h ≤ 12) (ge : e0 < 264) : roMet l yX0_firstSample wsX0_firstSample ({ frames := 1, cells := 0, slots := 0, locals := 20 } : Room) D (W0 o cI (nI w) (nI h) tw op ch sm nx bf od st ow) [(cI, .int)] [.ref (o 0), .int (nI e0)] (fun r => r = nI (fS w h e0)) := by
  refine Met.ofW (cc := cX0_firstSample) (maxL := 2) (ret := (some .int)) (by decide) rfl ?_
  intro p e s m args below meth c s₁ B hml hv
  obtain ⟨rfl, hP, hK⟩ := hv
  have hx := B.exec
  have hb := B.bytes
  have hr := B.returns
  have hts := atoms_spec (ws := wsX0_firstSample) B.pre
  have hown : s.vm.findClass RX0 = some m.cls := findClass_of_methodNamed B.named
  have hlocks := B.notSynchronized
  have hin0 : ∀ w ∈ u_ws RX0 TX0 11, w ∈ wsX0_firstSample := by decide +kernel
  have hS : va_S (fun _ => False) s.heap s.heap [] := va_S.rf
  have hP : va_P D vwCl (W0 o cI (nI w) (nI h) tw op ch sm nx bf od st ow) s.heap := hP
  have hl := lv_entry ([.ref (o 0), .int (nI e0)]) (n := 2) (Nat.le_of_ble_eq_true rfl)
  rw [lg_entry_eq]
  generalize (lg_sl ([.ref (o 0), .int (nI e0)]) ++ List.replicate (2 - (lg_sl ([.ref (o 0), .int (nI e0)])).length) Slot.unset).toArray = ls at hl ⊢
  have hl : lv_has ls 2 [(0, .ref (o 0)), (1, .int (nI e0))] := hl
  refine lv_iload_n hx hb dX0_firstSample_0 rfl (lv_at hl 1 rfl) ?_
  refine lv_aload_n hx hb dX0_firstSample_1 rfl (lv_at hl 0 rfl) ?_
  refine ro_V0 ⟨hx, hb, hml, hown, hts⟩ (c_X0_rightwardEdges l D o cI tw op ch sm nx bf od st ow w h (by omega)) (cwV 0 hts gX0_firstSample_X0_rightwardEdges rfl rfl rfl (by decide +kernel) ⟨Nat.le_of_ble_eq_true rfl, Nat.le_of_ble_eq_true rfl⟩) (va_recv hK hP (ci := 0) (q0 := 0) rfl rfl) hP hK hP hS rfl hl.1 (lv_room (Nat.le_of_ble_eq_true rfl)) dX0_firstSample_2 ⟨Nat.le_of_ble_eq_true rfl, Nat.le_of_ble_eq_true rfl⟩ (fun r2 H locs hr2 hP hS => ?_)
  subst hr2
  refine lv_icmp_lt (tgt := 15) hx hb dX0_firstSample_5 (by decide) (fun c5 => ?_) (fun c5 => ?_)
  · refine lv_iload_n hx hb dX0_firstSample_15 rfl (lv_at hl 1 rfl) ?_
    refine lv_iload_n hx hb dX0_firstSample_16 rfl (lv_at hl 1 rfl) ?_
    refine lv_aload_n hx hb dX0_firstSample_17 rfl (lv_at hl 0 rfl) ?_
    refine va_get (D := D) (ci := 0) (v := .int (nI w)) (C := RX0) (T := TX0) (N := 11) hx hb hts hin0 hown hK hP 0 rfl rfl 0 (by decide) (hts (.fieldLink RX0 9 "HeightLines" "columns" "I") (by decide +kernel)) (fun _ h9 => h9) rfl dX0_firstSample_18 ?_
    refine lv_iconst (v := 1) hx hb dX0_firstSample_21 (by decide) ?_
    refine lv_isub hx hb dX0_firstSample_22 ?_
    rw [show ((nI w) - 1) = nI (w - 1) from nI_m1 (by omega)]
    refine lv_idiv hx hb dX0_firstSample_23 (nI_ne0 (by omega) (by omega)) ?_
    refine lv_iadd hx hb dX0_firstSample_24 ?_
    exact W.iret (v := (nI e0 + (nI e0 / nI (w - 1)))) hx hb hr (fun t ht hW => ⟨⟨_, (), rfl, fS_b gw gw2 gh2 ge c5, trivial⟩, hS.F ht⟩) hS.2.2 dX0_firstSample_25
  · refine lv_iload_n hx hb dX0_firstSample_8 rfl (lv_at hl 1 rfl) ?_
    refine lv_aload_n hx hb dX0_firstSample_9 rfl (lv_at hl 0 rfl) ?_
    refine ro_V0 ⟨hx, hb, hml, hown, hts⟩ (c_X0_rightwardEdges l D o cI tw op ch sm nx bf od st ow w h (by omega)) (cwV 0 hts gX0_firstSample_X0_rightwardEdges rfl rfl rfl (by decide +kernel) ⟨Nat.le_of_ble_eq_true rfl, Nat.le_of_ble_eq_true rfl⟩) (va_recv hK hP (ci := 0) (q0 := 0) rfl rfl) hP hK hP hS rfl hl.1 (lv_room (Nat.le_of_ble_eq_true rfl)) dX0_firstSample_10 ⟨Nat.le_of_ble_eq_true rfl, Nat.le_of_ble_eq_true rfl⟩ (fun r10 H locs hr10 hP hS => ?_)
    subst hr10
    refine lv_isub hx hb dX0_firstSample_13 ?_
    exact W.iret (v := (nI e0 - (nI (nR w h)))) hx hb hr (fun t ht hW => ⟨⟨_, (), rfl, fS_a gw2 gh2 ge c5, trivial⟩, hS.F ht⟩) hS.2.2 dX0_firstSample_14

set_option maxHeartbeats 4000000 in
set_option maxRecDepth 100000 in
theorem c_X0_secondSample (l : Launch) (D : va_G) (o : Nat → Nat) (cI : ClassId) (tw op ch : Int32) (sm nx bf od st ow : Nat → Int32) (w : Nat) (h : Nat) (e0 : Nat) (gw : 2 ≤ w) (gw2 : w ≤ 12) (gh2 : h ≤ 12) (ge : e0 < 264) : roMet l yX0_secondSample wsX0_secondSample ({ frames := 2, cells := 0, slots := 0, locals := 41 } : Room) D (W0 o cI (nI w) (nI h) tw op ch sm nx bf od st ow) [(cI, .int)] [.ref (o 0), .int (nI e0)] (fun r => r = nI (sS w h e0)) := by
  refine Met.ofW (cc := cX0_secondSample) (maxL := 2) (ret := (some .int)) (by decide) rfl ?_
  intro p e s m args below meth c s₁ B hml hv
  obtain ⟨rfl, hP, hK⟩ := hv
  have hx := B.exec
  have hb := B.bytes
  have hr := B.returns
  have hts := atoms_spec (ws := wsX0_secondSample) B.pre
  have hown : s.vm.findClass RX0 = some m.cls := findClass_of_methodNamed B.named
  have hlocks := B.notSynchronized
  have hin0 : ∀ w ∈ u_ws RX0 TX0 11, w ∈ wsX0_secondSample := by decide +kernel
  have hS : va_S (fun _ => False) s.heap s.heap [] := va_S.rf
  have hP : va_P D vwCl (W0 o cI (nI w) (nI h) tw op ch sm nx bf od st ow) s.heap := hP
  have hl := lv_entry ([.ref (o 0), .int (nI e0)]) (n := 2) (Nat.le_of_ble_eq_true rfl)
  rw [lg_entry_eq]
  generalize (lg_sl ([.ref (o 0), .int (nI e0)]) ++ List.replicate (2 - (lg_sl ([.ref (o 0), .int (nI e0)])).length) Slot.unset).toArray = ls at hl ⊢
  have hl : lv_has ls 2 [(0, .ref (o 0)), (1, .int (nI e0))] := hl
  refine lv_aload_n hx hb dX0_secondSample_0 rfl (lv_at hl 0 rfl) ?_
  refine lv_iload_n hx hb dX0_secondSample_1 rfl (lv_at hl 1 rfl) ?_
  refine ro_V1 ⟨hx, hb, hml, hown, hts⟩ (c_X0_firstSample l D o cI tw op ch sm nx bf od st ow w h e0 gw gw2 gh2 ge) (cwV 1 hts gX0_secondSample_X0_firstSample rfl rfl rfl (by decide +kernel) ⟨Nat.le_of_ble_eq_true rfl, Nat.le_of_ble_eq_true rfl⟩) (va_recv hK hP (ci := 0) (q0 := 0) rfl rfl) hP hK hP hS rfl hl.1 (lv_room (Nat.le_of_ble_eq_true rfl)) dX0_secondSample_2 ⟨Nat.le_of_ble_eq_true rfl, Nat.le_of_ble_eq_true rfl⟩ (fun r2 H locs hr2 hP hS => ?_)
  subst hr2
  refine lv_iload_n hx hb dX0_secondSample_5 rfl (lv_at hl 1 rfl) ?_
  refine lv_aload_n hx hb dX0_secondSample_6 rfl (lv_at hl 0 rfl) ?_
  refine ro_V0 ⟨hx, hb, hml, hown, hts⟩ (c_X0_rightwardEdges l D o cI tw op ch sm nx bf od st ow w h (by omega)) (cwV 0 hts gX0_secondSample_X0_rightwardEdges rfl rfl rfl (by decide +kernel) ⟨Nat.le_of_ble_eq_true rfl, Nat.le_of_ble_eq_true rfl⟩) (va_recv hK hP (ci := 0) (q0 := 0) rfl rfl) hP hK hP hS rfl hl.1 (lv_room (Nat.le_of_ble_eq_true rfl)) dX0_secondSample_7 ⟨Nat.le_of_ble_eq_true rfl, Nat.le_of_ble_eq_true rfl⟩ (fun r7 H locs hr7 hP hS => ?_)
  subst hr7
  refine lv_icmp_ge (tgt := 17) hx hb dX0_secondSample_10 (by decide) (fun c10 => ?_) (fun c10 => ?_)
  · refine lv_aload_n hx hb dX0_secondSample_17 rfl (lv_at hl 0 rfl) ?_
    refine va_get (D := D) (ci := 0) (v := .int (nI w)) (C := RX0) (T := TX0) (N := 11) hx hb hts hin0 hown hK hP 0 rfl rfl 0 (by decide) (hts (.fieldLink RX0 9 "HeightLines" "columns" "I") (by decide +kernel)) (fun _ h9 => h9) rfl dX0_secondSample_18 ?_
    refine lv_iadd hx hb dX0_secondSample_21 ?_
    exact W.iret (v := ((nI (fS w h e0)) + (nI w))) hx hb hr (fun t ht hW => ⟨⟨_, (), rfl, sS_a gw2 gh2 ge c10, trivial⟩, hS.F ht⟩) hS.2.2 dX0_secondSample_22
  · refine lv_iconst (v := 1) hx hb dX0_secondSample_13 (by decide) ?_
    refine lv_goto (tgt := 21) hx hb dX0_secondSample_14 (by decide) ?_
    refine lv_iadd hx hb dX0_secondSample_21 ?_
    exact W.iret (v := ((nI (fS w h e0)) + 1)) hx hb hr (fun t ht hW => ⟨⟨_, (), rfl, sS_b gw2 gh2 ge c10, trivial⟩, hS.F ht⟩) hS.2.2 dX0_secondSample_22

set_option maxHeartbeats 4000000 in
set_option maxRecDepth 100000 in
theorem c_X0_isCrossed (l : Launch) (D : va_G) (o : Nat → Nat) (cI : ClassId) (tw op ch : Int32) (sm nx bf od st ow : Nat → Int32) (w : Nat) (h : Nat) (f : Nat → Nat → Int32) (e0 : Nat) (gw : 2 ≤ w) (gw2 : w ≤ 12) (gh : 2 ≤ h) (gh2 : h ≤ 12) (gf : ∀ x y, x < w → y < h → sm (y * w + x) = f x y) (ge : e0 < nE w h) : roMet l yX0_isCrossed wsX0_isCrossed ({ frames := 3, cells := 0, slots := 0, locals := 62 } : Room) D (W0 o cI (nI w) (nI h) tw op ch sm nx bf od st ow) [(cI, .int)] [.ref (o 0), .int (nI e0)] (fun r => r = bI (crB w h f tw e0)) := by
  refine Met.ofW (cc := cX0_isCrossed) (maxL := 2) (ret := (some .boolean)) (by decide) rfl ?_
  intro p e s m args below meth c s₁ B hml hv
  obtain ⟨rfl, hP, hK⟩ := hv
  have hx := B.exec
  have hb := B.bytes
  have hr := B.returns
  have hts := atoms_spec (ws := wsX0_isCrossed) B.pre
  have hown : s.vm.findClass RX0 = some m.cls := findClass_of_methodNamed B.named
  have hlocks := B.notSynchronized
  have hin0 : ∀ w ∈ u_ws RX0 TX0 11, w ∈ wsX0_isCrossed := by decide +kernel
  have hS : va_S (fun _ => False) s.heap s.heap [] := va_S.rf
  have hP : va_P D vwCl (W0 o cI (nI w) (nI h) tw op ch sm nx bf od st ow) s.heap := hP
  have hl := lv_entry ([.ref (o 0), .int (nI e0)]) (n := 2) (Nat.le_of_ble_eq_true rfl)
  rw [lg_entry_eq]
  generalize (lg_sl ([.ref (o 0), .int (nI e0)]) ++ List.replicate (2 - (lg_sl ([.ref (o 0), .int (nI e0)])).length) Slot.unset).toArray = ls at hl ⊢
  have hl : lv_has ls 2 [(0, .ref (o 0)), (1, .int (nI e0))] := hl
  refine lv_aload_n hx hb dX0_isCrossed_0 rfl (lv_at hl 0 rfl) ?_
  refine lv_aload_n hx hb dX0_isCrossed_1 rfl (lv_at hl 0 rfl) ?_
  refine lv_iload_n hx hb dX0_isCrossed_2 rfl (lv_at hl 1 rfl) ?_
  refine ro_V1 ⟨hx, hb, hml, hown, hts⟩ (c_X0_firstSample l D o cI tw op ch sm nx bf od st ow w h e0 gw gw2 gh2 (by have := nE_le gw2 gh2; omega)) (cwV 1 hts gX0_isCrossed_X0_firstSample rfl rfl rfl (by decide +kernel) ⟨Nat.le_of_ble_eq_true rfl, Nat.le_of_ble_eq_true rfl⟩) (va_recv hK hP (ci := 0) (q0 := 0) rfl rfl) hP hK hP hS rfl hl.1 (lv_room (Nat.le_of_ble_eq_true rfl)) dX0_isCrossed_3 ⟨Nat.le_of_ble_eq_true rfl, Nat.le_of_ble_eq_true rfl⟩ (fun r3 H locs hr3 hP hS => ?_)
  subst hr3
  refine ro_V1 ⟨hx, hb, hml, hown, hts⟩ (c_X0_isAbove l D o cI (nI w) (nI h) tw op ch sm nx bf od st ow (fS w h e0) ((fS_lt gw gw2 gh gh2 ge).1)) (cwV 1 hts gX0_isCrossed_X0_isAbove rfl rfl rfl (by decide +kernel) ⟨Nat.le_of_ble_eq_true rfl, Nat.le_of_ble_eq_true rfl⟩) (va_recv hK hP (ci := 0) (q0 := 0) rfl rfl) hP hK hP hS rfl hl.1 (lv_room (Nat.le_of_ble_eq_true rfl)) dX0_isCrossed_6 ⟨Nat.le_of_ble_eq_true rfl, Nat.le_of_ble_eq_true rfl⟩ (fun r6 H locs hr6 hP hS => ?_)
  subst hr6
  rw [show (bI (abI tw (sm (fS w h e0)))) = bI (abI tw (fst2 w h f e0)) from by rw [fS_f gw gh gf ge]]
  refine lv_aload_n hx hb dX0_isCrossed_9 rfl (lv_at hl 0 rfl) ?_
  refine lv_aload_n hx hb dX0_isCrossed_10 rfl (lv_at hl 0 rfl) ?_
  refine lv_iload_n hx hb dX0_isCrossed_11 rfl (lv_at hl 1 rfl) ?_
  refine ro_V1 ⟨hx, hb, hml, hown, hts⟩ (c_X0_secondSample l D o cI tw op ch sm nx bf od st ow w h e0 gw gw2 gh2 (by have := nE_le gw2 gh2; omega)) (cwV 1 hts gX0_isCrossed_X0_secondSample rfl rfl rfl (by decide +kernel) ⟨Nat.le_of_ble_eq_true rfl, Nat.le_of_ble_eq_true rfl⟩) (va_recv hK hP (ci := 0) (q0 := 0) rfl rfl) hP hK hP hS rfl hl.1 (lv_room (Nat.le_of_ble_eq_true rfl)) dX0_isCrossed_12 ⟨Nat.le_of_ble_eq_true rfl, Nat.le_of_ble_eq_true rfl⟩ (fun r12 H locs hr12 hP hS => ?_)
  subst hr12
  refine ro_V1 ⟨hx, hb, hml, hown, hts⟩ (c_X0_isAbove l D o cI (nI w) (nI h) tw op ch sm nx bf od st ow (sS w h e0) ((fS_lt gw gw2 gh gh2 ge).2)) (cwV 1 hts gX0_isCrossed_X0_isAbove rfl rfl rfl (by decide +kernel) ⟨Nat.le_of_ble_eq_true rfl, Nat.le_of_ble_eq_true rfl⟩) (va_recv hK hP (ci := 0) (q0 := 0) rfl rfl) hP hK hP hS rfl hl.1 (lv_room (Nat.le_of_ble_eq_true rfl)) dX0_isCrossed_15 ⟨Nat.le_of_ble_eq_true rfl, Nat.le_of_ble_eq_true rfl⟩ (fun r15 H locs hr15 hP hS => ?_)
  subst hr15
  rw [show (bI (abI tw (sm (sS w h e0)))) = bI (abI tw (snd2 w h f e0)) from by rw [sS_f gw gh gf ge]]
  refine lv_icmp_eq (tgt := 25) hx hb dX0_isCrossed_18 (by decide) (fun c18 => ?_) (fun c18 => ?_)
  · refine lv_iconst (v := 0) hx hb dX0_isCrossed_25 (by decide) ?_
    exact W.zret (v := 0) (ty := .boolean) hx hb hr rfl (fun t ht hW => ⟨⟨_, (), rfl, bI_z (by unfold crB; rw [bI_inj.mp c18]; simp), trivial⟩, hS.F ht⟩) hS.2.2 dX0_isCrossed_26
  · refine lv_iconst (v := 1) hx hb dX0_isCrossed_21 (by decide) ?_
    refine lv_goto (tgt := 26) hx hb dX0_isCrossed_22 (by decide) ?_
    exact W.zret (v := 1) (ty := .boolean) hx hb hr rfl (fun t ht hW => ⟨⟨_, (), rfl, bI_1 (bne_iff_ne.mpr (fun z => c18 (by rw [z]))), trivial⟩, hS.F ht⟩) hS.2.2 dX0_isCrossed_26

set_option maxHeartbeats 4000000 in
set_option maxRecDepth 100000 in
theorem c_X0_cornerSample (l : Launch) (D : va_G) (o : Nat → Nat) (cI : ClassId) (ro tw op ch : Int32) (sm nx bf od st ow : Nat → Int32) (w : Nat) (x : Nat) (y : Nat) (k : Nat) (gk : k < 4) : roMet l yX0_cornerSample wsX0_cornerSample ({ frames := 1, cells := 0, slots := 0, locals := 22 } : Room) D (W0 o cI (nI w) ro tw op ch sm nx bf od st ow) [(cI, .int)] [.ref (o 0), .int (nI x), .int (nI y), .int (nI k)] (fun r => r = nI (cY y k * w + cX x k)) := by
  refine Met.ofW (cc := cX0_cornerSample) (maxL := 4) (ret := (some .int)) (by decide) rfl ?_
  intro p e s m args below meth c s₁ B hml hv
  obtain ⟨rfl, hP, hK⟩ := hv
  have hx := B.exec
  have hb := B.bytes
  have hr := B.returns
  have hts := atoms_spec (ws := wsX0_cornerSample) B.pre
  have hown : s.vm.findClass RX0 = some m.cls := findClass_of_methodNamed B.named
  have hlocks := B.notSynchronized
  have hin0 : ∀ w ∈ u_ws RX0 TX0 11, w ∈ wsX0_cornerSample := by decide +kernel
  have hS : va_S (fun _ => False) s.heap s.heap [] := va_S.rf
  have hP : va_P D vwCl (W0 o cI (nI w) ro tw op ch sm nx bf od st ow) s.heap := hP
  have hl := lv_entry ([.ref (o 0), .int (nI x), .int (nI y), .int (nI k)]) (n := 4) (Nat.le_of_ble_eq_true rfl)
  rw [lg_entry_eq]
  generalize (lg_sl ([.ref (o 0), .int (nI x), .int (nI y), .int (nI k)]) ++ List.replicate (4 - (lg_sl ([.ref (o 0), .int (nI x), .int (nI y), .int (nI k)])).length) Slot.unset).toArray = ls at hl ⊢
  have hl : lv_has ls 4 [(0, .ref (o 0)), (1, .int (nI x)), (2, .int (nI y)), (3, .int (nI k))] := hl
  refine lv_iload_n hx hb dX0_cornerSample_0 rfl (lv_at hl 3 rfl) ?_
  rcases (show k = 0 ∨ k = 1 ∨ k = 2 ∨ k = 3 by omega) with rfl | rfl | rfl | rfl
  · refine lv_tableIn (tgt := 28) hx hb dX0_cornerSample_1 (by decide) (by decide) rfl (by decide) ?_
    refine lv_aload_n hx hb dX0_cornerSample_28 rfl (lv_at hl 0 rfl) ?_
    refine lv_iload_n hx hb dX0_cornerSample_29 rfl (lv_at hl 1 rfl) ?_
    refine lv_iload_n hx hb dX0_cornerSample_30 rfl (lv_at hl 2 rfl) ?_
    refine ro_V2 ⟨hx, hb, hml, hown, hts⟩ (c_X0_sampleAt l D o cI ro tw op ch sm nx bf od st ow w x y) (cwV 2 hts gX0_cornerSample_X0_sampleAt rfl rfl rfl (by decide +kernel) ⟨Nat.le_of_ble_eq_true rfl, Nat.le_of_ble_eq_true rfl⟩) (va_recv hK hP (ci := 0) (q0 := 0) rfl rfl) hP hK hP hS rfl hl.1 (lv_room (Nat.le_of_ble_eq_true rfl)) dX0_cornerSample_31 ⟨Nat.le_of_ble_eq_true rfl, Nat.le_of_ble_eq_true rfl⟩ (fun r31 H locs hr31 hP hS => ?_)
    subst hr31
    exact W.iret (v := (nI (y * w + x))) hx hb hr (fun t ht hW => ⟨⟨_, (), rfl, rfl, trivial⟩, hS.F ht⟩) hS.2.2 dX0_cornerSample_34
  · refine lv_tableIn (tgt := 35) hx hb dX0_cornerSample_1 (by decide) (by decide) rfl (by decide) ?_
    refine lv_aload_n hx hb dX0_cornerSample_35 rfl (lv_at hl 0 rfl) ?_
    refine lv_iload_n hx hb dX0_cornerSample_36 rfl (lv_at hl 1 rfl) ?_
    refine lv_iconst (v := 1) hx hb dX0_cornerSample_37 (by decide) ?_
    refine lv_iadd hx hb dX0_cornerSample_38 ?_
    rw [show (nI x + 1) = nI (x + 1) from nI_p1 x]
    refine lv_iload_n hx hb dX0_cornerSample_39 rfl (lv_at hl 2 rfl) ?_
    refine ro_V2 ⟨hx, hb, hml, hown, hts⟩ (c_X0_sampleAt l D o cI ro tw op ch sm nx bf od st ow w (x + 1) y) (cwV 2 hts gX0_cornerSample_X0_sampleAt rfl rfl rfl (by decide +kernel) ⟨Nat.le_of_ble_eq_true rfl, Nat.le_of_ble_eq_true rfl⟩) (va_recv hK hP (ci := 0) (q0 := 0) rfl rfl) hP hK hP hS rfl hl.1 (lv_room (Nat.le_of_ble_eq_true rfl)) dX0_cornerSample_40 ⟨Nat.le_of_ble_eq_true rfl, Nat.le_of_ble_eq_true rfl⟩ (fun r40 H locs hr40 hP hS => ?_)
    subst hr40
    exact W.iret (v := (nI (y * w + (x + 1)))) hx hb hr (fun t ht hW => ⟨⟨_, (), rfl, rfl, trivial⟩, hS.F ht⟩) hS.2.2 dX0_cornerSample_43
  · refine lv_tableIn (tgt := 44) hx hb dX0_cornerSample_1 (by decide) (by decide) rfl (by decide) ?_
    refine lv_aload_n hx hb dX0_cornerSample_44 rfl (lv_at hl 0 rfl) ?_
    refine lv_iload_n hx hb dX0_cornerSample_45 rfl (lv_at hl 1 rfl) ?_
    refine lv_iconst (v := 1) hx hb dX0_cornerSample_46 (by decide) ?_
    refine lv_iadd hx hb dX0_cornerSample_47 ?_
    rw [show (nI x + 1) = nI (x + 1) from nI_p1 x]
    refine lv_iload_n hx hb dX0_cornerSample_48 rfl (lv_at hl 2 rfl) ?_
    refine lv_iconst (v := 1) hx hb dX0_cornerSample_49 (by decide) ?_
    refine lv_iadd hx hb dX0_cornerSample_50 ?_
    rw [show (nI y + 1) = nI (y + 1) from nI_p1 y]
    refine ro_V2 ⟨hx, hb, hml, hown, hts⟩ (c_X0_sampleAt l D o cI ro tw op ch sm nx bf od st ow w (x + 1) (y + 1)) (cwV 2 hts gX0_cornerSample_X0_sampleAt rfl rfl rfl (by decide +kernel) ⟨Nat.le_of_ble_eq_true rfl, Nat.le_of_ble_eq_true rfl⟩) (va_recv hK hP (ci := 0) (q0 := 0) rfl rfl) hP hK hP hS rfl hl.1 (lv_room (Nat.le_of_ble_eq_true rfl)) dX0_cornerSample_51 ⟨Nat.le_of_ble_eq_true rfl, Nat.le_of_ble_eq_true rfl⟩ (fun r51 H locs hr51 hP hS => ?_)
    subst hr51
    exact W.iret (v := (nI ((y + 1) * w + (x + 1)))) hx hb hr (fun t ht hW => ⟨⟨_, (), rfl, rfl, trivial⟩, hS.F ht⟩) hS.2.2 dX0_cornerSample_54
  · refine lv_tableOut (tgt := 55) hx hb dX0_cornerSample_1 (by decide) (by decide) ?_
    refine lv_aload_n hx hb dX0_cornerSample_55 rfl (lv_at hl 0 rfl) ?_
    refine lv_iload_n hx hb dX0_cornerSample_56 rfl (lv_at hl 1 rfl) ?_
    refine lv_iload_n hx hb dX0_cornerSample_57 rfl (lv_at hl 2 rfl) ?_
    refine lv_iconst (v := 1) hx hb dX0_cornerSample_58 (by decide) ?_
    refine lv_iadd hx hb dX0_cornerSample_59 ?_
    rw [show (nI y + 1) = nI (y + 1) from nI_p1 y]
    refine ro_V2 ⟨hx, hb, hml, hown, hts⟩ (c_X0_sampleAt l D o cI ro tw op ch sm nx bf od st ow w x (y + 1)) (cwV 2 hts gX0_cornerSample_X0_sampleAt rfl rfl rfl (by decide +kernel) ⟨Nat.le_of_ble_eq_true rfl, Nat.le_of_ble_eq_true rfl⟩) (va_recv hK hP (ci := 0) (q0 := 0) rfl rfl) hP hK hP hS rfl hl.1 (lv_room (Nat.le_of_ble_eq_true rfl)) dX0_cornerSample_60 ⟨Nat.le_of_ble_eq_true rfl, Nat.le_of_ble_eq_true rfl⟩ (fun r60 H locs hr60 hP hS => ?_)
    subst hr60
    exact W.iret (v := (nI ((y + 1) * w + x))) hx hb hr (fun t ht hW => ⟨⟨_, (), rfl, rfl, trivial⟩, hS.F ht⟩) hS.2.2 dX0_cornerSample_63

set_option maxHeartbeats 4000000 in
set_option maxRecDepth 100000 in
theorem c_X0_sideEdge (l : Launch) (D : va_G) (o : Nat → Nat) (cI : ClassId) (tw op ch : Int32) (sm nx bf od st ow : Nat → Int32) (w : Nat) (h : Nat) (x : Nat) (y : Nat) (k : Nat) (gw : 1 ≤ w) (gk : k < 4) : roMet l yX0_sideEdge wsX0_sideEdge ({ frames := 2, cells := 0, slots := 0, locals := 42 } : Room) D (W0 o cI (nI w) (nI h) tw op ch sm nx bf od st ow) [(cI, .int)] [.ref (o 0), .int (nI x), .int (nI y), .int (nI k)] (fun r => r = nI (eO w h x y k)) := by
  refine Met.ofW (cc := cX0_sideEdge) (maxL := 4) (ret := (some .int)) (by decide) rfl ?_
  intro p e s m args below meth c s₁ B hml hv
  obtain ⟨rfl, hP, hK⟩ := hv
  have hx := B.exec
  have hb := B.bytes
  have hr := B.returns
  have hts := atoms_spec (ws := wsX0_sideEdge) B.pre
  have hown : s.vm.findClass RX0 = some m.cls := findClass_of_methodNamed B.named
  have hlocks := B.notSynchronized
  have hin0 : ∀ w ∈ u_ws RX0 TX0 11, w ∈ wsX0_sideEdge := by decide +kernel
  have hS : va_S (fun _ => False) s.heap s.heap [] := va_S.rf
  have hP : va_P D vwCl (W0 o cI (nI w) (nI h) tw op ch sm nx bf od st ow) s.heap := hP
  have hl := lv_entry ([.ref (o 0), .int (nI x), .int (nI y), .int (nI k)]) (n := 4) (Nat.le_of_ble_eq_true rfl)
  rw [lg_entry_eq]
  generalize (lg_sl ([.ref (o 0), .int (nI x), .int (nI y), .int (nI k)]) ++ List.replicate (4 - (lg_sl ([.ref (o 0), .int (nI x), .int (nI y), .int (nI k)])).length) Slot.unset).toArray = ls at hl ⊢
  have hl : lv_has ls 4 [(0, .ref (o 0)), (1, .int (nI x)), (2, .int (nI y)), (3, .int (nI k))] := hl
  refine lv_iload_n hx hb dX0_sideEdge_0 rfl (lv_at hl 3 rfl) ?_
  rcases (show k = 0 ∨ k = 1 ∨ k = 2 ∨ k = 3 by omega) with rfl | rfl | rfl | rfl
  · refine lv_tableIn (tgt := 28) hx hb dX0_sideEdge_1 (by decide) (by decide) rfl (by decide) ?_
    refine lv_aload_n hx hb dX0_sideEdge_28 rfl (lv_at hl 0 rfl) ?_
    refine lv_iload_n hx hb dX0_sideEdge_29 rfl (lv_at hl 1 rfl) ?_
    refine lv_iload_n hx hb dX0_sideEdge_30 rfl (lv_at hl 2 rfl) ?_
    refine ro_V2 ⟨hx, hb, hml, hown, hts⟩ (c_X0_rightwardEdge l D o cI (nI h) tw op ch sm nx bf od st ow w x y gw) (cwV 2 hts gX0_sideEdge_X0_rightwardEdge rfl rfl rfl (by decide +kernel) ⟨Nat.le_of_ble_eq_true rfl, Nat.le_of_ble_eq_true rfl⟩) (va_recv hK hP (ci := 0) (q0 := 0) rfl rfl) hP hK hP hS rfl hl.1 (lv_room (Nat.le_of_ble_eq_true rfl)) dX0_sideEdge_31 ⟨Nat.le_of_ble_eq_true rfl, Nat.le_of_ble_eq_true rfl⟩ (fun r31 H locs hr31 hP hS => ?_)
    subst hr31
    exact W.iret (v := (nI (y * (w - 1) + x))) hx hb hr (fun t ht hW => ⟨⟨_, (), rfl, rfl, trivial⟩, hS.F ht⟩) hS.2.2 dX0_sideEdge_34
  · refine lv_tableIn (tgt := 35) hx hb dX0_sideEdge_1 (by decide) (by decide) rfl (by decide) ?_
    refine lv_aload_n hx hb dX0_sideEdge_35 rfl (lv_at hl 0 rfl) ?_
    refine lv_iload_n hx hb dX0_sideEdge_36 rfl (lv_at hl 1 rfl) ?_
    refine lv_iconst (v := 1) hx hb dX0_sideEdge_37 (by decide) ?_
    refine lv_iadd hx hb dX0_sideEdge_38 ?_
    rw [show (nI x + 1) = nI (x + 1) from nI_p1 x]
    refine lv_iload_n hx hb dX0_sideEdge_39 rfl (lv_at hl 2 rfl) ?_
    refine ro_V2 ⟨hx, hb, hml, hown, hts⟩ (c_X0_upwardEdge l D o cI tw op ch sm nx bf od st ow w h (x + 1) y gw) (cwV 2 hts gX0_sideEdge_X0_upwardEdge rfl rfl rfl (by decide +kernel) ⟨Nat.le_of_ble_eq_true rfl, Nat.le_of_ble_eq_true rfl⟩) (va_recv hK hP (ci := 0) (q0 := 0) rfl rfl) hP hK hP hS rfl hl.1 (lv_room (Nat.le_of_ble_eq_true rfl)) dX0_sideEdge_40 ⟨Nat.le_of_ble_eq_true rfl, Nat.le_of_ble_eq_true rfl⟩ (fun r40 H locs hr40 hP hS => ?_)
    subst hr40
    exact W.iret (v := (nI (nR w h + y * w + (x + 1)))) hx hb hr (fun t ht hW => ⟨⟨_, (), rfl, rfl, trivial⟩, hS.F ht⟩) hS.2.2 dX0_sideEdge_43
  · refine lv_tableIn (tgt := 44) hx hb dX0_sideEdge_1 (by decide) (by decide) rfl (by decide) ?_
    refine lv_aload_n hx hb dX0_sideEdge_44 rfl (lv_at hl 0 rfl) ?_
    refine lv_iload_n hx hb dX0_sideEdge_45 rfl (lv_at hl 1 rfl) ?_
    refine lv_iload_n hx hb dX0_sideEdge_46 rfl (lv_at hl 2 rfl) ?_
    refine lv_iconst (v := 1) hx hb dX0_sideEdge_47 (by decide) ?_
    refine lv_iadd hx hb dX0_sideEdge_48 ?_
    rw [show (nI y + 1) = nI (y + 1) from nI_p1 y]
    refine ro_V2 ⟨hx, hb, hml, hown, hts⟩ (c_X0_rightwardEdge l D o cI (nI h) tw op ch sm nx bf od st ow w x (y + 1) gw) (cwV 2 hts gX0_sideEdge_X0_rightwardEdge rfl rfl rfl (by decide +kernel) ⟨Nat.le_of_ble_eq_true rfl, Nat.le_of_ble_eq_true rfl⟩) (va_recv hK hP (ci := 0) (q0 := 0) rfl rfl) hP hK hP hS rfl hl.1 (lv_room (Nat.le_of_ble_eq_true rfl)) dX0_sideEdge_49 ⟨Nat.le_of_ble_eq_true rfl, Nat.le_of_ble_eq_true rfl⟩ (fun r49 H locs hr49 hP hS => ?_)
    subst hr49
    exact W.iret (v := (nI ((y + 1) * (w - 1) + x))) hx hb hr (fun t ht hW => ⟨⟨_, (), rfl, rfl, trivial⟩, hS.F ht⟩) hS.2.2 dX0_sideEdge_52
  · refine lv_tableOut (tgt := 53) hx hb dX0_sideEdge_1 (by decide) (by decide) ?_
    refine lv_aload_n hx hb dX0_sideEdge_53 rfl (lv_at hl 0 rfl) ?_
    refine lv_iload_n hx hb dX0_sideEdge_54 rfl (lv_at hl 1 rfl) ?_
    refine lv_iload_n hx hb dX0_sideEdge_55 rfl (lv_at hl 2 rfl) ?_
    refine ro_V2 ⟨hx, hb, hml, hown, hts⟩ (c_X0_upwardEdge l D o cI tw op ch sm nx bf od st ow w h x y gw) (cwV 2 hts gX0_sideEdge_X0_upwardEdge rfl rfl rfl (by decide +kernel) ⟨Nat.le_of_ble_eq_true rfl, Nat.le_of_ble_eq_true rfl⟩) (va_recv hK hP (ci := 0) (q0 := 0) rfl rfl) hP hK hP hS rfl hl.1 (lv_room (Nat.le_of_ble_eq_true rfl)) dX0_sideEdge_56 ⟨Nat.le_of_ble_eq_true rfl, Nat.le_of_ble_eq_true rfl⟩ (fun r56 H locs hr56 hP hS => ?_)
    subst hr56
    exact W.iret (v := (nI (nR w h + y * w + x))) hx hb hr (fun t ht hW => ⟨⟨_, (), rfl, rfl, trivial⟩, hS.F ht⟩) hS.2.2 dX0_sideEdge_59

set_option maxHeartbeats 4000000 in
set_option maxRecDepth 100000 in
theorem c_X0_hasCorner (l : Launch) (D : va_G) (a : Nat) (k : Nat) (ga : a < 16) (gk : k < 8) : roMet l yX0_hasCorner wsX0_hasCorner ({ frames := 0, cells := 0, slots := 0, locals := 0 } : Room) D [] [] [.int (nI a), .int (nI k)] (fun r => r = bI (a.testBit (k % 4))) := by
  refine Met.ofW (cc := cX0_hasCorner) (maxL := 2) (ret := (some .boolean)) (by decide) rfl ?_
  intro p e s m args below meth c s₁ B hml hv
  obtain ⟨rfl, hP, hK⟩ := hv
  have hx := B.exec
  have hb := B.bytes
  have hr := B.returns
  have hts := atoms_spec (ws := wsX0_hasCorner) B.pre
  have hown : s.vm.findClass RX0 = some m.cls := findClass_of_methodNamed B.named
  have hlocks := B.notSynchronized
  have hS : va_S (fun _ => False) s.heap s.heap [] := va_S.rf
  have hP : va_P D vwCl [] s.heap := hP
  have hl := lv_entry ([.int (nI a), .int (nI k)]) (n := 2) (Nat.le_of_ble_eq_true rfl)
  rw [lg_entry_eq]
  generalize (lg_sl ([.int (nI a), .int (nI k)]) ++ List.replicate (2 - (lg_sl ([.int (nI a), .int (nI k)])).length) Slot.unset).toArray = ls at hl ⊢
  have hl : lv_has ls 2 [(0, .int (nI a)), (1, .int (nI k))] := hl
  refine lv_iload_n hx hb dX0_hasCorner_0 rfl (lv_at hl 0 rfl) ?_
  refine lv_iload_n hx hb dX0_hasCorner_1 rfl (lv_at hl 1 rfl) ?_
  refine lv_iconst (v := 4) hx hb dX0_hasCorner_2 (by decide) ?_
  refine lv_irem hx hb dX0_hasCorner_3 (by decide) ?_
  refine lv_ishr hx hb dX0_hasCorner_4 ?_
  refine lv_iconst (v := 1) hx hb dX0_hasCorner_5 (by decide) ?_
  refine lv_iand hx hb dX0_hasCorner_6 ?_
  rw [show ((nI a >>> ((nI k - nI k / 4 * 4) &&& 31)) &&& 1) = bI (a.testBit (k % 4)) from hc_eq a ga k gk]
  refine lv_iconst (v := 1) hx hb dX0_hasCorner_7 (by decide) ?_
  refine lv_icmp_ne (tgt := 15) hx hb dX0_hasCorner_8 (by decide) (fun c8 => ?_) (fun c8 => ?_)
  · refine lv_iconst (v := 0) hx hb dX0_hasCorner_15 (by decide) ?_
    exact W.zret (v := 0) (ty := .boolean) hx hb hr rfl (fun t ht hW => ⟨⟨_, (), rfl, bI_z (bI_ne1 c8), trivial⟩, hS.F ht⟩) hS.2.2 dX0_hasCorner_16
  · refine lv_iconst (v := 1) hx hb dX0_hasCorner_11 (by decide) ?_
    refine lv_goto (tgt := 16) hx hb dX0_hasCorner_12 (by decide) ?_
    exact W.zret (v := 1) (ty := .boolean) hx hb hr rfl (fun t ht hW => ⟨⟨_, (), rfl, bI_1 (bI_e1 (by simpa using c8)), trivial⟩, hS.F ht⟩) hS.2.2 dX0_hasCorner_16

set_option maxHeartbeats 4000000 in
set_option maxRecDepth 100000 in
theorem c_X0_entersAt (l : Launch) (D : va_G) (a : Nat) (k : Nat) (ga : a < 16) (gk : k < 7) : roMet l yX0_entersAt wsX0_entersAt ({ frames := 1, cells := 0, slots := 0, locals := 21 } : Room) D [] [] [.int (nI a), .int (nI k)] (fun r => r = bI (inA a k)) := by
  refine Met.ofW (cc := cX0_entersAt) (maxL := 2) (ret := (some .boolean)) (by decide) rfl ?_
  intro p e s m args below meth c s₁ B hml hv
  obtain ⟨rfl, hP, hK⟩ := hv
  have hx := B.exec
  have hb := B.bytes
  have hr := B.returns
  have hts := atoms_spec (ws := wsX0_entersAt) B.pre
  have hown : s.vm.findClass RX0 = some m.cls := findClass_of_methodNamed B.named
  have hlocks := B.notSynchronized
  have hS : va_S (fun _ => False) s.heap s.heap [] := va_S.rf
  have hP : va_P D vwCl [] s.heap := hP
  have hl := lv_entry ([.int (nI a), .int (nI k)]) (n := 2) (Nat.le_of_ble_eq_true rfl)
  rw [lg_entry_eq]
  generalize (lg_sl ([.int (nI a), .int (nI k)]) ++ List.replicate (2 - (lg_sl ([.int (nI a), .int (nI k)])).length) Slot.unset).toArray = ls at hl ⊢
  have hl : lv_has ls 2 [(0, .int (nI a)), (1, .int (nI k))] := hl
  refine lv_iload_n hx hb dX0_entersAt_0 rfl (lv_at hl 0 rfl) ?_
  refine lv_iload_n hx hb dX0_entersAt_1 rfl (lv_at hl 1 rfl) ?_
  refine ro_S2 ⟨hx, hb, hml, hown, hts⟩ (c_X0_hasCorner l D a k ga (by omega)) (va_cwS 2 hts gX0_entersAt_X0_hasCorner rfl rfl rfl (by decide +kernel) ⟨Nat.le_of_ble_eq_true rfl, Nat.le_of_ble_eq_true rfl⟩) (va_P0 D vwCl _) (hK.sub [] rfl) hP hS rfl hl.1 (lv_room (Nat.le_of_ble_eq_true rfl)) dX0_entersAt_2 ⟨Nat.le_of_ble_eq_true rfl, Nat.le_of_ble_eq_true rfl⟩ (fun r2 H locs hr2 hP hS => ?_)
  subst hr2
  refine lv_if_eq (tgt := 22) hx hb dX0_entersAt_5 (by decide) (fun c5 => ?_) (fun c5 => ?_)
  · refine lv_iconst (v := 0) hx hb dX0_entersAt_22 (by decide) ?_
    exact W.zret (v := 0) (ty := .boolean) hx hb hr rfl (fun t ht hW => ⟨⟨_, (), rfl, by unfold inA; simp_all [bI_0, bI_n0, bI_t, bI_f, bI], trivial⟩, hS.F ht⟩) hS.2.2 dX0_entersAt_23
  · refine lv_iload_n hx hb dX0_entersAt_8 rfl (lv_at hl 0 rfl) ?_
    refine lv_iload_n hx hb dX0_entersAt_9 rfl (lv_at hl 1 rfl) ?_
    refine lv_iconst (v := 1) hx hb dX0_entersAt_10 (by decide) ?_
    refine lv_iadd hx hb dX0_entersAt_11 ?_
    rw [show (nI k + 1) = nI (k + 1) from nI_p1 k]
    refine ro_S2 ⟨hx, hb, hml, hown, hts⟩ (c_X0_hasCorner l D a (k + 1) ga (by omega)) (va_cwS 2 hts gX0_entersAt_X0_hasCorner rfl rfl rfl (by decide +kernel) ⟨Nat.le_of_ble_eq_true rfl, Nat.le_of_ble_eq_true rfl⟩) (va_P0 D vwCl _) (hK.sub [] rfl) hP hS rfl hl.1 (lv_room (Nat.le_of_ble_eq_true rfl)) dX0_entersAt_12 ⟨Nat.le_of_ble_eq_true rfl, Nat.le_of_ble_eq_true rfl⟩ (fun r12 H locs hr12 hP hS => ?_)
    subst hr12
    refine lv_if_ne (tgt := 22) hx hb dX0_entersAt_15 (by decide) (fun c15 => ?_) (fun c15 => ?_)
    · refine lv_iconst (v := 0) hx hb dX0_entersAt_22 (by decide) ?_
      exact W.zret (v := 0) (ty := .boolean) hx hb hr rfl (fun t ht hW => ⟨⟨_, (), rfl, by unfold inA; simp_all [bI_0, bI_n0, bI_t, bI_f, bI], trivial⟩, hS.F ht⟩) hS.2.2 dX0_entersAt_23
    · refine lv_iconst (v := 1) hx hb dX0_entersAt_18 (by decide) ?_
      refine lv_goto (tgt := 23) hx hb dX0_entersAt_19 (by decide) ?_
      exact W.zret (v := 1) (ty := .boolean) hx hb hr rfl (fun t ht hW => ⟨⟨_, (), rfl, by unfold inA; simp_all [bI_0, bI_n0, bI_t, bI_f, bI], trivial⟩, hS.F ht⟩) hS.2.2 dX0_entersAt_23

set_option maxHeartbeats 4000000 in
set_option maxRecDepth 100000 in
theorem c_X0_leavesAt (l : Launch) (D : va_G) (a : Nat) (k : Nat) (ga : a < 16) (gk : k < 7) : roMet l yX0_leavesAt wsX0_leavesAt ({ frames := 1, cells := 0, slots := 0, locals := 21 } : Room) D [] [] [.int (nI a), .int (nI k)] (fun r => r = bI (outA a k)) := by
  refine Met.ofW (cc := cX0_leavesAt) (maxL := 2) (ret := (some .boolean)) (by decide) rfl ?_
  intro p e s m args below meth c s₁ B hml hv
  obtain ⟨rfl, hP, hK⟩ := hv
  have hx := B.exec
  have hb := B.bytes
  have hr := B.returns
  have hts := atoms_spec (ws := wsX0_leavesAt) B.pre
  have hown : s.vm.findClass RX0 = some m.cls := findClass_of_methodNamed B.named
  have hlocks := B.notSynchronized
  have hS : va_S (fun _ => False) s.heap s.heap [] := va_S.rf
  have hP : va_P D vwCl [] s.heap := hP
  have hl := lv_entry ([.int (nI a), .int (nI k)]) (n := 2) (Nat.le_of_ble_eq_true rfl)
  rw [lg_entry_eq]
  generalize (lg_sl ([.int (nI a), .int (nI k)]) ++ List.replicate (2 - (lg_sl ([.int (nI a), .int (nI k)])).length) Slot.unset).toArray = ls at hl ⊢
  have hl : lv_has ls 2 [(0, .int (nI a)), (1, .int (nI k))] := hl
  refine lv_iload_n hx hb dX0_leavesAt_0 rfl (lv_at hl 0 rfl) ?_
  refine lv_iload_n hx hb dX0_leavesAt_1 rfl (lv_at hl 1 rfl) ?_
  refine ro_S2 ⟨hx, hb, hml, hown, hts⟩ (c_X0_hasCorner l D a k ga (by omega)) (va_cwS 2 hts gX0_leavesAt_X0_hasCorner rfl rfl rfl (by decide +kernel) ⟨Nat.le_of_ble_eq_true rfl, Nat.le_of_ble_eq_true rfl⟩) (va_P0 D vwCl _) (hK.sub [] rfl) hP hS rfl hl.1 (lv_room (Nat.le_of_ble_eq_true rfl)) dX0_leavesAt_2 ⟨Nat.le_of_ble_eq_true rfl, Nat.le_of_ble_eq_true rfl⟩ (fun r2 H locs hr2 hP hS => ?_)
  subst hr2
  refine lv_if_ne (tgt := 22) hx hb dX0_leavesAt_5 (by decide) (fun c5 => ?_) (fun c5 => ?_)
  · refine lv_iconst (v := 0) hx hb dX0_leavesAt_22 (by decide) ?_
    exact W.zret (v := 0) (ty := .boolean) hx hb hr rfl (fun t ht hW => ⟨⟨_, (), rfl, by unfold outA; simp_all [bI_0, bI_n0, bI_t, bI_f, bI], trivial⟩, hS.F ht⟩) hS.2.2 dX0_leavesAt_23
  · refine lv_iload_n hx hb dX0_leavesAt_8 rfl (lv_at hl 0 rfl) ?_
    refine lv_iload_n hx hb dX0_leavesAt_9 rfl (lv_at hl 1 rfl) ?_
    refine lv_iconst (v := 1) hx hb dX0_leavesAt_10 (by decide) ?_
    refine lv_iadd hx hb dX0_leavesAt_11 ?_
    rw [show (nI k + 1) = nI (k + 1) from nI_p1 k]
    refine ro_S2 ⟨hx, hb, hml, hown, hts⟩ (c_X0_hasCorner l D a (k + 1) ga (by omega)) (va_cwS 2 hts gX0_leavesAt_X0_hasCorner rfl rfl rfl (by decide +kernel) ⟨Nat.le_of_ble_eq_true rfl, Nat.le_of_ble_eq_true rfl⟩) (va_P0 D vwCl _) (hK.sub [] rfl) hP hS rfl hl.1 (lv_room (Nat.le_of_ble_eq_true rfl)) dX0_leavesAt_12 ⟨Nat.le_of_ble_eq_true rfl, Nat.le_of_ble_eq_true rfl⟩ (fun r12 H locs hr12 hP hS => ?_)
    subst hr12
    refine lv_if_eq (tgt := 22) hx hb dX0_leavesAt_15 (by decide) (fun c15 => ?_) (fun c15 => ?_)
    · refine lv_iconst (v := 0) hx hb dX0_leavesAt_22 (by decide) ?_
      exact W.zret (v := 0) (ty := .boolean) hx hb hr rfl (fun t ht hW => ⟨⟨_, (), rfl, by unfold outA; simp_all [bI_0, bI_n0, bI_t, bI_f, bI], trivial⟩, hS.F ht⟩) hS.2.2 dX0_leavesAt_23
    · refine lv_iconst (v := 1) hx hb dX0_leavesAt_18 (by decide) ?_
      refine lv_goto (tgt := 23) hx hb dX0_leavesAt_19 (by decide) ?_
      exact W.zret (v := 1) (ty := .boolean) hx hb hr rfl (fun t ht hW => ⟨⟨_, (), rfl, by unfold outA; simp_all [bI_0, bI_n0, bI_t, bI_f, bI], trivial⟩, hS.F ht⟩) hS.2.2 dX0_leavesAt_23

set_option maxHeartbeats 4000000 in
set_option maxRecDepth 100000 in
theorem c_X0_heldToBounds (l : Launch) (D : va_G) (v : Int64) : roMet l yX0_heldToBounds wsX0_heldToBounds ({ frames := 1, cells := 0, slots := 0, locals := 23 } : Room) D [] [] [.long v] (fun r => r = holdI v) := by
  refine Met.ofW (cc := cX0_heldToBounds) (maxL := 2) (ret := (some .int)) (by decide) rfl ?_
  intro p e s m args below meth c s₁ B hml hv
  obtain ⟨rfl, hP, hK⟩ := hv
  have hx := B.exec
  have hb := B.bytes
  have hr := B.returns
  have hts := atoms_spec (ws := wsX0_heldToBounds) B.pre
  have hown : s.vm.findClass RX0 = some m.cls := findClass_of_methodNamed B.named
  have hlocks := B.notSynchronized
  have hS : va_S (fun _ => False) s.heap s.heap [] := va_S.rf
  have hP : va_P D vwCl [] s.heap := hP
  have hl := lv_entry ([.long v]) (n := 2) (Nat.le_of_ble_eq_true rfl)
  rw [lg_entry_eq]
  generalize (lg_sl ([.long v]) ++ List.replicate (2 - (lg_sl ([.long v])).length) Slot.unset).toArray = ls at hl ⊢
  have hl : lv_has ls 2 [(0, .long v)] := hl
  refine lv_ldc2 (v := (-1000000)) hx hb hown (hts (.constantLong RX0 116 (-1000000)) (by decide +kernel)) dX0_heldToBounds_0 ?_
  refine lv_ldc2 (v := 1000000) hx hb hown (hts (.constantLong RX0 118 (1000000)) (by decide +kernel)) dX0_heldToBounds_3 ?_
  refine lv_lload_n hx hb dX0_heldToBounds_6 rfl (lv_at hl 0 rfl) ?_
  refine va_mmin_long hx hb (by rw [hml]; exact hl.1.symm) hown (hts (.methodLink RX0 120 Lib.MathLoose.min_long.x) (by decide +kernel)) (hts (.static Lib.MathLoose.min_long.x) (by decide +kernel)) (hts (.initialized "java/lang/Math") (by decide +kernel)) (hts (.code Lib.MathLoose.min_long.x Lib.MathLoose.min_long.code 4 (some .long)) (by decide +kernel)) (Nat.le_of_ble_eq_true rfl) (Nat.le_of_ble_eq_true rfl) (Nat.le_of_ble_eq_true rfl) (Nat.le_of_ble_eq_true rfl) dX0_heldToBounds_7 ?_
  refine va_mmax_long hx hb (by rw [hml]; exact hl.1.symm) hown (hts (.methodLink RX0 124 Lib.MathLoose.max_long.x) (by decide +kernel)) (hts (.static Lib.MathLoose.max_long.x) (by decide +kernel)) (hts (.initialized "java/lang/Math") (by decide +kernel)) (hts (.code Lib.MathLoose.max_long.x Lib.MathLoose.max_long.code 4 (some .long)) (by decide +kernel)) (Nat.le_of_ble_eq_true rfl) (Nat.le_of_ble_eq_true rfl) (Nat.le_of_ble_eq_true rfl) (Nat.le_of_ble_eq_true rfl) dX0_heldToBounds_10 ?_
  refine lv_l2i hx hb dX0_heldToBounds_13 rfl ?_
  exact W.iret (v := (if (if v < 1000000 then v else 1000000) < (-1000000) then (-1000000) else (if v < 1000000 then v else 1000000)).toInt32) hx hb hr (fun t ht hW => ⟨⟨_, (), rfl, rfl, trivial⟩, hS.F ht⟩) hS.2.2 dX0_heldToBounds_14

set_option maxHeartbeats 4000000 in
set_option maxRecDepth 100000 in
theorem c_X0_isMiddleAbove (l : Launch) (D : va_G) (o : Nat → Nat) (cI : ClassId) (tw op ch : Int32) (sm nx bf od st ow : Nat → Int32) (w : Nat) (h : Nat) (f : Nat → Nat → Int32) (x : Nat) (y : Nat) (gw2 : w ≤ 12) (gh2 : h ≤ 12) (gf : ∀ x y, x < w → y < h → sm (y * w + x) = f x y) (gx : x + 1 < w) (gy : y + 1 < h) : roMet l yX0_isMiddleAbove wsX0_isMiddleAbove ({ frames := 2, cells := 0, slots := 0, locals := 45 } : Room) D (W0 o cI (nI w) (nI h) tw op ch sm nx bf od st ow) [(cI, .int)] [.ref (o 0), .int (nI x), .int (nI y)] (fun r => r = bI (mdB f tw x y)) := by
  refine Met.ofW (cc := cX0_isMiddleAbove) (maxL := 17) (ret := (some .boolean)) (by decide) rfl ?_
  intro p e s m args below meth c s₁ B hml hv
  obtain ⟨rfl, hP, hK⟩ := hv
  have hx := B.exec
  have hb := B.bytes
  have hr := B.returns
  have hts := atoms_spec (ws := wsX0_isMiddleAbove) B.pre
  have hown : s.vm.findClass RX0 = some m.cls := findClass_of_methodNamed B.named
  have hlocks := B.notSynchronized
  have hin0 : ∀ w ∈ u_ws RX0 TX0 11, w ∈ wsX0_isMiddleAbove := by decide +kernel
  have hS : va_S (fun _ => False) s.heap s.heap [] := va_S.rf
  have hP : va_P D vwCl (W0 o cI (nI w) (nI h) tw op ch sm nx bf od st ow) s.heap := hP
  have hl := lv_entry ([.ref (o 0), .int (nI x), .int (nI y)]) (n := 17) (Nat.le_of_ble_eq_true rfl)
  rw [lg_entry_eq]
  generalize (lg_sl ([.ref (o 0), .int (nI x), .int (nI y)]) ++ List.replicate (17 - (lg_sl ([.ref (o 0), .int (nI x), .int (nI y)])).length) Slot.unset).toArray = ls at hl ⊢
  have hl : lv_has ls 17 [(0, .ref (o 0)), (1, .int (nI x)), (2, .int (nI y))] := hl
  refine lv_aload_n hx hb dX0_isMiddleAbove_0 rfl (lv_at hl 0 rfl) ?_
  refine va_get (D := D) (ci := 0) (v := .ref (o 1)) (C := RX0) (T := TX0) (N := 11) hx hb hts hin0 hown hK hP 0 rfl rfl 3 (by decide) (hts (.fieldLink RX0 19 "HeightLines" "samples" "[I") (by decide +kernel)) (fun _ h9 => h9) rfl dX0_isMiddleAbove_1 ?_
  refine lv_aload_n hx hb dX0_isMiddleAbove_4 rfl (lv_at hl 0 rfl) ?_
  refine lv_iload_n hx hb dX0_isMiddleAbove_5 rfl (lv_at hl 1 rfl) ?_
  refine lv_iload_n hx hb dX0_isMiddleAbove_6 rfl (lv_at hl 2 rfl) ?_
  refine lv_iconst (v := 0) hx hb dX0_isMiddleAbove_7 (by decide) ?_
  refine ro_V3 ⟨hx, hb, hml, hown, hts⟩ (c_X0_cornerSample l D o cI (nI h) tw op ch sm nx bf od st ow w x y 0 (by decide)) (cwV 3 hts gX0_isMiddleAbove_X0_cornerSample rfl rfl rfl (by decide +kernel) ⟨Nat.le_of_ble_eq_true rfl, Nat.le_of_ble_eq_true rfl⟩) (va_recv hK hP (ci := 0) (q0 := 0) rfl rfl) hP hK hP hS rfl hl.1 (lv_room (Nat.le_of_ble_eq_true rfl)) dX0_isMiddleAbove_8 ⟨Nat.le_of_ble_eq_true rfl, Nat.le_of_ble_eq_true rfl⟩ (fun r8 H locs hr8 hP hS => ?_)
  subst hr8
  refine an_iald (D := D) hx hb hK hP 1 0 rfl rfl (k := cY y 0 * w + cX x 0) (sA_lt gw2 gh2 (show cX x 0 < w by simp [cX]; omega) (show cY y 0 < h by simp [cY]; omega)) (by decide) dX0_isMiddleAbove_11 ?_
  refine lv_i2l hx hb dX0_isMiddleAbove_12 rfl ?_
  refine lv_topl (fun x13 ex13 => ?_)
  refine lv_lstore_n (lv' := [(3, .long x13), (0, .ref (o 0)), (1, .int (nI x)), (2, .int (nI y))]) hx hb dX0_isMiddleAbove_13 rfl hl (by decide) rfl (fun ls hl => ?_)
  refine lv_aload_n hx hb dX0_isMiddleAbove_14 rfl (lv_at hl 1 rfl) ?_
  refine va_get (D := D) (ci := 0) (v := .ref (o 1)) (C := RX0) (T := TX0) (N := 11) hx hb hts hin0 hown hK hP 0 rfl rfl 3 (by decide) (hts (.fieldLink RX0 19 "HeightLines" "samples" "[I") (by decide +kernel)) (fun _ h9 => h9) rfl dX0_isMiddleAbove_15 ?_
  refine lv_aload_n hx hb dX0_isMiddleAbove_18 rfl (lv_at hl 1 rfl) ?_
  refine lv_iload_n hx hb dX0_isMiddleAbove_19 rfl (lv_at hl 2 rfl) ?_
  refine lv_iload_n hx hb dX0_isMiddleAbove_20 rfl (lv_at hl 3 rfl) ?_
  refine lv_iconst (v := 1) hx hb dX0_isMiddleAbove_21 (by decide) ?_
  refine ro_V3 ⟨hx, hb, hml, hown, hts⟩ (c_X0_cornerSample l D o cI (nI h) tw op ch sm nx bf od st ow w x y 1 (by decide)) (cwV 3 hts gX0_isMiddleAbove_X0_cornerSample rfl rfl rfl (by decide +kernel) ⟨Nat.le_of_ble_eq_true rfl, Nat.le_of_ble_eq_true rfl⟩) (va_recv hK hP (ci := 0) (q0 := 0) rfl rfl) hP hK hP hS rfl hl.1 (lv_room (Nat.le_of_ble_eq_true rfl)) dX0_isMiddleAbove_22 ⟨Nat.le_of_ble_eq_true rfl, Nat.le_of_ble_eq_true rfl⟩ (fun r22 H locs hr22 hP hS => ?_)
  subst hr22
  refine an_iald (D := D) hx hb hK hP 1 0 rfl rfl (k := cY y 1 * w + cX x 1) (sA_lt gw2 gh2 (show cX x 1 < w by simp [cX]; omega) (show cY y 1 < h by simp [cY]; omega)) (by decide) dX0_isMiddleAbove_25 ?_
  refine lv_i2l hx hb dX0_isMiddleAbove_26 rfl ?_
  refine lv_topl (fun x27 ex27 => ?_)
  refine lv_lstore (lv' := [(5, .long x27), (3, .long x13), (0, .ref (o 0)), (1, .int (nI x)), (2, .int (nI y))]) hx hb dX0_isMiddleAbove_27 hl (by decide) rfl (fun ls hl => ?_)
  refine lv_aload_n hx hb dX0_isMiddleAbove_29 rfl (lv_at hl 2 rfl) ?_
  refine va_get (D := D) (ci := 0) (v := .ref (o 1)) (C := RX0) (T := TX0) (N := 11) hx hb hts hin0 hown hK hP 0 rfl rfl 3 (by decide) (hts (.fieldLink RX0 19 "HeightLines" "samples" "[I") (by decide +kernel)) (fun _ h9 => h9) rfl dX0_isMiddleAbove_30 ?_
  refine lv_aload_n hx hb dX0_isMiddleAbove_33 rfl (lv_at hl 2 rfl) ?_
  refine lv_iload_n hx hb dX0_isMiddleAbove_34 rfl (lv_at hl 3 rfl) ?_
  refine lv_iload_n hx hb dX0_isMiddleAbove_35 rfl (lv_at hl 4 rfl) ?_
  refine lv_iconst (v := 2) hx hb dX0_isMiddleAbove_36 (by decide) ?_
  refine ro_V3 ⟨hx, hb, hml, hown, hts⟩ (c_X0_cornerSample l D o cI (nI h) tw op ch sm nx bf od st ow w x y 2 (by decide)) (cwV 3 hts gX0_isMiddleAbove_X0_cornerSample rfl rfl rfl (by decide +kernel) ⟨Nat.le_of_ble_eq_true rfl, Nat.le_of_ble_eq_true rfl⟩) (va_recv hK hP (ci := 0) (q0 := 0) rfl rfl) hP hK hP hS rfl hl.1 (lv_room (Nat.le_of_ble_eq_true rfl)) dX0_isMiddleAbove_37 ⟨Nat.le_of_ble_eq_true rfl, Nat.le_of_ble_eq_true rfl⟩ (fun r37 H locs hr37 hP hS => ?_)
  subst hr37
  refine an_iald (D := D) hx hb hK hP 1 0 rfl rfl (k := cY y 2 * w + cX x 2) (sA_lt gw2 gh2 (show cX x 2 < w by simp [cX]; omega) (show cY y 2 < h by simp [cY]; omega)) (by decide) dX0_isMiddleAbove_40 ?_
  refine lv_i2l hx hb dX0_isMiddleAbove_41 rfl ?_
  refine lv_topl (fun x42 ex42 => ?_)
  refine lv_lstore (lv' := [(7, .long x42), (5, .long x27), (3, .long x13), (0, .ref (o 0)), (1, .int (nI x)), (2, .int (nI y))]) hx hb dX0_isMiddleAbove_42 hl (by decide) rfl (fun ls hl => ?_)
  refine lv_aload_n hx hb dX0_isMiddleAbove_44 rfl (lv_at hl 3 rfl) ?_
  refine va_get (D := D) (ci := 0) (v := .ref (o 1)) (C := RX0) (T := TX0) (N := 11) hx hb hts hin0 hown hK hP 0 rfl rfl 3 (by decide) (hts (.fieldLink RX0 19 "HeightLines" "samples" "[I") (by decide +kernel)) (fun _ h9 => h9) rfl dX0_isMiddleAbove_45 ?_
  refine lv_aload_n hx hb dX0_isMiddleAbove_48 rfl (lv_at hl 3 rfl) ?_
  refine lv_iload_n hx hb dX0_isMiddleAbove_49 rfl (lv_at hl 4 rfl) ?_
  refine lv_iload_n hx hb dX0_isMiddleAbove_50 rfl (lv_at hl 5 rfl) ?_
  refine lv_iconst (v := 3) hx hb dX0_isMiddleAbove_51 (by decide) ?_
  refine ro_V3 ⟨hx, hb, hml, hown, hts⟩ (c_X0_cornerSample l D o cI (nI h) tw op ch sm nx bf od st ow w x y 3 (by decide)) (cwV 3 hts gX0_isMiddleAbove_X0_cornerSample rfl rfl rfl (by decide +kernel) ⟨Nat.le_of_ble_eq_true rfl, Nat.le_of_ble_eq_true rfl⟩) (va_recv hK hP (ci := 0) (q0 := 0) rfl rfl) hP hK hP hS rfl hl.1 (lv_room (Nat.le_of_ble_eq_true rfl)) dX0_isMiddleAbove_52 ⟨Nat.le_of_ble_eq_true rfl, Nat.le_of_ble_eq_true rfl⟩ (fun r52 H locs hr52 hP hS => ?_)
  subst hr52
  refine an_iald (D := D) hx hb hK hP 1 0 rfl rfl (k := cY y 3 * w + cX x 3) (sA_lt gw2 gh2 (show cX x 3 < w by simp [cX]; omega) (show cY y 3 < h by simp [cY]; omega)) (by decide) dX0_isMiddleAbove_55 ?_
  refine lv_i2l hx hb dX0_isMiddleAbove_56 rfl ?_
  refine lv_topl (fun x57 ex57 => ?_)
  refine lv_lstore (lv' := [(9, .long x57), (7, .long x42), (5, .long x27), (3, .long x13), (0, .ref (o 0)), (1, .int (nI x)), (2, .int (nI y))]) hx hb dX0_isMiddleAbove_57 hl (by decide) rfl (fun ls hl => ?_)
  refine lv_lload_n hx hb dX0_isMiddleAbove_59 rfl (lv_at hl 3 rfl) ?_
  refine lv_lload hx hb dX0_isMiddleAbove_60 (lv_at hl 1 rfl) ?_
  refine lv_ladd hx hb dX0_isMiddleAbove_62 ?_
  refine lv_lload hx hb dX0_isMiddleAbove_63 (lv_at hl 2 rfl) ?_
  refine lv_lsub hx hb dX0_isMiddleAbove_65 ?_
  refine lv_lload hx hb dX0_isMiddleAbove_66 (lv_at hl 0 rfl) ?_
  refine lv_lsub hx hb dX0_isMiddleAbove_68 ?_
  refine lv_topl (fun x69 ex69 => ?_)
  refine lv_lstore (lv' := [(11, .long x69), (9, .long x57), (7, .long x42), (5, .long x27), (3, .long x13), (0, .ref (o 0)), (1, .int (nI x)), (2, .int (nI y))]) hx hb dX0_isMiddleAbove_69 hl (by decide) rfl (fun ls hl => ?_)
  refine lv_ldc2 (v := 2) hx hb hown (hts (.constantLong RX0 169 (2)) (by decide +kernel)) dX0_isMiddleAbove_71 ?_
  refine lv_lload_n hx hb dX0_isMiddleAbove_74 rfl (lv_at hl 4 rfl) ?_
  refine lv_lload hx hb dX0_isMiddleAbove_75 (lv_at hl 2 rfl) ?_
  refine lv_lmul hx hb dX0_isMiddleAbove_77 ?_
  refine lv_lload hx hb dX0_isMiddleAbove_78 (lv_at hl 3 rfl) ?_
  refine lv_lload hx hb dX0_isMiddleAbove_80 (lv_at hl 1 rfl) ?_
  refine lv_lmul hx hb dX0_isMiddleAbove_82 ?_
  refine lv_lsub hx hb dX0_isMiddleAbove_83 ?_
  refine lv_lmul hx hb dX0_isMiddleAbove_84 ?_
  refine lv_topl (fun x85 ex85 => ?_)
  refine lv_lstore (lv' := [(13, .long x85), (11, .long x69), (9, .long x57), (7, .long x42), (5, .long x27), (3, .long x13), (0, .ref (o 0)), (1, .int (nI x)), (2, .int (nI y))]) hx hb dX0_isMiddleAbove_85 hl (by decide) rfl (fun ls hl => ?_)
  refine lv_aload_n hx hb dX0_isMiddleAbove_87 rfl (lv_at hl 6 rfl) ?_
  refine va_get (D := D) (ci := 0) (v := .int tw) (C := RX0) (T := TX0) (N := 11) hx hb hts hin0 hown hK hP 0 rfl rfl 2 (by decide) (hts (.fieldLink RX0 16 "HeightLines" "twiceHeight" "I") (by decide +kernel)) (fun _ h9 => h9) rfl dX0_isMiddleAbove_88 ?_
  refine lv_i2l hx hb dX0_isMiddleAbove_91 rfl ?_
  refine lv_lload hx hb dX0_isMiddleAbove_92 (lv_at hl 1 rfl) ?_
  refine lv_lmul hx hb dX0_isMiddleAbove_94 ?_
  refine lv_topl (fun x95 ex95 => ?_)
  refine lv_lstore (lv' := [(15, .long x95), (13, .long x85), (11, .long x69), (9, .long x57), (7, .long x42), (5, .long x27), (3, .long x13), (0, .ref (o 0)), (1, .int (nI x)), (2, .int (nI y))]) hx hb dX0_isMiddleAbove_95 hl (by decide) rfl (fun ls hl => ?_)
  refine lv_lload hx hb dX0_isMiddleAbove_97 (lv_at hl 2 rfl) ?_
  refine lv_lconst (v := 0) hx hb dX0_isMiddleAbove_99 (by decide) ?_
  refine W.lcmp hx hb dX0_isMiddleAbove_100 ?_
  refine lv_if_le (tgt := 120) hx hb dX0_isMiddleAbove_101 (by decide) (fun c101 => ?_) (fun c101 => ?_)
  · refine lv_lload hx hb dX0_isMiddleAbove_120 (lv_at hl 1 rfl) ?_
    refine lv_lload hx hb dX0_isMiddleAbove_122 (lv_at hl 0 rfl) ?_
    refine W.lcmp hx hb dX0_isMiddleAbove_124 ?_
    refine lv_if_ge (tgt := 132) hx hb dX0_isMiddleAbove_125 (by decide) (fun c125 => ?_) (fun c125 => ?_)
    · refine lv_iconst (v := 0) hx hb dX0_isMiddleAbove_132 (by decide) ?_
      exact W.zret (v := 0) (ty := .boolean) hx hb hr rfl (fun t ht hW => ⟨⟨_, (), rfl, bI_z (by unfold mdB; rw [(mid_2 (lo := x69) (mi := x85) (lv := x95) (a := f x y) (b := f (x + 1) y) (c := f (x + 1) (y + 1)) (d := f x (y + 1)) (by rw [ex69, ex13, ex27, ex42, ex57, ← gf x y (by omega) (by omega), ← gf (x + 1) y (by omega) (by omega), ← gf (x + 1) (y + 1) (by omega) (by omega), ← gf x (y + 1) (by omega) (by omega)]; rfl) (by rw [ex85, ex13, ex27, ex42, ex57, ← gf x y (by omega) (by omega), ← gf (x + 1) y (by omega) (by omega), ← gf (x + 1) (y + 1) (by omega) (by omega), ← gf x (y + 1) (by omega) (by omega)]; rfl) ex95 c101)]; exact decide_eq_false (Int64.not_lt.mpr ((lg_cmp_ge _ _).mp c125))), trivial⟩, hS.F ht⟩) hS.2.2 dX0_isMiddleAbove_133
    · refine lv_iconst (v := 1) hx hb dX0_isMiddleAbove_128 (by decide) ?_
      refine lv_goto (tgt := 133) hx hb dX0_isMiddleAbove_129 (by decide) ?_
      exact W.zret (v := 1) (ty := .boolean) hx hb hr rfl (fun t ht hW => ⟨⟨_, (), rfl, bI_1 (by unfold mdB; rw [(mid_2 (lo := x69) (mi := x85) (lv := x95) (a := f x y) (b := f (x + 1) y) (c := f (x + 1) (y + 1)) (d := f x (y + 1)) (by rw [ex69, ex13, ex27, ex42, ex57, ← gf x y (by omega) (by omega), ← gf (x + 1) y (by omega) (by omega), ← gf (x + 1) (y + 1) (by omega) (by omega), ← gf x (y + 1) (by omega) (by omega)]; rfl) (by rw [ex85, ex13, ex27, ex42, ex57, ← gf x y (by omega) (by omega), ← gf (x + 1) y (by omega) (by omega), ← gf (x + 1) (y + 1) (by omega) (by omega), ← gf x (y + 1) (by omega) (by omega)]; rfl) ex95 c101)]; exact decide_eq_true (Int64.not_le.mp (fun z => c125 ((lg_cmp_ge _ _).mpr z)))), trivial⟩, hS.F ht⟩) hS.2.2 dX0_isMiddleAbove_133
  · refine lv_lload hx hb dX0_isMiddleAbove_104 (lv_at hl 1 rfl) ?_
    refine lv_lload hx hb dX0_isMiddleAbove_106 (lv_at hl 0 rfl) ?_
    refine W.lcmp hx hb dX0_isMiddleAbove_108 ?_
    refine lv_if_le (tgt := 116) hx hb dX0_isMiddleAbove_109 (by decide) (fun c109 => ?_) (fun c109 => ?_)
    · refine lv_iconst (v := 0) hx hb dX0_isMiddleAbove_116 (by decide) ?_
      refine lv_goto (tgt := 133) hx hb dX0_isMiddleAbove_117 (by decide) ?_
      exact W.zret (v := 0) (ty := .boolean) hx hb hr rfl (fun t ht hW => ⟨⟨_, (), rfl, bI_z (by unfold mdB; rw [(mid_1 (lo := x69) (mi := x85) (lv := x95) (a := f x y) (b := f (x + 1) y) (c := f (x + 1) (y + 1)) (d := f x (y + 1)) (by rw [ex69, ex13, ex27, ex42, ex57, ← gf x y (by omega) (by omega), ← gf (x + 1) y (by omega) (by omega), ← gf (x + 1) (y + 1) (by omega) (by omega), ← gf x (y + 1) (by omega) (by omega)]; rfl) (by rw [ex85, ex13, ex27, ex42, ex57, ← gf x y (by omega) (by omega), ← gf (x + 1) y (by omega) (by omega), ← gf (x + 1) (y + 1) (by omega) (by omega), ← gf x (y + 1) (by omega) (by omega)]; rfl) ex95 c101)]; exact decide_eq_false (Int64.not_lt.mpr ((lg_cmp_le _ _).mp c109))), trivial⟩, hS.F ht⟩) hS.2.2 dX0_isMiddleAbove_133
    · refine lv_iconst (v := 1) hx hb dX0_isMiddleAbove_112 (by decide) ?_
      refine lv_goto (tgt := 133) hx hb dX0_isMiddleAbove_113 (by decide) ?_
      exact W.zret (v := 1) (ty := .boolean) hx hb hr rfl (fun t ht hW => ⟨⟨_, (), rfl, bI_1 (by unfold mdB; rw [(mid_1 (lo := x69) (mi := x85) (lv := x95) (a := f x y) (b := f (x + 1) y) (c := f (x + 1) (y + 1)) (d := f x (y + 1)) (by rw [ex69, ex13, ex27, ex42, ex57, ← gf x y (by omega) (by omega), ← gf (x + 1) y (by omega) (by omega), ← gf (x + 1) (y + 1) (by omega) (by omega), ← gf x (y + 1) (by omega) (by omega)]; rfl) (by rw [ex85, ex13, ex27, ex42, ex57, ← gf x y (by omega) (by omega), ← gf (x + 1) y (by omega) (by omega), ← gf (x + 1) (y + 1) (by omega) (by omega), ← gf x (y + 1) (by omega) (by omega)]; rfl) ex95 c101)]; exact decide_eq_true (Int64.not_le.mp (fun z => c109 ((lg_cmp_le _ _).mpr z)))), trivial⟩, hS.F ht⟩) hS.2.2 dX0_isMiddleAbove_133
end
section
set_option maxHeartbeats 4000000 in
set_option maxRecDepth 100000 in
theorem c_X1_all (l : Launch) (D : va_G) (o : Nat → Nat) (cI cZ : ClassId) (th tw ch : Int32) (sm od st cl us : Nat → Int32) (w : Nat) (h : Nat) (gw : 1 ≤ w) (gh : 1 ≤ h) : roMet l yX1_all wsX1_all ({ frames := 0, cells := 0, slots := 0, locals := 0 } : Room) D (W1 o cI cZ th (nI w) (nI h) tw ch sm od st cl us) [(cI, .int), (cZ, .boolean)] [.ref (o 0)] (fun r => r = nI (nE w h)) := by
  refine Met.ofW (cc := cX1_all) (maxL := 1) (ret := (some .int)) (by decide) rfl ?_
  intro p e s m args below meth c s₁ B hml hv
  obtain ⟨rfl, hP, hK⟩ := hv
  have hx := B.exec
  have hb := B.bytes
  have hr := B.returns
  have hts := atoms_spec (ws := wsX1_all) B.pre
  have hown : s.vm.findClass RX1 = some m.cls := findClass_of_methodNamed B.named
  have hlocks := B.notSynchronized
  have hin0 : ∀ w ∈ u_ws RX1 TX1 10, w ∈ wsX1_all := by decide +kernel
  have hS : va_S (fun _ => False) s.heap s.heap [] := va_S.rf
  have hP : va_P D vwCl (W1 o cI cZ th (nI w) (nI h) tw ch sm od st cl us) s.heap := hP
  have hl := lv_entry ([.ref (o 0)]) (n := 1) (Nat.le_of_ble_eq_true rfl)
  rw [lg_entry_eq]
  generalize (lg_sl ([.ref (o 0)]) ++ List.replicate (1 - (lg_sl ([.ref (o 0)])).length) Slot.unset).toArray = ls at hl ⊢
  have hl : lv_has ls 1 [(0, .ref (o 0))] := hl
  refine lv_aload_n hx hb dX1_all_0 rfl (lv_at hl 0 rfl) ?_
  refine va_get (D := D) (ci := 1) (v := .int (nI h)) (C := RX1) (T := TX1) (N := 10) hx hb hts hin0 hown hK hP 0 rfl rfl 2 (by decide) (hts (.fieldLink RX1 13 "HeightLinesModel" "h" "I") (by decide +kernel)) (fun _ h9 => h9) rfl dX1_all_1 ?_
  refine lv_aload_n hx hb dX1_all_4 rfl (lv_at hl 0 rfl) ?_
  refine va_get (D := D) (ci := 1) (v := .int (nI w)) (C := RX1) (T := TX1) (N := 10) hx hb hts hin0 hown hK hP 0 rfl rfl 1 (by decide) (hts (.fieldLink RX1 7 "HeightLinesModel" "w" "I") (by decide +kernel)) (fun _ h9 => h9) rfl dX1_all_5 ?_
  refine lv_iconst (v := 1) hx hb dX1_all_8 (by decide) ?_
  refine lv_isub hx hb dX1_all_9 ?_
  rw [show ((nI w) - 1) = nI (w - 1) from nI_m1 (by omega)]
  refine lv_imul hx hb dX1_all_10 ?_
  refine lv_aload_n hx hb dX1_all_11 rfl (lv_at hl 0 rfl) ?_
  refine va_get (D := D) (ci := 1) (v := .int (nI h)) (C := RX1) (T := TX1) (N := 10) hx hb hts hin0 hown hK hP 0 rfl rfl 2 (by decide) (hts (.fieldLink RX1 13 "HeightLinesModel" "h" "I") (by decide +kernel)) (fun _ h9 => h9) rfl dX1_all_12 ?_
  refine lv_iconst (v := 1) hx hb dX1_all_15 (by decide) ?_
  refine lv_isub hx hb dX1_all_16 ?_
  rw [show ((nI h) - 1) = nI (h - 1) from nI_m1 (by omega)]
  refine lv_aload_n hx hb dX1_all_17 rfl (lv_at hl 0 rfl) ?_
  refine va_get (D := D) (ci := 1) (v := .int (nI w)) (C := RX1) (T := TX1) (N := 10) hx hb hts hin0 hown hK hP 0 rfl rfl 1 (by decide) (hts (.fieldLink RX1 7 "HeightLinesModel" "w" "I") (by decide +kernel)) (fun _ h9 => h9) rfl dX1_all_18 ?_
  refine lv_imul hx hb dX1_all_21 ?_
  refine lv_iadd hx hb dX1_all_22 ?_
  exact W.iret (v := (((nI h) * nI (w - 1)) + (nI (h - 1) * (nI w)))) hx hb hr (fun t ht hW => ⟨⟨_, (), rfl, by rw [pk_mul, pk_mul, nI_add]; rfl, trivial⟩, hS.F ht⟩) hS.2.2 dX1_all_23

set_option maxHeartbeats 4000000 in
set_option maxRecDepth 100000 in
theorem c_X1_isAcross (l : Launch) (D : va_G) (o : Nat → Nat) (cI cZ : ClassId) (th tw ch : Int32) (sm od st cl us : Nat → Int32) (w : Nat) (h : Nat) (e0 : Nat) (gw : 2 ≤ w) (gw2 : w ≤ 12) (gh2 : h ≤ 12) (ge : e0 < 264) : roMet l yX1_isAcross wsX1_isAcross ({ frames := 0, cells := 0, slots := 0, locals := 0 } : Room) D (W1 o cI cZ th (nI w) (nI h) tw ch sm od st cl us) [(cI, .int), (cZ, .boolean)] [.ref (o 0), .int (nI e0)] (fun r => r = bI (decide (e0 < nR w h))) := by
  refine Met.ofW (cc := cX1_isAcross) (maxL := 2) (ret := (some .boolean)) (by decide) rfl ?_
  intro p e s m args below meth c s₁ B hml hv
  obtain ⟨rfl, hP, hK⟩ := hv
  have hx := B.exec
  have hb := B.bytes
  have hr := B.returns
  have hts := atoms_spec (ws := wsX1_isAcross) B.pre
  have hown : s.vm.findClass RX1 = some m.cls := findClass_of_methodNamed B.named
  have hlocks := B.notSynchronized
  have hin0 : ∀ w ∈ u_ws RX1 TX1 10, w ∈ wsX1_isAcross := by decide +kernel
  have hS : va_S (fun _ => False) s.heap s.heap [] := va_S.rf
  have hP : va_P D vwCl (W1 o cI cZ th (nI w) (nI h) tw ch sm od st cl us) s.heap := hP
  have hl := lv_entry ([.ref (o 0), .int (nI e0)]) (n := 2) (Nat.le_of_ble_eq_true rfl)
  rw [lg_entry_eq]
  generalize (lg_sl ([.ref (o 0), .int (nI e0)]) ++ List.replicate (2 - (lg_sl ([.ref (o 0), .int (nI e0)])).length) Slot.unset).toArray = ls at hl ⊢
  have hl : lv_has ls 2 [(0, .ref (o 0)), (1, .int (nI e0))] := hl
  refine lv_iload_n hx hb dX1_isAcross_0 rfl (lv_at hl 1 rfl) ?_
  refine lv_aload_n hx hb dX1_isAcross_1 rfl (lv_at hl 0 rfl) ?_
  refine va_get (D := D) (ci := 1) (v := .int (nI h)) (C := RX1) (T := TX1) (N := 10) hx hb hts hin0 hown hK hP 0 rfl rfl 2 (by decide) (hts (.fieldLink RX1 13 "HeightLinesModel" "h" "I") (by decide +kernel)) (fun _ h9 => h9) rfl dX1_isAcross_2 ?_
  refine lv_aload_n hx hb dX1_isAcross_5 rfl (lv_at hl 0 rfl) ?_
  refine va_get (D := D) (ci := 1) (v := .int (nI w)) (C := RX1) (T := TX1) (N := 10) hx hb hts hin0 hown hK hP 0 rfl rfl 1 (by decide) (hts (.fieldLink RX1 7 "HeightLinesModel" "w" "I") (by decide +kernel)) (fun _ h9 => h9) rfl dX1_isAcross_6 ?_
  refine lv_iconst (v := 1) hx hb dX1_isAcross_9 (by decide) ?_
  refine lv_isub hx hb dX1_isAcross_10 ?_
  rw [show ((nI w) - 1) = nI (w - 1) from nI_m1 (by omega)]
  refine lv_imul hx hb dX1_isAcross_11 ?_
  rw [show ((nI h) * nI (w - 1)) = nI (nR w h) from pk_mul _ _]
  refine lv_icmp_ge (tgt := 19) hx hb dX1_isAcross_12 (by decide) (fun c12 => ?_) (fun c12 => ?_)
  · refine lv_iconst (v := 0) hx hb dX1_isAcross_19 (by decide) ?_
    exact W.zret (v := 0) (ty := .boolean) hx hb hr rfl (fun t ht hW => ⟨⟨_, (), rfl, bI_z (decide_eq_false (by rw [nI_leI (nR_lt31 gw2 gh2) (by omega)] at c12; omega)), trivial⟩, hS.F ht⟩) hS.2.2 dX1_isAcross_20
  · refine lv_iconst (v := 1) hx hb dX1_isAcross_15 (by decide) ?_
    refine lv_goto (tgt := 20) hx hb dX1_isAcross_16 (by decide) ?_
    exact W.zret (v := 1) (ty := .boolean) hx hb hr rfl (fun t ht hW => ⟨⟨_, (), rfl, bI_1 (decide_eq_true (by rw [nI_leI (nR_lt31 gw2 gh2) (by omega)] at c12; omega)), trivial⟩, hS.F ht⟩) hS.2.2 dX1_isAcross_20

set_option maxHeartbeats 4000000 in
set_option maxRecDepth 100000 in
theorem c_X1_xOf (l : Launch) (D : va_G) (o : Nat → Nat) (cI cZ : ClassId) (th tw ch : Int32) (sm od st cl us : Nat → Int32) (w : Nat) (h : Nat) (e0 : Nat) (gw : 2 ≤ w) (gw2 : w ≤ 12) (gh2 : h ≤ 12) (ge : e0 < 264) : roMet l yX1_xOf wsX1_xOf ({ frames := 1, cells := 0, slots := 0, locals := 21 } : Room) D (W1 o cI cZ th (nI w) (nI h) tw ch sm od st cl us) [(cI, .int), (cZ, .boolean)] [.ref (o 0), .int (nI e0)] (fun r => r = nI (xE w h e0)) := by
  refine Met.ofW (cc := cX1_xOf) (maxL := 2) (ret := (some .int)) (by decide) rfl ?_
  intro p e s m args below meth c s₁ B hml hv
  obtain ⟨rfl, hP, hK⟩ := hv
  have hx := B.exec
  have hb := B.bytes
  have hr := B.returns
  have hts := atoms_spec (ws := wsX1_xOf) B.pre
  have hown : s.vm.findClass RX1 = some m.cls := findClass_of_methodNamed B.named
  have hlocks := B.notSynchronized
  have hin0 : ∀ w ∈ u_ws RX1 TX1 10, w ∈ wsX1_xOf := by decide +kernel
  have hS : va_S (fun _ => False) s.heap s.heap [] := va_S.rf
  have hP : va_P D vwCl (W1 o cI cZ th (nI w) (nI h) tw ch sm od st cl us) s.heap := hP
  have hl := lv_entry ([.ref (o 0), .int (nI e0)]) (n := 2) (Nat.le_of_ble_eq_true rfl)
  rw [lg_entry_eq]
  generalize (lg_sl ([.ref (o 0), .int (nI e0)]) ++ List.replicate (2 - (lg_sl ([.ref (o 0), .int (nI e0)])).length) Slot.unset).toArray = ls at hl ⊢
  have hl : lv_has ls 2 [(0, .ref (o 0)), (1, .int (nI e0))] := hl
  refine lv_aload_n hx hb dX1_xOf_0 rfl (lv_at hl 0 rfl) ?_
  refine lv_iload_n hx hb dX1_xOf_1 rfl (lv_at hl 1 rfl) ?_
  refine ro_V1 ⟨hx, hb, hml, hown, hts⟩ (c_X1_isAcross l D o cI cZ th tw ch sm od st cl us w h e0 gw gw2 gh2 ge) (cwV 1 hts gX1_xOf_X1_isAcross rfl rfl rfl (by decide +kernel) ⟨Nat.le_of_ble_eq_true rfl, Nat.le_of_ble_eq_true rfl⟩) (va_recv hK hP (ci := 1) (q0 := 0) rfl rfl) hP hK hP hS rfl hl.1 (lv_room (Nat.le_of_ble_eq_true rfl)) dX1_xOf_2 ⟨Nat.le_of_ble_eq_true rfl, Nat.le_of_ble_eq_true rfl⟩ (fun r2 H locs hr2 hP hS => ?_)
  subst hr2
  refine lv_if_eq (tgt := 19) hx hb dX1_xOf_5 (by decide) (fun c5 => ?_) (fun c5 => ?_)
  · refine lv_iload_n hx hb dX1_xOf_19 rfl (lv_at hl 1 rfl) ?_
    refine lv_aload_n hx hb dX1_xOf_20 rfl (lv_at hl 0 rfl) ?_
    refine va_get (D := D) (ci := 1) (v := .int (nI h)) (C := RX1) (T := TX1) (N := 10) hx hb hts hin0 hown hK hP 0 rfl rfl 2 (by decide) (hts (.fieldLink RX1 13 "HeightLinesModel" "h" "I") (by decide +kernel)) (fun _ h9 => h9) rfl dX1_xOf_21 ?_
    refine lv_aload_n hx hb dX1_xOf_24 rfl (lv_at hl 0 rfl) ?_
    refine va_get (D := D) (ci := 1) (v := .int (nI w)) (C := RX1) (T := TX1) (N := 10) hx hb hts hin0 hown hK hP 0 rfl rfl 1 (by decide) (hts (.fieldLink RX1 7 "HeightLinesModel" "w" "I") (by decide +kernel)) (fun _ h9 => h9) rfl dX1_xOf_25 ?_
    refine lv_iconst (v := 1) hx hb dX1_xOf_28 (by decide) ?_
    refine lv_isub hx hb dX1_xOf_29 ?_
    rw [show ((nI w) - 1) = nI (w - 1) from nI_m1 (by omega)]
    refine lv_imul hx hb dX1_xOf_30 ?_
    rw [show ((nI h) * nI (w - 1)) = nI (nR w h) from pk_mul _ _]
    refine lv_isub hx hb dX1_xOf_31 ?_
    refine lv_aload_n hx hb dX1_xOf_32 rfl (lv_at hl 0 rfl) ?_
    refine va_get (D := D) (ci := 1) (v := .int (nI w)) (C := RX1) (T := TX1) (N := 10) hx hb hts hin0 hown hK hP 0 rfl rfl 1 (by decide) (hts (.fieldLink RX1 7 "HeightLinesModel" "w" "I") (by decide +kernel)) (fun _ h9 => h9) rfl dX1_xOf_33 ?_
    refine lv_irem hx hb dX1_xOf_36 (nI_ne0 (by omega) (by omega)) ?_
    exact W.iret (v := ((nI e0 - nI (nR w h)) - (nI e0 - nI (nR w h)) / (nI w) * (nI w))) hx hb hr (fun t ht hW => ⟨⟨_, (), rfl, xE_b gw gw2 gh2 ge (bd_f c5), trivial⟩, hS.F ht⟩) hS.2.2 dX1_xOf_37
  · refine lv_iload_n hx hb dX1_xOf_8 rfl (lv_at hl 1 rfl) ?_
    refine lv_aload_n hx hb dX1_xOf_9 rfl (lv_at hl 0 rfl) ?_
    refine va_get (D := D) (ci := 1) (v := .int (nI w)) (C := RX1) (T := TX1) (N := 10) hx hb hts hin0 hown hK hP 0 rfl rfl 1 (by decide) (hts (.fieldLink RX1 7 "HeightLinesModel" "w" "I") (by decide +kernel)) (fun _ h9 => h9) rfl dX1_xOf_10 ?_
    refine lv_iconst (v := 1) hx hb dX1_xOf_13 (by decide) ?_
    refine lv_isub hx hb dX1_xOf_14 ?_
    rw [show ((nI w) - 1) = nI (w - 1) from nI_m1 (by omega)]
    refine lv_irem hx hb dX1_xOf_15 (nI_ne0 (by omega) (by omega)) ?_
    refine lv_goto (tgt := 37) hx hb dX1_xOf_16 (by decide) ?_
    exact W.iret (v := (nI e0 - nI e0 / nI (w - 1) * nI (w - 1))) hx hb hr (fun t ht hW => ⟨⟨_, (), rfl, xE_a gw gw2 ge (bd_t c5), trivial⟩, hS.F ht⟩) hS.2.2 dX1_xOf_37

set_option maxHeartbeats 4000000 in
set_option maxRecDepth 100000 in
theorem c_X1_yOf (l : Launch) (D : va_G) (o : Nat → Nat) (cI cZ : ClassId) (th tw ch : Int32) (sm od st cl us : Nat → Int32) (w : Nat) (h : Nat) (e0 : Nat) (gw : 2 ≤ w) (gw2 : w ≤ 12) (gh2 : h ≤ 12) (ge : e0 < 264) : roMet l yX1_yOf wsX1_yOf ({ frames := 1, cells := 0, slots := 0, locals := 21 } : Room) D (W1 o cI cZ th (nI w) (nI h) tw ch sm od st cl us) [(cI, .int), (cZ, .boolean)] [.ref (o 0), .int (nI e0)] (fun r => r = nI (yE w h e0)) := by
  refine Met.ofW (cc := cX1_yOf) (maxL := 2) (ret := (some .int)) (by decide) rfl ?_
  intro p e s m args below meth c s₁ B hml hv
  obtain ⟨rfl, hP, hK⟩ := hv
  have hx := B.exec
  have hb := B.bytes
  have hr := B.returns
  have hts := atoms_spec (ws := wsX1_yOf) B.pre
  have hown : s.vm.findClass RX1 = some m.cls := findClass_of_methodNamed B.named
  have hlocks := B.notSynchronized
  have hin0 : ∀ w ∈ u_ws RX1 TX1 10, w ∈ wsX1_yOf := by decide +kernel
  have hS : va_S (fun _ => False) s.heap s.heap [] := va_S.rf
  have hP : va_P D vwCl (W1 o cI cZ th (nI w) (nI h) tw ch sm od st cl us) s.heap := hP
  have hl := lv_entry ([.ref (o 0), .int (nI e0)]) (n := 2) (Nat.le_of_ble_eq_true rfl)
  rw [lg_entry_eq]
  generalize (lg_sl ([.ref (o 0), .int (nI e0)]) ++ List.replicate (2 - (lg_sl ([.ref (o 0), .int (nI e0)])).length) Slot.unset).toArray = ls at hl ⊢
  have hl : lv_has ls 2 [(0, .ref (o 0)), (1, .int (nI e0))] := hl
  refine lv_aload_n hx hb dX1_yOf_0 rfl (lv_at hl 0 rfl) ?_
  refine lv_iload_n hx hb dX1_yOf_1 rfl (lv_at hl 1 rfl) ?_
  refine ro_V1 ⟨hx, hb, hml, hown, hts⟩ (c_X1_isAcross l D o cI cZ th tw ch sm od st cl us w h e0 gw gw2 gh2 ge) (cwV 1 hts gX1_yOf_X1_isAcross rfl rfl rfl (by decide +kernel) ⟨Nat.le_of_ble_eq_true rfl, Nat.le_of_ble_eq_true rfl⟩) (va_recv hK hP (ci := 1) (q0 := 0) rfl rfl) hP hK hP hS rfl hl.1 (lv_room (Nat.le_of_ble_eq_true rfl)) dX1_yOf_2 ⟨Nat.le_of_ble_eq_true rfl, Nat.le_of_ble_eq_true rfl⟩ (fun r2 H locs hr2 hP hS => ?_)
  subst hr2
  refine lv_if_eq (tgt := 19) hx hb dX1_yOf_5 (by decide) (fun c5 => ?_) (fun c5 => ?_)
  · refine lv_iload_n hx hb dX1_yOf_19 rfl (lv_at hl 1 rfl) ?_
    refine lv_aload_n hx hb dX1_yOf_20 rfl (lv_at hl 0 rfl) ?_
    refine va_get (D := D) (ci := 1) (v := .int (nI h)) (C := RX1) (T := TX1) (N := 10) hx hb hts hin0 hown hK hP 0 rfl rfl 2 (by decide) (hts (.fieldLink RX1 13 "HeightLinesModel" "h" "I") (by decide +kernel)) (fun _ h9 => h9) rfl dX1_yOf_21 ?_
    refine lv_aload_n hx hb dX1_yOf_24 rfl (lv_at hl 0 rfl) ?_
    refine va_get (D := D) (ci := 1) (v := .int (nI w)) (C := RX1) (T := TX1) (N := 10) hx hb hts hin0 hown hK hP 0 rfl rfl 1 (by decide) (hts (.fieldLink RX1 7 "HeightLinesModel" "w" "I") (by decide +kernel)) (fun _ h9 => h9) rfl dX1_yOf_25 ?_
    refine lv_iconst (v := 1) hx hb dX1_yOf_28 (by decide) ?_
    refine lv_isub hx hb dX1_yOf_29 ?_
    rw [show ((nI w) - 1) = nI (w - 1) from nI_m1 (by omega)]
    refine lv_imul hx hb dX1_yOf_30 ?_
    rw [show ((nI h) * nI (w - 1)) = nI (nR w h) from pk_mul _ _]
    refine lv_isub hx hb dX1_yOf_31 ?_
    refine lv_aload_n hx hb dX1_yOf_32 rfl (lv_at hl 0 rfl) ?_
    refine va_get (D := D) (ci := 1) (v := .int (nI w)) (C := RX1) (T := TX1) (N := 10) hx hb hts hin0 hown hK hP 0 rfl rfl 1 (by decide) (hts (.fieldLink RX1 7 "HeightLinesModel" "w" "I") (by decide +kernel)) (fun _ h9 => h9) rfl dX1_yOf_33 ?_
    refine lv_idiv hx hb dX1_yOf_36 (nI_ne0 (by omega) (by omega)) ?_
    exact W.iret (v := ((nI e0 - nI (nR w h)) / (nI w))) hx hb hr (fun t ht hW => ⟨⟨_, (), rfl, yE_b gw gw2 gh2 ge (bd_f c5), trivial⟩, hS.F ht⟩) hS.2.2 dX1_yOf_37
  · refine lv_iload_n hx hb dX1_yOf_8 rfl (lv_at hl 1 rfl) ?_
    refine lv_aload_n hx hb dX1_yOf_9 rfl (lv_at hl 0 rfl) ?_
    refine va_get (D := D) (ci := 1) (v := .int (nI w)) (C := RX1) (T := TX1) (N := 10) hx hb hts hin0 hown hK hP 0 rfl rfl 1 (by decide) (hts (.fieldLink RX1 7 "HeightLinesModel" "w" "I") (by decide +kernel)) (fun _ h9 => h9) rfl dX1_yOf_10 ?_
    refine lv_iconst (v := 1) hx hb dX1_yOf_13 (by decide) ?_
    refine lv_isub hx hb dX1_yOf_14 ?_
    rw [show ((nI w) - 1) = nI (w - 1) from nI_m1 (by omega)]
    refine lv_idiv hx hb dX1_yOf_15 (nI_ne0 (by omega) (by omega)) ?_
    refine lv_goto (tgt := 37) hx hb dX1_yOf_16 (by decide) ?_
    exact W.iret (v := (nI e0 / nI (w - 1))) hx hb hr (fun t ht hW => ⟨⟨_, (), rfl, yE_a gw gw2 ge (bd_t c5), trivial⟩, hS.F ht⟩) hS.2.2 dX1_yOf_37

set_option maxHeartbeats 4000000 in
set_option maxRecDepth 100000 in
theorem c_X1_at (l : Launch) (D : va_G) (o : Nat → Nat) (cI cZ : ClassId) (th tw ch : Int32) (sm od st cl us : Nat → Int32) (w : Nat) (h : Nat) (f : Nat → Nat → Int32) (x : Nat) (y : Nat) (gw2 : w ≤ 12) (gh2 : h ≤ 12) (gf : ∀ x y, x < w → y < h → sm (12 * y + x) = f x y) (gx : x < w) (gy : y < h) : roMet l yX1_at wsX1_at ({ frames := 0, cells := 0, slots := 0, locals := 0 } : Room) D (W1 o cI cZ th (nI w) (nI h) tw ch sm od st cl us) [(cI, .int), (cZ, .boolean)] [.ref (o 0), .int (nI x), .int (nI y)] (fun r => r = f x y) := by
  refine Met.ofW (cc := cX1_at) (maxL := 3) (ret := (some .int)) (by decide) rfl ?_
  intro p e s m args below meth c s₁ B hml hv
  obtain ⟨rfl, hP, hK⟩ := hv
  have hx := B.exec
  have hb := B.bytes
  have hr := B.returns
  have hts := atoms_spec (ws := wsX1_at) B.pre
  have hown : s.vm.findClass RX1 = some m.cls := findClass_of_methodNamed B.named
  have hlocks := B.notSynchronized
  have hin0 : ∀ w ∈ u_ws RX1 TX1 10, w ∈ wsX1_at := by decide +kernel
  have hS : va_S (fun _ => False) s.heap s.heap [] := va_S.rf
  have hP : va_P D vwCl (W1 o cI cZ th (nI w) (nI h) tw ch sm od st cl us) s.heap := hP
  have hl := lv_entry ([.ref (o 0), .int (nI x), .int (nI y)]) (n := 3) (Nat.le_of_ble_eq_true rfl)
  rw [lg_entry_eq]
  generalize (lg_sl ([.ref (o 0), .int (nI x), .int (nI y)]) ++ List.replicate (3 - (lg_sl ([.ref (o 0), .int (nI x), .int (nI y)])).length) Slot.unset).toArray = ls at hl ⊢
  have hl : lv_has ls 3 [(0, .ref (o 0)), (1, .int (nI x)), (2, .int (nI y))] := hl
  refine lv_aload_n hx hb dX1_at_0 rfl (lv_at hl 0 rfl) ?_
  refine va_get (D := D) (ci := 1) (v := .ref (o 1)) (C := RX1) (T := TX1) (N := 10) hx hb hts hin0 hown hK hP 0 rfl rfl 4 (by decide) (hts (.fieldLink RX1 19 "HeightLinesModel" "samples" "[I") (by decide +kernel)) (fun _ h9 => h9) rfl dX1_at_1 ?_
  refine lv_bipush (v := 12) hx hb dX1_at_4 (by decide) ?_
  refine lv_iload_n hx hb dX1_at_6 rfl (lv_at hl 2 rfl) ?_
  refine lv_imul hx hb dX1_at_7 ?_
  refine lv_iload_n hx hb dX1_at_8 rfl (lv_at hl 1 rfl) ?_
  refine lv_iadd hx hb dX1_at_9 ?_
  rw [show ((12 * nI y) + nI x) = nI (12 * y + x) from nI_12]
  refine an_iald (D := D) hx hb hK hP 1 0 rfl rfl (k := 12 * y + x) (by omega) (by decide) dX1_at_10 ?_
  exact W.iret (v := (sm (12 * y + x))) hx hb hr (fun t ht hW => ⟨⟨_, (), rfl, gf x y gx gy, trivial⟩, hS.F ht⟩) hS.2.2 dX1_at_11

set_option maxHeartbeats 4000000 in
set_option maxRecDepth 100000 in
theorem c_X1_first (l : Launch) (D : va_G) (o : Nat → Nat) (cI cZ : ClassId) (th tw ch : Int32) (sm od st cl us : Nat → Int32) (w : Nat) (h : Nat) (f : Nat → Nat → Int32) (e0 : Nat) (gw : 2 ≤ w) (gw2 : w ≤ 12) (gh : 2 ≤ h) (gh2 : h ≤ 12) (gf : ∀ x y, x < w → y < h → sm (12 * y + x) = f x y) (ge : e0 < nE w h) : roMet l yX1_first wsX1_first ({ frames := 2, cells := 0, slots := 0, locals := 42 } : Room) D (W1 o cI cZ th (nI w) (nI h) tw ch sm od st cl us) [(cI, .int), (cZ, .boolean)] [.ref (o 0), .int (nI e0)] (fun r => r = fst2 w h f e0) := by
  refine Met.ofW (cc := cX1_first) (maxL := 2) (ret := (some .int)) (by decide) rfl ?_
  intro p e s m args below meth c s₁ B hml hv
  obtain ⟨rfl, hP, hK⟩ := hv
  have hx := B.exec
  have hb := B.bytes
  have hr := B.returns
  have hts := atoms_spec (ws := wsX1_first) B.pre
  have hown : s.vm.findClass RX1 = some m.cls := findClass_of_methodNamed B.named
  have hlocks := B.notSynchronized
  have hin0 : ∀ w ∈ u_ws RX1 TX1 10, w ∈ wsX1_first := by decide +kernel
  have hS : va_S (fun _ => False) s.heap s.heap [] := va_S.rf
  have hP : va_P D vwCl (W1 o cI cZ th (nI w) (nI h) tw ch sm od st cl us) s.heap := hP
  have hl := lv_entry ([.ref (o 0), .int (nI e0)]) (n := 2) (Nat.le_of_ble_eq_true rfl)
  rw [lg_entry_eq]
  generalize (lg_sl ([.ref (o 0), .int (nI e0)]) ++ List.replicate (2 - (lg_sl ([.ref (o 0), .int (nI e0)])).length) Slot.unset).toArray = ls at hl ⊢
  have hl : lv_has ls 2 [(0, .ref (o 0)), (1, .int (nI e0))] := hl
  refine lv_aload_n hx hb dX1_first_0 rfl (lv_at hl 0 rfl) ?_
  refine lv_aload_n hx hb dX1_first_1 rfl (lv_at hl 0 rfl) ?_
  refine lv_iload_n hx hb dX1_first_2 rfl (lv_at hl 1 rfl) ?_
  refine ro_V1 ⟨hx, hb, hml, hown, hts⟩ (c_X1_xOf l D o cI cZ th tw ch sm od st cl us w h e0 gw gw2 gh2 (by have := nE_le gw2 gh2; omega)) (cwV 1 hts gX1_first_X1_xOf rfl rfl rfl (by decide +kernel) ⟨Nat.le_of_ble_eq_true rfl, Nat.le_of_ble_eq_true rfl⟩) (va_recv hK hP (ci := 1) (q0 := 0) rfl rfl) hP hK hP hS rfl hl.1 (lv_room (Nat.le_of_ble_eq_true rfl)) dX1_first_3 ⟨Nat.le_of_ble_eq_true rfl, Nat.le_of_ble_eq_true rfl⟩ (fun r3 H locs hr3 hP hS => ?_)
  subst hr3
  refine lv_aload_n hx hb dX1_first_6 rfl (lv_at hl 0 rfl) ?_
  refine lv_iload_n hx hb dX1_first_7 rfl (lv_at hl 1 rfl) ?_
  refine ro_V1 ⟨hx, hb, hml, hown, hts⟩ (c_X1_yOf l D o cI cZ th tw ch sm od st cl us w h e0 gw gw2 gh2 (by have := nE_le gw2 gh2; omega)) (cwV 1 hts gX1_first_X1_yOf rfl rfl rfl (by decide +kernel) ⟨Nat.le_of_ble_eq_true rfl, Nat.le_of_ble_eq_true rfl⟩) (va_recv hK hP (ci := 1) (q0 := 0) rfl rfl) hP hK hP hS rfl hl.1 (lv_room (Nat.le_of_ble_eq_true rfl)) dX1_first_8 ⟨Nat.le_of_ble_eq_true rfl, Nat.le_of_ble_eq_true rfl⟩ (fun r8 H locs hr8 hP hS => ?_)
  subst hr8
  refine ro_V2 ⟨hx, hb, hml, hown, hts⟩ (c_X1_at l D o cI cZ th tw ch sm od st cl us w h f (xE w h e0) (yE w h e0) gw2 gh2 gf ((xy_1 gw gh ge).1) ((xy_1 gw gh ge).2)) (cwV 2 hts gX1_first_X1_at rfl rfl rfl (by decide +kernel) ⟨Nat.le_of_ble_eq_true rfl, Nat.le_of_ble_eq_true rfl⟩) (va_recv hK hP (ci := 1) (q0 := 0) rfl rfl) hP hK hP hS rfl hl.1 (lv_room (Nat.le_of_ble_eq_true rfl)) dX1_first_11 ⟨Nat.le_of_ble_eq_true rfl, Nat.le_of_ble_eq_true rfl⟩ (fun r11 H locs hr11 hP hS => ?_)
  subst hr11
  exact W.iret (v := (f (xE w h e0) (yE w h e0))) hx hb hr (fun t ht hW => ⟨⟨_, (), rfl, rfl, trivial⟩, hS.F ht⟩) hS.2.2 dX1_first_14

set_option maxHeartbeats 4000000 in
set_option maxRecDepth 100000 in
theorem c_X1_second (l : Launch) (D : va_G) (o : Nat → Nat) (cI cZ : ClassId) (th tw ch : Int32) (sm od st cl us : Nat → Int32) (w : Nat) (h : Nat) (f : Nat → Nat → Int32) (e0 : Nat) (gw : 2 ≤ w) (gw2 : w ≤ 12) (gh : 2 ≤ h) (gh2 : h ≤ 12) (gf : ∀ x y, x < w → y < h → sm (12 * y + x) = f x y) (ge : e0 < nE w h) : roMet l yX1_second wsX1_second ({ frames := 2, cells := 0, slots := 0, locals := 42 } : Room) D (W1 o cI cZ th (nI w) (nI h) tw ch sm od st cl us) [(cI, .int), (cZ, .boolean)] [.ref (o 0), .int (nI e0)] (fun r => r = snd2 w h f e0) := by
  refine Met.ofW (cc := cX1_second) (maxL := 2) (ret := (some .int)) (by decide) rfl ?_
  intro p e s m args below meth c s₁ B hml hv
  obtain ⟨rfl, hP, hK⟩ := hv
  have hx := B.exec
  have hb := B.bytes
  have hr := B.returns
  have hts := atoms_spec (ws := wsX1_second) B.pre
  have hown : s.vm.findClass RX1 = some m.cls := findClass_of_methodNamed B.named
  have hlocks := B.notSynchronized
  have hin0 : ∀ w ∈ u_ws RX1 TX1 10, w ∈ wsX1_second := by decide +kernel
  have hS : va_S (fun _ => False) s.heap s.heap [] := va_S.rf
  have hP : va_P D vwCl (W1 o cI cZ th (nI w) (nI h) tw ch sm od st cl us) s.heap := hP
  have hl := lv_entry ([.ref (o 0), .int (nI e0)]) (n := 2) (Nat.le_of_ble_eq_true rfl)
  rw [lg_entry_eq]
  generalize (lg_sl ([.ref (o 0), .int (nI e0)]) ++ List.replicate (2 - (lg_sl ([.ref (o 0), .int (nI e0)])).length) Slot.unset).toArray = ls at hl ⊢
  have hl : lv_has ls 2 [(0, .ref (o 0)), (1, .int (nI e0))] := hl
  refine lv_aload_n hx hb dX1_second_0 rfl (lv_at hl 0 rfl) ?_
  refine lv_iload_n hx hb dX1_second_1 rfl (lv_at hl 1 rfl) ?_
  refine ro_V1 ⟨hx, hb, hml, hown, hts⟩ (c_X1_isAcross l D o cI cZ th tw ch sm od st cl us w h e0 gw gw2 gh2 (by have := nE_le gw2 gh2; omega)) (cwV 1 hts gX1_second_X1_isAcross rfl rfl rfl (by decide +kernel) ⟨Nat.le_of_ble_eq_true rfl, Nat.le_of_ble_eq_true rfl⟩) (va_recv hK hP (ci := 1) (q0 := 0) rfl rfl) hP hK hP hS rfl hl.1 (lv_room (Nat.le_of_ble_eq_true rfl)) dX1_second_2 ⟨Nat.le_of_ble_eq_true rfl, Nat.le_of_ble_eq_true rfl⟩ (fun r2 H locs hr2 hP hS => ?_)
  subst hr2
  refine lv_if_eq (tgt := 27) hx hb dX1_second_5 (by decide) (fun c5 => ?_) (fun c5 => ?_)
  · refine lv_aload_n hx hb dX1_second_27 rfl (lv_at hl 0 rfl) ?_
    refine lv_aload_n hx hb dX1_second_28 rfl (lv_at hl 0 rfl) ?_
    refine lv_iload_n hx hb dX1_second_29 rfl (lv_at hl 1 rfl) ?_
    refine ro_V1 ⟨hx, hb, hml, hown, hts⟩ (c_X1_xOf l D o cI cZ th tw ch sm od st cl us w h e0 gw gw2 gh2 (by have := nE_le gw2 gh2; omega)) (cwV 1 hts gX1_second_X1_xOf rfl rfl rfl (by decide +kernel) ⟨Nat.le_of_ble_eq_true rfl, Nat.le_of_ble_eq_true rfl⟩) (va_recv hK hP (ci := 1) (q0 := 0) rfl rfl) hP hK hP hS rfl hl.1 (lv_room (Nat.le_of_ble_eq_true rfl)) dX1_second_30 ⟨Nat.le_of_ble_eq_true rfl, Nat.le_of_ble_eq_true rfl⟩ (fun r30 H locs hr30 hP hS => ?_)
    subst hr30
    refine lv_aload_n hx hb dX1_second_33 rfl (lv_at hl 0 rfl) ?_
    refine lv_iload_n hx hb dX1_second_34 rfl (lv_at hl 1 rfl) ?_
    refine ro_V1 ⟨hx, hb, hml, hown, hts⟩ (c_X1_yOf l D o cI cZ th tw ch sm od st cl us w h e0 gw gw2 gh2 (by have := nE_le gw2 gh2; omega)) (cwV 1 hts gX1_second_X1_yOf rfl rfl rfl (by decide +kernel) ⟨Nat.le_of_ble_eq_true rfl, Nat.le_of_ble_eq_true rfl⟩) (va_recv hK hP (ci := 1) (q0 := 0) rfl rfl) hP hK hP hS rfl hl.1 (lv_room (Nat.le_of_ble_eq_true rfl)) dX1_second_35 ⟨Nat.le_of_ble_eq_true rfl, Nat.le_of_ble_eq_true rfl⟩ (fun r35 H locs hr35 hP hS => ?_)
    subst hr35
    refine lv_iconst (v := 1) hx hb dX1_second_38 (by decide) ?_
    refine lv_iadd hx hb dX1_second_39 ?_
    rw [show ((nI (yE w h e0)) + 1) = nI (yE w h e0 + 1) from nI_p1 _]
    refine ro_V2 ⟨hx, hb, hml, hown, hts⟩ (c_X1_at l D o cI cZ th tw ch sm od st cl us w h f (xE w h e0) (yE w h e0 + 1) gw2 gh2 gf ((xy_b gw gh ge (bd_f c5)).1) ((xy_b gw gh ge (bd_f c5)).2)) (cwV 2 hts gX1_second_X1_at rfl rfl rfl (by decide +kernel) ⟨Nat.le_of_ble_eq_true rfl, Nat.le_of_ble_eq_true rfl⟩) (va_recv hK hP (ci := 1) (q0 := 0) rfl rfl) hP hK hP hS rfl hl.1 (lv_room (Nat.le_of_ble_eq_true rfl)) dX1_second_40 ⟨Nat.le_of_ble_eq_true rfl, Nat.le_of_ble_eq_true rfl⟩ (fun r40 H locs hr40 hP hS => ?_)
    subst hr40
    exact W.iret (v := (f (xE w h e0) (yE w h e0 + 1))) hx hb hr (fun t ht hW => ⟨⟨_, (), rfl, by unfold snd2; rw [if_neg (bd_f c5)], trivial⟩, hS.F ht⟩) hS.2.2 dX1_second_43
  · refine lv_aload_n hx hb dX1_second_8 rfl (lv_at hl 0 rfl) ?_
    refine lv_aload_n hx hb dX1_second_9 rfl (lv_at hl 0 rfl) ?_
    refine lv_iload_n hx hb dX1_second_10 rfl (lv_at hl 1 rfl) ?_
    refine ro_V1 ⟨hx, hb, hml, hown, hts⟩ (c_X1_xOf l D o cI cZ th tw ch sm od st cl us w h e0 gw gw2 gh2 (by have := nE_le gw2 gh2; omega)) (cwV 1 hts gX1_second_X1_xOf rfl rfl rfl (by decide +kernel) ⟨Nat.le_of_ble_eq_true rfl, Nat.le_of_ble_eq_true rfl⟩) (va_recv hK hP (ci := 1) (q0 := 0) rfl rfl) hP hK hP hS rfl hl.1 (lv_room (Nat.le_of_ble_eq_true rfl)) dX1_second_11 ⟨Nat.le_of_ble_eq_true rfl, Nat.le_of_ble_eq_true rfl⟩ (fun r11 H locs hr11 hP hS => ?_)
    subst hr11
    refine lv_iconst (v := 1) hx hb dX1_second_14 (by decide) ?_
    refine lv_iadd hx hb dX1_second_15 ?_
    rw [show ((nI (xE w h e0)) + 1) = nI (xE w h e0 + 1) from nI_p1 _]
    refine lv_aload_n hx hb dX1_second_16 rfl (lv_at hl 0 rfl) ?_
    refine lv_iload_n hx hb dX1_second_17 rfl (lv_at hl 1 rfl) ?_
    refine ro_V1 ⟨hx, hb, hml, hown, hts⟩ (c_X1_yOf l D o cI cZ th tw ch sm od st cl us w h e0 gw gw2 gh2 (by have := nE_le gw2 gh2; omega)) (cwV 1 hts gX1_second_X1_yOf rfl rfl rfl (by decide +kernel) ⟨Nat.le_of_ble_eq_true rfl, Nat.le_of_ble_eq_true rfl⟩) (va_recv hK hP (ci := 1) (q0 := 0) rfl rfl) hP hK hP hS rfl hl.1 (lv_room (Nat.le_of_ble_eq_true rfl)) dX1_second_18 ⟨Nat.le_of_ble_eq_true rfl, Nat.le_of_ble_eq_true rfl⟩ (fun r18 H locs hr18 hP hS => ?_)
    subst hr18
    refine ro_V2 ⟨hx, hb, hml, hown, hts⟩ (c_X1_at l D o cI cZ th tw ch sm od st cl us w h f (xE w h e0 + 1) (yE w h e0) gw2 gh2 gf ((xy_a gw (bd_t c5)).1) ((xy_a gw (bd_t c5)).2)) (cwV 2 hts gX1_second_X1_at rfl rfl rfl (by decide +kernel) ⟨Nat.le_of_ble_eq_true rfl, Nat.le_of_ble_eq_true rfl⟩) (va_recv hK hP (ci := 1) (q0 := 0) rfl rfl) hP hK hP hS rfl hl.1 (lv_room (Nat.le_of_ble_eq_true rfl)) dX1_second_21 ⟨Nat.le_of_ble_eq_true rfl, Nat.le_of_ble_eq_true rfl⟩ (fun r21 H locs hr21 hP hS => ?_)
    subst hr21
    refine lv_goto (tgt := 43) hx hb dX1_second_24 (by decide) ?_
    exact W.iret (v := (f (xE w h e0 + 1) (yE w h e0))) hx hb hr (fun t ht hW => ⟨⟨_, (), rfl, by unfold snd2; rw [if_pos (bd_t c5)], trivial⟩, hS.F ht⟩) hS.2.2 dX1_second_43

set_option maxHeartbeats 4000000 in
set_option maxRecDepth 100000 in
theorem c_X1_isAbove (l : Launch) (D : va_G) (o : Nat → Nat) (cI cZ : ClassId) (th co ro tw ch : Int32) (sm od st cl us : Nat → Int32) (v : Int32) : roMet l yX1_isAbove wsX1_isAbove ({ frames := 0, cells := 0, slots := 0, locals := 0 } : Room) D (W1 o cI cZ th co ro tw ch sm od st cl us) [(cI, .int), (cZ, .boolean)] [.ref (o 0), .int v] (fun r => r = bI (abI tw v)) := by
  refine Met.ofW (cc := cX1_isAbove) (maxL := 2) (ret := (some .boolean)) (by decide) rfl ?_
  intro p e s m args below meth c s₁ B hml hv
  obtain ⟨rfl, hP, hK⟩ := hv
  have hx := B.exec
  have hb := B.bytes
  have hr := B.returns
  have hts := atoms_spec (ws := wsX1_isAbove) B.pre
  have hown : s.vm.findClass RX1 = some m.cls := findClass_of_methodNamed B.named
  have hlocks := B.notSynchronized
  have hin0 : ∀ w ∈ u_ws RX1 TX1 10, w ∈ wsX1_isAbove := by decide +kernel
  have hS : va_S (fun _ => False) s.heap s.heap [] := va_S.rf
  have hP : va_P D vwCl (W1 o cI cZ th co ro tw ch sm od st cl us) s.heap := hP
  have hl := lv_entry ([.ref (o 0), .int v]) (n := 2) (Nat.le_of_ble_eq_true rfl)
  rw [lg_entry_eq]
  generalize (lg_sl ([.ref (o 0), .int v]) ++ List.replicate (2 - (lg_sl ([.ref (o 0), .int v])).length) Slot.unset).toArray = ls at hl ⊢
  have hl : lv_has ls 2 [(0, .ref (o 0)), (1, .int v)] := hl
  refine lv_iconst (v := 2) hx hb dX1_isAbove_0 (by decide) ?_
  refine lv_iload_n hx hb dX1_isAbove_1 rfl (lv_at hl 1 rfl) ?_
  refine lv_imul hx hb dX1_isAbove_2 ?_
  refine lv_aload_n hx hb dX1_isAbove_3 rfl (lv_at hl 0 rfl) ?_
  refine va_get (D := D) (ci := 1) (v := .int tw) (C := RX1) (T := TX1) (N := 10) hx hb hts hin0 hown hK hP 0 rfl rfl 3 (by decide) (hts (.fieldLink RX1 16 "HeightLinesModel" "twice" "I") (by decide +kernel)) (fun _ h9 => h9) rfl dX1_isAbove_4 ?_
  refine lv_icmp_le (tgt := 14) hx hb dX1_isAbove_7 (by decide) (fun c7 => ?_) (fun c7 => ?_)
  · refine lv_iconst (v := 0) hx hb dX1_isAbove_14 (by decide) ?_
    exact W.zret (v := 0) (ty := .boolean) hx hb hr rfl (fun t ht hW => ⟨⟨_, (), rfl, by first | (simp_all [bI, abI]; done) | (simp_all [bI, abI, Int32.lt_iff_toInt_lt, Int32.le_iff_toInt_le]; try omega), trivial⟩, hS.F ht⟩) hS.2.2 dX1_isAbove_15
  · refine lv_iconst (v := 1) hx hb dX1_isAbove_10 (by decide) ?_
    refine lv_goto (tgt := 15) hx hb dX1_isAbove_11 (by decide) ?_
    exact W.zret (v := 1) (ty := .boolean) hx hb hr rfl (fun t ht hW => ⟨⟨_, (), rfl, by first | (simp_all [bI, abI]; done) | (simp_all [bI, abI, Int32.lt_iff_toInt_lt, Int32.le_iff_toInt_le]; try omega), trivial⟩, hS.F ht⟩) hS.2.2 dX1_isAbove_15

set_option maxHeartbeats 4000000 in
set_option maxRecDepth 100000 in
theorem c_X1_isCrossed (l : Launch) (D : va_G) (o : Nat → Nat) (cI cZ : ClassId) (th tw ch : Int32) (sm od st cl us : Nat → Int32) (w : Nat) (h : Nat) (f : Nat → Nat → Int32) (e0 : Nat) (gw : 2 ≤ w) (gw2 : w ≤ 12) (gh : 2 ≤ h) (gh2 : h ≤ 12) (gf : ∀ x y, x < w → y < h → sm (12 * y + x) = f x y) (ge : e0 < nE w h) : roMet l yX1_isCrossed wsX1_isCrossed ({ frames := 3, cells := 0, slots := 0, locals := 63 } : Room) D (W1 o cI cZ th (nI w) (nI h) tw ch sm od st cl us) [(cI, .int), (cZ, .boolean)] [.ref (o 0), .int (nI e0)] (fun r => r = bI (crB w h f tw e0)) := by
  refine Met.ofW (cc := cX1_isCrossed) (maxL := 2) (ret := (some .boolean)) (by decide) rfl ?_
  intro p e s m args below meth c s₁ B hml hv
  obtain ⟨rfl, hP, hK⟩ := hv
  have hx := B.exec
  have hb := B.bytes
  have hr := B.returns
  have hts := atoms_spec (ws := wsX1_isCrossed) B.pre
  have hown : s.vm.findClass RX1 = some m.cls := findClass_of_methodNamed B.named
  have hlocks := B.notSynchronized
  have hin0 : ∀ w ∈ u_ws RX1 TX1 10, w ∈ wsX1_isCrossed := by decide +kernel
  have hS : va_S (fun _ => False) s.heap s.heap [] := va_S.rf
  have hP : va_P D vwCl (W1 o cI cZ th (nI w) (nI h) tw ch sm od st cl us) s.heap := hP
  have hl := lv_entry ([.ref (o 0), .int (nI e0)]) (n := 2) (Nat.le_of_ble_eq_true rfl)
  rw [lg_entry_eq]
  generalize (lg_sl ([.ref (o 0), .int (nI e0)]) ++ List.replicate (2 - (lg_sl ([.ref (o 0), .int (nI e0)])).length) Slot.unset).toArray = ls at hl ⊢
  have hl : lv_has ls 2 [(0, .ref (o 0)), (1, .int (nI e0))] := hl
  refine lv_aload_n hx hb dX1_isCrossed_0 rfl (lv_at hl 0 rfl) ?_
  refine lv_aload_n hx hb dX1_isCrossed_1 rfl (lv_at hl 0 rfl) ?_
  refine lv_iload_n hx hb dX1_isCrossed_2 rfl (lv_at hl 1 rfl) ?_
  refine ro_V1 ⟨hx, hb, hml, hown, hts⟩ (c_X1_first l D o cI cZ th tw ch sm od st cl us w h f e0 gw gw2 gh gh2 gf ge) (cwV 1 hts gX1_isCrossed_X1_first rfl rfl rfl (by decide +kernel) ⟨Nat.le_of_ble_eq_true rfl, Nat.le_of_ble_eq_true rfl⟩) (va_recv hK hP (ci := 1) (q0 := 0) rfl rfl) hP hK hP hS rfl hl.1 (lv_room (Nat.le_of_ble_eq_true rfl)) dX1_isCrossed_3 ⟨Nat.le_of_ble_eq_true rfl, Nat.le_of_ble_eq_true rfl⟩ (fun r3 H locs hr3 hP hS => ?_)
  subst hr3
  refine ro_V1 ⟨hx, hb, hml, hown, hts⟩ (c_X1_isAbove l D o cI cZ th (nI w) (nI h) tw ch sm od st cl us (fst2 w h f e0)) (cwV 1 hts gX1_isCrossed_X1_isAbove rfl rfl rfl (by decide +kernel) ⟨Nat.le_of_ble_eq_true rfl, Nat.le_of_ble_eq_true rfl⟩) (va_recv hK hP (ci := 1) (q0 := 0) rfl rfl) hP hK hP hS rfl hl.1 (lv_room (Nat.le_of_ble_eq_true rfl)) dX1_isCrossed_6 ⟨Nat.le_of_ble_eq_true rfl, Nat.le_of_ble_eq_true rfl⟩ (fun r6 H locs hr6 hP hS => ?_)
  subst hr6
  refine lv_aload_n hx hb dX1_isCrossed_9 rfl (lv_at hl 0 rfl) ?_
  refine lv_aload_n hx hb dX1_isCrossed_10 rfl (lv_at hl 0 rfl) ?_
  refine lv_iload_n hx hb dX1_isCrossed_11 rfl (lv_at hl 1 rfl) ?_
  refine ro_V1 ⟨hx, hb, hml, hown, hts⟩ (c_X1_second l D o cI cZ th tw ch sm od st cl us w h f e0 gw gw2 gh gh2 gf ge) (cwV 1 hts gX1_isCrossed_X1_second rfl rfl rfl (by decide +kernel) ⟨Nat.le_of_ble_eq_true rfl, Nat.le_of_ble_eq_true rfl⟩) (va_recv hK hP (ci := 1) (q0 := 0) rfl rfl) hP hK hP hS rfl hl.1 (lv_room (Nat.le_of_ble_eq_true rfl)) dX1_isCrossed_12 ⟨Nat.le_of_ble_eq_true rfl, Nat.le_of_ble_eq_true rfl⟩ (fun r12 H locs hr12 hP hS => ?_)
  subst hr12
  refine ro_V1 ⟨hx, hb, hml, hown, hts⟩ (c_X1_isAbove l D o cI cZ th (nI w) (nI h) tw ch sm od st cl us (snd2 w h f e0)) (cwV 1 hts gX1_isCrossed_X1_isAbove rfl rfl rfl (by decide +kernel) ⟨Nat.le_of_ble_eq_true rfl, Nat.le_of_ble_eq_true rfl⟩) (va_recv hK hP (ci := 1) (q0 := 0) rfl rfl) hP hK hP hS rfl hl.1 (lv_room (Nat.le_of_ble_eq_true rfl)) dX1_isCrossed_15 ⟨Nat.le_of_ble_eq_true rfl, Nat.le_of_ble_eq_true rfl⟩ (fun r15 H locs hr15 hP hS => ?_)
  subst hr15
  refine lv_icmp_eq (tgt := 25) hx hb dX1_isCrossed_18 (by decide) (fun c18 => ?_) (fun c18 => ?_)
  · refine lv_iconst (v := 0) hx hb dX1_isCrossed_25 (by decide) ?_
    exact W.zret (v := 0) (ty := .boolean) hx hb hr rfl (fun t ht hW => ⟨⟨_, (), rfl, bI_z (by unfold crB; rw [bI_inj.mp c18]; simp), trivial⟩, hS.F ht⟩) hS.2.2 dX1_isCrossed_26
  · refine lv_iconst (v := 1) hx hb dX1_isCrossed_21 (by decide) ?_
    refine lv_goto (tgt := 26) hx hb dX1_isCrossed_22 (by decide) ?_
    exact W.zret (v := 1) (ty := .boolean) hx hb hr rfl (fun t ht hW => ⟨⟨_, (), rfl, bI_1 (bne_iff_ne.mpr (fun z => c18 (by rw [z]))), trivial⟩, hS.F ht⟩) hS.2.2 dX1_isCrossed_26

set_option maxHeartbeats 4000000 in
set_option maxRecDepth 100000 in
theorem c_X1_corner (l : Launch) (D : va_G) (o : Nat → Nat) (cI cZ : ClassId) (th tw ch : Int32) (sm od st cl us : Nat → Int32) (w : Nat) (h : Nat) (f : Nat → Nat → Int32) (x : Nat) (y : Nat) (k : Nat) (gw2 : w ≤ 12) (gh2 : h ≤ 12) (gf : ∀ x y, x < w → y < h → sm (12 * y + x) = f x y) (gx : x + 1 < w) (gy : y + 1 < h) (gk : k < 100) : roMet l yX1_corner wsX1_corner ({ frames := 1, cells := 0, slots := 0, locals := 22 } : Room) D (W1 o cI cZ th (nI w) (nI h) tw ch sm od st cl us) [(cI, .int), (cZ, .boolean)] [.ref (o 0), .int (nI x), .int (nI y), .int (nI k)] (fun r => r = f (cX x k) (cY y k)) := by
  refine Met.ofW (cc := cX1_corner) (maxL := 4) (ret := (some .int)) (by decide) rfl ?_
  intro p e s m args below meth c s₁ B hml hv
  obtain ⟨rfl, hP, hK⟩ := hv
  have hx := B.exec
  have hb := B.bytes
  have hr := B.returns
  have hts := atoms_spec (ws := wsX1_corner) B.pre
  have hown : s.vm.findClass RX1 = some m.cls := findClass_of_methodNamed B.named
  have hlocks := B.notSynchronized
  have hin0 : ∀ w ∈ u_ws RX1 TX1 10, w ∈ wsX1_corner := by decide +kernel
  have hS : va_S (fun _ => False) s.heap s.heap [] := va_S.rf
  have hP : va_P D vwCl (W1 o cI cZ th (nI w) (nI h) tw ch sm od st cl us) s.heap := hP
  have hl := lv_entry ([.ref (o 0), .int (nI x), .int (nI y), .int (nI k)]) (n := 4) (Nat.le_of_ble_eq_true rfl)
  rw [lg_entry_eq]
  generalize (lg_sl ([.ref (o 0), .int (nI x), .int (nI y), .int (nI k)]) ++ List.replicate (4 - (lg_sl ([.ref (o 0), .int (nI x), .int (nI y), .int (nI k)])).length) Slot.unset).toArray = ls at hl ⊢
  have hl : lv_has ls 4 [(0, .ref (o 0)), (1, .int (nI x)), (2, .int (nI y)), (3, .int (nI k))] := hl
  refine lv_iload_n hx hb dX1_corner_0 rfl (lv_at hl 3 rfl) ?_
  refine lv_iconst (v := 3) hx hb dX1_corner_1 (by decide) ?_
  refine lv_iand hx hb dX1_corner_2 ?_
  rw [show (nI k &&& 3) = nI (k % 4) from nI_and3 (by omega)]
  obtain ⟨j, ej⟩ : ∃ j, j = k % 4 := ⟨_, rfl⟩
  rw [← ej]
  rcases (show j = 0 ∨ j = 1 ∨ j = 2 ∨ j = 3 by omega) with rfl | rfl | rfl | rfl
  · refine lv_tableIn (tgt := 28) hx hb dX1_corner_3 (by decide) (by decide) rfl (by decide) ?_
    refine lv_aload_n hx hb dX1_corner_28 rfl (lv_at hl 0 rfl) ?_
    refine lv_iload_n hx hb dX1_corner_29 rfl (lv_at hl 1 rfl) ?_
    refine lv_iload_n hx hb dX1_corner_30 rfl (lv_at hl 2 rfl) ?_
    refine ro_V2 ⟨hx, hb, hml, hown, hts⟩ (c_X1_at l D o cI cZ th tw ch sm od st cl us w h f x y gw2 gh2 gf (by omega) (by omega)) (cwV 2 hts gX1_corner_X1_at rfl rfl rfl (by decide +kernel) ⟨Nat.le_of_ble_eq_true rfl, Nat.le_of_ble_eq_true rfl⟩) (va_recv hK hP (ci := 1) (q0 := 0) rfl rfl) hP hK hP hS rfl hl.1 (lv_room (Nat.le_of_ble_eq_true rfl)) dX1_corner_31 ⟨Nat.le_of_ble_eq_true rfl, Nat.le_of_ble_eq_true rfl⟩ (fun r31 H locs hr31 hP hS => ?_)
    subst hr31
    exact W.iret (v := (f x y)) hx hb hr (fun t ht hW => ⟨⟨_, (), rfl, by rw [cX_0 ej, cY_0 ej], trivial⟩, hS.F ht⟩) hS.2.2 dX1_corner_34
  · refine lv_tableIn (tgt := 35) hx hb dX1_corner_3 (by decide) (by decide) rfl (by decide) ?_
    refine lv_aload_n hx hb dX1_corner_35 rfl (lv_at hl 0 rfl) ?_
    refine lv_iload_n hx hb dX1_corner_36 rfl (lv_at hl 1 rfl) ?_
    refine lv_iconst (v := 1) hx hb dX1_corner_37 (by decide) ?_
    refine lv_iadd hx hb dX1_corner_38 ?_
    rw [show (nI x + 1) = nI (x + 1) from nI_p1 x]
    refine lv_iload_n hx hb dX1_corner_39 rfl (lv_at hl 2 rfl) ?_
    refine ro_V2 ⟨hx, hb, hml, hown, hts⟩ (c_X1_at l D o cI cZ th tw ch sm od st cl us w h f (x + 1) y gw2 gh2 gf (by omega) (by omega)) (cwV 2 hts gX1_corner_X1_at rfl rfl rfl (by decide +kernel) ⟨Nat.le_of_ble_eq_true rfl, Nat.le_of_ble_eq_true rfl⟩) (va_recv hK hP (ci := 1) (q0 := 0) rfl rfl) hP hK hP hS rfl hl.1 (lv_room (Nat.le_of_ble_eq_true rfl)) dX1_corner_40 ⟨Nat.le_of_ble_eq_true rfl, Nat.le_of_ble_eq_true rfl⟩ (fun r40 H locs hr40 hP hS => ?_)
    subst hr40
    exact W.iret (v := (f (x + 1) y)) hx hb hr (fun t ht hW => ⟨⟨_, (), rfl, by rw [cX_1 ej, cY_1 ej], trivial⟩, hS.F ht⟩) hS.2.2 dX1_corner_43
  · refine lv_tableIn (tgt := 44) hx hb dX1_corner_3 (by decide) (by decide) rfl (by decide) ?_
    refine lv_aload_n hx hb dX1_corner_44 rfl (lv_at hl 0 rfl) ?_
    refine lv_iload_n hx hb dX1_corner_45 rfl (lv_at hl 1 rfl) ?_
    refine lv_iconst (v := 1) hx hb dX1_corner_46 (by decide) ?_
    refine lv_iadd hx hb dX1_corner_47 ?_
    rw [show (nI x + 1) = nI (x + 1) from nI_p1 x]
    refine lv_iload_n hx hb dX1_corner_48 rfl (lv_at hl 2 rfl) ?_
    refine lv_iconst (v := 1) hx hb dX1_corner_49 (by decide) ?_
    refine lv_iadd hx hb dX1_corner_50 ?_
    rw [show (nI y + 1) = nI (y + 1) from nI_p1 y]
    refine ro_V2 ⟨hx, hb, hml, hown, hts⟩ (c_X1_at l D o cI cZ th tw ch sm od st cl us w h f (x + 1) (y + 1) gw2 gh2 gf (by omega) (by omega)) (cwV 2 hts gX1_corner_X1_at rfl rfl rfl (by decide +kernel) ⟨Nat.le_of_ble_eq_true rfl, Nat.le_of_ble_eq_true rfl⟩) (va_recv hK hP (ci := 1) (q0 := 0) rfl rfl) hP hK hP hS rfl hl.1 (lv_room (Nat.le_of_ble_eq_true rfl)) dX1_corner_51 ⟨Nat.le_of_ble_eq_true rfl, Nat.le_of_ble_eq_true rfl⟩ (fun r51 H locs hr51 hP hS => ?_)
    subst hr51
    exact W.iret (v := (f (x + 1) (y + 1))) hx hb hr (fun t ht hW => ⟨⟨_, (), rfl, by rw [cX_2 ej, cY_2 ej], trivial⟩, hS.F ht⟩) hS.2.2 dX1_corner_54
  · refine lv_tableOut (tgt := 55) hx hb dX1_corner_3 (by decide) (by decide) ?_
    refine lv_aload_n hx hb dX1_corner_55 rfl (lv_at hl 0 rfl) ?_
    refine lv_iload_n hx hb dX1_corner_56 rfl (lv_at hl 1 rfl) ?_
    refine lv_iload_n hx hb dX1_corner_57 rfl (lv_at hl 2 rfl) ?_
    refine lv_iconst (v := 1) hx hb dX1_corner_58 (by decide) ?_
    refine lv_iadd hx hb dX1_corner_59 ?_
    rw [show (nI y + 1) = nI (y + 1) from nI_p1 y]
    refine ro_V2 ⟨hx, hb, hml, hown, hts⟩ (c_X1_at l D o cI cZ th tw ch sm od st cl us w h f x (y + 1) gw2 gh2 gf (by omega) (by omega)) (cwV 2 hts gX1_corner_X1_at rfl rfl rfl (by decide +kernel) ⟨Nat.le_of_ble_eq_true rfl, Nat.le_of_ble_eq_true rfl⟩) (va_recv hK hP (ci := 1) (q0 := 0) rfl rfl) hP hK hP hS rfl hl.1 (lv_room (Nat.le_of_ble_eq_true rfl)) dX1_corner_60 ⟨Nat.le_of_ble_eq_true rfl, Nat.le_of_ble_eq_true rfl⟩ (fun r60 H locs hr60 hP hS => ?_)
    subst hr60
    exact W.iret (v := (f x (y + 1))) hx hb hr (fun t ht hW => ⟨⟨_, (), rfl, by rw [cX_3 ej, cY_3 ej], trivial⟩, hS.F ht⟩) hS.2.2 dX1_corner_63

set_option maxHeartbeats 4000000 in
set_option maxRecDepth 100000 in
theorem c_X1_edgeOf (l : Launch) (D : va_G) (o : Nat → Nat) (cI cZ : ClassId) (th tw ch : Int32) (sm od st cl us : Nat → Int32) (w : Nat) (h : Nat) (x : Nat) (y : Nat) (k : Nat) (gw : 1 ≤ w) (gk : k < 100) : roMet l yX1_edgeOf wsX1_edgeOf ({ frames := 0, cells := 0, slots := 0, locals := 0 } : Room) D (W1 o cI cZ th (nI w) (nI h) tw ch sm od st cl us) [(cI, .int), (cZ, .boolean)] [.ref (o 0), .int (nI x), .int (nI y), .int (nI k)] (fun r => r = nI (eO w h x y k)) := by
  refine Met.ofW (cc := cX1_edgeOf) (maxL := 5) (ret := (some .int)) (by decide) rfl ?_
  intro p e s m args below meth c s₁ B hml hv
  obtain ⟨rfl, hP, hK⟩ := hv
  have hx := B.exec
  have hb := B.bytes
  have hr := B.returns
  have hts := atoms_spec (ws := wsX1_edgeOf) B.pre
  have hown : s.vm.findClass RX1 = some m.cls := findClass_of_methodNamed B.named
  have hlocks := B.notSynchronized
  have hin0 : ∀ w ∈ u_ws RX1 TX1 10, w ∈ wsX1_edgeOf := by decide +kernel
  have hS : va_S (fun _ => False) s.heap s.heap [] := va_S.rf
  have hP : va_P D vwCl (W1 o cI cZ th (nI w) (nI h) tw ch sm od st cl us) s.heap := hP
  have hl := lv_entry ([.ref (o 0), .int (nI x), .int (nI y), .int (nI k)]) (n := 5) (Nat.le_of_ble_eq_true rfl)
  rw [lg_entry_eq]
  generalize (lg_sl ([.ref (o 0), .int (nI x), .int (nI y), .int (nI k)]) ++ List.replicate (5 - (lg_sl ([.ref (o 0), .int (nI x), .int (nI y), .int (nI k)])).length) Slot.unset).toArray = ls at hl ⊢
  have hl : lv_has ls 5 [(0, .ref (o 0)), (1, .int (nI x)), (2, .int (nI y)), (3, .int (nI k))] := hl
  refine lv_aload_n hx hb dX1_edgeOf_0 rfl (lv_at hl 0 rfl) ?_
  refine va_get (D := D) (ci := 1) (v := .int (nI h)) (C := RX1) (T := TX1) (N := 10) hx hb hts hin0 hown hK hP 0 rfl rfl 2 (by decide) (hts (.fieldLink RX1 13 "HeightLinesModel" "h" "I") (by decide +kernel)) (fun _ h9 => h9) rfl dX1_edgeOf_1 ?_
  refine lv_aload_n hx hb dX1_edgeOf_4 rfl (lv_at hl 0 rfl) ?_
  refine va_get (D := D) (ci := 1) (v := .int (nI w)) (C := RX1) (T := TX1) (N := 10) hx hb hts hin0 hown hK hP 0 rfl rfl 1 (by decide) (hts (.fieldLink RX1 7 "HeightLinesModel" "w" "I") (by decide +kernel)) (fun _ h9 => h9) rfl dX1_edgeOf_5 ?_
  refine lv_iconst (v := 1) hx hb dX1_edgeOf_8 (by decide) ?_
  refine lv_isub hx hb dX1_edgeOf_9 ?_
  rw [show ((nI w) - 1) = nI (w - 1) from nI_m1 (by omega)]
  refine lv_imul hx hb dX1_edgeOf_10 ?_
  rw [show ((nI h) * nI (w - 1)) = nI (nR w h) from pk_mul _ _]
  refine lv_istore (lv' := [(4, .int (nI (nR w h))), (0, .ref (o 0)), (1, .int (nI x)), (2, .int (nI y)), (3, .int (nI k))]) hx hb dX1_edgeOf_11 hl (by decide) rfl (fun ls hl => ?_)
  refine lv_iload_n hx hb dX1_edgeOf_13 rfl (lv_at hl 4 rfl) ?_
  refine lv_iconst (v := 3) hx hb dX1_edgeOf_14 (by decide) ?_
  refine lv_iand hx hb dX1_edgeOf_15 ?_
  rw [show (nI k &&& 3) = nI (k % 4) from nI_and3 (by omega)]
  obtain ⟨j, ej⟩ : ∃ j, j = k % 4 := ⟨_, rfl⟩
  rw [← ej]
  rcases (show j = 0 ∨ j = 1 ∨ j = 2 ∨ j = 3 by omega) with rfl | rfl | rfl | rfl
  · refine lv_tableIn (tgt := 44) hx hb dX1_edgeOf_16 (by decide) (by decide) rfl (by decide) ?_
    refine lv_iload_n hx hb dX1_edgeOf_44 rfl (lv_at hl 3 rfl) ?_
    refine lv_aload_n hx hb dX1_edgeOf_45 rfl (lv_at hl 1 rfl) ?_
    refine va_get (D := D) (ci := 1) (v := .int (nI w)) (C := RX1) (T := TX1) (N := 10) hx hb hts hin0 hown hK hP 0 rfl rfl 1 (by decide) (hts (.fieldLink RX1 7 "HeightLinesModel" "w" "I") (by decide +kernel)) (fun _ h9 => h9) rfl dX1_edgeOf_46 ?_
    refine lv_iconst (v := 1) hx hb dX1_edgeOf_49 (by decide) ?_
    refine lv_isub hx hb dX1_edgeOf_50 ?_
    rw [show ((nI w) - 1) = nI (w - 1) from nI_m1 (by omega)]
    refine lv_imul hx hb dX1_edgeOf_51 ?_
    refine lv_iload_n hx hb dX1_edgeOf_52 rfl (lv_at hl 2 rfl) ?_
    refine lv_iadd hx hb dX1_edgeOf_53 ?_
    exact W.iret (v := ((nI y * nI (w - 1)) + nI x)) hx hb hr (fun t ht hW => ⟨⟨_, (), rfl, by rw [pk_mul, nI_add, eO_0 ej], trivial⟩, hS.F ht⟩) hS.2.2 dX1_edgeOf_54
  · refine lv_tableIn (tgt := 55) hx hb dX1_edgeOf_16 (by decide) (by decide) rfl (by decide) ?_
    refine lv_iload hx hb dX1_edgeOf_55 (lv_at hl 0 rfl) ?_
    refine lv_iload_n hx hb dX1_edgeOf_57 rfl (lv_at hl 3 rfl) ?_
    refine lv_aload_n hx hb dX1_edgeOf_58 rfl (lv_at hl 1 rfl) ?_
    refine va_get (D := D) (ci := 1) (v := .int (nI w)) (C := RX1) (T := TX1) (N := 10) hx hb hts hin0 hown hK hP 0 rfl rfl 1 (by decide) (hts (.fieldLink RX1 7 "HeightLinesModel" "w" "I") (by decide +kernel)) (fun _ h9 => h9) rfl dX1_edgeOf_59 ?_
    refine lv_imul hx hb dX1_edgeOf_62 ?_
    refine lv_iadd hx hb dX1_edgeOf_63 ?_
    refine lv_iload_n hx hb dX1_edgeOf_64 rfl (lv_at hl 2 rfl) ?_
    refine lv_iadd hx hb dX1_edgeOf_65 ?_
    refine lv_iconst (v := 1) hx hb dX1_edgeOf_66 (by decide) ?_
    refine lv_iadd hx hb dX1_edgeOf_67 ?_
    exact W.iret (v := (((nI (nR w h) + (nI y * (nI w))) + nI x) + 1)) hx hb hr (fun t ht hW => ⟨⟨_, (), rfl, by rw [pk_mul, nI_add, nI_add, nI_p1, eO_1 ej]; rfl, trivial⟩, hS.F ht⟩) hS.2.2 dX1_edgeOf_68
  · refine lv_tableIn (tgt := 69) hx hb dX1_edgeOf_16 (by decide) (by decide) rfl (by decide) ?_
    refine lv_iload_n hx hb dX1_edgeOf_69 rfl (lv_at hl 3 rfl) ?_
    refine lv_iconst (v := 1) hx hb dX1_edgeOf_70 (by decide) ?_
    refine lv_iadd hx hb dX1_edgeOf_71 ?_
    rw [show (nI y + 1) = nI (y + 1) from nI_p1 y]
    refine lv_aload_n hx hb dX1_edgeOf_72 rfl (lv_at hl 1 rfl) ?_
    refine va_get (D := D) (ci := 1) (v := .int (nI w)) (C := RX1) (T := TX1) (N := 10) hx hb hts hin0 hown hK hP 0 rfl rfl 1 (by decide) (hts (.fieldLink RX1 7 "HeightLinesModel" "w" "I") (by decide +kernel)) (fun _ h9 => h9) rfl dX1_edgeOf_73 ?_
    refine lv_iconst (v := 1) hx hb dX1_edgeOf_76 (by decide) ?_
    refine lv_isub hx hb dX1_edgeOf_77 ?_
    rw [show ((nI w) - 1) = nI (w - 1) from nI_m1 (by omega)]
    refine lv_imul hx hb dX1_edgeOf_78 ?_
    refine lv_iload_n hx hb dX1_edgeOf_79 rfl (lv_at hl 2 rfl) ?_
    refine lv_iadd hx hb dX1_edgeOf_80 ?_
    exact W.iret (v := ((nI (y + 1) * nI (w - 1)) + nI x)) hx hb hr (fun t ht hW => ⟨⟨_, (), rfl, by rw [pk_mul, nI_add, eO_2 ej], trivial⟩, hS.F ht⟩) hS.2.2 dX1_edgeOf_81
  · refine lv_tableOut (tgt := 82) hx hb dX1_edgeOf_16 (by decide) (by decide) ?_
    refine lv_iload hx hb dX1_edgeOf_82 (lv_at hl 0 rfl) ?_
    refine lv_iload_n hx hb dX1_edgeOf_84 rfl (lv_at hl 3 rfl) ?_
    refine lv_aload_n hx hb dX1_edgeOf_85 rfl (lv_at hl 1 rfl) ?_
    refine va_get (D := D) (ci := 1) (v := .int (nI w)) (C := RX1) (T := TX1) (N := 10) hx hb hts hin0 hown hK hP 0 rfl rfl 1 (by decide) (hts (.fieldLink RX1 7 "HeightLinesModel" "w" "I") (by decide +kernel)) (fun _ h9 => h9) rfl dX1_edgeOf_86 ?_
    refine lv_imul hx hb dX1_edgeOf_89 ?_
    refine lv_iadd hx hb dX1_edgeOf_90 ?_
    refine lv_iload_n hx hb dX1_edgeOf_91 rfl (lv_at hl 2 rfl) ?_
    refine lv_iadd hx hb dX1_edgeOf_92 ?_
    exact W.iret (v := ((nI (nR w h) + (nI y * (nI w))) + nI x)) hx hb hr (fun t ht hW => ⟨⟨_, (), rfl, by rw [pk_mul, nI_add, nI_add, eO_3 ej], trivial⟩, hS.F ht⟩) hS.2.2 dX1_edgeOf_93

set_option maxHeartbeats 4000000 in
set_option maxRecDepth 100000 in
theorem c_X1_isDown (l : Launch) (D : va_G) (o : Nat → Nat) (cI cZ : ClassId) (th tw ch : Int32) (sm od st cl us : Nat → Int32) (w : Nat) (h : Nat) (f : Nat → Nat → Int32) (x : Nat) (y : Nat) (k : Nat) (gw2 : w ≤ 12) (gh2 : h ≤ 12) (gf : ∀ x y, x < w → y < h → sm (12 * y + x) = f x y) (gx : x + 1 < w) (gy : y + 1 < h) (gk : k < 99) : roMet l yX1_isDown wsX1_isDown ({ frames := 2, cells := 0, slots := 0, locals := 45 } : Room) D (W1 o cI cZ th (nI w) (nI h) tw ch sm od st cl us) [(cI, .int), (cZ, .boolean)] [.ref (o 0), .int (nI x), .int (nI y), .int (nI k)] (fun r => r = bI (dnB f tw x y k)) := by
  refine Met.ofW (cc := cX1_isDown) (maxL := 4) (ret := (some .boolean)) (by decide) rfl ?_
  intro p e s m args below meth c s₁ B hml hv
  obtain ⟨rfl, hP, hK⟩ := hv
  have hx := B.exec
  have hb := B.bytes
  have hr := B.returns
  have hts := atoms_spec (ws := wsX1_isDown) B.pre
  have hown : s.vm.findClass RX1 = some m.cls := findClass_of_methodNamed B.named
  have hlocks := B.notSynchronized
  have hin0 : ∀ w ∈ u_ws RX1 TX1 10, w ∈ wsX1_isDown := by decide +kernel
  have hS : va_S (fun _ => False) s.heap s.heap [] := va_S.rf
  have hP : va_P D vwCl (W1 o cI cZ th (nI w) (nI h) tw ch sm od st cl us) s.heap := hP
  have hl := lv_entry ([.ref (o 0), .int (nI x), .int (nI y), .int (nI k)]) (n := 4) (Nat.le_of_ble_eq_true rfl)
  rw [lg_entry_eq]
  generalize (lg_sl ([.ref (o 0), .int (nI x), .int (nI y), .int (nI k)]) ++ List.replicate (4 - (lg_sl ([.ref (o 0), .int (nI x), .int (nI y), .int (nI k)])).length) Slot.unset).toArray = ls at hl ⊢
  have hl : lv_has ls 4 [(0, .ref (o 0)), (1, .int (nI x)), (2, .int (nI y)), (3, .int (nI k))] := hl
  refine lv_aload_n hx hb dX1_isDown_0 rfl (lv_at hl 0 rfl) ?_
  refine lv_aload_n hx hb dX1_isDown_1 rfl (lv_at hl 0 rfl) ?_
  refine lv_iload_n hx hb dX1_isDown_2 rfl (lv_at hl 1 rfl) ?_
  refine lv_iload_n hx hb dX1_isDown_3 rfl (lv_at hl 2 rfl) ?_
  refine lv_iload_n hx hb dX1_isDown_4 rfl (lv_at hl 3 rfl) ?_
  refine ro_V3 ⟨hx, hb, hml, hown, hts⟩ (c_X1_corner l D o cI cZ th tw ch sm od st cl us w h f x y k gw2 gh2 gf gx gy (by omega)) (cwV 3 hts gX1_isDown_X1_corner rfl rfl rfl (by decide +kernel) ⟨Nat.le_of_ble_eq_true rfl, Nat.le_of_ble_eq_true rfl⟩) (va_recv hK hP (ci := 1) (q0 := 0) rfl rfl) hP hK hP hS rfl hl.1 (lv_room (Nat.le_of_ble_eq_true rfl)) dX1_isDown_5 ⟨Nat.le_of_ble_eq_true rfl, Nat.le_of_ble_eq_true rfl⟩ (fun r5 H locs hr5 hP hS => ?_)
  subst hr5
  refine ro_V1 ⟨hx, hb, hml, hown, hts⟩ (c_X1_isAbove l D o cI cZ th (nI w) (nI h) tw ch sm od st cl us (f (cX x (k)) (cY y (k)))) (cwV 1 hts gX1_isDown_X1_isAbove rfl rfl rfl (by decide +kernel) ⟨Nat.le_of_ble_eq_true rfl, Nat.le_of_ble_eq_true rfl⟩) (va_recv hK hP (ci := 1) (q0 := 0) rfl rfl) hP hK hP hS rfl hl.1 (lv_room (Nat.le_of_ble_eq_true rfl)) dX1_isDown_8 ⟨Nat.le_of_ble_eq_true rfl, Nat.le_of_ble_eq_true rfl⟩ (fun r8 H locs hr8 hP hS => ?_)
  subst hr8
  refine lv_if_eq (tgt := 34) hx hb dX1_isDown_11 (by decide) (fun c11 => ?_) (fun c11 => ?_)
  · refine lv_iconst (v := 0) hx hb dX1_isDown_34 (by decide) ?_
    exact W.zret (v := 0) (ty := .boolean) hx hb hr rfl (fun t ht hW => ⟨⟨_, (), rfl, by unfold dnB crn; simp_all [bI_0, bI_n0, bI_t, bI_f, bI], trivial⟩, hS.F ht⟩) hS.2.2 dX1_isDown_35
  · refine lv_aload_n hx hb dX1_isDown_14 rfl (lv_at hl 0 rfl) ?_
    refine lv_aload_n hx hb dX1_isDown_15 rfl (lv_at hl 0 rfl) ?_
    refine lv_iload_n hx hb dX1_isDown_16 rfl (lv_at hl 1 rfl) ?_
    refine lv_iload_n hx hb dX1_isDown_17 rfl (lv_at hl 2 rfl) ?_
    refine lv_iload_n hx hb dX1_isDown_18 rfl (lv_at hl 3 rfl) ?_
    refine lv_iconst (v := 1) hx hb dX1_isDown_19 (by decide) ?_
    refine lv_iadd hx hb dX1_isDown_20 ?_
    rw [show (nI k + 1) = nI (k + 1) from nI_p1 k]
    refine ro_V3 ⟨hx, hb, hml, hown, hts⟩ (c_X1_corner l D o cI cZ th tw ch sm od st cl us w h f x y (k + 1) gw2 gh2 gf gx gy (by omega)) (cwV 3 hts gX1_isDown_X1_corner rfl rfl rfl (by decide +kernel) ⟨Nat.le_of_ble_eq_true rfl, Nat.le_of_ble_eq_true rfl⟩) (va_recv hK hP (ci := 1) (q0 := 0) rfl rfl) hP hK hP hS rfl hl.1 (lv_room (Nat.le_of_ble_eq_true rfl)) dX1_isDown_21 ⟨Nat.le_of_ble_eq_true rfl, Nat.le_of_ble_eq_true rfl⟩ (fun r21 H locs hr21 hP hS => ?_)
    subst hr21
    refine ro_V1 ⟨hx, hb, hml, hown, hts⟩ (c_X1_isAbove l D o cI cZ th (nI w) (nI h) tw ch sm od st cl us (f (cX x (k + 1)) (cY y (k + 1)))) (cwV 1 hts gX1_isDown_X1_isAbove rfl rfl rfl (by decide +kernel) ⟨Nat.le_of_ble_eq_true rfl, Nat.le_of_ble_eq_true rfl⟩) (va_recv hK hP (ci := 1) (q0 := 0) rfl rfl) hP hK hP hS rfl hl.1 (lv_room (Nat.le_of_ble_eq_true rfl)) dX1_isDown_24 ⟨Nat.le_of_ble_eq_true rfl, Nat.le_of_ble_eq_true rfl⟩ (fun r24 H locs hr24 hP hS => ?_)
    subst hr24
    refine lv_if_ne (tgt := 34) hx hb dX1_isDown_27 (by decide) (fun c27 => ?_) (fun c27 => ?_)
    · refine lv_iconst (v := 0) hx hb dX1_isDown_34 (by decide) ?_
      exact W.zret (v := 0) (ty := .boolean) hx hb hr rfl (fun t ht hW => ⟨⟨_, (), rfl, by unfold dnB crn; simp_all [bI_0, bI_n0, bI_t, bI_f, bI], trivial⟩, hS.F ht⟩) hS.2.2 dX1_isDown_35
    · refine lv_iconst (v := 1) hx hb dX1_isDown_30 (by decide) ?_
      refine lv_goto (tgt := 35) hx hb dX1_isDown_31 (by decide) ?_
      exact W.zret (v := 1) (ty := .boolean) hx hb hr rfl (fun t ht hW => ⟨⟨_, (), rfl, by unfold dnB crn; simp_all [bI_0, bI_n0, bI_t, bI_f, bI], trivial⟩, hS.F ht⟩) hS.2.2 dX1_isDown_35

set_option maxHeartbeats 4000000 in
set_option maxRecDepth 100000 in
theorem c_X1_isUp (l : Launch) (D : va_G) (o : Nat → Nat) (cI cZ : ClassId) (th tw ch : Int32) (sm od st cl us : Nat → Int32) (w : Nat) (h : Nat) (f : Nat → Nat → Int32) (x : Nat) (y : Nat) (k : Nat) (gw2 : w ≤ 12) (gh2 : h ≤ 12) (gf : ∀ x y, x < w → y < h → sm (12 * y + x) = f x y) (gx : x + 1 < w) (gy : y + 1 < h) (gk : k < 99) : roMet l yX1_isUp wsX1_isUp ({ frames := 2, cells := 0, slots := 0, locals := 45 } : Room) D (W1 o cI cZ th (nI w) (nI h) tw ch sm od st cl us) [(cI, .int), (cZ, .boolean)] [.ref (o 0), .int (nI x), .int (nI y), .int (nI k)] (fun r => r = bI (upB f tw x y k)) := by
  refine Met.ofW (cc := cX1_isUp) (maxL := 4) (ret := (some .boolean)) (by decide) rfl ?_
  intro p e s m args below meth c s₁ B hml hv
  obtain ⟨rfl, hP, hK⟩ := hv
  have hx := B.exec
  have hb := B.bytes
  have hr := B.returns
  have hts := atoms_spec (ws := wsX1_isUp) B.pre
  have hown : s.vm.findClass RX1 = some m.cls := findClass_of_methodNamed B.named
  have hlocks := B.notSynchronized
  have hin0 : ∀ w ∈ u_ws RX1 TX1 10, w ∈ wsX1_isUp := by decide +kernel
  have hS : va_S (fun _ => False) s.heap s.heap [] := va_S.rf
  have hP : va_P D vwCl (W1 o cI cZ th (nI w) (nI h) tw ch sm od st cl us) s.heap := hP
  have hl := lv_entry ([.ref (o 0), .int (nI x), .int (nI y), .int (nI k)]) (n := 4) (Nat.le_of_ble_eq_true rfl)
  rw [lg_entry_eq]
  generalize (lg_sl ([.ref (o 0), .int (nI x), .int (nI y), .int (nI k)]) ++ List.replicate (4 - (lg_sl ([.ref (o 0), .int (nI x), .int (nI y), .int (nI k)])).length) Slot.unset).toArray = ls at hl ⊢
  have hl : lv_has ls 4 [(0, .ref (o 0)), (1, .int (nI x)), (2, .int (nI y)), (3, .int (nI k))] := hl
  refine lv_aload_n hx hb dX1_isUp_0 rfl (lv_at hl 0 rfl) ?_
  refine lv_aload_n hx hb dX1_isUp_1 rfl (lv_at hl 0 rfl) ?_
  refine lv_iload_n hx hb dX1_isUp_2 rfl (lv_at hl 1 rfl) ?_
  refine lv_iload_n hx hb dX1_isUp_3 rfl (lv_at hl 2 rfl) ?_
  refine lv_iload_n hx hb dX1_isUp_4 rfl (lv_at hl 3 rfl) ?_
  refine ro_V3 ⟨hx, hb, hml, hown, hts⟩ (c_X1_corner l D o cI cZ th tw ch sm od st cl us w h f x y k gw2 gh2 gf gx gy (by omega)) (cwV 3 hts gX1_isUp_X1_corner rfl rfl rfl (by decide +kernel) ⟨Nat.le_of_ble_eq_true rfl, Nat.le_of_ble_eq_true rfl⟩) (va_recv hK hP (ci := 1) (q0 := 0) rfl rfl) hP hK hP hS rfl hl.1 (lv_room (Nat.le_of_ble_eq_true rfl)) dX1_isUp_5 ⟨Nat.le_of_ble_eq_true rfl, Nat.le_of_ble_eq_true rfl⟩ (fun r5 H locs hr5 hP hS => ?_)
  subst hr5
  refine ro_V1 ⟨hx, hb, hml, hown, hts⟩ (c_X1_isAbove l D o cI cZ th (nI w) (nI h) tw ch sm od st cl us (f (cX x (k)) (cY y (k)))) (cwV 1 hts gX1_isUp_X1_isAbove rfl rfl rfl (by decide +kernel) ⟨Nat.le_of_ble_eq_true rfl, Nat.le_of_ble_eq_true rfl⟩) (va_recv hK hP (ci := 1) (q0 := 0) rfl rfl) hP hK hP hS rfl hl.1 (lv_room (Nat.le_of_ble_eq_true rfl)) dX1_isUp_8 ⟨Nat.le_of_ble_eq_true rfl, Nat.le_of_ble_eq_true rfl⟩ (fun r8 H locs hr8 hP hS => ?_)
  subst hr8
  refine lv_if_ne (tgt := 34) hx hb dX1_isUp_11 (by decide) (fun c11 => ?_) (fun c11 => ?_)
  · refine lv_iconst (v := 0) hx hb dX1_isUp_34 (by decide) ?_
    exact W.zret (v := 0) (ty := .boolean) hx hb hr rfl (fun t ht hW => ⟨⟨_, (), rfl, by unfold upB crn; simp_all [bI_0, bI_n0, bI_t, bI_f, bI], trivial⟩, hS.F ht⟩) hS.2.2 dX1_isUp_35
  · refine lv_aload_n hx hb dX1_isUp_14 rfl (lv_at hl 0 rfl) ?_
    refine lv_aload_n hx hb dX1_isUp_15 rfl (lv_at hl 0 rfl) ?_
    refine lv_iload_n hx hb dX1_isUp_16 rfl (lv_at hl 1 rfl) ?_
    refine lv_iload_n hx hb dX1_isUp_17 rfl (lv_at hl 2 rfl) ?_
    refine lv_iload_n hx hb dX1_isUp_18 rfl (lv_at hl 3 rfl) ?_
    refine lv_iconst (v := 1) hx hb dX1_isUp_19 (by decide) ?_
    refine lv_iadd hx hb dX1_isUp_20 ?_
    rw [show (nI k + 1) = nI (k + 1) from nI_p1 k]
    refine ro_V3 ⟨hx, hb, hml, hown, hts⟩ (c_X1_corner l D o cI cZ th tw ch sm od st cl us w h f x y (k + 1) gw2 gh2 gf gx gy (by omega)) (cwV 3 hts gX1_isUp_X1_corner rfl rfl rfl (by decide +kernel) ⟨Nat.le_of_ble_eq_true rfl, Nat.le_of_ble_eq_true rfl⟩) (va_recv hK hP (ci := 1) (q0 := 0) rfl rfl) hP hK hP hS rfl hl.1 (lv_room (Nat.le_of_ble_eq_true rfl)) dX1_isUp_21 ⟨Nat.le_of_ble_eq_true rfl, Nat.le_of_ble_eq_true rfl⟩ (fun r21 H locs hr21 hP hS => ?_)
    subst hr21
    refine ro_V1 ⟨hx, hb, hml, hown, hts⟩ (c_X1_isAbove l D o cI cZ th (nI w) (nI h) tw ch sm od st cl us (f (cX x (k + 1)) (cY y (k + 1)))) (cwV 1 hts gX1_isUp_X1_isAbove rfl rfl rfl (by decide +kernel) ⟨Nat.le_of_ble_eq_true rfl, Nat.le_of_ble_eq_true rfl⟩) (va_recv hK hP (ci := 1) (q0 := 0) rfl rfl) hP hK hP hS rfl hl.1 (lv_room (Nat.le_of_ble_eq_true rfl)) dX1_isUp_24 ⟨Nat.le_of_ble_eq_true rfl, Nat.le_of_ble_eq_true rfl⟩ (fun r24 H locs hr24 hP hS => ?_)
    subst hr24
    refine lv_if_eq (tgt := 34) hx hb dX1_isUp_27 (by decide) (fun c27 => ?_) (fun c27 => ?_)
    · refine lv_iconst (v := 0) hx hb dX1_isUp_34 (by decide) ?_
      exact W.zret (v := 0) (ty := .boolean) hx hb hr rfl (fun t ht hW => ⟨⟨_, (), rfl, by unfold upB crn; simp_all [bI_0, bI_n0, bI_t, bI_f, bI], trivial⟩, hS.F ht⟩) hS.2.2 dX1_isUp_35
    · refine lv_iconst (v := 1) hx hb dX1_isUp_30 (by decide) ?_
      refine lv_goto (tgt := 35) hx hb dX1_isUp_31 (by decide) ?_
      exact W.zret (v := 1) (ty := .boolean) hx hb hr rfl (fun t ht hW => ⟨⟨_, (), rfl, by unfold upB crn; simp_all [bI_0, bI_n0, bI_t, bI_f, bI], trivial⟩, hS.F ht⟩) hS.2.2 dX1_isUp_35

set_option maxHeartbeats 4000000 in
set_option maxRecDepth 100000 in
theorem c_X1_isMiddleAbove (l : Launch) (D : va_G) (o : Nat → Nat) (cI cZ : ClassId) (th tw ch : Int32) (sm od st cl us : Nat → Int32) (w : Nat) (h : Nat) (f : Nat → Nat → Int32) (x : Nat) (y : Nat) (gw2 : w ≤ 12) (gh2 : h ≤ 12) (gf : ∀ x y, x < w → y < h → sm (12 * y + x) = f x y) (gx : x + 1 < w) (gy : y + 1 < h) : roMet l yX1_isMiddleAbove wsX1_isMiddleAbove ({ frames := 2, cells := 0, slots := 0, locals := 45 } : Room) D (W1 o cI cZ th (nI w) (nI h) tw ch sm od st cl us) [(cI, .int), (cZ, .boolean)] [.ref (o 0), .int (nI x), .int (nI y)] (fun r => r = bI (mdB f tw x y)) := by
  refine Met.ofW (cc := cX1_isMiddleAbove) (maxL := 15) (ret := (some .boolean)) (by decide) rfl ?_
  intro p e s m args below meth c s₁ B hml hv
  obtain ⟨rfl, hP, hK⟩ := hv
  have hx := B.exec
  have hb := B.bytes
  have hr := B.returns
  have hts := atoms_spec (ws := wsX1_isMiddleAbove) B.pre
  have hown : s.vm.findClass RX1 = some m.cls := findClass_of_methodNamed B.named
  have hlocks := B.notSynchronized
  have hin0 : ∀ w ∈ u_ws RX1 TX1 10, w ∈ wsX1_isMiddleAbove := by decide +kernel
  have hS : va_S (fun _ => False) s.heap s.heap [] := va_S.rf
  have hP : va_P D vwCl (W1 o cI cZ th (nI w) (nI h) tw ch sm od st cl us) s.heap := hP
  have hl := lv_entry ([.ref (o 0), .int (nI x), .int (nI y)]) (n := 15) (Nat.le_of_ble_eq_true rfl)
  rw [lg_entry_eq]
  generalize (lg_sl ([.ref (o 0), .int (nI x), .int (nI y)]) ++ List.replicate (15 - (lg_sl ([.ref (o 0), .int (nI x), .int (nI y)])).length) Slot.unset).toArray = ls at hl ⊢
  have hl : lv_has ls 15 [(0, .ref (o 0)), (1, .int (nI x)), (2, .int (nI y))] := hl
  refine lv_aload_n hx hb dX1_isMiddleAbove_0 rfl (lv_at hl 0 rfl) ?_
  refine lv_iload_n hx hb dX1_isMiddleAbove_1 rfl (lv_at hl 1 rfl) ?_
  refine lv_iload_n hx hb dX1_isMiddleAbove_2 rfl (lv_at hl 2 rfl) ?_
  refine lv_iconst (v := 0) hx hb dX1_isMiddleAbove_3 (by decide) ?_
  refine ro_V3 ⟨hx, hb, hml, hown, hts⟩ (c_X1_corner l D o cI cZ th tw ch sm od st cl us w h f x y 0 gw2 gh2 gf gx gy (by decide)) (cwV 3 hts gX1_isMiddleAbove_X1_corner rfl rfl rfl (by decide +kernel) ⟨Nat.le_of_ble_eq_true rfl, Nat.le_of_ble_eq_true rfl⟩) (va_recv hK hP (ci := 1) (q0 := 0) rfl rfl) hP hK hP hS rfl hl.1 (lv_room (Nat.le_of_ble_eq_true rfl)) dX1_isMiddleAbove_4 ⟨Nat.le_of_ble_eq_true rfl, Nat.le_of_ble_eq_true rfl⟩ (fun r4 H locs hr4 hP hS => ?_)
  subst hr4
  refine lv_i2l hx hb dX1_isMiddleAbove_7 rfl ?_
  refine lv_topl (fun x8 ex8 => ?_)
  refine lv_lstore_n (lv' := [(3, .long x8), (0, .ref (o 0)), (1, .int (nI x)), (2, .int (nI y))]) hx hb dX1_isMiddleAbove_8 rfl hl (by decide) rfl (fun ls hl => ?_)
  refine lv_aload_n hx hb dX1_isMiddleAbove_9 rfl (lv_at hl 1 rfl) ?_
  refine lv_iload_n hx hb dX1_isMiddleAbove_10 rfl (lv_at hl 2 rfl) ?_
  refine lv_iload_n hx hb dX1_isMiddleAbove_11 rfl (lv_at hl 3 rfl) ?_
  refine lv_iconst (v := 1) hx hb dX1_isMiddleAbove_12 (by decide) ?_
  refine ro_V3 ⟨hx, hb, hml, hown, hts⟩ (c_X1_corner l D o cI cZ th tw ch sm od st cl us w h f x y 1 gw2 gh2 gf gx gy (by decide)) (cwV 3 hts gX1_isMiddleAbove_X1_corner rfl rfl rfl (by decide +kernel) ⟨Nat.le_of_ble_eq_true rfl, Nat.le_of_ble_eq_true rfl⟩) (va_recv hK hP (ci := 1) (q0 := 0) rfl rfl) hP hK hP hS rfl hl.1 (lv_room (Nat.le_of_ble_eq_true rfl)) dX1_isMiddleAbove_13 ⟨Nat.le_of_ble_eq_true rfl, Nat.le_of_ble_eq_true rfl⟩ (fun r13 H locs hr13 hP hS => ?_)
  subst hr13
  refine lv_i2l hx hb dX1_isMiddleAbove_16 rfl ?_
  refine lv_topl (fun x17 ex17 => ?_)
  refine lv_lstore (lv' := [(5, .long x17), (3, .long x8), (0, .ref (o 0)), (1, .int (nI x)), (2, .int (nI y))]) hx hb dX1_isMiddleAbove_17 hl (by decide) rfl (fun ls hl => ?_)
  refine lv_aload_n hx hb dX1_isMiddleAbove_19 rfl (lv_at hl 2 rfl) ?_
  refine lv_iload_n hx hb dX1_isMiddleAbove_20 rfl (lv_at hl 3 rfl) ?_
  refine lv_iload_n hx hb dX1_isMiddleAbove_21 rfl (lv_at hl 4 rfl) ?_
  refine lv_iconst (v := 2) hx hb dX1_isMiddleAbove_22 (by decide) ?_
  refine ro_V3 ⟨hx, hb, hml, hown, hts⟩ (c_X1_corner l D o cI cZ th tw ch sm od st cl us w h f x y 2 gw2 gh2 gf gx gy (by decide)) (cwV 3 hts gX1_isMiddleAbove_X1_corner rfl rfl rfl (by decide +kernel) ⟨Nat.le_of_ble_eq_true rfl, Nat.le_of_ble_eq_true rfl⟩) (va_recv hK hP (ci := 1) (q0 := 0) rfl rfl) hP hK hP hS rfl hl.1 (lv_room (Nat.le_of_ble_eq_true rfl)) dX1_isMiddleAbove_23 ⟨Nat.le_of_ble_eq_true rfl, Nat.le_of_ble_eq_true rfl⟩ (fun r23 H locs hr23 hP hS => ?_)
  subst hr23
  refine lv_i2l hx hb dX1_isMiddleAbove_26 rfl ?_
  refine lv_topl (fun x27 ex27 => ?_)
  refine lv_lstore (lv' := [(7, .long x27), (5, .long x17), (3, .long x8), (0, .ref (o 0)), (1, .int (nI x)), (2, .int (nI y))]) hx hb dX1_isMiddleAbove_27 hl (by decide) rfl (fun ls hl => ?_)
  refine lv_aload_n hx hb dX1_isMiddleAbove_29 rfl (lv_at hl 3 rfl) ?_
  refine lv_iload_n hx hb dX1_isMiddleAbove_30 rfl (lv_at hl 4 rfl) ?_
  refine lv_iload_n hx hb dX1_isMiddleAbove_31 rfl (lv_at hl 5 rfl) ?_
  refine lv_iconst (v := 3) hx hb dX1_isMiddleAbove_32 (by decide) ?_
  refine ro_V3 ⟨hx, hb, hml, hown, hts⟩ (c_X1_corner l D o cI cZ th tw ch sm od st cl us w h f x y 3 gw2 gh2 gf gx gy (by decide)) (cwV 3 hts gX1_isMiddleAbove_X1_corner rfl rfl rfl (by decide +kernel) ⟨Nat.le_of_ble_eq_true rfl, Nat.le_of_ble_eq_true rfl⟩) (va_recv hK hP (ci := 1) (q0 := 0) rfl rfl) hP hK hP hS rfl hl.1 (lv_room (Nat.le_of_ble_eq_true rfl)) dX1_isMiddleAbove_33 ⟨Nat.le_of_ble_eq_true rfl, Nat.le_of_ble_eq_true rfl⟩ (fun r33 H locs hr33 hP hS => ?_)
  subst hr33
  refine lv_i2l hx hb dX1_isMiddleAbove_36 rfl ?_
  refine lv_topl (fun x37 ex37 => ?_)
  refine lv_lstore (lv' := [(9, .long x37), (7, .long x27), (5, .long x17), (3, .long x8), (0, .ref (o 0)), (1, .int (nI x)), (2, .int (nI y))]) hx hb dX1_isMiddleAbove_37 hl (by decide) rfl (fun ls hl => ?_)
  refine lv_lload_n hx hb dX1_isMiddleAbove_39 rfl (lv_at hl 3 rfl) ?_
  refine lv_lload hx hb dX1_isMiddleAbove_40 (lv_at hl 1 rfl) ?_
  refine lv_ladd hx hb dX1_isMiddleAbove_42 ?_
  refine lv_lload hx hb dX1_isMiddleAbove_43 (lv_at hl 2 rfl) ?_
  refine lv_lsub hx hb dX1_isMiddleAbove_45 ?_
  refine lv_lload hx hb dX1_isMiddleAbove_46 (lv_at hl 0 rfl) ?_
  refine lv_lsub hx hb dX1_isMiddleAbove_48 ?_
  refine lv_topl (fun x49 ex49 => ?_)
  refine lv_lstore (lv' := [(11, .long x49), (9, .long x37), (7, .long x27), (5, .long x17), (3, .long x8), (0, .ref (o 0)), (1, .int (nI x)), (2, .int (nI y))]) hx hb dX1_isMiddleAbove_49 hl (by decide) rfl (fun ls hl => ?_)
  refine lv_ldc2 (v := 2) hx hb hown (hts (.constantLong RX1 78 (2)) (by decide +kernel)) dX1_isMiddleAbove_51 ?_
  refine lv_lload_n hx hb dX1_isMiddleAbove_54 rfl (lv_at hl 4 rfl) ?_
  refine lv_lload hx hb dX1_isMiddleAbove_55 (lv_at hl 2 rfl) ?_
  refine lv_lmul hx hb dX1_isMiddleAbove_57 ?_
  refine lv_lload hx hb dX1_isMiddleAbove_58 (lv_at hl 3 rfl) ?_
  refine lv_lload hx hb dX1_isMiddleAbove_60 (lv_at hl 1 rfl) ?_
  refine lv_lmul hx hb dX1_isMiddleAbove_62 ?_
  refine lv_lsub hx hb dX1_isMiddleAbove_63 ?_
  refine lv_lmul hx hb dX1_isMiddleAbove_64 ?_
  refine lv_topl (fun x65 ex65 => ?_)
  refine lv_lstore (lv' := [(13, .long x65), (11, .long x49), (9, .long x37), (7, .long x27), (5, .long x17), (3, .long x8), (0, .ref (o 0)), (1, .int (nI x)), (2, .int (nI y))]) hx hb dX1_isMiddleAbove_65 hl (by decide) rfl (fun ls hl => ?_)
  refine lv_lload hx hb dX1_isMiddleAbove_67 (lv_at hl 1 rfl) ?_
  refine lv_lconst (v := 0) hx hb dX1_isMiddleAbove_69 (by decide) ?_
  refine W.lcmp hx hb dX1_isMiddleAbove_70 ?_
  refine lv_if_le (tgt := 96) hx hb dX1_isMiddleAbove_71 (by decide) (fun c71 => ?_) (fun c71 => ?_)
  · refine lv_lload hx hb dX1_isMiddleAbove_96 (lv_at hl 0 rfl) ?_
    refine lv_aload_n hx hb dX1_isMiddleAbove_98 rfl (lv_at hl 6 rfl) ?_
    refine va_get (D := D) (ci := 1) (v := .int tw) (C := RX1) (T := TX1) (N := 10) hx hb hts hin0 hown hK hP 0 rfl rfl 3 (by decide) (hts (.fieldLink RX1 16 "HeightLinesModel" "twice" "I") (by decide +kernel)) (fun _ h9 => h9) rfl dX1_isMiddleAbove_99 ?_
    refine lv_i2l hx hb dX1_isMiddleAbove_102 rfl ?_
    refine lv_lload hx hb dX1_isMiddleAbove_103 (lv_at hl 1 rfl) ?_
    refine lv_lmul hx hb dX1_isMiddleAbove_105 ?_
    refine W.lcmp hx hb dX1_isMiddleAbove_106 ?_
    refine lv_if_ge (tgt := 114) hx hb dX1_isMiddleAbove_107 (by decide) (fun c107 => ?_) (fun c107 => ?_)
    · refine lv_iconst (v := 0) hx hb dX1_isMiddleAbove_114 (by decide) ?_
      exact W.zret (v := 0) (ty := .boolean) hx hb hr rfl (fun t ht hW => ⟨⟨_, (), rfl, bI_z (by unfold mdB; rw [(mid_2 (lo := x49) (mi := x65) (lv := tw.toInt64 * x49) (a := f x y) (b := f (x + 1) y) (c := f (x + 1) (y + 1)) (d := f x (y + 1)) (by rw [ex49, ex8, ex17, ex27, ex37]; rfl) (by rw [ex65, ex8, ex17, ex27, ex37]; rfl) rfl c71)]; exact decide_eq_false (Int64.not_lt.mpr ((lg_cmp_ge _ _).mp c107))), trivial⟩, hS.F ht⟩) hS.2.2 dX1_isMiddleAbove_115
    · refine lv_iconst (v := 1) hx hb dX1_isMiddleAbove_110 (by decide) ?_
      refine lv_goto (tgt := 115) hx hb dX1_isMiddleAbove_111 (by decide) ?_
      exact W.zret (v := 1) (ty := .boolean) hx hb hr rfl (fun t ht hW => ⟨⟨_, (), rfl, bI_1 (by unfold mdB; rw [(mid_2 (lo := x49) (mi := x65) (lv := tw.toInt64 * x49) (a := f x y) (b := f (x + 1) y) (c := f (x + 1) (y + 1)) (d := f x (y + 1)) (by rw [ex49, ex8, ex17, ex27, ex37]; rfl) (by rw [ex65, ex8, ex17, ex27, ex37]; rfl) rfl c71)]; exact decide_eq_true (Int64.not_le.mp (fun z => c107 ((lg_cmp_ge _ _).mpr z)))), trivial⟩, hS.F ht⟩) hS.2.2 dX1_isMiddleAbove_115
  · refine lv_lload hx hb dX1_isMiddleAbove_74 (lv_at hl 0 rfl) ?_
    refine lv_aload_n hx hb dX1_isMiddleAbove_76 rfl (lv_at hl 6 rfl) ?_
    refine va_get (D := D) (ci := 1) (v := .int tw) (C := RX1) (T := TX1) (N := 10) hx hb hts hin0 hown hK hP 0 rfl rfl 3 (by decide) (hts (.fieldLink RX1 16 "HeightLinesModel" "twice" "I") (by decide +kernel)) (fun _ h9 => h9) rfl dX1_isMiddleAbove_77 ?_
    refine lv_i2l hx hb dX1_isMiddleAbove_80 rfl ?_
    refine lv_lload hx hb dX1_isMiddleAbove_81 (lv_at hl 1 rfl) ?_
    refine lv_lmul hx hb dX1_isMiddleAbove_83 ?_
    refine W.lcmp hx hb dX1_isMiddleAbove_84 ?_
    refine lv_if_le (tgt := 92) hx hb dX1_isMiddleAbove_85 (by decide) (fun c85 => ?_) (fun c85 => ?_)
    · refine lv_iconst (v := 0) hx hb dX1_isMiddleAbove_92 (by decide) ?_
      refine lv_goto (tgt := 115) hx hb dX1_isMiddleAbove_93 (by decide) ?_
      exact W.zret (v := 0) (ty := .boolean) hx hb hr rfl (fun t ht hW => ⟨⟨_, (), rfl, bI_z (by unfold mdB; rw [(mid_1 (lo := x49) (mi := x65) (lv := tw.toInt64 * x49) (a := f x y) (b := f (x + 1) y) (c := f (x + 1) (y + 1)) (d := f x (y + 1)) (by rw [ex49, ex8, ex17, ex27, ex37]; rfl) (by rw [ex65, ex8, ex17, ex27, ex37]; rfl) rfl c71)]; exact decide_eq_false (Int64.not_lt.mpr ((lg_cmp_le _ _).mp c85))), trivial⟩, hS.F ht⟩) hS.2.2 dX1_isMiddleAbove_115
    · refine lv_iconst (v := 1) hx hb dX1_isMiddleAbove_88 (by decide) ?_
      refine lv_goto (tgt := 115) hx hb dX1_isMiddleAbove_89 (by decide) ?_
      exact W.zret (v := 1) (ty := .boolean) hx hb hr rfl (fun t ht hW => ⟨⟨_, (), rfl, bI_1 (by unfold mdB; rw [(mid_1 (lo := x49) (mi := x65) (lv := tw.toInt64 * x49) (a := f x y) (b := f (x + 1) y) (c := f (x + 1) (y + 1)) (d := f x (y + 1)) (by rw [ex49, ex8, ex17, ex27, ex37]; rfl) (by rw [ex65, ex8, ex17, ex27, ex37]; rfl) rfl c71)]; exact decide_eq_true (Int64.not_le.mp (fun z => c85 ((lg_cmp_le _ _).mpr z)))), trivial⟩, hS.F ht⟩) hS.2.2 dX1_isMiddleAbove_115

set_option maxHeartbeats 4000000 in
set_option maxRecDepth 100000 in
theorem c_X1_isCell (l : Launch) (D : va_G) (o : Nat → Nat) (cI cZ : ClassId) (th tw ch : Int32) (sm od st cl us : Nat → Int32) (w : Nat) (h : Nat) (x : Int32) (y : Int32) (gw : 1 ≤ w) (gh : 1 ≤ h) : roMet l yX1_isCell wsX1_isCell ({ frames := 0, cells := 0, slots := 0, locals := 0 } : Room) D (W1 o cI cZ th (nI w) (nI h) tw ch sm od st cl us) [(cI, .int), (cZ, .boolean)] [.ref (o 0), .int x, .int y] (fun r => r = bI (decide (0 ≤ x) && decide (x < nI (w - 1)) && decide (0 ≤ y) && decide (y < nI (h - 1)))) := by
  refine Met.ofW (cc := cX1_isCell) (maxL := 3) (ret := (some .boolean)) (by decide) rfl ?_
  intro p e s m args below meth c s₁ B hml hv
  obtain ⟨rfl, hP, hK⟩ := hv
  have hx := B.exec
  have hb := B.bytes
  have hr := B.returns
  have hts := atoms_spec (ws := wsX1_isCell) B.pre
  have hown : s.vm.findClass RX1 = some m.cls := findClass_of_methodNamed B.named
  have hlocks := B.notSynchronized
  have hin0 : ∀ w ∈ u_ws RX1 TX1 10, w ∈ wsX1_isCell := by decide +kernel
  have hS : va_S (fun _ => False) s.heap s.heap [] := va_S.rf
  have hP : va_P D vwCl (W1 o cI cZ th (nI w) (nI h) tw ch sm od st cl us) s.heap := hP
  have hl := lv_entry ([.ref (o 0), .int x, .int y]) (n := 3) (Nat.le_of_ble_eq_true rfl)
  rw [lg_entry_eq]
  generalize (lg_sl ([.ref (o 0), .int x, .int y]) ++ List.replicate (3 - (lg_sl ([.ref (o 0), .int x, .int y])).length) Slot.unset).toArray = ls at hl ⊢
  have hl : lv_has ls 3 [(0, .ref (o 0)), (1, .int x), (2, .int y)] := hl
  refine lv_iload_n hx hb dX1_isCell_0 rfl (lv_at hl 1 rfl) ?_
  refine lv_if_lt (tgt := 32) hx hb dX1_isCell_1 (by decide) (fun c1 => ?_) (fun c1 => ?_)
  · refine lv_iconst (v := 0) hx hb dX1_isCell_32 (by decide) ?_
    exact W.zret (v := 0) (ty := .boolean) hx hb hr rfl (fun t ht hW => ⟨⟨_, (), rfl, by first | (simp_all [bI]; done) | (simp_all [bI, Int32.lt_iff_toInt_lt, Int32.le_iff_toInt_le]; try omega), trivial⟩, hS.F ht⟩) hS.2.2 dX1_isCell_33
  · refine lv_iload_n hx hb dX1_isCell_4 rfl (lv_at hl 1 rfl) ?_
    refine lv_aload_n hx hb dX1_isCell_5 rfl (lv_at hl 0 rfl) ?_
    refine va_get (D := D) (ci := 1) (v := .int (nI w)) (C := RX1) (T := TX1) (N := 10) hx hb hts hin0 hown hK hP 0 rfl rfl 1 (by decide) (hts (.fieldLink RX1 7 "HeightLinesModel" "w" "I") (by decide +kernel)) (fun _ h9 => h9) rfl dX1_isCell_6 ?_
    refine lv_iconst (v := 1) hx hb dX1_isCell_9 (by decide) ?_
    refine lv_isub hx hb dX1_isCell_10 ?_
    rw [show ((nI w) - 1) = nI (w - 1) from nI_m1 (by omega)]
    refine lv_icmp_ge (tgt := 32) hx hb dX1_isCell_11 (by decide) (fun c11 => ?_) (fun c11 => ?_)
    · refine lv_iconst (v := 0) hx hb dX1_isCell_32 (by decide) ?_
      exact W.zret (v := 0) (ty := .boolean) hx hb hr rfl (fun t ht hW => ⟨⟨_, (), rfl, by first | (simp_all [bI]; done) | (simp_all [bI, Int32.lt_iff_toInt_lt, Int32.le_iff_toInt_le]; try omega), trivial⟩, hS.F ht⟩) hS.2.2 dX1_isCell_33
    · refine lv_iload_n hx hb dX1_isCell_14 rfl (lv_at hl 2 rfl) ?_
      refine lv_if_lt (tgt := 32) hx hb dX1_isCell_15 (by decide) (fun c15 => ?_) (fun c15 => ?_)
      · refine lv_iconst (v := 0) hx hb dX1_isCell_32 (by decide) ?_
        exact W.zret (v := 0) (ty := .boolean) hx hb hr rfl (fun t ht hW => ⟨⟨_, (), rfl, by first | (simp_all [bI]; done) | (simp_all [bI, Int32.lt_iff_toInt_lt, Int32.le_iff_toInt_le]; try omega), trivial⟩, hS.F ht⟩) hS.2.2 dX1_isCell_33
      · refine lv_iload_n hx hb dX1_isCell_18 rfl (lv_at hl 2 rfl) ?_
        refine lv_aload_n hx hb dX1_isCell_19 rfl (lv_at hl 0 rfl) ?_
        refine va_get (D := D) (ci := 1) (v := .int (nI h)) (C := RX1) (T := TX1) (N := 10) hx hb hts hin0 hown hK hP 0 rfl rfl 2 (by decide) (hts (.fieldLink RX1 13 "HeightLinesModel" "h" "I") (by decide +kernel)) (fun _ h9 => h9) rfl dX1_isCell_20 ?_
        refine lv_iconst (v := 1) hx hb dX1_isCell_23 (by decide) ?_
        refine lv_isub hx hb dX1_isCell_24 ?_
        rw [show ((nI h) - 1) = nI (h - 1) from nI_m1 (by omega)]
        refine lv_icmp_ge (tgt := 32) hx hb dX1_isCell_25 (by decide) (fun c25 => ?_) (fun c25 => ?_)
        · refine lv_iconst (v := 0) hx hb dX1_isCell_32 (by decide) ?_
          exact W.zret (v := 0) (ty := .boolean) hx hb hr rfl (fun t ht hW => ⟨⟨_, (), rfl, by first | (simp_all [bI]; done) | (simp_all [bI, Int32.lt_iff_toInt_lt, Int32.le_iff_toInt_le]; try omega), trivial⟩, hS.F ht⟩) hS.2.2 dX1_isCell_33
        · refine lv_iconst (v := 1) hx hb dX1_isCell_28 (by decide) ?_
          refine lv_goto (tgt := 33) hx hb dX1_isCell_29 (by decide) ?_
          exact W.zret (v := 1) (ty := .boolean) hx hb hr rfl (fun t ht hW => ⟨⟨_, (), rfl, by first | (simp_all [bI]; done) | (simp_all [bI, Int32.lt_iff_toInt_lt, Int32.le_iff_toInt_le]; try omega), trivial⟩, hS.F ht⟩) hS.2.2 dX1_isCell_33

set_option maxHeartbeats 4000000 in
set_option maxRecDepth 100000 in
theorem c_X1_isChain (l : Launch) (D : va_G) (o : Nat → Nat) (cI cZ : ClassId) (th co ro tw ch : Int32) (sm od st cl us : Nat → Int32) (y : Int32) : roMet l yX1_isChain wsX1_isChain ({ frames := 0, cells := 0, slots := 0, locals := 0 } : Room) D (W1 o cI cZ th co ro tw ch sm od st cl us) [(cI, .int), (cZ, .boolean)] [.ref (o 0), .int y] (fun r => r = bI (decide (0 ≤ y) && decide (y < ch))) := by
  refine Met.ofW (cc := cX1_isChain) (maxL := 2) (ret := (some .boolean)) (by decide) rfl ?_
  intro p e s m args below meth c s₁ B hml hv
  obtain ⟨rfl, hP, hK⟩ := hv
  have hx := B.exec
  have hb := B.bytes
  have hr := B.returns
  have hts := atoms_spec (ws := wsX1_isChain) B.pre
  have hown : s.vm.findClass RX1 = some m.cls := findClass_of_methodNamed B.named
  have hlocks := B.notSynchronized
  have hin0 : ∀ w ∈ u_ws RX1 TX1 10, w ∈ wsX1_isChain := by decide +kernel
  have hS : va_S (fun _ => False) s.heap s.heap [] := va_S.rf
  have hP : va_P D vwCl (W1 o cI cZ th co ro tw ch sm od st cl us) s.heap := hP
  have hl := lv_entry ([.ref (o 0), .int y]) (n := 2) (Nat.le_of_ble_eq_true rfl)
  rw [lg_entry_eq]
  generalize (lg_sl ([.ref (o 0), .int y]) ++ List.replicate (2 - (lg_sl ([.ref (o 0), .int y])).length) Slot.unset).toArray = ls at hl ⊢
  have hl : lv_has ls 2 [(0, .ref (o 0)), (1, .int y)] := hl
  refine lv_iload_n hx hb dX1_isChain_0 rfl (lv_at hl 1 rfl) ?_
  refine lv_if_lt (tgt := 16) hx hb dX1_isChain_1 (by decide) (fun c1 => ?_) (fun c1 => ?_)
  · refine lv_iconst (v := 0) hx hb dX1_isChain_16 (by decide) ?_
    exact W.zret (v := 0) (ty := .boolean) hx hb hr rfl (fun t ht hW => ⟨⟨_, (), rfl, by first | (simp_all [bI]; done) | (simp_all [bI, Int32.lt_iff_toInt_lt, Int32.le_iff_toInt_le]; try omega), trivial⟩, hS.F ht⟩) hS.2.2 dX1_isChain_17
  · refine lv_iload_n hx hb dX1_isChain_4 rfl (lv_at hl 1 rfl) ?_
    refine lv_aload_n hx hb dX1_isChain_5 rfl (lv_at hl 0 rfl) ?_
    refine va_get (D := D) (ci := 1) (v := .int ch) (C := RX1) (T := TX1) (N := 10) hx hb hts hin0 hown hK hP 0 rfl rfl 9 (by decide) (hts (.fieldLink RX1 39 "HeightLinesModel" "chains" "I") (by decide +kernel)) (fun _ h9 => h9) rfl dX1_isChain_6 ?_
    refine lv_icmp_ge (tgt := 16) hx hb dX1_isChain_9 (by decide) (fun c9 => ?_) (fun c9 => ?_)
    · refine lv_iconst (v := 0) hx hb dX1_isChain_16 (by decide) ?_
      exact W.zret (v := 0) (ty := .boolean) hx hb hr rfl (fun t ht hW => ⟨⟨_, (), rfl, by first | (simp_all [bI]; done) | (simp_all [bI, Int32.lt_iff_toInt_lt, Int32.le_iff_toInt_le]; try omega), trivial⟩, hS.F ht⟩) hS.2.2 dX1_isChain_17
    · refine lv_iconst (v := 1) hx hb dX1_isChain_12 (by decide) ?_
      refine lv_goto (tgt := 17) hx hb dX1_isChain_13 (by decide) ?_
      exact W.zret (v := 1) (ty := .boolean) hx hb hr rfl (fun t ht hW => ⟨⟨_, (), rfl, by first | (simp_all [bI]; done) | (simp_all [bI, Int32.lt_iff_toInt_lt, Int32.le_iff_toInt_le]; try omega), trivial⟩, hS.F ht⟩) hS.2.2 dX1_isChain_17
end
section
set_option maxHeartbeats 4000000 in
set_option maxRecDepth 100000 in
theorem c_X0_exitFrom (l : Launch) (D : va_G) (a : Nat) (k : Nat) (t : Nat) (ga : a < 16) (gk : k < 4) (gt : t < 4) : roMet l yX0_exitFrom wsX0_exitFrom ({ frames := 2, cells := 0, slots := 0, locals := 42 } : Room) D [] [] [.int (nI a), .int (nI k), .int (nI t)] (fun r => r = nI (exA a k t)) := by
  refine Met.ofW (cc := cX0_exitFrom) (maxL := 5) (ret := (some .int)) (by decide) rfl ?_
  intro p e s m args below meth c s₁ B hml hv
  obtain ⟨rfl, hP, hK⟩ := hv
  have hx := B.exec
  have hb := B.bytes
  have hr := B.returns
  have hts := atoms_spec (ws := wsX0_exitFrom) B.pre
  have hown : s.vm.findClass RX0 = some m.cls := findClass_of_methodNamed B.named
  have hlocks := B.notSynchronized
  have hS : va_S (fun _ => False) s.heap s.heap [] := va_S.rf
  have hP : va_P D vwCl [] s.heap := hP
  have hl := lv_entry ([.int (nI a), .int (nI k), .int (nI t)]) (n := 5) (Nat.le_of_ble_eq_true rfl)
  rw [lg_entry_eq]
  generalize (lg_sl ([.int (nI a), .int (nI k), .int (nI t)]) ++ List.replicate (5 - (lg_sl ([.int (nI a), .int (nI k), .int (nI t)])).length) Slot.unset).toArray = ls at hl ⊢
  have hl : lv_has ls 5 [(0, .int (nI a)), (1, .int (nI k)), (2, .int (nI t))] := hl
  have lp : ∀ (n : Nat) (j : Nat) (s0 : Nat), (j ≤ 4) → (5 ≤ j + n) → (s0 < 4) → (exL (4 - j) a s0 t = exA a k t) → ∀ (H : Heap) (locs : List Loc) (ls : Array Slot), va_P D vwCl [] H → va_S (fun _ => False) s.heap H locs → lv_has ls 5 [(3, .int (nI s0)), (4, .int (nI j)), (0, .int (nI a)), (1, .int (nI k)), (2, .int (nI t))] → W p l e (headSpec wsX0_exitFrom ({ frames := 2, cells := 0, slots := 0, locals := 42 } : Room)).room s m ([.int (nI a), .int (nI k), .int (nI t)]).toArray below meth c H locs 0 0 (MQ below (va_Qi (fun r (_ : Unit) => r = nI (exA a k t)) (fun _ _ => True) (fun _ => False)) ([.int (nI a), .int (nI k), .int (nI t)]).toArray s 0 0 (fun _ => False)) (F0 m 9 ls []) := by
    intro n
    induction n with
    | zero =>
      intro j s0 hj hn hs0 he
      exact absurd hn (by omega)
    | succ n ih =>
      intro j s0 hj hn hs0 he H locs ls hP hS hl
      refine lv_iload hx hb dX0_exitFrom_9 (lv_at hl 1 rfl) ?_
      refine lv_iconst (v := 4) hx hb dX0_exitFrom_11 (by decide) ?_
      refine lv_icmp_ge (tgt := 35) hx hb dX0_exitFrom_12 (by decide) (fun c12 => ?_) (fun c12 => ?_)
      · refine lv_iload_n hx hb dX0_exitFrom_35 rfl (lv_at hl 0 rfl) ?_
        exact W.iret (v := nI s0) hx hb hr (fun t ht hW => ⟨⟨_, (), rfl, by rw [← he, exL_0 (by have := le_n (a := 4) c12 (by decide) (by omega); omega)], trivial⟩, hS.F ht⟩) hS.2.2 dX0_exitFrom_36
      · refine lv_iload_n hx hb dX0_exitFrom_15 rfl (lv_at hl 2 rfl) ?_
        refine lv_iload_n hx hb dX0_exitFrom_16 rfl (lv_at hl 0 rfl) ?_
        refine ro_S2 ⟨hx, hb, hml, hown, hts⟩ (c_X0_leavesAt l D a s0 ga (by omega)) (va_cwS 2 hts gX0_exitFrom_X0_leavesAt rfl rfl rfl (by decide +kernel) ⟨Nat.le_of_ble_eq_true rfl, Nat.le_of_ble_eq_true rfl⟩) (va_P0 D vwCl _) (hK.sub [] rfl) hP hS rfl hl.1 (lv_room (Nat.le_of_ble_eq_true rfl)) dX0_exitFrom_17 ⟨Nat.le_of_ble_eq_true rfl, Nat.le_of_ble_eq_true rfl⟩ (fun r17 H locs hr17 hP hS => ?_)
        subst hr17
        refine lv_if_ne (tgt := 35) hx hb dX0_exitFrom_20 (by decide) (fun c20 => ?_) (fun c20 => ?_)
        · refine lv_iload_n hx hb dX0_exitFrom_35 rfl (lv_at hl 0 rfl) ?_
          exact W.iret (v := nI s0) hx hb hr (fun t ht hW => ⟨⟨_, (), rfl, by rw [← he, exL_t (by have := nle_n (a := 4) c12 (by decide) (by omega); omega) (bI_n0.mp c20)], trivial⟩, hS.F ht⟩) hS.2.2 dX0_exitFrom_36
        · refine lv_iload_n hx hb dX0_exitFrom_23 rfl (lv_at hl 0 rfl) ?_
          refine lv_iload_n hx hb dX0_exitFrom_24 rfl (lv_at hl 4 rfl) ?_
          refine lv_iadd hx hb dX0_exitFrom_25 ?_
          rw [show (nI s0 + nI t) = nI (s0 + t) from nI_add _ _]
          refine lv_iconst (v := 4) hx hb dX0_exitFrom_26 (by decide) ?_
          refine lv_irem hx hb dX0_exitFrom_27 (by decide) ?_
          rw [show (nI (s0 + t) - nI (s0 + t) / 4 * 4) = nI ((s0 + t) % 4) from rem4 (by omega)]
          refine lv_istore_n (lv' := [(3, .int (nI ((s0 + t) % 4))), (4, .int (nI j)), (0, .int (nI a)), (1, .int (nI k)), (2, .int (nI t))]) hx hb dX0_exitFrom_28 rfl hl (by decide) rfl (fun ls hl => ?_)
          refine lv_iinc (v := (nI (j + 1))) (lv' := [(4, .int (nI (j + 1))), (3, .int (nI ((s0 + t) % 4))), (0, .int (nI a)), (1, .int (nI k)), (2, .int (nI t))]) hx hb dX0_exitFrom_29 hl (k := 1) rfl (nI_p1 _) (by decide) rfl (fun ls hl => ?_)
          refine lv_goto (tgt := 9) hx hb dX0_exitFrom_32 (by decide) ?_
          exact ih (j + 1) ((s0 + t) % 4) (by have := nle_n (a := 4) c12 (by decide) (by omega); omega) (by omega) (Nat.mod_lt _ (by decide)) (by rw [← exL_f (n := 4 - j) (by have := nle_n (a := 4) c12 (by decide) (by omega); omega) (bI_0.mp c20)]; exact he) _ _ _ hP hS (lv_sub hl [1, 0, 2, 3, 4] rfl)
  refine lv_iload_n hx hb dX0_exitFrom_0 rfl (lv_at hl 1 rfl) ?_
  refine lv_iload_n hx hb dX0_exitFrom_1 rfl (lv_at hl 2 rfl) ?_
  refine lv_iadd hx hb dX0_exitFrom_2 ?_
  rw [show (nI k + nI t) = nI (k + t) from nI_add _ _]
  refine lv_iconst (v := 4) hx hb dX0_exitFrom_3 (by decide) ?_
  refine lv_irem hx hb dX0_exitFrom_4 (by decide) ?_
  rw [show (nI (k + t) - nI (k + t) / 4 * 4) = nI ((k + t) % 4) from rem4 (by omega)]
  refine lv_istore_n (lv' := [(3, .int (nI ((k + t) % 4))), (0, .int (nI a)), (1, .int (nI k)), (2, .int (nI t))]) hx hb dX0_exitFrom_5 rfl hl (by decide) rfl (fun ls hl => ?_)
  refine lv_iconst (v := 0) hx hb dX0_exitFrom_6 (by decide) ?_
  refine lv_istore (lv' := [(4, .int 0), (3, .int (nI ((k + t) % 4))), (0, .int (nI a)), (1, .int (nI k)), (2, .int (nI t))]) hx hb dX0_exitFrom_7 hl (by decide) rfl (fun ls hl => ?_)
  exact lp 5 0 ((k + t) % 4) (by decide) (by decide) (Nat.mod_lt _ (by decide)) rfl _ _ _ hP hS (lv_sub hl [1, 0, 2, 3, 4] rfl)

set_option maxHeartbeats 4000000 in
set_option maxRecDepth 100000 in
theorem c_X0_cornersAbove (l : Launch) (D : va_G) (o : Nat → Nat) (cI : ClassId) (tw op ch : Int32) (sm nx bf od st ow : Nat → Int32) (w : Nat) (h : Nat) (f : Nat → Nat → Int32) (x : Nat) (y : Nat) (gw2 : w ≤ 12) (gh2 : h ≤ 12) (gf : ∀ x y, x < w → y < h → sm (y * w + x) = f x y) (gx : x + 1 < w) (gy : y + 1 < h) : roMet l yX0_cornersAbove wsX0_cornersAbove ({ frames := 2, cells := 0, slots := 0, locals := 45 } : Room) D (W0 o cI (nI w) (nI h) tw op ch sm nx bf od st ow) [(cI, .int)] [.ref (o 0), .int (nI x), .int (nI y)] (fun r => r = nI (mk4 (crn f tw x y) 4)) := by
  refine Met.ofW (cc := cX0_cornersAbove) (maxL := 5) (ret := (some .int)) (by decide) rfl ?_
  intro p e s m args below meth c s₁ B hml hv
  obtain ⟨rfl, hP, hK⟩ := hv
  have hx := B.exec
  have hb := B.bytes
  have hr := B.returns
  have hts := atoms_spec (ws := wsX0_cornersAbove) B.pre
  have hown : s.vm.findClass RX0 = some m.cls := findClass_of_methodNamed B.named
  have hlocks := B.notSynchronized
  have hin0 : ∀ w ∈ u_ws RX0 TX0 11, w ∈ wsX0_cornersAbove := by decide +kernel
  have hS : va_S (fun _ => False) s.heap s.heap [] := va_S.rf
  have hP : va_P D vwCl (W0 o cI (nI w) (nI h) tw op ch sm nx bf od st ow) s.heap := hP
  have hl := lv_entry ([.ref (o 0), .int (nI x), .int (nI y)]) (n := 5) (Nat.le_of_ble_eq_true rfl)
  rw [lg_entry_eq]
  generalize (lg_sl ([.ref (o 0), .int (nI x), .int (nI y)]) ++ List.replicate (5 - (lg_sl ([.ref (o 0), .int (nI x), .int (nI y)])).length) Slot.unset).toArray = ls at hl ⊢
  have hl : lv_has ls 5 [(0, .ref (o 0)), (1, .int (nI x)), (2, .int (nI y))] := hl
  have lp : ∀ (n : Nat) (j : Nat), (j ≤ 4) → (5 ≤ j + n) → ∀ (H : Heap) (locs : List Loc) (ls : Array Slot), va_P D vwCl (W0 o cI (nI w) (nI h) tw op ch sm nx bf od st ow) H → va_S (fun _ => False) s.heap H locs → lv_has ls 5 [(3, .int (nI (mk4 (crn f tw x y) j))), (4, .int (nI j)), (0, .ref (o 0)), (1, .int (nI x)), (2, .int (nI y))] → W p l e (headSpec wsX0_cornersAbove ({ frames := 2, cells := 0, slots := 0, locals := 45 } : Room)).room s m ([.ref (o 0), .int (nI x), .int (nI y)]).toArray below meth c H locs 0 0 (MQ below (va_Qi (fun r (_ : Unit) => r = nI (mk4 (crn f tw x y) 4)) (fun _ _ => True) (fun _ => False)) ([.ref (o 0), .int (nI x), .int (nI y)]).toArray s 0 0 (fun _ => False)) (F0 m 5 ls []) := by
    intro n
    induction n with
    | zero =>
      intro j hj hn
      exact absurd hn (by omega)
    | succ n ih =>
      intro j hj hn H locs ls hP hS hl
      refine lv_iload hx hb dX0_cornersAbove_5 (lv_at hl 1 rfl) ?_
      refine lv_iconst (v := 4) hx hb dX0_cornersAbove_7 (by decide) ?_
      refine lv_icmp_ge (tgt := 39) hx hb dX0_cornersAbove_8 (by decide) (fun c8 => ?_) (fun c8 => ?_)
      · refine lv_iload_n hx hb dX0_cornersAbove_39 rfl (lv_at hl 0 rfl) ?_
        exact W.iret (v := nI (mk4 (crn f tw x y) j)) hx hb hr (fun t ht hW => ⟨⟨_, (), rfl, by rw [show j = 4 from by have := le_n (a := 4) c8 (by decide) (by omega); omega], trivial⟩, hS.F ht⟩) hS.2.2 dX0_cornersAbove_40
      · refine lv_aload_n hx hb dX0_cornersAbove_11 rfl (lv_at hl 2 rfl) ?_
        refine lv_aload_n hx hb dX0_cornersAbove_12 rfl (lv_at hl 2 rfl) ?_
        refine lv_iload_n hx hb dX0_cornersAbove_13 rfl (lv_at hl 3 rfl) ?_
        refine lv_iload_n hx hb dX0_cornersAbove_14 rfl (lv_at hl 4 rfl) ?_
        refine lv_iload hx hb dX0_cornersAbove_15 (lv_at hl 1 rfl) ?_
        refine ro_V3 ⟨hx, hb, hml, hown, hts⟩ (c_X0_cornerSample l D o cI (nI h) tw op ch sm nx bf od st ow w x y j (by have := nle_n (a := 4) c8 (by decide) (by omega); omega)) (cwV 3 hts gX0_cornersAbove_X0_cornerSample rfl rfl rfl (by decide +kernel) ⟨Nat.le_of_ble_eq_true rfl, Nat.le_of_ble_eq_true rfl⟩) (va_recv hK hP (ci := 0) (q0 := 0) rfl rfl) hP hK hP hS rfl hl.1 (lv_room (Nat.le_of_ble_eq_true rfl)) dX0_cornersAbove_17 ⟨Nat.le_of_ble_eq_true rfl, Nat.le_of_ble_eq_true rfl⟩ (fun r17 H locs hr17 hP hS => ?_)
        subst hr17
        refine ro_V1 ⟨hx, hb, hml, hown, hts⟩ (c_X0_isAbove l D o cI (nI w) (nI h) tw op ch sm nx bf od st ow (cY y j * w + cX x j) (sA_lt gw2 gh2 (cX_lt j gx) (cY_lt j gy))) (cwV 1 hts gX0_cornersAbove_X0_isAbove rfl rfl rfl (by decide +kernel) ⟨Nat.le_of_ble_eq_true rfl, Nat.le_of_ble_eq_true rfl⟩) (va_recv hK hP (ci := 0) (q0 := 0) rfl rfl) hP hK hP hS rfl hl.1 (lv_room (Nat.le_of_ble_eq_true rfl)) dX0_cornersAbove_20 ⟨Nat.le_of_ble_eq_true rfl, Nat.le_of_ble_eq_true rfl⟩ (fun r20 H locs hr20 hP hS => ?_)
        subst hr20
        rw [show (bI (abI tw (sm (cY y j * w + cX x j)))) = bI (crn f tw x y j) from by rw [gf _ _ (cX_lt j gx) (cY_lt j gy)]; rfl]
        refine lv_if_eq (tgt := 33) hx hb dX0_cornersAbove_23 (by decide) (fun c23 => ?_) (fun c23 => ?_)
        · refine lv_iinc (v := (nI (j + 1))) (lv' := [(4, .int (nI (j + 1))), (3, .int (nI (mk4 (crn f tw x y) j))), (0, .ref (o 0)), (1, .int (nI x)), (2, .int (nI y))]) hx hb dX0_cornersAbove_33 hl (k := 1) rfl (nI_p1 _) (by decide) rfl (fun ls hl => ?_)
          refine lv_goto (tgt := 5) hx hb dX0_cornersAbove_36 (by decide) ?_
          have hm : mk4 (crn f tw x y) (j + 1) = mk4 (crn f tw x y) j := by simp [mk4, bI_0.mp c23]
          rw [← hm] at hl
          exact ih (j + 1) (by have := nle_n (a := 4) c8 (by decide) (by omega); omega) (by omega) _ _ _ hP hS (lv_sub hl [1, 0, 2, 3, 4] rfl)
        · refine lv_iload_n hx hb dX0_cornersAbove_26 rfl (lv_at hl 0 rfl) ?_
          refine lv_iconst (v := 1) hx hb dX0_cornersAbove_27 (by decide) ?_
          refine lv_iload hx hb dX0_cornersAbove_28 (lv_at hl 1 rfl) ?_
          refine lv_ishl hx hb dX0_cornersAbove_30 ?_
          refine lv_ior hx hb dX0_cornersAbove_31 ?_
          rw [show (nI (mk4 (crn f tw x y) j) ||| (1 <<< (nI j &&& 31))) = nI (mk4 (crn f tw x y) j + 2 ^ j) from or4 j (by have := nle_n (a := 4) c8 (by decide) (by omega); omega) _ (by have := mk4_lt (crn f tw x y) j; have h9 : 2 ^ j ≤ 2 ^ 3 := Nat.pow_le_pow_right (by decide) (by have := nle_n (a := 4) c8 (by decide) (by omega); omega); omega) (mk4_lt _ _)]
          refine lv_istore_n (lv' := [(3, .int (nI (mk4 (crn f tw x y) j + 2 ^ j))), (4, .int (nI j)), (0, .ref (o 0)), (1, .int (nI x)), (2, .int (nI y))]) hx hb dX0_cornersAbove_32 rfl hl (by decide) rfl (fun ls hl => ?_)
          refine lv_iinc (v := (nI (j + 1))) (lv' := [(4, .int (nI (j + 1))), (3, .int (nI (mk4 (crn f tw x y) j + 2 ^ j))), (0, .ref (o 0)), (1, .int (nI x)), (2, .int (nI y))]) hx hb dX0_cornersAbove_33 hl (k := 1) rfl (nI_p1 _) (by decide) rfl (fun ls hl => ?_)
          refine lv_goto (tgt := 5) hx hb dX0_cornersAbove_36 (by decide) ?_
          have hm : mk4 (crn f tw x y) (j + 1) = mk4 (crn f tw x y) j + 2 ^ j := by simp [mk4, bI_n0.mp c23]
          rw [← hm] at hl
          exact ih (j + 1) (by have := nle_n (a := 4) c8 (by decide) (by omega); omega) (by omega) _ _ _ hP hS (lv_sub hl [1, 0, 2, 3, 4] rfl)
  refine lv_iconst (v := 0) hx hb dX0_cornersAbove_0 (by decide) ?_
  refine lv_istore_n (lv' := [(3, .int 0), (0, .ref (o 0)), (1, .int (nI x)), (2, .int (nI y))]) hx hb dX0_cornersAbove_1 rfl hl (by decide) rfl (fun ls hl => ?_)
  refine lv_iconst (v := 0) hx hb dX0_cornersAbove_2 (by decide) ?_
  refine lv_istore (lv' := [(4, .int 0), (3, .int 0), (0, .ref (o 0)), (1, .int (nI x)), (2, .int (nI y))]) hx hb dX0_cornersAbove_3 hl (by decide) rfl (fun ls hl => ?_)
  exact lp 5 0 (by decide) (by decide) _ _ _ hP hS (lv_sub hl [1, 0, 2, 3, 4] rfl)

set_option maxHeartbeats 4000000 in
set_option maxRecDepth 100000 in
theorem c_X0_greatestDivisor (l : Launch) (D : va_G) (a : Nat) (b : Nat) (ga : a < 2 ^ 31) (gb : b < 2 ^ 31) : roMet l yX0_greatestDivisor wsX0_greatestDivisor ({ frames := 0, cells := 0, slots := 0, locals := 0 } : Room) D [] [] [.int (nI a), .int (nI b)] (fun r => r = nI (euc 64 a b)) := by
  refine Met.ofW (cc := cX0_greatestDivisor) (maxL := 6) (ret := (some .int)) (by decide) rfl ?_
  intro p e s m args below meth c s₁ B hml hv
  obtain ⟨rfl, hP, hK⟩ := hv
  have hx := B.exec
  have hb := B.bytes
  have hr := B.returns
  have hts := atoms_spec (ws := wsX0_greatestDivisor) B.pre
  have hown : s.vm.findClass RX0 = some m.cls := findClass_of_methodNamed B.named
  have hlocks := B.notSynchronized
  have hS : va_S (fun _ => False) s.heap s.heap [] := va_S.rf
  have hP : va_P D vwCl [] s.heap := hP
  have hl := lv_entry ([.int (nI a), .int (nI b)]) (n := 6) (Nat.le_of_ble_eq_true rfl)
  rw [lg_entry_eq]
  generalize (lg_sl ([.int (nI a), .int (nI b)]) ++ List.replicate (6 - (lg_sl ([.int (nI a), .int (nI b)])).length) Slot.unset).toArray = ls at hl ⊢
  have hl : lv_has ls 6 [(0, .int (nI a)), (1, .int (nI b))] := hl
  have lp : ∀ (n : Nat) (j : Nat) (u : Nat) (v : Nat), (j ≤ 64) → (65 ≤ j + n) → (u < 2 ^ 31) → (v < 2 ^ 31) → (euc (64 - j) u v = euc 64 a b) → ∀ (H : Heap) (locs : List Loc) (ls : Array Slot), va_P D vwCl [] H → va_S (fun _ => False) s.heap H locs → lv_has ls 6 [(2, .int (nI u)), (3, .int (nI v)), (4, .int (nI j)), (0, .int (nI a)), (1, .int (nI b))] → W p l e (headSpec wsX0_greatestDivisor ({ frames := 0, cells := 0, slots := 0, locals := 0 } : Room)).room s m ([.int (nI a), .int (nI b)]).toArray below meth c H locs 0 0 (MQ below (va_Qi (fun r (_ : Unit) => r = nI (euc 64 a b)) (fun _ _ => True) (fun _ => False)) ([.int (nI a), .int (nI b)]).toArray s 0 0 (fun _ => False)) (F0 m 7 ls []) := by
    intro n
    induction n with
    | zero =>
      intro j u v hj hn hu hv he
      exact absurd hn (by omega)
    | succ n ih =>
      intro j u v hj hn hu hv he H locs ls hP hS hl
      refine lv_iload hx hb dX0_greatestDivisor_7 (lv_at hl 2 rfl) ?_
      refine lv_bipush (v := 64) hx hb dX0_greatestDivisor_9 (by decide) ?_
      refine lv_icmp_ge (tgt := 34) hx hb dX0_greatestDivisor_11 (by decide) (fun c11 => ?_) (fun c11 => ?_)
      · refine lv_iload_n hx hb dX0_greatestDivisor_34 rfl (lv_at hl 0 rfl) ?_
        exact W.iret (v := nI u) hx hb hr (fun t ht hW => ⟨⟨_, (), rfl, by rw [← he, euc_0 (Or.inl (by have := le_n (a := 64) c11 (by decide) (by omega); omega))], trivial⟩, hS.F ht⟩) hS.2.2 dX0_greatestDivisor_35
      · refine lv_iload_n hx hb dX0_greatestDivisor_14 rfl (lv_at hl 1 rfl) ?_
        refine lv_if_eq (tgt := 34) hx hb dX0_greatestDivisor_15 (by decide) (fun c15 => ?_) (fun c15 => ?_)
        · refine lv_iload_n hx hb dX0_greatestDivisor_34 rfl (lv_at hl 0 rfl) ?_
          exact W.iret (v := nI u) hx hb hr (fun t ht hW => ⟨⟨_, (), rfl, by rw [← he, euc_0 (Or.inr ((nI_eq hv (by decide)).mp (c15.trans nI_0.symm)))], trivial⟩, hS.F ht⟩) hS.2.2 dX0_greatestDivisor_35
        · refine lv_iload_n hx hb dX0_greatestDivisor_18 rfl (lv_at hl 0 rfl) ?_
          refine lv_iload_n hx hb dX0_greatestDivisor_19 rfl (lv_at hl 1 rfl) ?_
          refine lv_irem hx hb dX0_greatestDivisor_20 c15 ?_
          rw [show (nI u - nI u / nI v * nI v) = nI (u % v) from pk_rem hu (Nat.pos_of_ne_zero (fun z => c15 (by rw [z]; rfl))) hv]
          refine lv_istore (lv' := [(5, .int (nI (u % v))), (2, .int (nI u)), (3, .int (nI v)), (4, .int (nI j)), (0, .int (nI a)), (1, .int (nI b))]) hx hb dX0_greatestDivisor_21 hl (by decide) rfl (fun ls hl => ?_)
          refine lv_iload_n hx hb dX0_greatestDivisor_23 rfl (lv_at hl 2 rfl) ?_
          refine lv_istore_n (lv' := [(2, .int (nI v)), (5, .int (nI (u % v))), (3, .int (nI v)), (4, .int (nI j)), (0, .int (nI a)), (1, .int (nI b))]) hx hb dX0_greatestDivisor_24 rfl hl (by decide) rfl (fun ls hl => ?_)
          refine lv_iload hx hb dX0_greatestDivisor_25 (lv_at hl 1 rfl) ?_
          refine lv_istore_n (lv' := [(3, .int (nI (u % v))), (2, .int (nI v)), (5, .int (nI (u % v))), (4, .int (nI j)), (0, .int (nI a)), (1, .int (nI b))]) hx hb dX0_greatestDivisor_27 rfl hl (by decide) rfl (fun ls hl => ?_)
          refine lv_iinc (v := (nI (j + 1))) (lv' := [(4, .int (nI (j + 1))), (3, .int (nI (u % v))), (2, .int (nI v)), (5, .int (nI (u % v))), (0, .int (nI a)), (1, .int (nI b))]) hx hb dX0_greatestDivisor_28 hl (k := 3) rfl (nI_p1 _) (by decide) rfl (fun ls hl => ?_)
          refine lv_goto (tgt := 7) hx hb dX0_greatestDivisor_31 (by decide) ?_
          exact ih (j + 1) v (u % v) (by have := nle_n (a := 64) c11 (by decide) (by omega); omega) (by omega) hv (Nat.lt_of_lt_of_le (Nat.mod_lt _ (Nat.pos_of_ne_zero (fun z => c15 (by rw [z]; rfl)))) (Nat.le_of_lt hv)) (by rw [← euc_s (n := 64 - j) (by have := nle_n (a := 64) c11 (by decide) (by omega); omega) (fun z => c15 (by rw [z]; rfl))]; exact he) _ _ _ hP hS (lv_sub hl [2, 1, 0, 4, 5] rfl)
  refine lv_iload_n hx hb dX0_greatestDivisor_0 rfl (lv_at hl 0 rfl) ?_
  refine lv_istore_n (lv' := [(2, .int (nI a)), (0, .int (nI a)), (1, .int (nI b))]) hx hb dX0_greatestDivisor_1 rfl hl (by decide) rfl (fun ls hl => ?_)
  refine lv_iload_n hx hb dX0_greatestDivisor_2 rfl (lv_at hl 2 rfl) ?_
  refine lv_istore_n (lv' := [(3, .int (nI b)), (2, .int (nI a)), (0, .int (nI a)), (1, .int (nI b))]) hx hb dX0_greatestDivisor_3 rfl hl (by decide) rfl (fun ls hl => ?_)
  refine lv_iconst (v := 0) hx hb dX0_greatestDivisor_4 (by decide) ?_
  refine lv_istore (lv' := [(4, .int 0), (3, .int (nI b)), (2, .int (nI a)), (0, .int (nI a)), (1, .int (nI b))]) hx hb dX0_greatestDivisor_5 hl (by decide) rfl (fun ls hl => ?_)
  exact lp 65 0 a b (by decide) (by decide) ga gb rfl _ _ _ hP hS (lv_sub hl [2, 1, 0, 3, 4] rfl)

set_option maxHeartbeats 4000000 in
set_option maxRecDepth 100000 in
theorem c_X0_crossed (l : Launch) (D : va_G) (o : Nat → Nat) (cI : ClassId) (tw op ch : Int32) (sm nx bf od st ow : Nat → Int32) (w : Nat) (h : Nat) (f : Nat → Nat → Int32) (gw : 2 ≤ w) (gw2 : w ≤ 12) (gh : 2 ≤ h) (gh2 : h ≤ 12) (gf : ∀ x y, x < w → y < h → sm (y * w + x) = f x y) : roMet l yX0_crossed wsX0_crossed ({ frames := 4, cells := 0, slots := 0, locals := 83 } : Room) D (W0 o cI (nI w) (nI h) tw op ch sm nx bf od st ow) [(cI, .int)] [.ref (o 0)] (fun r => r = nI (cntB (crB w h f tw) (nE w h))) := by
  refine Met.ofW (cc := cX0_crossed) (maxL := 3) (ret := (some .int)) (by decide) rfl ?_
  intro p e s m args below meth c s₁ B hml hv
  obtain ⟨rfl, hP, hK⟩ := hv
  have hx := B.exec
  have hb := B.bytes
  have hr := B.returns
  have hts := atoms_spec (ws := wsX0_crossed) B.pre
  have hown : s.vm.findClass RX0 = some m.cls := findClass_of_methodNamed B.named
  have hlocks := B.notSynchronized
  have hin0 : ∀ w ∈ u_ws RX0 TX0 11, w ∈ wsX0_crossed := by decide +kernel
  have hS : va_S (fun _ => False) s.heap s.heap [] := va_S.rf
  have hP : va_P D vwCl (W0 o cI (nI w) (nI h) tw op ch sm nx bf od st ow) s.heap := hP
  have hl := lv_entry ([.ref (o 0)]) (n := 3) (Nat.le_of_ble_eq_true rfl)
  rw [lg_entry_eq]
  generalize (lg_sl ([.ref (o 0)]) ++ List.replicate (3 - (lg_sl ([.ref (o 0)])).length) Slot.unset).toArray = ls at hl ⊢
  have hl : lv_has ls 3 [(0, .ref (o 0))] := hl
  have lp : ∀ (n : Nat) (e0 : Nat), (e0 ≤ nE w h) → (e0 ≤ 264) → (nE w h + 1 ≤ e0 + n) → ∀ (H : Heap) (locs : List Loc) (ls : Array Slot), va_P D vwCl (W0 o cI (nI w) (nI h) tw op ch sm nx bf od st ow) H → va_S (fun _ => False) s.heap H locs → lv_has ls 3 [(1, .int (nI (cntB (crB w h f tw) e0))), (2, .int (nI e0)), (0, .ref (o 0))] → W p l e (headSpec wsX0_crossed ({ frames := 4, cells := 0, slots := 0, locals := 83 } : Room)).room s m ([.ref (o 0)]).toArray below meth c H locs 0 0 (MQ below (va_Qi (fun r (_ : Unit) => r = nI (cntB (crB w h f tw) (nE w h))) (fun _ _ => True) (fun _ => False)) ([.ref (o 0)]).toArray s 0 0 (fun _ => False)) (F0 m 4 ls []) := by
    intro n
    induction n with
    | zero =>
      intro e0 hj hj2 hn
      exact absurd hn (by omega)
    | succ n ih =>
      intro e0 hj hj2 hn H locs ls hP hS hl
      refine lv_iload_n hx hb dX0_crossed_4 rfl (lv_at hl 1 rfl) ?_
      refine lv_aload_n hx hb dX0_crossed_5 rfl (lv_at hl 2 rfl) ?_
      refine ro_V0 ⟨hx, hb, hml, hown, hts⟩ (c_X0_edgeCount l D o cI tw op ch sm nx bf od st ow w h (by omega) (by omega)) (cwV 0 hts gX0_crossed_X0_edgeCount rfl rfl rfl (by decide +kernel) ⟨Nat.le_of_ble_eq_true rfl, Nat.le_of_ble_eq_true rfl⟩) (va_recv hK hP (ci := 0) (q0 := 0) rfl rfl) hP hK hP hS rfl hl.1 (lv_room (Nat.le_of_ble_eq_true rfl)) dX0_crossed_6 ⟨Nat.le_of_ble_eq_true rfl, Nat.le_of_ble_eq_true rfl⟩ (fun r6 H locs hr6 hP hS => ?_)
      subst hr6
      refine lv_icmp_ge (tgt := 29) hx hb dX0_crossed_9 (by decide) (fun c9 => ?_) (fun c9 => ?_)
      · refine lv_iload_n hx hb dX0_crossed_29 rfl (lv_at hl 0 rfl) ?_
        exact W.iret (v := nI (cntB (crB w h f tw) e0)) hx hb hr (fun t ht hW => ⟨⟨_, (), rfl, by rw [show e0 = nE w h from by have := le_n c9 (by have := nE_le gw2 gh2; omega) (by omega); omega], trivial⟩, hS.F ht⟩) hS.2.2 dX0_crossed_30
      · refine lv_aload_n hx hb dX0_crossed_12 rfl (lv_at hl 2 rfl) ?_
        refine lv_iload_n hx hb dX0_crossed_13 rfl (lv_at hl 1 rfl) ?_
        refine ro_V1 ⟨hx, hb, hml, hown, hts⟩ (c_X0_isCrossed l D o cI tw op ch sm nx bf od st ow w h f e0 gw gw2 gh gh2 gf (nle_n c9 (by have := nE_le gw2 gh2; omega) (by omega))) (cwV 1 hts gX0_crossed_X0_isCrossed rfl rfl rfl (by decide +kernel) ⟨Nat.le_of_ble_eq_true rfl, Nat.le_of_ble_eq_true rfl⟩) (va_recv hK hP (ci := 0) (q0 := 0) rfl rfl) hP hK hP hS rfl hl.1 (lv_room (Nat.le_of_ble_eq_true rfl)) dX0_crossed_14 ⟨Nat.le_of_ble_eq_true rfl, Nat.le_of_ble_eq_true rfl⟩ (fun r14 H locs hr14 hP hS => ?_)
        subst hr14
        refine lv_if_eq (tgt := 23) hx hb dX0_crossed_17 (by decide) (fun c17 => ?_) (fun c17 => ?_)
        · refine lv_iinc (v := (nI (e0 + 1))) (lv' := [(2, .int (nI (e0 + 1))), (1, .int (nI (cntB (crB w h f tw) e0))), (0, .ref (o 0))]) hx hb dX0_crossed_23 hl (k := 1) rfl (nI_p1 _) (by decide) rfl (fun ls hl => ?_)
          refine lv_goto (tgt := 4) hx hb dX0_crossed_26 (by decide) ?_
          rw [← cntB_f (p := crB w h f tw) (bI_0.mp c17)] at hl
          exact ih (e0 + 1) (nle_n c9 (by have := nE_le gw2 gh2; omega) (by omega)) (by have := nE_le gw2 gh2; have h9 := (nle_n c9 (by have := nE_le gw2 gh2; omega) (by omega)); omega) (by omega) _ _ _ hP hS (lv_sub hl [1, 0, 2] rfl)
        · refine lv_iinc (v := (nI (cntB (crB w h f tw) e0 + 1))) (lv' := [(1, .int (nI (cntB (crB w h f tw) e0 + 1))), (2, .int (nI e0)), (0, .ref (o 0))]) hx hb dX0_crossed_20 hl (k := 0) rfl (nI_p1 _) (by decide) rfl (fun ls hl => ?_)
          refine lv_iinc (v := (nI (e0 + 1))) (lv' := [(2, .int (nI (e0 + 1))), (1, .int (nI (cntB (crB w h f tw) e0 + 1))), (0, .ref (o 0))]) hx hb dX0_crossed_23 hl (k := 1) rfl (nI_p1 _) (by decide) rfl (fun ls hl => ?_)
          refine lv_goto (tgt := 4) hx hb dX0_crossed_26 (by decide) ?_
          rw [← cntB_t (p := crB w h f tw) (bI_n0.mp c17)] at hl
          exact ih (e0 + 1) (nle_n c9 (by have := nE_le gw2 gh2; omega) (by omega)) (by have := nE_le gw2 gh2; have h9 := (nle_n c9 (by have := nE_le gw2 gh2; omega) (by omega)); omega) (by omega) _ _ _ hP hS (lv_sub hl [1, 0, 2] rfl)
  refine lv_iconst (v := 0) hx hb dX0_crossed_0 (by decide) ?_
  refine lv_istore_n (lv' := [(1, .int 0), (0, .ref (o 0))]) hx hb dX0_crossed_1 rfl hl (by decide) rfl (fun ls hl => ?_)
  refine lv_iconst (v := 0) hx hb dX0_crossed_2 (by decide) ?_
  refine lv_istore_n (lv' := [(2, .int 0), (1, .int 0), (0, .ref (o 0))]) hx hb dX0_crossed_3 rfl hl (by decide) rfl (fun ls hl => ?_)
  exact lp (nE w h + 1) 0 (Nat.zero_le _) (Nat.zero_le _) (by omega) _ _ _ hP hS (lv_sub hl [1, 0, 2] rfl)
end
section
set_option maxHeartbeats 4000000 in
set_option maxRecDepth 100000 in
theorem c_X1_leads (l : Launch) (D : va_G) (o : Nat → Nat) (cI cZ : ClassId) (th tw ch : Int32) (sm od st cl us : Nat → Int32) (w : Nat) (h : Nat) (f : Nat → Nat → Int32) (x : Nat) (y : Nat) (k : Nat) (gw2 : w ≤ 12) (gh2 : h ≤ 12) (gf : ∀ x y, x < w → y < h → sm (12 * y + x) = f x y) (gx : x + 1 < w) (gy : y + 1 < h) (gk : k < 4) (gd : dnB f tw x y k = true) : roMet l yX1_leads wsX1_leads ({ frames := 3, cells := 0, slots := 0, locals := 79 } : Room) D (W1 o cI cZ th (nI w) (nI h) tw ch sm od st cl us) [(cI, .int), (cZ, .boolean)] [.ref (o 0), .int (nI x), .int (nI y), .int (nI k)] (fun r => r = nI (eO w h x y (ldB f tw x y k))) := by
  refine Met.ofW (cc := cX1_leads) (maxL := 6) (ret := (some .int)) (by decide) rfl ?_
  intro p e s m args below meth c s₁ B hml hv
  obtain ⟨rfl, hP, hK⟩ := hv
  have hx := B.exec
  have hb := B.bytes
  have hr := B.returns
  have hts := atoms_spec (ws := wsX1_leads) B.pre
  have hown : s.vm.findClass RX1 = some m.cls := findClass_of_methodNamed B.named
  have hlocks := B.notSynchronized
  have hin0 : ∀ w ∈ u_ws RX1 TX1 10, w ∈ wsX1_leads := by decide +kernel
  have hS : va_S (fun _ => False) s.heap s.heap [] := va_S.rf
  have hP : va_P D vwCl (W1 o cI cZ th (nI w) (nI h) tw ch sm od st cl us) s.heap := hP
  have hl := lv_entry ([.ref (o 0), .int (nI x), .int (nI y), .int (nI k)]) (n := 6) (Nat.le_of_ble_eq_true rfl)
  rw [lg_entry_eq]
  generalize (lg_sl ([.ref (o 0), .int (nI x), .int (nI y), .int (nI k)]) ++ List.replicate (6 - (lg_sl ([.ref (o 0), .int (nI x), .int (nI y), .int (nI k)])).length) Slot.unset).toArray = ls at hl ⊢
  have hl : lv_has ls 6 [(0, .ref (o 0)), (1, .int (nI x)), (2, .int (nI y)), (3, .int (nI k))] := hl
  refine lv_aload_n hx hb dX1_leads_0 rfl (lv_at hl 0 rfl) ?_
  refine lv_iload_n hx hb dX1_leads_1 rfl (lv_at hl 1 rfl) ?_
  refine lv_iload_n hx hb dX1_leads_2 rfl (lv_at hl 2 rfl) ?_
  refine lv_iload_n hx hb dX1_leads_3 rfl (lv_at hl 3 rfl) ?_
  refine lv_iconst (v := 1) hx hb dX1_leads_4 (by decide) ?_
  refine lv_iadd hx hb dX1_leads_5 ?_
  rw [show (nI k + 1) = nI (k + 1) from nI_p1 k]
  refine ro_V3 ⟨hx, hb, hml, hown, hts⟩ (c_X1_isUp l D o cI cZ th tw ch sm od st cl us w h f x y (k + 1) gw2 gh2 gf gx gy (by omega)) (cwV 3 hts gX1_leads_X1_isUp rfl rfl rfl (by decide +kernel) ⟨Nat.le_of_ble_eq_true rfl, Nat.le_of_ble_eq_true rfl⟩) (va_recv hK hP (ci := 1) (q0 := 0) rfl rfl) hP hK hP hS rfl hl.1 (lv_room (Nat.le_of_ble_eq_true rfl)) dX1_leads_6 ⟨Nat.le_of_ble_eq_true rfl, Nat.le_of_ble_eq_true rfl⟩ (fun r6 H locs hr6 hP hS => ?_)
  subst hr6
  refine lv_if_eq (tgt := 28) hx hb dX1_leads_9 (by decide) (fun c9 => ?_) (fun c9 => ?_)
  · refine lv_iconst (v := 0) hx hb dX1_leads_28 (by decide) ?_
    refine lv_istore (lv' := [(4, .int 0), (0, .ref (o 0)), (1, .int (nI x)), (2, .int (nI y)), (3, .int (nI k))]) hx hb dX1_leads_29 hl (by decide) rfl (fun ls hl => ?_)
    refine lv_iload hx hb dX1_leads_31 (lv_at hl 0 rfl) ?_
    refine lv_if_eq (tgt := 61) hx hb dX1_leads_33 (by decide) (fun c33 => ?_) (fun c33 => ?_)
    · refine lv_iload_n hx hb dX1_leads_61 rfl (lv_at hl 4 rfl) ?_
      refine lv_iconst (v := 1) hx hb dX1_leads_62 (by decide) ?_
      refine lv_iadd hx hb dX1_leads_63 ?_
      rw [show (nI k + 1) = nI (k + 1) from nI_p1 k]
      refine lv_istore (lv' := [(5, .int (nI (k + 1))), (4, .int 0), (0, .ref (o 0)), (1, .int (nI x)), (2, .int (nI y)), (3, .int (nI k))]) hx hb dX1_leads_64 hl (by decide) rfl (fun ls hl => ?_)
      refine lv_aload_n hx hb dX1_leads_66 rfl (lv_at hl 2 rfl) ?_
      refine lv_iload_n hx hb dX1_leads_67 rfl (lv_at hl 3 rfl) ?_
      refine lv_iload_n hx hb dX1_leads_68 rfl (lv_at hl 4 rfl) ?_
      refine lv_iload hx hb dX1_leads_69 (lv_at hl 0 rfl) ?_
      refine ro_V3 ⟨hx, hb, hml, hown, hts⟩ (c_X1_isUp l D o cI cZ th tw ch sm od st cl us w h f x y (k + 1) gw2 gh2 gf gx gy (by omega)) (cwV 3 hts gX1_leads_X1_isUp rfl rfl rfl (by decide +kernel) ⟨Nat.le_of_ble_eq_true rfl, Nat.le_of_ble_eq_true rfl⟩) (va_recv hK hP (ci := 1) (q0 := 0) rfl rfl) hP hK hP hS rfl hl.1 (lv_room (Nat.le_of_ble_eq_true rfl)) dX1_leads_71 ⟨Nat.le_of_ble_eq_true rfl, Nat.le_of_ble_eq_true rfl⟩ (fun r71 H locs hr71 hP hS => ?_)
      subst hr71
      refine lv_if_ne (tgt := 83) hx hb dX1_leads_74 (by decide) (fun c74 => ?_) (fun c74 => ?_)
      · exact absurd c9 c74
      · refine lv_iinc (v := (nI (k + 1 + 1))) (lv' := [(5, .int (nI (k + 1 + 1))), (4, .int 0), (0, .ref (o 0)), (1, .int (nI x)), (2, .int (nI y)), (3, .int (nI k))]) hx hb dX1_leads_77 hl (k := 0) rfl (nI_p1 _) (by decide) rfl (fun ls hl => ?_)
        refine lv_goto (tgt := 66) hx hb dX1_leads_80 (by decide) ?_
        refine lv_aload_n hx hb dX1_leads_66 rfl (lv_at hl 2 rfl) ?_
        refine lv_iload_n hx hb dX1_leads_67 rfl (lv_at hl 3 rfl) ?_
        refine lv_iload_n hx hb dX1_leads_68 rfl (lv_at hl 4 rfl) ?_
        refine lv_iload hx hb dX1_leads_69 (lv_at hl 0 rfl) ?_
        refine ro_V3 ⟨hx, hb, hml, hown, hts⟩ (c_X1_isUp l D o cI cZ th tw ch sm od st cl us w h f x y (k + 1 + 1) gw2 gh2 gf gx gy (by omega)) (cwV 3 hts gX1_leads_X1_isUp rfl rfl rfl (by decide +kernel) ⟨Nat.le_of_ble_eq_true rfl, Nat.le_of_ble_eq_true rfl⟩) (va_recv hK hP (ci := 1) (q0 := 0) rfl rfl) hP hK hP hS rfl hl.1 (lv_room (Nat.le_of_ble_eq_true rfl)) dX1_leads_71 ⟨Nat.le_of_ble_eq_true rfl, Nat.le_of_ble_eq_true rfl⟩ (fun r71 H locs hr71 hP hS => ?_)
        subst hr71
        refine lv_if_ne (tgt := 83) hx hb dX1_leads_74 (by decide) (fun c74_2 => ?_) (fun c74_2 => ?_)
        · refine lv_aload_n hx hb dX1_leads_83 rfl (lv_at hl 2 rfl) ?_
          refine lv_iload_n hx hb dX1_leads_84 rfl (lv_at hl 3 rfl) ?_
          refine lv_iload_n hx hb dX1_leads_85 rfl (lv_at hl 4 rfl) ?_
          refine lv_iload hx hb dX1_leads_86 (lv_at hl 0 rfl) ?_
          refine ro_V3 ⟨hx, hb, hml, hown, hts⟩ (c_X1_edgeOf l D o cI cZ th tw ch sm od st cl us w h x y (k + 1 + 1) (by omega) (by omega)) (cwV 3 hts gX1_leads_X1_edgeOf rfl rfl rfl (by decide +kernel) ⟨Nat.le_of_ble_eq_true rfl, Nat.le_of_ble_eq_true rfl⟩) (va_recv hK hP (ci := 1) (q0 := 0) rfl rfl) hP hK hP hS rfl hl.1 (lv_room (Nat.le_of_ble_eq_true rfl)) dX1_leads_88 ⟨Nat.le_of_ble_eq_true rfl, Nat.le_of_ble_eq_true rfl⟩ (fun r88 H locs hr88 hP hS => ?_)
          subst hr88
          exact W.iret (v := (nI (eO w h x y (k + 1 + 1)))) hx hb hr (fun t ht hW => ⟨⟨_, (), rfl, by rw [ldB_2 (bI_0.mp c9) (bI_n0.mp c74_2)], trivial⟩, hS.F ht⟩) hS.2.2 dX1_leads_91
        · refine lv_iinc (v := (nI (k + 1 + 1 + 1))) (lv' := [(5, .int (nI (k + 1 + 1 + 1))), (4, .int 0), (0, .ref (o 0)), (1, .int (nI x)), (2, .int (nI y)), (3, .int (nI k))]) hx hb dX1_leads_77 hl (k := 0) rfl (nI_p1 _) (by decide) rfl (fun ls hl => ?_)
          refine lv_goto (tgt := 66) hx hb dX1_leads_80 (by decide) ?_
          refine lv_aload_n hx hb dX1_leads_66 rfl (lv_at hl 2 rfl) ?_
          refine lv_iload_n hx hb dX1_leads_67 rfl (lv_at hl 3 rfl) ?_
          refine lv_iload_n hx hb dX1_leads_68 rfl (lv_at hl 4 rfl) ?_
          refine lv_iload hx hb dX1_leads_69 (lv_at hl 0 rfl) ?_
          refine ro_V3 ⟨hx, hb, hml, hown, hts⟩ (c_X1_isUp l D o cI cZ th tw ch sm od st cl us w h f x y (k + 1 + 1 + 1) gw2 gh2 gf gx gy (by omega)) (cwV 3 hts gX1_leads_X1_isUp rfl rfl rfl (by decide +kernel) ⟨Nat.le_of_ble_eq_true rfl, Nat.le_of_ble_eq_true rfl⟩) (va_recv hK hP (ci := 1) (q0 := 0) rfl rfl) hP hK hP hS rfl hl.1 (lv_room (Nat.le_of_ble_eq_true rfl)) dX1_leads_71 ⟨Nat.le_of_ble_eq_true rfl, Nat.le_of_ble_eq_true rfl⟩ (fun r71 H locs hr71 hP hS => ?_)
          subst hr71
          refine lv_if_ne (tgt := 83) hx hb dX1_leads_74 (by decide) (fun c74_3 => ?_) (fun c74_3 => ?_)
          · refine lv_aload_n hx hb dX1_leads_83 rfl (lv_at hl 2 rfl) ?_
            refine lv_iload_n hx hb dX1_leads_84 rfl (lv_at hl 3 rfl) ?_
            refine lv_iload_n hx hb dX1_leads_85 rfl (lv_at hl 4 rfl) ?_
            refine lv_iload hx hb dX1_leads_86 (lv_at hl 0 rfl) ?_
            refine ro_V3 ⟨hx, hb, hml, hown, hts⟩ (c_X1_edgeOf l D o cI cZ th tw ch sm od st cl us w h x y (k + 1 + 1 + 1) (by omega) (by omega)) (cwV 3 hts gX1_leads_X1_edgeOf rfl rfl rfl (by decide +kernel) ⟨Nat.le_of_ble_eq_true rfl, Nat.le_of_ble_eq_true rfl⟩) (va_recv hK hP (ci := 1) (q0 := 0) rfl rfl) hP hK hP hS rfl hl.1 (lv_room (Nat.le_of_ble_eq_true rfl)) dX1_leads_88 ⟨Nat.le_of_ble_eq_true rfl, Nat.le_of_ble_eq_true rfl⟩ (fun r88 H locs hr88 hP hS => ?_)
            subst hr88
            exact W.iret (v := (nI (eO w h x y (k + 1 + 1 + 1)))) hx hb hr (fun t ht hW => ⟨⟨_, (), rfl, by rw [ldB_3 (bI_0.mp c9) (bI_0.mp c74_2)], trivial⟩, hS.F ht⟩) hS.2.2 dX1_leads_91
          · exact absurd (up_some gd (bI_0.mp c74) (bI_0.mp c74_2)) (by rw [bI_0.mp c74_3]; decide)
    · exact absurd c33 (by decide)
  · refine lv_aload_n hx hb dX1_leads_12 rfl (lv_at hl 0 rfl) ?_
    refine lv_iload_n hx hb dX1_leads_13 rfl (lv_at hl 1 rfl) ?_
    refine lv_iload_n hx hb dX1_leads_14 rfl (lv_at hl 2 rfl) ?_
    refine lv_iload_n hx hb dX1_leads_15 rfl (lv_at hl 3 rfl) ?_
    refine lv_iconst (v := 3) hx hb dX1_leads_16 (by decide) ?_
    refine lv_iadd hx hb dX1_leads_17 ?_
    rw [show (nI k + 3) = nI (k + 3) from nI_add k 3]
    refine ro_V3 ⟨hx, hb, hml, hown, hts⟩ (c_X1_isUp l D o cI cZ th tw ch sm od st cl us w h f x y (k + 3) gw2 gh2 gf gx gy (by omega)) (cwV 3 hts gX1_leads_X1_isUp rfl rfl rfl (by decide +kernel) ⟨Nat.le_of_ble_eq_true rfl, Nat.le_of_ble_eq_true rfl⟩) (va_recv hK hP (ci := 1) (q0 := 0) rfl rfl) hP hK hP hS rfl hl.1 (lv_room (Nat.le_of_ble_eq_true rfl)) dX1_leads_18 ⟨Nat.le_of_ble_eq_true rfl, Nat.le_of_ble_eq_true rfl⟩ (fun r18 H locs hr18 hP hS => ?_)
    subst hr18
    refine lv_if_eq (tgt := 28) hx hb dX1_leads_21 (by decide) (fun c21 => ?_) (fun c21 => ?_)
    · refine lv_iconst (v := 0) hx hb dX1_leads_28 (by decide) ?_
      refine lv_istore (lv' := [(4, .int 0), (0, .ref (o 0)), (1, .int (nI x)), (2, .int (nI y)), (3, .int (nI k))]) hx hb dX1_leads_29 hl (by decide) rfl (fun ls hl => ?_)
      refine lv_iload hx hb dX1_leads_31 (lv_at hl 0 rfl) ?_
      refine lv_if_eq (tgt := 61) hx hb dX1_leads_33 (by decide) (fun c33 => ?_) (fun c33 => ?_)
      · refine lv_iload_n hx hb dX1_leads_61 rfl (lv_at hl 4 rfl) ?_
        refine lv_iconst (v := 1) hx hb dX1_leads_62 (by decide) ?_
        refine lv_iadd hx hb dX1_leads_63 ?_
        rw [show (nI k + 1) = nI (k + 1) from nI_p1 k]
        refine lv_istore (lv' := [(5, .int (nI (k + 1))), (4, .int 0), (0, .ref (o 0)), (1, .int (nI x)), (2, .int (nI y)), (3, .int (nI k))]) hx hb dX1_leads_64 hl (by decide) rfl (fun ls hl => ?_)
        refine lv_aload_n hx hb dX1_leads_66 rfl (lv_at hl 2 rfl) ?_
        refine lv_iload_n hx hb dX1_leads_67 rfl (lv_at hl 3 rfl) ?_
        refine lv_iload_n hx hb dX1_leads_68 rfl (lv_at hl 4 rfl) ?_
        refine lv_iload hx hb dX1_leads_69 (lv_at hl 0 rfl) ?_
        refine ro_V3 ⟨hx, hb, hml, hown, hts⟩ (c_X1_isUp l D o cI cZ th tw ch sm od st cl us w h f x y (k + 1) gw2 gh2 gf gx gy (by omega)) (cwV 3 hts gX1_leads_X1_isUp rfl rfl rfl (by decide +kernel) ⟨Nat.le_of_ble_eq_true rfl, Nat.le_of_ble_eq_true rfl⟩) (va_recv hK hP (ci := 1) (q0 := 0) rfl rfl) hP hK hP hS rfl hl.1 (lv_room (Nat.le_of_ble_eq_true rfl)) dX1_leads_71 ⟨Nat.le_of_ble_eq_true rfl, Nat.le_of_ble_eq_true rfl⟩ (fun r71 H locs hr71 hP hS => ?_)
        subst hr71
        refine lv_if_ne (tgt := 83) hx hb dX1_leads_74 (by decide) (fun c74 => ?_) (fun c74 => ?_)
        · refine lv_aload_n hx hb dX1_leads_83 rfl (lv_at hl 2 rfl) ?_
          refine lv_iload_n hx hb dX1_leads_84 rfl (lv_at hl 3 rfl) ?_
          refine lv_iload_n hx hb dX1_leads_85 rfl (lv_at hl 4 rfl) ?_
          refine lv_iload hx hb dX1_leads_86 (lv_at hl 0 rfl) ?_
          refine ro_V3 ⟨hx, hb, hml, hown, hts⟩ (c_X1_edgeOf l D o cI cZ th tw ch sm od st cl us w h x y (k + 1) (by omega) (by omega)) (cwV 3 hts gX1_leads_X1_edgeOf rfl rfl rfl (by decide +kernel) ⟨Nat.le_of_ble_eq_true rfl, Nat.le_of_ble_eq_true rfl⟩) (va_recv hK hP (ci := 1) (q0 := 0) rfl rfl) hP hK hP hS rfl hl.1 (lv_room (Nat.le_of_ble_eq_true rfl)) dX1_leads_88 ⟨Nat.le_of_ble_eq_true rfl, Nat.le_of_ble_eq_true rfl⟩ (fun r88 H locs hr88 hP hS => ?_)
          subst hr88
          exact W.iret (v := (nI (eO w h x y (k + 1)))) hx hb hr (fun t ht hW => ⟨⟨_, (), rfl, by rw [ldB_1 (bI_n0.mp c9) (bI_0.mp c21)], trivial⟩, hS.F ht⟩) hS.2.2 dX1_leads_91
        · exact absurd c74 c9
      · exact absurd c33 (by decide)
    · refine lv_iconst (v := 1) hx hb dX1_leads_24 (by decide) ?_
      refine lv_goto (tgt := 29) hx hb dX1_leads_25 (by decide) ?_
      refine lv_istore (lv' := [(4, .int 1), (0, .ref (o 0)), (1, .int (nI x)), (2, .int (nI y)), (3, .int (nI k))]) hx hb dX1_leads_29 hl (by decide) rfl (fun ls hl => ?_)
      refine lv_iload hx hb dX1_leads_31 (lv_at hl 0 rfl) ?_
      refine lv_if_eq (tgt := 61) hx hb dX1_leads_33 (by decide) (fun c33 => ?_) (fun c33 => ?_)
      · exact absurd c33 (by decide)
      · refine lv_aload_n hx hb dX1_leads_36 rfl (lv_at hl 1 rfl) ?_
        refine lv_iload_n hx hb dX1_leads_37 rfl (lv_at hl 2 rfl) ?_
        refine lv_iload_n hx hb dX1_leads_38 rfl (lv_at hl 3 rfl) ?_
        refine lv_aload_n hx hb dX1_leads_39 rfl (lv_at hl 1 rfl) ?_
        refine lv_iload_n hx hb dX1_leads_40 rfl (lv_at hl 2 rfl) ?_
        refine lv_iload_n hx hb dX1_leads_41 rfl (lv_at hl 3 rfl) ?_
        refine ro_V2 ⟨hx, hb, hml, hown, hts⟩ (c_X1_isMiddleAbove l D o cI cZ th tw ch sm od st cl us w h f x y gw2 gh2 gf gx gy) (cwV 2 hts gX1_leads_X1_isMiddleAbove rfl rfl rfl (by decide +kernel) ⟨Nat.le_of_ble_eq_true rfl, Nat.le_of_ble_eq_true rfl⟩) (va_recv hK hP (ci := 1) (q0 := 0) rfl rfl) hP hK hP hS rfl hl.1 (lv_room (Nat.le_of_ble_eq_true rfl)) dX1_leads_42 ⟨Nat.le_of_ble_eq_true rfl, Nat.le_of_ble_eq_true rfl⟩ (fun r42 H locs hr42 hP hS => ?_)
        subst hr42
        refine lv_if_eq (tgt := 54) hx hb dX1_leads_45 (by decide) (fun c45 => ?_) (fun c45 => ?_)
        · refine lv_iload_n hx hb dX1_leads_54 rfl (lv_at hl 4 rfl) ?_
          refine lv_iconst (v := 3) hx hb dX1_leads_55 (by decide) ?_
          refine lv_iadd hx hb dX1_leads_56 ?_
          rw [show (nI k + 3) = nI (k + 3) from nI_add k 3]
          refine ro_V3 ⟨hx, hb, hml, hown, hts⟩ (c_X1_edgeOf l D o cI cZ th tw ch sm od st cl us w h x y (k + 3) (by omega) (by omega)) (cwV 3 hts gX1_leads_X1_edgeOf rfl rfl rfl (by decide +kernel) ⟨Nat.le_of_ble_eq_true rfl, Nat.le_of_ble_eq_true rfl⟩) (va_recv hK hP (ci := 1) (q0 := 0) rfl rfl) hP hK hP hS rfl hl.1 (lv_room (Nat.le_of_ble_eq_true rfl)) dX1_leads_57 ⟨Nat.le_of_ble_eq_true rfl, Nat.le_of_ble_eq_true rfl⟩ (fun r57 H locs hr57 hP hS => ?_)
          subst hr57
          exact W.iret (v := (nI (eO w h x y (k + 3)))) hx hb hr (fun t ht hW => ⟨⟨_, (), rfl, by rw [ldB_4 (bI_n0.mp c9) (bI_n0.mp c21), if_neg (by simp [bI_0.mp c45])], trivial⟩, hS.F ht⟩) hS.2.2 dX1_leads_60
        · refine lv_iload_n hx hb dX1_leads_48 rfl (lv_at hl 4 rfl) ?_
          refine lv_iconst (v := 1) hx hb dX1_leads_49 (by decide) ?_
          refine lv_iadd hx hb dX1_leads_50 ?_
          rw [show (nI k + 1) = nI (k + 1) from nI_p1 k]
          refine lv_goto (tgt := 57) hx hb dX1_leads_51 (by decide) ?_
          refine ro_V3 ⟨hx, hb, hml, hown, hts⟩ (c_X1_edgeOf l D o cI cZ th tw ch sm od st cl us w h x y (k + 1) (by omega) (by omega)) (cwV 3 hts gX1_leads_X1_edgeOf rfl rfl rfl (by decide +kernel) ⟨Nat.le_of_ble_eq_true rfl, Nat.le_of_ble_eq_true rfl⟩) (va_recv hK hP (ci := 1) (q0 := 0) rfl rfl) hP hK hP hS rfl hl.1 (lv_room (Nat.le_of_ble_eq_true rfl)) dX1_leads_57 ⟨Nat.le_of_ble_eq_true rfl, Nat.le_of_ble_eq_true rfl⟩ (fun r57 H locs hr57 hP hS => ?_)
          subst hr57
          exact W.iret (v := (nI (eO w h x y (k + 1)))) hx hb hr (fun t ht hW => ⟨⟨_, (), rfl, by rw [ldB_4 (bI_n0.mp c9) (bI_n0.mp c21), if_pos (by simp [bI_n0.mp c45])], trivial⟩, hS.F ht⟩) hS.2.2 dX1_leads_60

set_option maxHeartbeats 4000000 in
set_option maxRecDepth 100000 in
theorem c_X1_next (l : Launch) (D : va_G) (o : Nat → Nat) (cI cZ : ClassId) (th tw ch : Int32) (sm od st cl us : Nat → Int32) (w : Nat) (h : Nat) (f : Nat → Nat → Int32) (e0 : Nat) (gw : 2 ≤ w) (gw2 : w ≤ 12) (gh : 2 ≤ h) (gh2 : h ≤ 12) (gf : ∀ x y, x < w → y < h → sm (12 * y + x) = f x y) (ge : e0 < nE w h) : roMet l yX1_next wsX1_next ({ frames := 4, cells := 0, slots := 0, locals := 104 } : Room) D (W1 o cI cZ th (nI w) (nI h) tw ch sm od st cl us) [(cI, .int), (cZ, .boolean)] [.ref (o 0), .int (nI e0)] (fun r => r = nxR w h f tw e0) := by
  refine Met.ofW (cc := cX1_next) (maxL := 9) (ret := (some .int)) (by decide) rfl ?_
  intro p e s m args below meth c s₁ B hml hv
  obtain ⟨rfl, hP, hK⟩ := hv
  have hx := B.exec
  have hb := B.bytes
  have hr := B.returns
  have hts := atoms_spec (ws := wsX1_next) B.pre
  have hown : s.vm.findClass RX1 = some m.cls := findClass_of_methodNamed B.named
  have hlocks := B.notSynchronized
  have hin0 : ∀ w ∈ u_ws RX1 TX1 10, w ∈ wsX1_next := by decide +kernel
  have hS : va_S (fun _ => False) s.heap s.heap [] := va_S.rf
  have hP : va_P D vwCl (W1 o cI cZ th (nI w) (nI h) tw ch sm od st cl us) s.heap := hP
  have hl := lv_entry ([.ref (o 0), .int (nI e0)]) (n := 9) (Nat.le_of_ble_eq_true rfl)
  rw [lg_entry_eq]
  generalize (lg_sl ([.ref (o 0), .int (nI e0)]) ++ List.replicate (9 - (lg_sl ([.ref (o 0), .int (nI e0)])).length) Slot.unset).toArray = ls at hl ⊢
  have hl : lv_has ls 9 [(0, .ref (o 0)), (1, .int (nI e0))] := hl
  have hxy := xy_1 gw gh ge
  obtain ⟨x0, ex0⟩ : ∃ z, z = xE w h e0 := ⟨_, rfl⟩
  obtain ⟨y0, ey0⟩ : ∃ z, z = yE w h e0 := ⟨_, rfl⟩
  rw [← ex0, ← ey0] at hxy
  refine lv_aload_n hx hb dX1_next_0 rfl (lv_at hl 0 rfl) ?_
  refine lv_iload_n hx hb dX1_next_1 rfl (lv_at hl 1 rfl) ?_
  refine ro_V1 ⟨hx, hb, hml, hown, hts⟩ (c_X1_xOf l D o cI cZ th tw ch sm od st cl us w h e0 gw gw2 gh2 (by have := nE_le gw2 gh2; omega)) (cwV 1 hts gX1_next_X1_xOf rfl rfl rfl (by decide +kernel) ⟨Nat.le_of_ble_eq_true rfl, Nat.le_of_ble_eq_true rfl⟩) (va_recv hK hP (ci := 1) (q0 := 0) rfl rfl) hP hK hP hS rfl hl.1 (lv_room (Nat.le_of_ble_eq_true rfl)) dX1_next_2 ⟨Nat.le_of_ble_eq_true rfl, Nat.le_of_ble_eq_true rfl⟩ (fun r2 H locs hr2 hP hS => ?_)
  subst hr2
  rw [show (nI (xE w h e0)) = nI x0 from by rw [ex0]]
  refine lv_istore_n (lv' := [(2, .int (nI x0)), (0, .ref (o 0)), (1, .int (nI e0))]) hx hb dX1_next_5 rfl hl (by decide) rfl (fun ls hl => ?_)
  refine lv_aload_n hx hb dX1_next_6 rfl (lv_at hl 1 rfl) ?_
  refine lv_iload_n hx hb dX1_next_7 rfl (lv_at hl 2 rfl) ?_
  refine ro_V1 ⟨hx, hb, hml, hown, hts⟩ (c_X1_yOf l D o cI cZ th tw ch sm od st cl us w h e0 gw gw2 gh2 (by have := nE_le gw2 gh2; omega)) (cwV 1 hts gX1_next_X1_yOf rfl rfl rfl (by decide +kernel) ⟨Nat.le_of_ble_eq_true rfl, Nat.le_of_ble_eq_true rfl⟩) (va_recv hK hP (ci := 1) (q0 := 0) rfl rfl) hP hK hP hS rfl hl.1 (lv_room (Nat.le_of_ble_eq_true rfl)) dX1_next_8 ⟨Nat.le_of_ble_eq_true rfl, Nat.le_of_ble_eq_true rfl⟩ (fun r8 H locs hr8 hP hS => ?_)
  subst hr8
  rw [show (nI (yE w h e0)) = nI y0 from by rw [ey0]]
  refine lv_istore_n (lv' := [(3, .int (nI y0)), (2, .int (nI x0)), (0, .ref (o 0)), (1, .int (nI e0))]) hx hb dX1_next_11 rfl hl (by decide) rfl (fun ls hl => ?_)
  refine lv_iconst (v := (-1)) hx hb dX1_next_12 (by decide) ?_
  refine lv_istore (lv' := [(4, .int (-1)), (3, .int (nI y0)), (2, .int (nI x0)), (0, .ref (o 0)), (1, .int (nI e0))]) hx hb dX1_next_13 hl (by decide) rfl (fun ls hl => ?_)
  refine lv_iconst (v := 0) hx hb dX1_next_15 (by decide) ?_
  refine lv_istore (lv' := [(5, .int 0), (4, .int (-1)), (3, .int (nI y0)), (2, .int (nI x0)), (0, .ref (o 0)), (1, .int (nI e0))]) hx hb dX1_next_16 hl (by decide) rfl (fun ls hl => ?_)
  refine lv_iload hx hb dX1_next_18 (lv_at hl 0 rfl) ?_
  refine lv_iconst (v := 2) hx hb dX1_next_20 (by decide) ?_
  refine lv_icmp_ge (tgt := 125) hx hb dX1_next_21 (by decide) (fun c21 => ?_) (fun c21 => ?_)
  · exact absurd c21 (by decide)
  · refine lv_aload_n hx hb dX1_next_24 rfl (lv_at hl 4 rfl) ?_
    refine lv_iload_n hx hb dX1_next_25 rfl (lv_at hl 5 rfl) ?_
    refine ro_V1 ⟨hx, hb, hml, hown, hts⟩ (c_X1_isAcross l D o cI cZ th tw ch sm od st cl us w h e0 gw gw2 gh2 (by have := nE_le gw2 gh2; omega)) (cwV 1 hts gX1_next_X1_isAcross rfl rfl rfl (by decide +kernel) ⟨Nat.le_of_ble_eq_true rfl, Nat.le_of_ble_eq_true rfl⟩) (va_recv hK hP (ci := 1) (q0 := 0) rfl rfl) hP hK hP hS rfl hl.1 (lv_room (Nat.le_of_ble_eq_true rfl)) dX1_next_26 ⟨Nat.le_of_ble_eq_true rfl, Nat.le_of_ble_eq_true rfl⟩ (fun r26 H locs hr26 hP hS => ?_)
    subst hr26
    refine lv_if_eq (tgt := 36) hx hb dX1_next_29 (by decide) (fun c29 => ?_) (fun c29 => ?_)
    · refine lv_iload_n hx hb dX1_next_36 rfl (lv_at hl 3 rfl) ?_
      refine lv_iload hx hb dX1_next_37 (lv_at hl 0 rfl) ?_
      refine lv_isub hx hb dX1_next_39 ?_
      rw [show ((nI x0) - 0) = nI x0 from by simp]
      refine lv_istore (lv' := [(6, .int (nI x0)), (5, .int 0), (4, .int (-1)), (3, .int (nI y0)), (2, .int (nI x0)), (0, .ref (o 0)), (1, .int (nI e0))]) hx hb dX1_next_40 hl (by decide) rfl (fun ls hl => ?_)
      refine lv_aload_n hx hb dX1_next_42 rfl (lv_at hl 5 rfl) ?_
      refine lv_iload_n hx hb dX1_next_43 rfl (lv_at hl 6 rfl) ?_
      refine ro_V1 ⟨hx, hb, hml, hown, hts⟩ (c_X1_isAcross l D o cI cZ th tw ch sm od st cl us w h e0 gw gw2 gh2 (by have := nE_le gw2 gh2; omega)) (cwV 1 hts gX1_next_X1_isAcross rfl rfl rfl (by decide +kernel) ⟨Nat.le_of_ble_eq_true rfl, Nat.le_of_ble_eq_true rfl⟩) (va_recv hK hP (ci := 1) (q0 := 0) rfl rfl) hP hK hP hS rfl hl.1 (lv_room (Nat.le_of_ble_eq_true rfl)) dX1_next_44 ⟨Nat.le_of_ble_eq_true rfl, Nat.le_of_ble_eq_true rfl⟩ (fun r44 H locs hr44 hP hS => ?_)
      subst hr44
      refine lv_if_eq (tgt := 57) hx hb dX1_next_47 (by decide) (fun c47 => ?_) (fun c47 => ?_)
      · refine lv_iload_n hx hb dX1_next_57 rfl (lv_at hl 3 rfl) ?_
        refine lv_istore (lv' := [(7, .int (nI y0)), (6, .int (nI x0)), (5, .int 0), (4, .int (-1)), (3, .int (nI y0)), (2, .int (nI x0)), (0, .ref (o 0)), (1, .int (nI e0))]) hx hb dX1_next_58 hl (by decide) rfl (fun ls hl => ?_)
        refine lv_aload_n hx hb dX1_next_60 rfl (lv_at hl 6 rfl) ?_
        refine lv_iload_n hx hb dX1_next_61 rfl (lv_at hl 7 rfl) ?_
        refine ro_V1 ⟨hx, hb, hml, hown, hts⟩ (c_X1_isAcross l D o cI cZ th tw ch sm od st cl us w h e0 gw gw2 gh2 (by have := nE_le gw2 gh2; omega)) (cwV 1 hts gX1_next_X1_isAcross rfl rfl rfl (by decide +kernel) ⟨Nat.le_of_ble_eq_true rfl, Nat.le_of_ble_eq_true rfl⟩) (va_recv hK hP (ci := 1) (q0 := 0) rfl rfl) hP hK hP hS rfl hl.1 (lv_room (Nat.le_of_ble_eq_true rfl)) dX1_next_62 ⟨Nat.le_of_ble_eq_true rfl, Nat.le_of_ble_eq_true rfl⟩ (fun r62 H locs hr62 hP hS => ?_)
        subst hr62
        refine lv_if_eq (tgt := 75) hx hb dX1_next_65 (by decide) (fun c65 => ?_) (fun c65 => ?_)
        · refine lv_iconst (v := 3) hx hb dX1_next_75 (by decide) ?_
          refine lv_iconst (v := 2) hx hb dX1_next_76 (by decide) ?_
          refine lv_iload hx hb dX1_next_77 (lv_at hl 2 rfl) ?_
          refine lv_imul hx hb dX1_next_79 ?_
          refine lv_isub hx hb dX1_next_80 ?_
          rw [show (3 - (2 * 0)) = nI 3 from by decide]
          refine lv_istore (lv' := [(8, .int (nI 3)), (7, .int (nI y0)), (6, .int (nI x0)), (5, .int 0), (4, .int (-1)), (3, .int (nI y0)), (2, .int (nI x0)), (0, .ref (o 0)), (1, .int (nI e0))]) hx hb dX1_next_81 hl (by decide) rfl (fun ls hl => ?_)
          refine lv_aload_n hx hb dX1_next_83 rfl (lv_at hl 7 rfl) ?_
          refine lv_iload hx hb dX1_next_84 (lv_at hl 2 rfl) ?_
          refine lv_iload hx hb dX1_next_86 (lv_at hl 1 rfl) ?_
          refine ro_V2 ⟨hx, hb, hml, hown, hts⟩ (c_X1_isCell l D o cI cZ th tw ch sm od st cl us w h (nI x0) (nI y0) (by omega) (by omega)) (cwV 2 hts gX1_next_X1_isCell rfl rfl rfl (by decide +kernel) ⟨Nat.le_of_ble_eq_true rfl, Nat.le_of_ble_eq_true rfl⟩) (va_recv hK hP (ci := 1) (q0 := 0) rfl rfl) hP hK hP hS rfl hl.1 (lv_room (Nat.le_of_ble_eq_true rfl)) dX1_next_88 ⟨Nat.le_of_ble_eq_true rfl, Nat.le_of_ble_eq_true rfl⟩ (fun r88 H locs hr88 hP hS => ?_)
          subst hr88
          rw [show (bI (decide (0 ≤ (nI x0)) && decide ((nI x0) < nI (w - 1)) && decide (0 ≤ (nI y0)) && decide ((nI y0) < nI (h - 1)))) = bI (cl0 w h x0 y0) from by rw [cl_0 gw gw2 gh gh2 (by omega) (by omega)]]
          refine lv_if_eq (tgt := 119) hx hb dX1_next_91 (by decide) (fun c91 => ?_) (fun c91 => ?_)
          · refine lv_iinc (v := 1) (lv' := [(5, .int 1), (8, .int (nI 3)), (7, .int (nI y0)), (6, .int (nI x0)), (4, .int (-1)), (3, .int (nI y0)), (2, .int (nI x0)), (0, .ref (o 0)), (1, .int (nI e0))]) hx hb dX1_next_119 hl (k := 3) rfl (by decide) (by decide) rfl (fun ls hl => ?_)
            refine lv_goto (tgt := 18) hx hb dX1_next_122 (by decide) ?_
            refine lv_iload hx hb dX1_next_18 (lv_at hl 0 rfl) ?_
            refine lv_iconst (v := 2) hx hb dX1_next_20 (by decide) ?_
            refine lv_icmp_ge (tgt := 125) hx hb dX1_next_21 (by decide) (fun c21_2 => ?_) (fun c21_2 => ?_)
            · exact absurd c21_2 (by decide)
            · refine lv_aload_n hx hb dX1_next_24 rfl (lv_at hl 7 rfl) ?_
              refine lv_iload_n hx hb dX1_next_25 rfl (lv_at hl 8 rfl) ?_
              refine ro_V1 ⟨hx, hb, hml, hown, hts⟩ (c_X1_isAcross l D o cI cZ th tw ch sm od st cl us w h e0 gw gw2 gh2 (by have := nE_le gw2 gh2; omega)) (cwV 1 hts gX1_next_X1_isAcross rfl rfl rfl (by decide +kernel) ⟨Nat.le_of_ble_eq_true rfl, Nat.le_of_ble_eq_true rfl⟩) (va_recv hK hP (ci := 1) (q0 := 0) rfl rfl) hP hK hP hS rfl hl.1 (lv_room (Nat.le_of_ble_eq_true rfl)) dX1_next_26 ⟨Nat.le_of_ble_eq_true rfl, Nat.le_of_ble_eq_true rfl⟩ (fun r26 H locs hr26 hP hS => ?_)
              subst hr26
              refine lv_if_eq (tgt := 36) hx hb dX1_next_29 (by decide) (fun c29_2 => ?_) (fun c29_2 => ?_)
              · refine lv_iload_n hx hb dX1_next_36 rfl (lv_at hl 6 rfl) ?_
                refine lv_iload hx hb dX1_next_37 (lv_at hl 0 rfl) ?_
                refine lv_isub hx hb dX1_next_39 ?_
                rw [show ((nI x0) - 1) = (nI x0 - 1) from rfl]
                refine lv_istore (lv' := [(6, .int (nI x0 - 1)), (5, .int 1), (8, .int (nI 3)), (7, .int (nI y0)), (4, .int (-1)), (3, .int (nI y0)), (2, .int (nI x0)), (0, .ref (o 0)), (1, .int (nI e0))]) hx hb dX1_next_40 hl (by decide) rfl (fun ls hl => ?_)
                refine lv_aload_n hx hb dX1_next_42 rfl (lv_at hl 7 rfl) ?_
                refine lv_iload_n hx hb dX1_next_43 rfl (lv_at hl 8 rfl) ?_
                refine ro_V1 ⟨hx, hb, hml, hown, hts⟩ (c_X1_isAcross l D o cI cZ th tw ch sm od st cl us w h e0 gw gw2 gh2 (by have := nE_le gw2 gh2; omega)) (cwV 1 hts gX1_next_X1_isAcross rfl rfl rfl (by decide +kernel) ⟨Nat.le_of_ble_eq_true rfl, Nat.le_of_ble_eq_true rfl⟩) (va_recv hK hP (ci := 1) (q0 := 0) rfl rfl) hP hK hP hS rfl hl.1 (lv_room (Nat.le_of_ble_eq_true rfl)) dX1_next_44 ⟨Nat.le_of_ble_eq_true rfl, Nat.le_of_ble_eq_true rfl⟩ (fun r44 H locs hr44 hP hS => ?_)
                subst hr44
                refine lv_if_eq (tgt := 57) hx hb dX1_next_47 (by decide) (fun c47_2 => ?_) (fun c47_2 => ?_)
                · refine lv_iload_n hx hb dX1_next_57 rfl (lv_at hl 5 rfl) ?_
                  refine lv_istore (lv' := [(7, .int (nI y0)), (6, .int (nI x0 - 1)), (5, .int 1), (8, .int (nI 3)), (4, .int (-1)), (3, .int (nI y0)), (2, .int (nI x0)), (0, .ref (o 0)), (1, .int (nI e0))]) hx hb dX1_next_58 hl (by decide) rfl (fun ls hl => ?_)
                  refine lv_aload_n hx hb dX1_next_60 rfl (lv_at hl 7 rfl) ?_
                  refine lv_iload_n hx hb dX1_next_61 rfl (lv_at hl 8 rfl) ?_
                  refine ro_V1 ⟨hx, hb, hml, hown, hts⟩ (c_X1_isAcross l D o cI cZ th tw ch sm od st cl us w h e0 gw gw2 gh2 (by have := nE_le gw2 gh2; omega)) (cwV 1 hts gX1_next_X1_isAcross rfl rfl rfl (by decide +kernel) ⟨Nat.le_of_ble_eq_true rfl, Nat.le_of_ble_eq_true rfl⟩) (va_recv hK hP (ci := 1) (q0 := 0) rfl rfl) hP hK hP hS rfl hl.1 (lv_room (Nat.le_of_ble_eq_true rfl)) dX1_next_62 ⟨Nat.le_of_ble_eq_true rfl, Nat.le_of_ble_eq_true rfl⟩ (fun r62 H locs hr62 hP hS => ?_)
                  subst hr62
                  refine lv_if_eq (tgt := 75) hx hb dX1_next_65 (by decide) (fun c65_2 => ?_) (fun c65_2 => ?_)
                  · refine lv_iconst (v := 3) hx hb dX1_next_75 (by decide) ?_
                    refine lv_iconst (v := 2) hx hb dX1_next_76 (by decide) ?_
                    refine lv_iload hx hb dX1_next_77 (lv_at hl 2 rfl) ?_
                    refine lv_imul hx hb dX1_next_79 ?_
                    refine lv_isub hx hb dX1_next_80 ?_
                    rw [show (3 - (2 * 1)) = nI 1 from by decide]
                    refine lv_istore (lv' := [(8, .int (nI 1)), (7, .int (nI y0)), (6, .int (nI x0 - 1)), (5, .int 1), (4, .int (-1)), (3, .int (nI y0)), (2, .int (nI x0)), (0, .ref (o 0)), (1, .int (nI e0))]) hx hb dX1_next_81 hl (by decide) rfl (fun ls hl => ?_)
                    refine lv_aload_n hx hb dX1_next_83 rfl (lv_at hl 7 rfl) ?_
                    refine lv_iload hx hb dX1_next_84 (lv_at hl 2 rfl) ?_
                    refine lv_iload hx hb dX1_next_86 (lv_at hl 1 rfl) ?_
                    refine ro_V2 ⟨hx, hb, hml, hown, hts⟩ (c_X1_isCell l D o cI cZ th tw ch sm od st cl us w h (nI x0 - 1) (nI y0) (by omega) (by omega)) (cwV 2 hts gX1_next_X1_isCell rfl rfl rfl (by decide +kernel) ⟨Nat.le_of_ble_eq_true rfl, Nat.le_of_ble_eq_true rfl⟩) (va_recv hK hP (ci := 1) (q0 := 0) rfl rfl) hP hK hP hS rfl hl.1 (lv_room (Nat.le_of_ble_eq_true rfl)) dX1_next_88 ⟨Nat.le_of_ble_eq_true rfl, Nat.le_of_ble_eq_true rfl⟩ (fun r88 H locs hr88 hP hS => ?_)
                    subst hr88
                    rw [show (bI (decide (0 ≤ (nI x0 - 1)) && decide ((nI x0 - 1) < nI (w - 1)) && decide (0 ≤ (nI y0)) && decide ((nI y0) < nI (h - 1)))) = bI (clX w h x0 y0) from by rw [cl_X gw gw2 gh gh2 (by omega) (by omega)]]
                    refine lv_if_eq (tgt := 119) hx hb dX1_next_91 (by decide) (fun c91_2 => ?_) (fun c91_2 => ?_)
                    · refine lv_iinc (v := 2) (lv' := [(5, .int 2), (8, .int (nI 1)), (7, .int (nI y0)), (6, .int (nI x0 - 1)), (4, .int (-1)), (3, .int (nI y0)), (2, .int (nI x0)), (0, .ref (o 0)), (1, .int (nI e0))]) hx hb dX1_next_119 hl (k := 3) rfl (by decide) (by decide) rfl (fun ls hl => ?_)
                      refine lv_goto (tgt := 18) hx hb dX1_next_122 (by decide) ?_
                      refine lv_iload hx hb dX1_next_18 (lv_at hl 0 rfl) ?_
                      refine lv_iconst (v := 2) hx hb dX1_next_20 (by decide) ?_
                      refine lv_icmp_ge (tgt := 125) hx hb dX1_next_21 (by decide) (fun c21_3 => ?_) (fun c21_3 => ?_)
                      · refine lv_iload hx hb dX1_next_125 (lv_at hl 4 rfl) ?_
                        exact W.iret (v := (-1)) hx hb hr (fun t ht hW => ⟨⟨_, (), rfl, by unfold nxR; rw [if_neg (bd_f c29), ← ex0, ← ey0]; simp [bI_0.mp c91, bI_0.mp c91_2], trivial⟩, hS.F ht⟩) hS.2.2 dX1_next_127
                      · exact absurd c21_3 (by decide)
                    · have hc1 := clX_ok (bI_n0.mp c91_2)
                      rw [nI_m1 hc1.2.1] at hl
                      refine lv_aload_n hx hb dX1_next_94 rfl (lv_at hl 7 rfl) ?_
                      refine lv_iload hx hb dX1_next_95 (lv_at hl 2 rfl) ?_
                      refine lv_iload hx hb dX1_next_97 (lv_at hl 1 rfl) ?_
                      refine lv_iload hx hb dX1_next_99 (lv_at hl 0 rfl) ?_
                      refine ro_V3 ⟨hx, hb, hml, hown, hts⟩ (c_X1_isDown l D o cI cZ th tw ch sm od st cl us w h f (x0 - 1) y0 1 gw2 gh2 gf (by omega) (by omega) (by decide)) (cwV 3 hts gX1_next_X1_isDown rfl rfl rfl (by decide +kernel) ⟨Nat.le_of_ble_eq_true rfl, Nat.le_of_ble_eq_true rfl⟩) (va_recv hK hP (ci := 1) (q0 := 0) rfl rfl) hP hK hP hS rfl hl.1 (lv_room (Nat.le_of_ble_eq_true rfl)) dX1_next_101 ⟨Nat.le_of_ble_eq_true rfl, Nat.le_of_ble_eq_true rfl⟩ (fun r101 H locs hr101 hP hS => ?_)
                      subst hr101
                      refine lv_if_eq (tgt := 119) hx hb dX1_next_104 (by decide) (fun c104 => ?_) (fun c104 => ?_)
                      · refine lv_iinc (v := 2) (lv' := [(5, .int 2), (8, .int (nI 1)), (7, .int (nI y0)), (6, .int (nI (x0 - 1))), (4, .int (-1)), (3, .int (nI y0)), (2, .int (nI x0)), (0, .ref (o 0)), (1, .int (nI e0))]) hx hb dX1_next_119 hl (k := 3) rfl (by decide) (by decide) rfl (fun ls hl => ?_)
                        refine lv_goto (tgt := 18) hx hb dX1_next_122 (by decide) ?_
                        refine lv_iload hx hb dX1_next_18 (lv_at hl 0 rfl) ?_
                        refine lv_iconst (v := 2) hx hb dX1_next_20 (by decide) ?_
                        refine lv_icmp_ge (tgt := 125) hx hb dX1_next_21 (by decide) (fun c21_3 => ?_) (fun c21_3 => ?_)
                        · refine lv_iload hx hb dX1_next_125 (lv_at hl 4 rfl) ?_
                          exact W.iret (v := (-1)) hx hb hr (fun t ht hW => ⟨⟨_, (), rfl, by unfold nxR; rw [if_neg (bd_f c29), ← ex0, ← ey0]; simp [bI_0.mp c91, bI_n0.mp c91_2, bI_0.mp c104], trivial⟩, hS.F ht⟩) hS.2.2 dX1_next_127
                        · exact absurd c21_3 (by decide)
                      · refine lv_aload_n hx hb dX1_next_107 rfl (lv_at hl 7 rfl) ?_
                        refine lv_iload hx hb dX1_next_108 (lv_at hl 2 rfl) ?_
                        refine lv_iload hx hb dX1_next_110 (lv_at hl 1 rfl) ?_
                        refine lv_iload hx hb dX1_next_112 (lv_at hl 0 rfl) ?_
                        refine ro_V3 ⟨hx, hb, hml, hown, hts⟩ (c_X1_leads l D o cI cZ th tw ch sm od st cl us w h f (x0 - 1) y0 1 gw2 gh2 gf (by omega) (by omega) (by decide) (bI_n0.mp c104)) (cwV 3 hts gX1_next_X1_leads rfl rfl rfl (by decide +kernel) ⟨Nat.le_of_ble_eq_true rfl, Nat.le_of_ble_eq_true rfl⟩) (va_recv hK hP (ci := 1) (q0 := 0) rfl rfl) hP hK hP hS rfl hl.1 (lv_room (Nat.le_of_ble_eq_true rfl)) dX1_next_114 ⟨Nat.le_of_ble_eq_true rfl, Nat.le_of_ble_eq_true rfl⟩ (fun r114 H locs hr114 hP hS => ?_)
                        subst hr114
                        refine lv_istore (lv' := [(4, .int (nI (eO w h (x0 - 1) y0 (ldB f tw (x0 - 1) y0 1)))), (8, .int (nI 1)), (7, .int (nI y0)), (6, .int (nI (x0 - 1))), (5, .int 1), (3, .int (nI y0)), (2, .int (nI x0)), (0, .ref (o 0)), (1, .int (nI e0))]) hx hb dX1_next_117 hl (by decide) rfl (fun ls hl => ?_)
                        refine lv_iinc (v := 2) (lv' := [(5, .int 2), (4, .int (nI (eO w h (x0 - 1) y0 (ldB f tw (x0 - 1) y0 1)))), (8, .int (nI 1)), (7, .int (nI y0)), (6, .int (nI (x0 - 1))), (3, .int (nI y0)), (2, .int (nI x0)), (0, .ref (o 0)), (1, .int (nI e0))]) hx hb dX1_next_119 hl (k := 4) rfl (by decide) (by decide) rfl (fun ls hl => ?_)
                        refine lv_goto (tgt := 18) hx hb dX1_next_122 (by decide) ?_
                        refine lv_iload hx hb dX1_next_18 (lv_at hl 0 rfl) ?_
                        refine lv_iconst (v := 2) hx hb dX1_next_20 (by decide) ?_
                        refine lv_icmp_ge (tgt := 125) hx hb dX1_next_21 (by decide) (fun c21_3 => ?_) (fun c21_3 => ?_)
                        · refine lv_iload hx hb dX1_next_125 (lv_at hl 1 rfl) ?_
                          exact W.iret (v := (nI (eO w h (x0 - 1) y0 (ldB f tw (x0 - 1) y0 1)))) hx hb hr (fun t ht hW => ⟨⟨_, (), rfl, by unfold nxR; rw [if_neg (bd_f c29), ← ex0, ← ey0]; simp [bI_0.mp c91, bI_n0.mp c91_2, bI_n0.mp c104], trivial⟩, hS.F ht⟩) hS.2.2 dX1_next_127
                        · exact absurd c21_3 (by decide)
                  · exact absurd c29 c65_2
                · exact absurd c29 c47_2
              · exact absurd c29 c29_2
          · have hc0 := cl0_ok (bI_n0.mp c91)
            refine lv_aload_n hx hb dX1_next_94 rfl (lv_at hl 7 rfl) ?_
            refine lv_iload hx hb dX1_next_95 (lv_at hl 2 rfl) ?_
            refine lv_iload hx hb dX1_next_97 (lv_at hl 1 rfl) ?_
            refine lv_iload hx hb dX1_next_99 (lv_at hl 0 rfl) ?_
            refine ro_V3 ⟨hx, hb, hml, hown, hts⟩ (c_X1_isDown l D o cI cZ th tw ch sm od st cl us w h f x0 y0 3 gw2 gh2 gf (by omega) (by omega) (by decide)) (cwV 3 hts gX1_next_X1_isDown rfl rfl rfl (by decide +kernel) ⟨Nat.le_of_ble_eq_true rfl, Nat.le_of_ble_eq_true rfl⟩) (va_recv hK hP (ci := 1) (q0 := 0) rfl rfl) hP hK hP hS rfl hl.1 (lv_room (Nat.le_of_ble_eq_true rfl)) dX1_next_101 ⟨Nat.le_of_ble_eq_true rfl, Nat.le_of_ble_eq_true rfl⟩ (fun r101 H locs hr101 hP hS => ?_)
            subst hr101
            refine lv_if_eq (tgt := 119) hx hb dX1_next_104 (by decide) (fun c104 => ?_) (fun c104 => ?_)
            · refine lv_iinc (v := 1) (lv' := [(5, .int 1), (8, .int (nI 3)), (7, .int (nI y0)), (6, .int (nI x0)), (4, .int (-1)), (3, .int (nI y0)), (2, .int (nI x0)), (0, .ref (o 0)), (1, .int (nI e0))]) hx hb dX1_next_119 hl (k := 3) rfl (by decide) (by decide) rfl (fun ls hl => ?_)
              refine lv_goto (tgt := 18) hx hb dX1_next_122 (by decide) ?_
              refine lv_iload hx hb dX1_next_18 (lv_at hl 0 rfl) ?_
              refine lv_iconst (v := 2) hx hb dX1_next_20 (by decide) ?_
              refine lv_icmp_ge (tgt := 125) hx hb dX1_next_21 (by decide) (fun c21_2 => ?_) (fun c21_2 => ?_)
              · exact absurd c21_2 (by decide)
              · refine lv_aload_n hx hb dX1_next_24 rfl (lv_at hl 7 rfl) ?_
                refine lv_iload_n hx hb dX1_next_25 rfl (lv_at hl 8 rfl) ?_
                refine ro_V1 ⟨hx, hb, hml, hown, hts⟩ (c_X1_isAcross l D o cI cZ th tw ch sm od st cl us w h e0 gw gw2 gh2 (by have := nE_le gw2 gh2; omega)) (cwV 1 hts gX1_next_X1_isAcross rfl rfl rfl (by decide +kernel) ⟨Nat.le_of_ble_eq_true rfl, Nat.le_of_ble_eq_true rfl⟩) (va_recv hK hP (ci := 1) (q0 := 0) rfl rfl) hP hK hP hS rfl hl.1 (lv_room (Nat.le_of_ble_eq_true rfl)) dX1_next_26 ⟨Nat.le_of_ble_eq_true rfl, Nat.le_of_ble_eq_true rfl⟩ (fun r26 H locs hr26 hP hS => ?_)
                subst hr26
                refine lv_if_eq (tgt := 36) hx hb dX1_next_29 (by decide) (fun c29_2 => ?_) (fun c29_2 => ?_)
                · refine lv_iload_n hx hb dX1_next_36 rfl (lv_at hl 6 rfl) ?_
                  refine lv_iload hx hb dX1_next_37 (lv_at hl 0 rfl) ?_
                  refine lv_isub hx hb dX1_next_39 ?_
                  rw [show ((nI x0) - 1) = (nI x0 - 1) from rfl]
                  refine lv_istore (lv' := [(6, .int (nI x0 - 1)), (5, .int 1), (8, .int (nI 3)), (7, .int (nI y0)), (4, .int (-1)), (3, .int (nI y0)), (2, .int (nI x0)), (0, .ref (o 0)), (1, .int (nI e0))]) hx hb dX1_next_40 hl (by decide) rfl (fun ls hl => ?_)
                  refine lv_aload_n hx hb dX1_next_42 rfl (lv_at hl 7 rfl) ?_
                  refine lv_iload_n hx hb dX1_next_43 rfl (lv_at hl 8 rfl) ?_
                  refine ro_V1 ⟨hx, hb, hml, hown, hts⟩ (c_X1_isAcross l D o cI cZ th tw ch sm od st cl us w h e0 gw gw2 gh2 (by have := nE_le gw2 gh2; omega)) (cwV 1 hts gX1_next_X1_isAcross rfl rfl rfl (by decide +kernel) ⟨Nat.le_of_ble_eq_true rfl, Nat.le_of_ble_eq_true rfl⟩) (va_recv hK hP (ci := 1) (q0 := 0) rfl rfl) hP hK hP hS rfl hl.1 (lv_room (Nat.le_of_ble_eq_true rfl)) dX1_next_44 ⟨Nat.le_of_ble_eq_true rfl, Nat.le_of_ble_eq_true rfl⟩ (fun r44 H locs hr44 hP hS => ?_)
                  subst hr44
                  refine lv_if_eq (tgt := 57) hx hb dX1_next_47 (by decide) (fun c47_2 => ?_) (fun c47_2 => ?_)
                  · refine lv_iload_n hx hb dX1_next_57 rfl (lv_at hl 5 rfl) ?_
                    refine lv_istore (lv' := [(7, .int (nI y0)), (6, .int (nI x0 - 1)), (5, .int 1), (8, .int (nI 3)), (4, .int (-1)), (3, .int (nI y0)), (2, .int (nI x0)), (0, .ref (o 0)), (1, .int (nI e0))]) hx hb dX1_next_58 hl (by decide) rfl (fun ls hl => ?_)
                    refine lv_aload_n hx hb dX1_next_60 rfl (lv_at hl 7 rfl) ?_
                    refine lv_iload_n hx hb dX1_next_61 rfl (lv_at hl 8 rfl) ?_
                    refine ro_V1 ⟨hx, hb, hml, hown, hts⟩ (c_X1_isAcross l D o cI cZ th tw ch sm od st cl us w h e0 gw gw2 gh2 (by have := nE_le gw2 gh2; omega)) (cwV 1 hts gX1_next_X1_isAcross rfl rfl rfl (by decide +kernel) ⟨Nat.le_of_ble_eq_true rfl, Nat.le_of_ble_eq_true rfl⟩) (va_recv hK hP (ci := 1) (q0 := 0) rfl rfl) hP hK hP hS rfl hl.1 (lv_room (Nat.le_of_ble_eq_true rfl)) dX1_next_62 ⟨Nat.le_of_ble_eq_true rfl, Nat.le_of_ble_eq_true rfl⟩ (fun r62 H locs hr62 hP hS => ?_)
                    subst hr62
                    refine lv_if_eq (tgt := 75) hx hb dX1_next_65 (by decide) (fun c65_2 => ?_) (fun c65_2 => ?_)
                    · refine lv_iconst (v := 3) hx hb dX1_next_75 (by decide) ?_
                      refine lv_iconst (v := 2) hx hb dX1_next_76 (by decide) ?_
                      refine lv_iload hx hb dX1_next_77 (lv_at hl 2 rfl) ?_
                      refine lv_imul hx hb dX1_next_79 ?_
                      refine lv_isub hx hb dX1_next_80 ?_
                      rw [show (3 - (2 * 1)) = nI 1 from by decide]
                      refine lv_istore (lv' := [(8, .int (nI 1)), (7, .int (nI y0)), (6, .int (nI x0 - 1)), (5, .int 1), (4, .int (-1)), (3, .int (nI y0)), (2, .int (nI x0)), (0, .ref (o 0)), (1, .int (nI e0))]) hx hb dX1_next_81 hl (by decide) rfl (fun ls hl => ?_)
                      refine lv_aload_n hx hb dX1_next_83 rfl (lv_at hl 7 rfl) ?_
                      refine lv_iload hx hb dX1_next_84 (lv_at hl 2 rfl) ?_
                      refine lv_iload hx hb dX1_next_86 (lv_at hl 1 rfl) ?_
                      refine ro_V2 ⟨hx, hb, hml, hown, hts⟩ (c_X1_isCell l D o cI cZ th tw ch sm od st cl us w h (nI x0 - 1) (nI y0) (by omega) (by omega)) (cwV 2 hts gX1_next_X1_isCell rfl rfl rfl (by decide +kernel) ⟨Nat.le_of_ble_eq_true rfl, Nat.le_of_ble_eq_true rfl⟩) (va_recv hK hP (ci := 1) (q0 := 0) rfl rfl) hP hK hP hS rfl hl.1 (lv_room (Nat.le_of_ble_eq_true rfl)) dX1_next_88 ⟨Nat.le_of_ble_eq_true rfl, Nat.le_of_ble_eq_true rfl⟩ (fun r88 H locs hr88 hP hS => ?_)
                      subst hr88
                      rw [show (bI (decide (0 ≤ (nI x0 - 1)) && decide ((nI x0 - 1) < nI (w - 1)) && decide (0 ≤ (nI y0)) && decide ((nI y0) < nI (h - 1)))) = bI (clX w h x0 y0) from by rw [cl_X gw gw2 gh gh2 (by omega) (by omega)]]
                      refine lv_if_eq (tgt := 119) hx hb dX1_next_91 (by decide) (fun c91_2 => ?_) (fun c91_2 => ?_)
                      · refine lv_iinc (v := 2) (lv' := [(5, .int 2), (8, .int (nI 1)), (7, .int (nI y0)), (6, .int (nI x0 - 1)), (4, .int (-1)), (3, .int (nI y0)), (2, .int (nI x0)), (0, .ref (o 0)), (1, .int (nI e0))]) hx hb dX1_next_119 hl (k := 3) rfl (by decide) (by decide) rfl (fun ls hl => ?_)
                        refine lv_goto (tgt := 18) hx hb dX1_next_122 (by decide) ?_
                        refine lv_iload hx hb dX1_next_18 (lv_at hl 0 rfl) ?_
                        refine lv_iconst (v := 2) hx hb dX1_next_20 (by decide) ?_
                        refine lv_icmp_ge (tgt := 125) hx hb dX1_next_21 (by decide) (fun c21_3 => ?_) (fun c21_3 => ?_)
                        · refine lv_iload hx hb dX1_next_125 (lv_at hl 4 rfl) ?_
                          exact W.iret (v := (-1)) hx hb hr (fun t ht hW => ⟨⟨_, (), rfl, by unfold nxR; rw [if_neg (bd_f c29), ← ex0, ← ey0]; simp [bI_n0.mp c91, bI_0.mp c91_2, bI_0.mp c104], trivial⟩, hS.F ht⟩) hS.2.2 dX1_next_127
                        · exact absurd c21_3 (by decide)
                      · have hc1 := clX_ok (bI_n0.mp c91_2)
                        rw [nI_m1 hc1.2.1] at hl
                        refine lv_aload_n hx hb dX1_next_94 rfl (lv_at hl 7 rfl) ?_
                        refine lv_iload hx hb dX1_next_95 (lv_at hl 2 rfl) ?_
                        refine lv_iload hx hb dX1_next_97 (lv_at hl 1 rfl) ?_
                        refine lv_iload hx hb dX1_next_99 (lv_at hl 0 rfl) ?_
                        refine ro_V3 ⟨hx, hb, hml, hown, hts⟩ (c_X1_isDown l D o cI cZ th tw ch sm od st cl us w h f (x0 - 1) y0 1 gw2 gh2 gf (by omega) (by omega) (by decide)) (cwV 3 hts gX1_next_X1_isDown rfl rfl rfl (by decide +kernel) ⟨Nat.le_of_ble_eq_true rfl, Nat.le_of_ble_eq_true rfl⟩) (va_recv hK hP (ci := 1) (q0 := 0) rfl rfl) hP hK hP hS rfl hl.1 (lv_room (Nat.le_of_ble_eq_true rfl)) dX1_next_101 ⟨Nat.le_of_ble_eq_true rfl, Nat.le_of_ble_eq_true rfl⟩ (fun r101 H locs hr101 hP hS => ?_)
                        subst hr101
                        refine lv_if_eq (tgt := 119) hx hb dX1_next_104 (by decide) (fun c104_2 => ?_) (fun c104_2 => ?_)
                        · refine lv_iinc (v := 2) (lv' := [(5, .int 2), (8, .int (nI 1)), (7, .int (nI y0)), (6, .int (nI (x0 - 1))), (4, .int (-1)), (3, .int (nI y0)), (2, .int (nI x0)), (0, .ref (o 0)), (1, .int (nI e0))]) hx hb dX1_next_119 hl (k := 3) rfl (by decide) (by decide) rfl (fun ls hl => ?_)
                          refine lv_goto (tgt := 18) hx hb dX1_next_122 (by decide) ?_
                          refine lv_iload hx hb dX1_next_18 (lv_at hl 0 rfl) ?_
                          refine lv_iconst (v := 2) hx hb dX1_next_20 (by decide) ?_
                          refine lv_icmp_ge (tgt := 125) hx hb dX1_next_21 (by decide) (fun c21_3 => ?_) (fun c21_3 => ?_)
                          · refine lv_iload hx hb dX1_next_125 (lv_at hl 4 rfl) ?_
                            exact W.iret (v := (-1)) hx hb hr (fun t ht hW => ⟨⟨_, (), rfl, by unfold nxR; rw [if_neg (bd_f c29), ← ex0, ← ey0]; simp [bI_n0.mp c91, bI_n0.mp c91_2, bI_0.mp c104, bI_0.mp c104_2], trivial⟩, hS.F ht⟩) hS.2.2 dX1_next_127
                          · exact absurd c21_3 (by decide)
                        · refine lv_aload_n hx hb dX1_next_107 rfl (lv_at hl 7 rfl) ?_
                          refine lv_iload hx hb dX1_next_108 (lv_at hl 2 rfl) ?_
                          refine lv_iload hx hb dX1_next_110 (lv_at hl 1 rfl) ?_
                          refine lv_iload hx hb dX1_next_112 (lv_at hl 0 rfl) ?_
                          refine ro_V3 ⟨hx, hb, hml, hown, hts⟩ (c_X1_leads l D o cI cZ th tw ch sm od st cl us w h f (x0 - 1) y0 1 gw2 gh2 gf (by omega) (by omega) (by decide) (bI_n0.mp c104_2)) (cwV 3 hts gX1_next_X1_leads rfl rfl rfl (by decide +kernel) ⟨Nat.le_of_ble_eq_true rfl, Nat.le_of_ble_eq_true rfl⟩) (va_recv hK hP (ci := 1) (q0 := 0) rfl rfl) hP hK hP hS rfl hl.1 (lv_room (Nat.le_of_ble_eq_true rfl)) dX1_next_114 ⟨Nat.le_of_ble_eq_true rfl, Nat.le_of_ble_eq_true rfl⟩ (fun r114 H locs hr114 hP hS => ?_)
                          subst hr114
                          refine lv_istore (lv' := [(4, .int (nI (eO w h (x0 - 1) y0 (ldB f tw (x0 - 1) y0 1)))), (8, .int (nI 1)), (7, .int (nI y0)), (6, .int (nI (x0 - 1))), (5, .int 1), (3, .int (nI y0)), (2, .int (nI x0)), (0, .ref (o 0)), (1, .int (nI e0))]) hx hb dX1_next_117 hl (by decide) rfl (fun ls hl => ?_)
                          refine lv_iinc (v := 2) (lv' := [(5, .int 2), (4, .int (nI (eO w h (x0 - 1) y0 (ldB f tw (x0 - 1) y0 1)))), (8, .int (nI 1)), (7, .int (nI y0)), (6, .int (nI (x0 - 1))), (3, .int (nI y0)), (2, .int (nI x0)), (0, .ref (o 0)), (1, .int (nI e0))]) hx hb dX1_next_119 hl (k := 4) rfl (by decide) (by decide) rfl (fun ls hl => ?_)
                          refine lv_goto (tgt := 18) hx hb dX1_next_122 (by decide) ?_
                          refine lv_iload hx hb dX1_next_18 (lv_at hl 0 rfl) ?_
                          refine lv_iconst (v := 2) hx hb dX1_next_20 (by decide) ?_
                          refine lv_icmp_ge (tgt := 125) hx hb dX1_next_21 (by decide) (fun c21_3 => ?_) (fun c21_3 => ?_)
                          · refine lv_iload hx hb dX1_next_125 (lv_at hl 1 rfl) ?_
                            exact W.iret (v := (nI (eO w h (x0 - 1) y0 (ldB f tw (x0 - 1) y0 1)))) hx hb hr (fun t ht hW => ⟨⟨_, (), rfl, by unfold nxR; rw [if_neg (bd_f c29), ← ex0, ← ey0]; simp [bI_n0.mp c91, bI_n0.mp c91_2, bI_0.mp c104, bI_n0.mp c104_2], trivial⟩, hS.F ht⟩) hS.2.2 dX1_next_127
                          · exact absurd c21_3 (by decide)
                    · exact absurd c29 c65_2
                  · exact absurd c29 c47_2
                · exact absurd c29 c29_2
            · refine lv_aload_n hx hb dX1_next_107 rfl (lv_at hl 7 rfl) ?_
              refine lv_iload hx hb dX1_next_108 (lv_at hl 2 rfl) ?_
              refine lv_iload hx hb dX1_next_110 (lv_at hl 1 rfl) ?_
              refine lv_iload hx hb dX1_next_112 (lv_at hl 0 rfl) ?_
              refine ro_V3 ⟨hx, hb, hml, hown, hts⟩ (c_X1_leads l D o cI cZ th tw ch sm od st cl us w h f x0 y0 3 gw2 gh2 gf (by omega) (by omega) (by decide) (bI_n0.mp c104)) (cwV 3 hts gX1_next_X1_leads rfl rfl rfl (by decide +kernel) ⟨Nat.le_of_ble_eq_true rfl, Nat.le_of_ble_eq_true rfl⟩) (va_recv hK hP (ci := 1) (q0 := 0) rfl rfl) hP hK hP hS rfl hl.1 (lv_room (Nat.le_of_ble_eq_true rfl)) dX1_next_114 ⟨Nat.le_of_ble_eq_true rfl, Nat.le_of_ble_eq_true rfl⟩ (fun r114 H locs hr114 hP hS => ?_)
              subst hr114
              refine lv_istore (lv' := [(4, .int (nI (eO w h x0 y0 (ldB f tw x0 y0 3)))), (8, .int (nI 3)), (7, .int (nI y0)), (6, .int (nI x0)), (5, .int 0), (3, .int (nI y0)), (2, .int (nI x0)), (0, .ref (o 0)), (1, .int (nI e0))]) hx hb dX1_next_117 hl (by decide) rfl (fun ls hl => ?_)
              refine lv_iinc (v := 1) (lv' := [(5, .int 1), (4, .int (nI (eO w h x0 y0 (ldB f tw x0 y0 3)))), (8, .int (nI 3)), (7, .int (nI y0)), (6, .int (nI x0)), (3, .int (nI y0)), (2, .int (nI x0)), (0, .ref (o 0)), (1, .int (nI e0))]) hx hb dX1_next_119 hl (k := 4) rfl (by decide) (by decide) rfl (fun ls hl => ?_)
              refine lv_goto (tgt := 18) hx hb dX1_next_122 (by decide) ?_
              refine lv_iload hx hb dX1_next_18 (lv_at hl 0 rfl) ?_
              refine lv_iconst (v := 2) hx hb dX1_next_20 (by decide) ?_
              refine lv_icmp_ge (tgt := 125) hx hb dX1_next_21 (by decide) (fun c21_2 => ?_) (fun c21_2 => ?_)
              · exact absurd c21_2 (by decide)
              · refine lv_aload_n hx hb dX1_next_24 rfl (lv_at hl 7 rfl) ?_
                refine lv_iload_n hx hb dX1_next_25 rfl (lv_at hl 8 rfl) ?_
                refine ro_V1 ⟨hx, hb, hml, hown, hts⟩ (c_X1_isAcross l D o cI cZ th tw ch sm od st cl us w h e0 gw gw2 gh2 (by have := nE_le gw2 gh2; omega)) (cwV 1 hts gX1_next_X1_isAcross rfl rfl rfl (by decide +kernel) ⟨Nat.le_of_ble_eq_true rfl, Nat.le_of_ble_eq_true rfl⟩) (va_recv hK hP (ci := 1) (q0 := 0) rfl rfl) hP hK hP hS rfl hl.1 (lv_room (Nat.le_of_ble_eq_true rfl)) dX1_next_26 ⟨Nat.le_of_ble_eq_true rfl, Nat.le_of_ble_eq_true rfl⟩ (fun r26 H locs hr26 hP hS => ?_)
                subst hr26
                refine lv_if_eq (tgt := 36) hx hb dX1_next_29 (by decide) (fun c29_2 => ?_) (fun c29_2 => ?_)
                · refine lv_iload_n hx hb dX1_next_36 rfl (lv_at hl 6 rfl) ?_
                  refine lv_iload hx hb dX1_next_37 (lv_at hl 0 rfl) ?_
                  refine lv_isub hx hb dX1_next_39 ?_
                  rw [show ((nI x0) - 1) = (nI x0 - 1) from rfl]
                  refine lv_istore (lv' := [(6, .int (nI x0 - 1)), (5, .int 1), (4, .int (nI (eO w h x0 y0 (ldB f tw x0 y0 3)))), (8, .int (nI 3)), (7, .int (nI y0)), (3, .int (nI y0)), (2, .int (nI x0)), (0, .ref (o 0)), (1, .int (nI e0))]) hx hb dX1_next_40 hl (by decide) rfl (fun ls hl => ?_)
                  refine lv_aload_n hx hb dX1_next_42 rfl (lv_at hl 7 rfl) ?_
                  refine lv_iload_n hx hb dX1_next_43 rfl (lv_at hl 8 rfl) ?_
                  refine ro_V1 ⟨hx, hb, hml, hown, hts⟩ (c_X1_isAcross l D o cI cZ th tw ch sm od st cl us w h e0 gw gw2 gh2 (by have := nE_le gw2 gh2; omega)) (cwV 1 hts gX1_next_X1_isAcross rfl rfl rfl (by decide +kernel) ⟨Nat.le_of_ble_eq_true rfl, Nat.le_of_ble_eq_true rfl⟩) (va_recv hK hP (ci := 1) (q0 := 0) rfl rfl) hP hK hP hS rfl hl.1 (lv_room (Nat.le_of_ble_eq_true rfl)) dX1_next_44 ⟨Nat.le_of_ble_eq_true rfl, Nat.le_of_ble_eq_true rfl⟩ (fun r44 H locs hr44 hP hS => ?_)
                  subst hr44
                  refine lv_if_eq (tgt := 57) hx hb dX1_next_47 (by decide) (fun c47_2 => ?_) (fun c47_2 => ?_)
                  · refine lv_iload_n hx hb dX1_next_57 rfl (lv_at hl 5 rfl) ?_
                    refine lv_istore (lv' := [(7, .int (nI y0)), (6, .int (nI x0 - 1)), (5, .int 1), (4, .int (nI (eO w h x0 y0 (ldB f tw x0 y0 3)))), (8, .int (nI 3)), (3, .int (nI y0)), (2, .int (nI x0)), (0, .ref (o 0)), (1, .int (nI e0))]) hx hb dX1_next_58 hl (by decide) rfl (fun ls hl => ?_)
                    refine lv_aload_n hx hb dX1_next_60 rfl (lv_at hl 7 rfl) ?_
                    refine lv_iload_n hx hb dX1_next_61 rfl (lv_at hl 8 rfl) ?_
                    refine ro_V1 ⟨hx, hb, hml, hown, hts⟩ (c_X1_isAcross l D o cI cZ th tw ch sm od st cl us w h e0 gw gw2 gh2 (by have := nE_le gw2 gh2; omega)) (cwV 1 hts gX1_next_X1_isAcross rfl rfl rfl (by decide +kernel) ⟨Nat.le_of_ble_eq_true rfl, Nat.le_of_ble_eq_true rfl⟩) (va_recv hK hP (ci := 1) (q0 := 0) rfl rfl) hP hK hP hS rfl hl.1 (lv_room (Nat.le_of_ble_eq_true rfl)) dX1_next_62 ⟨Nat.le_of_ble_eq_true rfl, Nat.le_of_ble_eq_true rfl⟩ (fun r62 H locs hr62 hP hS => ?_)
                    subst hr62
                    refine lv_if_eq (tgt := 75) hx hb dX1_next_65 (by decide) (fun c65_2 => ?_) (fun c65_2 => ?_)
                    · refine lv_iconst (v := 3) hx hb dX1_next_75 (by decide) ?_
                      refine lv_iconst (v := 2) hx hb dX1_next_76 (by decide) ?_
                      refine lv_iload hx hb dX1_next_77 (lv_at hl 2 rfl) ?_
                      refine lv_imul hx hb dX1_next_79 ?_
                      refine lv_isub hx hb dX1_next_80 ?_
                      rw [show (3 - (2 * 1)) = nI 1 from by decide]
                      refine lv_istore (lv' := [(8, .int (nI 1)), (7, .int (nI y0)), (6, .int (nI x0 - 1)), (5, .int 1), (4, .int (nI (eO w h x0 y0 (ldB f tw x0 y0 3)))), (3, .int (nI y0)), (2, .int (nI x0)), (0, .ref (o 0)), (1, .int (nI e0))]) hx hb dX1_next_81 hl (by decide) rfl (fun ls hl => ?_)
                      refine lv_aload_n hx hb dX1_next_83 rfl (lv_at hl 7 rfl) ?_
                      refine lv_iload hx hb dX1_next_84 (lv_at hl 2 rfl) ?_
                      refine lv_iload hx hb dX1_next_86 (lv_at hl 1 rfl) ?_
                      refine ro_V2 ⟨hx, hb, hml, hown, hts⟩ (c_X1_isCell l D o cI cZ th tw ch sm od st cl us w h (nI x0 - 1) (nI y0) (by omega) (by omega)) (cwV 2 hts gX1_next_X1_isCell rfl rfl rfl (by decide +kernel) ⟨Nat.le_of_ble_eq_true rfl, Nat.le_of_ble_eq_true rfl⟩) (va_recv hK hP (ci := 1) (q0 := 0) rfl rfl) hP hK hP hS rfl hl.1 (lv_room (Nat.le_of_ble_eq_true rfl)) dX1_next_88 ⟨Nat.le_of_ble_eq_true rfl, Nat.le_of_ble_eq_true rfl⟩ (fun r88 H locs hr88 hP hS => ?_)
                      subst hr88
                      rw [show (bI (decide (0 ≤ (nI x0 - 1)) && decide ((nI x0 - 1) < nI (w - 1)) && decide (0 ≤ (nI y0)) && decide ((nI y0) < nI (h - 1)))) = bI (clX w h x0 y0) from by rw [cl_X gw gw2 gh gh2 (by omega) (by omega)]]
                      refine lv_if_eq (tgt := 119) hx hb dX1_next_91 (by decide) (fun c91_2 => ?_) (fun c91_2 => ?_)
                      · refine lv_iinc (v := 2) (lv' := [(5, .int 2), (8, .int (nI 1)), (7, .int (nI y0)), (6, .int (nI x0 - 1)), (4, .int (nI (eO w h x0 y0 (ldB f tw x0 y0 3)))), (3, .int (nI y0)), (2, .int (nI x0)), (0, .ref (o 0)), (1, .int (nI e0))]) hx hb dX1_next_119 hl (k := 3) rfl (by decide) (by decide) rfl (fun ls hl => ?_)
                        refine lv_goto (tgt := 18) hx hb dX1_next_122 (by decide) ?_
                        refine lv_iload hx hb dX1_next_18 (lv_at hl 0 rfl) ?_
                        refine lv_iconst (v := 2) hx hb dX1_next_20 (by decide) ?_
                        refine lv_icmp_ge (tgt := 125) hx hb dX1_next_21 (by decide) (fun c21_3 => ?_) (fun c21_3 => ?_)
                        · refine lv_iload hx hb dX1_next_125 (lv_at hl 4 rfl) ?_
                          exact W.iret (v := (nI (eO w h x0 y0 (ldB f tw x0 y0 3)))) hx hb hr (fun t ht hW => ⟨⟨_, (), rfl, by unfold nxR; rw [if_neg (bd_f c29), ← ex0, ← ey0]; simp [bI_n0.mp c91, bI_0.mp c91_2, bI_n0.mp c104], trivial⟩, hS.F ht⟩) hS.2.2 dX1_next_127
                        · exact absurd c21_3 (by decide)
                      · have hc1 := clX_ok (bI_n0.mp c91_2)
                        rw [nI_m1 hc1.2.1] at hl
                        refine lv_aload_n hx hb dX1_next_94 rfl (lv_at hl 7 rfl) ?_
                        refine lv_iload hx hb dX1_next_95 (lv_at hl 2 rfl) ?_
                        refine lv_iload hx hb dX1_next_97 (lv_at hl 1 rfl) ?_
                        refine lv_iload hx hb dX1_next_99 (lv_at hl 0 rfl) ?_
                        refine ro_V3 ⟨hx, hb, hml, hown, hts⟩ (c_X1_isDown l D o cI cZ th tw ch sm od st cl us w h f (x0 - 1) y0 1 gw2 gh2 gf (by omega) (by omega) (by decide)) (cwV 3 hts gX1_next_X1_isDown rfl rfl rfl (by decide +kernel) ⟨Nat.le_of_ble_eq_true rfl, Nat.le_of_ble_eq_true rfl⟩) (va_recv hK hP (ci := 1) (q0 := 0) rfl rfl) hP hK hP hS rfl hl.1 (lv_room (Nat.le_of_ble_eq_true rfl)) dX1_next_101 ⟨Nat.le_of_ble_eq_true rfl, Nat.le_of_ble_eq_true rfl⟩ (fun r101 H locs hr101 hP hS => ?_)
                        subst hr101
                        refine lv_if_eq (tgt := 119) hx hb dX1_next_104 (by decide) (fun c104_2 => ?_) (fun c104_2 => ?_)
                        · refine lv_iinc (v := 2) (lv' := [(5, .int 2), (8, .int (nI 1)), (7, .int (nI y0)), (6, .int (nI (x0 - 1))), (4, .int (nI (eO w h x0 y0 (ldB f tw x0 y0 3)))), (3, .int (nI y0)), (2, .int (nI x0)), (0, .ref (o 0)), (1, .int (nI e0))]) hx hb dX1_next_119 hl (k := 3) rfl (by decide) (by decide) rfl (fun ls hl => ?_)
                          refine lv_goto (tgt := 18) hx hb dX1_next_122 (by decide) ?_
                          refine lv_iload hx hb dX1_next_18 (lv_at hl 0 rfl) ?_
                          refine lv_iconst (v := 2) hx hb dX1_next_20 (by decide) ?_
                          refine lv_icmp_ge (tgt := 125) hx hb dX1_next_21 (by decide) (fun c21_3 => ?_) (fun c21_3 => ?_)
                          · refine lv_iload hx hb dX1_next_125 (lv_at hl 4 rfl) ?_
                            exact W.iret (v := (nI (eO w h x0 y0 (ldB f tw x0 y0 3)))) hx hb hr (fun t ht hW => ⟨⟨_, (), rfl, by unfold nxR; rw [if_neg (bd_f c29), ← ex0, ← ey0]; simp [bI_n0.mp c91, bI_n0.mp c91_2, bI_n0.mp c104, bI_0.mp c104_2], trivial⟩, hS.F ht⟩) hS.2.2 dX1_next_127
                          · exact absurd c21_3 (by decide)
                        · refine lv_aload_n hx hb dX1_next_107 rfl (lv_at hl 7 rfl) ?_
                          refine lv_iload hx hb dX1_next_108 (lv_at hl 2 rfl) ?_
                          refine lv_iload hx hb dX1_next_110 (lv_at hl 1 rfl) ?_
                          refine lv_iload hx hb dX1_next_112 (lv_at hl 0 rfl) ?_
                          refine ro_V3 ⟨hx, hb, hml, hown, hts⟩ (c_X1_leads l D o cI cZ th tw ch sm od st cl us w h f (x0 - 1) y0 1 gw2 gh2 gf (by omega) (by omega) (by decide) (bI_n0.mp c104_2)) (cwV 3 hts gX1_next_X1_leads rfl rfl rfl (by decide +kernel) ⟨Nat.le_of_ble_eq_true rfl, Nat.le_of_ble_eq_true rfl⟩) (va_recv hK hP (ci := 1) (q0 := 0) rfl rfl) hP hK hP hS rfl hl.1 (lv_room (Nat.le_of_ble_eq_true rfl)) dX1_next_114 ⟨Nat.le_of_ble_eq_true rfl, Nat.le_of_ble_eq_true rfl⟩ (fun r114 H locs hr114 hP hS => ?_)
                          subst hr114
                          refine lv_istore (lv' := [(4, .int (nI (eO w h (x0 - 1) y0 (ldB f tw (x0 - 1) y0 1)))), (8, .int (nI 1)), (7, .int (nI y0)), (6, .int (nI (x0 - 1))), (5, .int 1), (3, .int (nI y0)), (2, .int (nI x0)), (0, .ref (o 0)), (1, .int (nI e0))]) hx hb dX1_next_117 hl (by decide) rfl (fun ls hl => ?_)
                          refine lv_iinc (v := 2) (lv' := [(5, .int 2), (4, .int (nI (eO w h (x0 - 1) y0 (ldB f tw (x0 - 1) y0 1)))), (8, .int (nI 1)), (7, .int (nI y0)), (6, .int (nI (x0 - 1))), (3, .int (nI y0)), (2, .int (nI x0)), (0, .ref (o 0)), (1, .int (nI e0))]) hx hb dX1_next_119 hl (k := 4) rfl (by decide) (by decide) rfl (fun ls hl => ?_)
                          refine lv_goto (tgt := 18) hx hb dX1_next_122 (by decide) ?_
                          refine lv_iload hx hb dX1_next_18 (lv_at hl 0 rfl) ?_
                          refine lv_iconst (v := 2) hx hb dX1_next_20 (by decide) ?_
                          refine lv_icmp_ge (tgt := 125) hx hb dX1_next_21 (by decide) (fun c21_3 => ?_) (fun c21_3 => ?_)
                          · refine lv_iload hx hb dX1_next_125 (lv_at hl 1 rfl) ?_
                            exact W.iret (v := (nI (eO w h (x0 - 1) y0 (ldB f tw (x0 - 1) y0 1)))) hx hb hr (fun t ht hW => ⟨⟨_, (), rfl, by unfold nxR; rw [if_neg (bd_f c29), ← ex0, ← ey0]; simp [bI_n0.mp c91, bI_n0.mp c91_2, bI_n0.mp c104, bI_n0.mp c104_2], trivial⟩, hS.F ht⟩) hS.2.2 dX1_next_127
                          · exact absurd c21_3 (by decide)
                    · exact absurd c29 c65_2
                  · exact absurd c29 c47_2
                · exact absurd c29 c29_2
        · exact absurd c29 c65
      · exact absurd c29 c47
    · refine lv_iload_n hx hb dX1_next_32 rfl (lv_at hl 3 rfl) ?_
      refine lv_goto (tgt := 40) hx hb dX1_next_33 (by decide) ?_
      refine lv_istore (lv' := [(6, .int (nI x0)), (5, .int 0), (4, .int (-1)), (3, .int (nI y0)), (2, .int (nI x0)), (0, .ref (o 0)), (1, .int (nI e0))]) hx hb dX1_next_40 hl (by decide) rfl (fun ls hl => ?_)
      refine lv_aload_n hx hb dX1_next_42 rfl (lv_at hl 5 rfl) ?_
      refine lv_iload_n hx hb dX1_next_43 rfl (lv_at hl 6 rfl) ?_
      refine ro_V1 ⟨hx, hb, hml, hown, hts⟩ (c_X1_isAcross l D o cI cZ th tw ch sm od st cl us w h e0 gw gw2 gh2 (by have := nE_le gw2 gh2; omega)) (cwV 1 hts gX1_next_X1_isAcross rfl rfl rfl (by decide +kernel) ⟨Nat.le_of_ble_eq_true rfl, Nat.le_of_ble_eq_true rfl⟩) (va_recv hK hP (ci := 1) (q0 := 0) rfl rfl) hP hK hP hS rfl hl.1 (lv_room (Nat.le_of_ble_eq_true rfl)) dX1_next_44 ⟨Nat.le_of_ble_eq_true rfl, Nat.le_of_ble_eq_true rfl⟩ (fun r44 H locs hr44 hP hS => ?_)
      subst hr44
      refine lv_if_eq (tgt := 57) hx hb dX1_next_47 (by decide) (fun c47 => ?_) (fun c47 => ?_)
      · exact absurd c47 c29
      · refine lv_iload_n hx hb dX1_next_50 rfl (lv_at hl 3 rfl) ?_
        refine lv_iload hx hb dX1_next_51 (lv_at hl 1 rfl) ?_
        refine lv_isub hx hb dX1_next_53 ?_
        rw [show ((nI y0) - 0) = nI y0 from by simp]
        refine lv_goto (tgt := 58) hx hb dX1_next_54 (by decide) ?_
        refine lv_istore (lv' := [(7, .int (nI y0)), (6, .int (nI x0)), (5, .int 0), (4, .int (-1)), (3, .int (nI y0)), (2, .int (nI x0)), (0, .ref (o 0)), (1, .int (nI e0))]) hx hb dX1_next_58 hl (by decide) rfl (fun ls hl => ?_)
        refine lv_aload_n hx hb dX1_next_60 rfl (lv_at hl 6 rfl) ?_
        refine lv_iload_n hx hb dX1_next_61 rfl (lv_at hl 7 rfl) ?_
        refine ro_V1 ⟨hx, hb, hml, hown, hts⟩ (c_X1_isAcross l D o cI cZ th tw ch sm od st cl us w h e0 gw gw2 gh2 (by have := nE_le gw2 gh2; omega)) (cwV 1 hts gX1_next_X1_isAcross rfl rfl rfl (by decide +kernel) ⟨Nat.le_of_ble_eq_true rfl, Nat.le_of_ble_eq_true rfl⟩) (va_recv hK hP (ci := 1) (q0 := 0) rfl rfl) hP hK hP hS rfl hl.1 (lv_room (Nat.le_of_ble_eq_true rfl)) dX1_next_62 ⟨Nat.le_of_ble_eq_true rfl, Nat.le_of_ble_eq_true rfl⟩ (fun r62 H locs hr62 hP hS => ?_)
        subst hr62
        refine lv_if_eq (tgt := 75) hx hb dX1_next_65 (by decide) (fun c65 => ?_) (fun c65 => ?_)
        · exact absurd c65 c29
        · refine lv_iconst (v := 2) hx hb dX1_next_68 (by decide) ?_
          refine lv_iload hx hb dX1_next_69 (lv_at hl 2 rfl) ?_
          refine lv_imul hx hb dX1_next_71 ?_
          rw [show (2 * 0) = nI 0 from by decide]
          refine lv_goto (tgt := 81) hx hb dX1_next_72 (by decide) ?_
          refine lv_istore (lv' := [(8, .int (nI 0)), (7, .int (nI y0)), (6, .int (nI x0)), (5, .int 0), (4, .int (-1)), (3, .int (nI y0)), (2, .int (nI x0)), (0, .ref (o 0)), (1, .int (nI e0))]) hx hb dX1_next_81 hl (by decide) rfl (fun ls hl => ?_)
          refine lv_aload_n hx hb dX1_next_83 rfl (lv_at hl 7 rfl) ?_
          refine lv_iload hx hb dX1_next_84 (lv_at hl 2 rfl) ?_
          refine lv_iload hx hb dX1_next_86 (lv_at hl 1 rfl) ?_
          refine ro_V2 ⟨hx, hb, hml, hown, hts⟩ (c_X1_isCell l D o cI cZ th tw ch sm od st cl us w h (nI x0) (nI y0) (by omega) (by omega)) (cwV 2 hts gX1_next_X1_isCell rfl rfl rfl (by decide +kernel) ⟨Nat.le_of_ble_eq_true rfl, Nat.le_of_ble_eq_true rfl⟩) (va_recv hK hP (ci := 1) (q0 := 0) rfl rfl) hP hK hP hS rfl hl.1 (lv_room (Nat.le_of_ble_eq_true rfl)) dX1_next_88 ⟨Nat.le_of_ble_eq_true rfl, Nat.le_of_ble_eq_true rfl⟩ (fun r88 H locs hr88 hP hS => ?_)
          subst hr88
          rw [show (bI (decide (0 ≤ (nI x0)) && decide ((nI x0) < nI (w - 1)) && decide (0 ≤ (nI y0)) && decide ((nI y0) < nI (h - 1)))) = bI (cl0 w h x0 y0) from by rw [cl_0 gw gw2 gh gh2 (by omega) (by omega)]]
          refine lv_if_eq (tgt := 119) hx hb dX1_next_91 (by decide) (fun c91 => ?_) (fun c91 => ?_)
          · refine lv_iinc (v := 1) (lv' := [(5, .int 1), (8, .int (nI 0)), (7, .int (nI y0)), (6, .int (nI x0)), (4, .int (-1)), (3, .int (nI y0)), (2, .int (nI x0)), (0, .ref (o 0)), (1, .int (nI e0))]) hx hb dX1_next_119 hl (k := 3) rfl (by decide) (by decide) rfl (fun ls hl => ?_)
            refine lv_goto (tgt := 18) hx hb dX1_next_122 (by decide) ?_
            refine lv_iload hx hb dX1_next_18 (lv_at hl 0 rfl) ?_
            refine lv_iconst (v := 2) hx hb dX1_next_20 (by decide) ?_
            refine lv_icmp_ge (tgt := 125) hx hb dX1_next_21 (by decide) (fun c21_2 => ?_) (fun c21_2 => ?_)
            · exact absurd c21_2 (by decide)
            · refine lv_aload_n hx hb dX1_next_24 rfl (lv_at hl 7 rfl) ?_
              refine lv_iload_n hx hb dX1_next_25 rfl (lv_at hl 8 rfl) ?_
              refine ro_V1 ⟨hx, hb, hml, hown, hts⟩ (c_X1_isAcross l D o cI cZ th tw ch sm od st cl us w h e0 gw gw2 gh2 (by have := nE_le gw2 gh2; omega)) (cwV 1 hts gX1_next_X1_isAcross rfl rfl rfl (by decide +kernel) ⟨Nat.le_of_ble_eq_true rfl, Nat.le_of_ble_eq_true rfl⟩) (va_recv hK hP (ci := 1) (q0 := 0) rfl rfl) hP hK hP hS rfl hl.1 (lv_room (Nat.le_of_ble_eq_true rfl)) dX1_next_26 ⟨Nat.le_of_ble_eq_true rfl, Nat.le_of_ble_eq_true rfl⟩ (fun r26 H locs hr26 hP hS => ?_)
              subst hr26
              refine lv_if_eq (tgt := 36) hx hb dX1_next_29 (by decide) (fun c29_2 => ?_) (fun c29_2 => ?_)
              · exact absurd c29_2 c29
              · refine lv_iload_n hx hb dX1_next_32 rfl (lv_at hl 6 rfl) ?_
                refine lv_goto (tgt := 40) hx hb dX1_next_33 (by decide) ?_
                refine lv_istore (lv' := [(6, .int (nI x0)), (5, .int 1), (8, .int (nI 0)), (7, .int (nI y0)), (4, .int (-1)), (3, .int (nI y0)), (2, .int (nI x0)), (0, .ref (o 0)), (1, .int (nI e0))]) hx hb dX1_next_40 hl (by decide) rfl (fun ls hl => ?_)
                refine lv_aload_n hx hb dX1_next_42 rfl (lv_at hl 7 rfl) ?_
                refine lv_iload_n hx hb dX1_next_43 rfl (lv_at hl 8 rfl) ?_
                refine ro_V1 ⟨hx, hb, hml, hown, hts⟩ (c_X1_isAcross l D o cI cZ th tw ch sm od st cl us w h e0 gw gw2 gh2 (by have := nE_le gw2 gh2; omega)) (cwV 1 hts gX1_next_X1_isAcross rfl rfl rfl (by decide +kernel) ⟨Nat.le_of_ble_eq_true rfl, Nat.le_of_ble_eq_true rfl⟩) (va_recv hK hP (ci := 1) (q0 := 0) rfl rfl) hP hK hP hS rfl hl.1 (lv_room (Nat.le_of_ble_eq_true rfl)) dX1_next_44 ⟨Nat.le_of_ble_eq_true rfl, Nat.le_of_ble_eq_true rfl⟩ (fun r44 H locs hr44 hP hS => ?_)
                subst hr44
                refine lv_if_eq (tgt := 57) hx hb dX1_next_47 (by decide) (fun c47_2 => ?_) (fun c47_2 => ?_)
                · exact absurd c47_2 c29
                · refine lv_iload_n hx hb dX1_next_50 rfl (lv_at hl 5 rfl) ?_
                  refine lv_iload hx hb dX1_next_51 (lv_at hl 1 rfl) ?_
                  refine lv_isub hx hb dX1_next_53 ?_
                  rw [show ((nI y0) - 1) = (nI y0 - 1) from rfl]
                  refine lv_goto (tgt := 58) hx hb dX1_next_54 (by decide) ?_
                  refine lv_istore (lv' := [(7, .int (nI y0 - 1)), (6, .int (nI x0)), (5, .int 1), (8, .int (nI 0)), (4, .int (-1)), (3, .int (nI y0)), (2, .int (nI x0)), (0, .ref (o 0)), (1, .int (nI e0))]) hx hb dX1_next_58 hl (by decide) rfl (fun ls hl => ?_)
                  refine lv_aload_n hx hb dX1_next_60 rfl (lv_at hl 7 rfl) ?_
                  refine lv_iload_n hx hb dX1_next_61 rfl (lv_at hl 8 rfl) ?_
                  refine ro_V1 ⟨hx, hb, hml, hown, hts⟩ (c_X1_isAcross l D o cI cZ th tw ch sm od st cl us w h e0 gw gw2 gh2 (by have := nE_le gw2 gh2; omega)) (cwV 1 hts gX1_next_X1_isAcross rfl rfl rfl (by decide +kernel) ⟨Nat.le_of_ble_eq_true rfl, Nat.le_of_ble_eq_true rfl⟩) (va_recv hK hP (ci := 1) (q0 := 0) rfl rfl) hP hK hP hS rfl hl.1 (lv_room (Nat.le_of_ble_eq_true rfl)) dX1_next_62 ⟨Nat.le_of_ble_eq_true rfl, Nat.le_of_ble_eq_true rfl⟩ (fun r62 H locs hr62 hP hS => ?_)
                  subst hr62
                  refine lv_if_eq (tgt := 75) hx hb dX1_next_65 (by decide) (fun c65_2 => ?_) (fun c65_2 => ?_)
                  · exact absurd c65_2 c29
                  · refine lv_iconst (v := 2) hx hb dX1_next_68 (by decide) ?_
                    refine lv_iload hx hb dX1_next_69 (lv_at hl 2 rfl) ?_
                    refine lv_imul hx hb dX1_next_71 ?_
                    rw [show (2 * 1) = nI 2 from by decide]
                    refine lv_goto (tgt := 81) hx hb dX1_next_72 (by decide) ?_
                    refine lv_istore (lv' := [(8, .int (nI 2)), (7, .int (nI y0 - 1)), (6, .int (nI x0)), (5, .int 1), (4, .int (-1)), (3, .int (nI y0)), (2, .int (nI x0)), (0, .ref (o 0)), (1, .int (nI e0))]) hx hb dX1_next_81 hl (by decide) rfl (fun ls hl => ?_)
                    refine lv_aload_n hx hb dX1_next_83 rfl (lv_at hl 7 rfl) ?_
                    refine lv_iload hx hb dX1_next_84 (lv_at hl 2 rfl) ?_
                    refine lv_iload hx hb dX1_next_86 (lv_at hl 1 rfl) ?_
                    refine ro_V2 ⟨hx, hb, hml, hown, hts⟩ (c_X1_isCell l D o cI cZ th tw ch sm od st cl us w h (nI x0) (nI y0 - 1) (by omega) (by omega)) (cwV 2 hts gX1_next_X1_isCell rfl rfl rfl (by decide +kernel) ⟨Nat.le_of_ble_eq_true rfl, Nat.le_of_ble_eq_true rfl⟩) (va_recv hK hP (ci := 1) (q0 := 0) rfl rfl) hP hK hP hS rfl hl.1 (lv_room (Nat.le_of_ble_eq_true rfl)) dX1_next_88 ⟨Nat.le_of_ble_eq_true rfl, Nat.le_of_ble_eq_true rfl⟩ (fun r88 H locs hr88 hP hS => ?_)
                    subst hr88
                    rw [show (bI (decide (0 ≤ (nI x0)) && decide ((nI x0) < nI (w - 1)) && decide (0 ≤ (nI y0 - 1)) && decide ((nI y0 - 1) < nI (h - 1)))) = bI (clY w h x0 y0) from by rw [cl_Y gw gw2 gh gh2 (by omega) (by omega)]]
                    refine lv_if_eq (tgt := 119) hx hb dX1_next_91 (by decide) (fun c91_2 => ?_) (fun c91_2 => ?_)
                    · refine lv_iinc (v := 2) (lv' := [(5, .int 2), (8, .int (nI 2)), (7, .int (nI y0 - 1)), (6, .int (nI x0)), (4, .int (-1)), (3, .int (nI y0)), (2, .int (nI x0)), (0, .ref (o 0)), (1, .int (nI e0))]) hx hb dX1_next_119 hl (k := 3) rfl (by decide) (by decide) rfl (fun ls hl => ?_)
                      refine lv_goto (tgt := 18) hx hb dX1_next_122 (by decide) ?_
                      refine lv_iload hx hb dX1_next_18 (lv_at hl 0 rfl) ?_
                      refine lv_iconst (v := 2) hx hb dX1_next_20 (by decide) ?_
                      refine lv_icmp_ge (tgt := 125) hx hb dX1_next_21 (by decide) (fun c21_3 => ?_) (fun c21_3 => ?_)
                      · refine lv_iload hx hb dX1_next_125 (lv_at hl 4 rfl) ?_
                        exact W.iret (v := (-1)) hx hb hr (fun t ht hW => ⟨⟨_, (), rfl, by unfold nxR; rw [if_pos (bd_t c29), ← ex0, ← ey0]; simp [bI_0.mp c91, bI_0.mp c91_2], trivial⟩, hS.F ht⟩) hS.2.2 dX1_next_127
                      · exact absurd c21_3 (by decide)
                    · have hc1 := clY_ok (bI_n0.mp c91_2)
                      rw [nI_m1 hc1.2.1] at hl
                      refine lv_aload_n hx hb dX1_next_94 rfl (lv_at hl 7 rfl) ?_
                      refine lv_iload hx hb dX1_next_95 (lv_at hl 2 rfl) ?_
                      refine lv_iload hx hb dX1_next_97 (lv_at hl 1 rfl) ?_
                      refine lv_iload hx hb dX1_next_99 (lv_at hl 0 rfl) ?_
                      refine ro_V3 ⟨hx, hb, hml, hown, hts⟩ (c_X1_isDown l D o cI cZ th tw ch sm od st cl us w h f x0 (y0 - 1) 2 gw2 gh2 gf (by omega) (by omega) (by decide)) (cwV 3 hts gX1_next_X1_isDown rfl rfl rfl (by decide +kernel) ⟨Nat.le_of_ble_eq_true rfl, Nat.le_of_ble_eq_true rfl⟩) (va_recv hK hP (ci := 1) (q0 := 0) rfl rfl) hP hK hP hS rfl hl.1 (lv_room (Nat.le_of_ble_eq_true rfl)) dX1_next_101 ⟨Nat.le_of_ble_eq_true rfl, Nat.le_of_ble_eq_true rfl⟩ (fun r101 H locs hr101 hP hS => ?_)
                      subst hr101
                      refine lv_if_eq (tgt := 119) hx hb dX1_next_104 (by decide) (fun c104 => ?_) (fun c104 => ?_)
                      · refine lv_iinc (v := 2) (lv' := [(5, .int 2), (8, .int (nI 2)), (7, .int (nI (y0 - 1))), (6, .int (nI x0)), (4, .int (-1)), (3, .int (nI y0)), (2, .int (nI x0)), (0, .ref (o 0)), (1, .int (nI e0))]) hx hb dX1_next_119 hl (k := 3) rfl (by decide) (by decide) rfl (fun ls hl => ?_)
                        refine lv_goto (tgt := 18) hx hb dX1_next_122 (by decide) ?_
                        refine lv_iload hx hb dX1_next_18 (lv_at hl 0 rfl) ?_
                        refine lv_iconst (v := 2) hx hb dX1_next_20 (by decide) ?_
                        refine lv_icmp_ge (tgt := 125) hx hb dX1_next_21 (by decide) (fun c21_3 => ?_) (fun c21_3 => ?_)
                        · refine lv_iload hx hb dX1_next_125 (lv_at hl 4 rfl) ?_
                          exact W.iret (v := (-1)) hx hb hr (fun t ht hW => ⟨⟨_, (), rfl, by unfold nxR; rw [if_pos (bd_t c29), ← ex0, ← ey0]; simp [bI_0.mp c91, bI_n0.mp c91_2, bI_0.mp c104], trivial⟩, hS.F ht⟩) hS.2.2 dX1_next_127
                        · exact absurd c21_3 (by decide)
                      · refine lv_aload_n hx hb dX1_next_107 rfl (lv_at hl 7 rfl) ?_
                        refine lv_iload hx hb dX1_next_108 (lv_at hl 2 rfl) ?_
                        refine lv_iload hx hb dX1_next_110 (lv_at hl 1 rfl) ?_
                        refine lv_iload hx hb dX1_next_112 (lv_at hl 0 rfl) ?_
                        refine ro_V3 ⟨hx, hb, hml, hown, hts⟩ (c_X1_leads l D o cI cZ th tw ch sm od st cl us w h f x0 (y0 - 1) 2 gw2 gh2 gf (by omega) (by omega) (by decide) (bI_n0.mp c104)) (cwV 3 hts gX1_next_X1_leads rfl rfl rfl (by decide +kernel) ⟨Nat.le_of_ble_eq_true rfl, Nat.le_of_ble_eq_true rfl⟩) (va_recv hK hP (ci := 1) (q0 := 0) rfl rfl) hP hK hP hS rfl hl.1 (lv_room (Nat.le_of_ble_eq_true rfl)) dX1_next_114 ⟨Nat.le_of_ble_eq_true rfl, Nat.le_of_ble_eq_true rfl⟩ (fun r114 H locs hr114 hP hS => ?_)
                        subst hr114
                        refine lv_istore (lv' := [(4, .int (nI (eO w h x0 (y0 - 1) (ldB f tw x0 (y0 - 1) 2)))), (8, .int (nI 2)), (7, .int (nI (y0 - 1))), (6, .int (nI x0)), (5, .int 1), (3, .int (nI y0)), (2, .int (nI x0)), (0, .ref (o 0)), (1, .int (nI e0))]) hx hb dX1_next_117 hl (by decide) rfl (fun ls hl => ?_)
                        refine lv_iinc (v := 2) (lv' := [(5, .int 2), (4, .int (nI (eO w h x0 (y0 - 1) (ldB f tw x0 (y0 - 1) 2)))), (8, .int (nI 2)), (7, .int (nI (y0 - 1))), (6, .int (nI x0)), (3, .int (nI y0)), (2, .int (nI x0)), (0, .ref (o 0)), (1, .int (nI e0))]) hx hb dX1_next_119 hl (k := 4) rfl (by decide) (by decide) rfl (fun ls hl => ?_)
                        refine lv_goto (tgt := 18) hx hb dX1_next_122 (by decide) ?_
                        refine lv_iload hx hb dX1_next_18 (lv_at hl 0 rfl) ?_
                        refine lv_iconst (v := 2) hx hb dX1_next_20 (by decide) ?_
                        refine lv_icmp_ge (tgt := 125) hx hb dX1_next_21 (by decide) (fun c21_3 => ?_) (fun c21_3 => ?_)
                        · refine lv_iload hx hb dX1_next_125 (lv_at hl 1 rfl) ?_
                          exact W.iret (v := (nI (eO w h x0 (y0 - 1) (ldB f tw x0 (y0 - 1) 2)))) hx hb hr (fun t ht hW => ⟨⟨_, (), rfl, by unfold nxR; rw [if_pos (bd_t c29), ← ex0, ← ey0]; simp [bI_0.mp c91, bI_n0.mp c91_2, bI_n0.mp c104], trivial⟩, hS.F ht⟩) hS.2.2 dX1_next_127
                        · exact absurd c21_3 (by decide)
          · have hc0 := cl0_ok (bI_n0.mp c91)
            refine lv_aload_n hx hb dX1_next_94 rfl (lv_at hl 7 rfl) ?_
            refine lv_iload hx hb dX1_next_95 (lv_at hl 2 rfl) ?_
            refine lv_iload hx hb dX1_next_97 (lv_at hl 1 rfl) ?_
            refine lv_iload hx hb dX1_next_99 (lv_at hl 0 rfl) ?_
            refine ro_V3 ⟨hx, hb, hml, hown, hts⟩ (c_X1_isDown l D o cI cZ th tw ch sm od st cl us w h f x0 y0 0 gw2 gh2 gf (by omega) (by omega) (by decide)) (cwV 3 hts gX1_next_X1_isDown rfl rfl rfl (by decide +kernel) ⟨Nat.le_of_ble_eq_true rfl, Nat.le_of_ble_eq_true rfl⟩) (va_recv hK hP (ci := 1) (q0 := 0) rfl rfl) hP hK hP hS rfl hl.1 (lv_room (Nat.le_of_ble_eq_true rfl)) dX1_next_101 ⟨Nat.le_of_ble_eq_true rfl, Nat.le_of_ble_eq_true rfl⟩ (fun r101 H locs hr101 hP hS => ?_)
            subst hr101
            refine lv_if_eq (tgt := 119) hx hb dX1_next_104 (by decide) (fun c104 => ?_) (fun c104 => ?_)
            · refine lv_iinc (v := 1) (lv' := [(5, .int 1), (8, .int (nI 0)), (7, .int (nI y0)), (6, .int (nI x0)), (4, .int (-1)), (3, .int (nI y0)), (2, .int (nI x0)), (0, .ref (o 0)), (1, .int (nI e0))]) hx hb dX1_next_119 hl (k := 3) rfl (by decide) (by decide) rfl (fun ls hl => ?_)
              refine lv_goto (tgt := 18) hx hb dX1_next_122 (by decide) ?_
              refine lv_iload hx hb dX1_next_18 (lv_at hl 0 rfl) ?_
              refine lv_iconst (v := 2) hx hb dX1_next_20 (by decide) ?_
              refine lv_icmp_ge (tgt := 125) hx hb dX1_next_21 (by decide) (fun c21_2 => ?_) (fun c21_2 => ?_)
              · exact absurd c21_2 (by decide)
              · refine lv_aload_n hx hb dX1_next_24 rfl (lv_at hl 7 rfl) ?_
                refine lv_iload_n hx hb dX1_next_25 rfl (lv_at hl 8 rfl) ?_
                refine ro_V1 ⟨hx, hb, hml, hown, hts⟩ (c_X1_isAcross l D o cI cZ th tw ch sm od st cl us w h e0 gw gw2 gh2 (by have := nE_le gw2 gh2; omega)) (cwV 1 hts gX1_next_X1_isAcross rfl rfl rfl (by decide +kernel) ⟨Nat.le_of_ble_eq_true rfl, Nat.le_of_ble_eq_true rfl⟩) (va_recv hK hP (ci := 1) (q0 := 0) rfl rfl) hP hK hP hS rfl hl.1 (lv_room (Nat.le_of_ble_eq_true rfl)) dX1_next_26 ⟨Nat.le_of_ble_eq_true rfl, Nat.le_of_ble_eq_true rfl⟩ (fun r26 H locs hr26 hP hS => ?_)
                subst hr26
                refine lv_if_eq (tgt := 36) hx hb dX1_next_29 (by decide) (fun c29_2 => ?_) (fun c29_2 => ?_)
                · exact absurd c29_2 c29
                · refine lv_iload_n hx hb dX1_next_32 rfl (lv_at hl 6 rfl) ?_
                  refine lv_goto (tgt := 40) hx hb dX1_next_33 (by decide) ?_
                  refine lv_istore (lv' := [(6, .int (nI x0)), (5, .int 1), (8, .int (nI 0)), (7, .int (nI y0)), (4, .int (-1)), (3, .int (nI y0)), (2, .int (nI x0)), (0, .ref (o 0)), (1, .int (nI e0))]) hx hb dX1_next_40 hl (by decide) rfl (fun ls hl => ?_)
                  refine lv_aload_n hx hb dX1_next_42 rfl (lv_at hl 7 rfl) ?_
                  refine lv_iload_n hx hb dX1_next_43 rfl (lv_at hl 8 rfl) ?_
                  refine ro_V1 ⟨hx, hb, hml, hown, hts⟩ (c_X1_isAcross l D o cI cZ th tw ch sm od st cl us w h e0 gw gw2 gh2 (by have := nE_le gw2 gh2; omega)) (cwV 1 hts gX1_next_X1_isAcross rfl rfl rfl (by decide +kernel) ⟨Nat.le_of_ble_eq_true rfl, Nat.le_of_ble_eq_true rfl⟩) (va_recv hK hP (ci := 1) (q0 := 0) rfl rfl) hP hK hP hS rfl hl.1 (lv_room (Nat.le_of_ble_eq_true rfl)) dX1_next_44 ⟨Nat.le_of_ble_eq_true rfl, Nat.le_of_ble_eq_true rfl⟩ (fun r44 H locs hr44 hP hS => ?_)
                  subst hr44
                  refine lv_if_eq (tgt := 57) hx hb dX1_next_47 (by decide) (fun c47_2 => ?_) (fun c47_2 => ?_)
                  · exact absurd c47_2 c29
                  · refine lv_iload_n hx hb dX1_next_50 rfl (lv_at hl 5 rfl) ?_
                    refine lv_iload hx hb dX1_next_51 (lv_at hl 1 rfl) ?_
                    refine lv_isub hx hb dX1_next_53 ?_
                    rw [show ((nI y0) - 1) = (nI y0 - 1) from rfl]
                    refine lv_goto (tgt := 58) hx hb dX1_next_54 (by decide) ?_
                    refine lv_istore (lv' := [(7, .int (nI y0 - 1)), (6, .int (nI x0)), (5, .int 1), (8, .int (nI 0)), (4, .int (-1)), (3, .int (nI y0)), (2, .int (nI x0)), (0, .ref (o 0)), (1, .int (nI e0))]) hx hb dX1_next_58 hl (by decide) rfl (fun ls hl => ?_)
                    refine lv_aload_n hx hb dX1_next_60 rfl (lv_at hl 7 rfl) ?_
                    refine lv_iload_n hx hb dX1_next_61 rfl (lv_at hl 8 rfl) ?_
                    refine ro_V1 ⟨hx, hb, hml, hown, hts⟩ (c_X1_isAcross l D o cI cZ th tw ch sm od st cl us w h e0 gw gw2 gh2 (by have := nE_le gw2 gh2; omega)) (cwV 1 hts gX1_next_X1_isAcross rfl rfl rfl (by decide +kernel) ⟨Nat.le_of_ble_eq_true rfl, Nat.le_of_ble_eq_true rfl⟩) (va_recv hK hP (ci := 1) (q0 := 0) rfl rfl) hP hK hP hS rfl hl.1 (lv_room (Nat.le_of_ble_eq_true rfl)) dX1_next_62 ⟨Nat.le_of_ble_eq_true rfl, Nat.le_of_ble_eq_true rfl⟩ (fun r62 H locs hr62 hP hS => ?_)
                    subst hr62
                    refine lv_if_eq (tgt := 75) hx hb dX1_next_65 (by decide) (fun c65_2 => ?_) (fun c65_2 => ?_)
                    · exact absurd c65_2 c29
                    · refine lv_iconst (v := 2) hx hb dX1_next_68 (by decide) ?_
                      refine lv_iload hx hb dX1_next_69 (lv_at hl 2 rfl) ?_
                      refine lv_imul hx hb dX1_next_71 ?_
                      rw [show (2 * 1) = nI 2 from by decide]
                      refine lv_goto (tgt := 81) hx hb dX1_next_72 (by decide) ?_
                      refine lv_istore (lv' := [(8, .int (nI 2)), (7, .int (nI y0 - 1)), (6, .int (nI x0)), (5, .int 1), (4, .int (-1)), (3, .int (nI y0)), (2, .int (nI x0)), (0, .ref (o 0)), (1, .int (nI e0))]) hx hb dX1_next_81 hl (by decide) rfl (fun ls hl => ?_)
                      refine lv_aload_n hx hb dX1_next_83 rfl (lv_at hl 7 rfl) ?_
                      refine lv_iload hx hb dX1_next_84 (lv_at hl 2 rfl) ?_
                      refine lv_iload hx hb dX1_next_86 (lv_at hl 1 rfl) ?_
                      refine ro_V2 ⟨hx, hb, hml, hown, hts⟩ (c_X1_isCell l D o cI cZ th tw ch sm od st cl us w h (nI x0) (nI y0 - 1) (by omega) (by omega)) (cwV 2 hts gX1_next_X1_isCell rfl rfl rfl (by decide +kernel) ⟨Nat.le_of_ble_eq_true rfl, Nat.le_of_ble_eq_true rfl⟩) (va_recv hK hP (ci := 1) (q0 := 0) rfl rfl) hP hK hP hS rfl hl.1 (lv_room (Nat.le_of_ble_eq_true rfl)) dX1_next_88 ⟨Nat.le_of_ble_eq_true rfl, Nat.le_of_ble_eq_true rfl⟩ (fun r88 H locs hr88 hP hS => ?_)
                      subst hr88
                      rw [show (bI (decide (0 ≤ (nI x0)) && decide ((nI x0) < nI (w - 1)) && decide (0 ≤ (nI y0 - 1)) && decide ((nI y0 - 1) < nI (h - 1)))) = bI (clY w h x0 y0) from by rw [cl_Y gw gw2 gh gh2 (by omega) (by omega)]]
                      refine lv_if_eq (tgt := 119) hx hb dX1_next_91 (by decide) (fun c91_2 => ?_) (fun c91_2 => ?_)
                      · refine lv_iinc (v := 2) (lv' := [(5, .int 2), (8, .int (nI 2)), (7, .int (nI y0 - 1)), (6, .int (nI x0)), (4, .int (-1)), (3, .int (nI y0)), (2, .int (nI x0)), (0, .ref (o 0)), (1, .int (nI e0))]) hx hb dX1_next_119 hl (k := 3) rfl (by decide) (by decide) rfl (fun ls hl => ?_)
                        refine lv_goto (tgt := 18) hx hb dX1_next_122 (by decide) ?_
                        refine lv_iload hx hb dX1_next_18 (lv_at hl 0 rfl) ?_
                        refine lv_iconst (v := 2) hx hb dX1_next_20 (by decide) ?_
                        refine lv_icmp_ge (tgt := 125) hx hb dX1_next_21 (by decide) (fun c21_3 => ?_) (fun c21_3 => ?_)
                        · refine lv_iload hx hb dX1_next_125 (lv_at hl 4 rfl) ?_
                          exact W.iret (v := (-1)) hx hb hr (fun t ht hW => ⟨⟨_, (), rfl, by unfold nxR; rw [if_pos (bd_t c29), ← ex0, ← ey0]; simp [bI_n0.mp c91, bI_0.mp c91_2, bI_0.mp c104], trivial⟩, hS.F ht⟩) hS.2.2 dX1_next_127
                        · exact absurd c21_3 (by decide)
                      · have hc1 := clY_ok (bI_n0.mp c91_2)
                        rw [nI_m1 hc1.2.1] at hl
                        refine lv_aload_n hx hb dX1_next_94 rfl (lv_at hl 7 rfl) ?_
                        refine lv_iload hx hb dX1_next_95 (lv_at hl 2 rfl) ?_
                        refine lv_iload hx hb dX1_next_97 (lv_at hl 1 rfl) ?_
                        refine lv_iload hx hb dX1_next_99 (lv_at hl 0 rfl) ?_
                        refine ro_V3 ⟨hx, hb, hml, hown, hts⟩ (c_X1_isDown l D o cI cZ th tw ch sm od st cl us w h f x0 (y0 - 1) 2 gw2 gh2 gf (by omega) (by omega) (by decide)) (cwV 3 hts gX1_next_X1_isDown rfl rfl rfl (by decide +kernel) ⟨Nat.le_of_ble_eq_true rfl, Nat.le_of_ble_eq_true rfl⟩) (va_recv hK hP (ci := 1) (q0 := 0) rfl rfl) hP hK hP hS rfl hl.1 (lv_room (Nat.le_of_ble_eq_true rfl)) dX1_next_101 ⟨Nat.le_of_ble_eq_true rfl, Nat.le_of_ble_eq_true rfl⟩ (fun r101 H locs hr101 hP hS => ?_)
                        subst hr101
                        refine lv_if_eq (tgt := 119) hx hb dX1_next_104 (by decide) (fun c104_2 => ?_) (fun c104_2 => ?_)
                        · refine lv_iinc (v := 2) (lv' := [(5, .int 2), (8, .int (nI 2)), (7, .int (nI (y0 - 1))), (6, .int (nI x0)), (4, .int (-1)), (3, .int (nI y0)), (2, .int (nI x0)), (0, .ref (o 0)), (1, .int (nI e0))]) hx hb dX1_next_119 hl (k := 3) rfl (by decide) (by decide) rfl (fun ls hl => ?_)
                          refine lv_goto (tgt := 18) hx hb dX1_next_122 (by decide) ?_
                          refine lv_iload hx hb dX1_next_18 (lv_at hl 0 rfl) ?_
                          refine lv_iconst (v := 2) hx hb dX1_next_20 (by decide) ?_
                          refine lv_icmp_ge (tgt := 125) hx hb dX1_next_21 (by decide) (fun c21_3 => ?_) (fun c21_3 => ?_)
                          · refine lv_iload hx hb dX1_next_125 (lv_at hl 4 rfl) ?_
                            exact W.iret (v := (-1)) hx hb hr (fun t ht hW => ⟨⟨_, (), rfl, by unfold nxR; rw [if_pos (bd_t c29), ← ex0, ← ey0]; simp [bI_n0.mp c91, bI_n0.mp c91_2, bI_0.mp c104, bI_0.mp c104_2], trivial⟩, hS.F ht⟩) hS.2.2 dX1_next_127
                          · exact absurd c21_3 (by decide)
                        · refine lv_aload_n hx hb dX1_next_107 rfl (lv_at hl 7 rfl) ?_
                          refine lv_iload hx hb dX1_next_108 (lv_at hl 2 rfl) ?_
                          refine lv_iload hx hb dX1_next_110 (lv_at hl 1 rfl) ?_
                          refine lv_iload hx hb dX1_next_112 (lv_at hl 0 rfl) ?_
                          refine ro_V3 ⟨hx, hb, hml, hown, hts⟩ (c_X1_leads l D o cI cZ th tw ch sm od st cl us w h f x0 (y0 - 1) 2 gw2 gh2 gf (by omega) (by omega) (by decide) (bI_n0.mp c104_2)) (cwV 3 hts gX1_next_X1_leads rfl rfl rfl (by decide +kernel) ⟨Nat.le_of_ble_eq_true rfl, Nat.le_of_ble_eq_true rfl⟩) (va_recv hK hP (ci := 1) (q0 := 0) rfl rfl) hP hK hP hS rfl hl.1 (lv_room (Nat.le_of_ble_eq_true rfl)) dX1_next_114 ⟨Nat.le_of_ble_eq_true rfl, Nat.le_of_ble_eq_true rfl⟩ (fun r114 H locs hr114 hP hS => ?_)
                          subst hr114
                          refine lv_istore (lv' := [(4, .int (nI (eO w h x0 (y0 - 1) (ldB f tw x0 (y0 - 1) 2)))), (8, .int (nI 2)), (7, .int (nI (y0 - 1))), (6, .int (nI x0)), (5, .int 1), (3, .int (nI y0)), (2, .int (nI x0)), (0, .ref (o 0)), (1, .int (nI e0))]) hx hb dX1_next_117 hl (by decide) rfl (fun ls hl => ?_)
                          refine lv_iinc (v := 2) (lv' := [(5, .int 2), (4, .int (nI (eO w h x0 (y0 - 1) (ldB f tw x0 (y0 - 1) 2)))), (8, .int (nI 2)), (7, .int (nI (y0 - 1))), (6, .int (nI x0)), (3, .int (nI y0)), (2, .int (nI x0)), (0, .ref (o 0)), (1, .int (nI e0))]) hx hb dX1_next_119 hl (k := 4) rfl (by decide) (by decide) rfl (fun ls hl => ?_)
                          refine lv_goto (tgt := 18) hx hb dX1_next_122 (by decide) ?_
                          refine lv_iload hx hb dX1_next_18 (lv_at hl 0 rfl) ?_
                          refine lv_iconst (v := 2) hx hb dX1_next_20 (by decide) ?_
                          refine lv_icmp_ge (tgt := 125) hx hb dX1_next_21 (by decide) (fun c21_3 => ?_) (fun c21_3 => ?_)
                          · refine lv_iload hx hb dX1_next_125 (lv_at hl 1 rfl) ?_
                            exact W.iret (v := (nI (eO w h x0 (y0 - 1) (ldB f tw x0 (y0 - 1) 2)))) hx hb hr (fun t ht hW => ⟨⟨_, (), rfl, by unfold nxR; rw [if_pos (bd_t c29), ← ex0, ← ey0]; simp [bI_n0.mp c91, bI_n0.mp c91_2, bI_0.mp c104, bI_n0.mp c104_2], trivial⟩, hS.F ht⟩) hS.2.2 dX1_next_127
                          · exact absurd c21_3 (by decide)
            · refine lv_aload_n hx hb dX1_next_107 rfl (lv_at hl 7 rfl) ?_
              refine lv_iload hx hb dX1_next_108 (lv_at hl 2 rfl) ?_
              refine lv_iload hx hb dX1_next_110 (lv_at hl 1 rfl) ?_
              refine lv_iload hx hb dX1_next_112 (lv_at hl 0 rfl) ?_
              refine ro_V3 ⟨hx, hb, hml, hown, hts⟩ (c_X1_leads l D o cI cZ th tw ch sm od st cl us w h f x0 y0 0 gw2 gh2 gf (by omega) (by omega) (by decide) (bI_n0.mp c104)) (cwV 3 hts gX1_next_X1_leads rfl rfl rfl (by decide +kernel) ⟨Nat.le_of_ble_eq_true rfl, Nat.le_of_ble_eq_true rfl⟩) (va_recv hK hP (ci := 1) (q0 := 0) rfl rfl) hP hK hP hS rfl hl.1 (lv_room (Nat.le_of_ble_eq_true rfl)) dX1_next_114 ⟨Nat.le_of_ble_eq_true rfl, Nat.le_of_ble_eq_true rfl⟩ (fun r114 H locs hr114 hP hS => ?_)
              subst hr114
              refine lv_istore (lv' := [(4, .int (nI (eO w h x0 y0 (ldB f tw x0 y0 0)))), (8, .int (nI 0)), (7, .int (nI y0)), (6, .int (nI x0)), (5, .int 0), (3, .int (nI y0)), (2, .int (nI x0)), (0, .ref (o 0)), (1, .int (nI e0))]) hx hb dX1_next_117 hl (by decide) rfl (fun ls hl => ?_)
              refine lv_iinc (v := 1) (lv' := [(5, .int 1), (4, .int (nI (eO w h x0 y0 (ldB f tw x0 y0 0)))), (8, .int (nI 0)), (7, .int (nI y0)), (6, .int (nI x0)), (3, .int (nI y0)), (2, .int (nI x0)), (0, .ref (o 0)), (1, .int (nI e0))]) hx hb dX1_next_119 hl (k := 4) rfl (by decide) (by decide) rfl (fun ls hl => ?_)
              refine lv_goto (tgt := 18) hx hb dX1_next_122 (by decide) ?_
              refine lv_iload hx hb dX1_next_18 (lv_at hl 0 rfl) ?_
              refine lv_iconst (v := 2) hx hb dX1_next_20 (by decide) ?_
              refine lv_icmp_ge (tgt := 125) hx hb dX1_next_21 (by decide) (fun c21_2 => ?_) (fun c21_2 => ?_)
              · exact absurd c21_2 (by decide)
              · refine lv_aload_n hx hb dX1_next_24 rfl (lv_at hl 7 rfl) ?_
                refine lv_iload_n hx hb dX1_next_25 rfl (lv_at hl 8 rfl) ?_
                refine ro_V1 ⟨hx, hb, hml, hown, hts⟩ (c_X1_isAcross l D o cI cZ th tw ch sm od st cl us w h e0 gw gw2 gh2 (by have := nE_le gw2 gh2; omega)) (cwV 1 hts gX1_next_X1_isAcross rfl rfl rfl (by decide +kernel) ⟨Nat.le_of_ble_eq_true rfl, Nat.le_of_ble_eq_true rfl⟩) (va_recv hK hP (ci := 1) (q0 := 0) rfl rfl) hP hK hP hS rfl hl.1 (lv_room (Nat.le_of_ble_eq_true rfl)) dX1_next_26 ⟨Nat.le_of_ble_eq_true rfl, Nat.le_of_ble_eq_true rfl⟩ (fun r26 H locs hr26 hP hS => ?_)
                subst hr26
                refine lv_if_eq (tgt := 36) hx hb dX1_next_29 (by decide) (fun c29_2 => ?_) (fun c29_2 => ?_)
                · exact absurd c29_2 c29
                · refine lv_iload_n hx hb dX1_next_32 rfl (lv_at hl 6 rfl) ?_
                  refine lv_goto (tgt := 40) hx hb dX1_next_33 (by decide) ?_
                  refine lv_istore (lv' := [(6, .int (nI x0)), (5, .int 1), (4, .int (nI (eO w h x0 y0 (ldB f tw x0 y0 0)))), (8, .int (nI 0)), (7, .int (nI y0)), (3, .int (nI y0)), (2, .int (nI x0)), (0, .ref (o 0)), (1, .int (nI e0))]) hx hb dX1_next_40 hl (by decide) rfl (fun ls hl => ?_)
                  refine lv_aload_n hx hb dX1_next_42 rfl (lv_at hl 7 rfl) ?_
                  refine lv_iload_n hx hb dX1_next_43 rfl (lv_at hl 8 rfl) ?_
                  refine ro_V1 ⟨hx, hb, hml, hown, hts⟩ (c_X1_isAcross l D o cI cZ th tw ch sm od st cl us w h e0 gw gw2 gh2 (by have := nE_le gw2 gh2; omega)) (cwV 1 hts gX1_next_X1_isAcross rfl rfl rfl (by decide +kernel) ⟨Nat.le_of_ble_eq_true rfl, Nat.le_of_ble_eq_true rfl⟩) (va_recv hK hP (ci := 1) (q0 := 0) rfl rfl) hP hK hP hS rfl hl.1 (lv_room (Nat.le_of_ble_eq_true rfl)) dX1_next_44 ⟨Nat.le_of_ble_eq_true rfl, Nat.le_of_ble_eq_true rfl⟩ (fun r44 H locs hr44 hP hS => ?_)
                  subst hr44
                  refine lv_if_eq (tgt := 57) hx hb dX1_next_47 (by decide) (fun c47_2 => ?_) (fun c47_2 => ?_)
                  · exact absurd c47_2 c29
                  · refine lv_iload_n hx hb dX1_next_50 rfl (lv_at hl 5 rfl) ?_
                    refine lv_iload hx hb dX1_next_51 (lv_at hl 1 rfl) ?_
                    refine lv_isub hx hb dX1_next_53 ?_
                    rw [show ((nI y0) - 1) = (nI y0 - 1) from rfl]
                    refine lv_goto (tgt := 58) hx hb dX1_next_54 (by decide) ?_
                    refine lv_istore (lv' := [(7, .int (nI y0 - 1)), (6, .int (nI x0)), (5, .int 1), (4, .int (nI (eO w h x0 y0 (ldB f tw x0 y0 0)))), (8, .int (nI 0)), (3, .int (nI y0)), (2, .int (nI x0)), (0, .ref (o 0)), (1, .int (nI e0))]) hx hb dX1_next_58 hl (by decide) rfl (fun ls hl => ?_)
                    refine lv_aload_n hx hb dX1_next_60 rfl (lv_at hl 7 rfl) ?_
                    refine lv_iload_n hx hb dX1_next_61 rfl (lv_at hl 8 rfl) ?_
                    refine ro_V1 ⟨hx, hb, hml, hown, hts⟩ (c_X1_isAcross l D o cI cZ th tw ch sm od st cl us w h e0 gw gw2 gh2 (by have := nE_le gw2 gh2; omega)) (cwV 1 hts gX1_next_X1_isAcross rfl rfl rfl (by decide +kernel) ⟨Nat.le_of_ble_eq_true rfl, Nat.le_of_ble_eq_true rfl⟩) (va_recv hK hP (ci := 1) (q0 := 0) rfl rfl) hP hK hP hS rfl hl.1 (lv_room (Nat.le_of_ble_eq_true rfl)) dX1_next_62 ⟨Nat.le_of_ble_eq_true rfl, Nat.le_of_ble_eq_true rfl⟩ (fun r62 H locs hr62 hP hS => ?_)
                    subst hr62
                    refine lv_if_eq (tgt := 75) hx hb dX1_next_65 (by decide) (fun c65_2 => ?_) (fun c65_2 => ?_)
                    · exact absurd c65_2 c29
                    · refine lv_iconst (v := 2) hx hb dX1_next_68 (by decide) ?_
                      refine lv_iload hx hb dX1_next_69 (lv_at hl 2 rfl) ?_
                      refine lv_imul hx hb dX1_next_71 ?_
                      rw [show (2 * 1) = nI 2 from by decide]
                      refine lv_goto (tgt := 81) hx hb dX1_next_72 (by decide) ?_
                      refine lv_istore (lv' := [(8, .int (nI 2)), (7, .int (nI y0 - 1)), (6, .int (nI x0)), (5, .int 1), (4, .int (nI (eO w h x0 y0 (ldB f tw x0 y0 0)))), (3, .int (nI y0)), (2, .int (nI x0)), (0, .ref (o 0)), (1, .int (nI e0))]) hx hb dX1_next_81 hl (by decide) rfl (fun ls hl => ?_)
                      refine lv_aload_n hx hb dX1_next_83 rfl (lv_at hl 7 rfl) ?_
                      refine lv_iload hx hb dX1_next_84 (lv_at hl 2 rfl) ?_
                      refine lv_iload hx hb dX1_next_86 (lv_at hl 1 rfl) ?_
                      refine ro_V2 ⟨hx, hb, hml, hown, hts⟩ (c_X1_isCell l D o cI cZ th tw ch sm od st cl us w h (nI x0) (nI y0 - 1) (by omega) (by omega)) (cwV 2 hts gX1_next_X1_isCell rfl rfl rfl (by decide +kernel) ⟨Nat.le_of_ble_eq_true rfl, Nat.le_of_ble_eq_true rfl⟩) (va_recv hK hP (ci := 1) (q0 := 0) rfl rfl) hP hK hP hS rfl hl.1 (lv_room (Nat.le_of_ble_eq_true rfl)) dX1_next_88 ⟨Nat.le_of_ble_eq_true rfl, Nat.le_of_ble_eq_true rfl⟩ (fun r88 H locs hr88 hP hS => ?_)
                      subst hr88
                      rw [show (bI (decide (0 ≤ (nI x0)) && decide ((nI x0) < nI (w - 1)) && decide (0 ≤ (nI y0 - 1)) && decide ((nI y0 - 1) < nI (h - 1)))) = bI (clY w h x0 y0) from by rw [cl_Y gw gw2 gh gh2 (by omega) (by omega)]]
                      refine lv_if_eq (tgt := 119) hx hb dX1_next_91 (by decide) (fun c91_2 => ?_) (fun c91_2 => ?_)
                      · refine lv_iinc (v := 2) (lv' := [(5, .int 2), (8, .int (nI 2)), (7, .int (nI y0 - 1)), (6, .int (nI x0)), (4, .int (nI (eO w h x0 y0 (ldB f tw x0 y0 0)))), (3, .int (nI y0)), (2, .int (nI x0)), (0, .ref (o 0)), (1, .int (nI e0))]) hx hb dX1_next_119 hl (k := 3) rfl (by decide) (by decide) rfl (fun ls hl => ?_)
                        refine lv_goto (tgt := 18) hx hb dX1_next_122 (by decide) ?_
                        refine lv_iload hx hb dX1_next_18 (lv_at hl 0 rfl) ?_
                        refine lv_iconst (v := 2) hx hb dX1_next_20 (by decide) ?_
                        refine lv_icmp_ge (tgt := 125) hx hb dX1_next_21 (by decide) (fun c21_3 => ?_) (fun c21_3 => ?_)
                        · refine lv_iload hx hb dX1_next_125 (lv_at hl 4 rfl) ?_
                          exact W.iret (v := (nI (eO w h x0 y0 (ldB f tw x0 y0 0)))) hx hb hr (fun t ht hW => ⟨⟨_, (), rfl, by unfold nxR; rw [if_pos (bd_t c29), ← ex0, ← ey0]; simp [bI_n0.mp c91, bI_0.mp c91_2, bI_n0.mp c104], trivial⟩, hS.F ht⟩) hS.2.2 dX1_next_127
                        · exact absurd c21_3 (by decide)
                      · have hc1 := clY_ok (bI_n0.mp c91_2)
                        rw [nI_m1 hc1.2.1] at hl
                        refine lv_aload_n hx hb dX1_next_94 rfl (lv_at hl 7 rfl) ?_
                        refine lv_iload hx hb dX1_next_95 (lv_at hl 2 rfl) ?_
                        refine lv_iload hx hb dX1_next_97 (lv_at hl 1 rfl) ?_
                        refine lv_iload hx hb dX1_next_99 (lv_at hl 0 rfl) ?_
                        refine ro_V3 ⟨hx, hb, hml, hown, hts⟩ (c_X1_isDown l D o cI cZ th tw ch sm od st cl us w h f x0 (y0 - 1) 2 gw2 gh2 gf (by omega) (by omega) (by decide)) (cwV 3 hts gX1_next_X1_isDown rfl rfl rfl (by decide +kernel) ⟨Nat.le_of_ble_eq_true rfl, Nat.le_of_ble_eq_true rfl⟩) (va_recv hK hP (ci := 1) (q0 := 0) rfl rfl) hP hK hP hS rfl hl.1 (lv_room (Nat.le_of_ble_eq_true rfl)) dX1_next_101 ⟨Nat.le_of_ble_eq_true rfl, Nat.le_of_ble_eq_true rfl⟩ (fun r101 H locs hr101 hP hS => ?_)
                        subst hr101
                        refine lv_if_eq (tgt := 119) hx hb dX1_next_104 (by decide) (fun c104_2 => ?_) (fun c104_2 => ?_)
                        · refine lv_iinc (v := 2) (lv' := [(5, .int 2), (8, .int (nI 2)), (7, .int (nI (y0 - 1))), (6, .int (nI x0)), (4, .int (nI (eO w h x0 y0 (ldB f tw x0 y0 0)))), (3, .int (nI y0)), (2, .int (nI x0)), (0, .ref (o 0)), (1, .int (nI e0))]) hx hb dX1_next_119 hl (k := 3) rfl (by decide) (by decide) rfl (fun ls hl => ?_)
                          refine lv_goto (tgt := 18) hx hb dX1_next_122 (by decide) ?_
                          refine lv_iload hx hb dX1_next_18 (lv_at hl 0 rfl) ?_
                          refine lv_iconst (v := 2) hx hb dX1_next_20 (by decide) ?_
                          refine lv_icmp_ge (tgt := 125) hx hb dX1_next_21 (by decide) (fun c21_3 => ?_) (fun c21_3 => ?_)
                          · refine lv_iload hx hb dX1_next_125 (lv_at hl 4 rfl) ?_
                            exact W.iret (v := (nI (eO w h x0 y0 (ldB f tw x0 y0 0)))) hx hb hr (fun t ht hW => ⟨⟨_, (), rfl, by unfold nxR; rw [if_pos (bd_t c29), ← ex0, ← ey0]; simp [bI_n0.mp c91, bI_n0.mp c91_2, bI_n0.mp c104, bI_0.mp c104_2], trivial⟩, hS.F ht⟩) hS.2.2 dX1_next_127
                          · exact absurd c21_3 (by decide)
                        · refine lv_aload_n hx hb dX1_next_107 rfl (lv_at hl 7 rfl) ?_
                          refine lv_iload hx hb dX1_next_108 (lv_at hl 2 rfl) ?_
                          refine lv_iload hx hb dX1_next_110 (lv_at hl 1 rfl) ?_
                          refine lv_iload hx hb dX1_next_112 (lv_at hl 0 rfl) ?_
                          refine ro_V3 ⟨hx, hb, hml, hown, hts⟩ (c_X1_leads l D o cI cZ th tw ch sm od st cl us w h f x0 (y0 - 1) 2 gw2 gh2 gf (by omega) (by omega) (by decide) (bI_n0.mp c104_2)) (cwV 3 hts gX1_next_X1_leads rfl rfl rfl (by decide +kernel) ⟨Nat.le_of_ble_eq_true rfl, Nat.le_of_ble_eq_true rfl⟩) (va_recv hK hP (ci := 1) (q0 := 0) rfl rfl) hP hK hP hS rfl hl.1 (lv_room (Nat.le_of_ble_eq_true rfl)) dX1_next_114 ⟨Nat.le_of_ble_eq_true rfl, Nat.le_of_ble_eq_true rfl⟩ (fun r114 H locs hr114 hP hS => ?_)
                          subst hr114
                          refine lv_istore (lv' := [(4, .int (nI (eO w h x0 (y0 - 1) (ldB f tw x0 (y0 - 1) 2)))), (8, .int (nI 2)), (7, .int (nI (y0 - 1))), (6, .int (nI x0)), (5, .int 1), (3, .int (nI y0)), (2, .int (nI x0)), (0, .ref (o 0)), (1, .int (nI e0))]) hx hb dX1_next_117 hl (by decide) rfl (fun ls hl => ?_)
                          refine lv_iinc (v := 2) (lv' := [(5, .int 2), (4, .int (nI (eO w h x0 (y0 - 1) (ldB f tw x0 (y0 - 1) 2)))), (8, .int (nI 2)), (7, .int (nI (y0 - 1))), (6, .int (nI x0)), (3, .int (nI y0)), (2, .int (nI x0)), (0, .ref (o 0)), (1, .int (nI e0))]) hx hb dX1_next_119 hl (k := 4) rfl (by decide) (by decide) rfl (fun ls hl => ?_)
                          refine lv_goto (tgt := 18) hx hb dX1_next_122 (by decide) ?_
                          refine lv_iload hx hb dX1_next_18 (lv_at hl 0 rfl) ?_
                          refine lv_iconst (v := 2) hx hb dX1_next_20 (by decide) ?_
                          refine lv_icmp_ge (tgt := 125) hx hb dX1_next_21 (by decide) (fun c21_3 => ?_) (fun c21_3 => ?_)
                          · refine lv_iload hx hb dX1_next_125 (lv_at hl 1 rfl) ?_
                            exact W.iret (v := (nI (eO w h x0 (y0 - 1) (ldB f tw x0 (y0 - 1) 2)))) hx hb hr (fun t ht hW => ⟨⟨_, (), rfl, by unfold nxR; rw [if_pos (bd_t c29), ← ex0, ← ey0]; simp [bI_n0.mp c91, bI_n0.mp c91_2, bI_n0.mp c104, bI_n0.mp c104_2], trivial⟩, hS.F ht⟩) hS.2.2 dX1_next_127
                          · exact absurd c21_3 (by decide)

set_option maxHeartbeats 4000000 in
set_option maxRecDepth 100000 in
theorem c_X1_isLedTo (l : Launch) (D : va_G) (o : Nat → Nat) (cI cZ : ClassId) (th tw ch : Int32) (sm od st cl us : Nat → Int32) (w : Nat) (h : Nat) (f : Nat → Nat → Int32) (e0 : Nat) (gw : 2 ≤ w) (gw2 : w ≤ 12) (gh : 2 ≤ h) (gh2 : h ≤ 12) (gf : ∀ x y, x < w → y < h → sm (12 * y + x) = f x y) (ge : e0 < nE w h) : roMet l yX1_isLedTo wsX1_isLedTo ({ frames := 3, cells := 0, slots := 0, locals := 68 } : Room) D (W1 o cI cZ th (nI w) (nI h) tw ch sm od st cl us) [(cI, .int), (cZ, .boolean)] [.ref (o 0), .int (nI e0)] (fun r => r = bI (ltR w h f tw e0)) := by
  refine Met.ofW (cc := cX1_isLedTo) (maxL := 9) (ret := (some .boolean)) (by decide) rfl ?_
  intro p e s m args below meth c s₁ B hml hv
  obtain ⟨rfl, hP, hK⟩ := hv
  have hx := B.exec
  have hb := B.bytes
  have hr := B.returns
  have hts := atoms_spec (ws := wsX1_isLedTo) B.pre
  have hown : s.vm.findClass RX1 = some m.cls := findClass_of_methodNamed B.named
  have hlocks := B.notSynchronized
  have hin0 : ∀ w ∈ u_ws RX1 TX1 10, w ∈ wsX1_isLedTo := by decide +kernel
  have hS : va_S (fun _ => False) s.heap s.heap [] := va_S.rf
  have hP : va_P D vwCl (W1 o cI cZ th (nI w) (nI h) tw ch sm od st cl us) s.heap := hP
  have hl := lv_entry ([.ref (o 0), .int (nI e0)]) (n := 9) (Nat.le_of_ble_eq_true rfl)
  rw [lg_entry_eq]
  generalize (lg_sl ([.ref (o 0), .int (nI e0)]) ++ List.replicate (9 - (lg_sl ([.ref (o 0), .int (nI e0)])).length) Slot.unset).toArray = ls at hl ⊢
  have hl : lv_has ls 9 [(0, .ref (o 0)), (1, .int (nI e0))] := hl
  have hxy := xy_1 gw gh ge
  obtain ⟨x0, ex0⟩ : ∃ z, z = xE w h e0 := ⟨_, rfl⟩
  obtain ⟨y0, ey0⟩ : ∃ z, z = yE w h e0 := ⟨_, rfl⟩
  rw [← ex0, ← ey0] at hxy
  refine lv_aload_n hx hb dX1_isLedTo_0 rfl (lv_at hl 0 rfl) ?_
  refine lv_iload_n hx hb dX1_isLedTo_1 rfl (lv_at hl 1 rfl) ?_
  refine ro_V1 ⟨hx, hb, hml, hown, hts⟩ (c_X1_xOf l D o cI cZ th tw ch sm od st cl us w h e0 gw gw2 gh2 (by have := nE_le gw2 gh2; omega)) (cwV 1 hts gX1_isLedTo_X1_xOf rfl rfl rfl (by decide +kernel) ⟨Nat.le_of_ble_eq_true rfl, Nat.le_of_ble_eq_true rfl⟩) (va_recv hK hP (ci := 1) (q0 := 0) rfl rfl) hP hK hP hS rfl hl.1 (lv_room (Nat.le_of_ble_eq_true rfl)) dX1_isLedTo_2 ⟨Nat.le_of_ble_eq_true rfl, Nat.le_of_ble_eq_true rfl⟩ (fun r2 H locs hr2 hP hS => ?_)
  subst hr2
  rw [show (nI (xE w h e0)) = nI x0 from by rw [ex0]]
  refine lv_istore_n (lv' := [(2, .int (nI x0)), (0, .ref (o 0)), (1, .int (nI e0))]) hx hb dX1_isLedTo_5 rfl hl (by decide) rfl (fun ls hl => ?_)
  refine lv_aload_n hx hb dX1_isLedTo_6 rfl (lv_at hl 1 rfl) ?_
  refine lv_iload_n hx hb dX1_isLedTo_7 rfl (lv_at hl 2 rfl) ?_
  refine ro_V1 ⟨hx, hb, hml, hown, hts⟩ (c_X1_yOf l D o cI cZ th tw ch sm od st cl us w h e0 gw gw2 gh2 (by have := nE_le gw2 gh2; omega)) (cwV 1 hts gX1_isLedTo_X1_yOf rfl rfl rfl (by decide +kernel) ⟨Nat.le_of_ble_eq_true rfl, Nat.le_of_ble_eq_true rfl⟩) (va_recv hK hP (ci := 1) (q0 := 0) rfl rfl) hP hK hP hS rfl hl.1 (lv_room (Nat.le_of_ble_eq_true rfl)) dX1_isLedTo_8 ⟨Nat.le_of_ble_eq_true rfl, Nat.le_of_ble_eq_true rfl⟩ (fun r8 H locs hr8 hP hS => ?_)
  subst hr8
  rw [show (nI (yE w h e0)) = nI y0 from by rw [ey0]]
  refine lv_istore_n (lv' := [(3, .int (nI y0)), (2, .int (nI x0)), (0, .ref (o 0)), (1, .int (nI e0))]) hx hb dX1_isLedTo_11 rfl hl (by decide) rfl (fun ls hl => ?_)
  refine lv_iconst (v := 0) hx hb dX1_isLedTo_12 (by decide) ?_
  refine lv_istore (lv' := [(4, .int 0), (3, .int (nI y0)), (2, .int (nI x0)), (0, .ref (o 0)), (1, .int (nI e0))]) hx hb dX1_isLedTo_13 hl (by decide) rfl (fun ls hl => ?_)
  refine lv_iconst (v := 0) hx hb dX1_isLedTo_15 (by decide) ?_
  refine lv_istore (lv' := [(5, .int 0), (4, .int 0), (3, .int (nI y0)), (2, .int (nI x0)), (0, .ref (o 0)), (1, .int (nI e0))]) hx hb dX1_isLedTo_16 hl (by decide) rfl (fun ls hl => ?_)
  refine lv_iload hx hb dX1_isLedTo_18 (lv_at hl 0 rfl) ?_
  refine lv_iconst (v := 2) hx hb dX1_isLedTo_20 (by decide) ?_
  refine lv_icmp_ge (tgt := 125) hx hb dX1_isLedTo_21 (by decide) (fun c21 => ?_) (fun c21 => ?_)
  · exact absurd c21 (by decide)
  · refine lv_aload_n hx hb dX1_isLedTo_24 rfl (lv_at hl 4 rfl) ?_
    refine lv_iload_n hx hb dX1_isLedTo_25 rfl (lv_at hl 5 rfl) ?_
    refine ro_V1 ⟨hx, hb, hml, hown, hts⟩ (c_X1_isAcross l D o cI cZ th tw ch sm od st cl us w h e0 gw gw2 gh2 (by have := nE_le gw2 gh2; omega)) (cwV 1 hts gX1_isLedTo_X1_isAcross rfl rfl rfl (by decide +kernel) ⟨Nat.le_of_ble_eq_true rfl, Nat.le_of_ble_eq_true rfl⟩) (va_recv hK hP (ci := 1) (q0 := 0) rfl rfl) hP hK hP hS rfl hl.1 (lv_room (Nat.le_of_ble_eq_true rfl)) dX1_isLedTo_26 ⟨Nat.le_of_ble_eq_true rfl, Nat.le_of_ble_eq_true rfl⟩ (fun r26 H locs hr26 hP hS => ?_)
    subst hr26
    refine lv_if_eq (tgt := 36) hx hb dX1_isLedTo_29 (by decide) (fun c29 => ?_) (fun c29 => ?_)
    · refine lv_iload_n hx hb dX1_isLedTo_36 rfl (lv_at hl 3 rfl) ?_
      refine lv_iload hx hb dX1_isLedTo_37 (lv_at hl 0 rfl) ?_
      refine lv_isub hx hb dX1_isLedTo_39 ?_
      rw [show ((nI x0) - 0) = nI x0 from by simp]
      refine lv_istore (lv' := [(6, .int (nI x0)), (5, .int 0), (4, .int 0), (3, .int (nI y0)), (2, .int (nI x0)), (0, .ref (o 0)), (1, .int (nI e0))]) hx hb dX1_isLedTo_40 hl (by decide) rfl (fun ls hl => ?_)
      refine lv_aload_n hx hb dX1_isLedTo_42 rfl (lv_at hl 5 rfl) ?_
      refine lv_iload_n hx hb dX1_isLedTo_43 rfl (lv_at hl 6 rfl) ?_
      refine ro_V1 ⟨hx, hb, hml, hown, hts⟩ (c_X1_isAcross l D o cI cZ th tw ch sm od st cl us w h e0 gw gw2 gh2 (by have := nE_le gw2 gh2; omega)) (cwV 1 hts gX1_isLedTo_X1_isAcross rfl rfl rfl (by decide +kernel) ⟨Nat.le_of_ble_eq_true rfl, Nat.le_of_ble_eq_true rfl⟩) (va_recv hK hP (ci := 1) (q0 := 0) rfl rfl) hP hK hP hS rfl hl.1 (lv_room (Nat.le_of_ble_eq_true rfl)) dX1_isLedTo_44 ⟨Nat.le_of_ble_eq_true rfl, Nat.le_of_ble_eq_true rfl⟩ (fun r44 H locs hr44 hP hS => ?_)
      subst hr44
      refine lv_if_eq (tgt := 57) hx hb dX1_isLedTo_47 (by decide) (fun c47 => ?_) (fun c47 => ?_)
      · refine lv_iload_n hx hb dX1_isLedTo_57 rfl (lv_at hl 3 rfl) ?_
        refine lv_istore (lv' := [(7, .int (nI y0)), (6, .int (nI x0)), (5, .int 0), (4, .int 0), (3, .int (nI y0)), (2, .int (nI x0)), (0, .ref (o 0)), (1, .int (nI e0))]) hx hb dX1_isLedTo_58 hl (by decide) rfl (fun ls hl => ?_)
        refine lv_aload_n hx hb dX1_isLedTo_60 rfl (lv_at hl 6 rfl) ?_
        refine lv_iload_n hx hb dX1_isLedTo_61 rfl (lv_at hl 7 rfl) ?_
        refine ro_V1 ⟨hx, hb, hml, hown, hts⟩ (c_X1_isAcross l D o cI cZ th tw ch sm od st cl us w h e0 gw gw2 gh2 (by have := nE_le gw2 gh2; omega)) (cwV 1 hts gX1_isLedTo_X1_isAcross rfl rfl rfl (by decide +kernel) ⟨Nat.le_of_ble_eq_true rfl, Nat.le_of_ble_eq_true rfl⟩) (va_recv hK hP (ci := 1) (q0 := 0) rfl rfl) hP hK hP hS rfl hl.1 (lv_room (Nat.le_of_ble_eq_true rfl)) dX1_isLedTo_62 ⟨Nat.le_of_ble_eq_true rfl, Nat.le_of_ble_eq_true rfl⟩ (fun r62 H locs hr62 hP hS => ?_)
        subst hr62
        refine lv_if_eq (tgt := 75) hx hb dX1_isLedTo_65 (by decide) (fun c65 => ?_) (fun c65 => ?_)
        · refine lv_iconst (v := 3) hx hb dX1_isLedTo_75 (by decide) ?_
          refine lv_iconst (v := 2) hx hb dX1_isLedTo_76 (by decide) ?_
          refine lv_iload hx hb dX1_isLedTo_77 (lv_at hl 2 rfl) ?_
          refine lv_imul hx hb dX1_isLedTo_79 ?_
          refine lv_isub hx hb dX1_isLedTo_80 ?_
          rw [show (3 - (2 * 0)) = nI 3 from by decide]
          refine lv_istore (lv' := [(8, .int (nI 3)), (7, .int (nI y0)), (6, .int (nI x0)), (5, .int 0), (4, .int 0), (3, .int (nI y0)), (2, .int (nI x0)), (0, .ref (o 0)), (1, .int (nI e0))]) hx hb dX1_isLedTo_81 hl (by decide) rfl (fun ls hl => ?_)
          refine lv_iload hx hb dX1_isLedTo_83 (lv_at hl 4 rfl) ?_
          refine lv_if_ne (tgt := 112) hx hb dX1_isLedTo_85 (by decide) (fun c85 => ?_) (fun c85 => ?_)
          · exact absurd c85 (by decide)
          · refine lv_aload_n hx hb dX1_isLedTo_88 rfl (lv_at hl 7 rfl) ?_
            refine lv_iload hx hb dX1_isLedTo_89 (lv_at hl 2 rfl) ?_
            refine lv_iload hx hb dX1_isLedTo_91 (lv_at hl 1 rfl) ?_
            refine ro_V2 ⟨hx, hb, hml, hown, hts⟩ (c_X1_isCell l D o cI cZ th tw ch sm od st cl us w h (nI x0) (nI y0) (by omega) (by omega)) (cwV 2 hts gX1_isLedTo_X1_isCell rfl rfl rfl (by decide +kernel) ⟨Nat.le_of_ble_eq_true rfl, Nat.le_of_ble_eq_true rfl⟩) (va_recv hK hP (ci := 1) (q0 := 0) rfl rfl) hP hK hP hS rfl hl.1 (lv_room (Nat.le_of_ble_eq_true rfl)) dX1_isLedTo_93 ⟨Nat.le_of_ble_eq_true rfl, Nat.le_of_ble_eq_true rfl⟩ (fun r93 H locs hr93 hP hS => ?_)
            subst hr93
            rw [show (bI (decide (0 ≤ (nI x0)) && decide ((nI x0) < nI (w - 1)) && decide (0 ≤ (nI y0)) && decide ((nI y0) < nI (h - 1)))) = bI (cl0 w h x0 y0) from by rw [cl_0 gw gw2 gh gh2 (by omega) (by omega)]]
            refine lv_if_eq (tgt := 116) hx hb dX1_isLedTo_96 (by decide) (fun c96 => ?_) (fun c96 => ?_)
            · refine lv_iconst (v := 0) hx hb dX1_isLedTo_116 (by decide) ?_
              refine lv_istore (lv' := [(4, .int 0), (8, .int (nI 3)), (7, .int (nI y0)), (6, .int (nI x0)), (5, .int 0), (3, .int (nI y0)), (2, .int (nI x0)), (0, .ref (o 0)), (1, .int (nI e0))]) hx hb dX1_isLedTo_117 hl (by decide) rfl (fun ls hl => ?_)
              refine lv_iinc (v := 1) (lv' := [(5, .int 1), (4, .int 0), (8, .int (nI 3)), (7, .int (nI y0)), (6, .int (nI x0)), (3, .int (nI y0)), (2, .int (nI x0)), (0, .ref (o 0)), (1, .int (nI e0))]) hx hb dX1_isLedTo_119 hl (k := 4) rfl (by decide) (by decide) rfl (fun ls hl => ?_)
              refine lv_goto (tgt := 18) hx hb dX1_isLedTo_122 (by decide) ?_
              refine lv_iload hx hb dX1_isLedTo_18 (lv_at hl 0 rfl) ?_
              refine lv_iconst (v := 2) hx hb dX1_isLedTo_20 (by decide) ?_
              refine lv_icmp_ge (tgt := 125) hx hb dX1_isLedTo_21 (by decide) (fun c21_2 => ?_) (fun c21_2 => ?_)
              · exact absurd c21_2 (by decide)
              · refine lv_aload_n hx hb dX1_isLedTo_24 rfl (lv_at hl 7 rfl) ?_
                refine lv_iload_n hx hb dX1_isLedTo_25 rfl (lv_at hl 8 rfl) ?_
                refine ro_V1 ⟨hx, hb, hml, hown, hts⟩ (c_X1_isAcross l D o cI cZ th tw ch sm od st cl us w h e0 gw gw2 gh2 (by have := nE_le gw2 gh2; omega)) (cwV 1 hts gX1_isLedTo_X1_isAcross rfl rfl rfl (by decide +kernel) ⟨Nat.le_of_ble_eq_true rfl, Nat.le_of_ble_eq_true rfl⟩) (va_recv hK hP (ci := 1) (q0 := 0) rfl rfl) hP hK hP hS rfl hl.1 (lv_room (Nat.le_of_ble_eq_true rfl)) dX1_isLedTo_26 ⟨Nat.le_of_ble_eq_true rfl, Nat.le_of_ble_eq_true rfl⟩ (fun r26 H locs hr26 hP hS => ?_)
                subst hr26
                refine lv_if_eq (tgt := 36) hx hb dX1_isLedTo_29 (by decide) (fun c29_2 => ?_) (fun c29_2 => ?_)
                · refine lv_iload_n hx hb dX1_isLedTo_36 rfl (lv_at hl 6 rfl) ?_
                  refine lv_iload hx hb dX1_isLedTo_37 (lv_at hl 0 rfl) ?_
                  refine lv_isub hx hb dX1_isLedTo_39 ?_
                  rw [show ((nI x0) - 1) = (nI x0 - 1) from rfl]
                  refine lv_istore (lv' := [(6, .int (nI x0 - 1)), (5, .int 1), (4, .int 0), (8, .int (nI 3)), (7, .int (nI y0)), (3, .int (nI y0)), (2, .int (nI x0)), (0, .ref (o 0)), (1, .int (nI e0))]) hx hb dX1_isLedTo_40 hl (by decide) rfl (fun ls hl => ?_)
                  refine lv_aload_n hx hb dX1_isLedTo_42 rfl (lv_at hl 7 rfl) ?_
                  refine lv_iload_n hx hb dX1_isLedTo_43 rfl (lv_at hl 8 rfl) ?_
                  refine ro_V1 ⟨hx, hb, hml, hown, hts⟩ (c_X1_isAcross l D o cI cZ th tw ch sm od st cl us w h e0 gw gw2 gh2 (by have := nE_le gw2 gh2; omega)) (cwV 1 hts gX1_isLedTo_X1_isAcross rfl rfl rfl (by decide +kernel) ⟨Nat.le_of_ble_eq_true rfl, Nat.le_of_ble_eq_true rfl⟩) (va_recv hK hP (ci := 1) (q0 := 0) rfl rfl) hP hK hP hS rfl hl.1 (lv_room (Nat.le_of_ble_eq_true rfl)) dX1_isLedTo_44 ⟨Nat.le_of_ble_eq_true rfl, Nat.le_of_ble_eq_true rfl⟩ (fun r44 H locs hr44 hP hS => ?_)
                  subst hr44
                  refine lv_if_eq (tgt := 57) hx hb dX1_isLedTo_47 (by decide) (fun c47_2 => ?_) (fun c47_2 => ?_)
                  · refine lv_iload_n hx hb dX1_isLedTo_57 rfl (lv_at hl 5 rfl) ?_
                    refine lv_istore (lv' := [(7, .int (nI y0)), (6, .int (nI x0 - 1)), (5, .int 1), (4, .int 0), (8, .int (nI 3)), (3, .int (nI y0)), (2, .int (nI x0)), (0, .ref (o 0)), (1, .int (nI e0))]) hx hb dX1_isLedTo_58 hl (by decide) rfl (fun ls hl => ?_)
                    refine lv_aload_n hx hb dX1_isLedTo_60 rfl (lv_at hl 7 rfl) ?_
                    refine lv_iload_n hx hb dX1_isLedTo_61 rfl (lv_at hl 8 rfl) ?_
                    refine ro_V1 ⟨hx, hb, hml, hown, hts⟩ (c_X1_isAcross l D o cI cZ th tw ch sm od st cl us w h e0 gw gw2 gh2 (by have := nE_le gw2 gh2; omega)) (cwV 1 hts gX1_isLedTo_X1_isAcross rfl rfl rfl (by decide +kernel) ⟨Nat.le_of_ble_eq_true rfl, Nat.le_of_ble_eq_true rfl⟩) (va_recv hK hP (ci := 1) (q0 := 0) rfl rfl) hP hK hP hS rfl hl.1 (lv_room (Nat.le_of_ble_eq_true rfl)) dX1_isLedTo_62 ⟨Nat.le_of_ble_eq_true rfl, Nat.le_of_ble_eq_true rfl⟩ (fun r62 H locs hr62 hP hS => ?_)
                    subst hr62
                    refine lv_if_eq (tgt := 75) hx hb dX1_isLedTo_65 (by decide) (fun c65_2 => ?_) (fun c65_2 => ?_)
                    · refine lv_iconst (v := 3) hx hb dX1_isLedTo_75 (by decide) ?_
                      refine lv_iconst (v := 2) hx hb dX1_isLedTo_76 (by decide) ?_
                      refine lv_iload hx hb dX1_isLedTo_77 (lv_at hl 2 rfl) ?_
                      refine lv_imul hx hb dX1_isLedTo_79 ?_
                      refine lv_isub hx hb dX1_isLedTo_80 ?_
                      rw [show (3 - (2 * 1)) = nI 1 from by decide]
                      refine lv_istore (lv' := [(8, .int (nI 1)), (7, .int (nI y0)), (6, .int (nI x0 - 1)), (5, .int 1), (4, .int 0), (3, .int (nI y0)), (2, .int (nI x0)), (0, .ref (o 0)), (1, .int (nI e0))]) hx hb dX1_isLedTo_81 hl (by decide) rfl (fun ls hl => ?_)
                      refine lv_iload hx hb dX1_isLedTo_83 (lv_at hl 4 rfl) ?_
                      refine lv_if_ne (tgt := 112) hx hb dX1_isLedTo_85 (by decide) (fun c85_2 => ?_) (fun c85_2 => ?_)
                      · exact absurd c85_2 (by decide)
                      · refine lv_aload_n hx hb dX1_isLedTo_88 rfl (lv_at hl 7 rfl) ?_
                        refine lv_iload hx hb dX1_isLedTo_89 (lv_at hl 2 rfl) ?_
                        refine lv_iload hx hb dX1_isLedTo_91 (lv_at hl 1 rfl) ?_
                        refine ro_V2 ⟨hx, hb, hml, hown, hts⟩ (c_X1_isCell l D o cI cZ th tw ch sm od st cl us w h (nI x0 - 1) (nI y0) (by omega) (by omega)) (cwV 2 hts gX1_isLedTo_X1_isCell rfl rfl rfl (by decide +kernel) ⟨Nat.le_of_ble_eq_true rfl, Nat.le_of_ble_eq_true rfl⟩) (va_recv hK hP (ci := 1) (q0 := 0) rfl rfl) hP hK hP hS rfl hl.1 (lv_room (Nat.le_of_ble_eq_true rfl)) dX1_isLedTo_93 ⟨Nat.le_of_ble_eq_true rfl, Nat.le_of_ble_eq_true rfl⟩ (fun r93 H locs hr93 hP hS => ?_)
                        subst hr93
                        rw [show (bI (decide (0 ≤ (nI x0 - 1)) && decide ((nI x0 - 1) < nI (w - 1)) && decide (0 ≤ (nI y0)) && decide ((nI y0) < nI (h - 1)))) = bI (clX w h x0 y0) from by rw [cl_X gw gw2 gh gh2 (by omega) (by omega)]]
                        refine lv_if_eq (tgt := 116) hx hb dX1_isLedTo_96 (by decide) (fun c96_2 => ?_) (fun c96_2 => ?_)
                        · refine lv_iconst (v := 0) hx hb dX1_isLedTo_116 (by decide) ?_
                          refine lv_istore (lv' := [(4, .int 0), (8, .int (nI 1)), (7, .int (nI y0)), (6, .int (nI x0 - 1)), (5, .int 1), (3, .int (nI y0)), (2, .int (nI x0)), (0, .ref (o 0)), (1, .int (nI e0))]) hx hb dX1_isLedTo_117 hl (by decide) rfl (fun ls hl => ?_)
                          refine lv_iinc (v := 2) (lv' := [(5, .int 2), (4, .int 0), (8, .int (nI 1)), (7, .int (nI y0)), (6, .int (nI x0 - 1)), (3, .int (nI y0)), (2, .int (nI x0)), (0, .ref (o 0)), (1, .int (nI e0))]) hx hb dX1_isLedTo_119 hl (k := 4) rfl (by decide) (by decide) rfl (fun ls hl => ?_)
                          refine lv_goto (tgt := 18) hx hb dX1_isLedTo_122 (by decide) ?_
                          refine lv_iload hx hb dX1_isLedTo_18 (lv_at hl 0 rfl) ?_
                          refine lv_iconst (v := 2) hx hb dX1_isLedTo_20 (by decide) ?_
                          refine lv_icmp_ge (tgt := 125) hx hb dX1_isLedTo_21 (by decide) (fun c21_3 => ?_) (fun c21_3 => ?_)
                          · refine lv_iload hx hb dX1_isLedTo_125 (lv_at hl 1 rfl) ?_
                            exact W.zret (v := 0) (ty := .boolean) hx hb hr rfl (fun t ht hW => ⟨⟨_, (), rfl, by unfold ltR; rw [if_neg (bd_f c29), ← ex0, ← ey0]; simp [bI_0.mp c96, bI_0.mp c96_2, bI], trivial⟩, hS.F ht⟩) hS.2.2 dX1_isLedTo_127
                          · exact absurd c21_3 (by decide)
                        · have hc1 := clX_ok (bI_n0.mp c96_2)
                          rw [nI_m1 hc1.2.1] at hl
                          refine lv_aload_n hx hb dX1_isLedTo_99 rfl (lv_at hl 7 rfl) ?_
                          refine lv_iload hx hb dX1_isLedTo_100 (lv_at hl 2 rfl) ?_
                          refine lv_iload hx hb dX1_isLedTo_102 (lv_at hl 1 rfl) ?_
                          refine lv_iload hx hb dX1_isLedTo_104 (lv_at hl 0 rfl) ?_
                          refine ro_V3 ⟨hx, hb, hml, hown, hts⟩ (c_X1_isUp l D o cI cZ th tw ch sm od st cl us w h f (x0 - 1) y0 1 gw2 gh2 gf (by omega) (by omega) (by decide)) (cwV 3 hts gX1_isLedTo_X1_isUp rfl rfl rfl (by decide +kernel) ⟨Nat.le_of_ble_eq_true rfl, Nat.le_of_ble_eq_true rfl⟩) (va_recv hK hP (ci := 1) (q0 := 0) rfl rfl) hP hK hP hS rfl hl.1 (lv_room (Nat.le_of_ble_eq_true rfl)) dX1_isLedTo_106 ⟨Nat.le_of_ble_eq_true rfl, Nat.le_of_ble_eq_true rfl⟩ (fun r106 H locs hr106 hP hS => ?_)
                          subst hr106
                          refine lv_if_eq (tgt := 116) hx hb dX1_isLedTo_109 (by decide) (fun c109 => ?_) (fun c109 => ?_)
                          · refine lv_iconst (v := 0) hx hb dX1_isLedTo_116 (by decide) ?_
                            refine lv_istore (lv' := [(4, .int 0), (8, .int (nI 1)), (7, .int (nI y0)), (6, .int (nI (x0 - 1))), (5, .int 1), (3, .int (nI y0)), (2, .int (nI x0)), (0, .ref (o 0)), (1, .int (nI e0))]) hx hb dX1_isLedTo_117 hl (by decide) rfl (fun ls hl => ?_)
                            refine lv_iinc (v := 2) (lv' := [(5, .int 2), (4, .int 0), (8, .int (nI 1)), (7, .int (nI y0)), (6, .int (nI (x0 - 1))), (3, .int (nI y0)), (2, .int (nI x0)), (0, .ref (o 0)), (1, .int (nI e0))]) hx hb dX1_isLedTo_119 hl (k := 4) rfl (by decide) (by decide) rfl (fun ls hl => ?_)
                            refine lv_goto (tgt := 18) hx hb dX1_isLedTo_122 (by decide) ?_
                            refine lv_iload hx hb dX1_isLedTo_18 (lv_at hl 0 rfl) ?_
                            refine lv_iconst (v := 2) hx hb dX1_isLedTo_20 (by decide) ?_
                            refine lv_icmp_ge (tgt := 125) hx hb dX1_isLedTo_21 (by decide) (fun c21_3 => ?_) (fun c21_3 => ?_)
                            · refine lv_iload hx hb dX1_isLedTo_125 (lv_at hl 1 rfl) ?_
                              exact W.zret (v := 0) (ty := .boolean) hx hb hr rfl (fun t ht hW => ⟨⟨_, (), rfl, by unfold ltR; rw [if_neg (bd_f c29), ← ex0, ← ey0]; simp [bI_0.mp c96, bI_n0.mp c96_2, bI_0.mp c109, bI], trivial⟩, hS.F ht⟩) hS.2.2 dX1_isLedTo_127
                            · exact absurd c21_3 (by decide)
                          · refine lv_iconst (v := 1) hx hb dX1_isLedTo_112 (by decide) ?_
                            refine lv_goto (tgt := 117) hx hb dX1_isLedTo_113 (by decide) ?_
                            refine lv_istore (lv' := [(4, .int 1), (8, .int (nI 1)), (7, .int (nI y0)), (6, .int (nI (x0 - 1))), (5, .int 1), (3, .int (nI y0)), (2, .int (nI x0)), (0, .ref (o 0)), (1, .int (nI e0))]) hx hb dX1_isLedTo_117 hl (by decide) rfl (fun ls hl => ?_)
                            refine lv_iinc (v := 2) (lv' := [(5, .int 2), (4, .int 1), (8, .int (nI 1)), (7, .int (nI y0)), (6, .int (nI (x0 - 1))), (3, .int (nI y0)), (2, .int (nI x0)), (0, .ref (o 0)), (1, .int (nI e0))]) hx hb dX1_isLedTo_119 hl (k := 4) rfl (by decide) (by decide) rfl (fun ls hl => ?_)
                            refine lv_goto (tgt := 18) hx hb dX1_isLedTo_122 (by decide) ?_
                            refine lv_iload hx hb dX1_isLedTo_18 (lv_at hl 0 rfl) ?_
                            refine lv_iconst (v := 2) hx hb dX1_isLedTo_20 (by decide) ?_
                            refine lv_icmp_ge (tgt := 125) hx hb dX1_isLedTo_21 (by decide) (fun c21_3 => ?_) (fun c21_3 => ?_)
                            · refine lv_iload hx hb dX1_isLedTo_125 (lv_at hl 1 rfl) ?_
                              exact W.zret (v := 1) (ty := .boolean) hx hb hr rfl (fun t ht hW => ⟨⟨_, (), rfl, by unfold ltR; rw [if_neg (bd_f c29), ← ex0, ← ey0]; simp [bI_0.mp c96, bI_n0.mp c96_2, bI_n0.mp c109, bI], trivial⟩, hS.F ht⟩) hS.2.2 dX1_isLedTo_127
                            · exact absurd c21_3 (by decide)
                    · exact absurd c29 c65_2
                  · exact absurd c29 c47_2
                · exact absurd c29 c29_2
            · have hc0 := cl0_ok (bI_n0.mp c96)
              refine lv_aload_n hx hb dX1_isLedTo_99 rfl (lv_at hl 7 rfl) ?_
              refine lv_iload hx hb dX1_isLedTo_100 (lv_at hl 2 rfl) ?_
              refine lv_iload hx hb dX1_isLedTo_102 (lv_at hl 1 rfl) ?_
              refine lv_iload hx hb dX1_isLedTo_104 (lv_at hl 0 rfl) ?_
              refine ro_V3 ⟨hx, hb, hml, hown, hts⟩ (c_X1_isUp l D o cI cZ th tw ch sm od st cl us w h f x0 y0 3 gw2 gh2 gf (by omega) (by omega) (by decide)) (cwV 3 hts gX1_isLedTo_X1_isUp rfl rfl rfl (by decide +kernel) ⟨Nat.le_of_ble_eq_true rfl, Nat.le_of_ble_eq_true rfl⟩) (va_recv hK hP (ci := 1) (q0 := 0) rfl rfl) hP hK hP hS rfl hl.1 (lv_room (Nat.le_of_ble_eq_true rfl)) dX1_isLedTo_106 ⟨Nat.le_of_ble_eq_true rfl, Nat.le_of_ble_eq_true rfl⟩ (fun r106 H locs hr106 hP hS => ?_)
              subst hr106
              refine lv_if_eq (tgt := 116) hx hb dX1_isLedTo_109 (by decide) (fun c109 => ?_) (fun c109 => ?_)
              · refine lv_iconst (v := 0) hx hb dX1_isLedTo_116 (by decide) ?_
                refine lv_istore (lv' := [(4, .int 0), (8, .int (nI 3)), (7, .int (nI y0)), (6, .int (nI x0)), (5, .int 0), (3, .int (nI y0)), (2, .int (nI x0)), (0, .ref (o 0)), (1, .int (nI e0))]) hx hb dX1_isLedTo_117 hl (by decide) rfl (fun ls hl => ?_)
                refine lv_iinc (v := 1) (lv' := [(5, .int 1), (4, .int 0), (8, .int (nI 3)), (7, .int (nI y0)), (6, .int (nI x0)), (3, .int (nI y0)), (2, .int (nI x0)), (0, .ref (o 0)), (1, .int (nI e0))]) hx hb dX1_isLedTo_119 hl (k := 4) rfl (by decide) (by decide) rfl (fun ls hl => ?_)
                refine lv_goto (tgt := 18) hx hb dX1_isLedTo_122 (by decide) ?_
                refine lv_iload hx hb dX1_isLedTo_18 (lv_at hl 0 rfl) ?_
                refine lv_iconst (v := 2) hx hb dX1_isLedTo_20 (by decide) ?_
                refine lv_icmp_ge (tgt := 125) hx hb dX1_isLedTo_21 (by decide) (fun c21_2 => ?_) (fun c21_2 => ?_)
                · exact absurd c21_2 (by decide)
                · refine lv_aload_n hx hb dX1_isLedTo_24 rfl (lv_at hl 7 rfl) ?_
                  refine lv_iload_n hx hb dX1_isLedTo_25 rfl (lv_at hl 8 rfl) ?_
                  refine ro_V1 ⟨hx, hb, hml, hown, hts⟩ (c_X1_isAcross l D o cI cZ th tw ch sm od st cl us w h e0 gw gw2 gh2 (by have := nE_le gw2 gh2; omega)) (cwV 1 hts gX1_isLedTo_X1_isAcross rfl rfl rfl (by decide +kernel) ⟨Nat.le_of_ble_eq_true rfl, Nat.le_of_ble_eq_true rfl⟩) (va_recv hK hP (ci := 1) (q0 := 0) rfl rfl) hP hK hP hS rfl hl.1 (lv_room (Nat.le_of_ble_eq_true rfl)) dX1_isLedTo_26 ⟨Nat.le_of_ble_eq_true rfl, Nat.le_of_ble_eq_true rfl⟩ (fun r26 H locs hr26 hP hS => ?_)
                  subst hr26
                  refine lv_if_eq (tgt := 36) hx hb dX1_isLedTo_29 (by decide) (fun c29_2 => ?_) (fun c29_2 => ?_)
                  · refine lv_iload_n hx hb dX1_isLedTo_36 rfl (lv_at hl 6 rfl) ?_
                    refine lv_iload hx hb dX1_isLedTo_37 (lv_at hl 0 rfl) ?_
                    refine lv_isub hx hb dX1_isLedTo_39 ?_
                    rw [show ((nI x0) - 1) = (nI x0 - 1) from rfl]
                    refine lv_istore (lv' := [(6, .int (nI x0 - 1)), (5, .int 1), (4, .int 0), (8, .int (nI 3)), (7, .int (nI y0)), (3, .int (nI y0)), (2, .int (nI x0)), (0, .ref (o 0)), (1, .int (nI e0))]) hx hb dX1_isLedTo_40 hl (by decide) rfl (fun ls hl => ?_)
                    refine lv_aload_n hx hb dX1_isLedTo_42 rfl (lv_at hl 7 rfl) ?_
                    refine lv_iload_n hx hb dX1_isLedTo_43 rfl (lv_at hl 8 rfl) ?_
                    refine ro_V1 ⟨hx, hb, hml, hown, hts⟩ (c_X1_isAcross l D o cI cZ th tw ch sm od st cl us w h e0 gw gw2 gh2 (by have := nE_le gw2 gh2; omega)) (cwV 1 hts gX1_isLedTo_X1_isAcross rfl rfl rfl (by decide +kernel) ⟨Nat.le_of_ble_eq_true rfl, Nat.le_of_ble_eq_true rfl⟩) (va_recv hK hP (ci := 1) (q0 := 0) rfl rfl) hP hK hP hS rfl hl.1 (lv_room (Nat.le_of_ble_eq_true rfl)) dX1_isLedTo_44 ⟨Nat.le_of_ble_eq_true rfl, Nat.le_of_ble_eq_true rfl⟩ (fun r44 H locs hr44 hP hS => ?_)
                    subst hr44
                    refine lv_if_eq (tgt := 57) hx hb dX1_isLedTo_47 (by decide) (fun c47_2 => ?_) (fun c47_2 => ?_)
                    · refine lv_iload_n hx hb dX1_isLedTo_57 rfl (lv_at hl 5 rfl) ?_
                      refine lv_istore (lv' := [(7, .int (nI y0)), (6, .int (nI x0 - 1)), (5, .int 1), (4, .int 0), (8, .int (nI 3)), (3, .int (nI y0)), (2, .int (nI x0)), (0, .ref (o 0)), (1, .int (nI e0))]) hx hb dX1_isLedTo_58 hl (by decide) rfl (fun ls hl => ?_)
                      refine lv_aload_n hx hb dX1_isLedTo_60 rfl (lv_at hl 7 rfl) ?_
                      refine lv_iload_n hx hb dX1_isLedTo_61 rfl (lv_at hl 8 rfl) ?_
                      refine ro_V1 ⟨hx, hb, hml, hown, hts⟩ (c_X1_isAcross l D o cI cZ th tw ch sm od st cl us w h e0 gw gw2 gh2 (by have := nE_le gw2 gh2; omega)) (cwV 1 hts gX1_isLedTo_X1_isAcross rfl rfl rfl (by decide +kernel) ⟨Nat.le_of_ble_eq_true rfl, Nat.le_of_ble_eq_true rfl⟩) (va_recv hK hP (ci := 1) (q0 := 0) rfl rfl) hP hK hP hS rfl hl.1 (lv_room (Nat.le_of_ble_eq_true rfl)) dX1_isLedTo_62 ⟨Nat.le_of_ble_eq_true rfl, Nat.le_of_ble_eq_true rfl⟩ (fun r62 H locs hr62 hP hS => ?_)
                      subst hr62
                      refine lv_if_eq (tgt := 75) hx hb dX1_isLedTo_65 (by decide) (fun c65_2 => ?_) (fun c65_2 => ?_)
                      · refine lv_iconst (v := 3) hx hb dX1_isLedTo_75 (by decide) ?_
                        refine lv_iconst (v := 2) hx hb dX1_isLedTo_76 (by decide) ?_
                        refine lv_iload hx hb dX1_isLedTo_77 (lv_at hl 2 rfl) ?_
                        refine lv_imul hx hb dX1_isLedTo_79 ?_
                        refine lv_isub hx hb dX1_isLedTo_80 ?_
                        rw [show (3 - (2 * 1)) = nI 1 from by decide]
                        refine lv_istore (lv' := [(8, .int (nI 1)), (7, .int (nI y0)), (6, .int (nI x0 - 1)), (5, .int 1), (4, .int 0), (3, .int (nI y0)), (2, .int (nI x0)), (0, .ref (o 0)), (1, .int (nI e0))]) hx hb dX1_isLedTo_81 hl (by decide) rfl (fun ls hl => ?_)
                        refine lv_iload hx hb dX1_isLedTo_83 (lv_at hl 4 rfl) ?_
                        refine lv_if_ne (tgt := 112) hx hb dX1_isLedTo_85 (by decide) (fun c85_2 => ?_) (fun c85_2 => ?_)
                        · exact absurd c85_2 (by decide)
                        · refine lv_aload_n hx hb dX1_isLedTo_88 rfl (lv_at hl 7 rfl) ?_
                          refine lv_iload hx hb dX1_isLedTo_89 (lv_at hl 2 rfl) ?_
                          refine lv_iload hx hb dX1_isLedTo_91 (lv_at hl 1 rfl) ?_
                          refine ro_V2 ⟨hx, hb, hml, hown, hts⟩ (c_X1_isCell l D o cI cZ th tw ch sm od st cl us w h (nI x0 - 1) (nI y0) (by omega) (by omega)) (cwV 2 hts gX1_isLedTo_X1_isCell rfl rfl rfl (by decide +kernel) ⟨Nat.le_of_ble_eq_true rfl, Nat.le_of_ble_eq_true rfl⟩) (va_recv hK hP (ci := 1) (q0 := 0) rfl rfl) hP hK hP hS rfl hl.1 (lv_room (Nat.le_of_ble_eq_true rfl)) dX1_isLedTo_93 ⟨Nat.le_of_ble_eq_true rfl, Nat.le_of_ble_eq_true rfl⟩ (fun r93 H locs hr93 hP hS => ?_)
                          subst hr93
                          rw [show (bI (decide (0 ≤ (nI x0 - 1)) && decide ((nI x0 - 1) < nI (w - 1)) && decide (0 ≤ (nI y0)) && decide ((nI y0) < nI (h - 1)))) = bI (clX w h x0 y0) from by rw [cl_X gw gw2 gh gh2 (by omega) (by omega)]]
                          refine lv_if_eq (tgt := 116) hx hb dX1_isLedTo_96 (by decide) (fun c96_2 => ?_) (fun c96_2 => ?_)
                          · refine lv_iconst (v := 0) hx hb dX1_isLedTo_116 (by decide) ?_
                            refine lv_istore (lv' := [(4, .int 0), (8, .int (nI 1)), (7, .int (nI y0)), (6, .int (nI x0 - 1)), (5, .int 1), (3, .int (nI y0)), (2, .int (nI x0)), (0, .ref (o 0)), (1, .int (nI e0))]) hx hb dX1_isLedTo_117 hl (by decide) rfl (fun ls hl => ?_)
                            refine lv_iinc (v := 2) (lv' := [(5, .int 2), (4, .int 0), (8, .int (nI 1)), (7, .int (nI y0)), (6, .int (nI x0 - 1)), (3, .int (nI y0)), (2, .int (nI x0)), (0, .ref (o 0)), (1, .int (nI e0))]) hx hb dX1_isLedTo_119 hl (k := 4) rfl (by decide) (by decide) rfl (fun ls hl => ?_)
                            refine lv_goto (tgt := 18) hx hb dX1_isLedTo_122 (by decide) ?_
                            refine lv_iload hx hb dX1_isLedTo_18 (lv_at hl 0 rfl) ?_
                            refine lv_iconst (v := 2) hx hb dX1_isLedTo_20 (by decide) ?_
                            refine lv_icmp_ge (tgt := 125) hx hb dX1_isLedTo_21 (by decide) (fun c21_3 => ?_) (fun c21_3 => ?_)
                            · refine lv_iload hx hb dX1_isLedTo_125 (lv_at hl 1 rfl) ?_
                              exact W.zret (v := 0) (ty := .boolean) hx hb hr rfl (fun t ht hW => ⟨⟨_, (), rfl, by unfold ltR; rw [if_neg (bd_f c29), ← ex0, ← ey0]; simp [bI_n0.mp c96, bI_0.mp c109, bI_0.mp c96_2, bI], trivial⟩, hS.F ht⟩) hS.2.2 dX1_isLedTo_127
                            · exact absurd c21_3 (by decide)
                          · have hc1 := clX_ok (bI_n0.mp c96_2)
                            rw [nI_m1 hc1.2.1] at hl
                            refine lv_aload_n hx hb dX1_isLedTo_99 rfl (lv_at hl 7 rfl) ?_
                            refine lv_iload hx hb dX1_isLedTo_100 (lv_at hl 2 rfl) ?_
                            refine lv_iload hx hb dX1_isLedTo_102 (lv_at hl 1 rfl) ?_
                            refine lv_iload hx hb dX1_isLedTo_104 (lv_at hl 0 rfl) ?_
                            refine ro_V3 ⟨hx, hb, hml, hown, hts⟩ (c_X1_isUp l D o cI cZ th tw ch sm od st cl us w h f (x0 - 1) y0 1 gw2 gh2 gf (by omega) (by omega) (by decide)) (cwV 3 hts gX1_isLedTo_X1_isUp rfl rfl rfl (by decide +kernel) ⟨Nat.le_of_ble_eq_true rfl, Nat.le_of_ble_eq_true rfl⟩) (va_recv hK hP (ci := 1) (q0 := 0) rfl rfl) hP hK hP hS rfl hl.1 (lv_room (Nat.le_of_ble_eq_true rfl)) dX1_isLedTo_106 ⟨Nat.le_of_ble_eq_true rfl, Nat.le_of_ble_eq_true rfl⟩ (fun r106 H locs hr106 hP hS => ?_)
                            subst hr106
                            refine lv_if_eq (tgt := 116) hx hb dX1_isLedTo_109 (by decide) (fun c109_2 => ?_) (fun c109_2 => ?_)
                            · refine lv_iconst (v := 0) hx hb dX1_isLedTo_116 (by decide) ?_
                              refine lv_istore (lv' := [(4, .int 0), (8, .int (nI 1)), (7, .int (nI y0)), (6, .int (nI (x0 - 1))), (5, .int 1), (3, .int (nI y0)), (2, .int (nI x0)), (0, .ref (o 0)), (1, .int (nI e0))]) hx hb dX1_isLedTo_117 hl (by decide) rfl (fun ls hl => ?_)
                              refine lv_iinc (v := 2) (lv' := [(5, .int 2), (4, .int 0), (8, .int (nI 1)), (7, .int (nI y0)), (6, .int (nI (x0 - 1))), (3, .int (nI y0)), (2, .int (nI x0)), (0, .ref (o 0)), (1, .int (nI e0))]) hx hb dX1_isLedTo_119 hl (k := 4) rfl (by decide) (by decide) rfl (fun ls hl => ?_)
                              refine lv_goto (tgt := 18) hx hb dX1_isLedTo_122 (by decide) ?_
                              refine lv_iload hx hb dX1_isLedTo_18 (lv_at hl 0 rfl) ?_
                              refine lv_iconst (v := 2) hx hb dX1_isLedTo_20 (by decide) ?_
                              refine lv_icmp_ge (tgt := 125) hx hb dX1_isLedTo_21 (by decide) (fun c21_3 => ?_) (fun c21_3 => ?_)
                              · refine lv_iload hx hb dX1_isLedTo_125 (lv_at hl 1 rfl) ?_
                                exact W.zret (v := 0) (ty := .boolean) hx hb hr rfl (fun t ht hW => ⟨⟨_, (), rfl, by unfold ltR; rw [if_neg (bd_f c29), ← ex0, ← ey0]; simp [bI_n0.mp c96, bI_0.mp c109, bI_n0.mp c96_2, bI_0.mp c109_2, bI], trivial⟩, hS.F ht⟩) hS.2.2 dX1_isLedTo_127
                              · exact absurd c21_3 (by decide)
                            · refine lv_iconst (v := 1) hx hb dX1_isLedTo_112 (by decide) ?_
                              refine lv_goto (tgt := 117) hx hb dX1_isLedTo_113 (by decide) ?_
                              refine lv_istore (lv' := [(4, .int 1), (8, .int (nI 1)), (7, .int (nI y0)), (6, .int (nI (x0 - 1))), (5, .int 1), (3, .int (nI y0)), (2, .int (nI x0)), (0, .ref (o 0)), (1, .int (nI e0))]) hx hb dX1_isLedTo_117 hl (by decide) rfl (fun ls hl => ?_)
                              refine lv_iinc (v := 2) (lv' := [(5, .int 2), (4, .int 1), (8, .int (nI 1)), (7, .int (nI y0)), (6, .int (nI (x0 - 1))), (3, .int (nI y0)), (2, .int (nI x0)), (0, .ref (o 0)), (1, .int (nI e0))]) hx hb dX1_isLedTo_119 hl (k := 4) rfl (by decide) (by decide) rfl (fun ls hl => ?_)
                              refine lv_goto (tgt := 18) hx hb dX1_isLedTo_122 (by decide) ?_
                              refine lv_iload hx hb dX1_isLedTo_18 (lv_at hl 0 rfl) ?_
                              refine lv_iconst (v := 2) hx hb dX1_isLedTo_20 (by decide) ?_
                              refine lv_icmp_ge (tgt := 125) hx hb dX1_isLedTo_21 (by decide) (fun c21_3 => ?_) (fun c21_3 => ?_)
                              · refine lv_iload hx hb dX1_isLedTo_125 (lv_at hl 1 rfl) ?_
                                exact W.zret (v := 1) (ty := .boolean) hx hb hr rfl (fun t ht hW => ⟨⟨_, (), rfl, by unfold ltR; rw [if_neg (bd_f c29), ← ex0, ← ey0]; simp [bI_n0.mp c96, bI_0.mp c109, bI_n0.mp c96_2, bI_n0.mp c109_2, bI], trivial⟩, hS.F ht⟩) hS.2.2 dX1_isLedTo_127
                              · exact absurd c21_3 (by decide)
                      · exact absurd c29 c65_2
                    · exact absurd c29 c47_2
                  · exact absurd c29 c29_2
              · refine lv_iconst (v := 1) hx hb dX1_isLedTo_112 (by decide) ?_
                refine lv_goto (tgt := 117) hx hb dX1_isLedTo_113 (by decide) ?_
                refine lv_istore (lv' := [(4, .int 1), (8, .int (nI 3)), (7, .int (nI y0)), (6, .int (nI x0)), (5, .int 0), (3, .int (nI y0)), (2, .int (nI x0)), (0, .ref (o 0)), (1, .int (nI e0))]) hx hb dX1_isLedTo_117 hl (by decide) rfl (fun ls hl => ?_)
                refine lv_iinc (v := 1) (lv' := [(5, .int 1), (4, .int 1), (8, .int (nI 3)), (7, .int (nI y0)), (6, .int (nI x0)), (3, .int (nI y0)), (2, .int (nI x0)), (0, .ref (o 0)), (1, .int (nI e0))]) hx hb dX1_isLedTo_119 hl (k := 4) rfl (by decide) (by decide) rfl (fun ls hl => ?_)
                refine lv_goto (tgt := 18) hx hb dX1_isLedTo_122 (by decide) ?_
                refine lv_iload hx hb dX1_isLedTo_18 (lv_at hl 0 rfl) ?_
                refine lv_iconst (v := 2) hx hb dX1_isLedTo_20 (by decide) ?_
                refine lv_icmp_ge (tgt := 125) hx hb dX1_isLedTo_21 (by decide) (fun c21_2 => ?_) (fun c21_2 => ?_)
                · exact absurd c21_2 (by decide)
                · refine lv_aload_n hx hb dX1_isLedTo_24 rfl (lv_at hl 7 rfl) ?_
                  refine lv_iload_n hx hb dX1_isLedTo_25 rfl (lv_at hl 8 rfl) ?_
                  refine ro_V1 ⟨hx, hb, hml, hown, hts⟩ (c_X1_isAcross l D o cI cZ th tw ch sm od st cl us w h e0 gw gw2 gh2 (by have := nE_le gw2 gh2; omega)) (cwV 1 hts gX1_isLedTo_X1_isAcross rfl rfl rfl (by decide +kernel) ⟨Nat.le_of_ble_eq_true rfl, Nat.le_of_ble_eq_true rfl⟩) (va_recv hK hP (ci := 1) (q0 := 0) rfl rfl) hP hK hP hS rfl hl.1 (lv_room (Nat.le_of_ble_eq_true rfl)) dX1_isLedTo_26 ⟨Nat.le_of_ble_eq_true rfl, Nat.le_of_ble_eq_true rfl⟩ (fun r26 H locs hr26 hP hS => ?_)
                  subst hr26
                  refine lv_if_eq (tgt := 36) hx hb dX1_isLedTo_29 (by decide) (fun c29_2 => ?_) (fun c29_2 => ?_)
                  · refine lv_iload_n hx hb dX1_isLedTo_36 rfl (lv_at hl 6 rfl) ?_
                    refine lv_iload hx hb dX1_isLedTo_37 (lv_at hl 0 rfl) ?_
                    refine lv_isub hx hb dX1_isLedTo_39 ?_
                    rw [show ((nI x0) - 1) = (nI x0 - 1) from rfl]
                    refine lv_istore (lv' := [(6, .int (nI x0 - 1)), (5, .int 1), (4, .int 1), (8, .int (nI 3)), (7, .int (nI y0)), (3, .int (nI y0)), (2, .int (nI x0)), (0, .ref (o 0)), (1, .int (nI e0))]) hx hb dX1_isLedTo_40 hl (by decide) rfl (fun ls hl => ?_)
                    refine lv_aload_n hx hb dX1_isLedTo_42 rfl (lv_at hl 7 rfl) ?_
                    refine lv_iload_n hx hb dX1_isLedTo_43 rfl (lv_at hl 8 rfl) ?_
                    refine ro_V1 ⟨hx, hb, hml, hown, hts⟩ (c_X1_isAcross l D o cI cZ th tw ch sm od st cl us w h e0 gw gw2 gh2 (by have := nE_le gw2 gh2; omega)) (cwV 1 hts gX1_isLedTo_X1_isAcross rfl rfl rfl (by decide +kernel) ⟨Nat.le_of_ble_eq_true rfl, Nat.le_of_ble_eq_true rfl⟩) (va_recv hK hP (ci := 1) (q0 := 0) rfl rfl) hP hK hP hS rfl hl.1 (lv_room (Nat.le_of_ble_eq_true rfl)) dX1_isLedTo_44 ⟨Nat.le_of_ble_eq_true rfl, Nat.le_of_ble_eq_true rfl⟩ (fun r44 H locs hr44 hP hS => ?_)
                    subst hr44
                    refine lv_if_eq (tgt := 57) hx hb dX1_isLedTo_47 (by decide) (fun c47_2 => ?_) (fun c47_2 => ?_)
                    · refine lv_iload_n hx hb dX1_isLedTo_57 rfl (lv_at hl 5 rfl) ?_
                      refine lv_istore (lv' := [(7, .int (nI y0)), (6, .int (nI x0 - 1)), (5, .int 1), (4, .int 1), (8, .int (nI 3)), (3, .int (nI y0)), (2, .int (nI x0)), (0, .ref (o 0)), (1, .int (nI e0))]) hx hb dX1_isLedTo_58 hl (by decide) rfl (fun ls hl => ?_)
                      refine lv_aload_n hx hb dX1_isLedTo_60 rfl (lv_at hl 7 rfl) ?_
                      refine lv_iload_n hx hb dX1_isLedTo_61 rfl (lv_at hl 8 rfl) ?_
                      refine ro_V1 ⟨hx, hb, hml, hown, hts⟩ (c_X1_isAcross l D o cI cZ th tw ch sm od st cl us w h e0 gw gw2 gh2 (by have := nE_le gw2 gh2; omega)) (cwV 1 hts gX1_isLedTo_X1_isAcross rfl rfl rfl (by decide +kernel) ⟨Nat.le_of_ble_eq_true rfl, Nat.le_of_ble_eq_true rfl⟩) (va_recv hK hP (ci := 1) (q0 := 0) rfl rfl) hP hK hP hS rfl hl.1 (lv_room (Nat.le_of_ble_eq_true rfl)) dX1_isLedTo_62 ⟨Nat.le_of_ble_eq_true rfl, Nat.le_of_ble_eq_true rfl⟩ (fun r62 H locs hr62 hP hS => ?_)
                      subst hr62
                      refine lv_if_eq (tgt := 75) hx hb dX1_isLedTo_65 (by decide) (fun c65_2 => ?_) (fun c65_2 => ?_)
                      · refine lv_iconst (v := 3) hx hb dX1_isLedTo_75 (by decide) ?_
                        refine lv_iconst (v := 2) hx hb dX1_isLedTo_76 (by decide) ?_
                        refine lv_iload hx hb dX1_isLedTo_77 (lv_at hl 2 rfl) ?_
                        refine lv_imul hx hb dX1_isLedTo_79 ?_
                        refine lv_isub hx hb dX1_isLedTo_80 ?_
                        rw [show (3 - (2 * 1)) = nI 1 from by decide]
                        refine lv_istore (lv' := [(8, .int (nI 1)), (7, .int (nI y0)), (6, .int (nI x0 - 1)), (5, .int 1), (4, .int 1), (3, .int (nI y0)), (2, .int (nI x0)), (0, .ref (o 0)), (1, .int (nI e0))]) hx hb dX1_isLedTo_81 hl (by decide) rfl (fun ls hl => ?_)
                        refine lv_iload hx hb dX1_isLedTo_83 (lv_at hl 4 rfl) ?_
                        refine lv_if_ne (tgt := 112) hx hb dX1_isLedTo_85 (by decide) (fun c85_2 => ?_) (fun c85_2 => ?_)
                        · refine lv_iconst (v := 1) hx hb dX1_isLedTo_112 (by decide) ?_
                          refine lv_goto (tgt := 117) hx hb dX1_isLedTo_113 (by decide) ?_
                          refine lv_istore (lv' := [(4, .int 1), (8, .int (nI 1)), (7, .int (nI y0)), (6, .int (nI x0 - 1)), (5, .int 1), (3, .int (nI y0)), (2, .int (nI x0)), (0, .ref (o 0)), (1, .int (nI e0))]) hx hb dX1_isLedTo_117 hl (by decide) rfl (fun ls hl => ?_)
                          refine lv_iinc (v := 2) (lv' := [(5, .int 2), (4, .int 1), (8, .int (nI 1)), (7, .int (nI y0)), (6, .int (nI x0 - 1)), (3, .int (nI y0)), (2, .int (nI x0)), (0, .ref (o 0)), (1, .int (nI e0))]) hx hb dX1_isLedTo_119 hl (k := 4) rfl (by decide) (by decide) rfl (fun ls hl => ?_)
                          refine lv_goto (tgt := 18) hx hb dX1_isLedTo_122 (by decide) ?_
                          refine lv_iload hx hb dX1_isLedTo_18 (lv_at hl 0 rfl) ?_
                          refine lv_iconst (v := 2) hx hb dX1_isLedTo_20 (by decide) ?_
                          refine lv_icmp_ge (tgt := 125) hx hb dX1_isLedTo_21 (by decide) (fun c21_3 => ?_) (fun c21_3 => ?_)
                          · refine lv_iload hx hb dX1_isLedTo_125 (lv_at hl 1 rfl) ?_
                            exact W.zret (v := 1) (ty := .boolean) hx hb hr rfl (fun t ht hW => ⟨⟨_, (), rfl, by unfold ltR; rw [if_neg (bd_f c29), ← ex0, ← ey0]; simp [bI_n0.mp c96, bI_n0.mp c109, bI], trivial⟩, hS.F ht⟩) hS.2.2 dX1_isLedTo_127
                          · exact absurd c21_3 (by decide)
                        · exact absurd c85_2 (by decide)
                      · exact absurd c29 c65_2
                    · exact absurd c29 c47_2
                  · exact absurd c29 c29_2
        · exact absurd c29 c65
      · exact absurd c29 c47
    · refine lv_iload_n hx hb dX1_isLedTo_32 rfl (lv_at hl 3 rfl) ?_
      refine lv_goto (tgt := 40) hx hb dX1_isLedTo_33 (by decide) ?_
      refine lv_istore (lv' := [(6, .int (nI x0)), (5, .int 0), (4, .int 0), (3, .int (nI y0)), (2, .int (nI x0)), (0, .ref (o 0)), (1, .int (nI e0))]) hx hb dX1_isLedTo_40 hl (by decide) rfl (fun ls hl => ?_)
      refine lv_aload_n hx hb dX1_isLedTo_42 rfl (lv_at hl 5 rfl) ?_
      refine lv_iload_n hx hb dX1_isLedTo_43 rfl (lv_at hl 6 rfl) ?_
      refine ro_V1 ⟨hx, hb, hml, hown, hts⟩ (c_X1_isAcross l D o cI cZ th tw ch sm od st cl us w h e0 gw gw2 gh2 (by have := nE_le gw2 gh2; omega)) (cwV 1 hts gX1_isLedTo_X1_isAcross rfl rfl rfl (by decide +kernel) ⟨Nat.le_of_ble_eq_true rfl, Nat.le_of_ble_eq_true rfl⟩) (va_recv hK hP (ci := 1) (q0 := 0) rfl rfl) hP hK hP hS rfl hl.1 (lv_room (Nat.le_of_ble_eq_true rfl)) dX1_isLedTo_44 ⟨Nat.le_of_ble_eq_true rfl, Nat.le_of_ble_eq_true rfl⟩ (fun r44 H locs hr44 hP hS => ?_)
      subst hr44
      refine lv_if_eq (tgt := 57) hx hb dX1_isLedTo_47 (by decide) (fun c47 => ?_) (fun c47 => ?_)
      · exact absurd c47 c29
      · refine lv_iload_n hx hb dX1_isLedTo_50 rfl (lv_at hl 3 rfl) ?_
        refine lv_iload hx hb dX1_isLedTo_51 (lv_at hl 1 rfl) ?_
        refine lv_isub hx hb dX1_isLedTo_53 ?_
        rw [show ((nI y0) - 0) = nI y0 from by simp]
        refine lv_goto (tgt := 58) hx hb dX1_isLedTo_54 (by decide) ?_
        refine lv_istore (lv' := [(7, .int (nI y0)), (6, .int (nI x0)), (5, .int 0), (4, .int 0), (3, .int (nI y0)), (2, .int (nI x0)), (0, .ref (o 0)), (1, .int (nI e0))]) hx hb dX1_isLedTo_58 hl (by decide) rfl (fun ls hl => ?_)
        refine lv_aload_n hx hb dX1_isLedTo_60 rfl (lv_at hl 6 rfl) ?_
        refine lv_iload_n hx hb dX1_isLedTo_61 rfl (lv_at hl 7 rfl) ?_
        refine ro_V1 ⟨hx, hb, hml, hown, hts⟩ (c_X1_isAcross l D o cI cZ th tw ch sm od st cl us w h e0 gw gw2 gh2 (by have := nE_le gw2 gh2; omega)) (cwV 1 hts gX1_isLedTo_X1_isAcross rfl rfl rfl (by decide +kernel) ⟨Nat.le_of_ble_eq_true rfl, Nat.le_of_ble_eq_true rfl⟩) (va_recv hK hP (ci := 1) (q0 := 0) rfl rfl) hP hK hP hS rfl hl.1 (lv_room (Nat.le_of_ble_eq_true rfl)) dX1_isLedTo_62 ⟨Nat.le_of_ble_eq_true rfl, Nat.le_of_ble_eq_true rfl⟩ (fun r62 H locs hr62 hP hS => ?_)
        subst hr62
        refine lv_if_eq (tgt := 75) hx hb dX1_isLedTo_65 (by decide) (fun c65 => ?_) (fun c65 => ?_)
        · exact absurd c65 c29
        · refine lv_iconst (v := 2) hx hb dX1_isLedTo_68 (by decide) ?_
          refine lv_iload hx hb dX1_isLedTo_69 (lv_at hl 2 rfl) ?_
          refine lv_imul hx hb dX1_isLedTo_71 ?_
          rw [show (2 * 0) = nI 0 from by decide]
          refine lv_goto (tgt := 81) hx hb dX1_isLedTo_72 (by decide) ?_
          refine lv_istore (lv' := [(8, .int (nI 0)), (7, .int (nI y0)), (6, .int (nI x0)), (5, .int 0), (4, .int 0), (3, .int (nI y0)), (2, .int (nI x0)), (0, .ref (o 0)), (1, .int (nI e0))]) hx hb dX1_isLedTo_81 hl (by decide) rfl (fun ls hl => ?_)
          refine lv_iload hx hb dX1_isLedTo_83 (lv_at hl 4 rfl) ?_
          refine lv_if_ne (tgt := 112) hx hb dX1_isLedTo_85 (by decide) (fun c85 => ?_) (fun c85 => ?_)
          · exact absurd c85 (by decide)
          · refine lv_aload_n hx hb dX1_isLedTo_88 rfl (lv_at hl 7 rfl) ?_
            refine lv_iload hx hb dX1_isLedTo_89 (lv_at hl 2 rfl) ?_
            refine lv_iload hx hb dX1_isLedTo_91 (lv_at hl 1 rfl) ?_
            refine ro_V2 ⟨hx, hb, hml, hown, hts⟩ (c_X1_isCell l D o cI cZ th tw ch sm od st cl us w h (nI x0) (nI y0) (by omega) (by omega)) (cwV 2 hts gX1_isLedTo_X1_isCell rfl rfl rfl (by decide +kernel) ⟨Nat.le_of_ble_eq_true rfl, Nat.le_of_ble_eq_true rfl⟩) (va_recv hK hP (ci := 1) (q0 := 0) rfl rfl) hP hK hP hS rfl hl.1 (lv_room (Nat.le_of_ble_eq_true rfl)) dX1_isLedTo_93 ⟨Nat.le_of_ble_eq_true rfl, Nat.le_of_ble_eq_true rfl⟩ (fun r93 H locs hr93 hP hS => ?_)
            subst hr93
            rw [show (bI (decide (0 ≤ (nI x0)) && decide ((nI x0) < nI (w - 1)) && decide (0 ≤ (nI y0)) && decide ((nI y0) < nI (h - 1)))) = bI (cl0 w h x0 y0) from by rw [cl_0 gw gw2 gh gh2 (by omega) (by omega)]]
            refine lv_if_eq (tgt := 116) hx hb dX1_isLedTo_96 (by decide) (fun c96 => ?_) (fun c96 => ?_)
            · refine lv_iconst (v := 0) hx hb dX1_isLedTo_116 (by decide) ?_
              refine lv_istore (lv' := [(4, .int 0), (8, .int (nI 0)), (7, .int (nI y0)), (6, .int (nI x0)), (5, .int 0), (3, .int (nI y0)), (2, .int (nI x0)), (0, .ref (o 0)), (1, .int (nI e0))]) hx hb dX1_isLedTo_117 hl (by decide) rfl (fun ls hl => ?_)
              refine lv_iinc (v := 1) (lv' := [(5, .int 1), (4, .int 0), (8, .int (nI 0)), (7, .int (nI y0)), (6, .int (nI x0)), (3, .int (nI y0)), (2, .int (nI x0)), (0, .ref (o 0)), (1, .int (nI e0))]) hx hb dX1_isLedTo_119 hl (k := 4) rfl (by decide) (by decide) rfl (fun ls hl => ?_)
              refine lv_goto (tgt := 18) hx hb dX1_isLedTo_122 (by decide) ?_
              refine lv_iload hx hb dX1_isLedTo_18 (lv_at hl 0 rfl) ?_
              refine lv_iconst (v := 2) hx hb dX1_isLedTo_20 (by decide) ?_
              refine lv_icmp_ge (tgt := 125) hx hb dX1_isLedTo_21 (by decide) (fun c21_2 => ?_) (fun c21_2 => ?_)
              · exact absurd c21_2 (by decide)
              · refine lv_aload_n hx hb dX1_isLedTo_24 rfl (lv_at hl 7 rfl) ?_
                refine lv_iload_n hx hb dX1_isLedTo_25 rfl (lv_at hl 8 rfl) ?_
                refine ro_V1 ⟨hx, hb, hml, hown, hts⟩ (c_X1_isAcross l D o cI cZ th tw ch sm od st cl us w h e0 gw gw2 gh2 (by have := nE_le gw2 gh2; omega)) (cwV 1 hts gX1_isLedTo_X1_isAcross rfl rfl rfl (by decide +kernel) ⟨Nat.le_of_ble_eq_true rfl, Nat.le_of_ble_eq_true rfl⟩) (va_recv hK hP (ci := 1) (q0 := 0) rfl rfl) hP hK hP hS rfl hl.1 (lv_room (Nat.le_of_ble_eq_true rfl)) dX1_isLedTo_26 ⟨Nat.le_of_ble_eq_true rfl, Nat.le_of_ble_eq_true rfl⟩ (fun r26 H locs hr26 hP hS => ?_)
                subst hr26
                refine lv_if_eq (tgt := 36) hx hb dX1_isLedTo_29 (by decide) (fun c29_2 => ?_) (fun c29_2 => ?_)
                · exact absurd c29_2 c29
                · refine lv_iload_n hx hb dX1_isLedTo_32 rfl (lv_at hl 6 rfl) ?_
                  refine lv_goto (tgt := 40) hx hb dX1_isLedTo_33 (by decide) ?_
                  refine lv_istore (lv' := [(6, .int (nI x0)), (5, .int 1), (4, .int 0), (8, .int (nI 0)), (7, .int (nI y0)), (3, .int (nI y0)), (2, .int (nI x0)), (0, .ref (o 0)), (1, .int (nI e0))]) hx hb dX1_isLedTo_40 hl (by decide) rfl (fun ls hl => ?_)
                  refine lv_aload_n hx hb dX1_isLedTo_42 rfl (lv_at hl 7 rfl) ?_
                  refine lv_iload_n hx hb dX1_isLedTo_43 rfl (lv_at hl 8 rfl) ?_
                  refine ro_V1 ⟨hx, hb, hml, hown, hts⟩ (c_X1_isAcross l D o cI cZ th tw ch sm od st cl us w h e0 gw gw2 gh2 (by have := nE_le gw2 gh2; omega)) (cwV 1 hts gX1_isLedTo_X1_isAcross rfl rfl rfl (by decide +kernel) ⟨Nat.le_of_ble_eq_true rfl, Nat.le_of_ble_eq_true rfl⟩) (va_recv hK hP (ci := 1) (q0 := 0) rfl rfl) hP hK hP hS rfl hl.1 (lv_room (Nat.le_of_ble_eq_true rfl)) dX1_isLedTo_44 ⟨Nat.le_of_ble_eq_true rfl, Nat.le_of_ble_eq_true rfl⟩ (fun r44 H locs hr44 hP hS => ?_)
                  subst hr44
                  refine lv_if_eq (tgt := 57) hx hb dX1_isLedTo_47 (by decide) (fun c47_2 => ?_) (fun c47_2 => ?_)
                  · exact absurd c47_2 c29
                  · refine lv_iload_n hx hb dX1_isLedTo_50 rfl (lv_at hl 5 rfl) ?_
                    refine lv_iload hx hb dX1_isLedTo_51 (lv_at hl 1 rfl) ?_
                    refine lv_isub hx hb dX1_isLedTo_53 ?_
                    rw [show ((nI y0) - 1) = (nI y0 - 1) from rfl]
                    refine lv_goto (tgt := 58) hx hb dX1_isLedTo_54 (by decide) ?_
                    refine lv_istore (lv' := [(7, .int (nI y0 - 1)), (6, .int (nI x0)), (5, .int 1), (4, .int 0), (8, .int (nI 0)), (3, .int (nI y0)), (2, .int (nI x0)), (0, .ref (o 0)), (1, .int (nI e0))]) hx hb dX1_isLedTo_58 hl (by decide) rfl (fun ls hl => ?_)
                    refine lv_aload_n hx hb dX1_isLedTo_60 rfl (lv_at hl 7 rfl) ?_
                    refine lv_iload_n hx hb dX1_isLedTo_61 rfl (lv_at hl 8 rfl) ?_
                    refine ro_V1 ⟨hx, hb, hml, hown, hts⟩ (c_X1_isAcross l D o cI cZ th tw ch sm od st cl us w h e0 gw gw2 gh2 (by have := nE_le gw2 gh2; omega)) (cwV 1 hts gX1_isLedTo_X1_isAcross rfl rfl rfl (by decide +kernel) ⟨Nat.le_of_ble_eq_true rfl, Nat.le_of_ble_eq_true rfl⟩) (va_recv hK hP (ci := 1) (q0 := 0) rfl rfl) hP hK hP hS rfl hl.1 (lv_room (Nat.le_of_ble_eq_true rfl)) dX1_isLedTo_62 ⟨Nat.le_of_ble_eq_true rfl, Nat.le_of_ble_eq_true rfl⟩ (fun r62 H locs hr62 hP hS => ?_)
                    subst hr62
                    refine lv_if_eq (tgt := 75) hx hb dX1_isLedTo_65 (by decide) (fun c65_2 => ?_) (fun c65_2 => ?_)
                    · exact absurd c65_2 c29
                    · refine lv_iconst (v := 2) hx hb dX1_isLedTo_68 (by decide) ?_
                      refine lv_iload hx hb dX1_isLedTo_69 (lv_at hl 2 rfl) ?_
                      refine lv_imul hx hb dX1_isLedTo_71 ?_
                      rw [show (2 * 1) = nI 2 from by decide]
                      refine lv_goto (tgt := 81) hx hb dX1_isLedTo_72 (by decide) ?_
                      refine lv_istore (lv' := [(8, .int (nI 2)), (7, .int (nI y0 - 1)), (6, .int (nI x0)), (5, .int 1), (4, .int 0), (3, .int (nI y0)), (2, .int (nI x0)), (0, .ref (o 0)), (1, .int (nI e0))]) hx hb dX1_isLedTo_81 hl (by decide) rfl (fun ls hl => ?_)
                      refine lv_iload hx hb dX1_isLedTo_83 (lv_at hl 4 rfl) ?_
                      refine lv_if_ne (tgt := 112) hx hb dX1_isLedTo_85 (by decide) (fun c85_2 => ?_) (fun c85_2 => ?_)
                      · exact absurd c85_2 (by decide)
                      · refine lv_aload_n hx hb dX1_isLedTo_88 rfl (lv_at hl 7 rfl) ?_
                        refine lv_iload hx hb dX1_isLedTo_89 (lv_at hl 2 rfl) ?_
                        refine lv_iload hx hb dX1_isLedTo_91 (lv_at hl 1 rfl) ?_
                        refine ro_V2 ⟨hx, hb, hml, hown, hts⟩ (c_X1_isCell l D o cI cZ th tw ch sm od st cl us w h (nI x0) (nI y0 - 1) (by omega) (by omega)) (cwV 2 hts gX1_isLedTo_X1_isCell rfl rfl rfl (by decide +kernel) ⟨Nat.le_of_ble_eq_true rfl, Nat.le_of_ble_eq_true rfl⟩) (va_recv hK hP (ci := 1) (q0 := 0) rfl rfl) hP hK hP hS rfl hl.1 (lv_room (Nat.le_of_ble_eq_true rfl)) dX1_isLedTo_93 ⟨Nat.le_of_ble_eq_true rfl, Nat.le_of_ble_eq_true rfl⟩ (fun r93 H locs hr93 hP hS => ?_)
                        subst hr93
                        rw [show (bI (decide (0 ≤ (nI x0)) && decide ((nI x0) < nI (w - 1)) && decide (0 ≤ (nI y0 - 1)) && decide ((nI y0 - 1) < nI (h - 1)))) = bI (clY w h x0 y0) from by rw [cl_Y gw gw2 gh gh2 (by omega) (by omega)]]
                        refine lv_if_eq (tgt := 116) hx hb dX1_isLedTo_96 (by decide) (fun c96_2 => ?_) (fun c96_2 => ?_)
                        · refine lv_iconst (v := 0) hx hb dX1_isLedTo_116 (by decide) ?_
                          refine lv_istore (lv' := [(4, .int 0), (8, .int (nI 2)), (7, .int (nI y0 - 1)), (6, .int (nI x0)), (5, .int 1), (3, .int (nI y0)), (2, .int (nI x0)), (0, .ref (o 0)), (1, .int (nI e0))]) hx hb dX1_isLedTo_117 hl (by decide) rfl (fun ls hl => ?_)
                          refine lv_iinc (v := 2) (lv' := [(5, .int 2), (4, .int 0), (8, .int (nI 2)), (7, .int (nI y0 - 1)), (6, .int (nI x0)), (3, .int (nI y0)), (2, .int (nI x0)), (0, .ref (o 0)), (1, .int (nI e0))]) hx hb dX1_isLedTo_119 hl (k := 4) rfl (by decide) (by decide) rfl (fun ls hl => ?_)
                          refine lv_goto (tgt := 18) hx hb dX1_isLedTo_122 (by decide) ?_
                          refine lv_iload hx hb dX1_isLedTo_18 (lv_at hl 0 rfl) ?_
                          refine lv_iconst (v := 2) hx hb dX1_isLedTo_20 (by decide) ?_
                          refine lv_icmp_ge (tgt := 125) hx hb dX1_isLedTo_21 (by decide) (fun c21_3 => ?_) (fun c21_3 => ?_)
                          · refine lv_iload hx hb dX1_isLedTo_125 (lv_at hl 1 rfl) ?_
                            exact W.zret (v := 0) (ty := .boolean) hx hb hr rfl (fun t ht hW => ⟨⟨_, (), rfl, by unfold ltR; rw [if_pos (bd_t c29), ← ex0, ← ey0]; simp [bI_0.mp c96, bI_0.mp c96_2, bI], trivial⟩, hS.F ht⟩) hS.2.2 dX1_isLedTo_127
                          · exact absurd c21_3 (by decide)
                        · have hc1 := clY_ok (bI_n0.mp c96_2)
                          rw [nI_m1 hc1.2.1] at hl
                          refine lv_aload_n hx hb dX1_isLedTo_99 rfl (lv_at hl 7 rfl) ?_
                          refine lv_iload hx hb dX1_isLedTo_100 (lv_at hl 2 rfl) ?_
                          refine lv_iload hx hb dX1_isLedTo_102 (lv_at hl 1 rfl) ?_
                          refine lv_iload hx hb dX1_isLedTo_104 (lv_at hl 0 rfl) ?_
                          refine ro_V3 ⟨hx, hb, hml, hown, hts⟩ (c_X1_isUp l D o cI cZ th tw ch sm od st cl us w h f x0 (y0 - 1) 2 gw2 gh2 gf (by omega) (by omega) (by decide)) (cwV 3 hts gX1_isLedTo_X1_isUp rfl rfl rfl (by decide +kernel) ⟨Nat.le_of_ble_eq_true rfl, Nat.le_of_ble_eq_true rfl⟩) (va_recv hK hP (ci := 1) (q0 := 0) rfl rfl) hP hK hP hS rfl hl.1 (lv_room (Nat.le_of_ble_eq_true rfl)) dX1_isLedTo_106 ⟨Nat.le_of_ble_eq_true rfl, Nat.le_of_ble_eq_true rfl⟩ (fun r106 H locs hr106 hP hS => ?_)
                          subst hr106
                          refine lv_if_eq (tgt := 116) hx hb dX1_isLedTo_109 (by decide) (fun c109 => ?_) (fun c109 => ?_)
                          · refine lv_iconst (v := 0) hx hb dX1_isLedTo_116 (by decide) ?_
                            refine lv_istore (lv' := [(4, .int 0), (8, .int (nI 2)), (7, .int (nI (y0 - 1))), (6, .int (nI x0)), (5, .int 1), (3, .int (nI y0)), (2, .int (nI x0)), (0, .ref (o 0)), (1, .int (nI e0))]) hx hb dX1_isLedTo_117 hl (by decide) rfl (fun ls hl => ?_)
                            refine lv_iinc (v := 2) (lv' := [(5, .int 2), (4, .int 0), (8, .int (nI 2)), (7, .int (nI (y0 - 1))), (6, .int (nI x0)), (3, .int (nI y0)), (2, .int (nI x0)), (0, .ref (o 0)), (1, .int (nI e0))]) hx hb dX1_isLedTo_119 hl (k := 4) rfl (by decide) (by decide) rfl (fun ls hl => ?_)
                            refine lv_goto (tgt := 18) hx hb dX1_isLedTo_122 (by decide) ?_
                            refine lv_iload hx hb dX1_isLedTo_18 (lv_at hl 0 rfl) ?_
                            refine lv_iconst (v := 2) hx hb dX1_isLedTo_20 (by decide) ?_
                            refine lv_icmp_ge (tgt := 125) hx hb dX1_isLedTo_21 (by decide) (fun c21_3 => ?_) (fun c21_3 => ?_)
                            · refine lv_iload hx hb dX1_isLedTo_125 (lv_at hl 1 rfl) ?_
                              exact W.zret (v := 0) (ty := .boolean) hx hb hr rfl (fun t ht hW => ⟨⟨_, (), rfl, by unfold ltR; rw [if_pos (bd_t c29), ← ex0, ← ey0]; simp [bI_0.mp c96, bI_n0.mp c96_2, bI_0.mp c109, bI], trivial⟩, hS.F ht⟩) hS.2.2 dX1_isLedTo_127
                            · exact absurd c21_3 (by decide)
                          · refine lv_iconst (v := 1) hx hb dX1_isLedTo_112 (by decide) ?_
                            refine lv_goto (tgt := 117) hx hb dX1_isLedTo_113 (by decide) ?_
                            refine lv_istore (lv' := [(4, .int 1), (8, .int (nI 2)), (7, .int (nI (y0 - 1))), (6, .int (nI x0)), (5, .int 1), (3, .int (nI y0)), (2, .int (nI x0)), (0, .ref (o 0)), (1, .int (nI e0))]) hx hb dX1_isLedTo_117 hl (by decide) rfl (fun ls hl => ?_)
                            refine lv_iinc (v := 2) (lv' := [(5, .int 2), (4, .int 1), (8, .int (nI 2)), (7, .int (nI (y0 - 1))), (6, .int (nI x0)), (3, .int (nI y0)), (2, .int (nI x0)), (0, .ref (o 0)), (1, .int (nI e0))]) hx hb dX1_isLedTo_119 hl (k := 4) rfl (by decide) (by decide) rfl (fun ls hl => ?_)
                            refine lv_goto (tgt := 18) hx hb dX1_isLedTo_122 (by decide) ?_
                            refine lv_iload hx hb dX1_isLedTo_18 (lv_at hl 0 rfl) ?_
                            refine lv_iconst (v := 2) hx hb dX1_isLedTo_20 (by decide) ?_
                            refine lv_icmp_ge (tgt := 125) hx hb dX1_isLedTo_21 (by decide) (fun c21_3 => ?_) (fun c21_3 => ?_)
                            · refine lv_iload hx hb dX1_isLedTo_125 (lv_at hl 1 rfl) ?_
                              exact W.zret (v := 1) (ty := .boolean) hx hb hr rfl (fun t ht hW => ⟨⟨_, (), rfl, by unfold ltR; rw [if_pos (bd_t c29), ← ex0, ← ey0]; simp [bI_0.mp c96, bI_n0.mp c96_2, bI_n0.mp c109, bI], trivial⟩, hS.F ht⟩) hS.2.2 dX1_isLedTo_127
                            · exact absurd c21_3 (by decide)
            · have hc0 := cl0_ok (bI_n0.mp c96)
              refine lv_aload_n hx hb dX1_isLedTo_99 rfl (lv_at hl 7 rfl) ?_
              refine lv_iload hx hb dX1_isLedTo_100 (lv_at hl 2 rfl) ?_
              refine lv_iload hx hb dX1_isLedTo_102 (lv_at hl 1 rfl) ?_
              refine lv_iload hx hb dX1_isLedTo_104 (lv_at hl 0 rfl) ?_
              refine ro_V3 ⟨hx, hb, hml, hown, hts⟩ (c_X1_isUp l D o cI cZ th tw ch sm od st cl us w h f x0 y0 0 gw2 gh2 gf (by omega) (by omega) (by decide)) (cwV 3 hts gX1_isLedTo_X1_isUp rfl rfl rfl (by decide +kernel) ⟨Nat.le_of_ble_eq_true rfl, Nat.le_of_ble_eq_true rfl⟩) (va_recv hK hP (ci := 1) (q0 := 0) rfl rfl) hP hK hP hS rfl hl.1 (lv_room (Nat.le_of_ble_eq_true rfl)) dX1_isLedTo_106 ⟨Nat.le_of_ble_eq_true rfl, Nat.le_of_ble_eq_true rfl⟩ (fun r106 H locs hr106 hP hS => ?_)
              subst hr106
              refine lv_if_eq (tgt := 116) hx hb dX1_isLedTo_109 (by decide) (fun c109 => ?_) (fun c109 => ?_)
              · refine lv_iconst (v := 0) hx hb dX1_isLedTo_116 (by decide) ?_
                refine lv_istore (lv' := [(4, .int 0), (8, .int (nI 0)), (7, .int (nI y0)), (6, .int (nI x0)), (5, .int 0), (3, .int (nI y0)), (2, .int (nI x0)), (0, .ref (o 0)), (1, .int (nI e0))]) hx hb dX1_isLedTo_117 hl (by decide) rfl (fun ls hl => ?_)
                refine lv_iinc (v := 1) (lv' := [(5, .int 1), (4, .int 0), (8, .int (nI 0)), (7, .int (nI y0)), (6, .int (nI x0)), (3, .int (nI y0)), (2, .int (nI x0)), (0, .ref (o 0)), (1, .int (nI e0))]) hx hb dX1_isLedTo_119 hl (k := 4) rfl (by decide) (by decide) rfl (fun ls hl => ?_)
                refine lv_goto (tgt := 18) hx hb dX1_isLedTo_122 (by decide) ?_
                refine lv_iload hx hb dX1_isLedTo_18 (lv_at hl 0 rfl) ?_
                refine lv_iconst (v := 2) hx hb dX1_isLedTo_20 (by decide) ?_
                refine lv_icmp_ge (tgt := 125) hx hb dX1_isLedTo_21 (by decide) (fun c21_2 => ?_) (fun c21_2 => ?_)
                · exact absurd c21_2 (by decide)
                · refine lv_aload_n hx hb dX1_isLedTo_24 rfl (lv_at hl 7 rfl) ?_
                  refine lv_iload_n hx hb dX1_isLedTo_25 rfl (lv_at hl 8 rfl) ?_
                  refine ro_V1 ⟨hx, hb, hml, hown, hts⟩ (c_X1_isAcross l D o cI cZ th tw ch sm od st cl us w h e0 gw gw2 gh2 (by have := nE_le gw2 gh2; omega)) (cwV 1 hts gX1_isLedTo_X1_isAcross rfl rfl rfl (by decide +kernel) ⟨Nat.le_of_ble_eq_true rfl, Nat.le_of_ble_eq_true rfl⟩) (va_recv hK hP (ci := 1) (q0 := 0) rfl rfl) hP hK hP hS rfl hl.1 (lv_room (Nat.le_of_ble_eq_true rfl)) dX1_isLedTo_26 ⟨Nat.le_of_ble_eq_true rfl, Nat.le_of_ble_eq_true rfl⟩ (fun r26 H locs hr26 hP hS => ?_)
                  subst hr26
                  refine lv_if_eq (tgt := 36) hx hb dX1_isLedTo_29 (by decide) (fun c29_2 => ?_) (fun c29_2 => ?_)
                  · exact absurd c29_2 c29
                  · refine lv_iload_n hx hb dX1_isLedTo_32 rfl (lv_at hl 6 rfl) ?_
                    refine lv_goto (tgt := 40) hx hb dX1_isLedTo_33 (by decide) ?_
                    refine lv_istore (lv' := [(6, .int (nI x0)), (5, .int 1), (4, .int 0), (8, .int (nI 0)), (7, .int (nI y0)), (3, .int (nI y0)), (2, .int (nI x0)), (0, .ref (o 0)), (1, .int (nI e0))]) hx hb dX1_isLedTo_40 hl (by decide) rfl (fun ls hl => ?_)
                    refine lv_aload_n hx hb dX1_isLedTo_42 rfl (lv_at hl 7 rfl) ?_
                    refine lv_iload_n hx hb dX1_isLedTo_43 rfl (lv_at hl 8 rfl) ?_
                    refine ro_V1 ⟨hx, hb, hml, hown, hts⟩ (c_X1_isAcross l D o cI cZ th tw ch sm od st cl us w h e0 gw gw2 gh2 (by have := nE_le gw2 gh2; omega)) (cwV 1 hts gX1_isLedTo_X1_isAcross rfl rfl rfl (by decide +kernel) ⟨Nat.le_of_ble_eq_true rfl, Nat.le_of_ble_eq_true rfl⟩) (va_recv hK hP (ci := 1) (q0 := 0) rfl rfl) hP hK hP hS rfl hl.1 (lv_room (Nat.le_of_ble_eq_true rfl)) dX1_isLedTo_44 ⟨Nat.le_of_ble_eq_true rfl, Nat.le_of_ble_eq_true rfl⟩ (fun r44 H locs hr44 hP hS => ?_)
                    subst hr44
                    refine lv_if_eq (tgt := 57) hx hb dX1_isLedTo_47 (by decide) (fun c47_2 => ?_) (fun c47_2 => ?_)
                    · exact absurd c47_2 c29
                    · refine lv_iload_n hx hb dX1_isLedTo_50 rfl (lv_at hl 5 rfl) ?_
                      refine lv_iload hx hb dX1_isLedTo_51 (lv_at hl 1 rfl) ?_
                      refine lv_isub hx hb dX1_isLedTo_53 ?_
                      rw [show ((nI y0) - 1) = (nI y0 - 1) from rfl]
                      refine lv_goto (tgt := 58) hx hb dX1_isLedTo_54 (by decide) ?_
                      refine lv_istore (lv' := [(7, .int (nI y0 - 1)), (6, .int (nI x0)), (5, .int 1), (4, .int 0), (8, .int (nI 0)), (3, .int (nI y0)), (2, .int (nI x0)), (0, .ref (o 0)), (1, .int (nI e0))]) hx hb dX1_isLedTo_58 hl (by decide) rfl (fun ls hl => ?_)
                      refine lv_aload_n hx hb dX1_isLedTo_60 rfl (lv_at hl 7 rfl) ?_
                      refine lv_iload_n hx hb dX1_isLedTo_61 rfl (lv_at hl 8 rfl) ?_
                      refine ro_V1 ⟨hx, hb, hml, hown, hts⟩ (c_X1_isAcross l D o cI cZ th tw ch sm od st cl us w h e0 gw gw2 gh2 (by have := nE_le gw2 gh2; omega)) (cwV 1 hts gX1_isLedTo_X1_isAcross rfl rfl rfl (by decide +kernel) ⟨Nat.le_of_ble_eq_true rfl, Nat.le_of_ble_eq_true rfl⟩) (va_recv hK hP (ci := 1) (q0 := 0) rfl rfl) hP hK hP hS rfl hl.1 (lv_room (Nat.le_of_ble_eq_true rfl)) dX1_isLedTo_62 ⟨Nat.le_of_ble_eq_true rfl, Nat.le_of_ble_eq_true rfl⟩ (fun r62 H locs hr62 hP hS => ?_)
                      subst hr62
                      refine lv_if_eq (tgt := 75) hx hb dX1_isLedTo_65 (by decide) (fun c65_2 => ?_) (fun c65_2 => ?_)
                      · exact absurd c65_2 c29
                      · refine lv_iconst (v := 2) hx hb dX1_isLedTo_68 (by decide) ?_
                        refine lv_iload hx hb dX1_isLedTo_69 (lv_at hl 2 rfl) ?_
                        refine lv_imul hx hb dX1_isLedTo_71 ?_
                        rw [show (2 * 1) = nI 2 from by decide]
                        refine lv_goto (tgt := 81) hx hb dX1_isLedTo_72 (by decide) ?_
                        refine lv_istore (lv' := [(8, .int (nI 2)), (7, .int (nI y0 - 1)), (6, .int (nI x0)), (5, .int 1), (4, .int 0), (3, .int (nI y0)), (2, .int (nI x0)), (0, .ref (o 0)), (1, .int (nI e0))]) hx hb dX1_isLedTo_81 hl (by decide) rfl (fun ls hl => ?_)
                        refine lv_iload hx hb dX1_isLedTo_83 (lv_at hl 4 rfl) ?_
                        refine lv_if_ne (tgt := 112) hx hb dX1_isLedTo_85 (by decide) (fun c85_2 => ?_) (fun c85_2 => ?_)
                        · exact absurd c85_2 (by decide)
                        · refine lv_aload_n hx hb dX1_isLedTo_88 rfl (lv_at hl 7 rfl) ?_
                          refine lv_iload hx hb dX1_isLedTo_89 (lv_at hl 2 rfl) ?_
                          refine lv_iload hx hb dX1_isLedTo_91 (lv_at hl 1 rfl) ?_
                          refine ro_V2 ⟨hx, hb, hml, hown, hts⟩ (c_X1_isCell l D o cI cZ th tw ch sm od st cl us w h (nI x0) (nI y0 - 1) (by omega) (by omega)) (cwV 2 hts gX1_isLedTo_X1_isCell rfl rfl rfl (by decide +kernel) ⟨Nat.le_of_ble_eq_true rfl, Nat.le_of_ble_eq_true rfl⟩) (va_recv hK hP (ci := 1) (q0 := 0) rfl rfl) hP hK hP hS rfl hl.1 (lv_room (Nat.le_of_ble_eq_true rfl)) dX1_isLedTo_93 ⟨Nat.le_of_ble_eq_true rfl, Nat.le_of_ble_eq_true rfl⟩ (fun r93 H locs hr93 hP hS => ?_)
                          subst hr93
                          rw [show (bI (decide (0 ≤ (nI x0)) && decide ((nI x0) < nI (w - 1)) && decide (0 ≤ (nI y0 - 1)) && decide ((nI y0 - 1) < nI (h - 1)))) = bI (clY w h x0 y0) from by rw [cl_Y gw gw2 gh gh2 (by omega) (by omega)]]
                          refine lv_if_eq (tgt := 116) hx hb dX1_isLedTo_96 (by decide) (fun c96_2 => ?_) (fun c96_2 => ?_)
                          · refine lv_iconst (v := 0) hx hb dX1_isLedTo_116 (by decide) ?_
                            refine lv_istore (lv' := [(4, .int 0), (8, .int (nI 2)), (7, .int (nI y0 - 1)), (6, .int (nI x0)), (5, .int 1), (3, .int (nI y0)), (2, .int (nI x0)), (0, .ref (o 0)), (1, .int (nI e0))]) hx hb dX1_isLedTo_117 hl (by decide) rfl (fun ls hl => ?_)
                            refine lv_iinc (v := 2) (lv' := [(5, .int 2), (4, .int 0), (8, .int (nI 2)), (7, .int (nI y0 - 1)), (6, .int (nI x0)), (3, .int (nI y0)), (2, .int (nI x0)), (0, .ref (o 0)), (1, .int (nI e0))]) hx hb dX1_isLedTo_119 hl (k := 4) rfl (by decide) (by decide) rfl (fun ls hl => ?_)
                            refine lv_goto (tgt := 18) hx hb dX1_isLedTo_122 (by decide) ?_
                            refine lv_iload hx hb dX1_isLedTo_18 (lv_at hl 0 rfl) ?_
                            refine lv_iconst (v := 2) hx hb dX1_isLedTo_20 (by decide) ?_
                            refine lv_icmp_ge (tgt := 125) hx hb dX1_isLedTo_21 (by decide) (fun c21_3 => ?_) (fun c21_3 => ?_)
                            · refine lv_iload hx hb dX1_isLedTo_125 (lv_at hl 1 rfl) ?_
                              exact W.zret (v := 0) (ty := .boolean) hx hb hr rfl (fun t ht hW => ⟨⟨_, (), rfl, by unfold ltR; rw [if_pos (bd_t c29), ← ex0, ← ey0]; simp [bI_n0.mp c96, bI_0.mp c109, bI_0.mp c96_2, bI], trivial⟩, hS.F ht⟩) hS.2.2 dX1_isLedTo_127
                            · exact absurd c21_3 (by decide)
                          · have hc1 := clY_ok (bI_n0.mp c96_2)
                            rw [nI_m1 hc1.2.1] at hl
                            refine lv_aload_n hx hb dX1_isLedTo_99 rfl (lv_at hl 7 rfl) ?_
                            refine lv_iload hx hb dX1_isLedTo_100 (lv_at hl 2 rfl) ?_
                            refine lv_iload hx hb dX1_isLedTo_102 (lv_at hl 1 rfl) ?_
                            refine lv_iload hx hb dX1_isLedTo_104 (lv_at hl 0 rfl) ?_
                            refine ro_V3 ⟨hx, hb, hml, hown, hts⟩ (c_X1_isUp l D o cI cZ th tw ch sm od st cl us w h f x0 (y0 - 1) 2 gw2 gh2 gf (by omega) (by omega) (by decide)) (cwV 3 hts gX1_isLedTo_X1_isUp rfl rfl rfl (by decide +kernel) ⟨Nat.le_of_ble_eq_true rfl, Nat.le_of_ble_eq_true rfl⟩) (va_recv hK hP (ci := 1) (q0 := 0) rfl rfl) hP hK hP hS rfl hl.1 (lv_room (Nat.le_of_ble_eq_true rfl)) dX1_isLedTo_106 ⟨Nat.le_of_ble_eq_true rfl, Nat.le_of_ble_eq_true rfl⟩ (fun r106 H locs hr106 hP hS => ?_)
                            subst hr106
                            refine lv_if_eq (tgt := 116) hx hb dX1_isLedTo_109 (by decide) (fun c109_2 => ?_) (fun c109_2 => ?_)
                            · refine lv_iconst (v := 0) hx hb dX1_isLedTo_116 (by decide) ?_
                              refine lv_istore (lv' := [(4, .int 0), (8, .int (nI 2)), (7, .int (nI (y0 - 1))), (6, .int (nI x0)), (5, .int 1), (3, .int (nI y0)), (2, .int (nI x0)), (0, .ref (o 0)), (1, .int (nI e0))]) hx hb dX1_isLedTo_117 hl (by decide) rfl (fun ls hl => ?_)
                              refine lv_iinc (v := 2) (lv' := [(5, .int 2), (4, .int 0), (8, .int (nI 2)), (7, .int (nI (y0 - 1))), (6, .int (nI x0)), (3, .int (nI y0)), (2, .int (nI x0)), (0, .ref (o 0)), (1, .int (nI e0))]) hx hb dX1_isLedTo_119 hl (k := 4) rfl (by decide) (by decide) rfl (fun ls hl => ?_)
                              refine lv_goto (tgt := 18) hx hb dX1_isLedTo_122 (by decide) ?_
                              refine lv_iload hx hb dX1_isLedTo_18 (lv_at hl 0 rfl) ?_
                              refine lv_iconst (v := 2) hx hb dX1_isLedTo_20 (by decide) ?_
                              refine lv_icmp_ge (tgt := 125) hx hb dX1_isLedTo_21 (by decide) (fun c21_3 => ?_) (fun c21_3 => ?_)
                              · refine lv_iload hx hb dX1_isLedTo_125 (lv_at hl 1 rfl) ?_
                                exact W.zret (v := 0) (ty := .boolean) hx hb hr rfl (fun t ht hW => ⟨⟨_, (), rfl, by unfold ltR; rw [if_pos (bd_t c29), ← ex0, ← ey0]; simp [bI_n0.mp c96, bI_0.mp c109, bI_n0.mp c96_2, bI_0.mp c109_2, bI], trivial⟩, hS.F ht⟩) hS.2.2 dX1_isLedTo_127
                              · exact absurd c21_3 (by decide)
                            · refine lv_iconst (v := 1) hx hb dX1_isLedTo_112 (by decide) ?_
                              refine lv_goto (tgt := 117) hx hb dX1_isLedTo_113 (by decide) ?_
                              refine lv_istore (lv' := [(4, .int 1), (8, .int (nI 2)), (7, .int (nI (y0 - 1))), (6, .int (nI x0)), (5, .int 1), (3, .int (nI y0)), (2, .int (nI x0)), (0, .ref (o 0)), (1, .int (nI e0))]) hx hb dX1_isLedTo_117 hl (by decide) rfl (fun ls hl => ?_)
                              refine lv_iinc (v := 2) (lv' := [(5, .int 2), (4, .int 1), (8, .int (nI 2)), (7, .int (nI (y0 - 1))), (6, .int (nI x0)), (3, .int (nI y0)), (2, .int (nI x0)), (0, .ref (o 0)), (1, .int (nI e0))]) hx hb dX1_isLedTo_119 hl (k := 4) rfl (by decide) (by decide) rfl (fun ls hl => ?_)
                              refine lv_goto (tgt := 18) hx hb dX1_isLedTo_122 (by decide) ?_
                              refine lv_iload hx hb dX1_isLedTo_18 (lv_at hl 0 rfl) ?_
                              refine lv_iconst (v := 2) hx hb dX1_isLedTo_20 (by decide) ?_
                              refine lv_icmp_ge (tgt := 125) hx hb dX1_isLedTo_21 (by decide) (fun c21_3 => ?_) (fun c21_3 => ?_)
                              · refine lv_iload hx hb dX1_isLedTo_125 (lv_at hl 1 rfl) ?_
                                exact W.zret (v := 1) (ty := .boolean) hx hb hr rfl (fun t ht hW => ⟨⟨_, (), rfl, by unfold ltR; rw [if_pos (bd_t c29), ← ex0, ← ey0]; simp [bI_n0.mp c96, bI_0.mp c109, bI_n0.mp c96_2, bI_n0.mp c109_2, bI], trivial⟩, hS.F ht⟩) hS.2.2 dX1_isLedTo_127
                              · exact absurd c21_3 (by decide)
              · refine lv_iconst (v := 1) hx hb dX1_isLedTo_112 (by decide) ?_
                refine lv_goto (tgt := 117) hx hb dX1_isLedTo_113 (by decide) ?_
                refine lv_istore (lv' := [(4, .int 1), (8, .int (nI 0)), (7, .int (nI y0)), (6, .int (nI x0)), (5, .int 0), (3, .int (nI y0)), (2, .int (nI x0)), (0, .ref (o 0)), (1, .int (nI e0))]) hx hb dX1_isLedTo_117 hl (by decide) rfl (fun ls hl => ?_)
                refine lv_iinc (v := 1) (lv' := [(5, .int 1), (4, .int 1), (8, .int (nI 0)), (7, .int (nI y0)), (6, .int (nI x0)), (3, .int (nI y0)), (2, .int (nI x0)), (0, .ref (o 0)), (1, .int (nI e0))]) hx hb dX1_isLedTo_119 hl (k := 4) rfl (by decide) (by decide) rfl (fun ls hl => ?_)
                refine lv_goto (tgt := 18) hx hb dX1_isLedTo_122 (by decide) ?_
                refine lv_iload hx hb dX1_isLedTo_18 (lv_at hl 0 rfl) ?_
                refine lv_iconst (v := 2) hx hb dX1_isLedTo_20 (by decide) ?_
                refine lv_icmp_ge (tgt := 125) hx hb dX1_isLedTo_21 (by decide) (fun c21_2 => ?_) (fun c21_2 => ?_)
                · exact absurd c21_2 (by decide)
                · refine lv_aload_n hx hb dX1_isLedTo_24 rfl (lv_at hl 7 rfl) ?_
                  refine lv_iload_n hx hb dX1_isLedTo_25 rfl (lv_at hl 8 rfl) ?_
                  refine ro_V1 ⟨hx, hb, hml, hown, hts⟩ (c_X1_isAcross l D o cI cZ th tw ch sm od st cl us w h e0 gw gw2 gh2 (by have := nE_le gw2 gh2; omega)) (cwV 1 hts gX1_isLedTo_X1_isAcross rfl rfl rfl (by decide +kernel) ⟨Nat.le_of_ble_eq_true rfl, Nat.le_of_ble_eq_true rfl⟩) (va_recv hK hP (ci := 1) (q0 := 0) rfl rfl) hP hK hP hS rfl hl.1 (lv_room (Nat.le_of_ble_eq_true rfl)) dX1_isLedTo_26 ⟨Nat.le_of_ble_eq_true rfl, Nat.le_of_ble_eq_true rfl⟩ (fun r26 H locs hr26 hP hS => ?_)
                  subst hr26
                  refine lv_if_eq (tgt := 36) hx hb dX1_isLedTo_29 (by decide) (fun c29_2 => ?_) (fun c29_2 => ?_)
                  · exact absurd c29_2 c29
                  · refine lv_iload_n hx hb dX1_isLedTo_32 rfl (lv_at hl 6 rfl) ?_
                    refine lv_goto (tgt := 40) hx hb dX1_isLedTo_33 (by decide) ?_
                    refine lv_istore (lv' := [(6, .int (nI x0)), (5, .int 1), (4, .int 1), (8, .int (nI 0)), (7, .int (nI y0)), (3, .int (nI y0)), (2, .int (nI x0)), (0, .ref (o 0)), (1, .int (nI e0))]) hx hb dX1_isLedTo_40 hl (by decide) rfl (fun ls hl => ?_)
                    refine lv_aload_n hx hb dX1_isLedTo_42 rfl (lv_at hl 7 rfl) ?_
                    refine lv_iload_n hx hb dX1_isLedTo_43 rfl (lv_at hl 8 rfl) ?_
                    refine ro_V1 ⟨hx, hb, hml, hown, hts⟩ (c_X1_isAcross l D o cI cZ th tw ch sm od st cl us w h e0 gw gw2 gh2 (by have := nE_le gw2 gh2; omega)) (cwV 1 hts gX1_isLedTo_X1_isAcross rfl rfl rfl (by decide +kernel) ⟨Nat.le_of_ble_eq_true rfl, Nat.le_of_ble_eq_true rfl⟩) (va_recv hK hP (ci := 1) (q0 := 0) rfl rfl) hP hK hP hS rfl hl.1 (lv_room (Nat.le_of_ble_eq_true rfl)) dX1_isLedTo_44 ⟨Nat.le_of_ble_eq_true rfl, Nat.le_of_ble_eq_true rfl⟩ (fun r44 H locs hr44 hP hS => ?_)
                    subst hr44
                    refine lv_if_eq (tgt := 57) hx hb dX1_isLedTo_47 (by decide) (fun c47_2 => ?_) (fun c47_2 => ?_)
                    · exact absurd c47_2 c29
                    · refine lv_iload_n hx hb dX1_isLedTo_50 rfl (lv_at hl 5 rfl) ?_
                      refine lv_iload hx hb dX1_isLedTo_51 (lv_at hl 1 rfl) ?_
                      refine lv_isub hx hb dX1_isLedTo_53 ?_
                      rw [show ((nI y0) - 1) = (nI y0 - 1) from rfl]
                      refine lv_goto (tgt := 58) hx hb dX1_isLedTo_54 (by decide) ?_
                      refine lv_istore (lv' := [(7, .int (nI y0 - 1)), (6, .int (nI x0)), (5, .int 1), (4, .int 1), (8, .int (nI 0)), (3, .int (nI y0)), (2, .int (nI x0)), (0, .ref (o 0)), (1, .int (nI e0))]) hx hb dX1_isLedTo_58 hl (by decide) rfl (fun ls hl => ?_)
                      refine lv_aload_n hx hb dX1_isLedTo_60 rfl (lv_at hl 7 rfl) ?_
                      refine lv_iload_n hx hb dX1_isLedTo_61 rfl (lv_at hl 8 rfl) ?_
                      refine ro_V1 ⟨hx, hb, hml, hown, hts⟩ (c_X1_isAcross l D o cI cZ th tw ch sm od st cl us w h e0 gw gw2 gh2 (by have := nE_le gw2 gh2; omega)) (cwV 1 hts gX1_isLedTo_X1_isAcross rfl rfl rfl (by decide +kernel) ⟨Nat.le_of_ble_eq_true rfl, Nat.le_of_ble_eq_true rfl⟩) (va_recv hK hP (ci := 1) (q0 := 0) rfl rfl) hP hK hP hS rfl hl.1 (lv_room (Nat.le_of_ble_eq_true rfl)) dX1_isLedTo_62 ⟨Nat.le_of_ble_eq_true rfl, Nat.le_of_ble_eq_true rfl⟩ (fun r62 H locs hr62 hP hS => ?_)
                      subst hr62
                      refine lv_if_eq (tgt := 75) hx hb dX1_isLedTo_65 (by decide) (fun c65_2 => ?_) (fun c65_2 => ?_)
                      · exact absurd c65_2 c29
                      · refine lv_iconst (v := 2) hx hb dX1_isLedTo_68 (by decide) ?_
                        refine lv_iload hx hb dX1_isLedTo_69 (lv_at hl 2 rfl) ?_
                        refine lv_imul hx hb dX1_isLedTo_71 ?_
                        rw [show (2 * 1) = nI 2 from by decide]
                        refine lv_goto (tgt := 81) hx hb dX1_isLedTo_72 (by decide) ?_
                        refine lv_istore (lv' := [(8, .int (nI 2)), (7, .int (nI y0 - 1)), (6, .int (nI x0)), (5, .int 1), (4, .int 1), (3, .int (nI y0)), (2, .int (nI x0)), (0, .ref (o 0)), (1, .int (nI e0))]) hx hb dX1_isLedTo_81 hl (by decide) rfl (fun ls hl => ?_)
                        refine lv_iload hx hb dX1_isLedTo_83 (lv_at hl 4 rfl) ?_
                        refine lv_if_ne (tgt := 112) hx hb dX1_isLedTo_85 (by decide) (fun c85_2 => ?_) (fun c85_2 => ?_)
                        · refine lv_iconst (v := 1) hx hb dX1_isLedTo_112 (by decide) ?_
                          refine lv_goto (tgt := 117) hx hb dX1_isLedTo_113 (by decide) ?_
                          refine lv_istore (lv' := [(4, .int 1), (8, .int (nI 2)), (7, .int (nI y0 - 1)), (6, .int (nI x0)), (5, .int 1), (3, .int (nI y0)), (2, .int (nI x0)), (0, .ref (o 0)), (1, .int (nI e0))]) hx hb dX1_isLedTo_117 hl (by decide) rfl (fun ls hl => ?_)
                          refine lv_iinc (v := 2) (lv' := [(5, .int 2), (4, .int 1), (8, .int (nI 2)), (7, .int (nI y0 - 1)), (6, .int (nI x0)), (3, .int (nI y0)), (2, .int (nI x0)), (0, .ref (o 0)), (1, .int (nI e0))]) hx hb dX1_isLedTo_119 hl (k := 4) rfl (by decide) (by decide) rfl (fun ls hl => ?_)
                          refine lv_goto (tgt := 18) hx hb dX1_isLedTo_122 (by decide) ?_
                          refine lv_iload hx hb dX1_isLedTo_18 (lv_at hl 0 rfl) ?_
                          refine lv_iconst (v := 2) hx hb dX1_isLedTo_20 (by decide) ?_
                          refine lv_icmp_ge (tgt := 125) hx hb dX1_isLedTo_21 (by decide) (fun c21_3 => ?_) (fun c21_3 => ?_)
                          · refine lv_iload hx hb dX1_isLedTo_125 (lv_at hl 1 rfl) ?_
                            exact W.zret (v := 1) (ty := .boolean) hx hb hr rfl (fun t ht hW => ⟨⟨_, (), rfl, by unfold ltR; rw [if_pos (bd_t c29), ← ex0, ← ey0]; simp [bI_n0.mp c96, bI_n0.mp c109, bI], trivial⟩, hS.F ht⟩) hS.2.2 dX1_isLedTo_127
                          · exact absurd c21_3 (by decide)
                        · exact absurd c85_2 (by decide)
end
section
/-! contracts of methods that write their own world, and their call rows -/
def wA (w : va_W) : Nat → Prop := fun q => ∃ (k : Nat) (e : va_E), w[k]? = some (q, e)
theorem wA_in {w : va_W} {k : Nat} {q : Nat × va_E} (h : w[k]? = some q) : wA w q.1 := ⟨k, q.2, h⟩
theorem wA_D {w : va_W} {A : Nat → Prop} (h : va_D A w) : va_D (wA w) w := ⟨h.1, fun _ _ hk => wA_in hk⟩
abbrev wP (D : va_G) (w0 : va_W) (ty : List (ClassId × FieldType)) (av : List Value) : Array Value → State → Prop := va_Pc av (fun U => va_P D vwCl w0 U.heap ∧ va_K D vwCl ty U ∧ va_D (fun _ => True) w0)
abbrev wB (D : va_G) (w0 w1 : va_W) (ty : List (ClassId × FieldType)) : Unit → State → Prop := fun _ t => va_P D vwCl w1 t.heap ∧ va_K D vwCl ty t ∧ va_D (wA w0) w1
/-- it returns nothing, an int; its world w0 becomes w1 -/
abbrev wvMet (l : Launch) (y : MethodName) (ws : List Cond) (rm : Room) (D : va_G) (w0 w1 : va_W) (ty : List (ClassId × FieldType)) (av : List Value) : Prop :=
  Met l y ws rm (wP D w0 ty av) (va_Qv (fun _ : Unit => True) (wB D w0 w1 ty) (wA w0)) 0 0 (wA w0)
abbrev wiMet (l : Launch) (y : MethodName) (ws : List Cond) (rm : Room) (D : va_G) (w0 w1 : va_W) (ty : List (ClassId × FieldType)) (av : List Value) (val : Int32) : Prop :=
  Met l y ws rm (wP D w0 ty av) (va_Qi (fun r (_ : Unit) => r = val) (wB D w0 w1 ty) (wA w0)) 0 0 (wA w0)
theorem wr_free {A0 : Nat → Prop} {ws wc : va_W} (hD : va_D A0 ws) (isC : List Nat) (hC : isC.map (fun i => ws[i]?) = wc.map some) : ∀ q, wA wc q → A0 q := by
  intro q ⟨k, e, h⟩
  have h1 : (isC.map (fun i => ws[i]?))[k]? = some (some (q, e)) := by rw [hC, List.getElem?_map, h]; rfl
  rw [List.getElem?_map] at h1
  cases hi : isC[k]? with
  | none => rw [hi] at h1; cases h1
  | some i => rw [hi] at h1; exact hD.2 i (q, e) (Option.some.inj h1)
theorem wr_join {A0 : Nat → Prop} {D : va_G} {cl : List vw_C} {ws wc wr w1 : va_W} {H H1 : Heap} (hP : va_P D cl ws H) (hD : va_D A0 ws) (isC isR : List Nat) (hC : isC.map (fun i => ws[i]?) = wc.map some) (hR : isR.map (fun i => ws[i]?) = wr.map some) (hn : va_nd isR = true) (hdis : ∀ i ∈ isR, i ∉ isC)
    (hk : ∀ q : Nat, q < H.size → ¬ wA wc q → H1[q]? = H[q]?) (hP1 : va_P D cl w1 H1) (hD1 : va_D (wA wc) w1) : va_P D cl (wr ++ w1) H1 ∧ va_D A0 (wr ++ w1) := by
  have key : ∀ (k : Nat) (q : Nat × va_E), wr[k]? = some q → ∃ i, isR[k]? = some i ∧ ws[i]? = some q := by
    intro k q hk
    have h1 : (isR.map (fun i => ws[i]?))[k]? = some (some q) := by rw [hR, List.getElem?_map, hk]; rfl
    rw [List.getElem?_map] at h1
    cases hi : isR[k]? with
    | none => rw [hi] at h1; cases h1
    | some i => rw [hi] at h1; exact ⟨i, rfl, Option.some.inj h1⟩
  have keyC : ∀ (k : Nat) (q : Nat × va_E), wc[k]? = some q → ∃ i, isC[k]? = some i ∧ ws[i]? = some q := by
    intro k q hk
    have h1 : (isC.map (fun i => ws[i]?))[k]? = some (some q) := by rw [hC, List.getElem?_map, hk]; rfl
    rw [List.getElem?_map] at h1
    cases hi : isC[k]? with
    | none => rw [hi] at h1; cases h1
    | some i => rw [hi] at h1; exact ⟨i, rfl, Option.some.inj h1⟩
  have hno : ∀ (k : Nat) (q : Nat × va_E), wr[k]? = some q → ¬ wA wc q.1 := by
    rintro k q hk ⟨j, e, hj⟩
    obtain ⟨i, hi, hwi⟩ := key k q hk
    obtain ⟨i2, hi2, hwi2⟩ := keyC j _ hj
    have := hD.1 i i2 q _ hwi hwi2 rfl
    subst this
    exact hdis i (List.mem_of_getElem? hi) (List.mem_of_getElem? hi2)
  have hPr : va_P D cl wr H1 := by
    intro k q hk2
    obtain ⟨i, hi, hwi⟩ := key k q hk2
    exact (hP i q hwi).kept (hk q.1 (hP i q hwi).lt (hno k q hk2))
  have hDr : va_D A0 wr := hD.sub isR hn hR
  refine ⟨hPr.app hP1, hDr.app (hD1.weaken (fun k q hk h => wr_free hD isC hC _ h)) (fun i j p q hi hj e => hno i p hi (by rw [e]; exact hD1.2 j q hj))⟩
section WRC
variable {p : Program} {l : Launch} {e : Env} {R : Room} {s : State} {m : MethodId} {args : Array Value} {below : List Frame} {meth : Method} {c : Code} {H : Heap} {locs : List Loc} {cells slots : Nat} {Q : State → Prop}
variable {y : MethodName} {bytes cc : ByteArray} {maxL nL n index pc : Nat} {ret : Option FieldType} {wy : List Cond} {rm : Room} {Ts : List Cond} {own C : String} {b : Addr} {As rest st0 : List Value} {ls : Array Slot} {D : va_G} {ws wc w1 wr : va_W} {ty : List (ClassId × FieldType)} {A0 : Nat → Prop} {H0 : Heap} {val : Int32}
theorem wi_V (S : CallFix p m c cc nL s args Ts own) (hM : wiMet l y wy rm D wc w1 ty (.ref b :: As) val) (cw : CallW R s args own C index y bytes maxL ret wy rm 0 0 n)
    (hrecv : ∃ cell : Cell, H[b]? = some cell ∧ cell.vm.isStatics = false ∧ s.vm.findClass C = some cell.cls) (hPc : va_P D vwCl wc H) (hDc : va_D A0 wc) (hKc : va_K D vwCl ty s) (hP : va_P D vwCl ws H) (hD : va_D A0 ws) (hS : va_S A0 H0 H locs)
    (isC isR : List Nat) (hC : isC.map (fun i => ws[i]?) = wc.map some) (hR : isR.map (fun i => ws[i]?) = wr.map some) (hnd : va_nd isR = true) (hdis : ∀ i ∈ isR, i ∉ isC)
    (hn : As.length = n) (hsize : ls.size = nL) (hstack : st0 = As.reverse ++ .ref b :: rest) (hW : 2 * (F0 m pc ls st0).monitorRoom + (rest.map fun v => v.category).sum ≤ 8) (hdg : decode cc pc = .ok (.invokevirtual index, 3)) (hf : cells ≤ R.cells ∧ slots ≤ R.slots)
    (kk : ∀ (r : Int32) (H1 : Heap) (locs1 : List Loc), r = val → va_P D vwCl (wr ++ w1) H1 → va_D A0 (wr ++ w1) → va_S A0 H0 H1 locs1 → W p l e R s m args below meth c H1 locs1 cells slots Q (F0 m (pc + 3) ls (.int r :: rest))) : W p l e R s m args below meth c H locs cells slots Q (F0 m pc ls st0) := by
  refine va_calli (A1 := wA wc) (va_runV (As := As) (rest := rest) S hM cw ⟨fun a U g mk q => by obtain ⟨q0, qP, qK, qD⟩ := q; exact ⟨q0, qP, va_K.moved (u := U) (U := U.calling g mk a) (Vm.Alike.refl U.vm) qK, qD⟩, hrecv, fun U hU hW => ⟨rfl, by rw [hU]; exact hPc, va_K.moved hW.alike hKc, hDc.weaken (fun _ _ _ _ => trivial)⟩⟩ rfl hn hsize hstack hW hdg hf) hS (fun q _ h => wr_free hD isC hC q h) (wr_free hD isC hC) (fun r u t H1 locs1 ht hvm hw hB hz1 hk1 hS1 => ?_)
  obtain ⟨hP1, hK1, hD1⟩ := hB
  rw [ht] at hP1
  obtain ⟨hP2, hD2⟩ := wr_join hP hD isC isR hC hR hnd hdis hk1 hP1 hD1
  exact kk r H1 locs1 hw hP2 hD2 hS1
theorem wv_V (S : CallFix p m c cc nL s args Ts own) (hM : wvMet l y wy rm D wc w1 ty (.ref b :: As)) (cw : CallW R s args own C index y bytes maxL ret wy rm 0 0 n)
    (hrecv : ∃ cell : Cell, H[b]? = some cell ∧ cell.vm.isStatics = false ∧ s.vm.findClass C = some cell.cls) (hPc : va_P D vwCl wc H) (hDc : va_D A0 wc) (hKc : va_K D vwCl ty s) (hP : va_P D vwCl ws H) (hD : va_D A0 ws) (hS : va_S A0 H0 H locs)
    (isC isR : List Nat) (hC : isC.map (fun i => ws[i]?) = wc.map some) (hR : isR.map (fun i => ws[i]?) = wr.map some) (hnd : va_nd isR = true) (hdis : ∀ i ∈ isR, i ∉ isC)
    (hn : As.length = n) (hsize : ls.size = nL) (hstack : st0 = As.reverse ++ .ref b :: rest) (hW : 2 * (F0 m pc ls st0).monitorRoom + (rest.map fun v => v.category).sum ≤ 8) (hdg : decode cc pc = .ok (.invokevirtual index, 3)) (hf : cells ≤ R.cells ∧ slots ≤ R.slots)
    (kk : ∀ (H1 : Heap) (locs1 : List Loc), va_P D vwCl (wr ++ w1) H1 → va_D A0 (wr ++ w1) → va_S A0 H0 H1 locs1 → W p l e R s m args below meth c H1 locs1 cells slots Q (F0 m (pc + 3) ls rest)) : W p l e R s m args below meth c H locs cells slots Q (F0 m pc ls st0) := by
  refine va_callv (A1 := wA wc) (va_runV (As := As) (rest := rest) S hM cw ⟨fun a U g mk q => by obtain ⟨q0, qP, qK, qD⟩ := q; exact ⟨q0, qP, va_K.moved (u := U) (U := U.calling g mk a) (Vm.Alike.refl U.vm) qK, qD⟩, hrecv, fun U hU hW => ⟨rfl, by rw [hU]; exact hPc, va_K.moved hW.alike hKc, hDc.weaken (fun _ _ _ _ => trivial)⟩⟩ rfl hn hsize hstack hW hdg hf) hS (fun q _ h => wr_free hD isC hC q h) (wr_free hD isC hC) (fun u t H1 locs1 ht hvm hw hB hz1 hk1 hS1 => ?_)
  obtain ⟨hP1, hK1, hD1⟩ := hB
  rw [ht] at hP1
  obtain ⟨hP2, hD2⟩ := wr_join hP hD isC isR hC hR hnd hdis hk1 hP1 hD1
  exact kk H1 locs1 hP2 hD2 hS1
theorem wv_S (S : CallFix p m c cc nL s args Ts own) (hM : wvMet l y wy rm D wc w1 ty As) (cw : CallB R s args own index y bytes maxL ret wy rm 0 0 n ∧ (Cond.static y).before args s = true)
    (hPc : va_P D vwCl wc H) (hDc : va_D A0 wc) (hKc : va_K D vwCl ty s) (hP : va_P D vwCl ws H) (hD : va_D A0 ws) (hS : va_S A0 H0 H locs)
    (isC isR : List Nat) (hC : isC.map (fun i => ws[i]?) = wc.map some) (hR : isR.map (fun i => ws[i]?) = wr.map some) (hnd : va_nd isR = true) (hdis : ∀ i ∈ isR, i ∉ isC)
    (hn : As.length = n) (hsize : ls.size = nL) (hstack : st0 = As.reverse ++ rest) (hW : 2 * (F0 m pc ls st0).monitorRoom + (rest.map fun v => v.category).sum ≤ 8) (hdg : decode cc pc = .ok (.invokestatic index, 3)) (hf : cells ≤ R.cells ∧ slots ≤ R.slots)
    (kk : ∀ (H1 : Heap) (locs1 : List Loc), va_P D vwCl (wr ++ w1) H1 → va_D A0 (wr ++ w1) → va_S A0 H0 H1 locs1 → W p l e R s m args below meth c H1 locs1 cells slots Q (F0 m (pc + 3) ls rest)) : W p l e R s m args below meth c H locs cells slots Q (F0 m pc ls st0) := by
  refine va_callv (A1 := wA wc) (va_runS (As := As) (rest := rest) S hM cw ⟨fun a U g mk q => by obtain ⟨q0, qP, qK, qD⟩ := q; exact ⟨q0, qP, va_K.moved (u := U) (U := U.calling g mk a) (Vm.Alike.refl U.vm) qK, qD⟩, fun U hU hW => ⟨rfl, by rw [hU]; exact hPc, va_K.moved hW.alike hKc, hDc.weaken (fun _ _ _ _ => trivial)⟩⟩ rfl hn hsize hstack hW hdg hf) hS (fun q _ h => wr_free hD isC hC q h) (wr_free hD isC hC) (fun u t H1 locs1 ht hvm hw hB hz1 hk1 hS1 => ?_)
  obtain ⟨hP1, hK1, hD1⟩ := hB
  rw [ht] at hP1
  obtain ⟨hP2, hD2⟩ := wr_join hP hD isC isR hC hR hnd hdis hk1 hP1 hD1
  exact kk H1 locs1 hP2 hD2 hS1
end WRC
/-- behind a fill -/
def filF (n : Nat) (v : Int32) (f : Nat → Int32) : Nat → Int32 := fun k => if k < n then v else f k
theorem filF_0 (v : Int32) (f : Nat → Int32) : filF 0 v f = f := by funext k; simp [filF]
theorem filF_s (n : Nat) (v : Int32) (f : Nat → Int32) : upd (filF n v f) n v = filF (n + 1) v f := by
  funext k
  unfold filF upd
  by_cases h : k = n
  · subst h; simp
  · by_cases h2 : k < n
    · simp [h, h2, Nat.lt_succ_of_lt h2]
    · have : ¬ k < n + 1 := by omega
      simp [h, h2, this]
theorem filF_in {n : Nat} {v : Int32} {f : Nat → Int32} {k : Nat} (h : k < n) : filF n v f k = v := by simp [filF, h]
end
section
set_option maxHeartbeats 4000000 in
set_option maxRecDepth 100000 in
/-- Arrays.fill(int[], int) -/
theorem c_fill (l : Launch) (D : va_G) (cI : ClassId) (a n0 : Nat) (f : Nat → Int32) (v : Int32) (gn : n0 < 2 ^ 30) : wvMet l yJ7_fill_53178 wsJ7_fill_53178 ({ frames := 0, cells := 0, slots := 0, locals := 0 } : Room) D [(a, .inl (cI, n0, .inl f))] [(a, .inl (cI, n0, .inl (filF n0 v f)))] [(cI, .int)] [.ref a, .int v] := by
  refine Met.ofW (cc := cJ7_fill_53178) (maxL := 4) (ret := none) (by decide) rfl ?_
  intro p e s m args below meth c s₁ B hml hv
  obtain ⟨rfl, hP, hK, hD0⟩ := hv
  have hx := B.exec
  have hb := B.bytes
  have hr := B.returns
  have hts := atoms_spec (ws := wsJ7_fill_53178) B.pre
  have hlocks := B.notSynchronized
  have hD := wA_D hD0
  have hS : va_S (wA [(a, .inl (cI, n0, .inl f))]) s.heap s.heap [] := va_S.rf
  have hP : va_P D vwCl [(a, .inl (cI, n0, .inl f))] s.heap := hP
  have hl := lv_entry ([.ref a, .int v]) (n := 4) (Nat.le_of_ble_eq_true rfl)
  rw [lg_entry_eq]
  generalize (lg_sl ([.ref a, .int v]) ++ List.replicate (4 - (lg_sl ([.ref a, .int v])).length) Slot.unset).toArray = ls at hl ⊢
  have hl : lv_has ls 4 [(0, .ref a), (1, .int v)] := hl
  have lp : ∀ (n j : Nat), j ≤ n0 → n0 + 1 ≤ j + n → ∀ (H : Heap) (locs : List Loc) (ls : Array Slot), va_P D vwCl [(a, .inl (cI, n0, .inl (filF j v f)))] H → va_D (wA [(a, .inl (cI, n0, .inl f))]) [(a, .inl (cI, n0, .inl (filF j v f)))] → va_S (wA [(a, .inl (cI, n0, .inl f))]) s.heap H locs → lv_has ls 4 [(2, .int (nI j)), (3, .int (nI n0)), (0, .ref a), (1, .int v)] → W p l e (headSpec wsJ7_fill_53178 ({ frames := 0, cells := 0, slots := 0, locals := 0 } : Room)).room s m ([.ref a, .int v] : List Value).toArray below meth c H locs 0 0 (MQ below (va_Qv (fun _ : Unit => True) (wB D [(a, .inl (cI, n0, .inl f))] [(a, .inl (cI, n0, .inl (filF n0 v f)))] [(cI, .int)]) (wA [(a, .inl (cI, n0, .inl f))])) ([.ref a, .int v] : List Value).toArray s 0 0 (wA [(a, .inl (cI, n0, .inl f))])) (F0 m 5 ls []) := by
    intro n
    induction n with
    | zero =>
      intro j hj hn
      exact absurd hn (by omega)
    | succ n ih =>
      intro j hj hn H locs ls hP hD hS hl
      refine lv_iload_n hx hb dJ7_fill_53178_5 rfl (lv_at hl 0 rfl) ?_
      refine lv_iload_n hx hb dJ7_fill_53178_6 rfl (lv_at hl 1 rfl) ?_
      refine lv_icmp_ge (tgt := 20) hx hb dJ7_fill_53178_7 (by decide) (fun c7 => ?_) (fun c7 => ?_)
      · have hj2 : j = n0 := by have := le_n c7 (by omega) (by omega); omega
        subst hj2
        exact W.vret hx hb hr (fun t ht hW => ⟨⟨(), rfl, trivial, by rw [ht]; exact hP, va_K.moved hW.alike hK, hD⟩, hS.F ht⟩) hS.2.2 dJ7_fill_53178_20
      · have hj2 : j < n0 := nle_n c7 (by omega) (by omega)
        refine lv_aload_n hx hb dJ7_fill_53178_10 rfl (lv_at hl 2 rfl) ?_
        refine lv_iload_n hx hb dJ7_fill_53178_11 rfl (lv_at hl 0 rfl) ?_
        refine lv_iload_n hx hb dJ7_fill_53178_12 rfl (lv_at hl 3 rfl) ?_
        refine an_iast (D := D) hx hb hK hP hD hS 0 0 rfl rfl (k := j) hj2 (by omega) dJ7_fill_53178_13 (fun H locs hP hD hS => ?_)
        have hP : va_P D vwCl [(a, .inl (cI, n0, .inl (upd (filF j v f) j v)))] H := hP
        have hD : va_D (wA [(a, .inl (cI, n0, .inl f))]) [(a, .inl (cI, n0, .inl (upd (filF j v f) j v)))] := hD
        rw [filF_s] at hP hD
        refine lv_iinc (v := (nI (j + 1))) (lv' := [(2, .int (nI (j + 1))), (3, .int (nI n0)), (0, .ref a), (1, .int v)]) hx hb dJ7_fill_53178_14 hl (k := 0) rfl (nI_p1 _) (by decide) rfl (fun ls hl => ?_)
        refine lv_goto (tgt := 5) hx hb dJ7_fill_53178_17 (by decide) ?_
        exact ih (j + 1) hj2 (by omega) _ _ _ hP hD hS hl
  refine lv_iconst (v := 0) hx hb dJ7_fill_53178_0 (by decide) ?_
  refine lv_istore_n (lv' := [(2, .int 0), (0, .ref a), (1, .int v)]) hx hb dJ7_fill_53178_1 rfl hl (by decide) rfl (fun ls hl => ?_)
  refine lv_aload_n hx hb dJ7_fill_53178_2 rfl (lv_at hl 1 rfl) ?_
  refine va_alen (D := D) (v := nI n0) hx hb hK hP 0 0 rfl rfl rfl dJ7_fill_53178_3 ?_
  refine lv_istore_n (lv' := [(3, .int (nI n0)), (2, .int 0), (0, .ref a), (1, .int v)]) hx hb dJ7_fill_53178_4 rfl hl (by decide) rfl (fun ls hl => ?_)
  refine lp (n0 + 1) 0 (Nat.zero_le _) (by omega) _ _ _ ?_ ?_ hS (lv_sub hl [1, 0, 2, 3] rfl)
  · rw [filF_0]; exact hP
  · rw [filF_0]; exact hD
end
section
set_option maxHeartbeats 4000000 in
set_option maxRecDepth 100000 in
theorem c_X0_forgetChains (l : Launch) (D : va_G) (o : Nat → Nat) (cI : ClassId) (co ro tw op ch : Int32) (sm nx bf od st ow : Nat → Int32) : wvMet l yX0_forgetChains wsX0_forgetChains ({ frames := 1, cells := 0, slots := 0, locals := 23 } : Room) D (W0 o cI co ro tw op ch sm nx bf od st ow) (W0 o cI co ro tw 0 0 sm nx bf od st (filF 264 (-1) ow)) [(cI, .int)] [.ref (o 0)] := by
  refine Met.ofW (cc := cX0_forgetChains) (maxL := 1) (ret := none) (by decide) rfl ?_
  intro p e s m args below meth c s₁ B hml hv
  obtain ⟨rfl, hP, hK, hD0⟩ := hv
  have hx := B.exec
  have hb := B.bytes
  have hr := B.returns
  have hts := atoms_spec (ws := wsX0_forgetChains) B.pre
  have hown : s.vm.findClass RX0 = some m.cls := findClass_of_methodNamed B.named
  have hlocks := B.notSynchronized
  have hin0 : ∀ w ∈ u_ws RX0 TX0 11, w ∈ wsX0_forgetChains := by decide +kernel
  have hD := wA_D hD0
  have hS : va_S (wA (W0 o cI co ro tw op ch sm nx bf od st ow)) s.heap s.heap [] := va_S.rf
  obtain ⟨H, hH, hP, hS⟩ : ∃ H : Heap, s.heap = H ∧ va_P D vwCl (W0 o cI co ro tw op ch sm nx bf od st ow) H ∧ va_S (wA (W0 o cI co ro tw op ch sm nx bf od st ow)) s.heap H [] := ⟨_, rfl, hP, hS⟩
  rw [hH]
  have hl := lv_entry ([.ref (o 0)]) (n := 1) (Nat.le_of_ble_eq_true rfl)
  rw [lg_entry_eq]
  generalize (lg_sl ([.ref (o 0)]) ++ List.replicate (1 - (lg_sl ([.ref (o 0)])).length) Slot.unset).toArray = ls at hl ⊢
  have hl : lv_has ls 1 [(0, .ref (o 0))] := hl
  refine lv_aload_n hx hb dX0_forgetChains_0 rfl (lv_at hl 0 rfl) ?_
  refine lv_iconst (v := 0) hx hb dX0_forgetChains_1 (by decide) ?_
  refine va_put (D := D) (ci := 0) (v := .int 0) (ty := .int) (C := RX0) (T := TX0) (N := 11) hx hb hts hin0 tyX0 tyX0_ok nmX0 hown hK hP hD hS 0 rfl rfl 10 (by decide) (hts (.fieldLink RX0 41 "HeightLines" "chains" "I") (by decide +kernel)) (fun _ h9 => h9) rfl (by decide +kernel) rfl rfl (Nat.le_of_ble_eq_true rfl) dX0_forgetChains_2 (fun H locs hP hD hS => ?_)
  have hP : va_P D vwCl (W0 o cI co ro tw op 0 sm nx bf od st ow) H := hP
  have hD : va_D (wA (W0 o cI co ro tw op ch sm nx bf od st ow)) (W0 o cI co ro tw op 0 sm nx bf od st ow) := hD
  refine lv_aload_n hx hb dX0_forgetChains_5 rfl (lv_at hl 0 rfl) ?_
  refine lv_iconst (v := 0) hx hb dX0_forgetChains_6 (by decide) ?_
  refine va_put (D := D) (ci := 0) (v := .int 0) (ty := .int) (C := RX0) (T := TX0) (N := 11) hx hb hts hin0 tyX0 tyX0_ok nmX0 hown hK hP hD hS 0 rfl rfl 9 (by decide) (hts (.fieldLink RX0 38 "HeightLines" "openChains" "I") (by decide +kernel)) (fun _ h9 => h9) rfl (by decide +kernel) rfl rfl (Nat.le_of_ble_eq_true rfl) dX0_forgetChains_7 (fun H locs hP hD hS => ?_)
  have hP : va_P D vwCl (W0 o cI co ro tw 0 0 sm nx bf od st ow) H := hP
  have hD : va_D (wA (W0 o cI co ro tw op ch sm nx bf od st ow)) (W0 o cI co ro tw 0 0 sm nx bf od st ow) := hD
  refine lv_aload_n hx hb dX0_forgetChains_10 rfl (lv_at hl 0 rfl) ?_
  refine va_get (D := D) (ci := 0) (v := .ref (o 6)) (C := RX0) (T := TX0) (N := 11) hx hb hts hin0 hown hK hP 0 rfl rfl 8 (by decide) (hts (.fieldLink RX0 35 "HeightLines" "owner" "[I") (by decide +kernel)) (fun _ h9 => h9) rfl dX0_forgetChains_11 ?_
  refine lv_iconst (v := (-1)) hx hb dX0_forgetChains_14 (by decide) ?_
  have hPf := hP.sub (ws' := [(o 6, .inl (cI, 264, .inl ow))]) [6] rfl
  have hDf := hD.sub (ws' := [(o 6, .inl (cI, 264, .inl ow))]) [6] (by decide) rfl
  refine wv_S (wr := (W0 o cI co ro tw 0 0 sm nx bf od st ow).eraseIdx 6) (As := [.ref (o 6), .int (-1)]) (rest := []) ⟨hx, hb, hml, hown, hts⟩ (c_fill l D cI (o 6) 264 ow (-1) (by decide)) (va_cwS 2 hts gX0_forgetChains_J7_fill_53178 rfl rfl rfl (by decide +kernel) ⟨Nat.le_of_ble_eq_true rfl, Nat.le_of_ble_eq_true rfl⟩) hPf hDf hK hP hD hS [6] [0, 1, 2, 3, 4, 5] rfl rfl rfl (by decide) rfl hl.1 rfl (lv_room (Nat.le_of_ble_eq_true rfl)) dX0_forgetChains_15 ⟨Nat.le_of_ble_eq_true rfl, Nat.le_of_ble_eq_true rfl⟩ (fun H locs hP hD hS => ?_)
  have hP : va_P D vwCl (W0 o cI co ro tw 0 0 sm nx bf od st (filF 264 (-1) ow)) H := hP.sub [0, 1, 2, 3, 4, 5, 6] rfl
  have hD : va_D (wA (W0 o cI co ro tw op ch sm nx bf od st ow)) (W0 o cI co ro tw 0 0 sm nx bf od st (filF 264 (-1) ow)) := hD.sub [0, 1, 2, 3, 4, 5, 6] (by decide) rfl
  exact W.vret hx hb hr (fun t ht hW => ⟨⟨(), rfl, trivial, by rw [ht]; exact hP, va_K.moved hW.alike hK, hD⟩, hS.F ht⟩) hS.2.2 dX0_forgetChains_18

set_option maxHeartbeats 4000000 in
set_option maxRecDepth 100000 in
theorem c_X0_height (l : Launch) (D : va_G) (o : Nat → Nat) (cI : ClassId) (co ro tw op ch : Int32) (sm nx bf od st ow : Nat → Int32) (t : Int32) : wiMet l yX0_height wsX0_height ({ frames := 0, cells := 0, slots := 0, locals := 0 } : Room) D (W0 o cI co ro tw op ch sm nx bf od st ow) (W0 o cI co ro (cond (okT t) t tw) op ch sm nx bf od st ow) [(cI, .int)] [.ref (o 0), .int t] (bI (okT t)) := by
  refine Met.ofW (cc := cX0_height) (maxL := 3) (ret := (some .boolean)) (by decide) rfl ?_
  intro p e s m args below meth c s₁ B hml hv
  obtain ⟨rfl, hP, hK, hD0⟩ := hv
  have hx := B.exec
  have hb := B.bytes
  have hr := B.returns
  have hts := atoms_spec (ws := wsX0_height) B.pre
  have hown : s.vm.findClass RX0 = some m.cls := findClass_of_methodNamed B.named
  have hlocks := B.notSynchronized
  have hin0 : ∀ w ∈ u_ws RX0 TX0 11, w ∈ wsX0_height := by decide +kernel
  have hD := wA_D hD0
  have hS : va_S (wA (W0 o cI co ro tw op ch sm nx bf od st ow)) s.heap s.heap [] := va_S.rf
  obtain ⟨H, hH, hP, hS⟩ : ∃ H : Heap, s.heap = H ∧ va_P D vwCl (W0 o cI co ro tw op ch sm nx bf od st ow) H ∧ va_S (wA (W0 o cI co ro tw op ch sm nx bf od st ow)) s.heap H [] := ⟨_, rfl, hP, hS⟩
  rw [hH]
  have hl := lv_entry ([.ref (o 0), .int t]) (n := 3) (Nat.le_of_ble_eq_true rfl)
  rw [lg_entry_eq]
  generalize (lg_sl ([.ref (o 0), .int t]) ++ List.replicate (3 - (lg_sl ([.ref (o 0), .int t])).length) Slot.unset).toArray = ls at hl ⊢
  have hl : lv_has ls 3 [(0, .ref (o 0)), (1, .int t)] := hl
  refine lv_iload_n hx hb dX0_height_0 rfl (lv_at hl 1 rfl) ?_
  refine lv_iconst (v := 1) hx hb dX0_height_1 (by decide) ?_
  refine lv_iand hx hb dX0_height_2 ?_
  refine lv_iconst (v := 1) hx hb dX0_height_3 (by decide) ?_
  refine lv_icmp_ne (tgt := 11) hx hb dX0_height_4 (by decide) (fun c4 => ?_) (fun c4 => ?_)
  · refine lv_iconst (v := 0) hx hb dX0_height_11 (by decide) ?_
    refine lv_istore_n (lv' := [(2, .int 0), (0, .ref (o 0)), (1, .int t)]) hx hb dX0_height_12 rfl hl (by decide) rfl (fun ls hl => ?_)
    refine lv_iload_n hx hb dX0_height_13 rfl (lv_at hl 0 rfl) ?_
    refine lv_if_eq (tgt := 29) hx hb dX0_height_14 (by decide) (fun c14 => ?_) (fun c14 => ?_)
    · refine lv_iconst (v := 0) hx hb dX0_height_29 (by decide) ?_
      have hok : okT t = false := bf_of okT_ok (fun z => c4 z.1)
      have hP : va_P D vwCl (W0 o cI co ro (cond (okT t) t tw) op ch sm nx bf od st ow) H := by rw [hok]; exact hP
      have hD : va_D (wA (W0 o cI co ro tw op ch sm nx bf od st ow)) (W0 o cI co ro (cond (okT t) t tw) op ch sm nx bf od st ow) := by rw [hok]; exact hD
      exact W.zret (v := 0) (ty := .boolean) hx hb hr rfl (fun t ht hW => ⟨⟨_, (), rfl, by rw [hok]; rfl, by rw [ht]; exact hP, va_K.moved hW.alike hK, hD⟩, hS.F ht⟩) hS.2.2 dX0_height_30
    · exact absurd c14 (by decide)
  · refine lv_iconst (v := 1) hx hb dX0_height_7 (by decide) ?_
    refine lv_goto (tgt := 12) hx hb dX0_height_8 (by decide) ?_
    refine lv_istore_n (lv' := [(2, .int 1), (0, .ref (o 0)), (1, .int t)]) hx hb dX0_height_12 rfl hl (by decide) rfl (fun ls hl => ?_)
    refine lv_iload_n hx hb dX0_height_13 rfl (lv_at hl 0 rfl) ?_
    refine lv_if_eq (tgt := 29) hx hb dX0_height_14 (by decide) (fun c14 => ?_) (fun c14 => ?_)
    · exact absurd c14 (by decide)
    · refine lv_iload_n hx hb dX0_height_17 rfl (lv_at hl 2 rfl) ?_
      refine lv_ldc (v := (-1999999)) hx hb hown (hts (.constant RX0 68 (-1999999)) (by decide +kernel)) dX0_height_18 ?_
      refine lv_icmp_lt (tgt := 29) hx hb dX0_height_20 (by decide) (fun c20 => ?_) (fun c20 => ?_)
      · refine lv_iconst (v := 0) hx hb dX0_height_29 (by decide) ?_
        have hok : okT t = false := bf_of okT_ok (fun z => absurd z.2.1 (Int32.not_le.mpr c20))
        have hP : va_P D vwCl (W0 o cI co ro (cond (okT t) t tw) op ch sm nx bf od st ow) H := by rw [hok]; exact hP
        have hD : va_D (wA (W0 o cI co ro tw op ch sm nx bf od st ow)) (W0 o cI co ro (cond (okT t) t tw) op ch sm nx bf od st ow) := by rw [hok]; exact hD
        exact W.zret (v := 0) (ty := .boolean) hx hb hr rfl (fun t ht hW => ⟨⟨_, (), rfl, by rw [hok]; rfl, by rw [ht]; exact hP, va_K.moved hW.alike hK, hD⟩, hS.F ht⟩) hS.2.2 dX0_height_30
      · refine lv_iload_n hx hb dX0_height_23 rfl (lv_at hl 2 rfl) ?_
        refine lv_ldc (v := 1999999) hx hb hown (hts (.constant RX0 69 (1999999)) (by decide +kernel)) dX0_height_24 ?_
        refine lv_icmp_le (tgt := 31) hx hb dX0_height_26 (by decide) (fun c26 => ?_) (fun c26 => ?_)
        · refine lv_aload_n hx hb dX0_height_31 rfl (lv_at hl 1 rfl) ?_
          refine lv_iload_n hx hb dX0_height_32 rfl (lv_at hl 2 rfl) ?_
          refine va_put (D := D) (ci := 0) (v := .int t) (ty := .int) (C := RX0) (T := TX0) (N := 11) hx hb hts hin0 tyX0 tyX0_ok nmX0 hown hK hP hD hS 0 rfl rfl 2 (by decide) (hts (.fieldLink RX0 16 "HeightLines" "twiceHeight" "I") (by decide +kernel)) (fun _ h9 => h9) rfl (by decide +kernel) rfl rfl (Nat.le_of_ble_eq_true rfl) dX0_height_33 (fun H locs hP hD hS => ?_)
          have hP : va_P D vwCl (W0 o cI co ro t op ch sm nx bf od st ow) H := hP
          have hD : va_D (wA (W0 o cI co ro tw op ch sm nx bf od st ow)) (W0 o cI co ro t op ch sm nx bf od st ow) := hD
          refine lv_iconst (v := 1) hx hb dX0_height_36 (by decide) ?_
          have hok : okT t = true := okT_ok.mpr ⟨by simpa using c4, Int32.not_lt.mp c20, c26⟩
          have hP : va_P D vwCl (W0 o cI co ro (cond (okT t) t tw) op ch sm nx bf od st ow) H := by rw [hok]; exact hP
          have hD : va_D (wA (W0 o cI co ro tw op ch sm nx bf od st ow)) (W0 o cI co ro (cond (okT t) t tw) op ch sm nx bf od st ow) := by rw [hok]; exact hD
          exact W.zret (v := 1) (ty := .boolean) hx hb hr rfl (fun t ht hW => ⟨⟨_, (), rfl, by rw [hok]; rfl, by rw [ht]; exact hP, va_K.moved hW.alike hK, hD⟩, hS.F ht⟩) hS.2.2 dX0_height_37
        · refine lv_iconst (v := 0) hx hb dX0_height_29 (by decide) ?_
          have hok : okT t = false := bf_of okT_ok (fun z => c26 z.2.2)
          have hP : va_P D vwCl (W0 o cI co ro (cond (okT t) t tw) op ch sm nx bf od st ow) H := by rw [hok]; exact hP
          have hD : va_D (wA (W0 o cI co ro tw op ch sm nx bf od st ow)) (W0 o cI co ro (cond (okT t) t tw) op ch sm nx bf od st ow) := by rw [hok]; exact hD
          exact W.zret (v := 0) (ty := .boolean) hx hb hr rfl (fun t ht hW => ⟨⟨_, (), rfl, by rw [hok]; rfl, by rw [ht]; exact hP, va_K.moved hW.alike hK, hD⟩, hS.F ht⟩) hS.2.2 dX0_height_30

set_option maxHeartbeats 4000000 in
set_option maxRecDepth 100000 in
theorem c_X0_field (l : Launch) (D : va_G) (o : Nat → Nat) (cI : ClassId) (co ro tw op ch : Int32) (sm nx bf od st ow : Nat → Int32) (a : Int32) (b : Int32) : wiMet l yX0_field wsX0_field ({ frames := 2, cells := 0, slots := 0, locals := 43 } : Room) D (W0 o cI co ro tw op ch sm nx bf od st ow) (W0 o cI (cond (okF a b) a co) (cond (okF a b) b ro) tw (cond (okF a b) 0 op) (cond (okF a b) 0 ch) (cond (okF a b) (filF 144 0 sm) sm) nx bf od st (cond (okF a b) (filF 264 (-1) ow) ow)) [(cI, .int)] [.ref (o 0), .int a, .int b] (bI (okF a b)) := by
  refine Met.ofW (cc := cX0_field) (maxL := 3) (ret := (some .boolean)) (by decide) rfl ?_
  intro p e s m args below meth c s₁ B hml hv
  obtain ⟨rfl, hP, hK, hD0⟩ := hv
  have hx := B.exec
  have hb := B.bytes
  have hr := B.returns
  have hts := atoms_spec (ws := wsX0_field) B.pre
  have hown : s.vm.findClass RX0 = some m.cls := findClass_of_methodNamed B.named
  have hlocks := B.notSynchronized
  have hin0 : ∀ w ∈ u_ws RX0 TX0 11, w ∈ wsX0_field := by decide +kernel
  have hD := wA_D hD0
  have hS : va_S (wA (W0 o cI co ro tw op ch sm nx bf od st ow)) s.heap s.heap [] := va_S.rf
  obtain ⟨H, hH, hP, hS⟩ : ∃ H : Heap, s.heap = H ∧ va_P D vwCl (W0 o cI co ro tw op ch sm nx bf od st ow) H ∧ va_S (wA (W0 o cI co ro tw op ch sm nx bf od st ow)) s.heap H [] := ⟨_, rfl, hP, hS⟩
  rw [hH]
  have hl := lv_entry ([.ref (o 0), .int a, .int b]) (n := 3) (Nat.le_of_ble_eq_true rfl)
  rw [lg_entry_eq]
  generalize (lg_sl ([.ref (o 0), .int a, .int b]) ++ List.replicate (3 - (lg_sl ([.ref (o 0), .int a, .int b])).length) Slot.unset).toArray = ls at hl ⊢
  have hl : lv_has ls 3 [(0, .ref (o 0)), (1, .int a), (2, .int b)] := hl
  refine lv_iload_n hx hb dX0_field_0 rfl (lv_at hl 1 rfl) ?_
  refine ro_S1 ⟨hx, hb, hml, hown, hts⟩ (c_X0_isSide l D a) (va_cwS 1 hts gX0_field_X0_isSide rfl rfl rfl (by decide +kernel) ⟨Nat.le_of_ble_eq_true rfl, Nat.le_of_ble_eq_true rfl⟩) (va_P0 D vwCl _) (hK.sub [] rfl) hP hS rfl hl.1 (lv_room (Nat.le_of_ble_eq_true rfl)) dX0_field_1 ⟨Nat.le_of_ble_eq_true rfl, Nat.le_of_ble_eq_true rfl⟩ (fun r1 H locs hr1 hP hS => ?_)
  subst hr1
  refine lv_if_eq (tgt := 14) hx hb dX0_field_4 (by decide) (fun c4 => ?_) (fun c4 => ?_)
  · refine lv_iconst (v := 0) hx hb dX0_field_14 (by decide) ?_
    have hok : okF a b = false := bf_of okF_ok (fun z => by have := bI_0.mp c4; simp [z.1.1, z.1.2] at this)
    have hP : va_P D vwCl (W0 o cI (cond (okF a b) a co) (cond (okF a b) b ro) tw (cond (okF a b) 0 op) (cond (okF a b) 0 ch) (cond (okF a b) (filF 144 0 sm) sm) nx bf od st (cond (okF a b) (filF 264 (-1) ow) ow)) H := by rw [hok]; exact hP
    have hD : va_D (wA (W0 o cI co ro tw op ch sm nx bf od st ow)) (W0 o cI (cond (okF a b) a co) (cond (okF a b) b ro) tw (cond (okF a b) 0 op) (cond (okF a b) 0 ch) (cond (okF a b) (filF 144 0 sm) sm) nx bf od st (cond (okF a b) (filF 264 (-1) ow) ow)) := by rw [hok]; exact hD
    exact W.zret (v := 0) (ty := .boolean) hx hb hr rfl (fun t ht hW => ⟨⟨_, (), rfl, by rw [hok]; rfl, by rw [ht]; exact hP, va_K.moved hW.alike hK, hD⟩, hS.F ht⟩) hS.2.2 dX0_field_15
  · refine lv_iload_n hx hb dX0_field_7 rfl (lv_at hl 2 rfl) ?_
    refine ro_S1 ⟨hx, hb, hml, hown, hts⟩ (c_X0_isSide l D b) (va_cwS 1 hts gX0_field_X0_isSide rfl rfl rfl (by decide +kernel) ⟨Nat.le_of_ble_eq_true rfl, Nat.le_of_ble_eq_true rfl⟩) (va_P0 D vwCl _) (hK.sub [] rfl) hP hS rfl hl.1 (lv_room (Nat.le_of_ble_eq_true rfl)) dX0_field_8 ⟨Nat.le_of_ble_eq_true rfl, Nat.le_of_ble_eq_true rfl⟩ (fun r8 H locs hr8 hP hS => ?_)
    subst hr8
    refine lv_if_ne (tgt := 16) hx hb dX0_field_11 (by decide) (fun c11 => ?_) (fun c11 => ?_)
    · refine lv_aload_n hx hb dX0_field_16 rfl (lv_at hl 0 rfl) ?_
      refine lv_iload_n hx hb dX0_field_17 rfl (lv_at hl 1 rfl) ?_
      refine va_put (D := D) (ci := 0) (v := .int a) (ty := .int) (C := RX0) (T := TX0) (N := 11) hx hb hts hin0 tyX0 tyX0_ok nmX0 hown hK hP hD hS 0 rfl rfl 0 (by decide) (hts (.fieldLink RX0 9 "HeightLines" "columns" "I") (by decide +kernel)) (fun _ h9 => h9) rfl (by decide +kernel) rfl rfl (Nat.le_of_ble_eq_true rfl) dX0_field_18 (fun H locs hP hD hS => ?_)
      have hP : va_P D vwCl (W0 o cI a ro tw op ch sm nx bf od st ow) H := hP
      have hD : va_D (wA (W0 o cI co ro tw op ch sm nx bf od st ow)) (W0 o cI a ro tw op ch sm nx bf od st ow) := hD
      refine lv_aload_n hx hb dX0_field_21 rfl (lv_at hl 0 rfl) ?_
      refine lv_iload_n hx hb dX0_field_22 rfl (lv_at hl 2 rfl) ?_
      refine va_put (D := D) (ci := 0) (v := .int b) (ty := .int) (C := RX0) (T := TX0) (N := 11) hx hb hts hin0 tyX0 tyX0_ok nmX0 hown hK hP hD hS 0 rfl rfl 1 (by decide) (hts (.fieldLink RX0 13 "HeightLines" "rows" "I") (by decide +kernel)) (fun _ h9 => h9) rfl (by decide +kernel) rfl rfl (Nat.le_of_ble_eq_true rfl) dX0_field_23 (fun H locs hP hD hS => ?_)
      have hP : va_P D vwCl (W0 o cI a b tw op ch sm nx bf od st ow) H := hP
      have hD : va_D (wA (W0 o cI co ro tw op ch sm nx bf od st ow)) (W0 o cI a b tw op ch sm nx bf od st ow) := hD
      refine lv_aload_n hx hb dX0_field_26 rfl (lv_at hl 0 rfl) ?_
      refine va_get (D := D) (ci := 0) (v := .ref (o 1)) (C := RX0) (T := TX0) (N := 11) hx hb hts hin0 hown hK hP 0 rfl rfl 3 (by decide) (hts (.fieldLink RX0 19 "HeightLines" "samples" "[I") (by decide +kernel)) (fun _ h9 => h9) rfl dX0_field_27 ?_
      refine lv_iconst (v := 0) hx hb dX0_field_30 (by decide) ?_
      have hPf := hP.sub (ws' := [(o 1, .inl (cI, 144, .inl sm))]) [1] rfl
      have hDf := hD.sub (ws' := [(o 1, .inl (cI, 144, .inl sm))]) [1] (by decide) rfl
      refine wv_S (wr := (W0 o cI a b tw op ch sm nx bf od st ow).eraseIdx 1) (As := [.ref (o 1), .int 0]) (rest := []) ⟨hx, hb, hml, hown, hts⟩ (c_fill l D cI (o 1) 144 sm 0 (by decide)) (va_cwS 2 hts gX0_field_J7_fill_53178 rfl rfl rfl (by decide +kernel) ⟨Nat.le_of_ble_eq_true rfl, Nat.le_of_ble_eq_true rfl⟩) hPf hDf hK hP hD hS [1] [0, 2, 3, 4, 5, 6] rfl rfl rfl (by decide) rfl hl.1 rfl (lv_room (Nat.le_of_ble_eq_true rfl)) dX0_field_31 ⟨Nat.le_of_ble_eq_true rfl, Nat.le_of_ble_eq_true rfl⟩ (fun H locs hP hD hS => ?_)
      have hP : va_P D vwCl (W0 o cI a b tw op ch (filF 144 0 sm) nx bf od st ow) H := hP.sub [0, 6, 1, 2, 3, 4, 5] rfl
      have hD : va_D (wA (W0 o cI co ro tw op ch sm nx bf od st ow)) (W0 o cI a b tw op ch (filF 144 0 sm) nx bf od st ow) := hD.sub [0, 6, 1, 2, 3, 4, 5] (by decide) rfl
      refine lv_aload_n hx hb dX0_field_34 rfl (lv_at hl 0 rfl) ?_
      refine wv_V (wr := []) (As := []) (rest := []) ⟨hx, hb, hml, hown, hts⟩ (c_X0_forgetChains l D o cI a b tw op ch (filF 144 0 sm) nx bf od st ow) (cwV 0 hts gX0_field_X0_forgetChains rfl rfl rfl (by decide +kernel) ⟨Nat.le_of_ble_eq_true rfl, Nat.le_of_ble_eq_true rfl⟩) (va_recv hK hP (ci := 0) (q0 := 0) rfl rfl) hP hD hK hP hD hS [0, 1, 2, 3, 4, 5, 6] [] rfl rfl rfl (by decide) rfl hl.1 rfl (lv_room (Nat.le_of_ble_eq_true rfl)) dX0_field_35 ⟨Nat.le_of_ble_eq_true rfl, Nat.le_of_ble_eq_true rfl⟩ (fun H locs hP hD hS => ?_)
      have hP : va_P D vwCl (W0 o cI a b tw 0 0 (filF 144 0 sm) nx bf od st (filF 264 (-1) ow)) H := hP
      have hD : va_D (wA (W0 o cI co ro tw op ch sm nx bf od st ow)) (W0 o cI a b tw 0 0 (filF 144 0 sm) nx bf od st (filF 264 (-1) ow)) := hD
      refine lv_iconst (v := 1) hx hb dX0_field_38 (by decide) ?_
      have hok : okF a b = true := by unfold okF; rw [bI_n0.mp c4, bI_n0.mp c11]; rfl
      have hP : va_P D vwCl (W0 o cI (cond (okF a b) a co) (cond (okF a b) b ro) tw (cond (okF a b) 0 op) (cond (okF a b) 0 ch) (cond (okF a b) (filF 144 0 sm) sm) nx bf od st (cond (okF a b) (filF 264 (-1) ow) ow)) H := by rw [hok]; exact hP
      have hD : va_D (wA (W0 o cI co ro tw op ch sm nx bf od st ow)) (W0 o cI (cond (okF a b) a co) (cond (okF a b) b ro) tw (cond (okF a b) 0 op) (cond (okF a b) 0 ch) (cond (okF a b) (filF 144 0 sm) sm) nx bf od st (cond (okF a b) (filF 264 (-1) ow) ow)) := by rw [hok]; exact hD
      exact W.zret (v := 1) (ty := .boolean) hx hb hr rfl (fun t ht hW => ⟨⟨_, (), rfl, by rw [hok]; rfl, by rw [ht]; exact hP, va_K.moved hW.alike hK, hD⟩, hS.F ht⟩) hS.2.2 dX0_field_39
    · refine lv_iconst (v := 0) hx hb dX0_field_14 (by decide) ?_
      have hok : okF a b = false := bf_of okF_ok (fun z => by have := bI_0.mp c11; simp [z.2.1, z.2.2] at this)
      have hP : va_P D vwCl (W0 o cI (cond (okF a b) a co) (cond (okF a b) b ro) tw (cond (okF a b) 0 op) (cond (okF a b) 0 ch) (cond (okF a b) (filF 144 0 sm) sm) nx bf od st (cond (okF a b) (filF 264 (-1) ow) ow)) H := by rw [hok]; exact hP
      have hD : va_D (wA (W0 o cI co ro tw op ch sm nx bf od st ow)) (W0 o cI (cond (okF a b) a co) (cond (okF a b) b ro) tw (cond (okF a b) 0 op) (cond (okF a b) 0 ch) (cond (okF a b) (filF 144 0 sm) sm) nx bf od st (cond (okF a b) (filF 264 (-1) ow) ow)) := by rw [hok]; exact hD
      exact W.zret (v := 0) (ty := .boolean) hx hb hr rfl (fun t ht hW => ⟨⟨_, (), rfl, by rw [hok]; rfl, by rw [ht]; exact hP, va_K.moved hW.alike hK, hD⟩, hS.F ht⟩) hS.2.2 dX0_field_15

set_option maxHeartbeats 4000000 in
set_option maxRecDepth 100000 in
theorem c_X0_set (l : Launch) (D : va_G) (o : Nat → Nat) (cI : ClassId) (tw op ch : Int32) (sm nx bf od st ow : Nat → Int32) (w : Nat) (h : Nat) (a : Int32) (b : Int32) (v : Int32) (gw2 : w ≤ 12) (gh2 : h ≤ 12) : wiMet l yX0_set wsX0_set ({ frames := 2, cells := 0, slots := 0, locals := 44 } : Room) D (W0 o cI (nI w) (nI h) tw op ch sm nx bf od st ow) (W0 o cI (nI w) (nI h) tw op ch (cond (okS w h a b v) (upd sm (b.toNatClampNeg * w + a.toNatClampNeg) v) sm) nx bf od st ow) [(cI, .int)] [.ref (o 0), .int a, .int b, .int v] (bI (okS w h a b v)) := by
  refine Met.ofW (cc := cX0_set) (maxL := 4) (ret := (some .boolean)) (by decide) rfl ?_
  intro p e s m args below meth c s₁ B hml hv
  obtain ⟨rfl, hP, hK, hD0⟩ := hv
  have hx := B.exec
  have hb := B.bytes
  have hr := B.returns
  have hts := atoms_spec (ws := wsX0_set) B.pre
  have hown : s.vm.findClass RX0 = some m.cls := findClass_of_methodNamed B.named
  have hlocks := B.notSynchronized
  have hin0 : ∀ w ∈ u_ws RX0 TX0 11, w ∈ wsX0_set := by decide +kernel
  have hD := wA_D hD0
  have hS : va_S (wA (W0 o cI (nI w) (nI h) tw op ch sm nx bf od st ow)) s.heap s.heap [] := va_S.rf
  obtain ⟨H, hH, hP, hS⟩ : ∃ H : Heap, s.heap = H ∧ va_P D vwCl (W0 o cI (nI w) (nI h) tw op ch sm nx bf od st ow) H ∧ va_S (wA (W0 o cI (nI w) (nI h) tw op ch sm nx bf od st ow)) s.heap H [] := ⟨_, rfl, hP, hS⟩
  rw [hH]
  have hl := lv_entry ([.ref (o 0), .int a, .int b, .int v]) (n := 4) (Nat.le_of_ble_eq_true rfl)
  rw [lg_entry_eq]
  generalize (lg_sl ([.ref (o 0), .int a, .int b, .int v]) ++ List.replicate (4 - (lg_sl ([.ref (o 0), .int a, .int b, .int v])).length) Slot.unset).toArray = ls at hl ⊢
  have hl : lv_has ls 4 [(0, .ref (o 0)), (1, .int a), (2, .int b), (3, .int v)] := hl
  refine lv_iload_n hx hb dX0_set_0 rfl (lv_at hl 1 rfl) ?_
  refine lv_if_lt (tgt := 29) hx hb dX0_set_1 (by decide) (fun c1 => ?_) (fun c1 => ?_)
  · refine lv_iconst (v := 0) hx hb dX0_set_29 (by decide) ?_
    have hok : okS w h a b v = false := by unfold okS; simp [Int32.not_le.mpr c1]
    have hP : va_P D vwCl (W0 o cI (nI w) (nI h) tw op ch (cond (okS w h a b v) (upd sm (b.toNatClampNeg * w + a.toNatClampNeg) v) sm) nx bf od st ow) H := by rw [hok]; exact hP
    have hD : va_D (wA (W0 o cI (nI w) (nI h) tw op ch sm nx bf od st ow)) (W0 o cI (nI w) (nI h) tw op ch (cond (okS w h a b v) (upd sm (b.toNatClampNeg * w + a.toNatClampNeg) v) sm) nx bf od st ow) := by rw [hok]; exact hD
    exact W.zret (v := 0) (ty := .boolean) hx hb hr rfl (fun t ht hW => ⟨⟨_, (), rfl, by rw [hok]; rfl, by rw [ht]; exact hP, va_K.moved hW.alike hK, hD⟩, hS.F ht⟩) hS.2.2 dX0_set_30
  · refine lv_iload_n hx hb dX0_set_4 rfl (lv_at hl 1 rfl) ?_
    refine lv_aload_n hx hb dX0_set_5 rfl (lv_at hl 0 rfl) ?_
    refine va_get (D := D) (ci := 0) (v := .int (nI w)) (C := RX0) (T := TX0) (N := 11) hx hb hts hin0 hown hK hP 0 rfl rfl 0 (by decide) (hts (.fieldLink RX0 9 "HeightLines" "columns" "I") (by decide +kernel)) (fun _ h9 => h9) rfl dX0_set_6 ?_
    refine lv_icmp_ge (tgt := 29) hx hb dX0_set_9 (by decide) (fun c9 => ?_) (fun c9 => ?_)
    · refine lv_iconst (v := 0) hx hb dX0_set_29 (by decide) ?_
      have hok : okS w h a b v = false := by unfold okS; simp [Int32.not_lt.mpr c9]
      have hP : va_P D vwCl (W0 o cI (nI w) (nI h) tw op ch (cond (okS w h a b v) (upd sm (b.toNatClampNeg * w + a.toNatClampNeg) v) sm) nx bf od st ow) H := by rw [hok]; exact hP
      have hD : va_D (wA (W0 o cI (nI w) (nI h) tw op ch sm nx bf od st ow)) (W0 o cI (nI w) (nI h) tw op ch (cond (okS w h a b v) (upd sm (b.toNatClampNeg * w + a.toNatClampNeg) v) sm) nx bf od st ow) := by rw [hok]; exact hD
      exact W.zret (v := 0) (ty := .boolean) hx hb hr rfl (fun t ht hW => ⟨⟨_, (), rfl, by rw [hok]; rfl, by rw [ht]; exact hP, va_K.moved hW.alike hK, hD⟩, hS.F ht⟩) hS.2.2 dX0_set_30
    · refine lv_aload_n hx hb dX0_set_12 rfl (lv_at hl 0 rfl) ?_
      refine lv_iload_n hx hb dX0_set_13 rfl (lv_at hl 2 rfl) ?_
      refine ro_V1 ⟨hx, hb, hml, hown, hts⟩ (c_X0_hasRow l D o cI (nI w) (nI h) tw op ch sm nx bf od st ow b) (cwV 1 hts gX0_set_X0_hasRow rfl rfl rfl (by decide +kernel) ⟨Nat.le_of_ble_eq_true rfl, Nat.le_of_ble_eq_true rfl⟩) (va_recv hK hP (ci := 0) (q0 := 0) rfl rfl) hP hK hP hS rfl hl.1 (lv_room (Nat.le_of_ble_eq_true rfl)) dX0_set_14 ⟨Nat.le_of_ble_eq_true rfl, Nat.le_of_ble_eq_true rfl⟩ (fun r14 H locs hr14 hP hS => ?_)
      subst hr14
      refine lv_if_eq (tgt := 29) hx hb dX0_set_17 (by decide) (fun c17 => ?_) (fun c17 => ?_)
      · refine lv_iconst (v := 0) hx hb dX0_set_29 (by decide) ?_
        have hok : okS w h a b v = false := by unfold okS; rw [show okY h b = false from bI_0.mp c17]; simp
        have hP : va_P D vwCl (W0 o cI (nI w) (nI h) tw op ch (cond (okS w h a b v) (upd sm (b.toNatClampNeg * w + a.toNatClampNeg) v) sm) nx bf od st ow) H := by rw [hok]; exact hP
        have hD : va_D (wA (W0 o cI (nI w) (nI h) tw op ch sm nx bf od st ow)) (W0 o cI (nI w) (nI h) tw op ch (cond (okS w h a b v) (upd sm (b.toNatClampNeg * w + a.toNatClampNeg) v) sm) nx bf od st ow) := by rw [hok]; exact hD
        exact W.zret (v := 0) (ty := .boolean) hx hb hr rfl (fun t ht hW => ⟨⟨_, (), rfl, by rw [hok]; rfl, by rw [ht]; exact hP, va_K.moved hW.alike hK, hD⟩, hS.F ht⟩) hS.2.2 dX0_set_30
      · refine lv_iload_n hx hb dX0_set_20 rfl (lv_at hl 3 rfl) ?_
        refine lv_iload_n hx hb dX0_set_21 rfl (lv_at hl 3 rfl) ?_
        refine lv_i2l hx hb dX0_set_22 rfl ?_
        refine ro_S1 ⟨hx, hb, hml, hown, hts⟩ (c_X0_heldToBounds l D v.toInt64) (va_cwS 1 hts gX0_set_X0_heldToBounds rfl rfl rfl (by decide +kernel) ⟨Nat.le_of_ble_eq_true rfl, Nat.le_of_ble_eq_true rfl⟩) (va_P0 D vwCl _) (hK.sub [] rfl) hP hS rfl hl.1 (lv_room (Nat.le_of_ble_eq_true rfl)) dX0_set_23 ⟨Nat.le_of_ble_eq_true rfl, Nat.le_of_ble_eq_true rfl⟩ (fun r23 H locs hr23 hP hS => ?_)
        subst hr23
        refine lv_icmp_eq (tgt := 31) hx hb dX0_set_26 (by decide) (fun c26 => ?_) (fun c26 => ?_)
        · obtain ⟨x, hx9, ea⟩ : ∃ j, j < w ∧ a = nI j := okY_n (h := w) (by unfold okY; rw [decide_eq_true (Int32.not_lt.mp c1), decide_eq_true (Int32.not_le.mp c9)]; rfl) (by omega)
          obtain ⟨y, hy9, eb⟩ : ∃ j, j < h ∧ b = nI j := okY_n (h := h) (bI_n0.mp c17) (by omega)
          have ha9 : a.toNatClampNeg = x := by rw [ea, nI_clamp (by omega)]
          have hb9 : b.toNatClampNeg = y := by rw [eb, nI_clamp (by omega)]
          have c1 := c1
          have c9 := c9
          rw [ea, eb] at hl
          refine lv_aload_n hx hb dX0_set_31 rfl (lv_at hl 0 rfl) ?_
          refine va_get (D := D) (ci := 0) (v := .ref (o 1)) (C := RX0) (T := TX0) (N := 11) hx hb hts hin0 hown hK hP 0 rfl rfl 3 (by decide) (hts (.fieldLink RX0 19 "HeightLines" "samples" "[I") (by decide +kernel)) (fun _ h9 => h9) rfl dX0_set_32 ?_
          refine lv_aload_n hx hb dX0_set_35 rfl (lv_at hl 0 rfl) ?_
          refine lv_iload_n hx hb dX0_set_36 rfl (lv_at hl 1 rfl) ?_
          refine lv_iload_n hx hb dX0_set_37 rfl (lv_at hl 2 rfl) ?_
          refine ro_V2 ⟨hx, hb, hml, hown, hts⟩ (c_X0_sampleAt l D o cI (nI h) tw op ch sm nx bf od st ow w x y) (cwV 2 hts gX0_set_X0_sampleAt rfl rfl rfl (by decide +kernel) ⟨Nat.le_of_ble_eq_true rfl, Nat.le_of_ble_eq_true rfl⟩) (va_recv hK hP (ci := 0) (q0 := 0) rfl rfl) hP hK hP hS rfl hl.1 (lv_room (Nat.le_of_ble_eq_true rfl)) dX0_set_38 ⟨Nat.le_of_ble_eq_true rfl, Nat.le_of_ble_eq_true rfl⟩ (fun r38 H locs hr38 hP hS => ?_)
          subst hr38
          refine lv_iload_n hx hb dX0_set_41 rfl (lv_at hl 3 rfl) ?_
          refine an_iast (D := D) hx hb hK hP hD hS 1 0 rfl rfl (k := y * w + x) (sA_lt gw2 gh2 hx9 hy9) (by decide) dX0_set_42 (fun H locs hP hD hS => ?_)
          have hP : va_P D vwCl (W0 o cI (nI w) (nI h) tw op ch (upd sm (y * w + x) v) nx bf od st ow) H := hP
          have hD : va_D (wA (W0 o cI (nI w) (nI h) tw op ch sm nx bf od st ow)) (W0 o cI (nI w) (nI h) tw op ch (upd sm (y * w + x) v) nx bf od st ow) := hD
          refine lv_iconst (v := 1) hx hb dX0_set_43 (by decide) ?_
          have hok : okS w h a b v = true := by unfold okS; rw [show okY h b = true from bI_n0.mp c17, decide_eq_true (Int32.not_lt.mp c1), decide_eq_true (Int32.not_le.mp c9), decide_eq_true c26]; rfl
          have hP : va_P D vwCl (W0 o cI (nI w) (nI h) tw op ch (cond (okS w h a b v) (upd sm (b.toNatClampNeg * w + a.toNatClampNeg) v) sm) nx bf od st ow) H := by rw [hok, ha9, hb9]; exact hP
          have hD : va_D (wA (W0 o cI (nI w) (nI h) tw op ch sm nx bf od st ow)) (W0 o cI (nI w) (nI h) tw op ch (cond (okS w h a b v) (upd sm (b.toNatClampNeg * w + a.toNatClampNeg) v) sm) nx bf od st ow) := by rw [hok, ha9, hb9]; exact hD
          exact W.zret (v := 1) (ty := .boolean) hx hb hr rfl (fun t ht hW => ⟨⟨_, (), rfl, by rw [hok]; rfl, by rw [ht]; exact hP, va_K.moved hW.alike hK, hD⟩, hS.F ht⟩) hS.2.2 dX0_set_44
        · refine lv_iconst (v := 0) hx hb dX0_set_29 (by decide) ?_
          have hok : okS w h a b v = false := by unfold okS; simp [c26]
          have hP : va_P D vwCl (W0 o cI (nI w) (nI h) tw op ch (cond (okS w h a b v) (upd sm (b.toNatClampNeg * w + a.toNatClampNeg) v) sm) nx bf od st ow) H := by rw [hok]; exact hP
          have hD : va_D (wA (W0 o cI (nI w) (nI h) tw op ch sm nx bf od st ow)) (W0 o cI (nI w) (nI h) tw op ch (cond (okS w h a b v) (upd sm (b.toNatClampNeg * w + a.toNatClampNeg) v) sm) nx bf od st ow) := by rw [hok]; exact hD
          exact W.zret (v := 0) (ty := .boolean) hx hb hr rfl (fun t ht hW => ⟨⟨_, (), rfl, by rw [hok]; rfl, by rw [ht]; exact hP, va_K.moved hW.alike hK, hD⟩, hS.F ht⟩) hS.2.2 dX0_set_30

set_option maxHeartbeats 4000000 in
set_option maxRecDepth 100000 in
theorem c_X0_row (l : Launch) (D : va_G) (o : Nat → Nat) (cI : ClassId) (tw op ch : Int32) (sm nx bf od st ow : Nat → Int32) (w : Nat) (h : Nat) (b : Int32) (fr : Int32) (sp : Int32) (gw2 : w ≤ 12) (gh2 : h ≤ 12) : wiMet l yX0_row wsX0_row ({ frames := 2, cells := 0, slots := 0, locals := 44 } : Room) D (W0 o cI (nI w) (nI h) tw op ch sm nx bf od st ow) (W0 o cI (nI w) (nI h) tw op ch (cond (okY h b) (rowF w b.toNatClampNeg fr sp sm w) sm) nx bf od st ow) [(cI, .int)] [.ref (o 0), .int b, .int fr, .int sp] (bI (okY h b)) := by
  refine Met.ofW (cc := cX0_row) (maxL := 5) (ret := (some .boolean)) (by decide) rfl ?_
  intro p e s m args below meth c s₁ B hml hv
  obtain ⟨rfl, hP, hK, hD0⟩ := hv
  have hx := B.exec
  have hb := B.bytes
  have hr := B.returns
  have hts := atoms_spec (ws := wsX0_row) B.pre
  have hown : s.vm.findClass RX0 = some m.cls := findClass_of_methodNamed B.named
  have hlocks := B.notSynchronized
  have hin0 : ∀ w ∈ u_ws RX0 TX0 11, w ∈ wsX0_row := by decide +kernel
  have hD := wA_D hD0
  have hS : va_S (wA (W0 o cI (nI w) (nI h) tw op ch sm nx bf od st ow)) s.heap s.heap [] := va_S.rf
  obtain ⟨H, hH, hP, hS⟩ : ∃ H : Heap, s.heap = H ∧ va_P D vwCl (W0 o cI (nI w) (nI h) tw op ch sm nx bf od st ow) H ∧ va_S (wA (W0 o cI (nI w) (nI h) tw op ch sm nx bf od st ow)) s.heap H [] := ⟨_, rfl, hP, hS⟩
  rw [hH]
  have hl := lv_entry ([.ref (o 0), .int b, .int fr, .int sp]) (n := 5) (Nat.le_of_ble_eq_true rfl)
  rw [lg_entry_eq]
  generalize (lg_sl ([.ref (o 0), .int b, .int fr, .int sp]) ++ List.replicate (5 - (lg_sl ([.ref (o 0), .int b, .int fr, .int sp])).length) Slot.unset).toArray = ls at hl ⊢
  have hl : lv_has ls 5 [(0, .ref (o 0)), (1, .int b), (2, .int fr), (3, .int sp)] := hl
  have lp : ∀ (n : Nat) (j : Nat) (y : Nat), (j ≤ w) → (w + 1 ≤ j + n) → (y < h) → (b = nI y) → (okY h b = true) → ∀ (H : Heap) (locs : List Loc) (ls : Array Slot), va_P D vwCl (W0 o cI (nI w) (nI h) tw op ch (rowF w y fr sp sm j) nx bf od st ow) H → va_D (wA (W0 o cI (nI w) (nI h) tw op ch sm nx bf od st ow)) (W0 o cI (nI w) (nI h) tw op ch (rowF w y fr sp sm j) nx bf od st ow) → va_S (wA (W0 o cI (nI w) (nI h) tw op ch sm nx bf od st ow)) s.heap H locs → lv_has ls 5 [(4, .int (nI j)), (0, .ref (o 0)), (1, .int (nI y)), (2, .int fr), (3, .int sp)] → W p l e (headSpec wsX0_row ({ frames := 2, cells := 0, slots := 0, locals := 44 } : Room)).room s m ([.ref (o 0), .int b, .int fr, .int sp] : List Value).toArray below meth c H locs 0 0 (MQ below (va_Qi (fun r (_ : Unit) => r = bI (okY h b)) (wB D (W0 o cI (nI w) (nI h) tw op ch sm nx bf od st ow) (W0 o cI (nI w) (nI h) tw op ch (cond (okY h b) (rowF w b.toNatClampNeg fr sp sm w) sm) nx bf od st ow) [(cI, .int)]) (wA (W0 o cI (nI w) (nI h) tw op ch sm nx bf od st ow))) ([.ref (o 0), .int b, .int fr, .int sp] : List Value).toArray s 0 0 (wA (W0 o cI (nI w) (nI h) tw op ch sm nx bf od st ow))) (F0 m 13 ls []) := by
    intro n
    induction n with
    | zero =>
      intro j y hj hn hy9 eb hok0
      exact absurd hn (by omega)
    | succ n ih =>
      intro j y hj hn hy9 eb hok0 H locs ls hP hD hS hl
      refine lv_iload hx hb dX0_row_13 (lv_at hl 0 rfl) ?_
      refine lv_aload_n hx hb dX0_row_15 rfl (lv_at hl 1 rfl) ?_
      refine va_get (D := D) (ci := 0) (v := .int (nI w)) (C := RX0) (T := TX0) (N := 11) hx hb hts hin0 hown hK hP 0 rfl rfl 0 (by decide) (hts (.fieldLink RX0 9 "HeightLines" "columns" "I") (by decide +kernel)) (fun _ h9 => h9) rfl dX0_row_16 ?_
      refine lv_icmp_ge (tgt := 52) hx hb dX0_row_19 (by decide) (fun c19 => ?_) (fun c19 => ?_)
      · have hjw : j = w := by have := le_n c19 (by omega) (by omega); omega
        rw [hjw] at hP hD
        refine lv_iconst (v := 1) hx hb dX0_row_52 (by decide) ?_
        have hok : okY h b = true := hok0
        have hP : va_P D vwCl (W0 o cI (nI w) (nI h) tw op ch (cond (okY h b) (rowF w b.toNatClampNeg fr sp sm w) sm) nx bf od st ow) H := by rw [hok, show b.toNatClampNeg = y from by rw [eb, nI_clamp (by omega)]]; exact hP
        have hD : va_D (wA (W0 o cI (nI w) (nI h) tw op ch sm nx bf od st ow)) (W0 o cI (nI w) (nI h) tw op ch (cond (okY h b) (rowF w b.toNatClampNeg fr sp sm w) sm) nx bf od st ow) := by rw [hok, show b.toNatClampNeg = y from by rw [eb, nI_clamp (by omega)]]; exact hD
        exact W.zret (v := 1) (ty := .boolean) hx hb hr rfl (fun t ht hW => ⟨⟨_, (), rfl, by rw [hok]; rfl, by rw [ht]; exact hP, va_K.moved hW.alike hK, hD⟩, hS.F ht⟩) hS.2.2 dX0_row_53
      · refine lv_aload_n hx hb dX0_row_22 rfl (lv_at hl 1 rfl) ?_
        refine va_get (D := D) (ci := 0) (v := .ref (o 1)) (C := RX0) (T := TX0) (N := 11) hx hb hts hin0 hown hK hP 0 rfl rfl 3 (by decide) (hts (.fieldLink RX0 19 "HeightLines" "samples" "[I") (by decide +kernel)) (fun _ h9 => h9) rfl dX0_row_23 ?_
        refine lv_aload_n hx hb dX0_row_26 rfl (lv_at hl 1 rfl) ?_
        refine lv_iload hx hb dX0_row_27 (lv_at hl 0 rfl) ?_
        refine lv_iload_n hx hb dX0_row_29 rfl (lv_at hl 2 rfl) ?_
        refine ro_V2 ⟨hx, hb, hml, hown, hts⟩ (c_X0_sampleAt l D o cI (nI h) tw op ch (rowF w y fr sp sm j) nx bf od st ow w j y) (cwV 2 hts gX0_row_X0_sampleAt rfl rfl rfl (by decide +kernel) ⟨Nat.le_of_ble_eq_true rfl, Nat.le_of_ble_eq_true rfl⟩) (va_recv hK hP (ci := 0) (q0 := 0) rfl rfl) hP hK hP hS rfl hl.1 (lv_room (Nat.le_of_ble_eq_true rfl)) dX0_row_30 ⟨Nat.le_of_ble_eq_true rfl, Nat.le_of_ble_eq_true rfl⟩ (fun r30 H locs hr30 hP hS => ?_)
        subst hr30
        refine lv_iload_n hx hb dX0_row_33 rfl (lv_at hl 3 rfl) ?_
        refine lv_i2l hx hb dX0_row_34 rfl ?_
        refine lv_iload hx hb dX0_row_35 (lv_at hl 0 rfl) ?_
        refine lv_i2l hx hb dX0_row_37 rfl ?_
        refine lv_iload_n hx hb dX0_row_38 rfl (lv_at hl 4 rfl) ?_
        refine lv_i2l hx hb dX0_row_39 rfl ?_
        refine lv_lmul hx hb dX0_row_40 ?_
        refine lv_ladd hx hb dX0_row_41 ?_
        refine ro_S1 ⟨hx, hb, hml, hown, hts⟩ (c_X0_heldToBounds l D (fr.toInt64 + ((nI j).toInt64 * sp.toInt64))) (va_cwS 1 hts gX0_row_X0_heldToBounds rfl rfl rfl (by decide +kernel) ⟨Nat.le_of_ble_eq_true rfl, Nat.le_of_ble_eq_true rfl⟩) (va_P0 D vwCl _) (hK.sub [] rfl) hP hS rfl hl.1 (lv_room (Nat.le_of_ble_eq_true rfl)) dX0_row_42 ⟨Nat.le_of_ble_eq_true rfl, Nat.le_of_ble_eq_true rfl⟩ (fun r42 H locs hr42 hP hS => ?_)
        subst hr42
        refine an_iast (D := D) hx hb hK hP hD hS 1 0 rfl rfl (k := y * w + j) (sA_lt gw2 gh2 (nle_n c19 (by omega) (by omega)) hy9) (by decide) dX0_row_45 (fun H locs hP hD hS => ?_)
        have hP : va_P D vwCl (W0 o cI (nI w) (nI h) tw op ch (upd (rowF w y fr sp sm j) (y * w + j) (holdI (fr.toInt64 + ((nI j).toInt64 * sp.toInt64)))) nx bf od st ow) H := hP
        have hD : va_D (wA (W0 o cI (nI w) (nI h) tw op ch sm nx bf od st ow)) (W0 o cI (nI w) (nI h) tw op ch (upd (rowF w y fr sp sm j) (y * w + j) (holdI (fr.toInt64 + ((nI j).toInt64 * sp.toInt64)))) nx bf od st ow) := hD
        refine lv_iinc (v := (nI (j + 1))) (lv' := [(4, .int (nI (j + 1))), (0, .ref (o 0)), (1, .int (nI y)), (2, .int fr), (3, .int sp)]) hx hb dX0_row_46 hl (k := 0) rfl (nI_p1 _) (by decide) rfl (fun ls hl => ?_)
        refine lv_goto (tgt := 13) hx hb dX0_row_49 (by decide) ?_
        have hP : va_P D vwCl (W0 o cI (nI w) (nI h) tw op ch (rowF w y fr sp sm (j + 1)) nx bf od st ow) H := hP
        have hD : va_D (wA (W0 o cI (nI w) (nI h) tw op ch sm nx bf od st ow)) (W0 o cI (nI w) (nI h) tw op ch (rowF w y fr sp sm (j + 1)) nx bf od st ow) := hD
        exact ih (j + 1) y (nle_n c19 (by omega) (by omega)) (by omega) hy9 eb hok0 _ _ _ hP hD hS (lv_sub hl [0, 1, 2, 3, 4] rfl)
  refine lv_aload_n hx hb dX0_row_0 rfl (lv_at hl 0 rfl) ?_
  refine lv_iload_n hx hb dX0_row_1 rfl (lv_at hl 1 rfl) ?_
  refine ro_V1 ⟨hx, hb, hml, hown, hts⟩ (c_X0_hasRow l D o cI (nI w) (nI h) tw op ch sm nx bf od st ow b) (cwV 1 hts gX0_row_X0_hasRow rfl rfl rfl (by decide +kernel) ⟨Nat.le_of_ble_eq_true rfl, Nat.le_of_ble_eq_true rfl⟩) (va_recv hK hP (ci := 0) (q0 := 0) rfl rfl) hP hK hP hS rfl hl.1 (lv_room (Nat.le_of_ble_eq_true rfl)) dX0_row_2 ⟨Nat.le_of_ble_eq_true rfl, Nat.le_of_ble_eq_true rfl⟩ (fun r2 H locs hr2 hP hS => ?_)
  subst hr2
  refine lv_if_ne (tgt := 10) hx hb dX0_row_5 (by decide) (fun c5 => ?_) (fun c5 => ?_)
  · obtain ⟨y, hy9, eb⟩ : ∃ j, j < h ∧ b = nI j := okY_n (h := h) (bI_n0.mp c5) (by omega)
    have hok0 : okY h b = true := bI_n0.mp c5
    rw [eb] at hl
    refine lv_iconst (v := 0) hx hb dX0_row_10 (by decide) ?_
    refine lv_istore (lv' := [(4, .int 0), (0, .ref (o 0)), (1, .int (nI y)), (2, .int fr), (3, .int sp)]) hx hb dX0_row_11 hl (by decide) rfl (fun ls hl => ?_)
    exact lp (w + 1) 0 y (Nat.zero_le _) (by omega) hy9 eb hok0 _ _ _ hP hD hS (lv_sub hl [0, 1, 2, 3, 4] rfl)
  · refine lv_iconst (v := 0) hx hb dX0_row_8 (by decide) ?_
    have hok : okY h b = false := bI_0.mp c5
    have hP : va_P D vwCl (W0 o cI (nI w) (nI h) tw op ch (cond (okY h b) (rowF w b.toNatClampNeg fr sp sm w) sm) nx bf od st ow) H := by rw [hok]; exact hP
    have hD : va_D (wA (W0 o cI (nI w) (nI h) tw op ch sm nx bf od st ow)) (W0 o cI (nI w) (nI h) tw op ch (cond (okY h b) (rowF w b.toNatClampNeg fr sp sm w) sm) nx bf od st ow) := by rw [hok]; exact hD
    exact W.zret (v := 0) (ty := .boolean) hx hb hr rfl (fun t ht hW => ⟨⟨_, (), rfl, by rw [hok]; rfl, by rw [ht]; exact hP, va_K.moved hW.alike hK, hD⟩, hS.F ht⟩) hS.2.2 dX0_row_9

set_option maxHeartbeats 4000000 in
set_option maxRecDepth 100000 in
theorem c_X0_size (l : Launch) (D : va_G) (o : Nat → Nat) (cI : ClassId) (co ro tw op : Int32) (sm nx bf od st ow : Nat → Int32) (L : List (List Nat)) (y : Int32) (gL : L.length ≤ 132) (gst : ∀ i, i ≤ L.length → st i = nI (pfx L i)) : roMet l yX0_size wsX0_size ({ frames := 1, cells := 0, slots := 0, locals := 21 } : Room) D (W0 o cI co ro tw op (nI L.length) sm nx bf od st ow) [(cI, .int)] [.ref (o 0), .int y] (fun r => r = szL L y) := by
  refine Met.ofW (cc := cX0_size) (maxL := 2) (ret := (some .int)) (by decide) rfl ?_
  intro p e s m args below meth c s₁ B hml hv
  obtain ⟨rfl, hP, hK⟩ := hv
  have hx := B.exec
  have hb := B.bytes
  have hr := B.returns
  have hts := atoms_spec (ws := wsX0_size) B.pre
  have hown : s.vm.findClass RX0 = some m.cls := findClass_of_methodNamed B.named
  have hlocks := B.notSynchronized
  have hin0 : ∀ w ∈ u_ws RX0 TX0 11, w ∈ wsX0_size := by decide +kernel
  have hS : va_S (fun _ => False) s.heap s.heap [] := va_S.rf
  have hP : va_P D vwCl (W0 o cI co ro tw op (nI L.length) sm nx bf od st ow) s.heap := hP
  have hl := lv_entry ([.ref (o 0), .int y]) (n := 2) (Nat.le_of_ble_eq_true rfl)
  rw [lg_entry_eq]
  generalize (lg_sl ([.ref (o 0), .int y]) ++ List.replicate (2 - (lg_sl ([.ref (o 0), .int y])).length) Slot.unset).toArray = ls at hl ⊢
  have hl : lv_has ls 2 [(0, .ref (o 0)), (1, .int y)] := hl
  refine lv_aload_n hx hb dX0_size_0 rfl (lv_at hl 0 rfl) ?_
  refine lv_iload_n hx hb dX0_size_1 rfl (lv_at hl 1 rfl) ?_
  refine ro_V1 ⟨hx, hb, hml, hown, hts⟩ (c_X0_hasChain l D o cI co ro tw op (nI L.length) sm nx bf od st ow y) (cwV 1 hts gX0_size_X0_hasChain rfl rfl rfl (by decide +kernel) ⟨Nat.le_of_ble_eq_true rfl, Nat.le_of_ble_eq_true rfl⟩) (va_recv hK hP (ci := 0) (q0 := 0) rfl rfl) hP hK hP hS rfl hl.1 (lv_room (Nat.le_of_ble_eq_true rfl)) dX0_size_2 ⟨Nat.le_of_ble_eq_true rfl, Nat.le_of_ble_eq_true rfl⟩ (fun r2 H locs hr2 hP hS => ?_)
  subst hr2
  refine lv_if_eq (tgt := 26) hx hb dX0_size_5 (by decide) (fun c5 => ?_) (fun c5 => ?_)
  · refine lv_iconst (v := (-1)) hx hb dX0_size_26 (by decide) ?_
    exact W.iret (v := (-1)) hx hb hr (fun t ht hW => ⟨⟨_, (), rfl, by rw [szL_z (bI_0.mp c5)], trivial⟩, hS.F ht⟩) hS.2.2 dX0_size_27
  · obtain ⟨j, hj9, ey⟩ : ∃ j, j < L.length ∧ y = nI j := okY_n (h := L.length) (bI_n0.mp c5) (by omega)
    rw [ey] at hl
    refine lv_aload_n hx hb dX0_size_8 rfl (lv_at hl 0 rfl) ?_
    refine va_get (D := D) (ci := 0) (v := .ref (o 5)) (C := RX0) (T := TX0) (N := 11) hx hb hts hin0 hown hK hP 0 rfl rfl 7 (by decide) (hts (.fieldLink RX0 32 "HeightLines" "starts" "[I") (by decide +kernel)) (fun _ h9 => h9) rfl dX0_size_9 ?_
    refine lv_iload_n hx hb dX0_size_12 rfl (lv_at hl 1 rfl) ?_
    refine lv_iconst (v := 1) hx hb dX0_size_13 (by decide) ?_
    refine lv_iadd hx hb dX0_size_14 ?_
    rw [show (nI j + 1) = nI (j + 1) from nI_p1 j]
    refine an_iald (D := D) hx hb hK hP 5 0 rfl rfl (k := j + 1) (by omega) (by decide) dX0_size_15 ?_
    refine lv_aload_n hx hb dX0_size_16 rfl (lv_at hl 0 rfl) ?_
    refine va_get (D := D) (ci := 0) (v := .ref (o 5)) (C := RX0) (T := TX0) (N := 11) hx hb hts hin0 hown hK hP 0 rfl rfl 7 (by decide) (hts (.fieldLink RX0 32 "HeightLines" "starts" "[I") (by decide +kernel)) (fun _ h9 => h9) rfl dX0_size_17 ?_
    refine lv_iload_n hx hb dX0_size_20 rfl (lv_at hl 1 rfl) ?_
    refine an_iald (D := D) hx hb hK hP 5 0 rfl rfl (k := j) (by omega) (by decide) dX0_size_21 ?_
    refine lv_isub hx hb dX0_size_22 ?_
    refine lv_goto (tgt := 27) hx hb dX0_size_23 (by decide) ?_
    exact W.iret (v := ((st (j + 1)) - (st j))) hx hb hr (fun t ht hW => ⟨⟨_, (), rfl, by rw [ey, szL_n hj9 (by omega), gst (j + 1) (by omega), gst j (by omega), pk_sub (pfx_mono (by omega))], trivial⟩, hS.F ht⟩) hS.2.2 dX0_size_27

set_option maxHeartbeats 4000000 in
set_option maxRecDepth 100000 in
theorem c_X0_isClosed (l : Launch) (D : va_G) (o : Nat → Nat) (cI : ClassId) (co ro tw : Int32) (sm nx bf od st ow : Nat → Int32) (L : List (List Nat)) (no : Nat) (y : Int32) : roMet l yX0_isClosed wsX0_isClosed ({ frames := 1, cells := 0, slots := 0, locals := 21 } : Room) D (W0 o cI co ro tw (nI no) (nI L.length) sm nx bf od st ow) [(cI, .int)] [.ref (o 0), .int y] (fun r => r = bI (clL L no y)) := by
  refine Met.ofW (cc := cX0_isClosed) (maxL := 2) (ret := (some .boolean)) (by decide) rfl ?_
  intro p e s m args below meth c s₁ B hml hv
  obtain ⟨rfl, hP, hK⟩ := hv
  have hx := B.exec
  have hb := B.bytes
  have hr := B.returns
  have hts := atoms_spec (ws := wsX0_isClosed) B.pre
  have hown : s.vm.findClass RX0 = some m.cls := findClass_of_methodNamed B.named
  have hlocks := B.notSynchronized
  have hin0 : ∀ w ∈ u_ws RX0 TX0 11, w ∈ wsX0_isClosed := by decide +kernel
  have hS : va_S (fun _ => False) s.heap s.heap [] := va_S.rf
  have hP : va_P D vwCl (W0 o cI co ro tw (nI no) (nI L.length) sm nx bf od st ow) s.heap := hP
  have hl := lv_entry ([.ref (o 0), .int y]) (n := 2) (Nat.le_of_ble_eq_true rfl)
  rw [lg_entry_eq]
  generalize (lg_sl ([.ref (o 0), .int y]) ++ List.replicate (2 - (lg_sl ([.ref (o 0), .int y])).length) Slot.unset).toArray = ls at hl ⊢
  have hl : lv_has ls 2 [(0, .ref (o 0)), (1, .int y)] := hl
  refine lv_aload_n hx hb dX0_isClosed_0 rfl (lv_at hl 0 rfl) ?_
  refine lv_iload_n hx hb dX0_isClosed_1 rfl (lv_at hl 1 rfl) ?_
  refine ro_V1 ⟨hx, hb, hml, hown, hts⟩ (c_X0_hasChain l D o cI co ro tw (nI no) (nI L.length) sm nx bf od st ow y) (cwV 1 hts gX0_isClosed_X0_hasChain rfl rfl rfl (by decide +kernel) ⟨Nat.le_of_ble_eq_true rfl, Nat.le_of_ble_eq_true rfl⟩) (va_recv hK hP (ci := 0) (q0 := 0) rfl rfl) hP hK hP hS rfl hl.1 (lv_room (Nat.le_of_ble_eq_true rfl)) dX0_isClosed_2 ⟨Nat.le_of_ble_eq_true rfl, Nat.le_of_ble_eq_true rfl⟩ (fun r2 H locs hr2 hP hS => ?_)
  subst hr2
  refine lv_if_eq (tgt := 20) hx hb dX0_isClosed_5 (by decide) (fun c5 => ?_) (fun c5 => ?_)
  · refine lv_iconst (v := 0) hx hb dX0_isClosed_20 (by decide) ?_
    exact W.zret (v := 0) (ty := .boolean) hx hb hr rfl (fun t ht hW => ⟨⟨_, (), rfl, bI_z (by unfold clL; rw [show okY L.length y = false from bI_0.mp c5]; rfl), trivial⟩, hS.F ht⟩) hS.2.2 dX0_isClosed_21
  · refine lv_iload_n hx hb dX0_isClosed_8 rfl (lv_at hl 1 rfl) ?_
    refine lv_aload_n hx hb dX0_isClosed_9 rfl (lv_at hl 0 rfl) ?_
    refine va_get (D := D) (ci := 0) (v := .int (nI no)) (C := RX0) (T := TX0) (N := 11) hx hb hts hin0 hown hK hP 0 rfl rfl 9 (by decide) (hts (.fieldLink RX0 38 "HeightLines" "openChains" "I") (by decide +kernel)) (fun _ h9 => h9) rfl dX0_isClosed_10 ?_
    refine lv_icmp_lt (tgt := 20) hx hb dX0_isClosed_13 (by decide) (fun c13 => ?_) (fun c13 => ?_)
    · refine lv_iconst (v := 0) hx hb dX0_isClosed_20 (by decide) ?_
      exact W.zret (v := 0) (ty := .boolean) hx hb hr rfl (fun t ht hW => ⟨⟨_, (), rfl, bI_z (by unfold clL; rw [decide_eq_false (Int32.not_le.mpr c13)]; simp), trivial⟩, hS.F ht⟩) hS.2.2 dX0_isClosed_21
    · refine lv_iconst (v := 1) hx hb dX0_isClosed_16 (by decide) ?_
      refine lv_goto (tgt := 21) hx hb dX0_isClosed_17 (by decide) ?_
      exact W.zret (v := 1) (ty := .boolean) hx hb hr rfl (fun t ht hW => ⟨⟨_, (), rfl, bI_1 (by unfold clL; rw [show okY L.length y = true from bI_n0.mp c5, decide_eq_true (Int32.not_lt.mp c13)]; rfl), trivial⟩, hS.F ht⟩) hS.2.2 dX0_isClosed_21

set_option maxHeartbeats 4000000 in
set_option maxRecDepth 100000 in
theorem c_X0_edge (l : Launch) (D : va_G) (o : Nat → Nat) (cI : ClassId) (co ro tw op : Int32) (sm nx bf od st ow : Nat → Int32) (L : List (List Nat)) (y : Int32) (i : Int32) (gL : L.length ≤ 132) (gst : ∀ i, i ≤ L.length → st i = nI (pfx L i)) (gU : L.flatten.length ≤ 264) (god : ∀ j, j < L.flatten.length → od j = nI (L.flatten.getD j 0)) : roMet l yX0_edge wsX0_edge ({ frames := 2, cells := 0, slots := 0, locals := 42 } : Room) D (W0 o cI co ro tw op (nI L.length) sm nx bf od st ow) [(cI, .int)] [.ref (o 0), .int y, .int i] (fun r => r = edL L y i) := by
  refine Met.ofW (cc := cX0_edge) (maxL := 3) (ret := (some .int)) (by decide) rfl ?_
  intro p e s m args below meth c s₁ B hml hv
  obtain ⟨rfl, hP, hK⟩ := hv
  have hx := B.exec
  have hb := B.bytes
  have hr := B.returns
  have hts := atoms_spec (ws := wsX0_edge) B.pre
  have hown : s.vm.findClass RX0 = some m.cls := findClass_of_methodNamed B.named
  have hlocks := B.notSynchronized
  have hin0 : ∀ w ∈ u_ws RX0 TX0 11, w ∈ wsX0_edge := by decide +kernel
  have hS : va_S (fun _ => False) s.heap s.heap [] := va_S.rf
  have hP : va_P D vwCl (W0 o cI co ro tw op (nI L.length) sm nx bf od st ow) s.heap := hP
  have hl := lv_entry ([.ref (o 0), .int y, .int i]) (n := 3) (Nat.le_of_ble_eq_true rfl)
  rw [lg_entry_eq]
  generalize (lg_sl ([.ref (o 0), .int y, .int i]) ++ List.replicate (3 - (lg_sl ([.ref (o 0), .int y, .int i])).length) Slot.unset).toArray = ls at hl ⊢
  have hl : lv_has ls 3 [(0, .ref (o 0)), (1, .int y), (2, .int i)] := hl
  refine lv_iload_n hx hb dX0_edge_0 rfl (lv_at hl 2 rfl) ?_
  refine lv_if_lt (tgt := 29) hx hb dX0_edge_1 (by decide) (fun c1 => ?_) (fun c1 => ?_)
  · refine lv_iconst (v := (-1)) hx hb dX0_edge_29 (by decide) ?_
    exact W.iret (v := (-1)) hx hb hr (fun t ht hW => ⟨⟨_, (), rfl, by rw [edL_z (Or.inr (by unfold okY; rw [decide_eq_false (Int32.not_le.mpr c1)]; rfl))], trivial⟩, hS.F ht⟩) hS.2.2 dX0_edge_30
  · refine lv_iload_n hx hb dX0_edge_4 rfl (lv_at hl 2 rfl) ?_
    refine lv_aload_n hx hb dX0_edge_5 rfl (lv_at hl 0 rfl) ?_
    refine lv_iload_n hx hb dX0_edge_6 rfl (lv_at hl 1 rfl) ?_
    refine ro_V1 ⟨hx, hb, hml, hown, hts⟩ (c_X0_size l D o cI co ro tw op sm nx bf od st ow L y gL gst) (cwV 1 hts gX0_edge_X0_size rfl rfl rfl (by decide +kernel) ⟨Nat.le_of_ble_eq_true rfl, Nat.le_of_ble_eq_true rfl⟩) (va_recv hK hP (ci := 0) (q0 := 0) rfl rfl) hP hK hP hS rfl hl.1 (lv_room (Nat.le_of_ble_eq_true rfl)) dX0_edge_7 ⟨Nat.le_of_ble_eq_true rfl, Nat.le_of_ble_eq_true rfl⟩ (fun r7 H locs hr7 hP hS => ?_)
    subst hr7
    refine lv_icmp_ge (tgt := 29) hx hb dX0_edge_10 (by decide) (fun c10 => ?_) (fun c10 => ?_)
    · refine lv_iconst (v := (-1)) hx hb dX0_edge_29 (by decide) ?_
      exact W.iret (v := (-1)) hx hb hr (fun t ht hW => ⟨⟨_, (), rfl, edL_c gL gU c1 c10, trivial⟩, hS.F ht⟩) hS.2.2 dX0_edge_30
    · obtain ⟨j, i0, hj9, hi9, ey, ei⟩ := edL_r gL gU c1 c10
      rw [ey, ei] at hl
      refine lv_aload_n hx hb dX0_edge_13 rfl (lv_at hl 0 rfl) ?_
      refine va_get (D := D) (ci := 0) (v := .ref (o 4)) (C := RX0) (T := TX0) (N := 11) hx hb hts hin0 hown hK hP 0 rfl rfl 6 (by decide) (hts (.fieldLink RX0 29 "HeightLines" "order" "[I") (by decide +kernel)) (fun _ h9 => h9) rfl dX0_edge_14 ?_
      refine lv_aload_n hx hb dX0_edge_17 rfl (lv_at hl 0 rfl) ?_
      refine va_get (D := D) (ci := 0) (v := .ref (o 5)) (C := RX0) (T := TX0) (N := 11) hx hb hts hin0 hown hK hP 0 rfl rfl 7 (by decide) (hts (.fieldLink RX0 32 "HeightLines" "starts" "[I") (by decide +kernel)) (fun _ h9 => h9) rfl dX0_edge_18 ?_
      refine lv_iload_n hx hb dX0_edge_21 rfl (lv_at hl 1 rfl) ?_
      refine an_iald (D := D) hx hb hK hP 5 0 rfl rfl (k := j) (by omega) (by decide) dX0_edge_22 ?_
      rw [show (st j) = nI (pfx L j) from gst j (by omega)]
      refine lv_iload_n hx hb dX0_edge_23 rfl (lv_at hl 2 rfl) ?_
      refine lv_iadd hx hb dX0_edge_24 ?_
      rw [show (nI (pfx L j) + nI i0) = nI (pfx L j + i0) from nI_add _ _]
      refine an_iald (D := D) hx hb hK hP 4 0 rfl rfl (k := pfx L j + i0) (by have := pfx_s hj9; have := pfx_le (L := L) (i := j + 1) (by omega); omega) (by decide) dX0_edge_25 ?_
      refine lv_goto (tgt := 30) hx hb dX0_edge_26 (by decide) ?_
      exact W.iret (v := (od (pfx L j + i0))) hx hb hr (fun t ht hW => ⟨⟨_, (), rfl, by rw [ey, ei, edL_n hj9 hi9 (by omega) (by have := pfx_le (L := L) (i := j + 1) (by omega); omega), god _ (by have := pfx_s hj9; have := pfx_le (L := L) (i := j + 1) (by omega); omega)], trivial⟩, hS.F ht⟩) hS.2.2 dX0_edge_30
end
