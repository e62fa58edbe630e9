section
-- ===== PART A: goes FIRST, ahead of the names: the tables' words, and 'selects' of the private methods out of them =====
/-- a private method of a class that the tables say can be made, by its rows of tables_1 -/
def lw_okq (q : MethodName × Nat) : Prop := (q.1.cls ≠ "java/lang/invoke/MethodHandle" ∧ q.1.cls ≠ "java/lang/invoke/VarHandle") ∧ Cond.instantiable q.1.cls q.2 ∈ tables_1 ∧ Cond.privateMethod q.1 ∈ tables_1 ∧ Cond.instanceMethod q.1 ∈ tables_1
theorem lw_p0 : lw_okq (⟨"RoadTrace$Net", "shortenBy", "(III)V"⟩, 9) := ⟨⟨by decide +kernel, by decide +kernel⟩, List.mem_of_getElem? (i := 25) (by decide +kernel), List.mem_of_getElem? (i := 195) (by decide +kernel), List.mem_of_getElem? (i := 196) (by decide +kernel)⟩
theorem lw_p1 : lw_okq (⟨"RoadTrace$Net", "lengthOut", "(III)I"⟩, 9) := ⟨⟨by decide +kernel, by decide +kernel⟩, List.mem_of_getElem? (i := 25) (by decide +kernel), List.mem_of_getElem? (i := 251) (by decide +kernel), List.mem_of_getElem? (i := 252) (by decide +kernel)⟩
theorem lw_p2 : lw_okq (⟨"RoadTrace$Net", "lengthAlong", "(II)I"⟩, 9) := ⟨⟨by decide +kernel, by decide +kernel⟩, List.mem_of_getElem? (i := 25) (by decide +kernel), List.mem_of_getElem? (i := 255) (by decide +kernel), List.mem_of_getElem? (i := 256) (by decide +kernel)⟩
theorem lw_p3 : lw_okq (⟨"RoadTrace$Net", "leaveLength", "(IZ)I"⟩, 9) := ⟨⟨by decide +kernel, by decide +kernel⟩, List.mem_of_getElem? (i := 25) (by decide +kernel), List.mem_of_getElem? (i := 262) (by decide +kernel), List.mem_of_getElem? (i := 263) (by decide +kernel)⟩
theorem lw_p4 : lw_okq (⟨"RoadTrace$Net", "endOf", "(IZ)I"⟩, 9) := ⟨⟨by decide +kernel, by decide +kernel⟩, List.mem_of_getElem? (i := 25) (by decide +kernel), List.mem_of_getElem? (i := 266) (by decide +kernel), List.mem_of_getElem? (i := 267) (by decide +kernel)⟩
theorem lw_p5 : lw_okq (⟨"RoadTrace$Net", "comeLength", "(IZ)I"⟩, 9) := ⟨⟨by decide +kernel, by decide +kernel⟩, List.mem_of_getElem? (i := 25) (by decide +kernel), List.mem_of_getElem? (i := 273) (by decide +kernel), List.mem_of_getElem? (i := 274) (by decide +kernel)⟩
theorem lw_p6 : lw_okq (⟨"RoadTrace$Trace", "lastFixed", "()I"⟩, 14) := ⟨⟨by decide +kernel, by decide +kernel⟩, List.mem_of_getElem? (i := 74) (by decide +kernel), List.mem_of_getElem? (i := 285) (by decide +kernel), List.mem_of_getElem? (i := 286) (by decide +kernel)⟩
theorem lw_p7 : lw_okq (⟨"RoadTrace$Trace", "isGap", "(I)Z"⟩, 14) := ⟨⟨by decide +kernel, by decide +kernel⟩, List.mem_of_getElem? (i := 74) (by decide +kernel), List.mem_of_getElem? (i := 289) (by decide +kernel), List.mem_of_getElem? (i := 290) (by decide +kernel)⟩
theorem lw_p8 : lw_okq (⟨"RoadTrace$Trace", "findCandidates", "(I)V"⟩, 14) := ⟨⟨by decide +kernel, by decide +kernel⟩, List.mem_of_getElem? (i := 74) (by decide +kernel), List.mem_of_getElem? (i := 297) (by decide +kernel), List.mem_of_getElem? (i := 298) (by decide +kernel)⟩
theorem lw_p9 : lw_okq (⟨"RoadTrace$Net", "nearestX", "(II)I"⟩, 9) := ⟨⟨by decide +kernel, by decide +kernel⟩, List.mem_of_getElem? (i := 25) (by decide +kernel), List.mem_of_getElem? (i := 309) (by decide +kernel), List.mem_of_getElem? (i := 310) (by decide +kernel)⟩
theorem lw_p10 : lw_okq (⟨"RoadTrace$Net", "nearestY", "(II)I"⟩, 9) := ⟨⟨by decide +kernel, by decide +kernel⟩, List.mem_of_getElem? (i := 25) (by decide +kernel), List.mem_of_getElem? (i := 316) (by decide +kernel), List.mem_of_getElem? (i := 317) (by decide +kernel)⟩
theorem lw_p11 : lw_okq (⟨"RoadTrace$Trace", "beginPiece", "(II)V"⟩, 14) := ⟨⟨by decide +kernel, by decide +kernel⟩, List.mem_of_getElem? (i := 74) (by decide +kernel), List.mem_of_getElem? (i := 327) (by decide +kernel), List.mem_of_getElem? (i := 328) (by decide +kernel)⟩
theorem lw_p12 : lw_okq (⟨"RoadTrace$Trace", "goesOn", "(II)Z"⟩, 14) := ⟨⟨by decide +kernel, by decide +kernel⟩, List.mem_of_getElem? (i := 74) (by decide +kernel), List.mem_of_getElem? (i := 331) (by decide +kernel), List.mem_of_getElem? (i := 332) (by decide +kernel)⟩
theorem lw_p13 : lw_okq (⟨"RoadTrace$Trace", "joinCandidate", "(III)V"⟩, 14) := ⟨⟨by decide +kernel, by decide +kernel⟩, List.mem_of_getElem? (i := 74) (by decide +kernel), List.mem_of_getElem? (i := 335) (by decide +kernel), List.mem_of_getElem? (i := 336) (by decide +kernel)⟩
theorem lw_p14 : lw_okq (⟨"RoadTrace$Trace", "settle", "()V"⟩, 14) := ⟨⟨by decide +kernel, by decide +kernel⟩, List.mem_of_getElem? (i := 74) (by decide +kernel), List.mem_of_getElem? (i := 341) (by decide +kernel), List.mem_of_getElem? (i := 342) (by decide +kernel)⟩
theorem lw_p15 : lw_okq (⟨"RoadTrace$Trace", "backOf", "(II)I"⟩, 14) := ⟨⟨by decide +kernel, by decide +kernel⟩, List.mem_of_getElem? (i := 74) (by decide +kernel), List.mem_of_getElem? (i := 345) (by decide +kernel), List.mem_of_getElem? (i := 346) (by decide +kernel)⟩
def lw_privs_1 : List (MethodName × Nat) := [(⟨"RoadTrace$Net", "shortenBy", "(III)V"⟩, 9), (⟨"RoadTrace$Net", "lengthOut", "(III)I"⟩, 9), (⟨"RoadTrace$Net", "lengthAlong", "(II)I"⟩, 9), (⟨"RoadTrace$Net", "leaveLength", "(IZ)I"⟩, 9), (⟨"RoadTrace$Net", "endOf", "(IZ)I"⟩, 9), (⟨"RoadTrace$Net", "comeLength", "(IZ)I"⟩, 9), (⟨"RoadTrace$Trace", "lastFixed", "()I"⟩, 14), (⟨"RoadTrace$Trace", "isGap", "(I)Z"⟩, 14), (⟨"RoadTrace$Trace", "findCandidates", "(I)V"⟩, 14), (⟨"RoadTrace$Net", "nearestX", "(II)I"⟩, 9), (⟨"RoadTrace$Net", "nearestY", "(II)I"⟩, 9), (⟨"RoadTrace$Trace", "beginPiece", "(II)V"⟩, 14), (⟨"RoadTrace$Trace", "goesOn", "(II)Z"⟩, 14), (⟨"RoadTrace$Trace", "joinCandidate", "(III)V"⟩, 14), (⟨"RoadTrace$Trace", "settle", "()V"⟩, 14), (⟨"RoadTrace$Trace", "backOf", "(II)I"⟩, 14)]
theorem lw_r1 : ∀ q ∈ lw_privs_1, lw_okq q := List.forall_mem_cons.mpr ⟨lw_p0, List.forall_mem_cons.mpr ⟨lw_p1, List.forall_mem_cons.mpr ⟨lw_p2, List.forall_mem_cons.mpr ⟨lw_p3, List.forall_mem_cons.mpr ⟨lw_p4, List.forall_mem_cons.mpr ⟨lw_p5, List.forall_mem_cons.mpr ⟨lw_p6, List.forall_mem_cons.mpr ⟨lw_p7, List.forall_mem_cons.mpr ⟨lw_p8, List.forall_mem_cons.mpr ⟨lw_p9, List.forall_mem_cons.mpr ⟨lw_p10, List.forall_mem_cons.mpr ⟨lw_p11, List.forall_mem_cons.mpr ⟨lw_p12, List.forall_mem_cons.mpr ⟨lw_p13, List.forall_mem_cons.mpr ⟨lw_p14, List.forall_mem_cons.mpr ⟨lw_p15, fun _ h => absurd h List.not_mem_nil⟩⟩⟩⟩⟩⟩⟩⟩⟩⟩⟩⟩⟩⟩⟩⟩
theorem lw_p16 : lw_okq (⟨"RoadTrace$Trace", "hasCandidate", "(II)Z"⟩, 14) := ⟨⟨by decide +kernel, by decide +kernel⟩, List.mem_of_getElem? (i := 74) (by decide +kernel), List.mem_of_getElem? (i := 349) (by decide +kernel), List.mem_of_getElem? (i := 350) (by decide +kernel)⟩
theorem lw_p17 : lw_okq (⟨"RoadTrace$Trace", "backsOf", "(II)I"⟩, 14) := ⟨⟨by decide +kernel, by decide +kernel⟩, List.mem_of_getElem? (i := 74) (by decide +kernel), List.mem_of_getElem? (i := 353) (by decide +kernel), List.mem_of_getElem? (i := 354) (by decide +kernel)⟩
theorem lw_p18 : lw_okq (⟨"RoadTrace$Trace", "cheapest", "(I)I"⟩, 14) := ⟨⟨by decide +kernel, by decide +kernel⟩, List.mem_of_getElem? (i := 74) (by decide +kernel), List.mem_of_getElem? (i := 357) (by decide +kernel), List.mem_of_getElem? (i := 358) (by decide +kernel)⟩
theorem lw_p19 : lw_okq (⟨"RoadTrace$Trace", "alive", "(I)I"⟩, 14) := ⟨⟨by decide +kernel, by decide +kernel⟩, List.mem_of_getElem? (i := 74) (by decide +kernel), List.mem_of_getElem? (i := 361) (by decide +kernel), List.mem_of_getElem? (i := 362) (by decide +kernel)⟩
theorem lw_p20 : lw_okq (⟨"RoadTrace$Trace", "stepStart", "(I)I"⟩, 14) := ⟨⟨by decide +kernel, by decide +kernel⟩, List.mem_of_getElem? (i := 74) (by decide +kernel), List.mem_of_getElem? (i := 412) (by decide +kernel), List.mem_of_getElem? (i := 413) (by decide +kernel)⟩
theorem lw_p21 : lw_okq (⟨"RoadTrace$Net", "wayOut", "(II)I"⟩, 9) := ⟨⟨by decide +kernel, by decide +kernel⟩, List.mem_of_getElem? (i := 25) (by decide +kernel), List.mem_of_getElem? (i := 429) (by decide +kernel), List.mem_of_getElem? (i := 430) (by decide +kernel)⟩
theorem lw_p22 : lw_okq (⟨"RoadTrace$Net", "nextCrossing", "(II)I"⟩, 9) := ⟨⟨by decide +kernel, by decide +kernel⟩, List.mem_of_getElem? (i := 25) (by decide +kernel), List.mem_of_getElem? (i := 434) (by decide +kernel), List.mem_of_getElem? (i := 435) (by decide +kernel)⟩
theorem lw_p23 : lw_okq (⟨"RoadTrace$Net", "leadsFrom", "(II)I"⟩, 9) := ⟨⟨by decide +kernel, by decide +kernel⟩, List.mem_of_getElem? (i := 25) (by decide +kernel), List.mem_of_getElem? (i := 439) (by decide +kernel), List.mem_of_getElem? (i := 440) (by decide +kernel)⟩
theorem lw_p24 : lw_okq (⟨"RoadTrace$Trace", "endsPiece", "(I)Z"⟩, 14) := ⟨⟨by decide +kernel, by decide +kernel⟩, List.mem_of_getElem? (i := 74) (by decide +kernel), List.mem_of_getElem? (i := 451) (by decide +kernel), List.mem_of_getElem? (i := 452) (by decide +kernel)⟩
theorem lw_p25 : lw_okq (⟨"RoadTrace", "tellCount", "(I)I"⟩, 2) := ⟨⟨by decide +kernel, by decide +kernel⟩, List.mem_of_getElem? (i := 11) (by decide +kernel), List.mem_of_getElem? (i := 505) (by decide +kernel), List.mem_of_getElem? (i := 506) (by decide +kernel)⟩
theorem lw_p26 : lw_okq (⟨"RoadTraceModel", "isCrossing", "(I)Z"⟩, 23) := ⟨⟨by decide +kernel, by decide +kernel⟩, List.mem_of_getElem? (i := 525) (by decide +kernel), List.mem_of_getElem? (i := 612) (by decide +kernel), List.mem_of_getElem? (i := 613) (by decide +kernel)⟩
theorem lw_p27 : lw_okq (⟨"RoadTraceModel", "length", "(I)I"⟩, 23) := ⟨⟨by decide +kernel, by decide +kernel⟩, List.mem_of_getElem? (i := 525) (by decide +kernel), List.mem_of_getElem? (i := 624) (by decide +kernel), List.mem_of_getElem? (i := 625) (by decide +kernel)⟩
theorem lw_p28 : lw_okq (⟨"RoadTraceModel", "spotX", "(II)I"⟩, 23) := ⟨⟨by decide +kernel, by decide +kernel⟩, List.mem_of_getElem? (i := 525) (by decide +kernel), List.mem_of_getElem? (i := 634) (by decide +kernel), List.mem_of_getElem? (i := 635) (by decide +kernel)⟩
theorem lw_p29 : lw_okq (⟨"RoadTraceModel", "spotY", "(II)I"⟩, 23) := ⟨⟨by decide +kernel, by decide +kernel⟩, List.mem_of_getElem? (i := 525) (by decide +kernel), List.mem_of_getElem? (i := 641) (by decide +kernel), List.mem_of_getElem? (i := 642) (by decide +kernel)⟩
theorem lw_p30 : lw_okq (⟨"RoadTraceModel", "layFar", "()V"⟩, 23) := ⟨⟨by decide +kernel, by decide +kernel⟩, List.mem_of_getElem? (i := 525) (by decide +kernel), List.mem_of_getElem? (i := 649) (by decide +kernel), List.mem_of_getElem? (i := 650) (by decide +kernel)⟩
theorem lw_p31 : lw_okq (⟨"RoadTraceModel", "isSpot", "(I)Z"⟩, 23) := ⟨⟨by decide +kernel, by decide +kernel⟩, List.mem_of_getElem? (i := 525) (by decide +kernel), List.mem_of_getElem? (i := 658) (by decide +kernel), List.mem_of_getElem? (i := 659) (by decide +kernel)⟩
def lw_privs_2 : List (MethodName × Nat) := [(⟨"RoadTrace$Trace", "hasCandidate", "(II)Z"⟩, 14), (⟨"RoadTrace$Trace", "backsOf", "(II)I"⟩, 14), (⟨"RoadTrace$Trace", "cheapest", "(I)I"⟩, 14), (⟨"RoadTrace$Trace", "alive", "(I)I"⟩, 14), (⟨"RoadTrace$Trace", "stepStart", "(I)I"⟩, 14), (⟨"RoadTrace$Net", "wayOut", "(II)I"⟩, 9), (⟨"RoadTrace$Net", "nextCrossing", "(II)I"⟩, 9), (⟨"RoadTrace$Net", "leadsFrom", "(II)I"⟩, 9), (⟨"RoadTrace$Trace", "endsPiece", "(I)Z"⟩, 14), (⟨"RoadTrace", "tellCount", "(I)I"⟩, 2), (⟨"RoadTraceModel", "isCrossing", "(I)Z"⟩, 23), (⟨"RoadTraceModel", "length", "(I)I"⟩, 23), (⟨"RoadTraceModel", "spotX", "(II)I"⟩, 23), (⟨"RoadTraceModel", "spotY", "(II)I"⟩, 23), (⟨"RoadTraceModel", "layFar", "()V"⟩, 23), (⟨"RoadTraceModel", "isSpot", "(I)Z"⟩, 23)]
theorem lw_r2 : ∀ q ∈ lw_privs_2, lw_okq q := List.forall_mem_cons.mpr ⟨lw_p16, List.forall_mem_cons.mpr ⟨lw_p17, List.forall_mem_cons.mpr ⟨lw_p18, List.forall_mem_cons.mpr ⟨lw_p19, List.forall_mem_cons.mpr ⟨lw_p20, List.forall_mem_cons.mpr ⟨lw_p21, List.forall_mem_cons.mpr ⟨lw_p22, List.forall_mem_cons.mpr ⟨lw_p23, List.forall_mem_cons.mpr ⟨lw_p24, List.forall_mem_cons.mpr ⟨lw_p25, List.forall_mem_cons.mpr ⟨lw_p26, List.forall_mem_cons.mpr ⟨lw_p27, List.forall_mem_cons.mpr ⟨lw_p28, List.forall_mem_cons.mpr ⟨lw_p29, List.forall_mem_cons.mpr ⟨lw_p30, List.forall_mem_cons.mpr ⟨lw_p31, fun _ h => absurd h List.not_mem_nil⟩⟩⟩⟩⟩⟩⟩⟩⟩⟩⟩⟩⟩⟩⟩⟩
theorem lw_p32 : lw_okq (⟨"RoadTraceModel", "wayOf", "(II)I"⟩, 23) := ⟨⟨by decide +kernel, by decide +kernel⟩, List.mem_of_getElem? (i := 525) (by decide +kernel), List.mem_of_getElem? (i := 662) (by decide +kernel), List.mem_of_getElem? (i := 663) (by decide +kernel)⟩
theorem lw_p33 : lw_okq (⟨"RoadTraceModel", "leastOut", "(II)I"⟩, 23) := ⟨⟨by decide +kernel, by decide +kernel⟩, List.mem_of_getElem? (i := 525) (by decide +kernel), List.mem_of_getElem? (i := 666) (by decide +kernel), List.mem_of_getElem? (i := 667) (by decide +kernel)⟩
theorem lw_p34 : lw_okq (⟨"RoadTraceModel", "out", "(III)I"⟩, 23) := ⟨⟨by decide +kernel, by decide +kernel⟩, List.mem_of_getElem? (i := 525) (by decide +kernel), List.mem_of_getElem? (i := 670) (by decide +kernel), List.mem_of_getElem? (i := 671) (by decide +kernel)⟩
theorem lw_p35 : lw_okq (⟨"RoadTraceModel", "isFix", "(I)Z"⟩, 23) := ⟨⟨by decide +kernel, by decide +kernel⟩, List.mem_of_getElem? (i := 525) (by decide +kernel), List.mem_of_getElem? (i := 686) (by decide +kernel), List.mem_of_getElem? (i := 687) (by decide +kernel)⟩
theorem lw_p36 : lw_okq (⟨"RoadTraceModel", "layAll", "()V"⟩, 23) := ⟨⟨by decide +kernel, by decide +kernel⟩, List.mem_of_getElem? (i := 525) (by decide +kernel), List.mem_of_getElem? (i := 690) (by decide +kernel), List.mem_of_getElem? (i := 691) (by decide +kernel)⟩
theorem lw_p37 : lw_okq (⟨"RoadTraceModel", "layCandidates", "(I)V"⟩, 23) := ⟨⟨by decide +kernel, by decide +kernel⟩, List.mem_of_getElem? (i := 525) (by decide +kernel), List.mem_of_getElem? (i := 694) (by decide +kernel), List.mem_of_getElem? (i := 695) (by decide +kernel)⟩
theorem lw_p38 : lw_okq (⟨"RoadTraceModel", "nearest", "(III)I"⟩, 23) := ⟨⟨by decide +kernel, by decide +kernel⟩, List.mem_of_getElem? (i := 525) (by decide +kernel), List.mem_of_getElem? (i := 698) (by decide +kernel), List.mem_of_getElem? (i := 699) (by decide +kernel)⟩
theorem lw_p39 : lw_okq (⟨"RoadTraceModel", "goOn", "(II)Z"⟩, 23) := ⟨⟨by decide +kernel, by decide +kernel⟩, List.mem_of_getElem? (i := 525) (by decide +kernel), List.mem_of_getElem? (i := 702) (by decide +kernel), List.mem_of_getElem? (i := 703) (by decide +kernel)⟩
theorem lw_p40 : lw_okq (⟨"RoadTraceModel", "begin", "(I)V"⟩, 23) := ⟨⟨by decide +kernel, by decide +kernel⟩, List.mem_of_getElem? (i := 525) (by decide +kernel), List.mem_of_getElem? (i := 706) (by decide +kernel), List.mem_of_getElem? (i := 707) (by decide +kernel)⟩
theorem lw_p41 : lw_okq (⟨"RoadTraceModel", "next", "(I)I"⟩, 23) := ⟨⟨by decide +kernel, by decide +kernel⟩, List.mem_of_getElem? (i := 525) (by decide +kernel), List.mem_of_getElem? (i := 710) (by decide +kernel), List.mem_of_getElem? (i := 711) (by decide +kernel)⟩
theorem lw_p42 : lw_okq (⟨"RoadTraceModel", "leastAt", "(I)I"⟩, 23) := ⟨⟨by decide +kernel, by decide +kernel⟩, List.mem_of_getElem? (i := 525) (by decide +kernel), List.mem_of_getElem? (i := 714) (by decide +kernel), List.mem_of_getElem? (i := 715) (by decide +kernel)⟩
theorem lw_p43 : lw_okq (⟨"RoadTraceModel", "isDecided", "(I)Z"⟩, 23) := ⟨⟨by decide +kernel, by decide +kernel⟩, List.mem_of_getElem? (i := 525) (by decide +kernel), List.mem_of_getElem? (i := 726) (by decide +kernel), List.mem_of_getElem? (i := 727) (by decide +kernel)⟩
theorem lw_p44 : lw_okq (⟨"RoadTraceModel", "origin", "(III)I"⟩, 23) := ⟨⟨by decide +kernel, by decide +kernel⟩, List.mem_of_getElem? (i := 525) (by decide +kernel), List.mem_of_getElem? (i := 730) (by decide +kernel), List.mem_of_getElem? (i := 731) (by decide +kernel)⟩
theorem lw_p45 : lw_okq (⟨"RoadTraceModel", "stepOf", "(I)I"⟩, 23) := ⟨⟨by decide +kernel, by decide +kernel⟩, List.mem_of_getElem? (i := 525) (by decide +kernel), List.mem_of_getElem? (i := 742) (by decide +kernel), List.mem_of_getElem? (i := 743) (by decide +kernel)⟩
theorem lw_p46 : lw_okq (⟨"RoadTraceModel", "onward", "(II)I"⟩, 23) := ⟨⟨by decide +kernel, by decide +kernel⟩, List.mem_of_getElem? (i := 525) (by decide +kernel), List.mem_of_getElem? (i := 750) (by decide +kernel), List.mem_of_getElem? (i := 751) (by decide +kernel)⟩
def lw_privs_3 : List (MethodName × Nat) := [(⟨"RoadTraceModel", "wayOf", "(II)I"⟩, 23), (⟨"RoadTraceModel", "leastOut", "(II)I"⟩, 23), (⟨"RoadTraceModel", "out", "(III)I"⟩, 23), (⟨"RoadTraceModel", "isFix", "(I)Z"⟩, 23), (⟨"RoadTraceModel", "layAll", "()V"⟩, 23), (⟨"RoadTraceModel", "layCandidates", "(I)V"⟩, 23), (⟨"RoadTraceModel", "nearest", "(III)I"⟩, 23), (⟨"RoadTraceModel", "goOn", "(II)Z"⟩, 23), (⟨"RoadTraceModel", "begin", "(I)V"⟩, 23), (⟨"RoadTraceModel", "next", "(I)I"⟩, 23), (⟨"RoadTraceModel", "leastAt", "(I)I"⟩, 23), (⟨"RoadTraceModel", "isDecided", "(I)Z"⟩, 23), (⟨"RoadTraceModel", "origin", "(III)I"⟩, 23), (⟨"RoadTraceModel", "stepOf", "(I)I"⟩, 23), (⟨"RoadTraceModel", "onward", "(II)I"⟩, 23)]
theorem lw_r3 : ∀ q ∈ lw_privs_3, lw_okq q := List.forall_mem_cons.mpr ⟨lw_p32, List.forall_mem_cons.mpr ⟨lw_p33, List.forall_mem_cons.mpr ⟨lw_p34, List.forall_mem_cons.mpr ⟨lw_p35, List.forall_mem_cons.mpr ⟨lw_p36, List.forall_mem_cons.mpr ⟨lw_p37, List.forall_mem_cons.mpr ⟨lw_p38, List.forall_mem_cons.mpr ⟨lw_p39, List.forall_mem_cons.mpr ⟨lw_p40, List.forall_mem_cons.mpr ⟨lw_p41, List.forall_mem_cons.mpr ⟨lw_p42, List.forall_mem_cons.mpr ⟨lw_p43, List.forall_mem_cons.mpr ⟨lw_p44, List.forall_mem_cons.mpr ⟨lw_p45, List.forall_mem_cons.mpr ⟨lw_p46, fun _ h => absurd h List.not_mem_nil⟩⟩⟩⟩⟩⟩⟩⟩⟩⟩⟩⟩⟩⟩⟩
def lw_privs : List (MethodName × Nat) := lw_privs_1 ++ (lw_privs_2 ++ (lw_privs_3))
def lw_tbl : List Cond := k2_sels lw_privs ++ tables_1
theorem lw_privs_ok : ∀ q ∈ lw_privs, lw_okq q := by
  show ∀ q ∈ lw_privs_1 ++ (lw_privs_2 ++ (lw_privs_3)), lw_okq q
  exact List.forall_mem_append.mpr ⟨lw_r1, List.forall_mem_append.mpr ⟨lw_r2, lw_r3⟩⟩

def RX0 : String := "RoadTrace$Net"
def TX0 : u_T := fun k => match k with
  | 0 => ("RoadTrace$Net", "crossings", "I", false)
  | 1 => ("RoadTrace$Net", "roads", "I", false)
  | 2 => ("RoadTrace$Net", "xs", "[I", true)
  | 3 => ("RoadTrace$Net", "ys", "[I", true)
  | 4 => ("RoadTrace$Net", "firsts", "[I", true)
  | 5 => ("RoadTrace$Net", "lasts", "[I", true)
  | 6 => ("RoadTrace$Net", "kinds", "[I", true)
  | 7 => ("RoadTrace$Net", "lengths", "[I", true)
  | _ => ("RoadTrace$Net", "least", "[I", true)
def tyX0 : Nat → FieldType := fun k => match k with
  | 0 => .int
  | 1 => .int
  | 2 => .array .int
  | 3 => .array .int
  | 4 => .array .int
  | 5 => .array .int
  | 6 => .array .int
  | 7 => .array .int
  | _ => .array .int
theorem nmX0 : ∀ a, a < 9 → ∀ b, b < 9 → a ≠ b → (TX0 a).2.1 ≠ (TX0 b).2.1 := by decide +kernel
theorem tyX0_ok : ∀ k, k < 9 → parseFieldDescriptor (TX0 k).2.2.1 = some (tyX0 k) := by decide +kernel
def RX1 : String := "RoadTrace$Rules"
def TX1 : u_T := fun k => match k with
  | _ => ("RoadTrace$Rules", "values", "[I", true)
def tyX1 : Nat → FieldType := fun k => match k with
  | _ => .array .int
theorem nmX1 : ∀ a, a < 1 → ∀ b, b < 1 → a ≠ b → (TX1 a).2.1 ≠ (TX1 b).2.1 := by decide +kernel
theorem tyX1_ok : ∀ k, k < 1 → parseFieldDescriptor (TX1 k).2.2.1 = some (tyX1 k) := by decide +kernel
def RX2 : String := "RoadTrace$State"
def TX2 : u_T := fun k => match k with
  | 0 => ("RoadTrace$State", "net", "LRoadTrace$Net;", true)
  | 1 => ("RoadTrace$State", "rules", "LRoadTrace$Rules;", true)
  | 2 => ("RoadTrace$State", "trace", "LRoadTrace$Trace;", true)
  | _ => ("RoadTrace$State", "kept", "Z", false)
def tyX2 : Nat → FieldType := fun k => match k with
  | 0 => .object "RoadTrace$Net"
  | 1 => .object "RoadTrace$Rules"
  | 2 => .object "RoadTrace$Trace"
  | _ => .boolean
theorem nmX2 : ∀ a, a < 4 → ∀ b, b < 4 → a ≠ b → (TX2 a).2.1 ≠ (TX2 b).2.1 := by decide +kernel
theorem tyX2_ok : ∀ k, k < 4 → parseFieldDescriptor (TX2 k).2.2.1 = some (tyX2 k) := by decide +kernel
def RX3 : String := "RoadTrace$Trace"
def TX3 : u_T := fun k => match k with
  | 0 => ("RoadTrace$Trace", "net", "LRoadTrace$Net;", true)
  | 1 => ("RoadTrace$Trace", "rules", "LRoadTrace$Rules;", true)
  | 2 => ("RoadTrace$Trace", "fixes", "I", false)
  | 3 => ("RoadTrace$Trace", "xs", "[I", true)
  | 4 => ("RoadTrace$Trace", "ys", "[I", true)
  | 5 => ("RoadTrace$Trace", "counts", "[I", true)
  | 6 => ("RoadTrace$Trace", "pieces", "[I", true)
  | 7 => ("RoadTrace$Trace", "befores", "[I", true)
  | 8 => ("RoadTrace$Trace", "spots", "[I", true)
  | 9 => ("RoadTrace$Trace", "aparts", "[I", true)
  | 10 => ("RoadTrace$Trace", "costs", "[I", true)
  | 11 => ("RoadTrace$Trace", "backs", "[I", true)
  | 12 => ("RoadTrace$Trace", "chosens", "[I", true)
  | _ => ("RoadTrace$Trace", "decideds", "[Z", true)
def tyX3 : Nat → FieldType := fun k => match k with
  | 0 => .object "RoadTrace$Net"
  | 1 => .object "RoadTrace$Rules"
  | 2 => .int
  | 3 => .array .int
  | 4 => .array .int
  | 5 => .array .int
  | 6 => .array .int
  | 7 => .array .int
  | 8 => .array .int
  | 9 => .array .int
  | 10 => .array .int
  | 11 => .array .int
  | 12 => .array .int
  | _ => .array .boolean
theorem nmX3 : ∀ a, a < 14 → ∀ b, b < 14 → a ≠ b → (TX3 a).2.1 ≠ (TX3 b).2.1 := by decide +kernel
theorem tyX3_ok : ∀ k, k < 14 → parseFieldDescriptor (TX3 k).2.2.1 = some (tyX3 k) := by decide +kernel
def RX4 : String := "RoadTrace"
def TX4 : u_T := fun k => match k with
  | 0 => ("RoadTrace", "now", "LRoadTrace$State;", true)
  | _ => ("RoadTrace", "images", "[LRoadTrace$State;", true)
def tyX4 : Nat → FieldType := fun k => match k with
  | 0 => .object "RoadTrace$State"
  | _ => .array (.object "RoadTrace$State")
theorem nmX4 : ∀ a, a < 2 → ∀ b, b < 2 → a ≠ b → (TX4 a).2.1 ≠ (TX4 b).2.1 := by decide +kernel
theorem tyX4_ok : ∀ k, k < 2 → parseFieldDescriptor (TX4 k).2.2.1 = some (tyX4 k) := by decide +kernel
def RX5 : String := "RoadTraceModel"
def TX5 : u_T := fun k => match k with
  | 0 => ("RoadTraceModel", "crossX", "[I", true)
  | 1 => ("RoadTraceModel", "crossY", "[I", true)
  | 2 => ("RoadTraceModel", "crossings", "I", false)
  | 3 => ("RoadTraceModel", "first", "[I", true)
  | 4 => ("RoadTraceModel", "last", "[I", true)
  | 5 => ("RoadTraceModel", "ways", "[I", true)
  | 6 => ("RoadTraceModel", "roads", "I", false)
  | 7 => ("RoadTraceModel", "rules", "[I", true)
  | 8 => ("RoadTraceModel", "fixX", "[I", true)
  | 9 => ("RoadTraceModel", "fixY", "[I", true)
  | 10 => ("RoadTraceModel", "fixes", "I", false)
  | 11 => ("RoadTraceModel", "far", "[I", true)
  | 12 => ("RoadTraceModel", "spot", "[I", true)
  | 13 => ("RoadTraceModel", "side", "[I", true)
  | 14 => ("RoadTraceModel", "cost", "[I", true)
  | 15 => ("RoadTraceModel", "back", "[I", true)
  | 16 => ("RoadTraceModel", "many", "[I", true)
  | 17 => ("RoadTraceModel", "piece", "[I", true)
  | 18 => ("RoadTraceModel", "ahead", "[I", true)
  | 19 => ("RoadTraceModel", "best", "[I", true)
  | 20 => ("RoadTraceModel", "pieces", "I", false)
  | 21 => ("RoadTraceModel", "image", "[I", true)
  | _ => ("RoadTraceModel", "isKept", "[Z", true)
def tyX5 : Nat → FieldType := fun k => match k with
  | 0 => .array .int
  | 1 => .array .int
  | 2 => .int
  | 3 => .array .int
  | 4 => .array .int
  | 5 => .array .int
  | 6 => .int
  | 7 => .array .int
  | 8 => .array .int
  | 9 => .array .int
  | 10 => .int
  | 11 => .array .int
  | 12 => .array .int
  | 13 => .array .int
  | 14 => .array .int
  | 15 => .array .int
  | 16 => .array .int
  | 17 => .array .int
  | 18 => .array .int
  | 19 => .array .int
  | 20 => .int
  | 21 => .array .int
  | _ => .array .boolean
theorem nmX5 : ∀ a, a < 23 → ∀ b, b < 23 → a ≠ b → (TX5 a).2.1 ≠ (TX5 b).2.1 := by decide +kernel
theorem tyX5_ok : ∀ k, k < 23 → parseFieldDescriptor (TX5 k).2.2.1 = some (tyX5 k) := by decide +kernel
abbrev vwCl : List vw_C := [(RX0, TX0, 9), (RX1, TX1, 1), (RX2, TX2, 4), (RX3, TX3, 14), (RX4, TX4, 2), (RX5, TX5, 23)]
def RL : String := "RoadTraceLaw"
def gw_tbl : List Jvm.Cond := lw_tbl.filter goodWord
theorem mg {i : Nat} {w : Jvm.Cond} (h : lw_tbl[i]? = some w) (h2 : goodWord w = true) : w ∈ gw_tbl := List.mem_filter.mpr ⟨List.mem_of_getElem? h, h2⟩
theorem gw_in : ∀ w ∈ gw_tbl, w ∈ lw_tbl := fun _ h => (List.mem_filter.mp h).1
theorem gw_good : GoodIn gw_tbl gw_tbl := fun w h => ⟨h, good_of_word (List.mem_filter.mp h).2⟩
theorem gw_goodL : GoodIn lw_tbl gw_tbl := fun w h => ⟨gw_in w h, good_of_word (List.mem_filter.mp h).2⟩
theorem inX0 : ∀ w ∈ u_ws RX0 TX0 9, w ∈ gw_tbl := by decide +kernel
theorem inX1 : ∀ w ∈ u_ws RX1 TX1 1, w ∈ gw_tbl := by decide +kernel
theorem inX2 : ∀ w ∈ u_ws RX2 TX2 4, w ∈ gw_tbl := by decide +kernel
theorem inX3 : ∀ w ∈ u_ws RX3 TX3 14, w ∈ gw_tbl := by decide +kernel
theorem inX4 : ∀ w ∈ u_ws RX4 TX4 2, w ∈ gw_tbl := by decide +kernel
theorem inX5 : ∀ w ∈ u_ws RX5 TX5 23, w ∈ gw_tbl := by decide +kernel
theorem tw1 : (Jvm.Cond.initialized "RoadTrace") ∈ gw_tbl := mg (i := 48) (by decide +kernel) (by decide +kernel)
theorem tw2 : (Jvm.Cond.initialized "RoadTrace$State") ∈ gw_tbl := mg (i := 49) (by decide +kernel) (by decide +kernel)
theorem tw3 : (Jvm.Cond.initialized "RoadTrace$Net") ∈ gw_tbl := mg (i := 50) (by decide +kernel) (by decide +kernel)
theorem tw4 : (Jvm.Cond.initialized "RoadTrace$Rules") ∈ gw_tbl := mg (i := 51) (by decide +kernel) (by decide +kernel)
theorem tw5 : (Jvm.Cond.initialized "RoadTrace$Trace") ∈ gw_tbl := mg (i := 52) (by decide +kernel) (by decide +kernel)
theorem tw6 : (Jvm.Cond.initialized "RoadTraceModel") ∈ gw_tbl := mg (i := 53) (by decide +kernel) (by decide +kernel)
theorem tw7 : (Jvm.Cond.initialized "java/lang/Math") ∈ gw_tbl := mg (i := 54) (by decide +kernel) (by decide +kernel)
theorem tw8 : (Jvm.Cond.initialized "java/lang/Integer") ∈ gw_tbl := mg (i := 55) (by decide +kernel) (by decide +kernel)
theorem tw9 : (Jvm.Cond.initialized "java/lang/System") ∈ gw_tbl := mg (i := 56) (by decide +kernel) (by decide +kernel)
theorem tw30 : (Jvm.Cond.fieldLink "RoadTrace$Net" (33 : Nat) "RoadTrace$Net" "crossings" "I") ∈ gw_tbl := mg (i := 77) (by decide +kernel) (by decide +kernel)
theorem tw31 : (Jvm.Cond.fieldLink "RoadTrace" (43 : Nat) "RoadTrace$Net" "crossings" "I") ∈ gw_tbl := mg (i := 78) (by decide +kernel) (by decide +kernel)
theorem tw32 : (Jvm.Cond.fieldLink "RoadTrace$Net" (37 : Nat) "RoadTrace$Net" "roads" "I") ∈ gw_tbl := mg (i := 79) (by decide +kernel) (by decide +kernel)
theorem tw33 : (Jvm.Cond.fieldLink "RoadTrace" (60 : Nat) "RoadTrace$Net" "roads" "I") ∈ gw_tbl := mg (i := 80) (by decide +kernel) (by decide +kernel)
theorem tw34 : (Jvm.Cond.fieldLink "RoadTrace$Trace" (84 : Nat) "RoadTrace$Net" "roads" "I") ∈ gw_tbl := mg (i := 81) (by decide +kernel) (by decide +kernel)
theorem tw35 : (Jvm.Cond.fieldLink "RoadTrace$Net" (9 : Nat) "RoadTrace$Net" "xs" "[I") ∈ gw_tbl := mg (i := 82) (by decide +kernel) (by decide +kernel)
theorem tw36 : (Jvm.Cond.fieldLink "RoadTrace$Net" (15 : Nat) "RoadTrace$Net" "ys" "[I") ∈ gw_tbl := mg (i := 83) (by decide +kernel) (by decide +kernel)
theorem tw37 : (Jvm.Cond.fieldLink "RoadTrace$Net" (18 : Nat) "RoadTrace$Net" "firsts" "[I") ∈ gw_tbl := mg (i := 84) (by decide +kernel) (by decide +kernel)
theorem tw38 : (Jvm.Cond.fieldLink "RoadTrace$Net" (21 : Nat) "RoadTrace$Net" "lasts" "[I") ∈ gw_tbl := mg (i := 85) (by decide +kernel) (by decide +kernel)
theorem tw39 : (Jvm.Cond.fieldLink "RoadTrace$Net" (24 : Nat) "RoadTrace$Net" "kinds" "[I") ∈ gw_tbl := mg (i := 86) (by decide +kernel) (by decide +kernel)
theorem tw40 : (Jvm.Cond.fieldLink "RoadTrace$Net" (27 : Nat) "RoadTrace$Net" "lengths" "[I") ∈ gw_tbl := mg (i := 87) (by decide +kernel) (by decide +kernel)
theorem tw41 : (Jvm.Cond.fieldLink "RoadTrace$Net" (30 : Nat) "RoadTrace$Net" "least" "[I") ∈ gw_tbl := mg (i := 88) (by decide +kernel) (by decide +kernel)
theorem tw68 : (Jvm.Cond.fieldLink "RoadTrace$Rules" (9 : Nat) "RoadTrace$Rules" "values" "[I") ∈ gw_tbl := mg (i := 115) (by decide +kernel) (by decide +kernel)
theorem tw69 : (Jvm.Cond.fieldLink "RoadTrace$Trace" (93 : Nat) "RoadTrace$Rules" "values" "[I") ∈ gw_tbl := mg (i := 116) (by decide +kernel) (by decide +kernel)
theorem tw79 : (Jvm.Cond.fieldLink "RoadTrace$Trace" (46 : Nat) "RoadTrace$Trace" "net" "LRoadTrace$Net;") ∈ gw_tbl := mg (i := 126) (by decide +kernel) (by decide +kernel)
theorem tw80 : (Jvm.Cond.fieldLink "RoadTrace$Trace" (50 : Nat) "RoadTrace$Trace" "rules" "LRoadTrace$Rules;") ∈ gw_tbl := mg (i := 127) (by decide +kernel) (by decide +kernel)
theorem tw81 : (Jvm.Cond.fieldLink "RoadTrace$Trace" (54 : Nat) "RoadTrace$Trace" "fixes" "I") ∈ gw_tbl := mg (i := 128) (by decide +kernel) (by decide +kernel)
theorem tw82 : (Jvm.Cond.fieldLink "RoadTrace" (28 : Nat) "RoadTrace$Trace" "fixes" "I") ∈ gw_tbl := mg (i := 129) (by decide +kernel) (by decide +kernel)
theorem tw83 : (Jvm.Cond.fieldLink "RoadTrace$Trace" (9 : Nat) "RoadTrace$Trace" "xs" "[I") ∈ gw_tbl := mg (i := 130) (by decide +kernel) (by decide +kernel)
theorem tw84 : (Jvm.Cond.fieldLink "RoadTrace$Trace" (15 : Nat) "RoadTrace$Trace" "ys" "[I") ∈ gw_tbl := mg (i := 131) (by decide +kernel) (by decide +kernel)
theorem tw85 : (Jvm.Cond.fieldLink "RoadTrace$Trace" (18 : Nat) "RoadTrace$Trace" "counts" "[I") ∈ gw_tbl := mg (i := 132) (by decide +kernel) (by decide +kernel)
theorem tw86 : (Jvm.Cond.fieldLink "RoadTrace" (101 : Nat) "RoadTrace$Trace" "counts" "[I") ∈ gw_tbl := mg (i := 133) (by decide +kernel) (by decide +kernel)
theorem tw87 : (Jvm.Cond.fieldLink "RoadTrace$Trace" (21 : Nat) "RoadTrace$Trace" "pieces" "[I") ∈ gw_tbl := mg (i := 134) (by decide +kernel) (by decide +kernel)
theorem tw88 : (Jvm.Cond.fieldLink "RoadTrace" (117 : Nat) "RoadTrace$Trace" "pieces" "[I") ∈ gw_tbl := mg (i := 135) (by decide +kernel) (by decide +kernel)
theorem tw89 : (Jvm.Cond.fieldLink "RoadTrace$Trace" (24 : Nat) "RoadTrace$Trace" "befores" "[I") ∈ gw_tbl := mg (i := 136) (by decide +kernel) (by decide +kernel)
theorem tw90 : (Jvm.Cond.fieldLink "RoadTrace$Trace" (27 : Nat) "RoadTrace$Trace" "spots" "[I") ∈ gw_tbl := mg (i := 137) (by decide +kernel) (by decide +kernel)
theorem tw91 : (Jvm.Cond.fieldLink "RoadTrace$Trace" (30 : Nat) "RoadTrace$Trace" "aparts" "[I") ∈ gw_tbl := mg (i := 138) (by decide +kernel) (by decide +kernel)
theorem tw92 : (Jvm.Cond.fieldLink "RoadTrace$Trace" (33 : Nat) "RoadTrace$Trace" "costs" "[I") ∈ gw_tbl := mg (i := 139) (by decide +kernel) (by decide +kernel)
theorem tw93 : (Jvm.Cond.fieldLink "RoadTrace$Trace" (36 : Nat) "RoadTrace$Trace" "backs" "[I") ∈ gw_tbl := mg (i := 140) (by decide +kernel) (by decide +kernel)
theorem tw94 : (Jvm.Cond.fieldLink "RoadTrace$Trace" (39 : Nat) "RoadTrace$Trace" "chosens" "[I") ∈ gw_tbl := mg (i := 141) (by decide +kernel) (by decide +kernel)
theorem tw95 : (Jvm.Cond.fieldLink "RoadTrace$Trace" (42 : Nat) "RoadTrace$Trace" "decideds" "[Z") ∈ gw_tbl := mg (i := 142) (by decide +kernel) (by decide +kernel)
theorem tw96 : (Jvm.Cond.fieldLink "RoadTrace" (113 : Nat) "RoadTrace$Trace" "decideds" "[Z") ∈ gw_tbl := mg (i := 143) (by decide +kernel) (by decide +kernel)
theorem tw127 : (Jvm.Cond.fieldLink "RoadTrace$State" (10 : Nat) "RoadTrace$State" "net" "LRoadTrace$Net;") ∈ gw_tbl := mg (i := 174) (by decide +kernel) (by decide +kernel)
theorem tw128 : (Jvm.Cond.fieldLink "RoadTrace" (34 : Nat) "RoadTrace$State" "net" "LRoadTrace$Net;") ∈ gw_tbl := mg (i := 175) (by decide +kernel) (by decide +kernel)
theorem tw129 : (Jvm.Cond.fieldLink "RoadTrace$State" (19 : Nat) "RoadTrace$State" "rules" "LRoadTrace$Rules;") ∈ gw_tbl := mg (i := 176) (by decide +kernel) (by decide +kernel)
theorem tw130 : (Jvm.Cond.fieldLink "RoadTrace" (67 : Nat) "RoadTrace$State" "rules" "LRoadTrace$Rules;") ∈ gw_tbl := mg (i := 177) (by decide +kernel) (by decide +kernel)
theorem tw131 : (Jvm.Cond.fieldLink "RoadTrace$State" (28 : Nat) "RoadTrace$State" "trace" "LRoadTrace$Trace;") ∈ gw_tbl := mg (i := 178) (by decide +kernel) (by decide +kernel)
theorem tw132 : (Jvm.Cond.fieldLink "RoadTrace" (24 : Nat) "RoadTrace$State" "trace" "LRoadTrace$Trace;") ∈ gw_tbl := mg (i := 179) (by decide +kernel) (by decide +kernel)
theorem tw133 : (Jvm.Cond.fieldLink "RoadTrace$State" (32 : Nat) "RoadTrace$State" "kept" "Z") ∈ gw_tbl := mg (i := 180) (by decide +kernel) (by decide +kernel)
theorem tw134 : (Jvm.Cond.fieldLink "RoadTrace" (146 : Nat) "RoadTrace$State" "kept" "Z") ∈ gw_tbl := mg (i := 181) (by decide +kernel) (by decide +kernel)
theorem tw145 : (Jvm.Cond.fieldLink "RoadTrace" (10 : Nat) "RoadTrace" "now" "LRoadTrace$State;") ∈ gw_tbl := mg (i := 192) (by decide +kernel) (by decide +kernel)
theorem tw146 : (Jvm.Cond.fieldLink "RoadTrace" (16 : Nat) "RoadTrace" "images" "[LRoadTrace$State;") ∈ gw_tbl := mg (i := 193) (by decide +kernel) (by decide +kernel)
theorem tw152 : (Jvm.Cond.methodLink "RoadTraceLaw" (13 : Nat) ({ cls := "RoadTrace", name := "crossing", desc := "(II)I" } : Jvm.MethodName)) ∈ gw_tbl := mg (i := 199) (by decide +kernel) (by decide +kernel)
theorem tw153 : (Jvm.Cond.instanceMethod ({ cls := "RoadTrace", name := "crossing", desc := "(II)I" } : Jvm.MethodName)) ∈ gw_tbl := mg (i := 200) (by decide +kernel) (by decide +kernel)
theorem tw154 : (Jvm.Cond.selects "RoadTrace" ({ cls := "RoadTrace", name := "crossing", desc := "(II)I" } : Jvm.MethodName) ({ cls := "RoadTrace", name := "crossing", desc := "(II)I" } : Jvm.MethodName)) ∈ gw_tbl := mg (i := 201) (by decide +kernel) (by decide +kernel)
theorem tw155 : (Jvm.Cond.code ({ cls := "RoadTrace", name := "crossing", desc := "(II)I" } : Jvm.MethodName) prog_1_method_2_code (3 : Nat) (Option.some Jvm.ClassFile.FieldType.int)) ∈ gw_tbl := mg (i := 202) (by decide +kernel) (by decide +kernel)
theorem tw156 : (Jvm.Cond.methodLink "RoadTrace" (20 : Nat) ({ cls := "RoadTrace", name := "isPlace", desc := "(II)Z" } : Jvm.MethodName)) ∈ gw_tbl := mg (i := 203) (by decide +kernel) (by decide +kernel)
theorem tw157 : (Jvm.Cond.static ({ cls := "RoadTrace", name := "isPlace", desc := "(II)Z" } : Jvm.MethodName)) ∈ gw_tbl := mg (i := 204) (by decide +kernel) (by decide +kernel)
theorem tw158 : (Jvm.Cond.code ({ cls := "RoadTrace", name := "isPlace", desc := "(II)Z" } : Jvm.MethodName) prog_1_method_21_code (2 : Nat) (Option.some Jvm.ClassFile.FieldType.boolean)) ∈ gw_tbl := mg (i := 205) (by decide +kernel) (by decide +kernel)
theorem tw159 : (Jvm.Cond.methodLink "RoadTrace" (38 : Nat) ({ cls := "RoadTrace$Net", name := "isTaken", desc := "(II)Z" } : Jvm.MethodName)) ∈ gw_tbl := mg (i := 206) (by decide +kernel) (by decide +kernel)
theorem tw160 : (Jvm.Cond.instanceMethod ({ cls := "RoadTrace$Net", name := "isTaken", desc := "(II)Z" } : Jvm.MethodName)) ∈ gw_tbl := mg (i := 207) (by decide +kernel) (by decide +kernel)
theorem tw161 : (Jvm.Cond.selects "RoadTrace$Net" ({ cls := "RoadTrace$Net", name := "isTaken", desc := "(II)Z" } : Jvm.MethodName) ({ cls := "RoadTrace$Net", name := "isTaken", desc := "(II)Z" } : Jvm.MethodName)) ∈ gw_tbl := mg (i := 208) (by decide +kernel) (by decide +kernel)
theorem tw162 : (Jvm.Cond.code ({ cls := "RoadTrace$Net", name := "isTaken", desc := "(II)Z" } : Jvm.MethodName) prog_2_method_5_code (4 : Nat) (Option.some Jvm.ClassFile.FieldType.boolean)) ∈ gw_tbl := mg (i := 209) (by decide +kernel) (by decide +kernel)
theorem tw163 : (Jvm.Cond.methodLink "RoadTrace" (46 : Nat) ({ cls := "RoadTrace$Net", name := "addCrossing", desc := "(II)V" } : Jvm.MethodName)) ∈ gw_tbl := mg (i := 210) (by decide +kernel) (by decide +kernel)
theorem tw164 : (Jvm.Cond.instanceMethod ({ cls := "RoadTrace$Net", name := "addCrossing", desc := "(II)V" } : Jvm.MethodName)) ∈ gw_tbl := mg (i := 211) (by decide +kernel) (by decide +kernel)
theorem tw165 : (Jvm.Cond.selects "RoadTrace$Net" ({ cls := "RoadTrace$Net", name := "addCrossing", desc := "(II)V" } : Jvm.MethodName) ({ cls := "RoadTrace$Net", name := "addCrossing", desc := "(II)V" } : Jvm.MethodName)) ∈ gw_tbl := mg (i := 212) (by decide +kernel) (by decide +kernel)
theorem tw166 : (Jvm.Cond.code ({ cls := "RoadTrace$Net", name := "addCrossing", desc := "(II)V" } : Jvm.MethodName) prog_2_method_8_code (5 : Nat) (Option.none : Option Jvm.ClassFile.FieldType)) ∈ gw_tbl := mg (i := 213) (by decide +kernel) (by decide +kernel)
theorem tw167 : (Jvm.Cond.methodLink "RoadTrace$Net" (44 : Nat) ({ cls := "RoadTrace$Net", name := "pair", desc := "(II)I" } : Jvm.MethodName)) ∈ gw_tbl := mg (i := 214) (by decide +kernel) (by decide +kernel)
theorem tw168 : (Jvm.Cond.static ({ cls := "RoadTrace$Net", name := "pair", desc := "(II)I" } : Jvm.MethodName)) ∈ gw_tbl := mg (i := 215) (by decide +kernel) (by decide +kernel)
theorem tw169 : (Jvm.Cond.code ({ cls := "RoadTrace$Net", name := "pair", desc := "(II)I" } : Jvm.MethodName) prog_2_method_12_code (2 : Nat) (Option.some Jvm.ClassFile.FieldType.int)) ∈ gw_tbl := mg (i := 216) (by decide +kernel) (by decide +kernel)
theorem tw170 : (Jvm.Cond.methodLink "RoadTraceLaw" (18 : Nat) ({ cls := "RoadTrace", name := "road", desc := "(III)I" } : Jvm.MethodName)) ∈ gw_tbl := mg (i := 217) (by decide +kernel) (by decide +kernel)
theorem tw171 : (Jvm.Cond.instanceMethod ({ cls := "RoadTrace", name := "road", desc := "(III)I" } : Jvm.MethodName)) ∈ gw_tbl := mg (i := 218) (by decide +kernel) (by decide +kernel)
theorem tw172 : (Jvm.Cond.selects "RoadTrace" ({ cls := "RoadTrace", name := "road", desc := "(III)I" } : Jvm.MethodName) ({ cls := "RoadTrace", name := "road", desc := "(III)I" } : Jvm.MethodName)) ∈ gw_tbl := mg (i := 219) (by decide +kernel) (by decide +kernel)
theorem tw173 : (Jvm.Cond.code ({ cls := "RoadTrace", name := "road", desc := "(III)I" } : Jvm.MethodName) prog_1_method_3_code (5 : Nat) (Option.some Jvm.ClassFile.FieldType.int)) ∈ gw_tbl := mg (i := 220) (by decide +kernel) (by decide +kernel)
theorem tw174 : (Jvm.Cond.methodLink "RoadTrace" (50 : Nat) ({ cls := "RoadTrace$Net", name := "hasCrossing", desc := "(I)Z" } : Jvm.MethodName)) ∈ gw_tbl := mg (i := 221) (by decide +kernel) (by decide +kernel)
theorem tw175 : (Jvm.Cond.instanceMethod ({ cls := "RoadTrace$Net", name := "hasCrossing", desc := "(I)Z" } : Jvm.MethodName)) ∈ gw_tbl := mg (i := 222) (by decide +kernel) (by decide +kernel)
theorem tw176 : (Jvm.Cond.selects "RoadTrace$Net" ({ cls := "RoadTrace$Net", name := "hasCrossing", desc := "(I)Z" } : Jvm.MethodName) ({ cls := "RoadTrace$Net", name := "hasCrossing", desc := "(I)Z" } : Jvm.MethodName)) ∈ gw_tbl := mg (i := 223) (by decide +kernel) (by decide +kernel)
theorem tw177 : (Jvm.Cond.code ({ cls := "RoadTrace$Net", name := "hasCrossing", desc := "(I)Z" } : Jvm.MethodName) prog_2_method_2_code (2 : Nat) (Option.some Jvm.ClassFile.FieldType.boolean)) ∈ gw_tbl := mg (i := 224) (by decide +kernel) (by decide +kernel)
theorem tw178 : (Jvm.Cond.methodLink "RoadTrace" (54 : Nat) ({ cls := "RoadTrace$Net", name := "areInOneRow", desc := "(II)Z" } : Jvm.MethodName)) ∈ gw_tbl := mg (i := 225) (by decide +kernel) (by decide +kernel)
theorem tw179 : (Jvm.Cond.instanceMethod ({ cls := "RoadTrace$Net", name := "areInOneRow", desc := "(II)Z" } : Jvm.MethodName)) ∈ gw_tbl := mg (i := 226) (by decide +kernel) (by decide +kernel)
theorem tw180 : (Jvm.Cond.selects "RoadTrace$Net" ({ cls := "RoadTrace$Net", name := "areInOneRow", desc := "(II)Z" } : Jvm.MethodName) ({ cls := "RoadTrace$Net", name := "areInOneRow", desc := "(II)Z" } : Jvm.MethodName)) ∈ gw_tbl := mg (i := 227) (by decide +kernel) (by decide +kernel)
theorem tw181 : (Jvm.Cond.code ({ cls := "RoadTrace$Net", name := "areInOneRow", desc := "(II)Z" } : Jvm.MethodName) prog_2_method_6_code (3 : Nat) (Option.some Jvm.ClassFile.FieldType.boolean)) ∈ gw_tbl := mg (i := 228) (by decide +kernel) (by decide +kernel)
theorem tw182 : (Jvm.Cond.methodLink "RoadTrace$Net" (40 : Nat) ({ cls := "RoadTrace$Net", name := "hasCrossing", desc := "(I)Z" } : Jvm.MethodName)) ∈ gw_tbl := mg (i := 229) (by decide +kernel) (by decide +kernel)
theorem tw183 : (Jvm.Cond.methodLink "RoadTrace" (57 : Nat) ({ cls := "RoadTrace$Net", name := "areJoined", desc := "(II)Z" } : Jvm.MethodName)) ∈ gw_tbl := mg (i := 230) (by decide +kernel) (by decide +kernel)
theorem tw184 : (Jvm.Cond.instanceMethod ({ cls := "RoadTrace$Net", name := "areJoined", desc := "(II)Z" } : Jvm.MethodName)) ∈ gw_tbl := mg (i := 231) (by decide +kernel) (by decide +kernel)
theorem tw185 : (Jvm.Cond.selects "RoadTrace$Net" ({ cls := "RoadTrace$Net", name := "areJoined", desc := "(II)Z" } : Jvm.MethodName) ({ cls := "RoadTrace$Net", name := "areJoined", desc := "(II)Z" } : Jvm.MethodName)) ∈ gw_tbl := mg (i := 232) (by decide +kernel) (by decide +kernel)
theorem tw186 : (Jvm.Cond.code ({ cls := "RoadTrace$Net", name := "areJoined", desc := "(II)Z" } : Jvm.MethodName) prog_2_method_7_code (6 : Nat) (Option.some Jvm.ClassFile.FieldType.boolean)) ∈ gw_tbl := mg (i := 233) (by decide +kernel) (by decide +kernel)
theorem tw187 : (Jvm.Cond.methodLink "RoadTrace" (63 : Nat) ({ cls := "RoadTrace$Net", name := "addRoad", desc := "(III)V" } : Jvm.MethodName)) ∈ gw_tbl := mg (i := 234) (by decide +kernel) (by decide +kernel)
theorem tw188 : (Jvm.Cond.instanceMethod ({ cls := "RoadTrace$Net", name := "addRoad", desc := "(III)V" } : Jvm.MethodName)) ∈ gw_tbl := mg (i := 235) (by decide +kernel) (by decide +kernel)
theorem tw189 : (Jvm.Cond.selects "RoadTrace$Net" ({ cls := "RoadTrace$Net", name := "addRoad", desc := "(III)V" } : Jvm.MethodName) ({ cls := "RoadTrace$Net", name := "addRoad", desc := "(III)V" } : Jvm.MethodName)) ∈ gw_tbl := mg (i := 236) (by decide +kernel) (by decide +kernel)
theorem tw190 : (Jvm.Cond.code ({ cls := "RoadTrace$Net", name := "addRoad", desc := "(III)V" } : Jvm.MethodName) prog_2_method_9_code (5 : Nat) (Option.none : Option Jvm.ClassFile.FieldType)) ∈ gw_tbl := mg (i := 237) (by decide +kernel) (by decide +kernel)
theorem tw191 : (Jvm.Cond.methodLink "RoadTrace$Net" (48 : Nat) ({ cls := "java/lang/Math", name := "abs", desc := "(I)I" } : Jvm.MethodName)) ∈ gw_tbl := mg (i := 238) (by decide +kernel) (by decide +kernel)
theorem tw192 : (Jvm.Cond.static ({ cls := "java/lang/Math", name := "abs", desc := "(I)I" } : Jvm.MethodName)) ∈ gw_tbl := mg (i := 239) (by decide +kernel) (by decide +kernel)
theorem tw193 : (Jvm.Cond.code ({ cls := "java/lang/Math", name := "abs", desc := "(I)I" } : Jvm.MethodName) prog_9_method_59_code (1 : Nat) (Option.some Jvm.ClassFile.FieldType.int)) ∈ gw_tbl := mg (i := 240) (by decide +kernel) (by decide +kernel)
theorem tw194 : (Jvm.Cond.methodLink "RoadTrace$Net" (54 : Nat) ({ cls := "RoadTrace$Net", name := "shortenBy", desc := "(III)V" } : Jvm.MethodName)) ∈ gw_tbl := mg (i := 241) (by decide +kernel) (by decide +kernel)
theorem tw196 : (Jvm.Cond.instanceMethod ({ cls := "RoadTrace$Net", name := "shortenBy", desc := "(III)V" } : Jvm.MethodName)) ∈ gw_tbl := mg (i := 243) (by decide +kernel) (by decide +kernel)
theorem tw197 : (Jvm.Cond.code ({ cls := "RoadTrace$Net", name := "shortenBy", desc := "(III)V" } : Jvm.MethodName) prog_2_method_10_code (9 : Nat) (Option.none : Option Jvm.ClassFile.FieldType)) ∈ gw_tbl := mg (i := 244) (by decide +kernel) (by decide +kernel)
theorem tw198 : (Jvm.Cond.methodLink "RoadTraceLaw" (23 : Nat) ({ cls := "RoadTrace", name := "rule", desc := "(II)I" } : Jvm.MethodName)) ∈ gw_tbl := mg (i := 245) (by decide +kernel) (by decide +kernel)
theorem tw199 : (Jvm.Cond.instanceMethod ({ cls := "RoadTrace", name := "rule", desc := "(II)I" } : Jvm.MethodName)) ∈ gw_tbl := mg (i := 246) (by decide +kernel) (by decide +kernel)
theorem tw200 : (Jvm.Cond.selects "RoadTrace" ({ cls := "RoadTrace", name := "rule", desc := "(II)I" } : Jvm.MethodName) ({ cls := "RoadTrace", name := "rule", desc := "(II)I" } : Jvm.MethodName)) ∈ gw_tbl := mg (i := 247) (by decide +kernel) (by decide +kernel)
theorem tw201 : (Jvm.Cond.code ({ cls := "RoadTrace", name := "rule", desc := "(II)I" } : Jvm.MethodName) prog_1_method_4_code (3 : Nat) (Option.some Jvm.ClassFile.FieldType.int)) ∈ gw_tbl := mg (i := 248) (by decide +kernel) (by decide +kernel)
theorem tw202 : (Jvm.Cond.methodLink "RoadTrace" (71 : Nat) ({ cls := "RoadTrace$Rules", name := "allows", desc := "(II)Z" } : Jvm.MethodName)) ∈ gw_tbl := mg (i := 249) (by decide +kernel) (by decide +kernel)
theorem tw203 : (Jvm.Cond.instanceMethod ({ cls := "RoadTrace$Rules", name := "allows", desc := "(II)Z" } : Jvm.MethodName)) ∈ gw_tbl := mg (i := 250) (by decide +kernel) (by decide +kernel)
theorem tw204 : (Jvm.Cond.selects "RoadTrace$Rules" ({ cls := "RoadTrace$Rules", name := "allows", desc := "(II)Z" } : Jvm.MethodName) ({ cls := "RoadTrace$Rules", name := "allows", desc := "(II)Z" } : Jvm.MethodName)) ∈ gw_tbl := mg (i := 251) (by decide +kernel) (by decide +kernel)
theorem tw205 : (Jvm.Cond.code ({ cls := "RoadTrace$Rules", name := "allows", desc := "(II)Z" } : Jvm.MethodName) prog_3_method_2_code (3 : Nat) (Option.some Jvm.ClassFile.FieldType.boolean)) ∈ gw_tbl := mg (i := 252) (by decide +kernel) (by decide +kernel)
theorem tw206 : (Jvm.Cond.fieldLink "RoadTrace$Rules" (15 : Nat) "RoadTrace$Rules" "MOST" "[I") ∈ gw_tbl := mg (i := 253) (by decide +kernel) (by decide +kernel)
theorem tw208 : (Jvm.Cond.methodLink "RoadTrace" (76 : Nat) ({ cls := "RoadTrace$Rules", name := "change", desc := "(II)I" } : Jvm.MethodName)) ∈ gw_tbl := mg (i := 255) (by decide +kernel) (by decide +kernel)
theorem tw209 : (Jvm.Cond.instanceMethod ({ cls := "RoadTrace$Rules", name := "change", desc := "(II)I" } : Jvm.MethodName)) ∈ gw_tbl := mg (i := 256) (by decide +kernel) (by decide +kernel)
theorem tw210 : (Jvm.Cond.selects "RoadTrace$Rules" ({ cls := "RoadTrace$Rules", name := "change", desc := "(II)I" } : Jvm.MethodName) ({ cls := "RoadTrace$Rules", name := "change", desc := "(II)I" } : Jvm.MethodName)) ∈ gw_tbl := mg (i := 257) (by decide +kernel) (by decide +kernel)
theorem tw211 : (Jvm.Cond.code ({ cls := "RoadTrace$Rules", name := "change", desc := "(II)I" } : Jvm.MethodName) prog_3_method_3_code (4 : Nat) (Option.some Jvm.ClassFile.FieldType.int)) ∈ gw_tbl := mg (i := 258) (by decide +kernel) (by decide +kernel)
theorem tw212 : (Jvm.Cond.methodLink "RoadTraceLaw" (27 : Nat) ({ cls := "RoadTrace", name := "cell", desc := "(II)I" } : Jvm.MethodName)) ∈ gw_tbl := mg (i := 259) (by decide +kernel) (by decide +kernel)
theorem tw213 : (Jvm.Cond.instanceMethod ({ cls := "RoadTrace", name := "cell", desc := "(II)I" } : Jvm.MethodName)) ∈ gw_tbl := mg (i := 260) (by decide +kernel) (by decide +kernel)
theorem tw214 : (Jvm.Cond.selects "RoadTrace" ({ cls := "RoadTrace", name := "cell", desc := "(II)I" } : Jvm.MethodName) ({ cls := "RoadTrace", name := "cell", desc := "(II)I" } : Jvm.MethodName)) ∈ gw_tbl := mg (i := 261) (by decide +kernel) (by decide +kernel)
theorem tw215 : (Jvm.Cond.code ({ cls := "RoadTrace", name := "cell", desc := "(II)I" } : Jvm.MethodName) prog_1_method_5_code (3 : Nat) (Option.some Jvm.ClassFile.FieldType.int)) ∈ gw_tbl := mg (i := 262) (by decide +kernel) (by decide +kernel)
theorem tw216 : (Jvm.Cond.methodLink "RoadTrace" (80 : Nat) ({ cls := "RoadTrace$Net", name := "roadsInCell", desc := "(II)I" } : Jvm.MethodName)) ∈ gw_tbl := mg (i := 263) (by decide +kernel) (by decide +kernel)
theorem tw217 : (Jvm.Cond.instanceMethod ({ cls := "RoadTrace$Net", name := "roadsInCell", desc := "(II)I" } : Jvm.MethodName)) ∈ gw_tbl := mg (i := 264) (by decide +kernel) (by decide +kernel)
theorem tw218 : (Jvm.Cond.selects "RoadTrace$Net" ({ cls := "RoadTrace$Net", name := "roadsInCell", desc := "(II)I" } : Jvm.MethodName) ({ cls := "RoadTrace$Net", name := "roadsInCell", desc := "(II)I" } : Jvm.MethodName)) ∈ gw_tbl := mg (i := 265) (by decide +kernel) (by decide +kernel)
theorem tw219 : (Jvm.Cond.code ({ cls := "RoadTrace$Net", name := "roadsInCell", desc := "(II)I" } : Jvm.MethodName) prog_2_method_13_code (5 : Nat) (Option.some Jvm.ClassFile.FieldType.int)) ∈ gw_tbl := mg (i := 266) (by decide +kernel) (by decide +kernel)
theorem tw220 : (Jvm.Cond.methodLink "RoadTrace$Net" (58 : Nat) ({ cls := "RoadTrace$Net", name := "spans", desc := "(III)Z" } : Jvm.MethodName)) ∈ gw_tbl := mg (i := 267) (by decide +kernel) (by decide +kernel)
theorem tw221 : (Jvm.Cond.static ({ cls := "RoadTrace$Net", name := "spans", desc := "(III)Z" } : Jvm.MethodName)) ∈ gw_tbl := mg (i := 268) (by decide +kernel) (by decide +kernel)
theorem tw222 : (Jvm.Cond.code ({ cls := "RoadTrace$Net", name := "spans", desc := "(III)Z" } : Jvm.MethodName) prog_2_method_14_code (3 : Nat) (Option.some Jvm.ClassFile.FieldType.boolean)) ∈ gw_tbl := mg (i := 269) (by decide +kernel) (by decide +kernel)
theorem tw223 : (Jvm.Cond.methodLink "RoadTrace$Net" (62 : Nat) ({ cls := "java/lang/Math", name := "min", desc := "(II)I" } : Jvm.MethodName)) ∈ gw_tbl := mg (i := 270) (by decide +kernel) (by decide +kernel)
theorem tw224 : (Jvm.Cond.static ({ cls := "java/lang/Math", name := "min", desc := "(II)I" } : Jvm.MethodName)) ∈ gw_tbl := mg (i := 271) (by decide +kernel) (by decide +kernel)
theorem tw225 : (Jvm.Cond.code ({ cls := "java/lang/Math", name := "min", desc := "(II)I" } : Jvm.MethodName) prog_9_method_69_code (2 : Nat) (Option.some Jvm.ClassFile.FieldType.int)) ∈ gw_tbl := mg (i := 272) (by decide +kernel) (by decide +kernel)
theorem tw226 : (Jvm.Cond.methodLink "RoadTrace$Net" (65 : Nat) ({ cls := "java/lang/Math", name := "max", desc := "(II)I" } : Jvm.MethodName)) ∈ gw_tbl := mg (i := 273) (by decide +kernel) (by decide +kernel)
theorem tw227 : (Jvm.Cond.static ({ cls := "java/lang/Math", name := "max", desc := "(II)I" } : Jvm.MethodName)) ∈ gw_tbl := mg (i := 274) (by decide +kernel) (by decide +kernel)
theorem tw228 : (Jvm.Cond.code ({ cls := "java/lang/Math", name := "max", desc := "(II)I" } : Jvm.MethodName) prog_9_method_65_code (2 : Nat) (Option.some Jvm.ClassFile.FieldType.int)) ∈ gw_tbl := mg (i := 275) (by decide +kernel) (by decide +kernel)
theorem tw229 : (Jvm.Cond.methodLink "RoadTraceLaw" (31 : Nat) ({ cls := "RoadTrace", name := "between", desc := "(II)I" } : Jvm.MethodName)) ∈ gw_tbl := mg (i := 276) (by decide +kernel) (by decide +kernel)
theorem tw230 : (Jvm.Cond.instanceMethod ({ cls := "RoadTrace", name := "between", desc := "(II)I" } : Jvm.MethodName)) ∈ gw_tbl := mg (i := 277) (by decide +kernel) (by decide +kernel)
theorem tw231 : (Jvm.Cond.selects "RoadTrace" ({ cls := "RoadTrace", name := "between", desc := "(II)I" } : Jvm.MethodName) ({ cls := "RoadTrace", name := "between", desc := "(II)I" } : Jvm.MethodName)) ∈ gw_tbl := mg (i := 278) (by decide +kernel) (by decide +kernel)
theorem tw232 : (Jvm.Cond.code ({ cls := "RoadTrace", name := "between", desc := "(II)I" } : Jvm.MethodName) prog_1_method_6_code (3 : Nat) (Option.some Jvm.ClassFile.FieldType.int)) ∈ gw_tbl := mg (i := 279) (by decide +kernel) (by decide +kernel)
theorem tw233 : (Jvm.Cond.methodLink "RoadTrace" (83 : Nat) ({ cls := "RoadTrace$Net", name := "leastBetween", desc := "(II)I" } : Jvm.MethodName)) ∈ gw_tbl := mg (i := 280) (by decide +kernel) (by decide +kernel)
theorem tw234 : (Jvm.Cond.instanceMethod ({ cls := "RoadTrace$Net", name := "leastBetween", desc := "(II)I" } : Jvm.MethodName)) ∈ gw_tbl := mg (i := 281) (by decide +kernel) (by decide +kernel)
theorem tw235 : (Jvm.Cond.selects "RoadTrace$Net" ({ cls := "RoadTrace$Net", name := "leastBetween", desc := "(II)I" } : Jvm.MethodName) ({ cls := "RoadTrace$Net", name := "leastBetween", desc := "(II)I" } : Jvm.MethodName)) ∈ gw_tbl := mg (i := 282) (by decide +kernel) (by decide +kernel)
theorem tw236 : (Jvm.Cond.code ({ cls := "RoadTrace$Net", name := "leastBetween", desc := "(II)I" } : Jvm.MethodName) prog_2_method_11_code (3 : Nat) (Option.some Jvm.ClassFile.FieldType.int)) ∈ gw_tbl := mg (i := 283) (by decide +kernel) (by decide +kernel)
theorem tw237 : (Jvm.Cond.methodLink "RoadTraceLaw" (35 : Nat) ({ cls := "RoadTrace", name := "way", desc := "(II)I" } : Jvm.MethodName)) ∈ gw_tbl := mg (i := 284) (by decide +kernel) (by decide +kernel)
theorem tw238 : (Jvm.Cond.instanceMethod ({ cls := "RoadTrace", name := "way", desc := "(II)I" } : Jvm.MethodName)) ∈ gw_tbl := mg (i := 285) (by decide +kernel) (by decide +kernel)
theorem tw239 : (Jvm.Cond.selects "RoadTrace" ({ cls := "RoadTrace", name := "way", desc := "(II)I" } : Jvm.MethodName) ({ cls := "RoadTrace", name := "way", desc := "(II)I" } : Jvm.MethodName)) ∈ gw_tbl := mg (i := 286) (by decide +kernel) (by decide +kernel)
theorem tw240 : (Jvm.Cond.code ({ cls := "RoadTrace", name := "way", desc := "(II)I" } : Jvm.MethodName) prog_1_method_7_code (3 : Nat) (Option.some Jvm.ClassFile.FieldType.int)) ∈ gw_tbl := mg (i := 287) (by decide +kernel) (by decide +kernel)
theorem tw241 : (Jvm.Cond.methodLink "RoadTrace" (86 : Nat) ({ cls := "RoadTrace$Net", name := "hasSpot", desc := "(I)Z" } : Jvm.MethodName)) ∈ gw_tbl := mg (i := 288) (by decide +kernel) (by decide +kernel)
theorem tw242 : (Jvm.Cond.instanceMethod ({ cls := "RoadTrace$Net", name := "hasSpot", desc := "(I)Z" } : Jvm.MethodName)) ∈ gw_tbl := mg (i := 289) (by decide +kernel) (by decide +kernel)
theorem tw243 : (Jvm.Cond.selects "RoadTrace$Net" ({ cls := "RoadTrace$Net", name := "hasSpot", desc := "(I)Z" } : Jvm.MethodName) ({ cls := "RoadTrace$Net", name := "hasSpot", desc := "(I)Z" } : Jvm.MethodName)) ∈ gw_tbl := mg (i := 290) (by decide +kernel) (by decide +kernel)
theorem tw244 : (Jvm.Cond.code ({ cls := "RoadTrace$Net", name := "hasSpot", desc := "(I)Z" } : Jvm.MethodName) prog_2_method_4_code (3 : Nat) (Option.some Jvm.ClassFile.FieldType.boolean)) ∈ gw_tbl := mg (i := 291) (by decide +kernel) (by decide +kernel)
theorem tw245 : (Jvm.Cond.methodLink "RoadTrace" (89 : Nat) ({ cls := "RoadTrace$Net", name := "wayLength", desc := "(II)I" } : Jvm.MethodName)) ∈ gw_tbl := mg (i := 292) (by decide +kernel) (by decide +kernel)
theorem tw246 : (Jvm.Cond.instanceMethod ({ cls := "RoadTrace$Net", name := "wayLength", desc := "(II)I" } : Jvm.MethodName)) ∈ gw_tbl := mg (i := 293) (by decide +kernel) (by decide +kernel)
theorem tw247 : (Jvm.Cond.selects "RoadTrace$Net" ({ cls := "RoadTrace$Net", name := "wayLength", desc := "(II)I" } : Jvm.MethodName) ({ cls := "RoadTrace$Net", name := "wayLength", desc := "(II)I" } : Jvm.MethodName)) ∈ gw_tbl := mg (i := 294) (by decide +kernel) (by decide +kernel)
theorem tw248 : (Jvm.Cond.code ({ cls := "RoadTrace$Net", name := "wayLength", desc := "(II)I" } : Jvm.MethodName) prog_2_method_20_code (6 : Nat) (Option.some Jvm.ClassFile.FieldType.int)) ∈ gw_tbl := mg (i := 295) (by decide +kernel) (by decide +kernel)
theorem tw249 : (Jvm.Cond.methodLink "RoadTrace$Net" (81 : Nat) ({ cls := "RoadTrace$Net", name := "hasSpot", desc := "(I)Z" } : Jvm.MethodName)) ∈ gw_tbl := mg (i := 296) (by decide +kernel) (by decide +kernel)
theorem tw250 : (Jvm.Cond.methodLink "RoadTrace$Net" (84 : Nat) ({ cls := "RoadTrace$Net", name := "lengthOut", desc := "(III)I" } : Jvm.MethodName)) ∈ gw_tbl := mg (i := 297) (by decide +kernel) (by decide +kernel)
theorem tw252 : (Jvm.Cond.instanceMethod ({ cls := "RoadTrace$Net", name := "lengthOut", desc := "(III)I" } : Jvm.MethodName)) ∈ gw_tbl := mg (i := 299) (by decide +kernel) (by decide +kernel)
theorem tw253 : (Jvm.Cond.code ({ cls := "RoadTrace$Net", name := "lengthOut", desc := "(III)I" } : Jvm.MethodName) prog_2_method_22_code (7 : Nat) (Option.some Jvm.ClassFile.FieldType.int)) ∈ gw_tbl := mg (i := 300) (by decide +kernel) (by decide +kernel)
theorem tw254 : (Jvm.Cond.methodLink "RoadTrace$Net" (90 : Nat) ({ cls := "RoadTrace$Net", name := "lengthAlong", desc := "(II)I" } : Jvm.MethodName)) ∈ gw_tbl := mg (i := 301) (by decide +kernel) (by decide +kernel)
theorem tw256 : (Jvm.Cond.instanceMethod ({ cls := "RoadTrace$Net", name := "lengthAlong", desc := "(II)I" } : Jvm.MethodName)) ∈ gw_tbl := mg (i := 303) (by decide +kernel) (by decide +kernel)
theorem tw257 : (Jvm.Cond.code ({ cls := "RoadTrace$Net", name := "lengthAlong", desc := "(II)I" } : Jvm.MethodName) prog_2_method_23_code (4 : Nat) (Option.some Jvm.ClassFile.FieldType.int)) ∈ gw_tbl := mg (i := 304) (by decide +kernel) (by decide +kernel)
theorem tw258 : (Jvm.Cond.methodLink "RoadTrace$Net" (93 : Nat) ({ cls := "RoadTrace$Net", name := "leavesByLast", desc := "(I)Z" } : Jvm.MethodName)) ∈ gw_tbl := mg (i := 305) (by decide +kernel) (by decide +kernel)
theorem tw259 : (Jvm.Cond.static ({ cls := "RoadTrace$Net", name := "leavesByLast", desc := "(I)Z" } : Jvm.MethodName)) ∈ gw_tbl := mg (i := 306) (by decide +kernel) (by decide +kernel)
theorem tw260 : (Jvm.Cond.code ({ cls := "RoadTrace$Net", name := "leavesByLast", desc := "(I)Z" } : Jvm.MethodName) prog_2_method_27_code (1 : Nat) (Option.some Jvm.ClassFile.FieldType.boolean)) ∈ gw_tbl := mg (i := 307) (by decide +kernel) (by decide +kernel)
theorem tw261 : (Jvm.Cond.methodLink "RoadTrace$Net" (96 : Nat) ({ cls := "RoadTrace$Net", name := "leaveLength", desc := "(IZ)I" } : Jvm.MethodName)) ∈ gw_tbl := mg (i := 308) (by decide +kernel) (by decide +kernel)
theorem tw263 : (Jvm.Cond.instanceMethod ({ cls := "RoadTrace$Net", name := "leaveLength", desc := "(IZ)I" } : Jvm.MethodName)) ∈ gw_tbl := mg (i := 310) (by decide +kernel) (by decide +kernel)
theorem tw264 : (Jvm.Cond.code ({ cls := "RoadTrace$Net", name := "leaveLength", desc := "(IZ)I" } : Jvm.MethodName) prog_2_method_24_code (5 : Nat) (Option.some Jvm.ClassFile.FieldType.int)) ∈ gw_tbl := mg (i := 311) (by decide +kernel) (by decide +kernel)
theorem tw265 : (Jvm.Cond.methodLink "RoadTrace$Net" (100 : Nat) ({ cls := "RoadTrace$Net", name := "endOf", desc := "(IZ)I" } : Jvm.MethodName)) ∈ gw_tbl := mg (i := 312) (by decide +kernel) (by decide +kernel)
theorem tw267 : (Jvm.Cond.instanceMethod ({ cls := "RoadTrace$Net", name := "endOf", desc := "(IZ)I" } : Jvm.MethodName)) ∈ gw_tbl := mg (i := 314) (by decide +kernel) (by decide +kernel)
theorem tw268 : (Jvm.Cond.code ({ cls := "RoadTrace$Net", name := "endOf", desc := "(IZ)I" } : Jvm.MethodName) prog_2_method_26_code (4 : Nat) (Option.some Jvm.ClassFile.FieldType.int)) ∈ gw_tbl := mg (i := 315) (by decide +kernel) (by decide +kernel)
theorem tw269 : (Jvm.Cond.methodLink "RoadTrace$Net" (103 : Nat) ({ cls := "RoadTrace$Net", name := "comesByLast", desc := "(I)Z" } : Jvm.MethodName)) ∈ gw_tbl := mg (i := 316) (by decide +kernel) (by decide +kernel)
theorem tw270 : (Jvm.Cond.static ({ cls := "RoadTrace$Net", name := "comesByLast", desc := "(I)Z" } : Jvm.MethodName)) ∈ gw_tbl := mg (i := 317) (by decide +kernel) (by decide +kernel)
theorem tw271 : (Jvm.Cond.code ({ cls := "RoadTrace$Net", name := "comesByLast", desc := "(I)Z" } : Jvm.MethodName) prog_2_method_28_code (1 : Nat) (Option.some Jvm.ClassFile.FieldType.boolean)) ∈ gw_tbl := mg (i := 318) (by decide +kernel) (by decide +kernel)
theorem tw272 : (Jvm.Cond.methodLink "RoadTrace$Net" (106 : Nat) ({ cls := "RoadTrace$Net", name := "comeLength", desc := "(IZ)I" } : Jvm.MethodName)) ∈ gw_tbl := mg (i := 319) (by decide +kernel) (by decide +kernel)
theorem tw274 : (Jvm.Cond.instanceMethod ({ cls := "RoadTrace$Net", name := "comeLength", desc := "(IZ)I" } : Jvm.MethodName)) ∈ gw_tbl := mg (i := 321) (by decide +kernel) (by decide +kernel)
theorem tw275 : (Jvm.Cond.code ({ cls := "RoadTrace$Net", name := "comeLength", desc := "(IZ)I" } : Jvm.MethodName) prog_2_method_25_code (5 : Nat) (Option.some Jvm.ClassFile.FieldType.int)) ∈ gw_tbl := mg (i := 322) (by decide +kernel) (by decide +kernel)
theorem tw276 : (Jvm.Cond.methodLink "RoadTraceLaw" (39 : Nat) ({ cls := "RoadTrace", name := "fix", desc := "(II)I" } : Jvm.MethodName)) ∈ gw_tbl := mg (i := 323) (by decide +kernel) (by decide +kernel)
theorem tw277 : (Jvm.Cond.instanceMethod ({ cls := "RoadTrace", name := "fix", desc := "(II)I" } : Jvm.MethodName)) ∈ gw_tbl := mg (i := 324) (by decide +kernel) (by decide +kernel)
theorem tw278 : (Jvm.Cond.selects "RoadTrace" ({ cls := "RoadTrace", name := "fix", desc := "(II)I" } : Jvm.MethodName) ({ cls := "RoadTrace", name := "fix", desc := "(II)I" } : Jvm.MethodName)) ∈ gw_tbl := mg (i := 325) (by decide +kernel) (by decide +kernel)
theorem tw279 : (Jvm.Cond.code ({ cls := "RoadTrace", name := "fix", desc := "(II)I" } : Jvm.MethodName) prog_1_method_8_code (3 : Nat) (Option.some Jvm.ClassFile.FieldType.int)) ∈ gw_tbl := mg (i := 326) (by decide +kernel) (by decide +kernel)
theorem tw280 : (Jvm.Cond.methodLink "RoadTrace" (92 : Nat) ({ cls := "RoadTrace$Trace", name := "addFix", desc := "(II)V" } : Jvm.MethodName)) ∈ gw_tbl := mg (i := 327) (by decide +kernel) (by decide +kernel)
theorem tw281 : (Jvm.Cond.instanceMethod ({ cls := "RoadTrace$Trace", name := "addFix", desc := "(II)V" } : Jvm.MethodName)) ∈ gw_tbl := mg (i := 328) (by decide +kernel) (by decide +kernel)
theorem tw282 : (Jvm.Cond.selects "RoadTrace$Trace" ({ cls := "RoadTrace$Trace", name := "addFix", desc := "(II)V" } : Jvm.MethodName) ({ cls := "RoadTrace$Trace", name := "addFix", desc := "(II)V" } : Jvm.MethodName)) ∈ gw_tbl := mg (i := 329) (by decide +kernel) (by decide +kernel)
theorem tw283 : (Jvm.Cond.code ({ cls := "RoadTrace$Trace", name := "addFix", desc := "(II)V" } : Jvm.MethodName) prog_5_method_6_code (5 : Nat) (Option.none : Option Jvm.ClassFile.FieldType)) ∈ gw_tbl := mg (i := 330) (by decide +kernel) (by decide +kernel)
theorem tw284 : (Jvm.Cond.methodLink "RoadTrace$Trace" (62 : Nat) ({ cls := "RoadTrace$Trace", name := "lastFixed", desc := "()I" } : Jvm.MethodName)) ∈ gw_tbl := mg (i := 331) (by decide +kernel) (by decide +kernel)
theorem tw286 : (Jvm.Cond.instanceMethod ({ cls := "RoadTrace$Trace", name := "lastFixed", desc := "()I" } : Jvm.MethodName)) ∈ gw_tbl := mg (i := 333) (by decide +kernel) (by decide +kernel)
theorem tw287 : (Jvm.Cond.code ({ cls := "RoadTrace$Trace", name := "lastFixed", desc := "()I" } : Jvm.MethodName) prog_5_method_8_code (2 : Nat) (Option.some Jvm.ClassFile.FieldType.int)) ∈ gw_tbl := mg (i := 334) (by decide +kernel) (by decide +kernel)
theorem tw288 : (Jvm.Cond.methodLink "RoadTrace$Trace" (81 : Nat) ({ cls := "RoadTrace$Trace", name := "isGap", desc := "(I)Z" } : Jvm.MethodName)) ∈ gw_tbl := mg (i := 335) (by decide +kernel) (by decide +kernel)
theorem tw290 : (Jvm.Cond.instanceMethod ({ cls := "RoadTrace$Trace", name := "isGap", desc := "(I)Z" } : Jvm.MethodName)) ∈ gw_tbl := mg (i := 337) (by decide +kernel) (by decide +kernel)
theorem tw291 : (Jvm.Cond.code ({ cls := "RoadTrace$Trace", name := "isGap", desc := "(I)Z" } : Jvm.MethodName) prog_5_method_4_code (2 : Nat) (Option.some Jvm.ClassFile.FieldType.boolean)) ∈ gw_tbl := mg (i := 338) (by decide +kernel) (by decide +kernel)
theorem tw292 : (Jvm.Cond.methodLink "RoadTrace$Trace" (58 : Nat) ({ cls := "RoadTrace$Trace", name := "hasFix", desc := "(I)Z" } : Jvm.MethodName)) ∈ gw_tbl := mg (i := 339) (by decide +kernel) (by decide +kernel)
theorem tw293 : (Jvm.Cond.instanceMethod ({ cls := "RoadTrace$Trace", name := "hasFix", desc := "(I)Z" } : Jvm.MethodName)) ∈ gw_tbl := mg (i := 340) (by decide +kernel) (by decide +kernel)
theorem tw294 : (Jvm.Cond.selects "RoadTrace$Trace" ({ cls := "RoadTrace$Trace", name := "hasFix", desc := "(I)Z" } : Jvm.MethodName) ({ cls := "RoadTrace$Trace", name := "hasFix", desc := "(I)Z" } : Jvm.MethodName)) ∈ gw_tbl := mg (i := 341) (by decide +kernel) (by decide +kernel)
theorem tw295 : (Jvm.Cond.code ({ cls := "RoadTrace$Trace", name := "hasFix", desc := "(I)Z" } : Jvm.MethodName) prog_5_method_2_code (2 : Nat) (Option.some Jvm.ClassFile.FieldType.boolean)) ∈ gw_tbl := mg (i := 342) (by decide +kernel) (by decide +kernel)
theorem tw296 : (Jvm.Cond.methodLink "RoadTrace$Trace" (66 : Nat) ({ cls := "RoadTrace$Trace", name := "findCandidates", desc := "(I)V" } : Jvm.MethodName)) ∈ gw_tbl := mg (i := 343) (by decide +kernel) (by decide +kernel)
theorem tw298 : (Jvm.Cond.instanceMethod ({ cls := "RoadTrace$Trace", name := "findCandidates", desc := "(I)V" } : Jvm.MethodName)) ∈ gw_tbl := mg (i := 345) (by decide +kernel) (by decide +kernel)
theorem tw299 : (Jvm.Cond.code ({ cls := "RoadTrace$Trace", name := "findCandidates", desc := "(I)V" } : Jvm.MethodName) prog_5_method_9_code (5 : Nat) (Option.none : Option Jvm.ClassFile.FieldType)) ∈ gw_tbl := mg (i := 346) (by decide +kernel) (by decide +kernel)
theorem tw300 : (Jvm.Cond.methodLink "RoadTrace$Trace" (89 : Nat) ({ cls := "RoadTrace$Net", name := "apartFromRoad", desc := "(III)I" } : Jvm.MethodName)) ∈ gw_tbl := mg (i := 347) (by decide +kernel) (by decide +kernel)
theorem tw301 : (Jvm.Cond.instanceMethod ({ cls := "RoadTrace$Net", name := "apartFromRoad", desc := "(III)I" } : Jvm.MethodName)) ∈ gw_tbl := mg (i := 348) (by decide +kernel) (by decide +kernel)
theorem tw302 : (Jvm.Cond.selects "RoadTrace$Net" ({ cls := "RoadTrace$Net", name := "apartFromRoad", desc := "(III)I" } : Jvm.MethodName) ({ cls := "RoadTrace$Net", name := "apartFromRoad", desc := "(III)I" } : Jvm.MethodName)) ∈ gw_tbl := mg (i := 349) (by decide +kernel) (by decide +kernel)
theorem tw303 : (Jvm.Cond.code ({ cls := "RoadTrace$Net", name := "apartFromRoad", desc := "(III)I" } : Jvm.MethodName) prog_2_method_15_code (4 : Nat) (Option.some Jvm.ClassFile.FieldType.int)) ∈ gw_tbl := mg (i := 350) (by decide +kernel) (by decide +kernel)
theorem tw304 : (Jvm.Cond.methodLink "RoadTrace$Net" (68 : Nat) ({ cls := "RoadTrace$Net", name := "hasRoad", desc := "(I)Z" } : Jvm.MethodName)) ∈ gw_tbl := mg (i := 351) (by decide +kernel) (by decide +kernel)
theorem tw305 : (Jvm.Cond.instanceMethod ({ cls := "RoadTrace$Net", name := "hasRoad", desc := "(I)Z" } : Jvm.MethodName)) ∈ gw_tbl := mg (i := 352) (by decide +kernel) (by decide +kernel)
theorem tw306 : (Jvm.Cond.selects "RoadTrace$Net" ({ cls := "RoadTrace$Net", name := "hasRoad", desc := "(I)Z" } : Jvm.MethodName) ({ cls := "RoadTrace$Net", name := "hasRoad", desc := "(I)Z" } : Jvm.MethodName)) ∈ gw_tbl := mg (i := 353) (by decide +kernel) (by decide +kernel)
theorem tw307 : (Jvm.Cond.code ({ cls := "RoadTrace$Net", name := "hasRoad", desc := "(I)Z" } : Jvm.MethodName) prog_2_method_3_code (2 : Nat) (Option.some Jvm.ClassFile.FieldType.boolean)) ∈ gw_tbl := mg (i := 354) (by decide +kernel) (by decide +kernel)
theorem tw308 : (Jvm.Cond.methodLink "RoadTrace$Net" (71 : Nat) ({ cls := "RoadTrace$Net", name := "nearestX", desc := "(II)I" } : Jvm.MethodName)) ∈ gw_tbl := mg (i := 355) (by decide +kernel) (by decide +kernel)
theorem tw310 : (Jvm.Cond.instanceMethod ({ cls := "RoadTrace$Net", name := "nearestX", desc := "(II)I" } : Jvm.MethodName)) ∈ gw_tbl := mg (i := 357) (by decide +kernel) (by decide +kernel)
theorem tw311 : (Jvm.Cond.code ({ cls := "RoadTrace$Net", name := "nearestX", desc := "(II)I" } : Jvm.MethodName) prog_2_method_17_code (3 : Nat) (Option.some Jvm.ClassFile.FieldType.int)) ∈ gw_tbl := mg (i := 358) (by decide +kernel) (by decide +kernel)
theorem tw312 : (Jvm.Cond.methodLink "RoadTrace$Net" (77 : Nat) ({ cls := "RoadTrace$Net", name := "held", desc := "(III)I" } : Jvm.MethodName)) ∈ gw_tbl := mg (i := 359) (by decide +kernel) (by decide +kernel)
theorem tw313 : (Jvm.Cond.static ({ cls := "RoadTrace$Net", name := "held", desc := "(III)I" } : Jvm.MethodName)) ∈ gw_tbl := mg (i := 360) (by decide +kernel) (by decide +kernel)
theorem tw314 : (Jvm.Cond.code ({ cls := "RoadTrace$Net", name := "held", desc := "(III)I" } : Jvm.MethodName) prog_2_method_19_code (3 : Nat) (Option.some Jvm.ClassFile.FieldType.int)) ∈ gw_tbl := mg (i := 361) (by decide +kernel) (by decide +kernel)
theorem tw315 : (Jvm.Cond.methodLink "RoadTrace$Net" (74 : Nat) ({ cls := "RoadTrace$Net", name := "nearestY", desc := "(II)I" } : Jvm.MethodName)) ∈ gw_tbl := mg (i := 362) (by decide +kernel) (by decide +kernel)
theorem tw317 : (Jvm.Cond.instanceMethod ({ cls := "RoadTrace$Net", name := "nearestY", desc := "(II)I" } : Jvm.MethodName)) ∈ gw_tbl := mg (i := 364) (by decide +kernel) (by decide +kernel)
theorem tw318 : (Jvm.Cond.code ({ cls := "RoadTrace$Net", name := "nearestY", desc := "(II)I" } : Jvm.MethodName) prog_2_method_18_code (3 : Nat) (Option.some Jvm.ClassFile.FieldType.int)) ∈ gw_tbl := mg (i := 365) (by decide +kernel) (by decide +kernel)
theorem tw319 : (Jvm.Cond.methodLink "RoadTrace$Trace" (98 : Nat) ({ cls := "RoadTrace$Trace", name := "slot", desc := "(II)I" } : Jvm.MethodName)) ∈ gw_tbl := mg (i := 366) (by decide +kernel) (by decide +kernel)
theorem tw320 : (Jvm.Cond.static ({ cls := "RoadTrace$Trace", name := "slot", desc := "(II)I" } : Jvm.MethodName)) ∈ gw_tbl := mg (i := 367) (by decide +kernel) (by decide +kernel)
theorem tw321 : (Jvm.Cond.code ({ cls := "RoadTrace$Trace", name := "slot", desc := "(II)I" } : Jvm.MethodName) prog_5_method_5_code (2 : Nat) (Option.some Jvm.ClassFile.FieldType.int)) ∈ gw_tbl := mg (i := 368) (by decide +kernel) (by decide +kernel)
theorem tw322 : (Jvm.Cond.methodLink "RoadTrace$Trace" (102 : Nat) ({ cls := "RoadTrace$Net", name := "nearestSpot", desc := "(III)I" } : Jvm.MethodName)) ∈ gw_tbl := mg (i := 369) (by decide +kernel) (by decide +kernel)
theorem tw323 : (Jvm.Cond.instanceMethod ({ cls := "RoadTrace$Net", name := "nearestSpot", desc := "(III)I" } : Jvm.MethodName)) ∈ gw_tbl := mg (i := 370) (by decide +kernel) (by decide +kernel)
theorem tw324 : (Jvm.Cond.selects "RoadTrace$Net" ({ cls := "RoadTrace$Net", name := "nearestSpot", desc := "(III)I" } : Jvm.MethodName) ({ cls := "RoadTrace$Net", name := "nearestSpot", desc := "(III)I" } : Jvm.MethodName)) ∈ gw_tbl := mg (i := 371) (by decide +kernel) (by decide +kernel)
theorem tw325 : (Jvm.Cond.code ({ cls := "RoadTrace$Net", name := "nearestSpot", desc := "(III)I" } : Jvm.MethodName) prog_2_method_16_code (6 : Nat) (Option.some Jvm.ClassFile.FieldType.int)) ∈ gw_tbl := mg (i := 372) (by decide +kernel) (by decide +kernel)
theorem tw326 : (Jvm.Cond.methodLink "RoadTrace$Trace" (70 : Nat) ({ cls := "RoadTrace$Trace", name := "beginPiece", desc := "(II)V" } : Jvm.MethodName)) ∈ gw_tbl := mg (i := 373) (by decide +kernel) (by decide +kernel)
theorem tw328 : (Jvm.Cond.instanceMethod ({ cls := "RoadTrace$Trace", name := "beginPiece", desc := "(II)V" } : Jvm.MethodName)) ∈ gw_tbl := mg (i := 375) (by decide +kernel) (by decide +kernel)
theorem tw329 : (Jvm.Cond.code ({ cls := "RoadTrace$Trace", name := "beginPiece", desc := "(II)V" } : Jvm.MethodName) prog_5_method_10_code (4 : Nat) (Option.none : Option Jvm.ClassFile.FieldType)) ∈ gw_tbl := mg (i := 376) (by decide +kernel) (by decide +kernel)
theorem tw330 : (Jvm.Cond.methodLink "RoadTrace$Trace" (74 : Nat) ({ cls := "RoadTrace$Trace", name := "goesOn", desc := "(II)Z" } : Jvm.MethodName)) ∈ gw_tbl := mg (i := 377) (by decide +kernel) (by decide +kernel)
theorem tw332 : (Jvm.Cond.instanceMethod ({ cls := "RoadTrace$Trace", name := "goesOn", desc := "(II)Z" } : Jvm.MethodName)) ∈ gw_tbl := mg (i := 379) (by decide +kernel) (by decide +kernel)
theorem tw333 : (Jvm.Cond.code ({ cls := "RoadTrace$Trace", name := "goesOn", desc := "(II)Z" } : Jvm.MethodName) prog_5_method_11_code (5 : Nat) (Option.some Jvm.ClassFile.FieldType.boolean)) ∈ gw_tbl := mg (i := 380) (by decide +kernel) (by decide +kernel)
theorem tw334 : (Jvm.Cond.methodLink "RoadTrace$Trace" (105 : Nat) ({ cls := "RoadTrace$Trace", name := "joinCandidate", desc := "(III)V" } : Jvm.MethodName)) ∈ gw_tbl := mg (i := 381) (by decide +kernel) (by decide +kernel)
theorem tw336 : (Jvm.Cond.instanceMethod ({ cls := "RoadTrace$Trace", name := "joinCandidate", desc := "(III)V" } : Jvm.MethodName)) ∈ gw_tbl := mg (i := 383) (by decide +kernel) (by decide +kernel)
theorem tw337 : (Jvm.Cond.code ({ cls := "RoadTrace$Trace", name := "joinCandidate", desc := "(III)V" } : Jvm.MethodName) prog_5_method_12_code (11 : Nat) (Option.none : Option Jvm.ClassFile.FieldType)) ∈ gw_tbl := mg (i := 384) (by decide +kernel) (by decide +kernel)
theorem tw338 : (Jvm.Cond.methodLink "RoadTrace$Trace" (109 : Nat) ({ cls := "java/lang/Math", name := "abs", desc := "(I)I" } : Jvm.MethodName)) ∈ gw_tbl := mg (i := 385) (by decide +kernel) (by decide +kernel)
theorem tw339 : (Jvm.Cond.methodLink "RoadTrace$Trace" (115 : Nat) ({ cls := "RoadTrace$Net", name := "wayLength", desc := "(II)I" } : Jvm.MethodName)) ∈ gw_tbl := mg (i := 386) (by decide +kernel) (by decide +kernel)
theorem tw340 : (Jvm.Cond.methodLink "RoadTrace$Trace" (78 : Nat) ({ cls := "RoadTrace$Trace", name := "settle", desc := "()V" } : Jvm.MethodName)) ∈ gw_tbl := mg (i := 387) (by decide +kernel) (by decide +kernel)
theorem tw342 : (Jvm.Cond.instanceMethod ({ cls := "RoadTrace$Trace", name := "settle", desc := "()V" } : Jvm.MethodName)) ∈ gw_tbl := mg (i := 389) (by decide +kernel) (by decide +kernel)
theorem tw343 : (Jvm.Cond.code ({ cls := "RoadTrace$Trace", name := "settle", desc := "()V" } : Jvm.MethodName) prog_5_method_14_code (5 : Nat) (Option.none : Option Jvm.ClassFile.FieldType)) ∈ gw_tbl := mg (i := 390) (by decide +kernel) (by decide +kernel)
theorem tw344 : (Jvm.Cond.methodLink "RoadTrace$Trace" (121 : Nat) ({ cls := "RoadTrace$Trace", name := "backOf", desc := "(II)I" } : Jvm.MethodName)) ∈ gw_tbl := mg (i := 391) (by decide +kernel) (by decide +kernel)
theorem tw346 : (Jvm.Cond.instanceMethod ({ cls := "RoadTrace$Trace", name := "backOf", desc := "(II)I" } : Jvm.MethodName)) ∈ gw_tbl := mg (i := 393) (by decide +kernel) (by decide +kernel)
theorem tw347 : (Jvm.Cond.code ({ cls := "RoadTrace$Trace", name := "backOf", desc := "(II)I" } : Jvm.MethodName) prog_5_method_16_code (3 : Nat) (Option.some Jvm.ClassFile.FieldType.int)) ∈ gw_tbl := mg (i := 394) (by decide +kernel) (by decide +kernel)
theorem tw348 : (Jvm.Cond.methodLink "RoadTrace$Trace" (118 : Nat) ({ cls := "RoadTrace$Trace", name := "hasCandidate", desc := "(II)Z" } : Jvm.MethodName)) ∈ gw_tbl := mg (i := 395) (by decide +kernel) (by decide +kernel)
theorem tw350 : (Jvm.Cond.instanceMethod ({ cls := "RoadTrace$Trace", name := "hasCandidate", desc := "(II)Z" } : Jvm.MethodName)) ∈ gw_tbl := mg (i := 397) (by decide +kernel) (by decide +kernel)
theorem tw351 : (Jvm.Cond.code ({ cls := "RoadTrace$Trace", name := "hasCandidate", desc := "(II)Z" } : Jvm.MethodName) prog_5_method_3_code (3 : Nat) (Option.some Jvm.ClassFile.FieldType.boolean)) ∈ gw_tbl := mg (i := 398) (by decide +kernel) (by decide +kernel)
theorem tw352 : (Jvm.Cond.methodLink "RoadTrace$Trace" (124 : Nat) ({ cls := "RoadTrace$Trace", name := "backsOf", desc := "(II)I" } : Jvm.MethodName)) ∈ gw_tbl := mg (i := 399) (by decide +kernel) (by decide +kernel)
theorem tw354 : (Jvm.Cond.instanceMethod ({ cls := "RoadTrace$Trace", name := "backsOf", desc := "(II)I" } : Jvm.MethodName)) ∈ gw_tbl := mg (i := 401) (by decide +kernel) (by decide +kernel)
theorem tw355 : (Jvm.Cond.code ({ cls := "RoadTrace$Trace", name := "backsOf", desc := "(II)I" } : Jvm.MethodName) prog_5_method_18_code (5 : Nat) (Option.some Jvm.ClassFile.FieldType.int)) ∈ gw_tbl := mg (i := 402) (by decide +kernel) (by decide +kernel)
theorem tw356 : (Jvm.Cond.methodLink "RoadTrace$Trace" (127 : Nat) ({ cls := "RoadTrace$Trace", name := "cheapest", desc := "(I)I" } : Jvm.MethodName)) ∈ gw_tbl := mg (i := 403) (by decide +kernel) (by decide +kernel)
theorem tw358 : (Jvm.Cond.instanceMethod ({ cls := "RoadTrace$Trace", name := "cheapest", desc := "(I)I" } : Jvm.MethodName)) ∈ gw_tbl := mg (i := 405) (by decide +kernel) (by decide +kernel)
theorem tw359 : (Jvm.Cond.code ({ cls := "RoadTrace$Trace", name := "cheapest", desc := "(I)I" } : Jvm.MethodName) prog_5_method_15_code (6 : Nat) (Option.some Jvm.ClassFile.FieldType.int)) ∈ gw_tbl := mg (i := 406) (by decide +kernel) (by decide +kernel)
theorem tw360 : (Jvm.Cond.methodLink "RoadTrace$Trace" (130 : Nat) ({ cls := "RoadTrace$Trace", name := "alive", desc := "(I)I" } : Jvm.MethodName)) ∈ gw_tbl := mg (i := 407) (by decide +kernel) (by decide +kernel)
theorem tw362 : (Jvm.Cond.instanceMethod ({ cls := "RoadTrace$Trace", name := "alive", desc := "(I)I" } : Jvm.MethodName)) ∈ gw_tbl := mg (i := 409) (by decide +kernel) (by decide +kernel)
theorem tw363 : (Jvm.Cond.code ({ cls := "RoadTrace$Trace", name := "alive", desc := "(I)I" } : Jvm.MethodName) prog_5_method_17_code (4 : Nat) (Option.some Jvm.ClassFile.FieldType.int)) ∈ gw_tbl := mg (i := 410) (by decide +kernel) (by decide +kernel)
theorem tw364 : (Jvm.Cond.methodLink "RoadTrace$Trace" (133 : Nat) ({ cls := "java/lang/Integer", name := "bitCount", desc := "(I)I" } : Jvm.MethodName)) ∈ gw_tbl := mg (i := 411) (by decide +kernel) (by decide +kernel)
theorem tw365 : (Jvm.Cond.static ({ cls := "java/lang/Integer", name := "bitCount", desc := "(I)I" } : Jvm.MethodName)) ∈ gw_tbl := mg (i := 412) (by decide +kernel) (by decide +kernel)
theorem tw366 : (Jvm.Cond.code ({ cls := "java/lang/Integer", name := "bitCount", desc := "(I)I" } : Jvm.MethodName) prog_8_method_49_code (1 : Nat) (Option.some Jvm.ClassFile.FieldType.int)) ∈ gw_tbl := mg (i := 413) (by decide +kernel) (by decide +kernel)
theorem tw367 : (Jvm.Cond.constant "java/lang/Integer" (265 : Nat) (1431655765 : Int32)) ∈ gw_tbl := mg (i := 414) (by decide +kernel) (by decide +kernel)
theorem tw368 : (Jvm.Cond.constant "java/lang/Integer" (266 : Nat) (858993459 : Int32)) ∈ gw_tbl := mg (i := 415) (by decide +kernel) (by decide +kernel)
theorem tw369 : (Jvm.Cond.constant "java/lang/Integer" (267 : Nat) (252645135 : Int32)) ∈ gw_tbl := mg (i := 416) (by decide +kernel) (by decide +kernel)
theorem tw370 : (Jvm.Cond.methodLink "RoadTraceLaw" (43 : Nat) ({ cls := "RoadTrace", name := "drop", desc := "()I" } : Jvm.MethodName)) ∈ gw_tbl := mg (i := 417) (by decide +kernel) (by decide +kernel)
theorem tw371 : (Jvm.Cond.instanceMethod ({ cls := "RoadTrace", name := "drop", desc := "()I" } : Jvm.MethodName)) ∈ gw_tbl := mg (i := 418) (by decide +kernel) (by decide +kernel)
theorem tw372 : (Jvm.Cond.selects "RoadTrace" ({ cls := "RoadTrace", name := "drop", desc := "()I" } : Jvm.MethodName) ({ cls := "RoadTrace", name := "drop", desc := "()I" } : Jvm.MethodName)) ∈ gw_tbl := mg (i := 419) (by decide +kernel) (by decide +kernel)
theorem tw373 : (Jvm.Cond.code ({ cls := "RoadTrace", name := "drop", desc := "()I" } : Jvm.MethodName) prog_1_method_9_code (1 : Nat) (Option.some Jvm.ClassFile.FieldType.int)) ∈ gw_tbl := mg (i := 420) (by decide +kernel) (by decide +kernel)
theorem tw374 : (Jvm.Cond.methodLink "RoadTrace" (95 : Nat) ({ cls := "RoadTrace$Trace", name := "dropFix", desc := "()V" } : Jvm.MethodName)) ∈ gw_tbl := mg (i := 421) (by decide +kernel) (by decide +kernel)
theorem tw375 : (Jvm.Cond.instanceMethod ({ cls := "RoadTrace$Trace", name := "dropFix", desc := "()V" } : Jvm.MethodName)) ∈ gw_tbl := mg (i := 422) (by decide +kernel) (by decide +kernel)
theorem tw376 : (Jvm.Cond.selects "RoadTrace$Trace" ({ cls := "RoadTrace$Trace", name := "dropFix", desc := "()V" } : Jvm.MethodName) ({ cls := "RoadTrace$Trace", name := "dropFix", desc := "()V" } : Jvm.MethodName)) ∈ gw_tbl := mg (i := 423) (by decide +kernel) (by decide +kernel)
theorem tw377 : (Jvm.Cond.code ({ cls := "RoadTrace$Trace", name := "dropFix", desc := "()V" } : Jvm.MethodName) prog_5_method_7_code (1 : Nat) (Option.none : Option Jvm.ClassFile.FieldType)) ∈ gw_tbl := mg (i := 424) (by decide +kernel) (by decide +kernel)
theorem tw378 : (Jvm.Cond.methodLink "RoadTraceLaw" (48 : Nat) ({ cls := "RoadTrace", name := "candidate", desc := "(III)I" } : Jvm.MethodName)) ∈ gw_tbl := mg (i := 425) (by decide +kernel) (by decide +kernel)
theorem tw379 : (Jvm.Cond.instanceMethod ({ cls := "RoadTrace", name := "candidate", desc := "(III)I" } : Jvm.MethodName)) ∈ gw_tbl := mg (i := 426) (by decide +kernel) (by decide +kernel)
theorem tw380 : (Jvm.Cond.selects "RoadTrace" ({ cls := "RoadTrace", name := "candidate", desc := "(III)I" } : Jvm.MethodName) ({ cls := "RoadTrace", name := "candidate", desc := "(III)I" } : Jvm.MethodName)) ∈ gw_tbl := mg (i := 427) (by decide +kernel) (by decide +kernel)
theorem tw381 : (Jvm.Cond.code ({ cls := "RoadTrace", name := "candidate", desc := "(III)I" } : Jvm.MethodName) prog_1_method_10_code (4 : Nat) (Option.some Jvm.ClassFile.FieldType.int)) ∈ gw_tbl := mg (i := 428) (by decide +kernel) (by decide +kernel)
theorem tw382 : (Jvm.Cond.methodLink "RoadTrace" (98 : Nat) ({ cls := "RoadTrace$Trace", name := "hasFix", desc := "(I)Z" } : Jvm.MethodName)) ∈ gw_tbl := mg (i := 429) (by decide +kernel) (by decide +kernel)
theorem tw383 : (Jvm.Cond.methodLink "RoadTrace" (105 : Nat) ({ cls := "RoadTrace$Trace", name := "tellCandidate", desc := "(III)I" } : Jvm.MethodName)) ∈ gw_tbl := mg (i := 430) (by decide +kernel) (by decide +kernel)
theorem tw384 : (Jvm.Cond.instanceMethod ({ cls := "RoadTrace$Trace", name := "tellCandidate", desc := "(III)I" } : Jvm.MethodName)) ∈ gw_tbl := mg (i := 431) (by decide +kernel) (by decide +kernel)
theorem tw385 : (Jvm.Cond.selects "RoadTrace$Trace" ({ cls := "RoadTrace$Trace", name := "tellCandidate", desc := "(III)I" } : Jvm.MethodName) ({ cls := "RoadTrace$Trace", name := "tellCandidate", desc := "(III)I" } : Jvm.MethodName)) ∈ gw_tbl := mg (i := 432) (by decide +kernel) (by decide +kernel)
theorem tw386 : (Jvm.Cond.code ({ cls := "RoadTrace$Trace", name := "tellCandidate", desc := "(III)I" } : Jvm.MethodName) prog_5_method_13_code (4 : Nat) (Option.some Jvm.ClassFile.FieldType.int)) ∈ gw_tbl := mg (i := 433) (by decide +kernel) (by decide +kernel)
theorem tw387 : (Jvm.Cond.methodLink "RoadTraceLaw" (52 : Nat) ({ cls := "RoadTrace", name := "best", desc := "(I)I" } : Jvm.MethodName)) ∈ gw_tbl := mg (i := 434) (by decide +kernel) (by decide +kernel)
theorem tw388 : (Jvm.Cond.instanceMethod ({ cls := "RoadTrace", name := "best", desc := "(I)I" } : Jvm.MethodName)) ∈ gw_tbl := mg (i := 435) (by decide +kernel) (by decide +kernel)
theorem tw389 : (Jvm.Cond.selects "RoadTrace" ({ cls := "RoadTrace", name := "best", desc := "(I)I" } : Jvm.MethodName) ({ cls := "RoadTrace", name := "best", desc := "(I)I" } : Jvm.MethodName)) ∈ gw_tbl := mg (i := 436) (by decide +kernel) (by decide +kernel)
theorem tw390 : (Jvm.Cond.code ({ cls := "RoadTrace", name := "best", desc := "(I)I" } : Jvm.MethodName) prog_1_method_11_code (2 : Nat) (Option.some Jvm.ClassFile.FieldType.int)) ∈ gw_tbl := mg (i := 437) (by decide +kernel) (by decide +kernel)
theorem tw391 : (Jvm.Cond.methodLink "RoadTrace" (109 : Nat) ({ cls := "RoadTrace$Trace", name := "chosenSpot", desc := "(I)I" } : Jvm.MethodName)) ∈ gw_tbl := mg (i := 438) (by decide +kernel) (by decide +kernel)
theorem tw392 : (Jvm.Cond.instanceMethod ({ cls := "RoadTrace$Trace", name := "chosenSpot", desc := "(I)I" } : Jvm.MethodName)) ∈ gw_tbl := mg (i := 439) (by decide +kernel) (by decide +kernel)
theorem tw393 : (Jvm.Cond.selects "RoadTrace$Trace" ({ cls := "RoadTrace$Trace", name := "chosenSpot", desc := "(I)I" } : Jvm.MethodName) ({ cls := "RoadTrace$Trace", name := "chosenSpot", desc := "(I)I" } : Jvm.MethodName)) ∈ gw_tbl := mg (i := 440) (by decide +kernel) (by decide +kernel)
theorem tw394 : (Jvm.Cond.code ({ cls := "RoadTrace$Trace", name := "chosenSpot", desc := "(I)I" } : Jvm.MethodName) prog_5_method_19_code (3 : Nat) (Option.some Jvm.ClassFile.FieldType.int)) ∈ gw_tbl := mg (i := 441) (by decide +kernel) (by decide +kernel)
theorem tw395 : (Jvm.Cond.methodLink "RoadTraceLaw" (57 : Nat) ({ cls := "RoadTrace", name := "decided", desc := "(I)I" } : Jvm.MethodName)) ∈ gw_tbl := mg (i := 442) (by decide +kernel) (by decide +kernel)
theorem tw396 : (Jvm.Cond.instanceMethod ({ cls := "RoadTrace", name := "decided", desc := "(I)I" } : Jvm.MethodName)) ∈ gw_tbl := mg (i := 443) (by decide +kernel) (by decide +kernel)
theorem tw397 : (Jvm.Cond.selects "RoadTrace" ({ cls := "RoadTrace", name := "decided", desc := "(I)I" } : Jvm.MethodName) ({ cls := "RoadTrace", name := "decided", desc := "(I)I" } : Jvm.MethodName)) ∈ gw_tbl := mg (i := 444) (by decide +kernel) (by decide +kernel)
theorem tw398 : (Jvm.Cond.code ({ cls := "RoadTrace", name := "decided", desc := "(I)I" } : Jvm.MethodName) prog_1_method_12_code (2 : Nat) (Option.some Jvm.ClassFile.FieldType.int)) ∈ gw_tbl := mg (i := 445) (by decide +kernel) (by decide +kernel)
theorem tw399 : (Jvm.Cond.methodLink "RoadTraceLaw" (61 : Nat) ({ cls := "RoadTrace", name := "piece", desc := "(I)I" } : Jvm.MethodName)) ∈ gw_tbl := mg (i := 446) (by decide +kernel) (by decide +kernel)
theorem tw400 : (Jvm.Cond.instanceMethod ({ cls := "RoadTrace", name := "piece", desc := "(I)I" } : Jvm.MethodName)) ∈ gw_tbl := mg (i := 447) (by decide +kernel) (by decide +kernel)
theorem tw401 : (Jvm.Cond.selects "RoadTrace" ({ cls := "RoadTrace", name := "piece", desc := "(I)I" } : Jvm.MethodName) ({ cls := "RoadTrace", name := "piece", desc := "(I)I" } : Jvm.MethodName)) ∈ gw_tbl := mg (i := 448) (by decide +kernel) (by decide +kernel)
theorem tw402 : (Jvm.Cond.code ({ cls := "RoadTrace", name := "piece", desc := "(I)I" } : Jvm.MethodName) prog_1_method_13_code (2 : Nat) (Option.some Jvm.ClassFile.FieldType.int)) ∈ gw_tbl := mg (i := 449) (by decide +kernel) (by decide +kernel)
theorem tw403 : (Jvm.Cond.methodLink "RoadTraceLaw" (65 : Nat) ({ cls := "RoadTrace", name := "step", desc := "(I)I" } : Jvm.MethodName)) ∈ gw_tbl := mg (i := 450) (by decide +kernel) (by decide +kernel)
theorem tw404 : (Jvm.Cond.instanceMethod ({ cls := "RoadTrace", name := "step", desc := "(I)I" } : Jvm.MethodName)) ∈ gw_tbl := mg (i := 451) (by decide +kernel) (by decide +kernel)
theorem tw405 : (Jvm.Cond.selects "RoadTrace" ({ cls := "RoadTrace", name := "step", desc := "(I)I" } : Jvm.MethodName) ({ cls := "RoadTrace", name := "step", desc := "(I)I" } : Jvm.MethodName)) ∈ gw_tbl := mg (i := 452) (by decide +kernel) (by decide +kernel)
theorem tw406 : (Jvm.Cond.code ({ cls := "RoadTrace", name := "step", desc := "(I)I" } : Jvm.MethodName) prog_1_method_14_code (2 : Nat) (Option.some Jvm.ClassFile.FieldType.int)) ∈ gw_tbl := mg (i := 453) (by decide +kernel) (by decide +kernel)
theorem tw407 : (Jvm.Cond.methodLink "RoadTrace" (120 : Nat) ({ cls := "RoadTrace$Trace", name := "stepLength", desc := "(I)I" } : Jvm.MethodName)) ∈ gw_tbl := mg (i := 454) (by decide +kernel) (by decide +kernel)
theorem tw408 : (Jvm.Cond.instanceMethod ({ cls := "RoadTrace$Trace", name := "stepLength", desc := "(I)I" } : Jvm.MethodName)) ∈ gw_tbl := mg (i := 455) (by decide +kernel) (by decide +kernel)
theorem tw409 : (Jvm.Cond.selects "RoadTrace$Trace" ({ cls := "RoadTrace$Trace", name := "stepLength", desc := "(I)I" } : Jvm.MethodName) ({ cls := "RoadTrace$Trace", name := "stepLength", desc := "(I)I" } : Jvm.MethodName)) ∈ gw_tbl := mg (i := 456) (by decide +kernel) (by decide +kernel)
theorem tw410 : (Jvm.Cond.code ({ cls := "RoadTrace$Trace", name := "stepLength", desc := "(I)I" } : Jvm.MethodName) prog_5_method_20_code (3 : Nat) (Option.some Jvm.ClassFile.FieldType.int)) ∈ gw_tbl := mg (i := 457) (by decide +kernel) (by decide +kernel)
theorem tw411 : (Jvm.Cond.methodLink "RoadTrace$Trace" (138 : Nat) ({ cls := "RoadTrace$Trace", name := "stepStart", desc := "(I)I" } : Jvm.MethodName)) ∈ gw_tbl := mg (i := 458) (by decide +kernel) (by decide +kernel)
theorem tw413 : (Jvm.Cond.instanceMethod ({ cls := "RoadTrace$Trace", name := "stepStart", desc := "(I)I" } : Jvm.MethodName)) ∈ gw_tbl := mg (i := 460) (by decide +kernel) (by decide +kernel)
theorem tw414 : (Jvm.Cond.code ({ cls := "RoadTrace$Trace", name := "stepStart", desc := "(I)I" } : Jvm.MethodName) prog_5_method_22_code (2 : Nat) (Option.some Jvm.ClassFile.FieldType.int)) ∈ gw_tbl := mg (i := 461) (by decide +kernel) (by decide +kernel)
theorem tw415 : (Jvm.Cond.methodLink "RoadTrace$Trace" (141 : Nat) ({ cls := "RoadTrace$Trace", name := "chosenSpot", desc := "(I)I" } : Jvm.MethodName)) ∈ gw_tbl := mg (i := 462) (by decide +kernel) (by decide +kernel)
theorem tw416 : (Jvm.Cond.methodLink "RoadTraceLaw" (69 : Nat) ({ cls := "RoadTrace", name := "through", desc := "(II)I" } : Jvm.MethodName)) ∈ gw_tbl := mg (i := 463) (by decide +kernel) (by decide +kernel)
theorem tw417 : (Jvm.Cond.instanceMethod ({ cls := "RoadTrace", name := "through", desc := "(II)I" } : Jvm.MethodName)) ∈ gw_tbl := mg (i := 464) (by decide +kernel) (by decide +kernel)
theorem tw418 : (Jvm.Cond.selects "RoadTrace" ({ cls := "RoadTrace", name := "through", desc := "(II)I" } : Jvm.MethodName) ({ cls := "RoadTrace", name := "through", desc := "(II)I" } : Jvm.MethodName)) ∈ gw_tbl := mg (i := 465) (by decide +kernel) (by decide +kernel)
theorem tw419 : (Jvm.Cond.code ({ cls := "RoadTrace", name := "through", desc := "(II)I" } : Jvm.MethodName) prog_1_method_15_code (3 : Nat) (Option.some Jvm.ClassFile.FieldType.int)) ∈ gw_tbl := mg (i := 466) (by decide +kernel) (by decide +kernel)
theorem tw420 : (Jvm.Cond.methodLink "RoadTrace" (123 : Nat) ({ cls := "RoadTrace$Trace", name := "stepCrossing", desc := "(II)I" } : Jvm.MethodName)) ∈ gw_tbl := mg (i := 467) (by decide +kernel) (by decide +kernel)
theorem tw421 : (Jvm.Cond.instanceMethod ({ cls := "RoadTrace$Trace", name := "stepCrossing", desc := "(II)I" } : Jvm.MethodName)) ∈ gw_tbl := mg (i := 468) (by decide +kernel) (by decide +kernel)
theorem tw422 : (Jvm.Cond.selects "RoadTrace$Trace" ({ cls := "RoadTrace$Trace", name := "stepCrossing", desc := "(II)I" } : Jvm.MethodName) ({ cls := "RoadTrace$Trace", name := "stepCrossing", desc := "(II)I" } : Jvm.MethodName)) ∈ gw_tbl := mg (i := 469) (by decide +kernel) (by decide +kernel)
theorem tw423 : (Jvm.Cond.code ({ cls := "RoadTrace$Trace", name := "stepCrossing", desc := "(II)I" } : Jvm.MethodName) prog_5_method_21_code (4 : Nat) (Option.some Jvm.ClassFile.FieldType.int)) ∈ gw_tbl := mg (i := 470) (by decide +kernel) (by decide +kernel)
theorem tw424 : (Jvm.Cond.methodLink "RoadTrace$Trace" (144 : Nat) ({ cls := "RoadTrace$Net", name := "crossingOnWay", desc := "(III)I" } : Jvm.MethodName)) ∈ gw_tbl := mg (i := 471) (by decide +kernel) (by decide +kernel)
theorem tw425 : (Jvm.Cond.instanceMethod ({ cls := "RoadTrace$Net", name := "crossingOnWay", desc := "(III)I" } : Jvm.MethodName)) ∈ gw_tbl := mg (i := 472) (by decide +kernel) (by decide +kernel)
theorem tw426 : (Jvm.Cond.selects "RoadTrace$Net" ({ cls := "RoadTrace$Net", name := "crossingOnWay", desc := "(III)I" } : Jvm.MethodName) ({ cls := "RoadTrace$Net", name := "crossingOnWay", desc := "(III)I" } : Jvm.MethodName)) ∈ gw_tbl := mg (i := 473) (by decide +kernel) (by decide +kernel)
theorem tw427 : (Jvm.Cond.code ({ cls := "RoadTrace$Net", name := "crossingOnWay", desc := "(III)I" } : Jvm.MethodName) prog_2_method_29_code (8 : Nat) (Option.some Jvm.ClassFile.FieldType.int)) ∈ gw_tbl := mg (i := 474) (by decide +kernel) (by decide +kernel)
theorem tw428 : (Jvm.Cond.methodLink "RoadTrace$Net" (109 : Nat) ({ cls := "RoadTrace$Net", name := "wayOut", desc := "(II)I" } : Jvm.MethodName)) ∈ gw_tbl := mg (i := 475) (by decide +kernel) (by decide +kernel)
theorem tw430 : (Jvm.Cond.instanceMethod ({ cls := "RoadTrace$Net", name := "wayOut", desc := "(II)I" } : Jvm.MethodName)) ∈ gw_tbl := mg (i := 477) (by decide +kernel) (by decide +kernel)
theorem tw431 : (Jvm.Cond.code ({ cls := "RoadTrace$Net", name := "wayOut", desc := "(II)I" } : Jvm.MethodName) prog_2_method_21_code (5 : Nat) (Option.some Jvm.ClassFile.FieldType.int)) ∈ gw_tbl := mg (i := 478) (by decide +kernel) (by decide +kernel)
theorem tw432 : (Jvm.Cond.methodLink "RoadTrace$Net" (87 : Nat) ({ cls := "RoadTrace$Net", name := "wayLength", desc := "(II)I" } : Jvm.MethodName)) ∈ gw_tbl := mg (i := 479) (by decide +kernel) (by decide +kernel)
theorem tw433 : (Jvm.Cond.methodLink "RoadTrace$Net" (112 : Nat) ({ cls := "RoadTrace$Net", name := "nextCrossing", desc := "(II)I" } : Jvm.MethodName)) ∈ gw_tbl := mg (i := 480) (by decide +kernel) (by decide +kernel)
theorem tw435 : (Jvm.Cond.instanceMethod ({ cls := "RoadTrace$Net", name := "nextCrossing", desc := "(II)I" } : Jvm.MethodName)) ∈ gw_tbl := mg (i := 482) (by decide +kernel) (by decide +kernel)
theorem tw436 : (Jvm.Cond.code ({ cls := "RoadTrace$Net", name := "nextCrossing", desc := "(II)I" } : Jvm.MethodName) prog_2_method_30_code (8 : Nat) (Option.some Jvm.ClassFile.FieldType.int)) ∈ gw_tbl := mg (i := 483) (by decide +kernel) (by decide +kernel)
theorem tw437 : (Jvm.Cond.methodLink "RoadTrace$Net" (115 : Nat) ({ cls := "RoadTrace$Net", name := "leastBetween", desc := "(II)I" } : Jvm.MethodName)) ∈ gw_tbl := mg (i := 484) (by decide +kernel) (by decide +kernel)
theorem tw438 : (Jvm.Cond.methodLink "RoadTrace$Net" (118 : Nat) ({ cls := "RoadTrace$Net", name := "leadsFrom", desc := "(II)I" } : Jvm.MethodName)) ∈ gw_tbl := mg (i := 485) (by decide +kernel) (by decide +kernel)
theorem tw440 : (Jvm.Cond.instanceMethod ({ cls := "RoadTrace$Net", name := "leadsFrom", desc := "(II)I" } : Jvm.MethodName)) ∈ gw_tbl := mg (i := 487) (by decide +kernel) (by decide +kernel)
theorem tw441 : (Jvm.Cond.code ({ cls := "RoadTrace$Net", name := "leadsFrom", desc := "(II)I" } : Jvm.MethodName) prog_2_method_31_code (3 : Nat) (Option.some Jvm.ClassFile.FieldType.int)) ∈ gw_tbl := mg (i := 488) (by decide +kernel) (by decide +kernel)
theorem tw442 : (Jvm.Cond.methodLink "RoadTraceLaw" (73 : Nat) ({ cls := "RoadTrace", name := "total", desc := "(I)I" } : Jvm.MethodName)) ∈ gw_tbl := mg (i := 489) (by decide +kernel) (by decide +kernel)
theorem tw443 : (Jvm.Cond.instanceMethod ({ cls := "RoadTrace", name := "total", desc := "(I)I" } : Jvm.MethodName)) ∈ gw_tbl := mg (i := 490) (by decide +kernel) (by decide +kernel)
theorem tw444 : (Jvm.Cond.selects "RoadTrace" ({ cls := "RoadTrace", name := "total", desc := "(I)I" } : Jvm.MethodName) ({ cls := "RoadTrace", name := "total", desc := "(I)I" } : Jvm.MethodName)) ∈ gw_tbl := mg (i := 491) (by decide +kernel) (by decide +kernel)
theorem tw445 : (Jvm.Cond.code ({ cls := "RoadTrace", name := "total", desc := "(I)I" } : Jvm.MethodName) prog_1_method_16_code (2 : Nat) (Option.some Jvm.ClassFile.FieldType.int)) ∈ gw_tbl := mg (i := 492) (by decide +kernel) (by decide +kernel)
theorem tw446 : (Jvm.Cond.methodLink "RoadTrace" (126 : Nat) ({ cls := "RoadTrace$Trace", name := "sumOfCosts", desc := "()I" } : Jvm.MethodName)) ∈ gw_tbl := mg (i := 493) (by decide +kernel) (by decide +kernel)
theorem tw447 : (Jvm.Cond.instanceMethod ({ cls := "RoadTrace$Trace", name := "sumOfCosts", desc := "()I" } : Jvm.MethodName)) ∈ gw_tbl := mg (i := 494) (by decide +kernel) (by decide +kernel)
theorem tw448 : (Jvm.Cond.selects "RoadTrace$Trace" ({ cls := "RoadTrace$Trace", name := "sumOfCosts", desc := "()I" } : Jvm.MethodName) ({ cls := "RoadTrace$Trace", name := "sumOfCosts", desc := "()I" } : Jvm.MethodName)) ∈ gw_tbl := mg (i := 495) (by decide +kernel) (by decide +kernel)
theorem tw449 : (Jvm.Cond.code ({ cls := "RoadTrace$Trace", name := "sumOfCosts", desc := "()I" } : Jvm.MethodName) prog_5_method_23_code (4 : Nat) (Option.some Jvm.ClassFile.FieldType.int)) ∈ gw_tbl := mg (i := 496) (by decide +kernel) (by decide +kernel)
theorem tw450 : (Jvm.Cond.methodLink "RoadTrace$Trace" (147 : Nat) ({ cls := "RoadTrace$Trace", name := "endsPiece", desc := "(I)Z" } : Jvm.MethodName)) ∈ gw_tbl := mg (i := 497) (by decide +kernel) (by decide +kernel)
theorem tw452 : (Jvm.Cond.instanceMethod ({ cls := "RoadTrace$Trace", name := "endsPiece", desc := "(I)Z" } : Jvm.MethodName)) ∈ gw_tbl := mg (i := 499) (by decide +kernel) (by decide +kernel)
theorem tw453 : (Jvm.Cond.code ({ cls := "RoadTrace$Trace", name := "endsPiece", desc := "(I)Z" } : Jvm.MethodName) prog_5_method_24_code (3 : Nat) (Option.some Jvm.ClassFile.FieldType.boolean)) ∈ gw_tbl := mg (i := 500) (by decide +kernel) (by decide +kernel)
theorem tw454 : (Jvm.Cond.methodLink "RoadTrace" (130 : Nat) ({ cls := "RoadTrace$Trace", name := "countPieces", desc := "()I" } : Jvm.MethodName)) ∈ gw_tbl := mg (i := 501) (by decide +kernel) (by decide +kernel)
theorem tw455 : (Jvm.Cond.instanceMethod ({ cls := "RoadTrace$Trace", name := "countPieces", desc := "()I" } : Jvm.MethodName)) ∈ gw_tbl := mg (i := 502) (by decide +kernel) (by decide +kernel)
theorem tw456 : (Jvm.Cond.selects "RoadTrace$Trace" ({ cls := "RoadTrace$Trace", name := "countPieces", desc := "()I" } : Jvm.MethodName) ({ cls := "RoadTrace$Trace", name := "countPieces", desc := "()I" } : Jvm.MethodName)) ∈ gw_tbl := mg (i := 503) (by decide +kernel) (by decide +kernel)
theorem tw457 : (Jvm.Cond.code ({ cls := "RoadTrace$Trace", name := "countPieces", desc := "()I" } : Jvm.MethodName) prog_5_method_25_code (2 : Nat) (Option.some Jvm.ClassFile.FieldType.int)) ∈ gw_tbl := mg (i := 504) (by decide +kernel) (by decide +kernel)
theorem tw458 : (Jvm.Cond.methodLink "RoadTrace" (133 : Nat) ({ cls := "RoadTrace$Trace", name := "countGaps", desc := "()I" } : Jvm.MethodName)) ∈ gw_tbl := mg (i := 505) (by decide +kernel) (by decide +kernel)
theorem tw459 : (Jvm.Cond.instanceMethod ({ cls := "RoadTrace$Trace", name := "countGaps", desc := "()I" } : Jvm.MethodName)) ∈ gw_tbl := mg (i := 506) (by decide +kernel) (by decide +kernel)
theorem tw460 : (Jvm.Cond.selects "RoadTrace$Trace" ({ cls := "RoadTrace$Trace", name := "countGaps", desc := "()I" } : Jvm.MethodName) ({ cls := "RoadTrace$Trace", name := "countGaps", desc := "()I" } : Jvm.MethodName)) ∈ gw_tbl := mg (i := 507) (by decide +kernel) (by decide +kernel)
theorem tw461 : (Jvm.Cond.code ({ cls := "RoadTrace$Trace", name := "countGaps", desc := "()I" } : Jvm.MethodName) prog_5_method_26_code (3 : Nat) (Option.some Jvm.ClassFile.FieldType.int)) ∈ gw_tbl := mg (i := 508) (by decide +kernel) (by decide +kernel)
theorem tw462 : (Jvm.Cond.methodLink "RoadTrace" (136 : Nat) ({ cls := "RoadTrace$Trace", name := "countDecided", desc := "()I" } : Jvm.MethodName)) ∈ gw_tbl := mg (i := 509) (by decide +kernel) (by decide +kernel)
theorem tw463 : (Jvm.Cond.instanceMethod ({ cls := "RoadTrace$Trace", name := "countDecided", desc := "()I" } : Jvm.MethodName)) ∈ gw_tbl := mg (i := 510) (by decide +kernel) (by decide +kernel)
theorem tw464 : (Jvm.Cond.selects "RoadTrace$Trace" ({ cls := "RoadTrace$Trace", name := "countDecided", desc := "()I" } : Jvm.MethodName) ({ cls := "RoadTrace$Trace", name := "countDecided", desc := "()I" } : Jvm.MethodName)) ∈ gw_tbl := mg (i := 511) (by decide +kernel) (by decide +kernel)
theorem tw465 : (Jvm.Cond.code ({ cls := "RoadTrace$Trace", name := "countDecided", desc := "()I" } : Jvm.MethodName) prog_5_method_27_code (3 : Nat) (Option.some Jvm.ClassFile.FieldType.int)) ∈ gw_tbl := mg (i := 512) (by decide +kernel) (by decide +kernel)
theorem tw466 : (Jvm.Cond.methodLink "RoadTrace" (139 : Nat) ({ cls := "RoadTrace$Trace", name := "sumOfSteps", desc := "()I" } : Jvm.MethodName)) ∈ gw_tbl := mg (i := 513) (by decide +kernel) (by decide +kernel)
theorem tw467 : (Jvm.Cond.instanceMethod ({ cls := "RoadTrace$Trace", name := "sumOfSteps", desc := "()I" } : Jvm.MethodName)) ∈ gw_tbl := mg (i := 514) (by decide +kernel) (by decide +kernel)
theorem tw468 : (Jvm.Cond.selects "RoadTrace$Trace" ({ cls := "RoadTrace$Trace", name := "sumOfSteps", desc := "()I" } : Jvm.MethodName) ({ cls := "RoadTrace$Trace", name := "sumOfSteps", desc := "()I" } : Jvm.MethodName)) ∈ gw_tbl := mg (i := 515) (by decide +kernel) (by decide +kernel)
theorem tw469 : (Jvm.Cond.code ({ cls := "RoadTrace$Trace", name := "sumOfSteps", desc := "()I" } : Jvm.MethodName) prog_5_method_28_code (4 : Nat) (Option.some Jvm.ClassFile.FieldType.int)) ∈ gw_tbl := mg (i := 516) (by decide +kernel) (by decide +kernel)
theorem tw470 : (Jvm.Cond.methodLink "RoadTrace$Trace" (150 : Nat) ({ cls := "RoadTrace$Trace", name := "stepLength", desc := "(I)I" } : Jvm.MethodName)) ∈ gw_tbl := mg (i := 517) (by decide +kernel) (by decide +kernel)
theorem tw471 : (Jvm.Cond.methodLink "RoadTraceLaw" (77 : Nat) ({ cls := "RoadTrace", name := "image", desc := "(I)I" } : Jvm.MethodName)) ∈ gw_tbl := mg (i := 518) (by decide +kernel) (by decide +kernel)
theorem tw472 : (Jvm.Cond.instanceMethod ({ cls := "RoadTrace", name := "image", desc := "(I)I" } : Jvm.MethodName)) ∈ gw_tbl := mg (i := 519) (by decide +kernel) (by decide +kernel)
theorem tw473 : (Jvm.Cond.selects "RoadTrace" ({ cls := "RoadTrace", name := "image", desc := "(I)I" } : Jvm.MethodName) ({ cls := "RoadTrace", name := "image", desc := "(I)I" } : Jvm.MethodName)) ∈ gw_tbl := mg (i := 520) (by decide +kernel) (by decide +kernel)
theorem tw474 : (Jvm.Cond.code ({ cls := "RoadTrace", name := "image", desc := "(I)I" } : Jvm.MethodName) prog_1_method_17_code (2 : Nat) (Option.some Jvm.ClassFile.FieldType.int)) ∈ gw_tbl := mg (i := 521) (by decide +kernel) (by decide +kernel)
theorem tw475 : (Jvm.Cond.methodLink "RoadTrace" (142 : Nat) ({ cls := "RoadTrace$State", name := "copyFrom", desc := "(LRoadTrace$State;)V" } : Jvm.MethodName)) ∈ gw_tbl := mg (i := 522) (by decide +kernel) (by decide +kernel)
theorem tw476 : (Jvm.Cond.instanceMethod ({ cls := "RoadTrace$State", name := "copyFrom", desc := "(LRoadTrace$State;)V" } : Jvm.MethodName)) ∈ gw_tbl := mg (i := 523) (by decide +kernel) (by decide +kernel)
theorem tw477 : (Jvm.Cond.selects "RoadTrace$State" ({ cls := "RoadTrace$State", name := "copyFrom", desc := "(LRoadTrace$State;)V" } : Jvm.MethodName) ({ cls := "RoadTrace$State", name := "copyFrom", desc := "(LRoadTrace$State;)V" } : Jvm.MethodName)) ∈ gw_tbl := mg (i := 524) (by decide +kernel) (by decide +kernel)
theorem tw478 : (Jvm.Cond.code ({ cls := "RoadTrace$State", name := "copyFrom", desc := "(LRoadTrace$State;)V" } : Jvm.MethodName) prog_4_method_2_code (2 : Nat) (Option.none : Option Jvm.ClassFile.FieldType)) ∈ gw_tbl := mg (i := 525) (by decide +kernel) (by decide +kernel)
theorem tw479 : (Jvm.Cond.methodLink "RoadTrace$State" (36 : Nat) ({ cls := "RoadTrace$Net", name := "copyFrom", desc := "(LRoadTrace$Net;)V" } : Jvm.MethodName)) ∈ gw_tbl := mg (i := 526) (by decide +kernel) (by decide +kernel)
theorem tw480 : (Jvm.Cond.instanceMethod ({ cls := "RoadTrace$Net", name := "copyFrom", desc := "(LRoadTrace$Net;)V" } : Jvm.MethodName)) ∈ gw_tbl := mg (i := 527) (by decide +kernel) (by decide +kernel)
theorem tw481 : (Jvm.Cond.selects "RoadTrace$Net" ({ cls := "RoadTrace$Net", name := "copyFrom", desc := "(LRoadTrace$Net;)V" } : Jvm.MethodName) ({ cls := "RoadTrace$Net", name := "copyFrom", desc := "(LRoadTrace$Net;)V" } : Jvm.MethodName)) ∈ gw_tbl := mg (i := 528) (by decide +kernel) (by decide +kernel)
theorem tw482 : (Jvm.Cond.code ({ cls := "RoadTrace$Net", name := "copyFrom", desc := "(LRoadTrace$Net;)V" } : Jvm.MethodName) prog_2_method_34_code (2 : Nat) (Option.none : Option Jvm.ClassFile.FieldType)) ∈ gw_tbl := mg (i := 529) (by decide +kernel) (by decide +kernel)
theorem tw483 : (Jvm.Cond.methodLink "RoadTrace$Net" (121 : Nat) ({ cls := "java/lang/System", name := "arraycopy", desc := "(Ljava/lang/Object;ILjava/lang/Object;II)V" } : Jvm.MethodName)) ∈ gw_tbl := mg (i := 530) (by decide +kernel) (by decide +kernel)
theorem tw484 : (Jvm.Cond.static ({ cls := "java/lang/System", name := "arraycopy", desc := "(Ljava/lang/Object;ILjava/lang/Object;II)V" } : Jvm.MethodName)) ∈ gw_tbl := mg (i := 531) (by decide +kernel) (by decide +kernel)
theorem tw485 : (Jvm.Cond.native ({ cls := "java/lang/System", name := "arraycopy", desc := "(Ljava/lang/Object;ILjava/lang/Object;II)V" } : Jvm.MethodName)) ∈ gw_tbl := mg (i := 532) (by decide +kernel) (by decide +kernel)
theorem tw486 : (Jvm.Cond.methodLink "RoadTrace$State" (40 : Nat) ({ cls := "RoadTrace$Rules", name := "copyFrom", desc := "(LRoadTrace$Rules;)V" } : Jvm.MethodName)) ∈ gw_tbl := mg (i := 533) (by decide +kernel) (by decide +kernel)
theorem tw487 : (Jvm.Cond.instanceMethod ({ cls := "RoadTrace$Rules", name := "copyFrom", desc := "(LRoadTrace$Rules;)V" } : Jvm.MethodName)) ∈ gw_tbl := mg (i := 534) (by decide +kernel) (by decide +kernel)
theorem tw488 : (Jvm.Cond.selects "RoadTrace$Rules" ({ cls := "RoadTrace$Rules", name := "copyFrom", desc := "(LRoadTrace$Rules;)V" } : Jvm.MethodName) ({ cls := "RoadTrace$Rules", name := "copyFrom", desc := "(LRoadTrace$Rules;)V" } : Jvm.MethodName)) ∈ gw_tbl := mg (i := 535) (by decide +kernel) (by decide +kernel)
theorem tw489 : (Jvm.Cond.code ({ cls := "RoadTrace$Rules", name := "copyFrom", desc := "(LRoadTrace$Rules;)V" } : Jvm.MethodName) prog_3_method_5_code (2 : Nat) (Option.none : Option Jvm.ClassFile.FieldType)) ∈ gw_tbl := mg (i := 536) (by decide +kernel) (by decide +kernel)
theorem tw490 : (Jvm.Cond.methodLink "RoadTrace$Rules" (18 : Nat) ({ cls := "java/lang/System", name := "arraycopy", desc := "(Ljava/lang/Object;ILjava/lang/Object;II)V" } : Jvm.MethodName)) ∈ gw_tbl := mg (i := 537) (by decide +kernel) (by decide +kernel)
theorem tw491 : (Jvm.Cond.methodLink "RoadTrace$State" (43 : Nat) ({ cls := "RoadTrace$Trace", name := "copyFrom", desc := "(LRoadTrace$Trace;)V" } : Jvm.MethodName)) ∈ gw_tbl := mg (i := 538) (by decide +kernel) (by decide +kernel)
theorem tw492 : (Jvm.Cond.instanceMethod ({ cls := "RoadTrace$Trace", name := "copyFrom", desc := "(LRoadTrace$Trace;)V" } : Jvm.MethodName)) ∈ gw_tbl := mg (i := 539) (by decide +kernel) (by decide +kernel)
theorem tw493 : (Jvm.Cond.selects "RoadTrace$Trace" ({ cls := "RoadTrace$Trace", name := "copyFrom", desc := "(LRoadTrace$Trace;)V" } : Jvm.MethodName) ({ cls := "RoadTrace$Trace", name := "copyFrom", desc := "(LRoadTrace$Trace;)V" } : Jvm.MethodName)) ∈ gw_tbl := mg (i := 540) (by decide +kernel) (by decide +kernel)
theorem tw494 : (Jvm.Cond.code ({ cls := "RoadTrace$Trace", name := "copyFrom", desc := "(LRoadTrace$Trace;)V" } : Jvm.MethodName) prog_5_method_30_code (2 : Nat) (Option.none : Option Jvm.ClassFile.FieldType)) ∈ gw_tbl := mg (i := 541) (by decide +kernel) (by decide +kernel)
theorem tw495 : (Jvm.Cond.methodLink "RoadTrace$Trace" (153 : Nat) ({ cls := "java/lang/System", name := "arraycopy", desc := "(Ljava/lang/Object;ILjava/lang/Object;II)V" } : Jvm.MethodName)) ∈ gw_tbl := mg (i := 542) (by decide +kernel) (by decide +kernel)
theorem tw496 : (Jvm.Cond.methodLink "RoadTraceLaw" (81 : Nat) ({ cls := "RoadTrace", name := "restore", desc := "(I)I" } : Jvm.MethodName)) ∈ gw_tbl := mg (i := 543) (by decide +kernel) (by decide +kernel)
theorem tw497 : (Jvm.Cond.instanceMethod ({ cls := "RoadTrace", name := "restore", desc := "(I)I" } : Jvm.MethodName)) ∈ gw_tbl := mg (i := 544) (by decide +kernel) (by decide +kernel)
theorem tw498 : (Jvm.Cond.selects "RoadTrace" ({ cls := "RoadTrace", name := "restore", desc := "(I)I" } : Jvm.MethodName) ({ cls := "RoadTrace", name := "restore", desc := "(I)I" } : Jvm.MethodName)) ∈ gw_tbl := mg (i := 545) (by decide +kernel) (by decide +kernel)
theorem tw499 : (Jvm.Cond.code ({ cls := "RoadTrace", name := "restore", desc := "(I)I" } : Jvm.MethodName) prog_1_method_18_code (2 : Nat) (Option.some Jvm.ClassFile.FieldType.int)) ∈ gw_tbl := mg (i := 546) (by decide +kernel) (by decide +kernel)
theorem tw500 : (Jvm.Cond.methodLink "RoadTraceLaw" (85 : Nat) ({ cls := "RoadTrace", name := "told", desc := "(I)I" } : Jvm.MethodName)) ∈ gw_tbl := mg (i := 547) (by decide +kernel) (by decide +kernel)
theorem tw501 : (Jvm.Cond.instanceMethod ({ cls := "RoadTrace", name := "told", desc := "(I)I" } : Jvm.MethodName)) ∈ gw_tbl := mg (i := 548) (by decide +kernel) (by decide +kernel)
theorem tw502 : (Jvm.Cond.selects "RoadTrace" ({ cls := "RoadTrace", name := "told", desc := "(I)I" } : Jvm.MethodName) ({ cls := "RoadTrace", name := "told", desc := "(I)I" } : Jvm.MethodName)) ∈ gw_tbl := mg (i := 549) (by decide +kernel) (by decide +kernel)
theorem tw503 : (Jvm.Cond.code ({ cls := "RoadTrace", name := "told", desc := "(I)I" } : Jvm.MethodName) prog_1_method_19_code (3 : Nat) (Option.some Jvm.ClassFile.FieldType.int)) ∈ gw_tbl := mg (i := 550) (by decide +kernel) (by decide +kernel)
theorem tw504 : (Jvm.Cond.methodLink "RoadTrace" (150 : Nat) ({ cls := "RoadTrace", name := "tellCount", desc := "(I)I" } : Jvm.MethodName)) ∈ gw_tbl := mg (i := 551) (by decide +kernel) (by decide +kernel)
theorem tw506 : (Jvm.Cond.instanceMethod ({ cls := "RoadTrace", name := "tellCount", desc := "(I)I" } : Jvm.MethodName)) ∈ gw_tbl := mg (i := 553) (by decide +kernel) (by decide +kernel)
theorem tw507 : (Jvm.Cond.code ({ cls := "RoadTrace", name := "tellCount", desc := "(I)I" } : Jvm.MethodName) prog_1_method_20_code (2 : Nat) (Option.some Jvm.ClassFile.FieldType.int)) ∈ gw_tbl := mg (i := 554) (by decide +kernel) (by decide +kernel)
theorem tw508 : (Jvm.Cond.methodLink "RoadTrace" (162 : Nat) ({ cls := "RoadTrace$Rules", name := "tellRule", desc := "(I)I" } : Jvm.MethodName)) ∈ gw_tbl := mg (i := 555) (by decide +kernel) (by decide +kernel)
theorem tw509 : (Jvm.Cond.instanceMethod ({ cls := "RoadTrace$Rules", name := "tellRule", desc := "(I)I" } : Jvm.MethodName)) ∈ gw_tbl := mg (i := 556) (by decide +kernel) (by decide +kernel)
theorem tw510 : (Jvm.Cond.selects "RoadTrace$Rules" ({ cls := "RoadTrace$Rules", name := "tellRule", desc := "(I)I" } : Jvm.MethodName) ({ cls := "RoadTrace$Rules", name := "tellRule", desc := "(I)I" } : Jvm.MethodName)) ∈ gw_tbl := mg (i := 557) (by decide +kernel) (by decide +kernel)
theorem tw511 : (Jvm.Cond.code ({ cls := "RoadTrace$Rules", name := "tellRule", desc := "(I)I" } : Jvm.MethodName) prog_3_method_4_code (2 : Nat) (Option.some Jvm.ClassFile.FieldType.int)) ∈ gw_tbl := mg (i := 558) (by decide +kernel) (by decide +kernel)
theorem tw512 : (Jvm.Cond.methodLink "RoadTrace" (153 : Nat) ({ cls := "RoadTrace$Net", name := "tellCrossing", desc := "(I)I" } : Jvm.MethodName)) ∈ gw_tbl := mg (i := 559) (by decide +kernel) (by decide +kernel)
theorem tw513 : (Jvm.Cond.instanceMethod ({ cls := "RoadTrace$Net", name := "tellCrossing", desc := "(I)I" } : Jvm.MethodName)) ∈ gw_tbl := mg (i := 560) (by decide +kernel) (by decide +kernel)
theorem tw514 : (Jvm.Cond.selects "RoadTrace$Net" ({ cls := "RoadTrace$Net", name := "tellCrossing", desc := "(I)I" } : Jvm.MethodName) ({ cls := "RoadTrace$Net", name := "tellCrossing", desc := "(I)I" } : Jvm.MethodName)) ∈ gw_tbl := mg (i := 561) (by decide +kernel) (by decide +kernel)
theorem tw515 : (Jvm.Cond.code ({ cls := "RoadTrace$Net", name := "tellCrossing", desc := "(I)I" } : Jvm.MethodName) prog_2_method_32_code (2 : Nat) (Option.some Jvm.ClassFile.FieldType.int)) ∈ gw_tbl := mg (i := 562) (by decide +kernel) (by decide +kernel)
theorem tw516 : (Jvm.Cond.methodLink "RoadTrace" (156 : Nat) ({ cls := "RoadTrace$Net", name := "tellRoad", desc := "(I)I" } : Jvm.MethodName)) ∈ gw_tbl := mg (i := 563) (by decide +kernel) (by decide +kernel)
theorem tw517 : (Jvm.Cond.instanceMethod ({ cls := "RoadTrace$Net", name := "tellRoad", desc := "(I)I" } : Jvm.MethodName)) ∈ gw_tbl := mg (i := 564) (by decide +kernel) (by decide +kernel)
theorem tw518 : (Jvm.Cond.selects "RoadTrace$Net" ({ cls := "RoadTrace$Net", name := "tellRoad", desc := "(I)I" } : Jvm.MethodName) ({ cls := "RoadTrace$Net", name := "tellRoad", desc := "(I)I" } : Jvm.MethodName)) ∈ gw_tbl := mg (i := 565) (by decide +kernel) (by decide +kernel)
theorem tw519 : (Jvm.Cond.code ({ cls := "RoadTrace$Net", name := "tellRoad", desc := "(I)I" } : Jvm.MethodName) prog_2_method_33_code (2 : Nat) (Option.some Jvm.ClassFile.FieldType.int)) ∈ gw_tbl := mg (i := 566) (by decide +kernel) (by decide +kernel)
theorem tw520 : (Jvm.Cond.methodLink "RoadTrace" (159 : Nat) ({ cls := "RoadTrace$Trace", name := "tellFix", desc := "(I)I" } : Jvm.MethodName)) ∈ gw_tbl := mg (i := 567) (by decide +kernel) (by decide +kernel)
theorem tw521 : (Jvm.Cond.instanceMethod ({ cls := "RoadTrace$Trace", name := "tellFix", desc := "(I)I" } : Jvm.MethodName)) ∈ gw_tbl := mg (i := 568) (by decide +kernel) (by decide +kernel)
theorem tw522 : (Jvm.Cond.selects "RoadTrace$Trace" ({ cls := "RoadTrace$Trace", name := "tellFix", desc := "(I)I" } : Jvm.MethodName) ({ cls := "RoadTrace$Trace", name := "tellFix", desc := "(I)I" } : Jvm.MethodName)) ∈ gw_tbl := mg (i := 569) (by decide +kernel) (by decide +kernel)
theorem tw523 : (Jvm.Cond.code ({ cls := "RoadTrace$Trace", name := "tellFix", desc := "(I)I" } : Jvm.MethodName) prog_5_method_29_code (2 : Nat) (Option.some Jvm.ClassFile.FieldType.int)) ∈ gw_tbl := mg (i := 570) (by decide +kernel) (by decide +kernel)
theorem tw530 : (Jvm.Cond.fieldLink "RoadTraceModel" (7 : Nat) "RoadTraceModel" "crossX" "[I") ∈ gw_tbl := mg (i := 577) (by decide +kernel) (by decide +kernel)
theorem tw531 : (Jvm.Cond.fieldLink "RoadTraceModel" (13 : Nat) "RoadTraceModel" "crossY" "[I") ∈ gw_tbl := mg (i := 578) (by decide +kernel) (by decide +kernel)
theorem tw532 : (Jvm.Cond.fieldLink "RoadTraceModel" (72 : Nat) "RoadTraceModel" "crossings" "I") ∈ gw_tbl := mg (i := 579) (by decide +kernel) (by decide +kernel)
theorem tw533 : (Jvm.Cond.fieldLink "RoadTraceModel" (16 : Nat) "RoadTraceModel" "first" "[I") ∈ gw_tbl := mg (i := 580) (by decide +kernel) (by decide +kernel)
theorem tw534 : (Jvm.Cond.fieldLink "RoadTraceModel" (19 : Nat) "RoadTraceModel" "last" "[I") ∈ gw_tbl := mg (i := 581) (by decide +kernel) (by decide +kernel)
theorem tw535 : (Jvm.Cond.fieldLink "RoadTraceModel" (22 : Nat) "RoadTraceModel" "ways" "[I") ∈ gw_tbl := mg (i := 582) (by decide +kernel) (by decide +kernel)
theorem tw536 : (Jvm.Cond.fieldLink "RoadTraceModel" (87 : Nat) "RoadTraceModel" "roads" "I") ∈ gw_tbl := mg (i := 583) (by decide +kernel) (by decide +kernel)
theorem tw537 : (Jvm.Cond.fieldLink "RoadTraceModel" (25 : Nat) "RoadTraceModel" "rules" "[I") ∈ gw_tbl := mg (i := 584) (by decide +kernel) (by decide +kernel)
theorem tw538 : (Jvm.Cond.fieldLink "RoadTraceModel" (28 : Nat) "RoadTraceModel" "fixX" "[I") ∈ gw_tbl := mg (i := 585) (by decide +kernel) (by decide +kernel)
theorem tw539 : (Jvm.Cond.fieldLink "RoadTraceModel" (31 : Nat) "RoadTraceModel" "fixY" "[I") ∈ gw_tbl := mg (i := 586) (by decide +kernel) (by decide +kernel)
theorem tw540 : (Jvm.Cond.fieldLink "RoadTraceModel" (80 : Nat) "RoadTraceModel" "fixes" "I") ∈ gw_tbl := mg (i := 587) (by decide +kernel) (by decide +kernel)
theorem tw541 : (Jvm.Cond.fieldLink "RoadTraceModel" (34 : Nat) "RoadTraceModel" "far" "[I") ∈ gw_tbl := mg (i := 588) (by decide +kernel) (by decide +kernel)
theorem tw542 : (Jvm.Cond.fieldLink "RoadTraceModel" (37 : Nat) "RoadTraceModel" "spot" "[I") ∈ gw_tbl := mg (i := 589) (by decide +kernel) (by decide +kernel)
theorem tw543 : (Jvm.Cond.fieldLink "RoadTraceModel" (40 : Nat) "RoadTraceModel" "side" "[I") ∈ gw_tbl := mg (i := 590) (by decide +kernel) (by decide +kernel)
theorem tw544 : (Jvm.Cond.fieldLink "RoadTraceModel" (43 : Nat) "RoadTraceModel" "cost" "[I") ∈ gw_tbl := mg (i := 591) (by decide +kernel) (by decide +kernel)
theorem tw545 : (Jvm.Cond.fieldLink "RoadTraceModel" (46 : Nat) "RoadTraceModel" "back" "[I") ∈ gw_tbl := mg (i := 592) (by decide +kernel) (by decide +kernel)
theorem tw546 : (Jvm.Cond.fieldLink "RoadTraceModel" (49 : Nat) "RoadTraceModel" "many" "[I") ∈ gw_tbl := mg (i := 593) (by decide +kernel) (by decide +kernel)
theorem tw547 : (Jvm.Cond.fieldLink "RoadTraceModel" (52 : Nat) "RoadTraceModel" "piece" "[I") ∈ gw_tbl := mg (i := 594) (by decide +kernel) (by decide +kernel)
theorem tw548 : (Jvm.Cond.fieldLink "RoadTraceModel" (55 : Nat) "RoadTraceModel" "ahead" "[I") ∈ gw_tbl := mg (i := 595) (by decide +kernel) (by decide +kernel)
theorem tw549 : (Jvm.Cond.fieldLink "RoadTraceModel" (58 : Nat) "RoadTraceModel" "best" "[I") ∈ gw_tbl := mg (i := 596) (by decide +kernel) (by decide +kernel)
theorem tw550 : (Jvm.Cond.fieldLink "RoadTraceModel" (127 : Nat) "RoadTraceModel" "pieces" "I") ∈ gw_tbl := mg (i := 597) (by decide +kernel) (by decide +kernel)
theorem tw551 : (Jvm.Cond.fieldLink "RoadTraceModel" (61 : Nat) "RoadTraceModel" "image" "[I") ∈ gw_tbl := mg (i := 598) (by decide +kernel) (by decide +kernel)
theorem tw552 : (Jvm.Cond.fieldLink "RoadTraceModel" (64 : Nat) "RoadTraceModel" "isKept" "[Z") ∈ gw_tbl := mg (i := 599) (by decide +kernel) (by decide +kernel)
theorem tw600 : (Jvm.Cond.methodLink "RoadTraceLaw" (17 : Nat) ({ cls := "RoadTraceModel", name := "crossing", desc := "(II)I" } : Jvm.MethodName)) ∈ gw_tbl := mg (i := 647) (by decide +kernel) (by decide +kernel)
theorem tw601 : (Jvm.Cond.instanceMethod ({ cls := "RoadTraceModel", name := "crossing", desc := "(II)I" } : Jvm.MethodName)) ∈ gw_tbl := mg (i := 648) (by decide +kernel) (by decide +kernel)
theorem tw602 : (Jvm.Cond.selects "RoadTraceModel" ({ cls := "RoadTraceModel", name := "crossing", desc := "(II)I" } : Jvm.MethodName) ({ cls := "RoadTraceModel", name := "crossing", desc := "(II)I" } : Jvm.MethodName)) ∈ gw_tbl := mg (i := 649) (by decide +kernel) (by decide +kernel)
theorem tw603 : (Jvm.Cond.code ({ cls := "RoadTraceModel", name := "crossing", desc := "(II)I" } : Jvm.MethodName) prog_7_method_6_code (4 : Nat) (Option.some Jvm.ClassFile.FieldType.int)) ∈ gw_tbl := mg (i := 650) (by decide +kernel) (by decide +kernel)
theorem tw604 : (Jvm.Cond.methodLink "RoadTraceModel" (76 : Nat) ({ cls := "RoadTraceModel", name := "in", desc := "(III)Z" } : Jvm.MethodName)) ∈ gw_tbl := mg (i := 651) (by decide +kernel) (by decide +kernel)
theorem tw605 : (Jvm.Cond.static ({ cls := "RoadTraceModel", name := "in", desc := "(III)Z" } : Jvm.MethodName)) ∈ gw_tbl := mg (i := 652) (by decide +kernel) (by decide +kernel)
theorem tw606 : (Jvm.Cond.code ({ cls := "RoadTraceModel", name := "in", desc := "(III)Z" } : Jvm.MethodName) prog_7_method_2_code (3 : Nat) (Option.some Jvm.ClassFile.FieldType.boolean)) ∈ gw_tbl := mg (i := 653) (by decide +kernel) (by decide +kernel)
theorem tw607 : (Jvm.Cond.methodLink "RoadTraceLaw" (22 : Nat) ({ cls := "RoadTraceModel", name := "road", desc := "(III)I" } : Jvm.MethodName)) ∈ gw_tbl := mg (i := 654) (by decide +kernel) (by decide +kernel)
theorem tw608 : (Jvm.Cond.instanceMethod ({ cls := "RoadTraceModel", name := "road", desc := "(III)I" } : Jvm.MethodName)) ∈ gw_tbl := mg (i := 655) (by decide +kernel) (by decide +kernel)
theorem tw609 : (Jvm.Cond.selects "RoadTraceModel" ({ cls := "RoadTraceModel", name := "road", desc := "(III)I" } : Jvm.MethodName) ({ cls := "RoadTraceModel", name := "road", desc := "(III)I" } : Jvm.MethodName)) ∈ gw_tbl := mg (i := 656) (by decide +kernel) (by decide +kernel)
theorem tw610 : (Jvm.Cond.code ({ cls := "RoadTraceModel", name := "road", desc := "(III)I" } : Jvm.MethodName) prog_7_method_7_code (6 : Nat) (Option.some Jvm.ClassFile.FieldType.int)) ∈ gw_tbl := mg (i := 657) (by decide +kernel) (by decide +kernel)
theorem tw611 : (Jvm.Cond.methodLink "RoadTraceModel" (83 : Nat) ({ cls := "RoadTraceModel", name := "isCrossing", desc := "(I)Z" } : Jvm.MethodName)) ∈ gw_tbl := mg (i := 658) (by decide +kernel) (by decide +kernel)
theorem tw613 : (Jvm.Cond.instanceMethod ({ cls := "RoadTraceModel", name := "isCrossing", desc := "(I)Z" } : Jvm.MethodName)) ∈ gw_tbl := mg (i := 660) (by decide +kernel) (by decide +kernel)
theorem tw614 : (Jvm.Cond.code ({ cls := "RoadTraceModel", name := "isCrossing", desc := "(I)Z" } : Jvm.MethodName) prog_7_method_5_code (2 : Nat) (Option.some Jvm.ClassFile.FieldType.boolean)) ∈ gw_tbl := mg (i := 661) (by decide +kernel) (by decide +kernel)
theorem tw615 : (Jvm.Cond.methodLink "RoadTraceLaw" (26 : Nat) ({ cls := "RoadTraceModel", name := "rule", desc := "(II)I" } : Jvm.MethodName)) ∈ gw_tbl := mg (i := 662) (by decide +kernel) (by decide +kernel)
theorem tw616 : (Jvm.Cond.instanceMethod ({ cls := "RoadTraceModel", name := "rule", desc := "(II)I" } : Jvm.MethodName)) ∈ gw_tbl := mg (i := 663) (by decide +kernel) (by decide +kernel)
theorem tw617 : (Jvm.Cond.selects "RoadTraceModel" ({ cls := "RoadTraceModel", name := "rule", desc := "(II)I" } : Jvm.MethodName) ({ cls := "RoadTraceModel", name := "rule", desc := "(II)I" } : Jvm.MethodName)) ∈ gw_tbl := mg (i := 664) (by decide +kernel) (by decide +kernel)
theorem tw618 : (Jvm.Cond.code ({ cls := "RoadTraceModel", name := "rule", desc := "(II)I" } : Jvm.MethodName) prog_7_method_8_code (4 : Nat) (Option.some Jvm.ClassFile.FieldType.int)) ∈ gw_tbl := mg (i := 665) (by decide +kernel) (by decide +kernel)
theorem tw619 : (Jvm.Cond.methodLink "RoadTraceLaw" (30 : Nat) ({ cls := "RoadTraceModel", name := "cell", desc := "(II)I" } : Jvm.MethodName)) ∈ gw_tbl := mg (i := 666) (by decide +kernel) (by decide +kernel)
theorem tw620 : (Jvm.Cond.instanceMethod ({ cls := "RoadTraceModel", name := "cell", desc := "(II)I" } : Jvm.MethodName)) ∈ gw_tbl := mg (i := 667) (by decide +kernel) (by decide +kernel)
theorem tw621 : (Jvm.Cond.selects "RoadTraceModel" ({ cls := "RoadTraceModel", name := "cell", desc := "(II)I" } : Jvm.MethodName) ({ cls := "RoadTraceModel", name := "cell", desc := "(II)I" } : Jvm.MethodName)) ∈ gw_tbl := mg (i := 668) (by decide +kernel) (by decide +kernel)
theorem tw622 : (Jvm.Cond.code ({ cls := "RoadTraceModel", name := "cell", desc := "(II)I" } : Jvm.MethodName) prog_7_method_13_code (7 : Nat) (Option.some Jvm.ClassFile.FieldType.int)) ∈ gw_tbl := mg (i := 669) (by decide +kernel) (by decide +kernel)
theorem tw623 : (Jvm.Cond.methodLink "RoadTraceModel" (98 : Nat) ({ cls := "RoadTraceModel", name := "length", desc := "(I)I" } : Jvm.MethodName)) ∈ gw_tbl := mg (i := 670) (by decide +kernel) (by decide +kernel)
theorem tw625 : (Jvm.Cond.instanceMethod ({ cls := "RoadTraceModel", name := "length", desc := "(I)I" } : Jvm.MethodName)) ∈ gw_tbl := mg (i := 672) (by decide +kernel) (by decide +kernel)
theorem tw626 : (Jvm.Cond.code ({ cls := "RoadTraceModel", name := "length", desc := "(I)I" } : Jvm.MethodName) prog_7_method_9_code (2 : Nat) (Option.some Jvm.ClassFile.FieldType.int)) ∈ gw_tbl := mg (i := 673) (by decide +kernel) (by decide +kernel)
theorem tw627 : (Jvm.Cond.methodLink "RoadTraceModel" (90 : Nat) ({ cls := "RoadTraceModel", name := "apart", desc := "(IIII)I" } : Jvm.MethodName)) ∈ gw_tbl := mg (i := 674) (by decide +kernel) (by decide +kernel)
theorem tw628 : (Jvm.Cond.static ({ cls := "RoadTraceModel", name := "apart", desc := "(IIII)I" } : Jvm.MethodName)) ∈ gw_tbl := mg (i := 675) (by decide +kernel) (by decide +kernel)
theorem tw629 : (Jvm.Cond.code ({ cls := "RoadTraceModel", name := "apart", desc := "(IIII)I" } : Jvm.MethodName) prog_7_method_4_code (4 : Nat) (Option.some Jvm.ClassFile.FieldType.int)) ∈ gw_tbl := mg (i := 676) (by decide +kernel) (by decide +kernel)
theorem tw630 : (Jvm.Cond.methodLink "RoadTraceModel" (68 : Nat) ({ cls := "RoadTraceModel", name := "off", desc := "(II)I" } : Jvm.MethodName)) ∈ gw_tbl := mg (i := 677) (by decide +kernel) (by decide +kernel)
theorem tw631 : (Jvm.Cond.static ({ cls := "RoadTraceModel", name := "off", desc := "(II)I" } : Jvm.MethodName)) ∈ gw_tbl := mg (i := 678) (by decide +kernel) (by decide +kernel)
theorem tw632 : (Jvm.Cond.code ({ cls := "RoadTraceModel", name := "off", desc := "(II)I" } : Jvm.MethodName) prog_7_method_3_code (2 : Nat) (Option.some Jvm.ClassFile.FieldType.int)) ∈ gw_tbl := mg (i := 679) (by decide +kernel) (by decide +kernel)
theorem tw633 : (Jvm.Cond.methodLink "RoadTraceModel" (102 : Nat) ({ cls := "RoadTraceModel", name := "spotX", desc := "(II)I" } : Jvm.MethodName)) ∈ gw_tbl := mg (i := 680) (by decide +kernel) (by decide +kernel)
theorem tw635 : (Jvm.Cond.instanceMethod ({ cls := "RoadTraceModel", name := "spotX", desc := "(II)I" } : Jvm.MethodName)) ∈ gw_tbl := mg (i := 682) (by decide +kernel) (by decide +kernel)
theorem tw636 : (Jvm.Cond.code ({ cls := "RoadTraceModel", name := "spotX", desc := "(II)I" } : Jvm.MethodName) prog_7_method_11_code (3 : Nat) (Option.some Jvm.ClassFile.FieldType.int)) ∈ gw_tbl := mg (i := 683) (by decide +kernel) (by decide +kernel)
theorem tw637 : (Jvm.Cond.methodLink "RoadTraceModel" (94 : Nat) ({ cls := "RoadTraceModel", name := "towards", desc := "(III)I" } : Jvm.MethodName)) ∈ gw_tbl := mg (i := 684) (by decide +kernel) (by decide +kernel)
theorem tw638 : (Jvm.Cond.static ({ cls := "RoadTraceModel", name := "towards", desc := "(III)I" } : Jvm.MethodName)) ∈ gw_tbl := mg (i := 685) (by decide +kernel) (by decide +kernel)
theorem tw639 : (Jvm.Cond.code ({ cls := "RoadTraceModel", name := "towards", desc := "(III)I" } : Jvm.MethodName) prog_7_method_10_code (3 : Nat) (Option.some Jvm.ClassFile.FieldType.int)) ∈ gw_tbl := mg (i := 686) (by decide +kernel) (by decide +kernel)
theorem tw640 : (Jvm.Cond.methodLink "RoadTraceModel" (105 : Nat) ({ cls := "RoadTraceModel", name := "spotY", desc := "(II)I" } : Jvm.MethodName)) ∈ gw_tbl := mg (i := 687) (by decide +kernel) (by decide +kernel)
theorem tw642 : (Jvm.Cond.instanceMethod ({ cls := "RoadTraceModel", name := "spotY", desc := "(II)I" } : Jvm.MethodName)) ∈ gw_tbl := mg (i := 689) (by decide +kernel) (by decide +kernel)
theorem tw643 : (Jvm.Cond.code ({ cls := "RoadTraceModel", name := "spotY", desc := "(II)I" } : Jvm.MethodName) prog_7_method_12_code (3 : Nat) (Option.some Jvm.ClassFile.FieldType.int)) ∈ gw_tbl := mg (i := 690) (by decide +kernel) (by decide +kernel)
theorem tw644 : (Jvm.Cond.methodLink "RoadTraceLaw" (34 : Nat) ({ cls := "RoadTraceModel", name := "between", desc := "(II)I" } : Jvm.MethodName)) ∈ gw_tbl := mg (i := 691) (by decide +kernel) (by decide +kernel)
theorem tw645 : (Jvm.Cond.instanceMethod ({ cls := "RoadTraceModel", name := "between", desc := "(II)I" } : Jvm.MethodName)) ∈ gw_tbl := mg (i := 692) (by decide +kernel) (by decide +kernel)
theorem tw646 : (Jvm.Cond.selects "RoadTraceModel" ({ cls := "RoadTraceModel", name := "between", desc := "(II)I" } : Jvm.MethodName) ({ cls := "RoadTraceModel", name := "between", desc := "(II)I" } : Jvm.MethodName)) ∈ gw_tbl := mg (i := 693) (by decide +kernel) (by decide +kernel)
theorem tw647 : (Jvm.Cond.code ({ cls := "RoadTraceModel", name := "between", desc := "(II)I" } : Jvm.MethodName) prog_7_method_15_code (3 : Nat) (Option.some Jvm.ClassFile.FieldType.int)) ∈ gw_tbl := mg (i := 694) (by decide +kernel) (by decide +kernel)
theorem tw648 : (Jvm.Cond.methodLink "RoadTraceModel" (109 : Nat) ({ cls := "RoadTraceModel", name := "layFar", desc := "()V" } : Jvm.MethodName)) ∈ gw_tbl := mg (i := 695) (by decide +kernel) (by decide +kernel)
theorem tw650 : (Jvm.Cond.instanceMethod ({ cls := "RoadTraceModel", name := "layFar", desc := "()V" } : Jvm.MethodName)) ∈ gw_tbl := mg (i := 697) (by decide +kernel) (by decide +kernel)
theorem tw651 : (Jvm.Cond.code ({ cls := "RoadTraceModel", name := "layFar", desc := "()V" } : Jvm.MethodName) prog_7_method_14_code (5 : Nat) (Option.none : Option Jvm.ClassFile.FieldType)) ∈ gw_tbl := mg (i := 698) (by decide +kernel) (by decide +kernel)
theorem tw652 : (Jvm.Cond.constant "RoadTraceModel" (108 : Nat) (1000000 : Int32)) ∈ gw_tbl := mg (i := 699) (by decide +kernel) (by decide +kernel)
theorem tw653 : (Jvm.Cond.methodLink "RoadTraceLaw" (38 : Nat) ({ cls := "RoadTraceModel", name := "way", desc := "(II)I" } : Jvm.MethodName)) ∈ gw_tbl := mg (i := 700) (by decide +kernel) (by decide +kernel)
theorem tw654 : (Jvm.Cond.instanceMethod ({ cls := "RoadTraceModel", name := "way", desc := "(II)I" } : Jvm.MethodName)) ∈ gw_tbl := mg (i := 701) (by decide +kernel) (by decide +kernel)
theorem tw655 : (Jvm.Cond.selects "RoadTraceModel" ({ cls := "RoadTraceModel", name := "way", desc := "(II)I" } : Jvm.MethodName) ({ cls := "RoadTraceModel", name := "way", desc := "(II)I" } : Jvm.MethodName)) ∈ gw_tbl := mg (i := 702) (by decide +kernel) (by decide +kernel)
theorem tw656 : (Jvm.Cond.code ({ cls := "RoadTraceModel", name := "way", desc := "(II)I" } : Jvm.MethodName) prog_7_method_20_code (3 : Nat) (Option.some Jvm.ClassFile.FieldType.int)) ∈ gw_tbl := mg (i := 703) (by decide +kernel) (by decide +kernel)
theorem tw657 : (Jvm.Cond.methodLink "RoadTraceModel" (118 : Nat) ({ cls := "RoadTraceModel", name := "isSpot", desc := "(I)Z" } : Jvm.MethodName)) ∈ gw_tbl := mg (i := 704) (by decide +kernel) (by decide +kernel)
theorem tw659 : (Jvm.Cond.instanceMethod ({ cls := "RoadTraceModel", name := "isSpot", desc := "(I)Z" } : Jvm.MethodName)) ∈ gw_tbl := mg (i := 706) (by decide +kernel) (by decide +kernel)
theorem tw660 : (Jvm.Cond.code ({ cls := "RoadTraceModel", name := "isSpot", desc := "(I)Z" } : Jvm.MethodName) prog_7_method_16_code (2 : Nat) (Option.some Jvm.ClassFile.FieldType.boolean)) ∈ gw_tbl := mg (i := 707) (by decide +kernel) (by decide +kernel)
theorem tw661 : (Jvm.Cond.methodLink "RoadTraceModel" (121 : Nat) ({ cls := "RoadTraceModel", name := "wayOf", desc := "(II)I" } : Jvm.MethodName)) ∈ gw_tbl := mg (i := 708) (by decide +kernel) (by decide +kernel)
theorem tw663 : (Jvm.Cond.instanceMethod ({ cls := "RoadTraceModel", name := "wayOf", desc := "(II)I" } : Jvm.MethodName)) ∈ gw_tbl := mg (i := 710) (by decide +kernel) (by decide +kernel)
theorem tw664 : (Jvm.Cond.code ({ cls := "RoadTraceModel", name := "wayOf", desc := "(II)I" } : Jvm.MethodName) prog_7_method_19_code (4 : Nat) (Option.some Jvm.ClassFile.FieldType.int)) ∈ gw_tbl := mg (i := 711) (by decide +kernel) (by decide +kernel)
theorem tw665 : (Jvm.Cond.methodLink "RoadTraceModel" (115 : Nat) ({ cls := "RoadTraceModel", name := "leastOut", desc := "(II)I" } : Jvm.MethodName)) ∈ gw_tbl := mg (i := 712) (by decide +kernel) (by decide +kernel)
theorem tw667 : (Jvm.Cond.instanceMethod ({ cls := "RoadTraceModel", name := "leastOut", desc := "(II)I" } : Jvm.MethodName)) ∈ gw_tbl := mg (i := 714) (by decide +kernel) (by decide +kernel)
theorem tw668 : (Jvm.Cond.code ({ cls := "RoadTraceModel", name := "leastOut", desc := "(II)I" } : Jvm.MethodName) prog_7_method_18_code (6 : Nat) (Option.some Jvm.ClassFile.FieldType.int)) ∈ gw_tbl := mg (i := 715) (by decide +kernel) (by decide +kernel)
theorem tw669 : (Jvm.Cond.methodLink "RoadTraceModel" (112 : Nat) ({ cls := "RoadTraceModel", name := "out", desc := "(III)I" } : Jvm.MethodName)) ∈ gw_tbl := mg (i := 716) (by decide +kernel) (by decide +kernel)
theorem tw671 : (Jvm.Cond.instanceMethod ({ cls := "RoadTraceModel", name := "out", desc := "(III)I" } : Jvm.MethodName)) ∈ gw_tbl := mg (i := 718) (by decide +kernel) (by decide +kernel)
theorem tw672 : (Jvm.Cond.code ({ cls := "RoadTraceModel", name := "out", desc := "(III)I" } : Jvm.MethodName) prog_7_method_17_code (13 : Nat) (Option.some Jvm.ClassFile.FieldType.int)) ∈ gw_tbl := mg (i := 719) (by decide +kernel) (by decide +kernel)
theorem tw673 : (Jvm.Cond.methodLink "RoadTraceLaw" (42 : Nat) ({ cls := "RoadTraceModel", name := "fix", desc := "(II)I" } : Jvm.MethodName)) ∈ gw_tbl := mg (i := 720) (by decide +kernel) (by decide +kernel)
theorem tw674 : (Jvm.Cond.instanceMethod ({ cls := "RoadTraceModel", name := "fix", desc := "(II)I" } : Jvm.MethodName)) ∈ gw_tbl := mg (i := 721) (by decide +kernel) (by decide +kernel)
theorem tw675 : (Jvm.Cond.selects "RoadTraceModel" ({ cls := "RoadTraceModel", name := "fix", desc := "(II)I" } : Jvm.MethodName) ({ cls := "RoadTraceModel", name := "fix", desc := "(II)I" } : Jvm.MethodName)) ∈ gw_tbl := mg (i := 722) (by decide +kernel) (by decide +kernel)
theorem tw676 : (Jvm.Cond.code ({ cls := "RoadTraceModel", name := "fix", desc := "(II)I" } : Jvm.MethodName) prog_7_method_21_code (3 : Nat) (Option.some Jvm.ClassFile.FieldType.int)) ∈ gw_tbl := mg (i := 723) (by decide +kernel) (by decide +kernel)
theorem tw677 : (Jvm.Cond.methodLink "RoadTraceLaw" (47 : Nat) ({ cls := "RoadTraceModel", name := "drop", desc := "()I" } : Jvm.MethodName)) ∈ gw_tbl := mg (i := 724) (by decide +kernel) (by decide +kernel)
theorem tw678 : (Jvm.Cond.instanceMethod ({ cls := "RoadTraceModel", name := "drop", desc := "()I" } : Jvm.MethodName)) ∈ gw_tbl := mg (i := 725) (by decide +kernel) (by decide +kernel)
theorem tw679 : (Jvm.Cond.selects "RoadTraceModel" ({ cls := "RoadTraceModel", name := "drop", desc := "()I" } : Jvm.MethodName) ({ cls := "RoadTraceModel", name := "drop", desc := "()I" } : Jvm.MethodName)) ∈ gw_tbl := mg (i := 726) (by decide +kernel) (by decide +kernel)
theorem tw680 : (Jvm.Cond.code ({ cls := "RoadTraceModel", name := "drop", desc := "()I" } : Jvm.MethodName) prog_7_method_22_code (1 : Nat) (Option.some Jvm.ClassFile.FieldType.int)) ∈ gw_tbl := mg (i := 727) (by decide +kernel) (by decide +kernel)
theorem tw681 : (Jvm.Cond.methodLink "RoadTraceLaw" (51 : Nat) ({ cls := "RoadTraceModel", name := "candidate", desc := "(III)I" } : Jvm.MethodName)) ∈ gw_tbl := mg (i := 728) (by decide +kernel) (by decide +kernel)
theorem tw682 : (Jvm.Cond.instanceMethod ({ cls := "RoadTraceModel", name := "candidate", desc := "(III)I" } : Jvm.MethodName)) ∈ gw_tbl := mg (i := 729) (by decide +kernel) (by decide +kernel)
theorem tw683 : (Jvm.Cond.selects "RoadTraceModel" ({ cls := "RoadTraceModel", name := "candidate", desc := "(III)I" } : Jvm.MethodName) ({ cls := "RoadTraceModel", name := "candidate", desc := "(III)I" } : Jvm.MethodName)) ∈ gw_tbl := mg (i := 730) (by decide +kernel) (by decide +kernel)
theorem tw684 : (Jvm.Cond.code ({ cls := "RoadTraceModel", name := "candidate", desc := "(III)I" } : Jvm.MethodName) prog_7_method_31_code (5 : Nat) (Option.some Jvm.ClassFile.FieldType.int)) ∈ gw_tbl := mg (i := 731) (by decide +kernel) (by decide +kernel)
theorem tw685 : (Jvm.Cond.methodLink "RoadTraceModel" (147 : Nat) ({ cls := "RoadTraceModel", name := "isFix", desc := "(I)Z" } : Jvm.MethodName)) ∈ gw_tbl := mg (i := 732) (by decide +kernel) (by decide +kernel)
theorem tw687 : (Jvm.Cond.instanceMethod ({ cls := "RoadTraceModel", name := "isFix", desc := "(I)Z" } : Jvm.MethodName)) ∈ gw_tbl := mg (i := 734) (by decide +kernel) (by decide +kernel)
theorem tw688 : (Jvm.Cond.code ({ cls := "RoadTraceModel", name := "isFix", desc := "(I)Z" } : Jvm.MethodName) prog_7_method_30_code (2 : Nat) (Option.some Jvm.ClassFile.FieldType.boolean)) ∈ gw_tbl := mg (i := 735) (by decide +kernel) (by decide +kernel)
theorem tw689 : (Jvm.Cond.methodLink "RoadTraceModel" (150 : Nat) ({ cls := "RoadTraceModel", name := "layAll", desc := "()V" } : Jvm.MethodName)) ∈ gw_tbl := mg (i := 736) (by decide +kernel) (by decide +kernel)
theorem tw691 : (Jvm.Cond.instanceMethod ({ cls := "RoadTraceModel", name := "layAll", desc := "()V" } : Jvm.MethodName)) ∈ gw_tbl := mg (i := 738) (by decide +kernel) (by decide +kernel)
theorem tw692 : (Jvm.Cond.code ({ cls := "RoadTraceModel", name := "layAll", desc := "()V" } : Jvm.MethodName) prog_7_method_27_code (4 : Nat) (Option.none : Option Jvm.ClassFile.FieldType)) ∈ gw_tbl := mg (i := 739) (by decide +kernel) (by decide +kernel)
theorem tw693 : (Jvm.Cond.methodLink "RoadTraceModel" (130 : Nat) ({ cls := "RoadTraceModel", name := "layCandidates", desc := "(I)V" } : Jvm.MethodName)) ∈ gw_tbl := mg (i := 740) (by decide +kernel) (by decide +kernel)
theorem tw695 : (Jvm.Cond.instanceMethod ({ cls := "RoadTraceModel", name := "layCandidates", desc := "(I)V" } : Jvm.MethodName)) ∈ gw_tbl := mg (i := 742) (by decide +kernel) (by decide +kernel)
theorem tw696 : (Jvm.Cond.code ({ cls := "RoadTraceModel", name := "layCandidates", desc := "(I)V" } : Jvm.MethodName) prog_7_method_24_code (5 : Nat) (Option.none : Option Jvm.ClassFile.FieldType)) ∈ gw_tbl := mg (i := 743) (by decide +kernel) (by decide +kernel)
theorem tw697 : (Jvm.Cond.methodLink "RoadTraceModel" (124 : Nat) ({ cls := "RoadTraceModel", name := "nearest", desc := "(III)I" } : Jvm.MethodName)) ∈ gw_tbl := mg (i := 744) (by decide +kernel) (by decide +kernel)
theorem tw699 : (Jvm.Cond.instanceMethod ({ cls := "RoadTraceModel", name := "nearest", desc := "(III)I" } : Jvm.MethodName)) ∈ gw_tbl := mg (i := 746) (by decide +kernel) (by decide +kernel)
theorem tw700 : (Jvm.Cond.code ({ cls := "RoadTraceModel", name := "nearest", desc := "(III)I" } : Jvm.MethodName) prog_7_method_23_code (6 : Nat) (Option.some Jvm.ClassFile.FieldType.int)) ∈ gw_tbl := mg (i := 747) (by decide +kernel) (by decide +kernel)
theorem tw701 : (Jvm.Cond.methodLink "RoadTraceModel" (134 : Nat) ({ cls := "RoadTraceModel", name := "goOn", desc := "(II)Z" } : Jvm.MethodName)) ∈ gw_tbl := mg (i := 748) (by decide +kernel) (by decide +kernel)
theorem tw703 : (Jvm.Cond.instanceMethod ({ cls := "RoadTraceModel", name := "goOn", desc := "(II)Z" } : Jvm.MethodName)) ∈ gw_tbl := mg (i := 750) (by decide +kernel) (by decide +kernel)
theorem tw704 : (Jvm.Cond.code ({ cls := "RoadTraceModel", name := "goOn", desc := "(II)Z" } : Jvm.MethodName) prog_7_method_25_code (9 : Nat) (Option.some Jvm.ClassFile.FieldType.boolean)) ∈ gw_tbl := mg (i := 751) (by decide +kernel) (by decide +kernel)
theorem tw705 : (Jvm.Cond.methodLink "RoadTraceModel" (138 : Nat) ({ cls := "RoadTraceModel", name := "begin", desc := "(I)V" } : Jvm.MethodName)) ∈ gw_tbl := mg (i := 752) (by decide +kernel) (by decide +kernel)
theorem tw707 : (Jvm.Cond.instanceMethod ({ cls := "RoadTraceModel", name := "begin", desc := "(I)V" } : Jvm.MethodName)) ∈ gw_tbl := mg (i := 754) (by decide +kernel) (by decide +kernel)
theorem tw708 : (Jvm.Cond.code ({ cls := "RoadTraceModel", name := "begin", desc := "(I)V" } : Jvm.MethodName) prog_7_method_26_code (3 : Nat) (Option.none : Option Jvm.ClassFile.FieldType)) ∈ gw_tbl := mg (i := 755) (by decide +kernel) (by decide +kernel)
theorem tw709 : (Jvm.Cond.methodLink "RoadTraceModel" (141 : Nat) ({ cls := "RoadTraceModel", name := "next", desc := "(I)I" } : Jvm.MethodName)) ∈ gw_tbl := mg (i := 756) (by decide +kernel) (by decide +kernel)
theorem tw711 : (Jvm.Cond.instanceMethod ({ cls := "RoadTraceModel", name := "next", desc := "(I)I" } : Jvm.MethodName)) ∈ gw_tbl := mg (i := 758) (by decide +kernel) (by decide +kernel)
theorem tw712 : (Jvm.Cond.code ({ cls := "RoadTraceModel", name := "next", desc := "(I)I" } : Jvm.MethodName) prog_7_method_28_code (3 : Nat) (Option.some Jvm.ClassFile.FieldType.int)) ∈ gw_tbl := mg (i := 759) (by decide +kernel) (by decide +kernel)
theorem tw713 : (Jvm.Cond.methodLink "RoadTraceModel" (144 : Nat) ({ cls := "RoadTraceModel", name := "leastAt", desc := "(I)I" } : Jvm.MethodName)) ∈ gw_tbl := mg (i := 760) (by decide +kernel) (by decide +kernel)
theorem tw715 : (Jvm.Cond.instanceMethod ({ cls := "RoadTraceModel", name := "leastAt", desc := "(I)I" } : Jvm.MethodName)) ∈ gw_tbl := mg (i := 762) (by decide +kernel) (by decide +kernel)
theorem tw716 : (Jvm.Cond.code ({ cls := "RoadTraceModel", name := "leastAt", desc := "(I)I" } : Jvm.MethodName) prog_7_method_29_code (5 : Nat) (Option.some Jvm.ClassFile.FieldType.int)) ∈ gw_tbl := mg (i := 763) (by decide +kernel) (by decide +kernel)
theorem tw717 : (Jvm.Cond.methodLink "RoadTraceLaw" (56 : Nat) ({ cls := "RoadTraceModel", name := "best", desc := "(I)I" } : Jvm.MethodName)) ∈ gw_tbl := mg (i := 764) (by decide +kernel) (by decide +kernel)
theorem tw718 : (Jvm.Cond.instanceMethod ({ cls := "RoadTraceModel", name := "best", desc := "(I)I" } : Jvm.MethodName)) ∈ gw_tbl := mg (i := 765) (by decide +kernel) (by decide +kernel)
theorem tw719 : (Jvm.Cond.selects "RoadTraceModel" ({ cls := "RoadTraceModel", name := "best", desc := "(I)I" } : Jvm.MethodName) ({ cls := "RoadTraceModel", name := "best", desc := "(I)I" } : Jvm.MethodName)) ∈ gw_tbl := mg (i := 766) (by decide +kernel) (by decide +kernel)
theorem tw720 : (Jvm.Cond.code ({ cls := "RoadTraceModel", name := "best", desc := "(I)I" } : Jvm.MethodName) prog_7_method_32_code (2 : Nat) (Option.some Jvm.ClassFile.FieldType.int)) ∈ gw_tbl := mg (i := 767) (by decide +kernel) (by decide +kernel)
theorem tw721 : (Jvm.Cond.methodLink "RoadTraceLaw" (60 : Nat) ({ cls := "RoadTraceModel", name := "decided", desc := "(I)I" } : Jvm.MethodName)) ∈ gw_tbl := mg (i := 768) (by decide +kernel) (by decide +kernel)
theorem tw722 : (Jvm.Cond.instanceMethod ({ cls := "RoadTraceModel", name := "decided", desc := "(I)I" } : Jvm.MethodName)) ∈ gw_tbl := mg (i := 769) (by decide +kernel) (by decide +kernel)
theorem tw723 : (Jvm.Cond.selects "RoadTraceModel" ({ cls := "RoadTraceModel", name := "decided", desc := "(I)I" } : Jvm.MethodName) ({ cls := "RoadTraceModel", name := "decided", desc := "(I)I" } : Jvm.MethodName)) ∈ gw_tbl := mg (i := 770) (by decide +kernel) (by decide +kernel)
theorem tw724 : (Jvm.Cond.code ({ cls := "RoadTraceModel", name := "decided", desc := "(I)I" } : Jvm.MethodName) prog_7_method_35_code (2 : Nat) (Option.some Jvm.ClassFile.FieldType.int)) ∈ gw_tbl := mg (i := 771) (by decide +kernel) (by decide +kernel)
theorem tw725 : (Jvm.Cond.methodLink "RoadTraceModel" (156 : Nat) ({ cls := "RoadTraceModel", name := "isDecided", desc := "(I)Z" } : Jvm.MethodName)) ∈ gw_tbl := mg (i := 772) (by decide +kernel) (by decide +kernel)
theorem tw727 : (Jvm.Cond.instanceMethod ({ cls := "RoadTraceModel", name := "isDecided", desc := "(I)Z" } : Jvm.MethodName)) ∈ gw_tbl := mg (i := 774) (by decide +kernel) (by decide +kernel)
theorem tw728 : (Jvm.Cond.code ({ cls := "RoadTraceModel", name := "isDecided", desc := "(I)Z" } : Jvm.MethodName) prog_7_method_34_code (6 : Nat) (Option.some Jvm.ClassFile.FieldType.boolean)) ∈ gw_tbl := mg (i := 775) (by decide +kernel) (by decide +kernel)
theorem tw729 : (Jvm.Cond.methodLink "RoadTraceModel" (153 : Nat) ({ cls := "RoadTraceModel", name := "origin", desc := "(III)I" } : Jvm.MethodName)) ∈ gw_tbl := mg (i := 776) (by decide +kernel) (by decide +kernel)
theorem tw731 : (Jvm.Cond.instanceMethod ({ cls := "RoadTraceModel", name := "origin", desc := "(III)I" } : Jvm.MethodName)) ∈ gw_tbl := mg (i := 778) (by decide +kernel) (by decide +kernel)
theorem tw732 : (Jvm.Cond.code ({ cls := "RoadTraceModel", name := "origin", desc := "(III)I" } : Jvm.MethodName) prog_7_method_33_code (6 : Nat) (Option.some Jvm.ClassFile.FieldType.int)) ∈ gw_tbl := mg (i := 779) (by decide +kernel) (by decide +kernel)
theorem tw733 : (Jvm.Cond.methodLink "RoadTraceLaw" (64 : Nat) ({ cls := "RoadTraceModel", name := "piece", desc := "(I)I" } : Jvm.MethodName)) ∈ gw_tbl := mg (i := 780) (by decide +kernel) (by decide +kernel)
theorem tw734 : (Jvm.Cond.instanceMethod ({ cls := "RoadTraceModel", name := "piece", desc := "(I)I" } : Jvm.MethodName)) ∈ gw_tbl := mg (i := 781) (by decide +kernel) (by decide +kernel)
theorem tw735 : (Jvm.Cond.selects "RoadTraceModel" ({ cls := "RoadTraceModel", name := "piece", desc := "(I)I" } : Jvm.MethodName) ({ cls := "RoadTraceModel", name := "piece", desc := "(I)I" } : Jvm.MethodName)) ∈ gw_tbl := mg (i := 782) (by decide +kernel) (by decide +kernel)
theorem tw736 : (Jvm.Cond.code ({ cls := "RoadTraceModel", name := "piece", desc := "(I)I" } : Jvm.MethodName) prog_7_method_36_code (2 : Nat) (Option.some Jvm.ClassFile.FieldType.int)) ∈ gw_tbl := mg (i := 783) (by decide +kernel) (by decide +kernel)
theorem tw737 : (Jvm.Cond.methodLink "RoadTraceLaw" (68 : Nat) ({ cls := "RoadTraceModel", name := "step", desc := "(I)I" } : Jvm.MethodName)) ∈ gw_tbl := mg (i := 784) (by decide +kernel) (by decide +kernel)
theorem tw738 : (Jvm.Cond.instanceMethod ({ cls := "RoadTraceModel", name := "step", desc := "(I)I" } : Jvm.MethodName)) ∈ gw_tbl := mg (i := 785) (by decide +kernel) (by decide +kernel)
theorem tw739 : (Jvm.Cond.selects "RoadTraceModel" ({ cls := "RoadTraceModel", name := "step", desc := "(I)I" } : Jvm.MethodName) ({ cls := "RoadTraceModel", name := "step", desc := "(I)I" } : Jvm.MethodName)) ∈ gw_tbl := mg (i := 786) (by decide +kernel) (by decide +kernel)
theorem tw740 : (Jvm.Cond.code ({ cls := "RoadTraceModel", name := "step", desc := "(I)I" } : Jvm.MethodName) prog_7_method_38_code (2 : Nat) (Option.some Jvm.ClassFile.FieldType.int)) ∈ gw_tbl := mg (i := 787) (by decide +kernel) (by decide +kernel)
theorem tw741 : (Jvm.Cond.methodLink "RoadTraceModel" (159 : Nat) ({ cls := "RoadTraceModel", name := "stepOf", desc := "(I)I" } : Jvm.MethodName)) ∈ gw_tbl := mg (i := 788) (by decide +kernel) (by decide +kernel)
theorem tw743 : (Jvm.Cond.instanceMethod ({ cls := "RoadTraceModel", name := "stepOf", desc := "(I)I" } : Jvm.MethodName)) ∈ gw_tbl := mg (i := 790) (by decide +kernel) (by decide +kernel)
theorem tw744 : (Jvm.Cond.code ({ cls := "RoadTraceModel", name := "stepOf", desc := "(I)I" } : Jvm.MethodName) prog_7_method_37_code (2 : Nat) (Option.some Jvm.ClassFile.FieldType.int)) ∈ gw_tbl := mg (i := 791) (by decide +kernel) (by decide +kernel)
theorem tw745 : (Jvm.Cond.methodLink "RoadTraceLaw" (72 : Nat) ({ cls := "RoadTraceModel", name := "through", desc := "(II)I" } : Jvm.MethodName)) ∈ gw_tbl := mg (i := 792) (by decide +kernel) (by decide +kernel)
theorem tw746 : (Jvm.Cond.instanceMethod ({ cls := "RoadTraceModel", name := "through", desc := "(II)I" } : Jvm.MethodName)) ∈ gw_tbl := mg (i := 793) (by decide +kernel) (by decide +kernel)
theorem tw747 : (Jvm.Cond.selects "RoadTraceModel" ({ cls := "RoadTraceModel", name := "through", desc := "(II)I" } : Jvm.MethodName) ({ cls := "RoadTraceModel", name := "through", desc := "(II)I" } : Jvm.MethodName)) ∈ gw_tbl := mg (i := 794) (by decide +kernel) (by decide +kernel)
theorem tw748 : (Jvm.Cond.code ({ cls := "RoadTraceModel", name := "through", desc := "(II)I" } : Jvm.MethodName) prog_7_method_40_code (9 : Nat) (Option.some Jvm.ClassFile.FieldType.int)) ∈ gw_tbl := mg (i := 795) (by decide +kernel) (by decide +kernel)
theorem tw749 : (Jvm.Cond.methodLink "RoadTraceModel" (162 : Nat) ({ cls := "RoadTraceModel", name := "onward", desc := "(II)I" } : Jvm.MethodName)) ∈ gw_tbl := mg (i := 796) (by decide +kernel) (by decide +kernel)
theorem tw751 : (Jvm.Cond.instanceMethod ({ cls := "RoadTraceModel", name := "onward", desc := "(II)I" } : Jvm.MethodName)) ∈ gw_tbl := mg (i := 798) (by decide +kernel) (by decide +kernel)
theorem tw752 : (Jvm.Cond.code ({ cls := "RoadTraceModel", name := "onward", desc := "(II)I" } : Jvm.MethodName) prog_7_method_39_code (6 : Nat) (Option.some Jvm.ClassFile.FieldType.int)) ∈ gw_tbl := mg (i := 799) (by decide +kernel) (by decide +kernel)
theorem tw753 : (Jvm.Cond.methodLink "RoadTraceLaw" (76 : Nat) ({ cls := "RoadTraceModel", name := "total", desc := "(I)I" } : Jvm.MethodName)) ∈ gw_tbl := mg (i := 800) (by decide +kernel) (by decide +kernel)
theorem tw754 : (Jvm.Cond.instanceMethod ({ cls := "RoadTraceModel", name := "total", desc := "(I)I" } : Jvm.MethodName)) ∈ gw_tbl := mg (i := 801) (by decide +kernel) (by decide +kernel)
theorem tw755 : (Jvm.Cond.selects "RoadTraceModel" ({ cls := "RoadTraceModel", name := "total", desc := "(I)I" } : Jvm.MethodName) ({ cls := "RoadTraceModel", name := "total", desc := "(I)I" } : Jvm.MethodName)) ∈ gw_tbl := mg (i := 802) (by decide +kernel) (by decide +kernel)
theorem tw756 : (Jvm.Cond.code ({ cls := "RoadTraceModel", name := "total", desc := "(I)I" } : Jvm.MethodName) prog_7_method_41_code (4 : Nat) (Option.some Jvm.ClassFile.FieldType.int)) ∈ gw_tbl := mg (i := 803) (by decide +kernel) (by decide +kernel)
theorem tw757 : (Jvm.Cond.methodLink "RoadTraceLaw" (80 : Nat) ({ cls := "RoadTraceModel", name := "image", desc := "(I)I" } : Jvm.MethodName)) ∈ gw_tbl := mg (i := 804) (by decide +kernel) (by decide +kernel)
theorem tw758 : (Jvm.Cond.instanceMethod ({ cls := "RoadTraceModel", name := "image", desc := "(I)I" } : Jvm.MethodName)) ∈ gw_tbl := mg (i := 805) (by decide +kernel) (by decide +kernel)
theorem tw759 : (Jvm.Cond.selects "RoadTraceModel" ({ cls := "RoadTraceModel", name := "image", desc := "(I)I" } : Jvm.MethodName) ({ cls := "RoadTraceModel", name := "image", desc := "(I)I" } : Jvm.MethodName)) ∈ gw_tbl := mg (i := 806) (by decide +kernel) (by decide +kernel)
theorem tw760 : (Jvm.Cond.code ({ cls := "RoadTraceModel", name := "image", desc := "(I)I" } : Jvm.MethodName) prog_7_method_42_code (4 : Nat) (Option.some Jvm.ClassFile.FieldType.int)) ∈ gw_tbl := mg (i := 807) (by decide +kernel) (by decide +kernel)
theorem tw761 : (Jvm.Cond.methodLink "RoadTraceLaw" (84 : Nat) ({ cls := "RoadTraceModel", name := "restore", desc := "(I)I" } : Jvm.MethodName)) ∈ gw_tbl := mg (i := 808) (by decide +kernel) (by decide +kernel)
theorem tw762 : (Jvm.Cond.instanceMethod ({ cls := "RoadTraceModel", name := "restore", desc := "(I)I" } : Jvm.MethodName)) ∈ gw_tbl := mg (i := 809) (by decide +kernel) (by decide +kernel)
theorem tw763 : (Jvm.Cond.selects "RoadTraceModel" ({ cls := "RoadTraceModel", name := "restore", desc := "(I)I" } : Jvm.MethodName) ({ cls := "RoadTraceModel", name := "restore", desc := "(I)I" } : Jvm.MethodName)) ∈ gw_tbl := mg (i := 810) (by decide +kernel) (by decide +kernel)
theorem tw764 : (Jvm.Cond.code ({ cls := "RoadTraceModel", name := "restore", desc := "(I)I" } : Jvm.MethodName) prog_7_method_43_code (4 : Nat) (Option.some Jvm.ClassFile.FieldType.int)) ∈ gw_tbl := mg (i := 811) (by decide +kernel) (by decide +kernel)
theorem tw765 : (Jvm.Cond.methodLink "RoadTraceLaw" (88 : Nat) ({ cls := "RoadTraceModel", name := "told", desc := "(I)I" } : Jvm.MethodName)) ∈ gw_tbl := mg (i := 812) (by decide +kernel) (by decide +kernel)
theorem tw766 : (Jvm.Cond.instanceMethod ({ cls := "RoadTraceModel", name := "told", desc := "(I)I" } : Jvm.MethodName)) ∈ gw_tbl := mg (i := 813) (by decide +kernel) (by decide +kernel)
theorem tw767 : (Jvm.Cond.selects "RoadTraceModel" ({ cls := "RoadTraceModel", name := "told", desc := "(I)I" } : Jvm.MethodName) ({ cls := "RoadTraceModel", name := "told", desc := "(I)I" } : Jvm.MethodName)) ∈ gw_tbl := mg (i := 814) (by decide +kernel) (by decide +kernel)
theorem tw768 : (Jvm.Cond.code ({ cls := "RoadTraceModel", name := "told", desc := "(I)I" } : Jvm.MethodName) prog_7_method_44_code (3 : Nat) (Option.some Jvm.ClassFile.FieldType.int)) ∈ gw_tbl := mg (i := 815) (by decide +kernel) (by decide +kernel)
end
section
/-- the class, the name, the bytes, the locals, the answer's type, the instructions, the field links, the constants, frames and locals' words of its callees -/
abbrev MI : Type := String × MethodName × ByteArray × Nat × Option FieldType × List (Nat × Instr × Nat) × List (Nat × Nat × Nat) × List (Nat × Int) × Nat × Nat
abbrev inR (z : Int) : Prop := -2147483648 ≤ z ∧ z ≤ 2147483647
def putF : Nat → Nat → Option Bool
  | 0, 0 => some false
  | 0, 1 => some false
  | 2, 3 => some true
  | 3, 2 => some false
  | 5, 2 => some false
  | 5, 6 => some false
  | 5, 10 => some false
  | 5, 20 => some false
  | _, _ => none
def FOk (own : String) (x : Nat × Nat × Nat) : Prop := ∃ (C : String) (T : u_T) (N : Nat), vwCl[x.2.1]? = some (C, T, N) ∧ x.2.2 < N ∧ Jvm.Cond.fieldLink own x.1 (T x.2.2).1 (T x.2.2).2.1 (T x.2.2).2.2.1 ∈ gw_tbl
abbrev qY (q : MI) : MethodName := q.2.1
abbrev qB (q : MI) : ByteArray := q.2.2.1
abbrev qN (q : MI) : Nat := q.2.2.2.1
abbrev qR (q : MI) : Option FieldType := q.2.2.2.2.1
abbrev qC (q : MI) : List (Nat × Instr × Nat) := q.2.2.2.2.2.1
abbrev qF (q : MI) : List (Nat × Nat × Nat) := q.2.2.2.2.2.2.1
abbrev qK (q : MI) : List (Nat × Int) := q.2.2.2.2.2.2.2.1
abbrev qf (q : MI) : Nat := q.2.2.2.2.2.2.2.2.1
abbrev ql (q : MI) : Nat := q.2.2.2.2.2.2.2.2.2
def MOk (q : MI) : Prop := (∀ x ∈ qC q, decode (qB q) x.1 = .ok (x.2.1, x.2.2)) ∧ (∀ x ∈ qF q, FOk q.1 x) ∧ (∀ x ∈ qK q, inR x.2 ∧ Jvm.Cond.constant q.1 x.1 (Int32.ofInt x.2) ∈ gw_tbl) ∧ Jvm.Cond.code (qY q) (qB q) (qN q) (qR q) ∈ gw_tbl ∧ Jvm.Cond.initialized (qY q).cls ∈ gw_tbl ∧ plainName (qY q).cls = true ∧ q.1 = (qY q).cls ∧ (qY q).cls ≠ "java/lang/invoke/MethodHandle" ∧ (qY q).cls ≠ "java/lang/invoke/VarHandle"
def LkV (own : String) (idx : Nat) (y : MethodName) : Prop := Jvm.Cond.methodLink own idx y ∈ gw_tbl ∧ Jvm.Cond.instanceMethod y ∈ gw_tbl ∧ Jvm.Cond.selects y.cls y y ∈ gw_tbl
def LkS (own : String) (idx : Nat) (y : MethodName) : Prop := Jvm.Cond.methodLink own idx y ∈ gw_tbl ∧ Jvm.Cond.static y ∈ gw_tbl
def flX0 : List (Nat × Nat × Nat) := [(9, 0, 2), (15, 0, 3), (18, 0, 4), (21, 0, 5), (24, 0, 6), (27, 0, 7), (30, 0, 8), (33, 0, 0), (37, 0, 1)]
theorem flX0_ok : ∀ x ∈ flX0, FOk RX0 x := List.forall_mem_cons.mpr ⟨⟨_, _, _, rfl, by decide, tw35⟩, List.forall_mem_cons.mpr ⟨⟨_, _, _, rfl, by decide, tw36⟩, List.forall_mem_cons.mpr ⟨⟨_, _, _, rfl, by decide, tw37⟩, List.forall_mem_cons.mpr ⟨⟨_, _, _, rfl, by decide, tw38⟩, List.forall_mem_cons.mpr ⟨⟨_, _, _, rfl, by decide, tw39⟩, List.forall_mem_cons.mpr ⟨⟨_, _, _, rfl, by decide, tw40⟩, List.forall_mem_cons.mpr ⟨⟨_, _, _, rfl, by decide, tw41⟩, List.forall_mem_cons.mpr ⟨⟨_, _, _, rfl, by decide, tw30⟩, List.forall_mem_cons.mpr ⟨⟨_, _, _, rfl, by decide, tw32⟩, fun _ h => absurd h List.not_mem_nil⟩⟩⟩⟩⟩⟩⟩⟩⟩
def flX1 : List (Nat × Nat × Nat) := [(9, 1, 0)]
theorem flX1_ok : ∀ x ∈ flX1, FOk RX1 x := List.forall_mem_cons.mpr ⟨⟨_, _, _, rfl, by decide, tw68⟩, fun _ h => absurd h List.not_mem_nil⟩
def flX2 : List (Nat × Nat × Nat) := [(10, 2, 0), (19, 2, 1), (28, 2, 2), (32, 2, 3)]
theorem flX2_ok : ∀ x ∈ flX2, FOk RX2 x := List.forall_mem_cons.mpr ⟨⟨_, _, _, rfl, by decide, tw127⟩, List.forall_mem_cons.mpr ⟨⟨_, _, _, rfl, by decide, tw129⟩, List.forall_mem_cons.mpr ⟨⟨_, _, _, rfl, by decide, tw131⟩, List.forall_mem_cons.mpr ⟨⟨_, _, _, rfl, by decide, tw133⟩, fun _ h => absurd h List.not_mem_nil⟩⟩⟩⟩
def flX3 : List (Nat × Nat × Nat) := [(9, 3, 3), (15, 3, 4), (18, 3, 5), (21, 3, 6), (24, 3, 7), (27, 3, 8), (30, 3, 9), (33, 3, 10), (36, 3, 11), (39, 3, 12), (42, 3, 13), (46, 3, 0), (50, 3, 1), (54, 3, 2), (84, 0, 1), (93, 1, 0)]
theorem flX3_ok : ∀ x ∈ flX3, FOk RX3 x := List.forall_mem_cons.mpr ⟨⟨_, _, _, rfl, by decide, tw83⟩, List.forall_mem_cons.mpr ⟨⟨_, _, _, rfl, by decide, tw84⟩, List.forall_mem_cons.mpr ⟨⟨_, _, _, rfl, by decide, tw85⟩, List.forall_mem_cons.mpr ⟨⟨_, _, _, rfl, by decide, tw87⟩, List.forall_mem_cons.mpr ⟨⟨_, _, _, rfl, by decide, tw89⟩, List.forall_mem_cons.mpr ⟨⟨_, _, _, rfl, by decide, tw90⟩, List.forall_mem_cons.mpr ⟨⟨_, _, _, rfl, by decide, tw91⟩, List.forall_mem_cons.mpr ⟨⟨_, _, _, rfl, by decide, tw92⟩, List.forall_mem_cons.mpr ⟨⟨_, _, _, rfl, by decide, tw93⟩, List.forall_mem_cons.mpr ⟨⟨_, _, _, rfl, by decide, tw94⟩, List.forall_mem_cons.mpr ⟨⟨_, _, _, rfl, by decide, tw95⟩, List.forall_mem_cons.mpr ⟨⟨_, _, _, rfl, by decide, tw79⟩, List.forall_mem_cons.mpr ⟨⟨_, _, _, rfl, by decide, tw80⟩, List.forall_mem_cons.mpr ⟨⟨_, _, _, rfl, by decide, tw81⟩, List.forall_mem_cons.mpr ⟨⟨_, _, _, rfl, by decide, tw34⟩, List.forall_mem_cons.mpr ⟨⟨_, _, _, rfl, by decide, tw69⟩, fun _ h => absurd h List.not_mem_nil⟩⟩⟩⟩⟩⟩⟩⟩⟩⟩⟩⟩⟩⟩⟩⟩
def flX4 : List (Nat × Nat × Nat) := [(10, 4, 0), (16, 4, 1), (24, 2, 2), (28, 3, 2), (34, 2, 0), (43, 0, 0), (60, 0, 1), (67, 2, 1), (101, 3, 5), (113, 3, 13), (117, 3, 6), (146, 2, 3)]
theorem flX4_ok : ∀ x ∈ flX4, FOk RX4 x := List.forall_mem_cons.mpr ⟨⟨_, _, _, rfl, by decide, tw145⟩, List.forall_mem_cons.mpr ⟨⟨_, _, _, rfl, by decide, tw146⟩, List.forall_mem_cons.mpr ⟨⟨_, _, _, rfl, by decide, tw132⟩, List.forall_mem_cons.mpr ⟨⟨_, _, _, rfl, by decide, tw82⟩, List.forall_mem_cons.mpr ⟨⟨_, _, _, rfl, by decide, tw128⟩, List.forall_mem_cons.mpr ⟨⟨_, _, _, rfl, by decide, tw31⟩, List.forall_mem_cons.mpr ⟨⟨_, _, _, rfl, by decide, tw33⟩, List.forall_mem_cons.mpr ⟨⟨_, _, _, rfl, by decide, tw130⟩, List.forall_mem_cons.mpr ⟨⟨_, _, _, rfl, by decide, tw86⟩, List.forall_mem_cons.mpr ⟨⟨_, _, _, rfl, by decide, tw96⟩, List.forall_mem_cons.mpr ⟨⟨_, _, _, rfl, by decide, tw88⟩, List.forall_mem_cons.mpr ⟨⟨_, _, _, rfl, by decide, tw134⟩, fun _ h => absurd h List.not_mem_nil⟩⟩⟩⟩⟩⟩⟩⟩⟩⟩⟩⟩
def flX5 : List (Nat × Nat × Nat) := [(7, 5, 0), (13, 5, 1), (16, 5, 3), (19, 5, 4), (22, 5, 5), (25, 5, 7), (28, 5, 8), (31, 5, 9), (34, 5, 11), (37, 5, 12), (40, 5, 13), (43, 5, 14), (46, 5, 15), (49, 5, 16), (52, 5, 17), (55, 5, 18), (58, 5, 19), (61, 5, 21), (64, 5, 22), (72, 5, 2), (80, 5, 10), (87, 5, 6), (127, 5, 20)]
theorem flX5_ok : ∀ x ∈ flX5, FOk RX5 x := List.forall_mem_cons.mpr ⟨⟨_, _, _, rfl, by decide, tw530⟩, List.forall_mem_cons.mpr ⟨⟨_, _, _, rfl, by decide, tw531⟩, List.forall_mem_cons.mpr ⟨⟨_, _, _, rfl, by decide, tw533⟩, List.forall_mem_cons.mpr ⟨⟨_, _, _, rfl, by decide, tw534⟩, List.forall_mem_cons.mpr ⟨⟨_, _, _, rfl, by decide, tw535⟩, List.forall_mem_cons.mpr ⟨⟨_, _, _, rfl, by decide, tw537⟩, List.forall_mem_cons.mpr ⟨⟨_, _, _, rfl, by decide, tw538⟩, List.forall_mem_cons.mpr ⟨⟨_, _, _, rfl, by decide, tw539⟩, List.forall_mem_cons.mpr ⟨⟨_, _, _, rfl, by decide, tw541⟩, List.forall_mem_cons.mpr ⟨⟨_, _, _, rfl, by decide, tw542⟩, List.forall_mem_cons.mpr ⟨⟨_, _, _, rfl, by decide, tw543⟩, List.forall_mem_cons.mpr ⟨⟨_, _, _, rfl, by decide, tw544⟩, List.forall_mem_cons.mpr ⟨⟨_, _, _, rfl, by decide, tw545⟩, List.forall_mem_cons.mpr ⟨⟨_, _, _, rfl, by decide, tw546⟩, List.forall_mem_cons.mpr ⟨⟨_, _, _, rfl, by decide, tw547⟩, List.forall_mem_cons.mpr ⟨⟨_, _, _, rfl, by decide, tw548⟩, List.forall_mem_cons.mpr ⟨⟨_, _, _, rfl, by decide, tw549⟩, List.forall_mem_cons.mpr ⟨⟨_, _, _, rfl, by decide, tw551⟩, List.forall_mem_cons.mpr ⟨⟨_, _, _, rfl, by decide, tw552⟩, List.forall_mem_cons.mpr ⟨⟨_, _, _, rfl, by decide, tw532⟩, List.forall_mem_cons.mpr ⟨⟨_, _, _, rfl, by decide, tw540⟩, List.forall_mem_cons.mpr ⟨⟨_, _, _, rfl, by decide, tw536⟩, List.forall_mem_cons.mpr ⟨⟨_, _, _, rfl, by decide, tw550⟩, fun _ h => absurd h List.not_mem_nil⟩⟩⟩⟩⟩⟩⟩⟩⟩⟩⟩⟩⟩⟩⟩⟩⟩⟩⟩⟩⟩⟩⟩
def yX0_hasCrossing : MethodName := ⟨RX0, "hasCrossing", "(I)Z"⟩
def cdX0_hasCrossing_0 : List (Nat × Instr × Nat) := [(0, .iload_n 1, 1), (1, .ifCond .lt 15, 3), (4, .iload_n 1, 1), (5, .aload_n 0, 1), (6, .getfield 33, 3), (9, .if_icmp .ge 7, 3), (12, .iconst 1, 1), (13, .goto 4, 3), (16, .iconst 0, 1), (17, .ireturn, 1)]
theorem cdX0_hasCrossing_0_ok : ∀ x ∈ cdX0_hasCrossing_0, decode prog_2_method_2_code x.1 = .ok x.2 := by decide +kernel
def cdX0_hasCrossing : List (Nat × Instr × Nat) := cdX0_hasCrossing_0
theorem cdX0_hasCrossing_ok : ∀ x ∈ cdX0_hasCrossing, decode prog_2_method_2_code x.1 = .ok x.2 := fun x h => cdX0_hasCrossing_0_ok x h
def qX0_hasCrossing : MI := (RX0, yX0_hasCrossing, prog_2_method_2_code, 2, some .boolean, cdX0_hasCrossing, flX0, [], 0, 0)
theorem qX0_hasCrossing_ok : MOk qX0_hasCrossing := ⟨cdX0_hasCrossing_ok, flX0_ok, fun _ h => absurd h List.not_mem_nil, tw177, tw3, by decide +kernel, rfl, by decide +kernel, by decide +kernel⟩
def yX0_hasRoad : MethodName := ⟨RX0, "hasRoad", "(I)Z"⟩
def cdX0_hasRoad_0 : List (Nat × Instr × Nat) := [(0, .iload_n 1, 1), (1, .ifCond .lt 15, 3), (4, .iload_n 1, 1), (5, .aload_n 0, 1), (6, .getfield 37, 3), (9, .if_icmp .ge 7, 3), (12, .iconst 1, 1), (13, .goto 4, 3), (16, .iconst 0, 1), (17, .ireturn, 1)]
theorem cdX0_hasRoad_0_ok : ∀ x ∈ cdX0_hasRoad_0, decode prog_2_method_3_code x.1 = .ok x.2 := by decide +kernel
def cdX0_hasRoad : List (Nat × Instr × Nat) := cdX0_hasRoad_0
theorem cdX0_hasRoad_ok : ∀ x ∈ cdX0_hasRoad, decode prog_2_method_3_code x.1 = .ok x.2 := fun x h => cdX0_hasRoad_0_ok x h
def qX0_hasRoad : MI := (RX0, yX0_hasRoad, prog_2_method_3_code, 2, some .boolean, cdX0_hasRoad, flX0, [], 0, 0)
theorem qX0_hasRoad_ok : MOk qX0_hasRoad := ⟨cdX0_hasRoad_ok, flX0_ok, fun _ h => absurd h List.not_mem_nil, tw307, tw3, by decide +kernel, rfl, by decide +kernel, by decide +kernel⟩
def yX0_hasSpot : MethodName := ⟨RX0, "hasSpot", "(I)Z"⟩
def cdX0_hasSpot_0 : List (Nat × Instr × Nat) := [(0, .iload_n 1, 1), (1, .ifCond .ge 5, 3), (4, .iconst 0, 1), (5, .ireturn, 1), (6, .iload_n 1, 1), (7, .bipush 100, 2), (9, .idiv, 1), (10, .istore_n 2, 1), (11, .iload_n 2, 1), (12, .aload_n 0, 1), (13, .getfield 37, 3), (16, .if_icmp .ge 20, 3), (19, .iload_n 1, 1), (20, .bipush 100, 2), (22, .irem, 1), (23, .aload_n 0, 1), (24, .getfield 27, 3), (27, .iload_n 2, 1), (28, .iaload, 1), (29, .if_icmp .gt 7, 3), (32, .iconst 1, 1), (33, .goto 4, 3), (36, .iconst 0, 1), (37, .ireturn, 1)]
theorem cdX0_hasSpot_0_ok : ∀ x ∈ cdX0_hasSpot_0, decode prog_2_method_4_code x.1 = .ok x.2 := by decide +kernel
def cdX0_hasSpot : List (Nat × Instr × Nat) := cdX0_hasSpot_0
theorem cdX0_hasSpot_ok : ∀ x ∈ cdX0_hasSpot, decode prog_2_method_4_code x.1 = .ok x.2 := fun x h => cdX0_hasSpot_0_ok x h
def qX0_hasSpot : MI := (RX0, yX0_hasSpot, prog_2_method_4_code, 3, some .boolean, cdX0_hasSpot, flX0, [], 0, 0)
theorem qX0_hasSpot_ok : MOk qX0_hasSpot := ⟨cdX0_hasSpot_ok, flX0_ok, fun _ h => absurd h List.not_mem_nil, tw244, tw3, by decide +kernel, rfl, by decide +kernel, by decide +kernel⟩
def yX0_isTaken : MethodName := ⟨RX0, "isTaken", "(II)Z"⟩
def cdX0_isTaken_0 : List (Nat × Instr × Nat) := [(0, .iconst 0, 1), (1, .istore_n 3, 1), (2, .iload_n 3, 1), (3, .aload_n 0, 1), (4, .getfield 33, 3), (7, .if_icmp .ge 31, 3), (10, .aload_n 0, 1), (11, .getfield 9, 3), (14, .iload_n 3, 1), (15, .iaload, 1), (16, .iload_n 1, 1), (17, .if_icmp .ne 15, 3), (20, .aload_n 0, 1), (21, .getfield 15, 3), (24, .iload_n 3, 1), (25, .iaload, 1), (26, .iload_n 2, 1), (27, .if_icmp .ne 5, 3), (30, .iconst 1, 1), (31, .ireturn, 1), (32, .iinc 3 1, 3), (35, .goto (-33), 3), (38, .iconst 0, 1), (39, .ireturn, 1)]
theorem cdX0_isTaken_0_ok : ∀ x ∈ cdX0_isTaken_0, decode prog_2_method_5_code x.1 = .ok x.2 := by decide +kernel
def cdX0_isTaken : List (Nat × Instr × Nat) := cdX0_isTaken_0
theorem cdX0_isTaken_ok : ∀ x ∈ cdX0_isTaken, decode prog_2_method_5_code x.1 = .ok x.2 := fun x h => cdX0_isTaken_0_ok x h
def qX0_isTaken : MI := (RX0, yX0_isTaken, prog_2_method_5_code, 4, some .boolean, cdX0_isTaken, flX0, [], 0, 0)
theorem qX0_isTaken_ok : MOk qX0_isTaken := ⟨cdX0_isTaken_ok, flX0_ok, fun _ h => absurd h List.not_mem_nil, tw162, tw3, by decide +kernel, rfl, by decide +kernel, by decide +kernel⟩
def yX0_areInOneRow : MethodName := ⟨RX0, "areInOneRow", "(II)Z"⟩
def cdX0_areInOneRow_0 : List (Nat × Instr × Nat) := [(0, .aload_n 0, 1), (1, .iload_n 1, 1), (2, .invokevirtual 40, 3), (5, .ifCond .eq 11, 3), (8, .aload_n 0, 1), (9, .iload_n 2, 1), (10, .invokevirtual 40, 3), (13, .ifCond .ne 5, 3), (16, .iconst 0, 1), (17, .ireturn, 1), (18, .aload_n 0, 1), (19, .getfield 9, 3), (22, .iload_n 1, 1), (23, .iaload, 1), (24, .aload_n 0, 1), (25, .getfield 9, 3), (28, .iload_n 2, 1), (29, .iaload, 1), (30, .if_icmp .eq 18, 3), (33, .aload_n 0, 1), (34, .getfield 15, 3), (37, .iload_n 1, 1), (38, .iaload, 1), (39, .aload_n 0, 1), (40, .getfield 15, 3), (43, .iload_n 2, 1), (44, .iaload, 1), (45, .if_icmp .ne 7, 3), (48, .iconst 1, 1), (49, .goto 4, 3), (52, .iconst 0, 1), (53, .ireturn, 1)]
theorem cdX0_areInOneRow_0_ok : ∀ x ∈ cdX0_areInOneRow_0, decode prog_2_method_6_code x.1 = .ok x.2 := by decide +kernel
def cdX0_areInOneRow : List (Nat × Instr × Nat) := cdX0_areInOneRow_0
theorem cdX0_areInOneRow_ok : ∀ x ∈ cdX0_areInOneRow, decode prog_2_method_6_code x.1 = .ok x.2 := fun x h => cdX0_areInOneRow_0_ok x h
def qX0_areInOneRow : MI := (RX0, yX0_areInOneRow, prog_2_method_6_code, 3, some .boolean, cdX0_areInOneRow, flX0, [], 1, 21)
theorem qX0_areInOneRow_ok : MOk qX0_areInOneRow := ⟨cdX0_areInOneRow_ok, flX0_ok, fun _ h => absurd h List.not_mem_nil, tw181, tw3, by decide +kernel, rfl, by decide +kernel, by decide +kernel⟩
def yX0_areJoined : MethodName := ⟨RX0, "areJoined", "(II)Z"⟩
def cdX0_areJoined_0 : List (Nat × Instr × Nat) := [(0, .iconst 0, 1), (1, .istore_n 3, 1), (2, .iload_n 3, 1), (3, .aload_n 0, 1), (4, .getfield 37, 3), (7, .if_icmp .ge 75, 3), (10, .aload_n 0, 1), (11, .getfield 18, 3), (14, .iload_n 3, 1), (15, .iaload, 1), (16, .iload_n 1, 1), (17, .if_icmp .ne 17, 3), (20, .aload_n 0, 1), (21, .getfield 21, 3), (24, .iload_n 3, 1), (25, .iaload, 1), (26, .iload_n 2, 1), (27, .if_icmp .ne 7, 3), (30, .iconst 1, 1), (31, .goto 4, 3), (34, .iconst 0, 1), (35, .istore 4, 2), (37, .aload_n 0, 1), (38, .getfield 18, 3), (41, .iload_n 3, 1), (42, .iaload, 1), (43, .iload_n 2, 1), (44, .if_icmp .ne 17, 3), (47, .aload_n 0, 1), (48, .getfield 21, 3), (51, .iload_n 3, 1), (52, .iaload, 1), (53, .iload_n 1, 1), (54, .if_icmp .ne 7, 3), (57, .iconst 1, 1), (58, .goto 4, 3), (61, .iconst 0, 1), (62, .istore 5, 2), (64, .iload 4, 2), (66, .ifCond .ne 8, 3), (69, .iload 5, 2), (71, .ifCond .eq 5, 3), (74, .iconst 1, 1), (75, .ireturn, 1), (76, .iinc 3 1, 3), (79, .goto (-77), 3), (82, .iconst 0, 1), (83, .ireturn, 1)]
theorem cdX0_areJoined_0_ok : ∀ x ∈ cdX0_areJoined_0, decode prog_2_method_7_code x.1 = .ok x.2 := by decide +kernel
def cdX0_areJoined : List (Nat × Instr × Nat) := cdX0_areJoined_0
theorem cdX0_areJoined_ok : ∀ x ∈ cdX0_areJoined, decode prog_2_method_7_code x.1 = .ok x.2 := fun x h => cdX0_areJoined_0_ok x h
def qX0_areJoined : MI := (RX0, yX0_areJoined, prog_2_method_7_code, 6, some .boolean, cdX0_areJoined, flX0, [], 0, 0)
theorem qX0_areJoined_ok : MOk qX0_areJoined := ⟨cdX0_areJoined_ok, flX0_ok, fun _ h => absurd h List.not_mem_nil, tw186, tw3, by decide +kernel, rfl, by decide +kernel, by decide +kernel⟩
def yX0_addCrossing : MethodName := ⟨RX0, "addCrossing", "(II)V"⟩
def cdX0_addCrossing_0 : List (Nat × Instr × Nat) := [(0, .aload_n 0, 1), (1, .getfield 33, 3), (4, .bipush 12, 2), (6, .if_icmp .lt 4, 3), (9, .return_, 1), (10, .aload_n 0, 1), (11, .getfield 33, 3), (14, .istore_n 3, 1), (15, .aload_n 0, 1), (16, .getfield 9, 3), (19, .iload_n 3, 1), (20, .iload_n 1, 1), (21, .iastore, 1), (22, .aload_n 0, 1), (23, .getfield 15, 3), (26, .iload_n 3, 1), (27, .iload_n 2, 1), (28, .iastore, 1), (29, .iconst 0, 1), (30, .istore 4, 2), (32, .iload 4, 2), (34, .iload_n 3, 1), (35, .if_icmp .ge 35, 3), (38, .aload_n 0, 1), (39, .getfield 30, 3), (42, .iload 4, 2), (44, .iload_n 3, 1), (45, .invokestatic 44, 3), (48, .bipush (-6), 2), (50, .iastore, 1), (51, .aload_n 0, 1), (52, .getfield 30, 3), (55, .iload_n 3, 1), (56, .iload 4, 2), (58, .invokestatic 44, 3), (61, .bipush (-6), 2), (63, .iastore, 1), (64, .iinc 4 1, 3), (67, .goto (-35), 3), (70, .aload_n 0, 1), (71, .getfield 30, 3), (74, .iload_n 3, 1), (75, .iload_n 3, 1), (76, .invokestatic 44, 3), (79, .iconst 0, 1), (80, .iastore, 1), (81, .aload_n 0, 1), (82, .iload_n 3, 1), (83, .iconst 1, 1), (84, .iadd, 1), (85, .putfield 33, 3), (88, .return_, 1)]
theorem cdX0_addCrossing_0_ok : ∀ x ∈ cdX0_addCrossing_0, decode prog_2_method_8_code x.1 = .ok x.2 := by decide +kernel
def cdX0_addCrossing : List (Nat × Instr × Nat) := cdX0_addCrossing_0
theorem cdX0_addCrossing_ok : ∀ x ∈ cdX0_addCrossing, decode prog_2_method_8_code x.1 = .ok x.2 := fun x h => cdX0_addCrossing_0_ok x h
def qX0_addCrossing : MI := (RX0, yX0_addCrossing, prog_2_method_8_code, 5, none, cdX0_addCrossing, flX0, [], 1, 21)
theorem qX0_addCrossing_ok : MOk qX0_addCrossing := ⟨cdX0_addCrossing_ok, flX0_ok, fun _ h => absurd h List.not_mem_nil, tw166, tw3, by decide +kernel, rfl, by decide +kernel, by decide +kernel⟩
def yX0_addRoad : MethodName := ⟨RX0, "addRoad", "(III)V"⟩
def cdX0_addRoad_0 : List (Nat × Instr × Nat) := [(0, .aload_n 0, 1), (1, .getfield 37, 3), (4, .bipush 20, 2), (6, .if_icmp .ge 19, 3), (9, .aload_n 0, 1), (10, .iload_n 1, 1), (11, .invokevirtual 40, 3), (14, .ifCond .eq 11, 3), (17, .aload_n 0, 1), (18, .iload_n 2, 1), (19, .invokevirtual 40, 3), (22, .ifCond .ne 4, 3), (25, .return_, 1), (26, .aload_n 0, 1), (27, .getfield 9, 3), (30, .iload_n 1, 1), (31, .iaload, 1), (32, .aload_n 0, 1), (33, .getfield 9, 3), (36, .iload_n 2, 1), (37, .iaload, 1), (38, .isub, 1), (39, .invokestatic 48, 3), (42, .aload_n 0, 1), (43, .getfield 15, 3), (46, .iload_n 1, 1), (47, .iaload, 1), (48, .aload_n 0, 1), (49, .getfield 15, 3), (52, .iload_n 2, 1), (53, .iaload, 1), (54, .isub, 1), (55, .invokestatic 48, 3), (58, .iadd, 1), (59, .istore 4, 2), (61, .aload_n 0, 1), (62, .getfield 18, 3), (65, .aload_n 0, 1), (66, .getfield 37, 3), (69, .iload_n 1, 1), (70, .iastore, 1), (71, .aload_n 0, 1), (72, .getfield 21, 3), (75, .aload_n 0, 1), (76, .getfield 37, 3), (79, .iload_n 2, 1), (80, .iastore, 1), (81, .aload_n 0, 1), (82, .getfield 24, 3), (85, .aload_n 0, 1), (86, .getfield 37, 3), (89, .iload_n 3, 1), (90, .iastore, 1), (91, .aload_n 0, 1), (92, .getfield 27, 3), (95, .aload_n 0, 1), (96, .getfield 37, 3), (99, .iload 4, 2), (101, .iastore, 1), (102, .aload_n 0, 1)]
theorem cdX0_addRoad_0_ok : ∀ x ∈ cdX0_addRoad_0, decode prog_2_method_9_code x.1 = .ok x.2 := by decide +kernel
def cdX0_addRoad_1 : List (Nat × Instr × Nat) := [(103, .dup, 1), (104, .getfield 37, 3), (107, .iconst 1, 1), (108, .iadd, 1), (109, .putfield 37, 3), (112, .aload_n 0, 1), (113, .iload_n 1, 1), (114, .iload_n 2, 1), (115, .iload 4, 2), (117, .invokevirtual 54, 3), (120, .iload_n 3, 1), (121, .ifCond .ne 11, 3), (124, .aload_n 0, 1), (125, .iload_n 2, 1), (126, .iload_n 1, 1), (127, .iload 4, 2), (129, .invokevirtual 54, 3), (132, .return_, 1)]
theorem cdX0_addRoad_1_ok : ∀ x ∈ cdX0_addRoad_1, decode prog_2_method_9_code x.1 = .ok x.2 := by decide +kernel
def cdX0_addRoad : List (Nat × Instr × Nat) := cdX0_addRoad_0 ++ (cdX0_addRoad_1)
theorem cdX0_addRoad_ok : ∀ x ∈ cdX0_addRoad, decode prog_2_method_9_code x.1 = .ok x.2 := fun x h => (List.mem_append.mp h).elim (fun h => cdX0_addRoad_0_ok x h) (fun h => cdX0_addRoad_1_ok x h)
def qX0_addRoad : MI := (RX0, yX0_addRoad, prog_2_method_9_code, 5, none, cdX0_addRoad, flX0, [], 2, 49)
theorem qX0_addRoad_ok : MOk qX0_addRoad := ⟨cdX0_addRoad_ok, flX0_ok, fun _ h => absurd h List.not_mem_nil, tw190, tw3, by decide +kernel, rfl, by decide +kernel, by decide +kernel⟩
def yX0_shortenBy : MethodName := ⟨RX0, "shortenBy", "(III)V"⟩
def cdX0_shortenBy_0 : List (Nat × Instr × Nat) := [(0, .iconst 0, 1), (1, .istore 4, 2), (3, .iload 4, 2), (5, .aload_n 0, 1), (6, .getfield 33, 3), (9, .if_icmp .ge 119, 3), (12, .aload_n 0, 1), (13, .getfield 30, 3), (16, .iload 4, 2), (18, .iload_n 1, 1), (19, .invokestatic 44, 3), (22, .iaload, 1), (23, .istore 5, 2), (25, .iconst 0, 1), (26, .istore 6, 2), (28, .iload 5, 2), (30, .bipush (-6), 2), (32, .if_icmp .eq 90, 3), (35, .iload 6, 2), (37, .aload_n 0, 1), (38, .getfield 33, 3), (41, .if_icmp .ge 81, 3), (44, .aload_n 0, 1), (45, .getfield 30, 3), (48, .iload_n 2, 1), (49, .iload 6, 2), (51, .invokestatic 44, 3), (54, .iaload, 1), (55, .istore 7, 2), (57, .aload_n 0, 1), (58, .getfield 30, 3), (61, .iload 4, 2), (63, .iload 6, 2), (65, .invokestatic 44, 3), (68, .iaload, 1), (69, .istore 8, 2), (71, .iload 7, 2), (73, .bipush (-6), 2), (75, .if_icmp .eq 41, 3), (78, .iload 8, 2), (80, .bipush (-6), 2), (82, .if_icmp .eq 15, 3), (85, .iload 5, 2), (87, .iload_n 3, 1), (88, .iadd, 1), (89, .iload 7, 2), (91, .iadd, 1), (92, .iload 8, 2), (94, .if_icmp .ge 22, 3), (97, .aload_n 0, 1), (98, .getfield 30, 3), (101, .iload 4, 2), (103, .iload 6, 2), (105, .invokestatic 44, 3), (108, .iload 5, 2), (110, .iload_n 3, 1), (111, .iadd, 1), (112, .iload 7, 2), (114, .iadd, 1), (115, .iastore, 1)]
theorem cdX0_shortenBy_0_ok : ∀ x ∈ cdX0_shortenBy_0, decode prog_2_method_10_code x.1 = .ok x.2 := by decide +kernel
def cdX0_shortenBy_1 : List (Nat × Instr × Nat) := [(116, .iinc 6 1, 3), (119, .goto (-91), 3), (122, .iinc 4 1, 3), (125, .goto (-122), 3), (128, .return_, 1)]
theorem cdX0_shortenBy_1_ok : ∀ x ∈ cdX0_shortenBy_1, decode prog_2_method_10_code x.1 = .ok x.2 := by decide +kernel
def cdX0_shortenBy : List (Nat × Instr × Nat) := cdX0_shortenBy_0 ++ (cdX0_shortenBy_1)
theorem cdX0_shortenBy_ok : ∀ x ∈ cdX0_shortenBy, decode prog_2_method_10_code x.1 = .ok x.2 := fun x h => (List.mem_append.mp h).elim (fun h => cdX0_shortenBy_0_ok x h) (fun h => cdX0_shortenBy_1_ok x h)
def qX0_shortenBy : MI := (RX0, yX0_shortenBy, prog_2_method_10_code, 9, none, cdX0_shortenBy, flX0, [], 1, 21)
theorem qX0_shortenBy_ok : MOk qX0_shortenBy := ⟨cdX0_shortenBy_ok, flX0_ok, fun _ h => absurd h List.not_mem_nil, tw197, tw3, by decide +kernel, rfl, by decide +kernel, by decide +kernel⟩
def yX0_leastBetween : MethodName := ⟨RX0, "leastBetween", "(II)I"⟩
def cdX0_leastBetween_0 : List (Nat × Instr × Nat) := [(0, .aload_n 0, 1), (1, .iload_n 1, 1), (2, .invokevirtual 40, 3), (5, .ifCond .eq 24, 3), (8, .aload_n 0, 1), (9, .iload_n 2, 1), (10, .invokevirtual 40, 3), (13, .ifCond .eq 16, 3), (16, .aload_n 0, 1), (17, .getfield 30, 3), (20, .iload_n 1, 1), (21, .iload_n 2, 1), (22, .invokestatic 44, 3), (25, .iaload, 1), (26, .goto 5, 3), (29, .bipush (-6), 2), (31, .ireturn, 1)]
theorem cdX0_leastBetween_0_ok : ∀ x ∈ cdX0_leastBetween_0, decode prog_2_method_11_code x.1 = .ok x.2 := by decide +kernel
def cdX0_leastBetween : List (Nat × Instr × Nat) := cdX0_leastBetween_0
theorem cdX0_leastBetween_ok : ∀ x ∈ cdX0_leastBetween, decode prog_2_method_11_code x.1 = .ok x.2 := fun x h => cdX0_leastBetween_0_ok x h
def qX0_leastBetween : MI := (RX0, yX0_leastBetween, prog_2_method_11_code, 3, some .int, cdX0_leastBetween, flX0, [], 1, 21)
theorem qX0_leastBetween_ok : MOk qX0_leastBetween := ⟨cdX0_leastBetween_ok, flX0_ok, fun _ h => absurd h List.not_mem_nil, tw236, tw3, by decide +kernel, rfl, by decide +kernel, by decide +kernel⟩
def yX0_pair : MethodName := ⟨RX0, "pair", "(II)I"⟩
def cdX0_pair_0 : List (Nat × Instr × Nat) := [(0, .iload_n 0, 1), (1, .bipush 12, 2), (3, .imul, 1), (4, .iload_n 1, 1), (5, .iadd, 1), (6, .ireturn, 1)]
theorem cdX0_pair_0_ok : ∀ x ∈ cdX0_pair_0, decode prog_2_method_12_code x.1 = .ok x.2 := by decide +kernel
def cdX0_pair : List (Nat × Instr × Nat) := cdX0_pair_0
theorem cdX0_pair_ok : ∀ x ∈ cdX0_pair, decode prog_2_method_12_code x.1 = .ok x.2 := fun x h => cdX0_pair_0_ok x h
def qX0_pair : MI := (RX0, yX0_pair, prog_2_method_12_code, 2, some .int, cdX0_pair, flX0, [], 0, 0)
theorem qX0_pair_ok : MOk qX0_pair := ⟨cdX0_pair_ok, flX0_ok, fun _ h => absurd h List.not_mem_nil, tw169, tw3, by decide +kernel, rfl, by decide +kernel, by decide +kernel⟩
def yX0_roadsInCell : MethodName := ⟨RX0, "roadsInCell", "(II)I"⟩
def cdX0_roadsInCell_0 : List (Nat × Instr × Nat) := [(0, .iconst 0, 1), (1, .istore_n 3, 1), (2, .iconst 0, 1), (3, .istore 4, 2), (5, .iload 4, 2), (7, .aload_n 0, 1), (8, .getfield 37, 3), (11, .if_icmp .ge 74, 3), (14, .aload_n 0, 1), (15, .getfield 9, 3), (18, .aload_n 0, 1), (19, .getfield 18, 3), (22, .iload 4, 2), (24, .iaload, 1), (25, .iaload, 1), (26, .aload_n 0, 1), (27, .getfield 9, 3), (30, .aload_n 0, 1), (31, .getfield 21, 3), (34, .iload 4, 2), (36, .iaload, 1), (37, .iaload, 1), (38, .iload_n 1, 1), (39, .invokestatic 58, 3), (42, .ifCond .eq 37, 3), (45, .aload_n 0, 1), (46, .getfield 15, 3), (49, .aload_n 0, 1), (50, .getfield 18, 3), (53, .iload 4, 2), (55, .iaload, 1), (56, .iaload, 1), (57, .aload_n 0, 1), (58, .getfield 15, 3), (61, .aload_n 0, 1), (62, .getfield 21, 3), (65, .iload 4, 2), (67, .iaload, 1), (68, .iaload, 1), (69, .iload_n 2, 1), (70, .invokestatic 58, 3), (73, .ifCond .eq 6, 3), (76, .iinc 3 1, 3), (79, .iinc 4 1, 3), (82, .goto (-77), 3), (85, .iload_n 3, 1), (86, .ireturn, 1)]
theorem cdX0_roadsInCell_0_ok : ∀ x ∈ cdX0_roadsInCell_0, decode prog_2_method_13_code x.1 = .ok x.2 := by decide +kernel
def cdX0_roadsInCell : List (Nat × Instr × Nat) := cdX0_roadsInCell_0
theorem cdX0_roadsInCell_ok : ∀ x ∈ cdX0_roadsInCell, decode prog_2_method_13_code x.1 = .ok x.2 := fun x h => cdX0_roadsInCell_0_ok x h
def qX0_roadsInCell : MI := (RX0, yX0_roadsInCell, prog_2_method_13_code, 5, some .int, cdX0_roadsInCell, flX0, [], 2, 43)
theorem qX0_roadsInCell_ok : MOk qX0_roadsInCell := ⟨cdX0_roadsInCell_ok, flX0_ok, fun _ h => absurd h List.not_mem_nil, tw219, tw3, by decide +kernel, rfl, by decide +kernel, by decide +kernel⟩
def yX0_spans : MethodName := ⟨RX0, "spans", "(III)Z"⟩
def cdX0_spans_0 : List (Nat × Instr × Nat) := [(0, .iload_n 0, 1), (1, .iload_n 1, 1), (2, .invokestatic 62, 3), (5, .bipush 8, 2), (7, .idiv, 1), (8, .iload_n 2, 1), (9, .if_icmp .gt 19, 3), (12, .iload_n 2, 1), (13, .iload_n 0, 1), (14, .iload_n 1, 1), (15, .invokestatic 65, 3), (18, .bipush 8, 2), (20, .idiv, 1), (21, .if_icmp .gt 7, 3), (24, .iconst 1, 1), (25, .goto 4, 3), (28, .iconst 0, 1), (29, .ireturn, 1)]
theorem cdX0_spans_0_ok : ∀ x ∈ cdX0_spans_0, decode prog_2_method_14_code x.1 = .ok x.2 := by decide +kernel
def cdX0_spans : List (Nat × Instr × Nat) := cdX0_spans_0
theorem cdX0_spans_ok : ∀ x ∈ cdX0_spans, decode prog_2_method_14_code x.1 = .ok x.2 := fun x h => cdX0_spans_0_ok x h
def qX0_spans : MI := (RX0, yX0_spans, prog_2_method_14_code, 3, some .boolean, cdX0_spans, flX0, [], 1, 21)
theorem qX0_spans_ok : MOk qX0_spans := ⟨cdX0_spans_ok, flX0_ok, fun _ h => absurd h List.not_mem_nil, tw222, tw3, by decide +kernel, rfl, by decide +kernel, by decide +kernel⟩
def yX0_apartFromRoad : MethodName := ⟨RX0, "apartFromRoad", "(III)I"⟩
def cdX0_apartFromRoad_0 : List (Nat × Instr × Nat) := [(0, .aload_n 0, 1), (1, .iload_n 1, 1), (2, .invokevirtual 68, 3), (5, .ifCond .ne 6, 3), (8, .bipush (-6), 2), (10, .ireturn, 1), (11, .aload_n 0, 1), (12, .iload_n 1, 1), (13, .iload_n 2, 1), (14, .invokevirtual 71, 3), (17, .iload_n 2, 1), (18, .isub, 1), (19, .invokestatic 48, 3), (22, .aload_n 0, 1), (23, .iload_n 1, 1), (24, .iload_n 3, 1), (25, .invokevirtual 74, 3), (28, .iload_n 3, 1), (29, .isub, 1), (30, .invokestatic 48, 3), (33, .iadd, 1), (34, .ireturn, 1)]
theorem cdX0_apartFromRoad_0_ok : ∀ x ∈ cdX0_apartFromRoad_0, decode prog_2_method_15_code x.1 = .ok x.2 := by decide +kernel
def cdX0_apartFromRoad : List (Nat × Instr × Nat) := cdX0_apartFromRoad_0
theorem cdX0_apartFromRoad_ok : ∀ x ∈ cdX0_apartFromRoad, decode prog_2_method_15_code x.1 = .ok x.2 := fun x h => cdX0_apartFromRoad_0_ok x h
def qX0_apartFromRoad : MI := (RX0, yX0_apartFromRoad, prog_2_method_15_code, 4, some .int, cdX0_apartFromRoad, flX0, [], 3, 65)
theorem qX0_apartFromRoad_ok : MOk qX0_apartFromRoad := ⟨cdX0_apartFromRoad_ok, flX0_ok, fun _ h => absurd h List.not_mem_nil, tw303, tw3, by decide +kernel, rfl, by decide +kernel, by decide +kernel⟩
def yX0_nearestSpot : MethodName := ⟨RX0, "nearestSpot", "(III)I"⟩
def cdX0_nearestSpot_0 : List (Nat × Instr × Nat) := [(0, .aload_n 0, 1), (1, .iload_n 1, 1), (2, .invokevirtual 68, 3), (5, .ifCond .ne 6, 3), (8, .bipush (-6), 2), (10, .ireturn, 1), (11, .aload_n 0, 1), (12, .iload_n 1, 1), (13, .iload_n 2, 1), (14, .invokevirtual 71, 3), (17, .aload_n 0, 1), (18, .getfield 9, 3), (21, .aload_n 0, 1), (22, .getfield 18, 3), (25, .iload_n 1, 1), (26, .iaload, 1), (27, .iaload, 1), (28, .isub, 1), (29, .invokestatic 48, 3), (32, .istore 4, 2), (34, .aload_n 0, 1), (35, .iload_n 1, 1), (36, .iload_n 3, 1), (37, .invokevirtual 74, 3), (40, .aload_n 0, 1), (41, .getfield 15, 3), (44, .aload_n 0, 1), (45, .getfield 18, 3), (48, .iload_n 1, 1), (49, .iaload, 1), (50, .iaload, 1), (51, .isub, 1), (52, .invokestatic 48, 3), (55, .istore 5, 2), (57, .bipush 100, 2), (59, .iload_n 1, 1), (60, .imul, 1), (61, .iload 4, 2), (63, .iadd, 1), (64, .iload 5, 2), (66, .iadd, 1), (67, .ireturn, 1)]
theorem cdX0_nearestSpot_0_ok : ∀ x ∈ cdX0_nearestSpot_0, decode prog_2_method_16_code x.1 = .ok x.2 := by decide +kernel
def cdX0_nearestSpot : List (Nat × Instr × Nat) := cdX0_nearestSpot_0
theorem cdX0_nearestSpot_ok : ∀ x ∈ cdX0_nearestSpot, decode prog_2_method_16_code x.1 = .ok x.2 := fun x h => cdX0_nearestSpot_0_ok x h
def qX0_nearestSpot : MI := (RX0, yX0_nearestSpot, prog_2_method_16_code, 6, some .int, cdX0_nearestSpot, flX0, [], 3, 65)
theorem qX0_nearestSpot_ok : MOk qX0_nearestSpot := ⟨cdX0_nearestSpot_ok, flX0_ok, fun _ h => absurd h List.not_mem_nil, tw325, tw3, by decide +kernel, rfl, by decide +kernel, by decide +kernel⟩
def yX0_nearestX : MethodName := ⟨RX0, "nearestX", "(II)I"⟩
def cdX0_nearestX_0 : List (Nat × Instr × Nat) := [(0, .iload_n 2, 1), (1, .aload_n 0, 1), (2, .getfield 9, 3), (5, .aload_n 0, 1), (6, .getfield 18, 3), (9, .iload_n 1, 1), (10, .iaload, 1), (11, .iaload, 1), (12, .aload_n 0, 1), (13, .getfield 9, 3), (16, .aload_n 0, 1), (17, .getfield 21, 3), (20, .iload_n 1, 1), (21, .iaload, 1), (22, .iaload, 1), (23, .invokestatic 77, 3), (26, .ireturn, 1)]
theorem cdX0_nearestX_0_ok : ∀ x ∈ cdX0_nearestX_0, decode prog_2_method_17_code x.1 = .ok x.2 := by decide +kernel
def cdX0_nearestX : List (Nat × Instr × Nat) := cdX0_nearestX_0
theorem cdX0_nearestX_ok : ∀ x ∈ cdX0_nearestX, decode prog_2_method_17_code x.1 = .ok x.2 := fun x h => cdX0_nearestX_0_ok x h
def qX0_nearestX : MI := (RX0, yX0_nearestX, prog_2_method_17_code, 3, some .int, cdX0_nearestX, flX0, [], 2, 43)
theorem qX0_nearestX_ok : MOk qX0_nearestX := ⟨cdX0_nearestX_ok, flX0_ok, fun _ h => absurd h List.not_mem_nil, tw311, tw3, by decide +kernel, rfl, by decide +kernel, by decide +kernel⟩
def yX0_nearestY : MethodName := ⟨RX0, "nearestY", "(II)I"⟩
def cdX0_nearestY_0 : List (Nat × Instr × Nat) := [(0, .iload_n 2, 1), (1, .aload_n 0, 1), (2, .getfield 15, 3), (5, .aload_n 0, 1), (6, .getfield 18, 3), (9, .iload_n 1, 1), (10, .iaload, 1), (11, .iaload, 1), (12, .aload_n 0, 1), (13, .getfield 15, 3), (16, .aload_n 0, 1), (17, .getfield 21, 3), (20, .iload_n 1, 1), (21, .iaload, 1), (22, .iaload, 1), (23, .invokestatic 77, 3), (26, .ireturn, 1)]
theorem cdX0_nearestY_0_ok : ∀ x ∈ cdX0_nearestY_0, decode prog_2_method_18_code x.1 = .ok x.2 := by decide +kernel
def cdX0_nearestY : List (Nat × Instr × Nat) := cdX0_nearestY_0
theorem cdX0_nearestY_ok : ∀ x ∈ cdX0_nearestY, decode prog_2_method_18_code x.1 = .ok x.2 := fun x h => cdX0_nearestY_0_ok x h
def qX0_nearestY : MI := (RX0, yX0_nearestY, prog_2_method_18_code, 3, some .int, cdX0_nearestY, flX0, [], 2, 43)
theorem qX0_nearestY_ok : MOk qX0_nearestY := ⟨cdX0_nearestY_ok, flX0_ok, fun _ h => absurd h List.not_mem_nil, tw318, tw3, by decide +kernel, rfl, by decide +kernel, by decide +kernel⟩
def yX0_held : MethodName := ⟨RX0, "held", "(III)I"⟩
def cdX0_held_0 : List (Nat × Instr × Nat) := [(0, .iload_n 1, 1), (1, .iload_n 2, 1), (2, .invokestatic 62, 3), (5, .iload_n 0, 1), (6, .iload_n 1, 1), (7, .iload_n 2, 1), (8, .invokestatic 65, 3), (11, .invokestatic 62, 3), (14, .invokestatic 65, 3), (17, .ireturn, 1)]
theorem cdX0_held_0_ok : ∀ x ∈ cdX0_held_0, decode prog_2_method_19_code x.1 = .ok x.2 := by decide +kernel
def cdX0_held : List (Nat × Instr × Nat) := cdX0_held_0
theorem cdX0_held_ok : ∀ x ∈ cdX0_held, decode prog_2_method_19_code x.1 = .ok x.2 := fun x h => cdX0_held_0_ok x h
def qX0_held : MI := (RX0, yX0_held, prog_2_method_19_code, 3, some .int, cdX0_held, flX0, [], 1, 21)
theorem qX0_held_ok : MOk qX0_held := ⟨cdX0_held_ok, flX0_ok, fun _ h => absurd h List.not_mem_nil, tw314, tw3, by decide +kernel, rfl, by decide +kernel, by decide +kernel⟩
def yX0_wayLength : MethodName := ⟨RX0, "wayLength", "(II)I"⟩
def cdX0_wayLength_0 : List (Nat × Instr × Nat) := [(0, .aload_n 0, 1), (1, .iload_n 1, 1), (2, .invokevirtual 81, 3), (5, .ifCond .eq 11, 3), (8, .aload_n 0, 1), (9, .iload_n 2, 1), (10, .invokevirtual 81, 3), (13, .ifCond .ne 6, 3), (16, .bipush (-6), 2), (18, .ireturn, 1), (19, .bipush (-6), 2), (21, .istore_n 3, 1), (22, .iconst 0, 1), (23, .istore 4, 2), (25, .iload 4, 2), (27, .iconst 4, 1), (28, .if_icmp .gt 41, 3), (31, .aload_n 0, 1), (32, .iload_n 1, 1), (33, .iload_n 2, 1), (34, .iload 4, 2), (36, .invokevirtual 84, 3), (39, .istore 5, 2), (41, .iload 5, 2), (43, .bipush (-6), 2), (45, .if_icmp .eq 18, 3), (48, .iload_n 3, 1), (49, .bipush (-6), 2), (51, .if_icmp .eq 9, 3), (54, .iload 5, 2), (56, .iload_n 3, 1), (57, .if_icmp .ge 6, 3), (60, .iload 5, 2), (62, .istore_n 3, 1), (63, .iinc 4 1, 3), (66, .goto (-41), 3), (69, .iload_n 3, 1), (70, .ireturn, 1)]
theorem cdX0_wayLength_0_ok : ∀ x ∈ cdX0_wayLength_0, decode prog_2_method_20_code x.1 = .ok x.2 := by decide +kernel
def cdX0_wayLength : List (Nat × Instr × Nat) := cdX0_wayLength_0
theorem cdX0_wayLength_ok : ∀ x ∈ cdX0_wayLength, decode prog_2_method_20_code x.1 = .ok x.2 := fun x h => cdX0_wayLength_0_ok x h
def qX0_wayLength : MI := (RX0, yX0_wayLength, prog_2_method_20_code, 6, some .int, cdX0_wayLength, flX0, [], 3, 69)
theorem qX0_wayLength_ok : MOk qX0_wayLength := ⟨cdX0_wayLength_ok, flX0_ok, fun _ h => absurd h List.not_mem_nil, tw248, tw3, by decide +kernel, rfl, by decide +kernel, by decide +kernel⟩
def yX0_wayOut : MethodName := ⟨RX0, "wayOut", "(II)I"⟩
def cdX0_wayOut_0 : List (Nat × Instr × Nat) := [(0, .aload_n 0, 1), (1, .iload_n 1, 1), (2, .iload_n 2, 1), (3, .invokevirtual 87, 3), (6, .istore_n 3, 1), (7, .iconst 0, 1), (8, .istore 4, 2), (10, .iload_n 3, 1), (11, .bipush (-6), 2), (13, .if_icmp .eq 30, 3), (16, .iload 4, 2), (18, .iconst 4, 1), (19, .if_icmp .gt 24, 3), (22, .aload_n 0, 1), (23, .iload_n 1, 1), (24, .iload_n 2, 1), (25, .iload 4, 2), (27, .invokevirtual 84, 3), (30, .iload_n 3, 1), (31, .if_icmp .ne 6, 3), (34, .iload 4, 2), (36, .ireturn, 1), (37, .iinc 4 1, 3), (40, .goto (-30), 3), (43, .bipush (-6), 2), (45, .ireturn, 1)]
theorem cdX0_wayOut_0_ok : ∀ x ∈ cdX0_wayOut_0, decode prog_2_method_21_code x.1 = .ok x.2 := by decide +kernel
def cdX0_wayOut : List (Nat × Instr × Nat) := cdX0_wayOut_0
theorem cdX0_wayOut_ok : ∀ x ∈ cdX0_wayOut, decode prog_2_method_21_code x.1 = .ok x.2 := fun x h => cdX0_wayOut_0_ok x h
def qX0_wayOut : MI := (RX0, yX0_wayOut, prog_2_method_21_code, 5, some .int, cdX0_wayOut, flX0, [], 4, 94)
theorem qX0_wayOut_ok : MOk qX0_wayOut := ⟨cdX0_wayOut_ok, flX0_ok, fun _ h => absurd h List.not_mem_nil, tw431, tw3, by decide +kernel, rfl, by decide +kernel, by decide +kernel⟩
def yX0_lengthOut : MethodName := ⟨RX0, "lengthOut", "(III)I"⟩
def cdX0_lengthOut_0 : List (Nat × Instr × Nat) := [(0, .iload_n 3, 1), (1, .ifCond .ne 10, 3), (4, .aload_n 0, 1), (5, .iload_n 1, 1), (6, .iload_n 2, 1), (7, .invokevirtual 90, 3), (10, .ireturn, 1), (11, .aload_n 0, 1), (12, .iload_n 1, 1), (13, .iload_n 3, 1), (14, .invokestatic 93, 3), (17, .invokevirtual 96, 3), (20, .istore 4, 2), (22, .aload_n 0, 1), (23, .getfield 30, 3), (26, .aload_n 0, 1), (27, .iload_n 1, 1), (28, .iload_n 3, 1), (29, .invokestatic 93, 3), (32, .invokevirtual 100, 3), (35, .aload_n 0, 1), (36, .iload_n 2, 1), (37, .iload_n 3, 1), (38, .invokestatic 103, 3), (41, .invokevirtual 100, 3), (44, .invokestatic 44, 3), (47, .iaload, 1), (48, .istore 5, 2), (50, .aload_n 0, 1), (51, .iload_n 2, 1), (52, .iload_n 3, 1), (53, .invokestatic 103, 3), (56, .invokevirtual 106, 3), (59, .istore 6, 2), (61, .iload 4, 2), (63, .bipush (-6), 2), (65, .if_icmp .eq 17, 3), (68, .iload 5, 2), (70, .bipush (-6), 2), (72, .if_icmp .eq 10, 3), (75, .iload 6, 2), (77, .bipush (-6), 2), (79, .if_icmp .ne 8, 3), (82, .bipush (-6), 2), (84, .goto 11, 3), (87, .iload 4, 2), (89, .iload 5, 2), (91, .iadd, 1), (92, .iload 6, 2), (94, .iadd, 1), (95, .ireturn, 1)]
theorem cdX0_lengthOut_0_ok : ∀ x ∈ cdX0_lengthOut_0, decode prog_2_method_22_code x.1 = .ok x.2 := by decide +kernel
def cdX0_lengthOut : List (Nat × Instr × Nat) := cdX0_lengthOut_0
theorem cdX0_lengthOut_ok : ∀ x ∈ cdX0_lengthOut, decode prog_2_method_22_code x.1 = .ok x.2 := fun x h => cdX0_lengthOut_0_ok x h
def qX0_lengthOut : MI := (RX0, yX0_lengthOut, prog_2_method_22_code, 7, some .int, cdX0_lengthOut, flX0, [], 2, 43)
theorem qX0_lengthOut_ok : MOk qX0_lengthOut := ⟨cdX0_lengthOut_ok, flX0_ok, fun _ h => absurd h List.not_mem_nil, tw253, tw3, by decide +kernel, rfl, by decide +kernel, by decide +kernel⟩
def yX0_lengthAlong : MethodName := ⟨RX0, "lengthAlong", "(II)I"⟩
def cdX0_lengthAlong_0 : List (Nat × Instr × Nat) := [(0, .iload_n 1, 1), (1, .bipush 100, 2), (3, .idiv, 1), (4, .istore_n 3, 1), (5, .iload_n 3, 1), (6, .iload_n 2, 1), (7, .bipush 100, 2), (9, .idiv, 1), (10, .if_icmp .ne 17, 3), (13, .aload_n 0, 1), (14, .getfield 24, 3), (17, .iload_n 3, 1), (18, .iaload, 1), (19, .ifCond .eq 11, 3), (22, .iload_n 2, 1), (23, .iload_n 1, 1), (24, .if_icmp .ge 6, 3), (27, .bipush (-6), 2), (29, .ireturn, 1), (30, .iload_n 2, 1), (31, .iload_n 1, 1), (32, .isub, 1), (33, .invokestatic 48, 3), (36, .ireturn, 1)]
theorem cdX0_lengthAlong_0_ok : ∀ x ∈ cdX0_lengthAlong_0, decode prog_2_method_23_code x.1 = .ok x.2 := by decide +kernel
def cdX0_lengthAlong : List (Nat × Instr × Nat) := cdX0_lengthAlong_0
theorem cdX0_lengthAlong_ok : ∀ x ∈ cdX0_lengthAlong, decode prog_2_method_23_code x.1 = .ok x.2 := fun x h => cdX0_lengthAlong_0_ok x h
def qX0_lengthAlong : MI := (RX0, yX0_lengthAlong, prog_2_method_23_code, 4, some .int, cdX0_lengthAlong, flX0, [], 1, 20)
theorem qX0_lengthAlong_ok : MOk qX0_lengthAlong := ⟨cdX0_lengthAlong_ok, flX0_ok, fun _ h => absurd h List.not_mem_nil, tw257, tw3, by decide +kernel, rfl, by decide +kernel, by decide +kernel⟩
def yX0_leaveLength : MethodName := ⟨RX0, "leaveLength", "(IZ)I"⟩
def cdX0_leaveLength_0 : List (Nat × Instr × Nat) := [(0, .iload_n 1, 1), (1, .bipush 100, 2), (3, .idiv, 1), (4, .istore_n 3, 1), (5, .iload_n 1, 1), (6, .bipush 100, 2), (8, .irem, 1), (9, .istore 4, 2), (11, .iload_n 2, 1), (12, .ifCond .eq 13, 3), (15, .aload_n 0, 1), (16, .getfield 27, 3), (19, .iload_n 3, 1), (20, .iaload, 1), (21, .iload 4, 2), (23, .isub, 1), (24, .ireturn, 1), (25, .aload_n 0, 1), (26, .getfield 24, 3), (29, .iload_n 3, 1), (30, .iaload, 1), (31, .ifCond .ne 8, 3), (34, .iload 4, 2), (36, .goto 5, 3), (39, .bipush (-6), 2), (41, .ireturn, 1)]
theorem cdX0_leaveLength_0_ok : ∀ x ∈ cdX0_leaveLength_0, decode prog_2_method_24_code x.1 = .ok x.2 := by decide +kernel
def cdX0_leaveLength : List (Nat × Instr × Nat) := cdX0_leaveLength_0
theorem cdX0_leaveLength_ok : ∀ x ∈ cdX0_leaveLength, decode prog_2_method_24_code x.1 = .ok x.2 := fun x h => cdX0_leaveLength_0_ok x h
def qX0_leaveLength : MI := (RX0, yX0_leaveLength, prog_2_method_24_code, 5, some .int, cdX0_leaveLength, flX0, [], 0, 0)
theorem qX0_leaveLength_ok : MOk qX0_leaveLength := ⟨cdX0_leaveLength_ok, flX0_ok, fun _ h => absurd h List.not_mem_nil, tw264, tw3, by decide +kernel, rfl, by decide +kernel, by decide +kernel⟩
def yX0_comeLength : MethodName := ⟨RX0, "comeLength", "(IZ)I"⟩
def cdX0_comeLength_0 : List (Nat × Instr × Nat) := [(0, .iload_n 1, 1), (1, .bipush 100, 2), (3, .idiv, 1), (4, .istore_n 3, 1), (5, .iload_n 1, 1), (6, .bipush 100, 2), (8, .irem, 1), (9, .istore 4, 2), (11, .iload_n 2, 1), (12, .ifCond .ne 6, 3), (15, .iload 4, 2), (17, .ireturn, 1), (18, .aload_n 0, 1), (19, .getfield 24, 3), (22, .iload_n 3, 1), (23, .iaload, 1), (24, .ifCond .ne 15, 3), (27, .aload_n 0, 1), (28, .getfield 27, 3), (31, .iload_n 3, 1), (32, .iaload, 1), (33, .iload 4, 2), (35, .isub, 1), (36, .goto 5, 3), (39, .bipush (-6), 2), (41, .ireturn, 1)]
theorem cdX0_comeLength_0_ok : ∀ x ∈ cdX0_comeLength_0, decode prog_2_method_25_code x.1 = .ok x.2 := by decide +kernel
def cdX0_comeLength : List (Nat × Instr × Nat) := cdX0_comeLength_0
theorem cdX0_comeLength_ok : ∀ x ∈ cdX0_comeLength, decode prog_2_method_25_code x.1 = .ok x.2 := fun x h => cdX0_comeLength_0_ok x h
def qX0_comeLength : MI := (RX0, yX0_comeLength, prog_2_method_25_code, 5, some .int, cdX0_comeLength, flX0, [], 0, 0)
theorem qX0_comeLength_ok : MOk qX0_comeLength := ⟨cdX0_comeLength_ok, flX0_ok, fun _ h => absurd h List.not_mem_nil, tw275, tw3, by decide +kernel, rfl, by decide +kernel, by decide +kernel⟩
def yX0_endOf : MethodName := ⟨RX0, "endOf", "(IZ)I"⟩
def cdX0_endOf_0 : List (Nat × Instr × Nat) := [(0, .iload_n 1, 1), (1, .bipush 100, 2), (3, .idiv, 1), (4, .istore_n 3, 1), (5, .iload_n 2, 1), (6, .ifCond .eq 12, 3), (9, .aload_n 0, 1), (10, .getfield 21, 3), (13, .iload_n 3, 1), (14, .iaload, 1), (15, .goto 9, 3), (18, .aload_n 0, 1), (19, .getfield 18, 3), (22, .iload_n 3, 1), (23, .iaload, 1), (24, .ireturn, 1)]
theorem cdX0_endOf_0_ok : ∀ x ∈ cdX0_endOf_0, decode prog_2_method_26_code x.1 = .ok x.2 := by decide +kernel
def cdX0_endOf : List (Nat × Instr × Nat) := cdX0_endOf_0
theorem cdX0_endOf_ok : ∀ x ∈ cdX0_endOf, decode prog_2_method_26_code x.1 = .ok x.2 := fun x h => cdX0_endOf_0_ok x h
def qX0_endOf : MI := (RX0, yX0_endOf, prog_2_method_26_code, 4, some .int, cdX0_endOf, flX0, [], 0, 0)
theorem qX0_endOf_ok : MOk qX0_endOf := ⟨cdX0_endOf_ok, flX0_ok, fun _ h => absurd h List.not_mem_nil, tw268, tw3, by decide +kernel, rfl, by decide +kernel, by decide +kernel⟩
def yX0_leavesByLast : MethodName := ⟨RX0, "leavesByLast", "(I)Z"⟩
def cdX0_leavesByLast_0 : List (Nat × Instr × Nat) := [(0, .iload_n 0, 1), (1, .iconst 3, 1), (2, .if_icmp .lt 7, 3), (5, .iconst 1, 1), (6, .goto 4, 3), (9, .iconst 0, 1), (10, .ireturn, 1)]
theorem cdX0_leavesByLast_0_ok : ∀ x ∈ cdX0_leavesByLast_0, decode prog_2_method_27_code x.1 = .ok x.2 := by decide +kernel
def cdX0_leavesByLast : List (Nat × Instr × Nat) := cdX0_leavesByLast_0
theorem cdX0_leavesByLast_ok : ∀ x ∈ cdX0_leavesByLast, decode prog_2_method_27_code x.1 = .ok x.2 := fun x h => cdX0_leavesByLast_0_ok x h
def qX0_leavesByLast : MI := (RX0, yX0_leavesByLast, prog_2_method_27_code, 1, some .boolean, cdX0_leavesByLast, flX0, [], 0, 0)
theorem qX0_leavesByLast_ok : MOk qX0_leavesByLast := ⟨cdX0_leavesByLast_ok, flX0_ok, fun _ h => absurd h List.not_mem_nil, tw260, tw3, by decide +kernel, rfl, by decide +kernel, by decide +kernel⟩
def yX0_comesByLast : MethodName := ⟨RX0, "comesByLast", "(I)Z"⟩
def cdX0_comesByLast_0 : List (Nat × Instr × Nat) := [(0, .iload_n 0, 1), (1, .iconst 2, 1), (2, .if_icmp .eq 8, 3), (5, .iload_n 0, 1), (6, .iconst 4, 1), (7, .if_icmp .ne 7, 3), (10, .iconst 1, 1), (11, .goto 4, 3), (14, .iconst 0, 1), (15, .ireturn, 1)]
theorem cdX0_comesByLast_0_ok : ∀ x ∈ cdX0_comesByLast_0, decode prog_2_method_28_code x.1 = .ok x.2 := by decide +kernel
def cdX0_comesByLast : List (Nat × Instr × Nat) := cdX0_comesByLast_0
theorem cdX0_comesByLast_ok : ∀ x ∈ cdX0_comesByLast, decode prog_2_method_28_code x.1 = .ok x.2 := fun x h => cdX0_comesByLast_0_ok x h
def qX0_comesByLast : MI := (RX0, yX0_comesByLast, prog_2_method_28_code, 1, some .boolean, cdX0_comesByLast, flX0, [], 0, 0)
theorem qX0_comesByLast_ok : MOk qX0_comesByLast := ⟨cdX0_comesByLast_ok, flX0_ok, fun _ h => absurd h List.not_mem_nil, tw271, tw3, by decide +kernel, rfl, by decide +kernel, by decide +kernel⟩
def yX0_crossingOnWay : MethodName := ⟨RX0, "crossingOnWay", "(III)I"⟩
def cdX0_crossingOnWay_0 : List (Nat × Instr × Nat) := [(0, .aload_n 0, 1), (1, .iload_n 1, 1), (2, .iload_n 2, 1), (3, .invokevirtual 109, 3), (6, .istore 4, 2), (8, .iload 4, 2), (10, .bipush (-6), 2), (12, .if_icmp .eq 12, 3), (15, .iload 4, 2), (17, .ifCond .eq 7, 3), (20, .iload_n 3, 1), (21, .ifCond .ge 6, 3), (24, .bipush (-6), 2), (26, .ireturn, 1), (27, .aload_n 0, 1), (28, .iload_n 1, 1), (29, .iload 4, 2), (31, .invokestatic 93, 3), (34, .invokevirtual 100, 3), (37, .istore 5, 2), (39, .aload_n 0, 1), (40, .iload_n 2, 1), (41, .iload 4, 2), (43, .invokestatic 103, 3), (46, .invokevirtual 100, 3), (49, .istore 6, 2), (51, .iconst 0, 1), (52, .istore 7, 2), (54, .iload 7, 2), (56, .iload_n 3, 1), (57, .if_icmp .ge 36, 3), (60, .iload 7, 2), (62, .bipush 12, 2), (64, .if_icmp .ge 29, 3), (67, .iload 5, 2), (69, .iload 6, 2), (71, .if_icmp .ne 6, 3), (74, .bipush (-6), 2), (76, .ireturn, 1), (77, .aload_n 0, 1), (78, .iload 5, 2), (80, .iload 6, 2), (82, .invokevirtual 112, 3), (85, .istore 5, 2), (87, .iinc 7 1, 3), (90, .goto (-36), 3), (93, .iload 5, 2), (95, .ireturn, 1)]
theorem cdX0_crossingOnWay_0_ok : ∀ x ∈ cdX0_crossingOnWay_0, decode prog_2_method_29_code x.1 = .ok x.2 := by decide +kernel
def cdX0_crossingOnWay : List (Nat × Instr × Nat) := cdX0_crossingOnWay_0
theorem cdX0_crossingOnWay_ok : ∀ x ∈ cdX0_crossingOnWay, decode prog_2_method_29_code x.1 = .ok x.2 := fun x h => cdX0_crossingOnWay_0_ok x h
def qX0_crossingOnWay : MI := (RX0, yX0_crossingOnWay, prog_2_method_29_code, 8, some .int, cdX0_crossingOnWay, flX0, [], 5, 118)
theorem qX0_crossingOnWay_ok : MOk qX0_crossingOnWay := ⟨cdX0_crossingOnWay_ok, flX0_ok, fun _ h => absurd h List.not_mem_nil, tw427, tw3, by decide +kernel, rfl, by decide +kernel, by decide +kernel⟩
def yX0_nextCrossing : MethodName := ⟨RX0, "nextCrossing", "(II)I"⟩
def cdX0_nextCrossing_0 : List (Nat × Instr × Nat) := [(0, .bipush (-6), 2), (2, .istore_n 3, 1), (3, .aload_n 0, 1), (4, .iload_n 1, 1), (5, .iload_n 2, 1), (6, .invokevirtual 115, 3), (9, .istore 4, 2), (11, .iconst 0, 1), (12, .istore 5, 2), (14, .iload 4, 2), (16, .bipush (-6), 2), (18, .if_icmp .eq 73, 3), (21, .iload 5, 2), (23, .aload_n 0, 1), (24, .getfield 37, 3), (27, .if_icmp .ge 64, 3), (30, .aload_n 0, 1), (31, .iload 5, 2), (33, .iload_n 1, 1), (34, .invokevirtual 118, 3), (37, .istore 6, 2), (39, .aload_n 0, 1), (40, .iload 6, 2), (42, .iload_n 2, 1), (43, .invokevirtual 115, 3), (46, .istore 7, 2), (48, .iload 7, 2), (50, .bipush (-6), 2), (52, .if_icmp .eq 33, 3), (55, .aload_n 0, 1), (56, .getfield 27, 3), (59, .iload 5, 2), (61, .iaload, 1), (62, .iload 7, 2), (64, .iadd, 1), (65, .iload 4, 2), (67, .if_icmp .ne 18, 3), (70, .iload_n 3, 1), (71, .bipush (-6), 2), (73, .if_icmp .eq 9, 3), (76, .iload 6, 2), (78, .iload_n 3, 1), (79, .if_icmp .ge 6, 3), (82, .iload 6, 2), (84, .istore_n 3, 1), (85, .iinc 5 1, 3), (88, .goto (-74), 3), (91, .iload_n 3, 1), (92, .ireturn, 1)]
theorem cdX0_nextCrossing_0_ok : ∀ x ∈ cdX0_nextCrossing_0, decode prog_2_method_30_code x.1 = .ok x.2 := by decide +kernel
def cdX0_nextCrossing : List (Nat × Instr × Nat) := cdX0_nextCrossing_0
theorem cdX0_nextCrossing_ok : ∀ x ∈ cdX0_nextCrossing, decode prog_2_method_30_code x.1 = .ok x.2 := fun x h => cdX0_nextCrossing_0_ok x h
def qX0_nextCrossing : MI := (RX0, yX0_nextCrossing, prog_2_method_30_code, 8, some .int, cdX0_nextCrossing, flX0, [], 2, 43)
theorem qX0_nextCrossing_ok : MOk qX0_nextCrossing := ⟨cdX0_nextCrossing_ok, flX0_ok, fun _ h => absurd h List.not_mem_nil, tw436, tw3, by decide +kernel, rfl, by decide +kernel, by decide +kernel⟩
def yX0_leadsFrom : MethodName := ⟨RX0, "leadsFrom", "(II)I"⟩
def cdX0_leadsFrom_0 : List (Nat × Instr × Nat) := [(0, .aload_n 0, 1), (1, .getfield 18, 3), (4, .iload_n 1, 1), (5, .iaload, 1), (6, .iload_n 2, 1), (7, .if_icmp .ne 10, 3), (10, .aload_n 0, 1), (11, .getfield 21, 3), (14, .iload_n 1, 1), (15, .iaload, 1), (16, .ireturn, 1), (17, .aload_n 0, 1), (18, .getfield 21, 3), (21, .iload_n 1, 1), (22, .iaload, 1), (23, .iload_n 2, 1), (24, .if_icmp .ne 21, 3), (27, .aload_n 0, 1), (28, .getfield 24, 3), (31, .iload_n 1, 1), (32, .iaload, 1), (33, .ifCond .ne 12, 3), (36, .aload_n 0, 1), (37, .getfield 18, 3), (40, .iload_n 1, 1), (41, .iaload, 1), (42, .goto 5, 3), (45, .bipush (-6), 2), (47, .ireturn, 1)]
theorem cdX0_leadsFrom_0_ok : ∀ x ∈ cdX0_leadsFrom_0, decode prog_2_method_31_code x.1 = .ok x.2 := by decide +kernel
def cdX0_leadsFrom : List (Nat × Instr × Nat) := cdX0_leadsFrom_0
theorem cdX0_leadsFrom_ok : ∀ x ∈ cdX0_leadsFrom, decode prog_2_method_31_code x.1 = .ok x.2 := fun x h => cdX0_leadsFrom_0_ok x h
def qX0_leadsFrom : MI := (RX0, yX0_leadsFrom, prog_2_method_31_code, 3, some .int, cdX0_leadsFrom, flX0, [], 0, 0)
theorem qX0_leadsFrom_ok : MOk qX0_leadsFrom := ⟨cdX0_leadsFrom_ok, flX0_ok, fun _ h => absurd h List.not_mem_nil, tw441, tw3, by decide +kernel, rfl, by decide +kernel, by decide +kernel⟩
def yX0_tellCrossing : MethodName := ⟨RX0, "tellCrossing", "(I)I"⟩
def cdX0_tellCrossing_0 : List (Nat × Instr × Nat) := [(0, .aload_n 0, 1), (1, .iload_n 1, 1), (2, .invokevirtual 40, 3), (5, .ifCond .eq 22, 3), (8, .bipush 100, 2), (10, .aload_n 0, 1), (11, .getfield 9, 3), (14, .iload_n 1, 1), (15, .iaload, 1), (16, .imul, 1), (17, .aload_n 0, 1), (18, .getfield 15, 3), (21, .iload_n 1, 1), (22, .iaload, 1), (23, .iadd, 1), (24, .goto 5, 3), (27, .bipush (-2), 2), (29, .ireturn, 1)]
theorem cdX0_tellCrossing_0_ok : ∀ x ∈ cdX0_tellCrossing_0, decode prog_2_method_32_code x.1 = .ok x.2 := by decide +kernel
def cdX0_tellCrossing : List (Nat × Instr × Nat) := cdX0_tellCrossing_0
theorem cdX0_tellCrossing_ok : ∀ x ∈ cdX0_tellCrossing, decode prog_2_method_32_code x.1 = .ok x.2 := fun x h => cdX0_tellCrossing_0_ok x h
def qX0_tellCrossing : MI := (RX0, yX0_tellCrossing, prog_2_method_32_code, 2, some .int, cdX0_tellCrossing, flX0, [], 1, 21)
theorem qX0_tellCrossing_ok : MOk qX0_tellCrossing := ⟨cdX0_tellCrossing_ok, flX0_ok, fun _ h => absurd h List.not_mem_nil, tw515, tw3, by decide +kernel, rfl, by decide +kernel, by decide +kernel⟩
def yX0_tellRoad : MethodName := ⟨RX0, "tellRoad", "(I)I"⟩
def cdX0_tellRoad_0 : List (Nat × Instr × Nat) := [(0, .aload_n 0, 1), (1, .iload_n 1, 1), (2, .invokevirtual 68, 3), (5, .ifCond .eq 33, 3), (8, .sipush 1000, 3), (11, .aload_n 0, 1), (12, .getfield 18, 3), (15, .iload_n 1, 1), (16, .iaload, 1), (17, .imul, 1), (18, .bipush 10, 2), (20, .aload_n 0, 1), (21, .getfield 21, 3), (24, .iload_n 1, 1), (25, .iaload, 1), (26, .imul, 1), (27, .iadd, 1), (28, .aload_n 0, 1), (29, .getfield 24, 3), (32, .iload_n 1, 1), (33, .iaload, 1), (34, .iadd, 1), (35, .goto 5, 3), (38, .bipush (-2), 2), (40, .ireturn, 1)]
theorem cdX0_tellRoad_0_ok : ∀ x ∈ cdX0_tellRoad_0, decode prog_2_method_33_code x.1 = .ok x.2 := by decide +kernel
def cdX0_tellRoad : List (Nat × Instr × Nat) := cdX0_tellRoad_0
theorem cdX0_tellRoad_ok : ∀ x ∈ cdX0_tellRoad, decode prog_2_method_33_code x.1 = .ok x.2 := fun x h => cdX0_tellRoad_0_ok x h
def qX0_tellRoad : MI := (RX0, yX0_tellRoad, prog_2_method_33_code, 2, some .int, cdX0_tellRoad, flX0, [], 1, 21)
theorem qX0_tellRoad_ok : MOk qX0_tellRoad := ⟨cdX0_tellRoad_ok, flX0_ok, fun _ h => absurd h List.not_mem_nil, tw519, tw3, by decide +kernel, rfl, by decide +kernel, by decide +kernel⟩
def yX0_copyFrom : MethodName := ⟨RX0, "copyFrom", "(LRoadTrace$Net;)V"⟩
def cdX0_copyFrom_0 : List (Nat × Instr × Nat) := [(0, .aload_n 0, 1), (1, .aload_n 1, 1), (2, .getfield 33, 3), (5, .putfield 33, 3), (8, .aload_n 0, 1), (9, .aload_n 1, 1), (10, .getfield 37, 3), (13, .putfield 37, 3), (16, .aload_n 1, 1), (17, .getfield 9, 3), (20, .iconst 0, 1), (21, .aload_n 0, 1), (22, .getfield 9, 3), (25, .iconst 0, 1), (26, .bipush 12, 2), (28, .invokestatic 121, 3), (31, .aload_n 1, 1), (32, .getfield 15, 3), (35, .iconst 0, 1), (36, .aload_n 0, 1), (37, .getfield 15, 3), (40, .iconst 0, 1), (41, .bipush 12, 2), (43, .invokestatic 121, 3), (46, .aload_n 1, 1), (47, .getfield 18, 3), (50, .iconst 0, 1), (51, .aload_n 0, 1), (52, .getfield 18, 3), (55, .iconst 0, 1), (56, .bipush 20, 2), (58, .invokestatic 121, 3), (61, .aload_n 1, 1), (62, .getfield 21, 3), (65, .iconst 0, 1), (66, .aload_n 0, 1), (67, .getfield 21, 3), (70, .iconst 0, 1), (71, .bipush 20, 2), (73, .invokestatic 121, 3), (76, .aload_n 1, 1), (77, .getfield 24, 3), (80, .iconst 0, 1), (81, .aload_n 0, 1), (82, .getfield 24, 3), (85, .iconst 0, 1), (86, .bipush 20, 2), (88, .invokestatic 121, 3), (91, .aload_n 1, 1), (92, .getfield 27, 3), (95, .iconst 0, 1), (96, .aload_n 0, 1), (97, .getfield 27, 3), (100, .iconst 0, 1), (101, .bipush 20, 2), (103, .invokestatic 121, 3), (106, .aload_n 1, 1), (107, .getfield 30, 3), (110, .iconst 0, 1), (111, .aload_n 0, 1)]
theorem cdX0_copyFrom_0_ok : ∀ x ∈ cdX0_copyFrom_0, decode prog_2_method_34_code x.1 = .ok x.2 := by decide +kernel
def cdX0_copyFrom_1 : List (Nat × Instr × Nat) := [(112, .getfield 30, 3), (115, .iconst 0, 1), (116, .sipush 144, 3), (119, .invokestatic 121, 3), (122, .return_, 1)]
theorem cdX0_copyFrom_1_ok : ∀ x ∈ cdX0_copyFrom_1, decode prog_2_method_34_code x.1 = .ok x.2 := by decide +kernel
def cdX0_copyFrom : List (Nat × Instr × Nat) := cdX0_copyFrom_0 ++ (cdX0_copyFrom_1)
theorem cdX0_copyFrom_ok : ∀ x ∈ cdX0_copyFrom, decode prog_2_method_34_code x.1 = .ok x.2 := fun x h => (List.mem_append.mp h).elim (fun h => cdX0_copyFrom_0_ok x h) (fun h => cdX0_copyFrom_1_ok x h)
def qX0_copyFrom : MI := (RX0, yX0_copyFrom, prog_2_method_34_code, 2, none, cdX0_copyFrom, flX0, [], 1, 64)
theorem qX0_copyFrom_ok : MOk qX0_copyFrom := ⟨cdX0_copyFrom_ok, flX0_ok, fun _ h => absurd h List.not_mem_nil, tw482, tw3, by decide +kernel, rfl, by decide +kernel, by decide +kernel⟩
def yX1_allows : MethodName := ⟨RX1, "allows", "(II)Z"⟩
def cdX1_allows_0 : List (Nat × Instr × Nat) := [(0, .iload_n 1, 1), (1, .ifCond .lt 25, 3), (4, .iload_n 1, 1), (5, .iconst 4, 1), (6, .if_icmp .ge 20, 3), (9, .iload_n 2, 1), (10, .ifCond .lt 16, 3), (13, .iload_n 2, 1), (14, .getstatic 15, 3), (17, .iload_n 1, 1), (18, .iaload, 1), (19, .if_icmp .gt 7, 3), (22, .iconst 1, 1), (23, .goto 4, 3), (26, .iconst 0, 1), (27, .ireturn, 1)]
theorem cdX1_allows_0_ok : ∀ x ∈ cdX1_allows_0, decode prog_3_method_2_code x.1 = .ok x.2 := by decide +kernel
def cdX1_allows : List (Nat × Instr × Nat) := cdX1_allows_0
theorem cdX1_allows_ok : ∀ x ∈ cdX1_allows, decode prog_3_method_2_code x.1 = .ok x.2 := fun x h => cdX1_allows_0_ok x h
def qX1_allows : MI := (RX1, yX1_allows, prog_3_method_2_code, 3, some .boolean, cdX1_allows, flX1, [], 0, 0)
theorem qX1_allows_ok : MOk qX1_allows := ⟨cdX1_allows_ok, flX1_ok, fun _ h => absurd h List.not_mem_nil, tw205, tw4, by decide +kernel, rfl, by decide +kernel, by decide +kernel⟩
def yX1_change : MethodName := ⟨RX1, "change", "(II)I"⟩
def cdX1_change_0 : List (Nat × Instr × Nat) := [(0, .iload_n 1, 1), (1, .ifCond .lt 8, 3), (4, .iload_n 1, 1), (5, .iconst 4, 1), (6, .if_icmp .lt 6, 3), (9, .bipush (-2), 2), (11, .ireturn, 1), (12, .aload_n 0, 1), (13, .getfield 9, 3), (16, .iload_n 1, 1), (17, .iaload, 1), (18, .istore_n 3, 1), (19, .aload_n 0, 1), (20, .getfield 9, 3), (23, .iload_n 1, 1), (24, .iload_n 2, 1), (25, .iastore, 1), (26, .iload_n 3, 1), (27, .ireturn, 1)]
theorem cdX1_change_0_ok : ∀ x ∈ cdX1_change_0, decode prog_3_method_3_code x.1 = .ok x.2 := by decide +kernel
def cdX1_change : List (Nat × Instr × Nat) := cdX1_change_0
theorem cdX1_change_ok : ∀ x ∈ cdX1_change, decode prog_3_method_3_code x.1 = .ok x.2 := fun x h => cdX1_change_0_ok x h
def qX1_change : MI := (RX1, yX1_change, prog_3_method_3_code, 4, some .int, cdX1_change, flX1, [], 0, 0)
theorem qX1_change_ok : MOk qX1_change := ⟨cdX1_change_ok, flX1_ok, fun _ h => absurd h List.not_mem_nil, tw211, tw4, by decide +kernel, rfl, by decide +kernel, by decide +kernel⟩
def yX1_tellRule : MethodName := ⟨RX1, "tellRule", "(I)I"⟩
def cdX1_tellRule_0 : List (Nat × Instr × Nat) := [(0, .iload_n 1, 1), (1, .ifCond .lt 17, 3), (4, .iload_n 1, 1), (5, .iconst 4, 1), (6, .if_icmp .ge 12, 3), (9, .aload_n 0, 1), (10, .getfield 9, 3), (13, .iload_n 1, 1), (14, .iaload, 1), (15, .goto 5, 3), (18, .bipush (-2), 2), (20, .ireturn, 1)]
theorem cdX1_tellRule_0_ok : ∀ x ∈ cdX1_tellRule_0, decode prog_3_method_4_code x.1 = .ok x.2 := by decide +kernel
def cdX1_tellRule : List (Nat × Instr × Nat) := cdX1_tellRule_0
theorem cdX1_tellRule_ok : ∀ x ∈ cdX1_tellRule, decode prog_3_method_4_code x.1 = .ok x.2 := fun x h => cdX1_tellRule_0_ok x h
def qX1_tellRule : MI := (RX1, yX1_tellRule, prog_3_method_4_code, 2, some .int, cdX1_tellRule, flX1, [], 0, 0)
theorem qX1_tellRule_ok : MOk qX1_tellRule := ⟨cdX1_tellRule_ok, flX1_ok, fun _ h => absurd h List.not_mem_nil, tw511, tw4, by decide +kernel, rfl, by decide +kernel, by decide +kernel⟩
def yX1_copyFrom : MethodName := ⟨RX1, "copyFrom", "(LRoadTrace$Rules;)V"⟩
def cdX1_copyFrom_0 : List (Nat × Instr × Nat) := [(0, .aload_n 1, 1), (1, .getfield 9, 3), (4, .iconst 0, 1), (5, .aload_n 0, 1), (6, .getfield 9, 3), (9, .iconst 0, 1), (10, .iconst 4, 1), (11, .invokestatic 18, 3), (14, .return_, 1)]
theorem cdX1_copyFrom_0_ok : ∀ x ∈ cdX1_copyFrom_0, decode prog_3_method_5_code x.1 = .ok x.2 := by decide +kernel
def cdX1_copyFrom : List (Nat × Instr × Nat) := cdX1_copyFrom_0
theorem cdX1_copyFrom_ok : ∀ x ∈ cdX1_copyFrom, decode prog_3_method_5_code x.1 = .ok x.2 := fun x h => cdX1_copyFrom_0_ok x h
def qX1_copyFrom : MI := (RX1, yX1_copyFrom, prog_3_method_5_code, 2, none, cdX1_copyFrom, flX1, [], 1, 64)
theorem qX1_copyFrom_ok : MOk qX1_copyFrom := ⟨cdX1_copyFrom_ok, flX1_ok, fun _ h => absurd h List.not_mem_nil, tw489, tw4, by decide +kernel, rfl, by decide +kernel, by decide +kernel⟩
def yX2_copyFrom : MethodName := ⟨RX2, "copyFrom", "(LRoadTrace$State;)V"⟩
def cdX2_copyFrom_0 : List (Nat × Instr × Nat) := [(0, .aload_n 0, 1), (1, .getfield 10, 3), (4, .aload_n 1, 1), (5, .getfield 10, 3), (8, .invokevirtual 36, 3), (11, .aload_n 0, 1), (12, .getfield 19, 3), (15, .aload_n 1, 1), (16, .getfield 19, 3), (19, .invokevirtual 40, 3), (22, .aload_n 0, 1), (23, .getfield 28, 3), (26, .aload_n 1, 1), (27, .getfield 28, 3), (30, .invokevirtual 43, 3), (33, .return_, 1)]
theorem cdX2_copyFrom_0_ok : ∀ x ∈ cdX2_copyFrom_0, decode prog_4_method_2_code x.1 = .ok x.2 := by decide +kernel
def cdX2_copyFrom : List (Nat × Instr × Nat) := cdX2_copyFrom_0
theorem cdX2_copyFrom_ok : ∀ x ∈ cdX2_copyFrom, decode prog_4_method_2_code x.1 = .ok x.2 := fun x h => cdX2_copyFrom_0_ok x h
def qX2_copyFrom : MI := (RX2, yX2_copyFrom, prog_4_method_2_code, 2, none, cdX2_copyFrom, flX2, [], 5, 110)
theorem qX2_copyFrom_ok : MOk qX2_copyFrom := ⟨cdX2_copyFrom_ok, flX2_ok, fun _ h => absurd h List.not_mem_nil, tw478, tw2, by decide +kernel, rfl, by decide +kernel, by decide +kernel⟩
def yX3_hasFix : MethodName := ⟨RX3, "hasFix", "(I)Z"⟩
def cdX3_hasFix_0 : List (Nat × Instr × Nat) := [(0, .iload_n 1, 1), (1, .ifCond .lt 15, 3), (4, .iload_n 1, 1), (5, .aload_n 0, 1), (6, .getfield 54, 3), (9, .if_icmp .ge 7, 3), (12, .iconst 1, 1), (13, .goto 4, 3), (16, .iconst 0, 1), (17, .ireturn, 1)]
theorem cdX3_hasFix_0_ok : ∀ x ∈ cdX3_hasFix_0, decode prog_5_method_2_code x.1 = .ok x.2 := by decide +kernel
def cdX3_hasFix : List (Nat × Instr × Nat) := cdX3_hasFix_0
theorem cdX3_hasFix_ok : ∀ x ∈ cdX3_hasFix, decode prog_5_method_2_code x.1 = .ok x.2 := fun x h => cdX3_hasFix_0_ok x h
def qX3_hasFix : MI := (RX3, yX3_hasFix, prog_5_method_2_code, 2, some .boolean, cdX3_hasFix, flX3, [], 0, 0)
theorem qX3_hasFix_ok : MOk qX3_hasFix := ⟨cdX3_hasFix_ok, flX3_ok, fun _ h => absurd h List.not_mem_nil, tw295, tw5, by decide +kernel, rfl, by decide +kernel, by decide +kernel⟩
def yX3_hasCandidate : MethodName := ⟨RX3, "hasCandidate", "(II)Z"⟩
def cdX3_hasCandidate_0 : List (Nat × Instr × Nat) := [(0, .aload_n 0, 1), (1, .iload_n 1, 1), (2, .invokevirtual 58, 3), (5, .ifCond .eq 21, 3), (8, .iload_n 2, 1), (9, .ifCond .lt 17, 3), (12, .iload_n 2, 1), (13, .aload_n 0, 1), (14, .getfield 18, 3), (17, .iload_n 1, 1), (18, .iaload, 1), (19, .if_icmp .ge 7, 3), (22, .iconst 1, 1), (23, .goto 4, 3), (26, .iconst 0, 1), (27, .ireturn, 1)]
theorem cdX3_hasCandidate_0_ok : ∀ x ∈ cdX3_hasCandidate_0, decode prog_5_method_3_code x.1 = .ok x.2 := by decide +kernel
def cdX3_hasCandidate : List (Nat × Instr × Nat) := cdX3_hasCandidate_0
theorem cdX3_hasCandidate_ok : ∀ x ∈ cdX3_hasCandidate, decode prog_5_method_3_code x.1 = .ok x.2 := fun x h => cdX3_hasCandidate_0_ok x h
def qX3_hasCandidate : MI := (RX3, yX3_hasCandidate, prog_5_method_3_code, 3, some .boolean, cdX3_hasCandidate, flX3, [], 1, 21)
theorem qX3_hasCandidate_ok : MOk qX3_hasCandidate := ⟨cdX3_hasCandidate_ok, flX3_ok, fun _ h => absurd h List.not_mem_nil, tw351, tw5, by decide +kernel, rfl, by decide +kernel, by decide +kernel⟩
def yX3_isGap : MethodName := ⟨RX3, "isGap", "(I)Z"⟩
def cdX3_isGap_0 : List (Nat × Instr × Nat) := [(0, .aload_n 0, 1), (1, .iload_n 1, 1), (2, .invokevirtual 58, 3), (5, .ifCond .eq 14, 3), (8, .aload_n 0, 1), (9, .getfield 21, 3), (12, .iload_n 1, 1), (13, .iaload, 1), (14, .bipush (-6), 2), (16, .if_icmp .ne 7, 3), (19, .iconst 1, 1), (20, .goto 4, 3), (23, .iconst 0, 1), (24, .ireturn, 1)]
theorem cdX3_isGap_0_ok : ∀ x ∈ cdX3_isGap_0, decode prog_5_method_4_code x.1 = .ok x.2 := by decide +kernel
def cdX3_isGap : List (Nat × Instr × Nat) := cdX3_isGap_0
theorem cdX3_isGap_ok : ∀ x ∈ cdX3_isGap, decode prog_5_method_4_code x.1 = .ok x.2 := fun x h => cdX3_isGap_0_ok x h
def qX3_isGap : MI := (RX3, yX3_isGap, prog_5_method_4_code, 2, some .boolean, cdX3_isGap, flX3, [], 1, 21)
theorem qX3_isGap_ok : MOk qX3_isGap := ⟨cdX3_isGap_ok, flX3_ok, fun _ h => absurd h List.not_mem_nil, tw291, tw5, by decide +kernel, rfl, by decide +kernel, by decide +kernel⟩
def yX3_slot : MethodName := ⟨RX3, "slot", "(II)I"⟩
def cdX3_slot_0 : List (Nat × Instr × Nat) := [(0, .iload_n 0, 1), (1, .bipush 20, 2), (3, .imul, 1), (4, .iload_n 1, 1), (5, .iadd, 1), (6, .ireturn, 1)]
theorem cdX3_slot_0_ok : ∀ x ∈ cdX3_slot_0, decode prog_5_method_5_code x.1 = .ok x.2 := by decide +kernel
def cdX3_slot : List (Nat × Instr × Nat) := cdX3_slot_0
theorem cdX3_slot_ok : ∀ x ∈ cdX3_slot, decode prog_5_method_5_code x.1 = .ok x.2 := fun x h => cdX3_slot_0_ok x h
def qX3_slot : MI := (RX3, yX3_slot, prog_5_method_5_code, 2, some .int, cdX3_slot, flX3, [], 0, 0)
theorem qX3_slot_ok : MOk qX3_slot := ⟨cdX3_slot_ok, flX3_ok, fun _ h => absurd h List.not_mem_nil, tw321, tw5, by decide +kernel, rfl, by decide +kernel, by decide +kernel⟩
def yX3_addFix : MethodName := ⟨RX3, "addFix", "(II)V"⟩
def cdX3_addFix_0 : List (Nat × Instr × Nat) := [(0, .aload_n 0, 1), (1, .getfield 54, 3), (4, .bipush 16, 2), (6, .if_icmp .lt 4, 3), (9, .return_, 1), (10, .aload_n 0, 1), (11, .invokevirtual 62, 3), (14, .istore_n 3, 1), (15, .aload_n 0, 1), (16, .getfield 54, 3), (19, .istore 4, 2), (21, .aload_n 0, 1), (22, .getfield 9, 3), (25, .iload 4, 2), (27, .iload_n 1, 1), (28, .iastore, 1), (29, .aload_n 0, 1), (30, .getfield 15, 3), (33, .iload 4, 2), (35, .iload_n 2, 1), (36, .iastore, 1), (37, .aload_n 0, 1), (38, .iload 4, 2), (40, .iconst 1, 1), (41, .iadd, 1), (42, .putfield 54, 3), (45, .aload_n 0, 1), (46, .getfield 24, 3), (49, .iload 4, 2), (51, .bipush (-6), 2), (53, .iastore, 1), (54, .aload_n 0, 1), (55, .iload 4, 2), (57, .invokevirtual 66, 3), (60, .aload_n 0, 1), (61, .getfield 18, 3), (64, .iload 4, 2), (66, .iaload, 1), (67, .ifCond .ne 15, 3), (70, .aload_n 0, 1), (71, .getfield 21, 3), (74, .iload 4, 2), (76, .bipush (-6), 2), (78, .iastore, 1), (79, .goto 67, 3), (82, .iload_n 3, 1), (83, .bipush (-6), 2), (85, .if_icmp .ne 13, 3), (88, .aload_n 0, 1), (89, .iload 4, 2), (91, .iconst 0, 1), (92, .invokevirtual 70, 3), (95, .goto 51, 3), (98, .aload_n 0, 1), (99, .iload 4, 2), (101, .iload_n 3, 1), (102, .invokevirtual 74, 3), (105, .ifCond .eq 27, 3), (108, .aload_n 0, 1), (109, .getfield 21, 3)]
theorem cdX3_addFix_0_ok : ∀ x ∈ cdX3_addFix_0, decode prog_5_method_6_code x.1 = .ok x.2 := by decide +kernel
def cdX3_addFix_1 : List (Nat × Instr × Nat) := [(112, .iload 4, 2), (114, .aload_n 0, 1), (115, .getfield 21, 3), (118, .iload_n 3, 1), (119, .iaload, 1), (120, .iastore, 1), (121, .aload_n 0, 1), (122, .getfield 24, 3), (125, .iload 4, 2), (127, .iload_n 3, 1), (128, .iastore, 1), (129, .goto 17, 3), (132, .aload_n 0, 1), (133, .iload 4, 2), (135, .aload_n 0, 1), (136, .getfield 21, 3), (139, .iload_n 3, 1), (140, .iaload, 1), (141, .iconst 1, 1), (142, .iadd, 1), (143, .invokevirtual 70, 3), (146, .aload_n 0, 1), (147, .invokevirtual 78, 3), (150, .return_, 1)]
theorem cdX3_addFix_1_ok : ∀ x ∈ cdX3_addFix_1, decode prog_5_method_6_code x.1 = .ok x.2 := by decide +kernel
def cdX3_addFix : List (Nat × Instr × Nat) := cdX3_addFix_0 ++ (cdX3_addFix_1)
theorem cdX3_addFix_ok : ∀ x ∈ cdX3_addFix, decode prog_5_method_6_code x.1 = .ok x.2 := fun x h => (List.mem_append.mp h).elim (fun h => cdX3_addFix_0_ok x h) (fun h => cdX3_addFix_1_ok x h)
def qX3_addFix : MI := (RX3, yX3_addFix, prog_5_method_6_code, 5, none, cdX3_addFix, flX3, [], 6, 148)
theorem qX3_addFix_ok : MOk qX3_addFix := ⟨cdX3_addFix_ok, flX3_ok, fun _ h => absurd h List.not_mem_nil, tw283, tw5, by decide +kernel, rfl, by decide +kernel, by decide +kernel⟩
def yX3_dropFix : MethodName := ⟨RX3, "dropFix", "()V"⟩
def cdX3_dropFix_0 : List (Nat × Instr × Nat) := [(0, .aload_n 0, 1), (1, .getfield 54, 3), (4, .ifCond .gt 4, 3), (7, .return_, 1), (8, .aload_n 0, 1), (9, .dup, 1), (10, .getfield 54, 3), (13, .iconst 1, 1), (14, .isub, 1), (15, .putfield 54, 3), (18, .aload_n 0, 1), (19, .invokevirtual 78, 3), (22, .return_, 1)]
theorem cdX3_dropFix_0_ok : ∀ x ∈ cdX3_dropFix_0, decode prog_5_method_7_code x.1 = .ok x.2 := by decide +kernel
def cdX3_dropFix : List (Nat × Instr × Nat) := cdX3_dropFix_0
theorem cdX3_dropFix_ok : ∀ x ∈ cdX3_dropFix, decode prog_5_method_7_code x.1 = .ok x.2 := fun x h => cdX3_dropFix_0_ok x h
def qX3_dropFix : MI := (RX3, yX3_dropFix, prog_5_method_7_code, 1, none, cdX3_dropFix, flX3, [], 4, 89)
theorem qX3_dropFix_ok : MOk qX3_dropFix := ⟨cdX3_dropFix_ok, flX3_ok, fun _ h => absurd h List.not_mem_nil, tw377, tw5, by decide +kernel, rfl, by decide +kernel, by decide +kernel⟩
def yX3_lastFixed : MethodName := ⟨RX3, "lastFixed", "()I"⟩
def cdX3_lastFixed_0 : List (Nat × Instr × Nat) := [(0, .aload_n 0, 1), (1, .getfield 54, 3), (4, .iconst 1, 1), (5, .isub, 1), (6, .istore_n 1, 1), (7, .iload_n 1, 1), (8, .ifCond .lt 19, 3), (11, .aload_n 0, 1), (12, .iload_n 1, 1), (13, .invokevirtual 81, 3), (16, .ifCond .ne 5, 3), (19, .iload_n 1, 1), (20, .ireturn, 1), (21, .iinc 1 (-1), 3), (24, .goto (-17), 3), (27, .bipush (-6), 2), (29, .ireturn, 1)]
theorem cdX3_lastFixed_0_ok : ∀ x ∈ cdX3_lastFixed_0, decode prog_5_method_8_code x.1 = .ok x.2 := by decide +kernel
def cdX3_lastFixed : List (Nat × Instr × Nat) := cdX3_lastFixed_0
theorem cdX3_lastFixed_ok : ∀ x ∈ cdX3_lastFixed, decode prog_5_method_8_code x.1 = .ok x.2 := fun x h => cdX3_lastFixed_0_ok x h
def qX3_lastFixed : MI := (RX3, yX3_lastFixed, prog_5_method_8_code, 2, some .int, cdX3_lastFixed, flX3, [], 2, 42)
theorem qX3_lastFixed_ok : MOk qX3_lastFixed := ⟨cdX3_lastFixed_ok, flX3_ok, fun _ h => absurd h List.not_mem_nil, tw287, tw5, by decide +kernel, rfl, by decide +kernel, by decide +kernel⟩
def yX3_findCandidates : MethodName := ⟨RX3, "findCandidates", "(I)V"⟩
def cdX3_findCandidates_0 : List (Nat × Instr × Nat) := [(0, .iconst 0, 1), (1, .istore_n 2, 1), (2, .iconst 0, 1), (3, .istore_n 3, 1), (4, .iload_n 3, 1), (5, .aload_n 0, 1), (6, .getfield 46, 3), (9, .getfield 84, 3), (12, .if_icmp .ge 90, 3), (15, .aload_n 0, 1), (16, .getfield 46, 3), (19, .iload_n 3, 1), (20, .aload_n 0, 1), (21, .getfield 9, 3), (24, .iload_n 1, 1), (25, .iaload, 1), (26, .aload_n 0, 1), (27, .getfield 15, 3), (30, .iload_n 1, 1), (31, .iaload, 1), (32, .invokevirtual 89, 3), (35, .istore 4, 2), (37, .iload 4, 2), (39, .aload_n 0, 1), (40, .getfield 50, 3), (43, .getfield 93, 3), (46, .iconst 0, 1), (47, .iaload, 1), (48, .if_icmp .gt 48, 3), (51, .aload_n 0, 1), (52, .getfield 27, 3), (55, .iload_n 1, 1), (56, .iload_n 2, 1), (57, .invokestatic 98, 3), (60, .aload_n 0, 1), (61, .getfield 46, 3), (64, .iload_n 3, 1), (65, .aload_n 0, 1), (66, .getfield 9, 3), (69, .iload_n 1, 1), (70, .iaload, 1), (71, .aload_n 0, 1), (72, .getfield 15, 3), (75, .iload_n 1, 1), (76, .iaload, 1), (77, .invokevirtual 102, 3), (80, .iastore, 1), (81, .aload_n 0, 1), (82, .getfield 30, 3), (85, .iload_n 1, 1), (86, .iload_n 2, 1), (87, .invokestatic 98, 3), (90, .iload 4, 2), (92, .iastore, 1), (93, .iinc 2 1, 3), (96, .iinc 3 1, 3), (99, .goto (-95), 3), (102, .aload_n 0, 1), (103, .getfield 18, 3), (106, .iload_n 1, 1)]
theorem cdX3_findCandidates_0_ok : ∀ x ∈ cdX3_findCandidates_0, decode prog_5_method_9_code x.1 = .ok x.2 := by decide +kernel
def cdX3_findCandidates_1 : List (Nat × Instr × Nat) := [(107, .iload_n 2, 1), (108, .iastore, 1), (109, .return_, 1)]
theorem cdX3_findCandidates_1_ok : ∀ x ∈ cdX3_findCandidates_1, decode prog_5_method_9_code x.1 = .ok x.2 := by decide +kernel
def cdX3_findCandidates : List (Nat × Instr × Nat) := cdX3_findCandidates_0 ++ (cdX3_findCandidates_1)
theorem cdX3_findCandidates_ok : ∀ x ∈ cdX3_findCandidates, decode prog_5_method_9_code x.1 = .ok x.2 := fun x h => (List.mem_append.mp h).elim (fun h => cdX3_findCandidates_0_ok x h) (fun h => cdX3_findCandidates_1_ok x h)
def qX3_findCandidates : MI := (RX3, yX3_findCandidates, prog_5_method_9_code, 5, none, cdX3_findCandidates, flX3, [], 4, 90)
theorem qX3_findCandidates_ok : MOk qX3_findCandidates := ⟨cdX3_findCandidates_ok, flX3_ok, fun _ h => absurd h List.not_mem_nil, tw299, tw5, by decide +kernel, rfl, by decide +kernel, by decide +kernel⟩
def yX3_beginPiece : MethodName := ⟨RX3, "beginPiece", "(II)V"⟩
def cdX3_beginPiece_0 : List (Nat × Instr × Nat) := [(0, .aload_n 0, 1), (1, .getfield 21, 3), (4, .iload_n 1, 1), (5, .iload_n 2, 1), (6, .iastore, 1), (7, .iconst 0, 1), (8, .istore_n 3, 1), (9, .iload_n 3, 1), (10, .aload_n 0, 1), (11, .getfield 18, 3), (14, .iload_n 1, 1), (15, .iaload, 1), (16, .if_icmp .ge 51, 3), (19, .aload_n 0, 1), (20, .getfield 33, 3), (23, .iload_n 1, 1), (24, .iload_n 3, 1), (25, .invokestatic 98, 3), (28, .aload_n 0, 1), (29, .getfield 50, 3), (32, .getfield 93, 3), (35, .iconst 1, 1), (36, .iaload, 1), (37, .aload_n 0, 1), (38, .getfield 30, 3), (41, .iload_n 1, 1), (42, .iload_n 3, 1), (43, .invokestatic 98, 3), (46, .iaload, 1), (47, .imul, 1), (48, .iastore, 1), (49, .aload_n 0, 1), (50, .getfield 36, 3), (53, .iload_n 1, 1), (54, .iload_n 3, 1), (55, .invokestatic 98, 3), (58, .bipush (-6), 2), (60, .iastore, 1), (61, .iinc 3 1, 3), (64, .goto (-55), 3), (67, .return_, 1)]
theorem cdX3_beginPiece_0_ok : ∀ x ∈ cdX3_beginPiece_0, decode prog_5_method_10_code x.1 = .ok x.2 := by decide +kernel
def cdX3_beginPiece : List (Nat × Instr × Nat) := cdX3_beginPiece_0
theorem cdX3_beginPiece_ok : ∀ x ∈ cdX3_beginPiece, decode prog_5_method_10_code x.1 = .ok x.2 := fun x h => cdX3_beginPiece_0_ok x h
def qX3_beginPiece : MI := (RX3, yX3_beginPiece, prog_5_method_10_code, 4, none, cdX3_beginPiece, flX3, [], 1, 21)
theorem qX3_beginPiece_ok : MOk qX3_beginPiece := ⟨cdX3_beginPiece_ok, flX3_ok, fun _ h => absurd h List.not_mem_nil, tw329, tw5, by decide +kernel, rfl, by decide +kernel, by decide +kernel⟩
def yX3_goesOn : MethodName := ⟨RX3, "goesOn", "(II)Z"⟩
def cdX3_goesOn_0 : List (Nat × Instr × Nat) := [(0, .iconst 0, 1), (1, .istore_n 3, 1), (2, .iconst 0, 1), (3, .istore 4, 2), (5, .iload 4, 2), (7, .aload_n 0, 1), (8, .getfield 18, 3), (11, .iload_n 1, 1), (12, .iaload, 1), (13, .if_icmp .ge 43, 3), (16, .aload_n 0, 1), (17, .iload_n 1, 1), (18, .iload 4, 2), (20, .iload_n 2, 1), (21, .invokevirtual 105, 3), (24, .iload_n 3, 1), (25, .ifCond .ne 19, 3), (28, .aload_n 0, 1), (29, .getfield 33, 3), (32, .iload_n 1, 1), (33, .iload 4, 2), (35, .invokestatic 98, 3), (38, .iaload, 1), (39, .bipush (-6), 2), (41, .if_icmp .eq 7, 3), (44, .iconst 1, 1), (45, .goto 4, 3), (48, .iconst 0, 1), (49, .istore_n 3, 1), (50, .iinc 4 1, 3), (53, .goto (-48), 3), (56, .iload_n 3, 1), (57, .ireturn, 1)]
theorem cdX3_goesOn_0_ok : ∀ x ∈ cdX3_goesOn_0, decode prog_5_method_11_code x.1 = .ok x.2 := by decide +kernel
def cdX3_goesOn : List (Nat × Instr × Nat) := cdX3_goesOn_0
theorem cdX3_goesOn_ok : ∀ x ∈ cdX3_goesOn, decode prog_5_method_11_code x.1 = .ok x.2 := fun x h => cdX3_goesOn_0_ok x h
def qX3_goesOn : MI := (RX3, yX3_goesOn, prog_5_method_11_code, 5, some .boolean, cdX3_goesOn, flX3, [], 5, 124)
theorem qX3_goesOn_ok : MOk qX3_goesOn := ⟨cdX3_goesOn_ok, flX3_ok, fun _ h => absurd h List.not_mem_nil, tw333, tw5, by decide +kernel, rfl, by decide +kernel, by decide +kernel⟩
def yX3_joinCandidate : MethodName := ⟨RX3, "joinCandidate", "(III)V"⟩
def cdX3_joinCandidate_0 : List (Nat × Instr × Nat) := [(0, .aload_n 0, 1), (1, .getfield 9, 3), (4, .iload_n 1, 1), (5, .iaload, 1), (6, .aload_n 0, 1), (7, .getfield 9, 3), (10, .iload_n 3, 1), (11, .iaload, 1), (12, .isub, 1), (13, .invokestatic 109, 3), (16, .aload_n 0, 1), (17, .getfield 15, 3), (20, .iload_n 1, 1), (21, .iaload, 1), (22, .aload_n 0, 1), (23, .getfield 15, 3), (26, .iload_n 3, 1), (27, .iaload, 1), (28, .isub, 1), (29, .invokestatic 109, 3), (32, .iadd, 1), (33, .istore 4, 2), (35, .bipush (-6), 2), (37, .istore 5, 2), (39, .bipush (-6), 2), (41, .istore 6, 2), (43, .iconst 0, 1), (44, .istore 7, 2), (46, .iload 7, 2), (48, .aload_n 0, 1), (49, .getfield 18, 3), (52, .iload_n 3, 1), (53, .iaload, 1), (54, .if_icmp .ge 136, 3), (57, .aload_n 0, 1), (58, .getfield 33, 3), (61, .iload_n 3, 1), (62, .iload 7, 2), (64, .invokestatic 98, 3), (67, .iaload, 1), (68, .istore 8, 2), (70, .iload 8, 2), (72, .bipush (-6), 2), (74, .if_icmp .ne 8, 3), (77, .bipush (-6), 2), (79, .goto 31, 3), (82, .aload_n 0, 1), (83, .getfield 46, 3), (86, .aload_n 0, 1), (87, .getfield 27, 3), (90, .iload_n 3, 1), (91, .iload 7, 2), (93, .invokestatic 98, 3), (96, .iaload, 1), (97, .aload_n 0, 1), (98, .getfield 27, 3), (101, .iload_n 1, 1), (102, .iload_n 2, 1), (103, .invokestatic 98, 3), (106, .iaload, 1)]
theorem cdX3_joinCandidate_0_ok : ∀ x ∈ cdX3_joinCandidate_0, decode prog_5_method_12_code x.1 = .ok x.2 := by decide +kernel
def cdX3_joinCandidate_1 : List (Nat × Instr × Nat) := [(107, .invokevirtual 115, 3), (110, .istore 9, 2), (112, .iload 9, 2), (114, .bipush (-6), 2), (116, .if_icmp .eq 68, 3), (119, .iload 9, 2), (121, .iload 4, 2), (123, .aload_n 0, 1), (124, .getfield 50, 3), (127, .getfield 93, 3), (130, .iconst 3, 1), (131, .iaload, 1), (132, .iadd, 1), (133, .if_icmp .le 6, 3), (136, .goto 48, 3), (139, .iload 8, 2), (141, .aload_n 0, 1), (142, .getfield 50, 3), (145, .getfield 93, 3), (148, .iconst 2, 1), (149, .iaload, 1), (150, .iload 9, 2), (152, .iload 4, 2), (154, .isub, 1), (155, .invokestatic 109, 3), (158, .imul, 1), (159, .iadd, 1), (160, .istore 10, 2), (162, .iload 5, 2), (164, .bipush (-6), 2), (166, .if_icmp .eq 10, 3), (169, .iload 10, 2), (171, .iload 5, 2), (173, .if_icmp .ge 11, 3), (176, .iload 10, 2), (178, .istore 5, 2), (180, .iload 7, 2), (182, .istore 6, 2), (184, .iinc 7 1, 3), (187, .goto (-141), 3), (190, .aload_n 0, 1), (191, .getfield 50, 3), (194, .getfield 93, 3), (197, .iconst 1, 1), (198, .iaload, 1), (199, .aload_n 0, 1), (200, .getfield 30, 3), (203, .iload_n 1, 1), (204, .iload_n 2, 1), (205, .invokestatic 98, 3), (208, .iaload, 1), (209, .imul, 1), (210, .istore 7, 2), (212, .aload_n 0, 1), (213, .getfield 33, 3), (216, .iload_n 1, 1), (217, .iload_n 2, 1), (218, .invokestatic 98, 3), (221, .iload 5, 2), (223, .bipush (-6), 2)]
theorem cdX3_joinCandidate_1_ok : ∀ x ∈ cdX3_joinCandidate_1, decode prog_5_method_12_code x.1 = .ok x.2 := by decide +kernel
def cdX3_joinCandidate_2 : List (Nat × Instr × Nat) := [(225, .if_icmp .ne 8, 3), (228, .bipush (-6), 2), (230, .goto 8, 3), (233, .iload 5, 2), (235, .iload 7, 2), (237, .iadd, 1), (238, .iastore, 1), (239, .aload_n 0, 1), (240, .getfield 36, 3), (243, .iload_n 1, 1), (244, .iload_n 2, 1), (245, .invokestatic 98, 3), (248, .iload 6, 2), (250, .iastore, 1), (251, .return_, 1)]
theorem cdX3_joinCandidate_2_ok : ∀ x ∈ cdX3_joinCandidate_2, decode prog_5_method_12_code x.1 = .ok x.2 := by decide +kernel
def cdX3_joinCandidate : List (Nat × Instr × Nat) := cdX3_joinCandidate_0 ++ (cdX3_joinCandidate_1 ++ (cdX3_joinCandidate_2))
theorem cdX3_joinCandidate_ok : ∀ x ∈ cdX3_joinCandidate, decode prog_5_method_12_code x.1 = .ok x.2 := fun x h => (List.mem_append.mp h).elim (fun h => cdX3_joinCandidate_0_ok x h) (fun h => (List.mem_append.mp h).elim (fun h => cdX3_joinCandidate_1_ok x h) (fun h => cdX3_joinCandidate_2_ok x h))
def qX3_joinCandidate : MI := (RX3, yX3_joinCandidate, prog_5_method_12_code, 11, none, cdX3_joinCandidate, flX3, [], 4, 94)
theorem qX3_joinCandidate_ok : MOk qX3_joinCandidate := ⟨cdX3_joinCandidate_ok, flX3_ok, fun _ h => absurd h List.not_mem_nil, tw337, tw5, by decide +kernel, rfl, by decide +kernel, by decide +kernel⟩
def yX3_tellCandidate : MethodName := ⟨RX3, "tellCandidate", "(III)I"⟩
def cdX3_tellCandidate_0 : List (Nat × Instr × Nat) := [(0, .aload_n 0, 1), (1, .iload_n 1, 1), (2, .iload_n 2, 1), (3, .invokevirtual 118, 3), (6, .ifCond .ne 6, 3), (9, .bipush (-6), 2), (11, .ireturn, 1), (12, .iload_n 3, 1), (13, .tableswitch 60 0 2 #[27, 38, 49], 27), (40, .aload_n 0, 1), (41, .getfield 27, 3), (44, .iload_n 1, 1), (45, .iload_n 2, 1), (46, .invokestatic 98, 3), (49, .iaload, 1), (50, .ireturn, 1), (51, .aload_n 0, 1), (52, .getfield 30, 3), (55, .iload_n 1, 1), (56, .iload_n 2, 1), (57, .invokestatic 98, 3), (60, .iaload, 1), (61, .ireturn, 1), (62, .aload_n 0, 1), (63, .getfield 33, 3), (66, .iload_n 1, 1), (67, .iload_n 2, 1), (68, .invokestatic 98, 3), (71, .iaload, 1), (72, .ireturn, 1), (73, .aload_n 0, 1), (74, .getfield 36, 3), (77, .iload_n 1, 1), (78, .iload_n 2, 1), (79, .invokestatic 98, 3), (82, .iaload, 1), (83, .ireturn, 1)]
theorem cdX3_tellCandidate_0_ok : ∀ x ∈ cdX3_tellCandidate_0, decode prog_5_method_13_code x.1 = .ok x.2 := by decide +kernel
def cdX3_tellCandidate : List (Nat × Instr × Nat) := cdX3_tellCandidate_0
theorem cdX3_tellCandidate_ok : ∀ x ∈ cdX3_tellCandidate, decode prog_5_method_13_code x.1 = .ok x.2 := fun x h => cdX3_tellCandidate_0_ok x h
def qX3_tellCandidate : MI := (RX3, yX3_tellCandidate, prog_5_method_13_code, 4, some .int, cdX3_tellCandidate, flX3, [], 2, 43)
theorem qX3_tellCandidate_ok : MOk qX3_tellCandidate := ⟨cdX3_tellCandidate_ok, flX3_ok, fun _ h => absurd h List.not_mem_nil, tw386, tw5, by decide +kernel, rfl, by decide +kernel, by decide +kernel⟩
def yX3_settle : MethodName := ⟨RX3, "settle", "()V"⟩
def cdX3_settle_0 : List (Nat × Instr × Nat) := [(0, .bipush (-6), 2), (2, .istore_n 1, 1), (3, .iconst 0, 1), (4, .istore_n 2, 1), (5, .iconst 1, 1), (6, .istore_n 3, 1), (7, .aload_n 0, 1), (8, .getfield 54, 3), (11, .iconst 1, 1), (12, .isub, 1), (13, .istore 4, 2), (15, .iload 4, 2), (17, .ifCond .lt 142, 3), (20, .aload_n 0, 1), (21, .iload 4, 2), (23, .invokevirtual 81, 3), (26, .ifCond .eq 23, 3), (29, .aload_n 0, 1), (30, .getfield 39, 3), (33, .iload 4, 2), (35, .bipush (-6), 2), (37, .iastore, 1), (38, .aload_n 0, 1), (39, .getfield 42, 3), (42, .iload 4, 2), (44, .iconst 0, 1), (45, .bastore, 1), (46, .goto 107, 3), (49, .iload_n 1, 1), (50, .bipush (-6), 2), (52, .if_icmp .eq 42, 3), (55, .aload_n 0, 1), (56, .getfield 24, 3), (59, .iload_n 1, 1), (60, .iaload, 1), (61, .iload 4, 2), (63, .if_icmp .ne 31, 3), (66, .aload_n 0, 1), (67, .getfield 39, 3), (70, .iload 4, 2), (72, .aload_n 0, 1), (73, .iload_n 1, 1), (74, .aload_n 0, 1), (75, .getfield 39, 3), (78, .iload_n 1, 1), (79, .iaload, 1), (80, .invokevirtual 121, 3), (83, .iastore, 1), (84, .aload_n 0, 1), (85, .iload_n 1, 1), (86, .iload_n 2, 1), (87, .invokevirtual 124, 3), (90, .istore_n 2, 1), (91, .goto 35, 3), (94, .aload_n 0, 1), (95, .getfield 39, 3), (98, .iload 4, 2), (100, .aload_n 0, 1), (101, .iload 4, 2), (103, .invokevirtual 127, 3)]
theorem cdX3_settle_0_ok : ∀ x ∈ cdX3_settle_0, decode prog_5_method_14_code x.1 = .ok x.2 := by decide +kernel
def cdX3_settle_1 : List (Nat × Instr × Nat) := [(106, .iastore, 1), (107, .aload_n 0, 1), (108, .iload 4, 2), (110, .invokevirtual 130, 3), (113, .istore_n 2, 1), (114, .iload_n 1, 1), (115, .bipush (-6), 2), (117, .if_icmp .ne 7, 3), (120, .iconst 1, 1), (121, .goto 4, 3), (124, .iconst 0, 1), (125, .istore_n 3, 1), (126, .aload_n 0, 1), (127, .getfield 42, 3), (130, .iload 4, 2), (132, .iload_n 3, 1), (133, .ifCond .eq 11, 3), (136, .iload_n 2, 1), (137, .invokestatic 133, 3), (140, .iconst 1, 1), (141, .if_icmp .ne 7, 3), (144, .iconst 1, 1), (145, .goto 4, 3), (148, .iconst 0, 1), (149, .bastore, 1), (150, .iload 4, 2), (152, .istore_n 1, 1), (153, .iinc 4 (-1), 3), (156, .goto (-141), 3), (159, .return_, 1)]
theorem cdX3_settle_1_ok : ∀ x ∈ cdX3_settle_1, decode prog_5_method_14_code x.1 = .ok x.2 := by decide +kernel
def cdX3_settle : List (Nat × Instr × Nat) := cdX3_settle_0 ++ (cdX3_settle_1)
theorem cdX3_settle_ok : ∀ x ∈ cdX3_settle, decode prog_5_method_14_code x.1 = .ok x.2 := fun x h => (List.mem_append.mp h).elim (fun h => cdX3_settle_0_ok x h) (fun h => cdX3_settle_1_ok x h)
def qX3_settle : MI := (RX3, yX3_settle, prog_5_method_14_code, 5, none, cdX3_settle, flX3, [], 3, 65)
theorem qX3_settle_ok : MOk qX3_settle := ⟨cdX3_settle_ok, flX3_ok, fun _ h => absurd h List.not_mem_nil, tw343, tw5, by decide +kernel, rfl, by decide +kernel, by decide +kernel⟩
def yX3_cheapest : MethodName := ⟨RX3, "cheapest", "(I)I"⟩
def cdX3_cheapest_0 : List (Nat × Instr × Nat) := [(0, .bipush (-6), 2), (2, .istore_n 2, 1), (3, .bipush (-6), 2), (5, .istore_n 3, 1), (6, .iconst 0, 1), (7, .istore 4, 2), (9, .iload 4, 2), (11, .aload_n 0, 1), (12, .getfield 18, 3), (15, .iload_n 1, 1), (16, .iaload, 1), (17, .if_icmp .ge 47, 3), (20, .aload_n 0, 1), (21, .getfield 33, 3), (24, .iload_n 1, 1), (25, .iload 4, 2), (27, .invokestatic 98, 3), (30, .iaload, 1), (31, .istore 5, 2), (33, .iload 5, 2), (35, .bipush (-6), 2), (37, .if_icmp .eq 21, 3), (40, .iload_n 3, 1), (41, .bipush (-6), 2), (43, .if_icmp .eq 9, 3), (46, .iload 5, 2), (48, .iload_n 3, 1), (49, .if_icmp .ge 9, 3), (52, .iload 4, 2), (54, .istore_n 2, 1), (55, .iload 5, 2), (57, .istore_n 3, 1), (58, .iinc 4 1, 3), (61, .goto (-52), 3), (64, .iload_n 2, 1), (65, .ireturn, 1)]
theorem cdX3_cheapest_0_ok : ∀ x ∈ cdX3_cheapest_0, decode prog_5_method_15_code x.1 = .ok x.2 := by decide +kernel
def cdX3_cheapest : List (Nat × Instr × Nat) := cdX3_cheapest_0
theorem cdX3_cheapest_ok : ∀ x ∈ cdX3_cheapest, decode prog_5_method_15_code x.1 = .ok x.2 := fun x h => cdX3_cheapest_0_ok x h
def qX3_cheapest : MI := (RX3, yX3_cheapest, prog_5_method_15_code, 6, some .int, cdX3_cheapest, flX3, [], 1, 21)
theorem qX3_cheapest_ok : MOk qX3_cheapest := ⟨cdX3_cheapest_ok, flX3_ok, fun _ h => absurd h List.not_mem_nil, tw359, tw5, by decide +kernel, rfl, by decide +kernel, by decide +kernel⟩
def yX3_backOf : MethodName := ⟨RX3, "backOf", "(II)I"⟩
def cdX3_backOf_0 : List (Nat × Instr × Nat) := [(0, .aload_n 0, 1), (1, .iload_n 1, 1), (2, .iload_n 2, 1), (3, .invokevirtual 118, 3), (6, .ifCond .eq 16, 3), (9, .aload_n 0, 1), (10, .getfield 36, 3), (13, .iload_n 1, 1), (14, .iload_n 2, 1), (15, .invokestatic 98, 3), (18, .iaload, 1), (19, .goto 5, 3), (22, .bipush (-6), 2), (24, .ireturn, 1)]
theorem cdX3_backOf_0_ok : ∀ x ∈ cdX3_backOf_0, decode prog_5_method_16_code x.1 = .ok x.2 := by decide +kernel
def cdX3_backOf : List (Nat × Instr × Nat) := cdX3_backOf_0
theorem cdX3_backOf_ok : ∀ x ∈ cdX3_backOf, decode prog_5_method_16_code x.1 = .ok x.2 := fun x h => cdX3_backOf_0_ok x h
def qX3_backOf : MI := (RX3, yX3_backOf, prog_5_method_16_code, 3, some .int, cdX3_backOf, flX3, [], 2, 43)
theorem qX3_backOf_ok : MOk qX3_backOf := ⟨cdX3_backOf_ok, flX3_ok, fun _ h => absurd h List.not_mem_nil, tw347, tw5, by decide +kernel, rfl, by decide +kernel, by decide +kernel⟩
def yX3_alive : MethodName := ⟨RX3, "alive", "(I)I"⟩
def cdX3_alive_0 : List (Nat × Instr × Nat) := [(0, .iconst 0, 1), (1, .istore_n 2, 1), (2, .iconst 0, 1), (3, .istore_n 3, 1), (4, .iload_n 3, 1), (5, .aload_n 0, 1), (6, .getfield 18, 3), (9, .iload_n 1, 1), (10, .iaload, 1), (11, .if_icmp .ge 30, 3), (14, .aload_n 0, 1), (15, .getfield 33, 3), (18, .iload_n 1, 1), (19, .iload_n 3, 1), (20, .invokestatic 98, 3), (23, .iaload, 1), (24, .bipush (-6), 2), (26, .if_icmp .eq 9, 3), (29, .iload_n 2, 1), (30, .iconst 1, 1), (31, .iload_n 3, 1), (32, .ishl, 1), (33, .ior, 1), (34, .istore_n 2, 1), (35, .iinc 3 1, 3), (38, .goto (-34), 3), (41, .iload_n 2, 1), (42, .ireturn, 1)]
theorem cdX3_alive_0_ok : ∀ x ∈ cdX3_alive_0, decode prog_5_method_17_code x.1 = .ok x.2 := by decide +kernel
def cdX3_alive : List (Nat × Instr × Nat) := cdX3_alive_0
theorem cdX3_alive_ok : ∀ x ∈ cdX3_alive, decode prog_5_method_17_code x.1 = .ok x.2 := fun x h => cdX3_alive_0_ok x h
def qX3_alive : MI := (RX3, yX3_alive, prog_5_method_17_code, 4, some .int, cdX3_alive, flX3, [], 1, 21)
theorem qX3_alive_ok : MOk qX3_alive := ⟨cdX3_alive_ok, flX3_ok, fun _ h => absurd h List.not_mem_nil, tw363, tw5, by decide +kernel, rfl, by decide +kernel, by decide +kernel⟩
def yX3_backsOf : MethodName := ⟨RX3, "backsOf", "(II)I"⟩
def cdX3_backsOf_0 : List (Nat × Instr × Nat) := [(0, .iconst 0, 1), (1, .istore_n 3, 1), (2, .iconst 0, 1), (3, .istore 4, 2), (5, .iload 4, 2), (7, .aload_n 0, 1), (8, .getfield 18, 3), (11, .iload_n 1, 1), (12, .iaload, 1), (13, .if_icmp .ge 49, 3), (16, .iload_n 2, 1), (17, .iload 4, 2), (19, .ishr, 1), (20, .iconst 1, 1), (21, .iand, 1), (22, .iconst 1, 1), (23, .if_icmp .ne 33, 3), (26, .aload_n 0, 1), (27, .getfield 36, 3), (30, .iload_n 1, 1), (31, .iload 4, 2), (33, .invokestatic 98, 3), (36, .iaload, 1), (37, .ifCond .lt 19, 3), (40, .iload_n 3, 1), (41, .iconst 1, 1), (42, .aload_n 0, 1), (43, .getfield 36, 3), (46, .iload_n 1, 1), (47, .iload 4, 2), (49, .invokestatic 98, 3), (52, .iaload, 1), (53, .ishl, 1), (54, .ior, 1), (55, .istore_n 3, 1), (56, .iinc 4 1, 3), (59, .goto (-54), 3), (62, .iload_n 3, 1), (63, .ireturn, 1)]
theorem cdX3_backsOf_0_ok : ∀ x ∈ cdX3_backsOf_0, decode prog_5_method_18_code x.1 = .ok x.2 := by decide +kernel
def cdX3_backsOf : List (Nat × Instr × Nat) := cdX3_backsOf_0
theorem cdX3_backsOf_ok : ∀ x ∈ cdX3_backsOf, decode prog_5_method_18_code x.1 = .ok x.2 := fun x h => cdX3_backsOf_0_ok x h
def qX3_backsOf : MI := (RX3, yX3_backsOf, prog_5_method_18_code, 5, some .int, cdX3_backsOf, flX3, [], 1, 21)
theorem qX3_backsOf_ok : MOk qX3_backsOf := ⟨cdX3_backsOf_ok, flX3_ok, fun _ h => absurd h List.not_mem_nil, tw355, tw5, by decide +kernel, rfl, by decide +kernel, by decide +kernel⟩
def yX3_chosenSpot : MethodName := ⟨RX3, "chosenSpot", "(I)I"⟩
def cdX3_chosenSpot_0 : List (Nat × Instr × Nat) := [(0, .aload_n 0, 1), (1, .iload_n 1, 1), (2, .invokevirtual 58, 3), (5, .ifCond .ne 6, 3), (8, .bipush (-6), 2), (10, .ireturn, 1), (11, .aload_n 0, 1), (12, .getfield 39, 3), (15, .iload_n 1, 1), (16, .iaload, 1), (17, .istore_n 2, 1), (18, .aload_n 0, 1), (19, .iload_n 1, 1), (20, .iload_n 2, 1), (21, .invokevirtual 118, 3), (24, .ifCond .eq 16, 3), (27, .aload_n 0, 1), (28, .getfield 27, 3), (31, .iload_n 1, 1), (32, .iload_n 2, 1), (33, .invokestatic 98, 3), (36, .iaload, 1), (37, .goto 5, 3), (40, .bipush (-6), 2), (42, .ireturn, 1)]
theorem cdX3_chosenSpot_0_ok : ∀ x ∈ cdX3_chosenSpot_0, decode prog_5_method_19_code x.1 = .ok x.2 := by decide +kernel
def cdX3_chosenSpot : List (Nat × Instr × Nat) := cdX3_chosenSpot_0
theorem cdX3_chosenSpot_ok : ∀ x ∈ cdX3_chosenSpot, decode prog_5_method_19_code x.1 = .ok x.2 := fun x h => cdX3_chosenSpot_0_ok x h
def qX3_chosenSpot : MI := (RX3, yX3_chosenSpot, prog_5_method_19_code, 3, some .int, cdX3_chosenSpot, flX3, [], 2, 43)
theorem qX3_chosenSpot_ok : MOk qX3_chosenSpot := ⟨cdX3_chosenSpot_ok, flX3_ok, fun _ h => absurd h List.not_mem_nil, tw394, tw5, by decide +kernel, rfl, by decide +kernel, by decide +kernel⟩
def yX3_stepLength : MethodName := ⟨RX3, "stepLength", "(I)I"⟩
def cdX3_stepLength_0 : List (Nat × Instr × Nat) := [(0, .aload_n 0, 1), (1, .iload_n 1, 1), (2, .invokevirtual 138, 3), (5, .istore_n 2, 1), (6, .iload_n 2, 1), (7, .bipush (-6), 2), (9, .if_icmp .ne 8, 3), (12, .bipush (-6), 2), (14, .goto 16, 3), (17, .aload_n 0, 1), (18, .getfield 46, 3), (21, .iload_n 2, 1), (22, .aload_n 0, 1), (23, .iload_n 1, 1), (24, .invokevirtual 141, 3), (27, .invokevirtual 115, 3), (30, .ireturn, 1)]
theorem cdX3_stepLength_0_ok : ∀ x ∈ cdX3_stepLength_0, decode prog_5_method_20_code x.1 = .ok x.2 := by decide +kernel
def cdX3_stepLength : List (Nat × Instr × Nat) := cdX3_stepLength_0
theorem cdX3_stepLength_ok : ∀ x ∈ cdX3_stepLength, decode prog_5_method_20_code x.1 = .ok x.2 := fun x h => cdX3_stepLength_0_ok x h
def qX3_stepLength : MI := (RX3, yX3_stepLength, prog_5_method_20_code, 3, some .int, cdX3_stepLength, flX3, [], 4, 94)
theorem qX3_stepLength_ok : MOk qX3_stepLength := ⟨cdX3_stepLength_ok, flX3_ok, fun _ h => absurd h List.not_mem_nil, tw410, tw5, by decide +kernel, rfl, by decide +kernel, by decide +kernel⟩
def yX3_stepCrossing : MethodName := ⟨RX3, "stepCrossing", "(II)I"⟩
def cdX3_stepCrossing_0 : List (Nat × Instr × Nat) := [(0, .aload_n 0, 1), (1, .iload_n 1, 1), (2, .invokevirtual 138, 3), (5, .istore_n 3, 1), (6, .iload_n 3, 1), (7, .bipush (-6), 2), (9, .if_icmp .ne 8, 3), (12, .bipush (-6), 2), (14, .goto 17, 3), (17, .aload_n 0, 1), (18, .getfield 46, 3), (21, .iload_n 3, 1), (22, .aload_n 0, 1), (23, .iload_n 1, 1), (24, .invokevirtual 141, 3), (27, .iload_n 2, 1), (28, .invokevirtual 144, 3), (31, .ireturn, 1)]
theorem cdX3_stepCrossing_0_ok : ∀ x ∈ cdX3_stepCrossing_0, decode prog_5_method_21_code x.1 = .ok x.2 := by decide +kernel
def cdX3_stepCrossing : List (Nat × Instr × Nat) := cdX3_stepCrossing_0
theorem cdX3_stepCrossing_ok : ∀ x ∈ cdX3_stepCrossing, decode prog_5_method_21_code x.1 = .ok x.2 := fun x h => cdX3_stepCrossing_0_ok x h
def qX3_stepCrossing : MI := (RX3, yX3_stepCrossing, prog_5_method_21_code, 4, some .int, cdX3_stepCrossing, flX3, [], 6, 145)
theorem qX3_stepCrossing_ok : MOk qX3_stepCrossing := ⟨cdX3_stepCrossing_ok, flX3_ok, fun _ h => absurd h List.not_mem_nil, tw423, tw5, by decide +kernel, rfl, by decide +kernel, by decide +kernel⟩
def yX3_stepStart : MethodName := ⟨RX3, "stepStart", "(I)I"⟩
def cdX3_stepStart_0 : List (Nat × Instr × Nat) := [(0, .aload_n 0, 1), (1, .iload_n 1, 1), (2, .invokevirtual 81, 3), (5, .ifCond .ne 14, 3), (8, .aload_n 0, 1), (9, .getfield 24, 3), (12, .iload_n 1, 1), (13, .iaload, 1), (14, .bipush (-6), 2), (16, .if_icmp .ne 8, 3), (19, .bipush (-6), 2), (21, .goto 13, 3), (24, .aload_n 0, 1), (25, .aload_n 0, 1), (26, .getfield 24, 3), (29, .iload_n 1, 1), (30, .iaload, 1), (31, .invokevirtual 141, 3), (34, .ireturn, 1)]
theorem cdX3_stepStart_0_ok : ∀ x ∈ cdX3_stepStart_0, decode prog_5_method_22_code x.1 = .ok x.2 := by decide +kernel
def cdX3_stepStart : List (Nat × Instr × Nat) := cdX3_stepStart_0
theorem cdX3_stepStart_ok : ∀ x ∈ cdX3_stepStart, decode prog_5_method_22_code x.1 = .ok x.2 := fun x h => cdX3_stepStart_0_ok x h
def qX3_stepStart : MI := (RX3, yX3_stepStart, prog_5_method_22_code, 2, some .int, cdX3_stepStart, flX3, [], 3, 65)
theorem qX3_stepStart_ok : MOk qX3_stepStart := ⟨cdX3_stepStart_ok, flX3_ok, fun _ h => absurd h List.not_mem_nil, tw414, tw5, by decide +kernel, rfl, by decide +kernel, by decide +kernel⟩
def yX3_sumOfCosts : MethodName := ⟨RX3, "sumOfCosts", "()I"⟩
def cdX3_sumOfCosts_0 : List (Nat × Instr × Nat) := [(0, .iconst 0, 1), (1, .istore_n 1, 1), (2, .iconst 0, 1), (3, .istore_n 2, 1), (4, .iload_n 2, 1), (5, .aload_n 0, 1), (6, .getfield 54, 3), (9, .if_icmp .ge 46, 3), (12, .aload_n 0, 1), (13, .getfield 39, 3), (16, .iload_n 2, 1), (17, .iaload, 1), (18, .istore_n 3, 1), (19, .aload_n 0, 1), (20, .iload_n 2, 1), (21, .invokevirtual 147, 3), (24, .ifCond .eq 25, 3), (27, .aload_n 0, 1), (28, .iload_n 2, 1), (29, .iload_n 3, 1), (30, .invokevirtual 118, 3), (33, .ifCond .eq 16, 3), (36, .iload_n 1, 1), (37, .aload_n 0, 1), (38, .getfield 33, 3), (41, .iload_n 2, 1), (42, .iload_n 3, 1), (43, .invokestatic 98, 3), (46, .iaload, 1), (47, .iadd, 1), (48, .istore_n 1, 1), (49, .iinc 2 1, 3), (52, .goto (-48), 3), (55, .iload_n 1, 1), (56, .ireturn, 1)]
theorem cdX3_sumOfCosts_0_ok : ∀ x ∈ cdX3_sumOfCosts_0, decode prog_5_method_23_code x.1 = .ok x.2 := by decide +kernel
def cdX3_sumOfCosts : List (Nat × Instr × Nat) := cdX3_sumOfCosts_0
theorem cdX3_sumOfCosts_ok : ∀ x ∈ cdX3_sumOfCosts, decode prog_5_method_23_code x.1 = .ok x.2 := fun x h => cdX3_sumOfCosts_0_ok x h
def qX3_sumOfCosts : MI := (RX3, yX3_sumOfCosts, prog_5_method_23_code, 4, some .int, cdX3_sumOfCosts, flX3, [], 3, 64)
theorem qX3_sumOfCosts_ok : MOk qX3_sumOfCosts := ⟨cdX3_sumOfCosts_ok, flX3_ok, fun _ h => absurd h List.not_mem_nil, tw449, tw5, by decide +kernel, rfl, by decide +kernel, by decide +kernel⟩
def yX3_endsPiece : MethodName := ⟨RX3, "endsPiece", "(I)Z"⟩
def cdX3_endsPiece_0 : List (Nat × Instr × Nat) := [(0, .iload_n 1, 1), (1, .iconst 1, 1), (2, .iadd, 1), (3, .istore_n 2, 1), (4, .iload_n 2, 1), (5, .aload_n 0, 1), (6, .getfield 54, 3), (9, .if_icmp .ge 21, 3), (12, .aload_n 0, 1), (13, .getfield 24, 3), (16, .iload_n 2, 1), (17, .iaload, 1), (18, .iload_n 1, 1), (19, .if_icmp .ne 5, 3), (22, .iconst 0, 1), (23, .ireturn, 1), (24, .iinc 2 1, 3), (27, .goto (-23), 3), (30, .aload_n 0, 1), (31, .iload_n 1, 1), (32, .invokevirtual 81, 3), (35, .ifCond .ne 7, 3), (38, .iconst 1, 1), (39, .goto 4, 3), (42, .iconst 0, 1), (43, .ireturn, 1)]
theorem cdX3_endsPiece_0_ok : ∀ x ∈ cdX3_endsPiece_0, decode prog_5_method_24_code x.1 = .ok x.2 := by decide +kernel
def cdX3_endsPiece : List (Nat × Instr × Nat) := cdX3_endsPiece_0
theorem cdX3_endsPiece_ok : ∀ x ∈ cdX3_endsPiece, decode prog_5_method_24_code x.1 = .ok x.2 := fun x h => cdX3_endsPiece_0_ok x h
def qX3_endsPiece : MI := (RX3, yX3_endsPiece, prog_5_method_24_code, 3, some .boolean, cdX3_endsPiece, flX3, [], 2, 42)
theorem qX3_endsPiece_ok : MOk qX3_endsPiece := ⟨cdX3_endsPiece_ok, flX3_ok, fun _ h => absurd h List.not_mem_nil, tw453, tw5, by decide +kernel, rfl, by decide +kernel, by decide +kernel⟩
def yX3_countPieces : MethodName := ⟨RX3, "countPieces", "()I"⟩
def cdX3_countPieces_0 : List (Nat × Instr × Nat) := [(0, .aload_n 0, 1), (1, .invokevirtual 62, 3), (4, .istore_n 1, 1), (5, .iload_n 1, 1), (6, .bipush (-6), 2), (8, .if_icmp .ne 7, 3), (11, .iconst 0, 1), (12, .goto 11, 3), (15, .aload_n 0, 1), (16, .getfield 21, 3), (19, .iload_n 1, 1), (20, .iaload, 1), (21, .iconst 1, 1), (22, .iadd, 1), (23, .ireturn, 1)]
theorem cdX3_countPieces_0_ok : ∀ x ∈ cdX3_countPieces_0, decode prog_5_method_25_code x.1 = .ok x.2 := by decide +kernel
def cdX3_countPieces : List (Nat × Instr × Nat) := cdX3_countPieces_0
theorem cdX3_countPieces_ok : ∀ x ∈ cdX3_countPieces, decode prog_5_method_25_code x.1 = .ok x.2 := fun x h => cdX3_countPieces_0_ok x h
def qX3_countPieces : MI := (RX3, yX3_countPieces, prog_5_method_25_code, 2, some .int, cdX3_countPieces, flX3, [], 3, 63)
theorem qX3_countPieces_ok : MOk qX3_countPieces := ⟨cdX3_countPieces_ok, flX3_ok, fun _ h => absurd h List.not_mem_nil, tw457, tw5, by decide +kernel, rfl, by decide +kernel, by decide +kernel⟩
def yX3_countGaps : MethodName := ⟨RX3, "countGaps", "()I"⟩
def cdX3_countGaps_0 : List (Nat × Instr × Nat) := [(0, .iconst 0, 1), (1, .istore_n 1, 1), (2, .iconst 0, 1), (3, .istore_n 2, 1), (4, .iload_n 2, 1), (5, .aload_n 0, 1), (6, .getfield 54, 3), (9, .if_icmp .ge 20, 3), (12, .aload_n 0, 1), (13, .iload_n 2, 1), (14, .invokevirtual 81, 3), (17, .ifCond .eq 6, 3), (20, .iinc 1 1, 3), (23, .iinc 2 1, 3), (26, .goto (-22), 3), (29, .iload_n 1, 1), (30, .ireturn, 1)]
theorem cdX3_countGaps_0_ok : ∀ x ∈ cdX3_countGaps_0, decode prog_5_method_26_code x.1 = .ok x.2 := by decide +kernel
def cdX3_countGaps : List (Nat × Instr × Nat) := cdX3_countGaps_0
theorem cdX3_countGaps_ok : ∀ x ∈ cdX3_countGaps, decode prog_5_method_26_code x.1 = .ok x.2 := fun x h => cdX3_countGaps_0_ok x h
def qX3_countGaps : MI := (RX3, yX3_countGaps, prog_5_method_26_code, 3, some .int, cdX3_countGaps, flX3, [], 2, 42)
theorem qX3_countGaps_ok : MOk qX3_countGaps := ⟨cdX3_countGaps_ok, flX3_ok, fun _ h => absurd h List.not_mem_nil, tw461, tw5, by decide +kernel, rfl, by decide +kernel, by decide +kernel⟩
def yX3_countDecided : MethodName := ⟨RX3, "countDecided", "()I"⟩
def cdX3_countDecided_0 : List (Nat × Instr × Nat) := [(0, .iconst 0, 1), (1, .istore_n 1, 1), (2, .iconst 0, 1), (3, .istore_n 2, 1), (4, .iload_n 2, 1), (5, .aload_n 0, 1), (6, .getfield 54, 3), (9, .if_icmp .ge 21, 3), (12, .aload_n 0, 1), (13, .getfield 42, 3), (16, .iload_n 2, 1), (17, .baload, 1), (18, .ifCond .eq 6, 3), (21, .iinc 1 1, 3), (24, .iinc 2 1, 3), (27, .goto (-23), 3), (30, .iload_n 1, 1), (31, .ireturn, 1)]
theorem cdX3_countDecided_0_ok : ∀ x ∈ cdX3_countDecided_0, decode prog_5_method_27_code x.1 = .ok x.2 := by decide +kernel
def cdX3_countDecided : List (Nat × Instr × Nat) := cdX3_countDecided_0
theorem cdX3_countDecided_ok : ∀ x ∈ cdX3_countDecided, decode prog_5_method_27_code x.1 = .ok x.2 := fun x h => cdX3_countDecided_0_ok x h
def qX3_countDecided : MI := (RX3, yX3_countDecided, prog_5_method_27_code, 3, some .int, cdX3_countDecided, flX3, [], 0, 0)
theorem qX3_countDecided_ok : MOk qX3_countDecided := ⟨cdX3_countDecided_ok, flX3_ok, fun _ h => absurd h List.not_mem_nil, tw465, tw5, by decide +kernel, rfl, by decide +kernel, by decide +kernel⟩
def yX3_sumOfSteps : MethodName := ⟨RX3, "sumOfSteps", "()I"⟩
def cdX3_sumOfSteps_0 : List (Nat × Instr × Nat) := [(0, .iconst 0, 1), (1, .istore_n 1, 1), (2, .iconst 0, 1), (3, .istore_n 2, 1), (4, .iload_n 2, 1), (5, .aload_n 0, 1), (6, .getfield 54, 3), (9, .if_icmp .ge 29, 3), (12, .aload_n 0, 1), (13, .iload_n 2, 1), (14, .invokevirtual 150, 3), (17, .istore_n 3, 1), (18, .iload_n 1, 1), (19, .iload_n 3, 1), (20, .bipush (-6), 2), (22, .if_icmp .ne 7, 3), (25, .iconst 0, 1), (26, .goto 4, 3), (29, .iload_n 3, 1), (30, .iadd, 1), (31, .istore_n 1, 1), (32, .iinc 2 1, 3), (35, .goto (-31), 3), (38, .iload_n 1, 1), (39, .ireturn, 1)]
theorem cdX3_sumOfSteps_0_ok : ∀ x ∈ cdX3_sumOfSteps_0, decode prog_5_method_28_code x.1 = .ok x.2 := by decide +kernel
def cdX3_sumOfSteps : List (Nat × Instr × Nat) := cdX3_sumOfSteps_0
theorem cdX3_sumOfSteps_ok : ∀ x ∈ cdX3_sumOfSteps, decode prog_5_method_28_code x.1 = .ok x.2 := fun x h => cdX3_sumOfSteps_0_ok x h
def qX3_sumOfSteps : MI := (RX3, yX3_sumOfSteps, prog_5_method_28_code, 4, some .int, cdX3_sumOfSteps, flX3, [], 5, 116)
theorem qX3_sumOfSteps_ok : MOk qX3_sumOfSteps := ⟨cdX3_sumOfSteps_ok, flX3_ok, fun _ h => absurd h List.not_mem_nil, tw469, tw5, by decide +kernel, rfl, by decide +kernel, by decide +kernel⟩
def yX3_tellFix : MethodName := ⟨RX3, "tellFix", "(I)I"⟩
def cdX3_tellFix_0 : List (Nat × Instr × Nat) := [(0, .aload_n 0, 1), (1, .iload_n 1, 1), (2, .invokevirtual 58, 3), (5, .ifCond .eq 22, 3), (8, .bipush 100, 2), (10, .aload_n 0, 1), (11, .getfield 9, 3), (14, .iload_n 1, 1), (15, .iaload, 1), (16, .imul, 1), (17, .aload_n 0, 1), (18, .getfield 15, 3), (21, .iload_n 1, 1), (22, .iaload, 1), (23, .iadd, 1), (24, .goto 5, 3), (27, .bipush (-2), 2), (29, .ireturn, 1)]
theorem cdX3_tellFix_0_ok : ∀ x ∈ cdX3_tellFix_0, decode prog_5_method_29_code x.1 = .ok x.2 := by decide +kernel
def cdX3_tellFix : List (Nat × Instr × Nat) := cdX3_tellFix_0
theorem cdX3_tellFix_ok : ∀ x ∈ cdX3_tellFix, decode prog_5_method_29_code x.1 = .ok x.2 := fun x h => cdX3_tellFix_0_ok x h
def qX3_tellFix : MI := (RX3, yX3_tellFix, prog_5_method_29_code, 2, some .int, cdX3_tellFix, flX3, [], 1, 21)
theorem qX3_tellFix_ok : MOk qX3_tellFix := ⟨cdX3_tellFix_ok, flX3_ok, fun _ h => absurd h List.not_mem_nil, tw523, tw5, by decide +kernel, rfl, by decide +kernel, by decide +kernel⟩
def yX3_copyFrom : MethodName := ⟨RX3, "copyFrom", "(LRoadTrace$Trace;)V"⟩
def cdX3_copyFrom_0 : List (Nat × Instr × Nat) := [(0, .aload_n 0, 1), (1, .aload_n 1, 1), (2, .getfield 54, 3), (5, .putfield 54, 3), (8, .aload_n 1, 1), (9, .getfield 9, 3), (12, .iconst 0, 1), (13, .aload_n 0, 1), (14, .getfield 9, 3), (17, .iconst 0, 1), (18, .bipush 16, 2), (20, .invokestatic 153, 3), (23, .aload_n 1, 1), (24, .getfield 15, 3), (27, .iconst 0, 1), (28, .aload_n 0, 1), (29, .getfield 15, 3), (32, .iconst 0, 1), (33, .bipush 16, 2), (35, .invokestatic 153, 3), (38, .aload_n 1, 1), (39, .getfield 18, 3), (42, .iconst 0, 1), (43, .aload_n 0, 1), (44, .getfield 18, 3), (47, .iconst 0, 1), (48, .bipush 16, 2), (50, .invokestatic 153, 3), (53, .aload_n 1, 1), (54, .getfield 21, 3), (57, .iconst 0, 1), (58, .aload_n 0, 1), (59, .getfield 21, 3), (62, .iconst 0, 1), (63, .bipush 16, 2), (65, .invokestatic 153, 3), (68, .aload_n 1, 1), (69, .getfield 24, 3), (72, .iconst 0, 1), (73, .aload_n 0, 1), (74, .getfield 24, 3), (77, .iconst 0, 1), (78, .bipush 16, 2), (80, .invokestatic 153, 3), (83, .aload_n 1, 1), (84, .getfield 27, 3), (87, .iconst 0, 1), (88, .aload_n 0, 1), (89, .getfield 27, 3), (92, .iconst 0, 1), (93, .sipush 320, 3), (96, .invokestatic 153, 3), (99, .aload_n 1, 1), (100, .getfield 30, 3), (103, .iconst 0, 1), (104, .aload_n 0, 1), (105, .getfield 30, 3), (108, .iconst 0, 1), (109, .sipush 320, 3), (112, .invokestatic 153, 3)]
theorem cdX3_copyFrom_0_ok : ∀ x ∈ cdX3_copyFrom_0, decode prog_5_method_30_code x.1 = .ok x.2 := by decide +kernel
def cdX3_copyFrom_1 : List (Nat × Instr × Nat) := [(115, .aload_n 1, 1), (116, .getfield 33, 3), (119, .iconst 0, 1), (120, .aload_n 0, 1), (121, .getfield 33, 3), (124, .iconst 0, 1), (125, .sipush 320, 3), (128, .invokestatic 153, 3), (131, .aload_n 1, 1), (132, .getfield 36, 3), (135, .iconst 0, 1), (136, .aload_n 0, 1), (137, .getfield 36, 3), (140, .iconst 0, 1), (141, .sipush 320, 3), (144, .invokestatic 153, 3), (147, .aload_n 0, 1), (148, .invokevirtual 78, 3), (151, .return_, 1)]
theorem cdX3_copyFrom_1_ok : ∀ x ∈ cdX3_copyFrom_1, decode prog_5_method_30_code x.1 = .ok x.2 := by decide +kernel
def cdX3_copyFrom : List (Nat × Instr × Nat) := cdX3_copyFrom_0 ++ (cdX3_copyFrom_1)
theorem cdX3_copyFrom_ok : ∀ x ∈ cdX3_copyFrom, decode prog_5_method_30_code x.1 = .ok x.2 := fun x h => (List.mem_append.mp h).elim (fun h => cdX3_copyFrom_0_ok x h) (fun h => cdX3_copyFrom_1_ok x h)
def qX3_copyFrom : MI := (RX3, yX3_copyFrom, prog_5_method_30_code, 2, none, cdX3_copyFrom, flX3, [], 4, 89)
theorem qX3_copyFrom_ok : MOk qX3_copyFrom := ⟨cdX3_copyFrom_ok, flX3_ok, fun _ h => absurd h List.not_mem_nil, tw494, tw5, by decide +kernel, rfl, by decide +kernel, by decide +kernel⟩
def yX4_crossing : MethodName := ⟨RX4, "crossing", "(II)I"⟩
def cdX4_crossing_0 : List (Nat × Instr × Nat) := [(0, .iload_n 1, 1), (1, .iload_n 2, 1), (2, .invokestatic 20, 3), (5, .ifCond .ne 6, 3), (8, .bipush (-2), 2), (10, .ireturn, 1), (11, .aload_n 0, 1), (12, .getfield 10, 3), (15, .getfield 24, 3), (18, .getfield 28, 3), (21, .ifCond .le 6, 3), (24, .bipush (-3), 2), (26, .ireturn, 1), (27, .aload_n 0, 1), (28, .getfield 10, 3), (31, .getfield 34, 3), (34, .iload_n 1, 1), (35, .iload_n 2, 1), (36, .invokevirtual 38, 3), (39, .ifCond .eq 6, 3), (42, .bipush (-5), 2), (44, .ireturn, 1), (45, .aload_n 0, 1), (46, .getfield 10, 3), (49, .getfield 34, 3), (52, .getfield 43, 3), (55, .bipush 12, 2), (57, .if_icmp .lt 6, 3), (60, .bipush (-4), 2), (62, .ireturn, 1), (63, .aload_n 0, 1), (64, .getfield 10, 3), (67, .getfield 34, 3), (70, .iload_n 1, 1), (71, .iload_n 2, 1), (72, .invokevirtual 46, 3), (75, .aload_n 0, 1), (76, .getfield 10, 3), (79, .getfield 34, 3), (82, .getfield 43, 3), (85, .ireturn, 1)]
theorem cdX4_crossing_0_ok : ∀ x ∈ cdX4_crossing_0, decode prog_1_method_2_code x.1 = .ok x.2 := by decide +kernel
def cdX4_crossing : List (Nat × Instr × Nat) := cdX4_crossing_0
theorem cdX4_crossing_ok : ∀ x ∈ cdX4_crossing, decode prog_1_method_2_code x.1 = .ok x.2 := fun x h => cdX4_crossing_0_ok x h
def qX4_crossing : MI := (RX4, yX4_crossing, prog_1_method_2_code, 3, some .int, cdX4_crossing, flX4, [], 2, 45)
theorem qX4_crossing_ok : MOk qX4_crossing := ⟨cdX4_crossing_ok, flX4_ok, fun _ h => absurd h List.not_mem_nil, tw155, tw1, by decide +kernel, rfl, by decide +kernel, by decide +kernel⟩
def yX4_road : MethodName := ⟨RX4, "road", "(III)I"⟩
def cdX4_road_0 : List (Nat × Instr × Nat) := [(0, .aload_n 0, 1), (1, .getfield 10, 3), (4, .getfield 34, 3), (7, .astore 4, 2), (9, .aload 4, 2), (11, .iload_n 1, 1), (12, .invokevirtual 50, 3), (15, .ifCond .eq 12, 3), (18, .aload 4, 2), (20, .iload_n 2, 1), (21, .invokevirtual 50, 3), (24, .ifCond .ne 5, 3), (27, .iconst (-1), 1), (28, .ireturn, 1), (29, .iload_n 3, 1), (30, .ifCond .eq 11, 3), (33, .iload_n 3, 1), (34, .iconst 1, 1), (35, .if_icmp .eq 6, 3), (38, .bipush (-2), 2), (40, .ireturn, 1), (41, .aload_n 0, 1), (42, .getfield 10, 3), (45, .getfield 24, 3), (48, .getfield 28, 3), (51, .ifCond .le 6, 3), (54, .bipush (-3), 2), (56, .ireturn, 1), (57, .iload_n 1, 1), (58, .iload_n 2, 1), (59, .if_icmp .eq 23, 3), (62, .aload 4, 2), (64, .iload_n 1, 1), (65, .iload_n 2, 1), (66, .invokevirtual 54, 3), (69, .ifCond .eq 13, 3), (72, .aload 4, 2), (74, .iload_n 1, 1), (75, .iload_n 2, 1), (76, .invokevirtual 57, 3), (79, .ifCond .eq 6, 3), (82, .bipush (-5), 2), (84, .ireturn, 1), (85, .aload 4, 2), (87, .getfield 60, 3), (90, .bipush 20, 2), (92, .if_icmp .lt 6, 3), (95, .bipush (-4), 2), (97, .ireturn, 1), (98, .aload 4, 2), (100, .iload_n 1, 1), (101, .iload_n 2, 1), (102, .iload_n 3, 1), (103, .invokevirtual 63, 3), (106, .aload 4, 2), (108, .getfield 60, 3), (111, .ireturn, 1)]
theorem cdX4_road_0_ok : ∀ x ∈ cdX4_road_0, decode prog_1_method_3_code x.1 = .ok x.2 := by decide +kernel
def cdX4_road : List (Nat × Instr × Nat) := cdX4_road_0
theorem cdX4_road_ok : ∀ x ∈ cdX4_road, decode prog_1_method_3_code x.1 = .ok x.2 := fun x h => cdX4_road_0_ok x h
def qX4_road : MI := (RX4, yX4_road, prog_1_method_3_code, 5, some .int, cdX4_road, flX4, [], 3, 73)
theorem qX4_road_ok : MOk qX4_road := ⟨cdX4_road_ok, flX4_ok, fun _ h => absurd h List.not_mem_nil, tw173, tw1, by decide +kernel, rfl, by decide +kernel, by decide +kernel⟩
def yX4_rule : MethodName := ⟨RX4, "rule", "(II)I"⟩
def cdX4_rule_0 : List (Nat × Instr × Nat) := [(0, .aload_n 0, 1), (1, .getfield 10, 3), (4, .getfield 67, 3), (7, .iload_n 1, 1), (8, .iload_n 2, 1), (9, .invokevirtual 71, 3), (12, .ifCond .ne 6, 3), (15, .bipush (-2), 2), (17, .ireturn, 1), (18, .aload_n 0, 1), (19, .getfield 10, 3), (22, .getfield 24, 3), (25, .getfield 28, 3), (28, .ifCond .le 6, 3), (31, .bipush (-3), 2), (33, .ireturn, 1), (34, .aload_n 0, 1), (35, .getfield 10, 3), (38, .getfield 67, 3), (41, .iload_n 1, 1), (42, .iload_n 2, 1), (43, .invokevirtual 76, 3), (46, .ireturn, 1)]
theorem cdX4_rule_0_ok : ∀ x ∈ cdX4_rule_0, decode prog_1_method_4_code x.1 = .ok x.2 := by decide +kernel
def cdX4_rule : List (Nat × Instr × Nat) := cdX4_rule_0
theorem cdX4_rule_ok : ∀ x ∈ cdX4_rule, decode prog_1_method_4_code x.1 = .ok x.2 := fun x h => cdX4_rule_0_ok x h
def qX4_rule : MI := (RX4, yX4_rule, prog_1_method_4_code, 3, some .int, cdX4_rule, flX4, [], 1, 23)
theorem qX4_rule_ok : MOk qX4_rule := ⟨cdX4_rule_ok, flX4_ok, fun _ h => absurd h List.not_mem_nil, tw201, tw1, by decide +kernel, rfl, by decide +kernel, by decide +kernel⟩
def yX4_cell : MethodName := ⟨RX4, "cell", "(II)I"⟩
def cdX4_cell_0 : List (Nat × Instr × Nat) := [(0, .iload_n 1, 1), (1, .ifCond .lt 19, 3), (4, .iload_n 1, 1), (5, .bipush 8, 2), (7, .if_icmp .ge 13, 3), (10, .iload_n 2, 1), (11, .ifCond .lt 9, 3), (14, .iload_n 2, 1), (15, .bipush 8, 2), (17, .if_icmp .lt 6, 3), (20, .bipush (-2), 2), (22, .ireturn, 1), (23, .aload_n 0, 1), (24, .getfield 10, 3), (27, .getfield 34, 3), (30, .iload_n 1, 1), (31, .iload_n 2, 1), (32, .invokevirtual 80, 3), (35, .ireturn, 1)]
theorem cdX4_cell_0_ok : ∀ x ∈ cdX4_cell_0, decode prog_1_method_5_code x.1 = .ok x.2 := by decide +kernel
def cdX4_cell : List (Nat × Instr × Nat) := cdX4_cell_0
theorem cdX4_cell_ok : ∀ x ∈ cdX4_cell, decode prog_1_method_5_code x.1 = .ok x.2 := fun x h => cdX4_cell_0_ok x h
def qX4_cell : MI := (RX4, yX4_cell, prog_1_method_5_code, 3, some .int, cdX4_cell, flX4, [], 3, 67)
theorem qX4_cell_ok : MOk qX4_cell := ⟨cdX4_cell_ok, flX4_ok, fun _ h => absurd h List.not_mem_nil, tw215, tw1, by decide +kernel, rfl, by decide +kernel, by decide +kernel⟩
def yX4_between : MethodName := ⟨RX4, "between", "(II)I"⟩
def cdX4_between_0 : List (Nat × Instr × Nat) := [(0, .aload_n 0, 1), (1, .getfield 10, 3), (4, .getfield 34, 3), (7, .iload_n 1, 1), (8, .invokevirtual 50, 3), (11, .ifCond .eq 17, 3), (14, .aload_n 0, 1), (15, .getfield 10, 3), (18, .getfield 34, 3), (21, .iload_n 2, 1), (22, .invokevirtual 50, 3), (25, .ifCond .ne 5, 3), (28, .iconst (-1), 1), (29, .ireturn, 1), (30, .aload_n 0, 1), (31, .getfield 10, 3), (34, .getfield 34, 3), (37, .iload_n 1, 1), (38, .iload_n 2, 1), (39, .invokevirtual 83, 3), (42, .ireturn, 1)]
theorem cdX4_between_0_ok : ∀ x ∈ cdX4_between_0, decode prog_1_method_6_code x.1 = .ok x.2 := by decide +kernel
def cdX4_between : List (Nat × Instr × Nat) := cdX4_between_0
theorem cdX4_between_ok : ∀ x ∈ cdX4_between, decode prog_1_method_6_code x.1 = .ok x.2 := fun x h => cdX4_between_0_ok x h
def qX4_between : MI := (RX4, yX4_between, prog_1_method_6_code, 3, some .int, cdX4_between, flX4, [], 2, 43)
theorem qX4_between_ok : MOk qX4_between := ⟨cdX4_between_ok, flX4_ok, fun _ h => absurd h List.not_mem_nil, tw232, tw1, by decide +kernel, rfl, by decide +kernel, by decide +kernel⟩
def yX4_way : MethodName := ⟨RX4, "way", "(II)I"⟩
def cdX4_way_0 : List (Nat × Instr × Nat) := [(0, .aload_n 0, 1), (1, .getfield 10, 3), (4, .getfield 34, 3), (7, .iload_n 1, 1), (8, .invokevirtual 86, 3), (11, .ifCond .eq 17, 3), (14, .aload_n 0, 1), (15, .getfield 10, 3), (18, .getfield 34, 3), (21, .iload_n 2, 1), (22, .invokevirtual 86, 3), (25, .ifCond .ne 5, 3), (28, .iconst (-1), 1), (29, .ireturn, 1), (30, .aload_n 0, 1), (31, .getfield 10, 3), (34, .getfield 34, 3), (37, .iload_n 1, 1), (38, .iload_n 2, 1), (39, .invokevirtual 89, 3), (42, .ireturn, 1)]
theorem cdX4_way_0_ok : ∀ x ∈ cdX4_way_0, decode prog_1_method_7_code x.1 = .ok x.2 := by decide +kernel
def cdX4_way : List (Nat × Instr × Nat) := cdX4_way_0
theorem cdX4_way_ok : ∀ x ∈ cdX4_way, decode prog_1_method_7_code x.1 = .ok x.2 := fun x h => cdX4_way_0_ok x h
def qX4_way : MI := (RX4, yX4_way, prog_1_method_7_code, 3, some .int, cdX4_way, flX4, [], 4, 94)
theorem qX4_way_ok : MOk qX4_way := ⟨cdX4_way_ok, flX4_ok, fun _ h => absurd h List.not_mem_nil, tw240, tw1, by decide +kernel, rfl, by decide +kernel, by decide +kernel⟩
def yX4_fix : MethodName := ⟨RX4, "fix", "(II)I"⟩
def cdX4_fix_0 : List (Nat × Instr × Nat) := [(0, .iload_n 1, 1), (1, .iload_n 2, 1), (2, .invokestatic 20, 3), (5, .ifCond .ne 6, 3), (8, .bipush (-2), 2), (10, .ireturn, 1), (11, .aload_n 0, 1), (12, .getfield 10, 3), (15, .getfield 24, 3), (18, .getfield 28, 3), (21, .bipush 16, 2), (23, .if_icmp .lt 6, 3), (26, .bipush (-4), 2), (28, .ireturn, 1), (29, .aload_n 0, 1), (30, .getfield 10, 3), (33, .getfield 24, 3), (36, .iload_n 1, 1), (37, .iload_n 2, 1), (38, .invokevirtual 92, 3), (41, .aload_n 0, 1), (42, .getfield 10, 3), (45, .getfield 24, 3), (48, .getfield 28, 3), (51, .ireturn, 1)]
theorem cdX4_fix_0_ok : ∀ x ∈ cdX4_fix_0, decode prog_1_method_8_code x.1 = .ok x.2 := by decide +kernel
def cdX4_fix : List (Nat × Instr × Nat) := cdX4_fix_0
theorem cdX4_fix_ok : ∀ x ∈ cdX4_fix, decode prog_1_method_8_code x.1 = .ok x.2 := fun x h => cdX4_fix_0_ok x h
def qX4_fix : MI := (RX4, yX4_fix, prog_1_method_8_code, 3, some .int, cdX4_fix, flX4, [], 7, 172)
theorem qX4_fix_ok : MOk qX4_fix := ⟨cdX4_fix_ok, flX4_ok, fun _ h => absurd h List.not_mem_nil, tw279, tw1, by decide +kernel, rfl, by decide +kernel, by decide +kernel⟩
def yX4_drop : MethodName := ⟨RX4, "drop", "()I"⟩
def cdX4_drop_0 : List (Nat × Instr × Nat) := [(0, .aload_n 0, 1), (1, .getfield 10, 3), (4, .getfield 24, 3), (7, .getfield 28, 3), (10, .ifCond .gt 6, 3), (13, .bipush (-5), 2), (15, .ireturn, 1), (16, .aload_n 0, 1), (17, .getfield 10, 3), (20, .getfield 24, 3), (23, .invokevirtual 95, 3), (26, .aload_n 0, 1), (27, .getfield 10, 3), (30, .getfield 24, 3), (33, .getfield 28, 3), (36, .ireturn, 1)]
theorem cdX4_drop_0_ok : ∀ x ∈ cdX4_drop_0, decode prog_1_method_9_code x.1 = .ok x.2 := by decide +kernel
def cdX4_drop : List (Nat × Instr × Nat) := cdX4_drop_0
theorem cdX4_drop_ok : ∀ x ∈ cdX4_drop, decode prog_1_method_9_code x.1 = .ok x.2 := fun x h => cdX4_drop_0_ok x h
def qX4_drop : MI := (RX4, yX4_drop, prog_1_method_9_code, 1, some .int, cdX4_drop, flX4, [], 5, 109)
theorem qX4_drop_ok : MOk qX4_drop := ⟨cdX4_drop_ok, flX4_ok, fun _ h => absurd h List.not_mem_nil, tw373, tw1, by decide +kernel, rfl, by decide +kernel, by decide +kernel⟩
def yX4_candidate : MethodName := ⟨RX4, "candidate", "(III)I"⟩
def cdX4_candidate_0 : List (Nat × Instr × Nat) := [(0, .aload_n 0, 1), (1, .getfield 10, 3), (4, .getfield 24, 3), (7, .iload_n 1, 1), (8, .invokevirtual 98, 3), (11, .ifCond .ne 5, 3), (14, .iconst (-1), 1), (15, .ireturn, 1), (16, .iload_n 3, 1), (17, .ifCond .lt 8, 3), (20, .iload_n 3, 1), (21, .iconst 3, 1), (22, .if_icmp .le 6, 3), (25, .bipush (-2), 2), (27, .ireturn, 1), (28, .iload_n 2, 1), (29, .iconst (-1), 1), (30, .if_icmp .ne 16, 3), (33, .aload_n 0, 1), (34, .getfield 10, 3), (37, .getfield 24, 3), (40, .getfield 101, 3), (43, .iload_n 1, 1), (44, .iaload, 1), (45, .ireturn, 1), (46, .aload_n 0, 1), (47, .getfield 10, 3), (50, .getfield 24, 3), (53, .iload_n 1, 1), (54, .iload_n 2, 1), (55, .iload_n 3, 1), (56, .invokevirtual 105, 3), (59, .ireturn, 1)]
theorem cdX4_candidate_0_ok : ∀ x ∈ cdX4_candidate_0, decode prog_1_method_10_code x.1 = .ok x.2 := by decide +kernel
def cdX4_candidate : List (Nat × Instr × Nat) := cdX4_candidate_0
theorem cdX4_candidate_ok : ∀ x ∈ cdX4_candidate, decode prog_1_method_10_code x.1 = .ok x.2 := fun x h => cdX4_candidate_0_ok x h
def qX4_candidate : MI := (RX4, yX4_candidate, prog_1_method_10_code, 4, some .int, cdX4_candidate, flX4, [], 3, 66)
theorem qX4_candidate_ok : MOk qX4_candidate := ⟨cdX4_candidate_ok, flX4_ok, fun _ h => absurd h List.not_mem_nil, tw381, tw1, by decide +kernel, rfl, by decide +kernel, by decide +kernel⟩
def yX4_best : MethodName := ⟨RX4, "best", "(I)I"⟩
def cdX4_best_0 : List (Nat × Instr × Nat) := [(0, .aload_n 0, 1), (1, .getfield 10, 3), (4, .getfield 24, 3), (7, .iload_n 1, 1), (8, .invokevirtual 98, 3), (11, .ifCond .ne 5, 3), (14, .iconst (-1), 1), (15, .ireturn, 1), (16, .aload_n 0, 1), (17, .getfield 10, 3), (20, .getfield 24, 3), (23, .iload_n 1, 1), (24, .invokevirtual 109, 3), (27, .ireturn, 1)]
theorem cdX4_best_0_ok : ∀ x ∈ cdX4_best_0, decode prog_1_method_11_code x.1 = .ok x.2 := by decide +kernel
def cdX4_best : List (Nat × Instr × Nat) := cdX4_best_0
theorem cdX4_best_ok : ∀ x ∈ cdX4_best, decode prog_1_method_11_code x.1 = .ok x.2 := fun x h => cdX4_best_0_ok x h
def qX4_best : MI := (RX4, yX4_best, prog_1_method_11_code, 2, some .int, cdX4_best, flX4, [], 3, 65)
theorem qX4_best_ok : MOk qX4_best := ⟨cdX4_best_ok, flX4_ok, fun _ h => absurd h List.not_mem_nil, tw390, tw1, by decide +kernel, rfl, by decide +kernel, by decide +kernel⟩
def yX4_decided : MethodName := ⟨RX4, "decided", "(I)I"⟩
def cdX4_decided_0 : List (Nat × Instr × Nat) := [(0, .aload_n 0, 1), (1, .getfield 10, 3), (4, .getfield 24, 3), (7, .iload_n 1, 1), (8, .invokevirtual 98, 3), (11, .ifCond .ne 5, 3), (14, .iconst (-1), 1), (15, .ireturn, 1), (16, .aload_n 0, 1), (17, .getfield 10, 3), (20, .getfield 24, 3), (23, .getfield 113, 3), (26, .iload_n 1, 1), (27, .baload, 1), (28, .ifCond .eq 17, 3), (31, .aload_n 0, 1), (32, .getfield 10, 3), (35, .getfield 24, 3), (38, .iload_n 1, 1), (39, .invokevirtual 109, 3), (42, .goto 5, 3), (45, .bipush (-6), 2), (47, .ireturn, 1)]
theorem cdX4_decided_0_ok : ∀ x ∈ cdX4_decided_0, decode prog_1_method_12_code x.1 = .ok x.2 := by decide +kernel
def cdX4_decided : List (Nat × Instr × Nat) := cdX4_decided_0
theorem cdX4_decided_ok : ∀ x ∈ cdX4_decided, decode prog_1_method_12_code x.1 = .ok x.2 := fun x h => cdX4_decided_0_ok x h
def qX4_decided : MI := (RX4, yX4_decided, prog_1_method_12_code, 2, some .int, cdX4_decided, flX4, [], 3, 65)
theorem qX4_decided_ok : MOk qX4_decided := ⟨cdX4_decided_ok, flX4_ok, fun _ h => absurd h List.not_mem_nil, tw398, tw1, by decide +kernel, rfl, by decide +kernel, by decide +kernel⟩
def yX4_piece : MethodName := ⟨RX4, "piece", "(I)I"⟩
def cdX4_piece_0 : List (Nat × Instr × Nat) := [(0, .aload_n 0, 1), (1, .getfield 10, 3), (4, .getfield 24, 3), (7, .iload_n 1, 1), (8, .invokevirtual 98, 3), (11, .ifCond .ne 5, 3), (14, .iconst (-1), 1), (15, .ireturn, 1), (16, .aload_n 0, 1), (17, .getfield 10, 3), (20, .getfield 24, 3), (23, .getfield 117, 3), (26, .iload_n 1, 1), (27, .iaload, 1), (28, .ireturn, 1)]
theorem cdX4_piece_0_ok : ∀ x ∈ cdX4_piece_0, decode prog_1_method_13_code x.1 = .ok x.2 := by decide +kernel
def cdX4_piece : List (Nat × Instr × Nat) := cdX4_piece_0
theorem cdX4_piece_ok : ∀ x ∈ cdX4_piece, decode prog_1_method_13_code x.1 = .ok x.2 := fun x h => cdX4_piece_0_ok x h
def qX4_piece : MI := (RX4, yX4_piece, prog_1_method_13_code, 2, some .int, cdX4_piece, flX4, [], 1, 21)
theorem qX4_piece_ok : MOk qX4_piece := ⟨cdX4_piece_ok, flX4_ok, fun _ h => absurd h List.not_mem_nil, tw402, tw1, by decide +kernel, rfl, by decide +kernel, by decide +kernel⟩
def yX4_step : MethodName := ⟨RX4, "step", "(I)I"⟩
def cdX4_step_0 : List (Nat × Instr × Nat) := [(0, .aload_n 0, 1), (1, .getfield 10, 3), (4, .getfield 24, 3), (7, .iload_n 1, 1), (8, .invokevirtual 98, 3), (11, .ifCond .ne 5, 3), (14, .iconst (-1), 1), (15, .ireturn, 1), (16, .aload_n 0, 1), (17, .getfield 10, 3), (20, .getfield 24, 3), (23, .iload_n 1, 1), (24, .invokevirtual 120, 3), (27, .ireturn, 1)]
theorem cdX4_step_0_ok : ∀ x ∈ cdX4_step_0, decode prog_1_method_14_code x.1 = .ok x.2 := by decide +kernel
def cdX4_step : List (Nat × Instr × Nat) := cdX4_step_0
theorem cdX4_step_ok : ∀ x ∈ cdX4_step, decode prog_1_method_14_code x.1 = .ok x.2 := fun x h => cdX4_step_0_ok x h
def qX4_step : MI := (RX4, yX4_step, prog_1_method_14_code, 2, some .int, cdX4_step, flX4, [], 5, 116)
theorem qX4_step_ok : MOk qX4_step := ⟨cdX4_step_ok, flX4_ok, fun _ h => absurd h List.not_mem_nil, tw406, tw1, by decide +kernel, rfl, by decide +kernel, by decide +kernel⟩
def yX4_through : MethodName := ⟨RX4, "through", "(II)I"⟩
def cdX4_through_0 : List (Nat × Instr × Nat) := [(0, .aload_n 0, 1), (1, .getfield 10, 3), (4, .getfield 24, 3), (7, .iload_n 1, 1), (8, .invokevirtual 98, 3), (11, .ifCond .ne 5, 3), (14, .iconst (-1), 1), (15, .ireturn, 1), (16, .aload_n 0, 1), (17, .getfield 10, 3), (20, .getfield 24, 3), (23, .iload_n 1, 1), (24, .iload_n 2, 1), (25, .invokevirtual 123, 3), (28, .ireturn, 1)]
theorem cdX4_through_0_ok : ∀ x ∈ cdX4_through_0, decode prog_1_method_15_code x.1 = .ok x.2 := by decide +kernel
def cdX4_through : List (Nat × Instr × Nat) := cdX4_through_0
theorem cdX4_through_ok : ∀ x ∈ cdX4_through, decode prog_1_method_15_code x.1 = .ok x.2 := fun x h => cdX4_through_0_ok x h
def qX4_through : MI := (RX4, yX4_through, prog_1_method_15_code, 3, some .int, cdX4_through, flX4, [], 7, 168)
theorem qX4_through_ok : MOk qX4_through := ⟨cdX4_through_ok, flX4_ok, fun _ h => absurd h List.not_mem_nil, tw419, tw1, by decide +kernel, rfl, by decide +kernel, by decide +kernel⟩
def yX4_total : MethodName := ⟨RX4, "total", "(I)I"⟩
def cdX4_total_0 : List (Nat × Instr × Nat) := [(0, .iload_n 1, 1), (1, .tableswitch 90 0 4 #[35, 46, 57, 68, 79], 35), (36, .aload_n 0, 1), (37, .getfield 10, 3), (40, .getfield 24, 3), (43, .invokevirtual 126, 3), (46, .ireturn, 1), (47, .aload_n 0, 1), (48, .getfield 10, 3), (51, .getfield 24, 3), (54, .invokevirtual 130, 3), (57, .ireturn, 1), (58, .aload_n 0, 1), (59, .getfield 10, 3), (62, .getfield 24, 3), (65, .invokevirtual 133, 3), (68, .ireturn, 1), (69, .aload_n 0, 1), (70, .getfield 10, 3), (73, .getfield 24, 3), (76, .invokevirtual 136, 3), (79, .ireturn, 1), (80, .aload_n 0, 1), (81, .getfield 10, 3), (84, .getfield 24, 3), (87, .invokevirtual 139, 3), (90, .ireturn, 1), (91, .bipush (-2), 2), (93, .ireturn, 1)]
theorem cdX4_total_0_ok : ∀ x ∈ cdX4_total_0, decode prog_1_method_16_code x.1 = .ok x.2 := by decide +kernel
def cdX4_total : List (Nat × Instr × Nat) := cdX4_total_0
theorem cdX4_total_ok : ∀ x ∈ cdX4_total, decode prog_1_method_16_code x.1 = .ok x.2 := fun x h => cdX4_total_0_ok x h
def qX4_total : MI := (RX4, yX4_total, prog_1_method_16_code, 2, some .int, cdX4_total, flX4, [], 6, 139)
theorem qX4_total_ok : MOk qX4_total := ⟨cdX4_total_ok, flX4_ok, fun _ h => absurd h List.not_mem_nil, tw445, tw1, by decide +kernel, rfl, by decide +kernel, by decide +kernel⟩
def yX4_image : MethodName := ⟨RX4, "image", "(I)I"⟩
def cdX4_image_0 : List (Nat × Instr × Nat) := [(0, .iload_n 1, 1), (1, .ifCond .lt 8, 3), (4, .iload_n 1, 1), (5, .iconst 2, 1), (6, .if_icmp .lt 6, 3), (9, .bipush (-2), 2), (11, .ireturn, 1), (12, .aload_n 0, 1), (13, .getfield 16, 3), (16, .iload_n 1, 1), (17, .aaload, 1), (18, .aload_n 0, 1), (19, .getfield 10, 3), (22, .invokevirtual 142, 3), (25, .aload_n 0, 1), (26, .getfield 16, 3), (29, .iload_n 1, 1), (30, .aaload, 1), (31, .iconst 1, 1), (32, .putfield 146, 3), (35, .iconst 1, 1), (36, .ireturn, 1)]
theorem cdX4_image_0_ok : ∀ x ∈ cdX4_image_0, decode prog_1_method_17_code x.1 = .ok x.2 := by decide +kernel
def cdX4_image : List (Nat × Instr × Nat) := cdX4_image_0
theorem cdX4_image_ok : ∀ x ∈ cdX4_image, decode prog_1_method_17_code x.1 = .ok x.2 := fun x h => cdX4_image_0_ok x h
def qX4_image : MI := (RX4, yX4_image, prog_1_method_17_code, 2, some .int, cdX4_image, flX4, [], 6, 131)
theorem qX4_image_ok : MOk qX4_image := ⟨cdX4_image_ok, flX4_ok, fun _ h => absurd h List.not_mem_nil, tw474, tw1, by decide +kernel, rfl, by decide +kernel, by decide +kernel⟩
def yX4_restore : MethodName := ⟨RX4, "restore", "(I)I"⟩
def cdX4_restore_0 : List (Nat × Instr × Nat) := [(0, .iload_n 1, 1), (1, .ifCond .lt 8, 3), (4, .iload_n 1, 1), (5, .iconst 2, 1), (6, .if_icmp .lt 6, 3), (9, .bipush (-2), 2), (11, .ireturn, 1), (12, .aload_n 0, 1), (13, .getfield 16, 3), (16, .iload_n 1, 1), (17, .aaload, 1), (18, .getfield 146, 3), (21, .ifCond .ne 6, 3), (24, .bipush (-3), 2), (26, .ireturn, 1), (27, .aload_n 0, 1), (28, .getfield 10, 3), (31, .aload_n 0, 1), (32, .getfield 16, 3), (35, .iload_n 1, 1), (36, .aaload, 1), (37, .invokevirtual 142, 3), (40, .iconst 1, 1), (41, .ireturn, 1)]
theorem cdX4_restore_0_ok : ∀ x ∈ cdX4_restore_0, decode prog_1_method_18_code x.1 = .ok x.2 := by decide +kernel
def cdX4_restore : List (Nat × Instr × Nat) := cdX4_restore_0
theorem cdX4_restore_ok : ∀ x ∈ cdX4_restore, decode prog_1_method_18_code x.1 = .ok x.2 := fun x h => cdX4_restore_0_ok x h
def qX4_restore : MI := (RX4, yX4_restore, prog_1_method_18_code, 2, some .int, cdX4_restore, flX4, [], 6, 131)
theorem qX4_restore_ok : MOk qX4_restore := ⟨cdX4_restore_ok, flX4_ok, fun _ h => absurd h List.not_mem_nil, tw499, tw1, by decide +kernel, rfl, by decide +kernel, by decide +kernel⟩
def yX4_told : MethodName := ⟨RX4, "told", "(I)I"⟩
def cdX4_told_0 : List (Nat × Instr × Nat) := [(0, .iload_n 1, 1), (1, .ifCond .ge 6, 3), (4, .bipush (-2), 2), (6, .ireturn, 1), (7, .iload_n 1, 1), (8, .bipush 100, 2), (10, .irem, 1), (11, .istore_n 2, 1), (12, .iload_n 1, 1), (13, .bipush 100, 2), (15, .idiv, 1), (16, .tableswitch 74 0 3 #[32, 38, 50, 62], 32), (48, .aload_n 0, 1), (49, .iload_n 2, 1), (50, .invokevirtual 150, 3), (53, .ireturn, 1), (54, .aload_n 0, 1), (55, .getfield 10, 3), (58, .getfield 34, 3), (61, .iload_n 2, 1), (62, .invokevirtual 153, 3), (65, .ireturn, 1), (66, .aload_n 0, 1), (67, .getfield 10, 3), (70, .getfield 34, 3), (73, .iload_n 2, 1), (74, .invokevirtual 156, 3), (77, .ireturn, 1), (78, .aload_n 0, 1), (79, .getfield 10, 3), (82, .getfield 24, 3), (85, .iload_n 2, 1), (86, .invokevirtual 159, 3), (89, .ireturn, 1), (90, .bipush (-2), 2), (92, .ireturn, 1)]
theorem cdX4_told_0_ok : ∀ x ∈ cdX4_told_0, decode prog_1_method_19_code x.1 = .ok x.2 := by decide +kernel
def cdX4_told : List (Nat × Instr × Nat) := cdX4_told_0
theorem cdX4_told_ok : ∀ x ∈ cdX4_told, decode prog_1_method_19_code x.1 = .ok x.2 := fun x h => cdX4_told_0_ok x h
def qX4_told : MI := (RX4, yX4_told, prog_1_method_19_code, 3, some .int, cdX4_told, flX4, [], 2, 42)
theorem qX4_told_ok : MOk qX4_told := ⟨cdX4_told_ok, flX4_ok, fun _ h => absurd h List.not_mem_nil, tw503, tw1, by decide +kernel, rfl, by decide +kernel, by decide +kernel⟩
def yX4_tellCount : MethodName := ⟨RX4, "tellCount", "(I)I"⟩
def cdX4_tellCount_0 : List (Nat × Instr × Nat) := [(0, .iload_n 1, 1), (1, .tableswitch 60 0 2 #[27, 38, 49], 27), (28, .aload_n 0, 1), (29, .getfield 10, 3), (32, .getfield 34, 3), (35, .getfield 43, 3), (38, .ireturn, 1), (39, .aload_n 0, 1), (40, .getfield 10, 3), (43, .getfield 34, 3), (46, .getfield 60, 3), (49, .ireturn, 1), (50, .aload_n 0, 1), (51, .getfield 10, 3), (54, .getfield 24, 3), (57, .getfield 28, 3), (60, .ireturn, 1), (61, .aload_n 0, 1), (62, .getfield 10, 3), (65, .getfield 67, 3), (68, .iload_n 1, 1), (69, .iconst 3, 1), (70, .isub, 1), (71, .invokevirtual 162, 3), (74, .ireturn, 1)]
theorem cdX4_tellCount_0_ok : ∀ x ∈ cdX4_tellCount_0, decode prog_1_method_20_code x.1 = .ok x.2 := by decide +kernel
def cdX4_tellCount : List (Nat × Instr × Nat) := cdX4_tellCount_0
theorem cdX4_tellCount_ok : ∀ x ∈ cdX4_tellCount, decode prog_1_method_20_code x.1 = .ok x.2 := fun x h => cdX4_tellCount_0_ok x h
def qX4_tellCount : MI := (RX4, yX4_tellCount, prog_1_method_20_code, 2, some .int, cdX4_tellCount, flX4, [], 1, 21)
theorem qX4_tellCount_ok : MOk qX4_tellCount := ⟨cdX4_tellCount_ok, flX4_ok, fun _ h => absurd h List.not_mem_nil, tw507, tw1, by decide +kernel, rfl, by decide +kernel, by decide +kernel⟩
def yX4_isPlace : MethodName := ⟨RX4, "isPlace", "(II)Z"⟩
def cdX4_isPlace_0 : List (Nat × Instr × Nat) := [(0, .iload_n 0, 1), (1, .ifCond .lt 23, 3), (4, .iload_n 0, 1), (5, .bipush 63, 2), (7, .if_icmp .gt 17, 3), (10, .iload_n 1, 1), (11, .ifCond .lt 13, 3), (14, .iload_n 1, 1), (15, .bipush 63, 2), (17, .if_icmp .gt 7, 3), (20, .iconst 1, 1), (21, .goto 4, 3), (24, .iconst 0, 1), (25, .ireturn, 1)]
theorem cdX4_isPlace_0_ok : ∀ x ∈ cdX4_isPlace_0, decode prog_1_method_21_code x.1 = .ok x.2 := by decide +kernel
def cdX4_isPlace : List (Nat × Instr × Nat) := cdX4_isPlace_0
theorem cdX4_isPlace_ok : ∀ x ∈ cdX4_isPlace, decode prog_1_method_21_code x.1 = .ok x.2 := fun x h => cdX4_isPlace_0_ok x h
def qX4_isPlace : MI := (RX4, yX4_isPlace, prog_1_method_21_code, 2, some .boolean, cdX4_isPlace, flX4, [], 0, 0)
theorem qX4_isPlace_ok : MOk qX4_isPlace := ⟨cdX4_isPlace_ok, flX4_ok, fun _ h => absurd h List.not_mem_nil, tw158, tw1, by decide +kernel, rfl, by decide +kernel, by decide +kernel⟩
def yX5_in : MethodName := ⟨RX5, "in", "(III)Z"⟩
def cdX5_in_0 : List (Nat × Instr × Nat) := [(0, .iload_n 0, 1), (1, .iload_n 1, 1), (2, .if_icmp .lt 12, 3), (5, .iload_n 0, 1), (6, .iload_n 2, 1), (7, .if_icmp .gt 7, 3), (10, .iconst 1, 1), (11, .goto 4, 3), (14, .iconst 0, 1), (15, .ireturn, 1)]
theorem cdX5_in_0_ok : ∀ x ∈ cdX5_in_0, decode prog_7_method_2_code x.1 = .ok x.2 := by decide +kernel
def cdX5_in : List (Nat × Instr × Nat) := cdX5_in_0
theorem cdX5_in_ok : ∀ x ∈ cdX5_in, decode prog_7_method_2_code x.1 = .ok x.2 := fun x h => cdX5_in_0_ok x h
def qX5_in : MI := (RX5, yX5_in, prog_7_method_2_code, 3, some .boolean, cdX5_in, flX5, [], 0, 0)
theorem qX5_in_ok : MOk qX5_in := ⟨cdX5_in_ok, flX5_ok, fun _ h => absurd h List.not_mem_nil, tw606, tw6, by decide +kernel, rfl, by decide +kernel, by decide +kernel⟩
def yX5_off : MethodName := ⟨RX5, "off", "(II)I"⟩
def cdX5_off_0 : List (Nat × Instr × Nat) := [(0, .iload_n 0, 1), (1, .iload_n 1, 1), (2, .if_icmp .ge 9, 3), (5, .iload_n 1, 1), (6, .iload_n 0, 1), (7, .isub, 1), (8, .goto 6, 3), (11, .iload_n 0, 1), (12, .iload_n 1, 1), (13, .isub, 1), (14, .ireturn, 1)]
theorem cdX5_off_0_ok : ∀ x ∈ cdX5_off_0, decode prog_7_method_3_code x.1 = .ok x.2 := by decide +kernel
def cdX5_off : List (Nat × Instr × Nat) := cdX5_off_0
theorem cdX5_off_ok : ∀ x ∈ cdX5_off, decode prog_7_method_3_code x.1 = .ok x.2 := fun x h => cdX5_off_0_ok x h
def qX5_off : MI := (RX5, yX5_off, prog_7_method_3_code, 2, some .int, cdX5_off, flX5, [], 0, 0)
theorem qX5_off_ok : MOk qX5_off := ⟨cdX5_off_ok, flX5_ok, fun _ h => absurd h List.not_mem_nil, tw632, tw6, by decide +kernel, rfl, by decide +kernel, by decide +kernel⟩
def yX5_apart : MethodName := ⟨RX5, "apart", "(IIII)I"⟩
def cdX5_apart_0 : List (Nat × Instr × Nat) := [(0, .iload_n 0, 1), (1, .iload_n 2, 1), (2, .invokestatic 68, 3), (5, .iload_n 1, 1), (6, .iload_n 3, 1), (7, .invokestatic 68, 3), (10, .iadd, 1), (11, .ireturn, 1)]
theorem cdX5_apart_0_ok : ∀ x ∈ cdX5_apart_0, decode prog_7_method_4_code x.1 = .ok x.2 := by decide +kernel
def cdX5_apart : List (Nat × Instr × Nat) := cdX5_apart_0
theorem cdX5_apart_ok : ∀ x ∈ cdX5_apart, decode prog_7_method_4_code x.1 = .ok x.2 := fun x h => cdX5_apart_0_ok x h
def qX5_apart : MI := (RX5, yX5_apart, prog_7_method_4_code, 4, some .int, cdX5_apart, flX5, [], 1, 21)
theorem qX5_apart_ok : MOk qX5_apart := ⟨cdX5_apart_ok, flX5_ok, fun _ h => absurd h List.not_mem_nil, tw629, tw6, by decide +kernel, rfl, by decide +kernel, by decide +kernel⟩
def yX5_isCrossing : MethodName := ⟨RX5, "isCrossing", "(I)Z"⟩
def cdX5_isCrossing_0 : List (Nat × Instr × Nat) := [(0, .iload_n 1, 1), (1, .iconst 0, 1), (2, .aload_n 0, 1), (3, .getfield 72, 3), (6, .iconst 1, 1), (7, .isub, 1), (8, .invokestatic 76, 3), (11, .ireturn, 1)]
theorem cdX5_isCrossing_0_ok : ∀ x ∈ cdX5_isCrossing_0, decode prog_7_method_5_code x.1 = .ok x.2 := by decide +kernel
def cdX5_isCrossing : List (Nat × Instr × Nat) := cdX5_isCrossing_0
theorem cdX5_isCrossing_ok : ∀ x ∈ cdX5_isCrossing, decode prog_7_method_5_code x.1 = .ok x.2 := fun x h => cdX5_isCrossing_0_ok x h
def qX5_isCrossing : MI := (RX5, yX5_isCrossing, prog_7_method_5_code, 2, some .boolean, cdX5_isCrossing, flX5, [], 1, 22)
theorem qX5_isCrossing_ok : MOk qX5_isCrossing := ⟨cdX5_isCrossing_ok, flX5_ok, fun _ h => absurd h List.not_mem_nil, tw614, tw6, by decide +kernel, rfl, by decide +kernel, by decide +kernel⟩
def yX5_crossing : MethodName := ⟨RX5, "crossing", "(II)I"⟩
def cdX5_crossing_0 : List (Nat × Instr × Nat) := [(0, .iload_n 1, 1), (1, .iconst 0, 1), (2, .bipush 63, 2), (4, .invokestatic 76, 3), (7, .ifCond .eq 13, 3), (10, .iload_n 2, 1), (11, .iconst 0, 1), (12, .bipush 63, 2), (14, .invokestatic 76, 3), (17, .ifCond .ne 6, 3), (20, .bipush (-2), 2), (22, .ireturn, 1), (23, .aload_n 0, 1), (24, .getfield 80, 3), (27, .ifCond .le 6, 3), (30, .bipush (-3), 2), (32, .ireturn, 1), (33, .iconst 0, 1), (34, .istore_n 3, 1), (35, .iload_n 3, 1), (36, .aload_n 0, 1), (37, .getfield 72, 3), (40, .if_icmp .ge 32, 3), (43, .aload_n 0, 1), (44, .getfield 7, 3), (47, .iload_n 3, 1), (48, .iaload, 1), (49, .iload_n 1, 1), (50, .if_icmp .ne 16, 3), (53, .aload_n 0, 1), (54, .getfield 13, 3), (57, .iload_n 3, 1), (58, .iaload, 1), (59, .iload_n 2, 1), (60, .if_icmp .ne 6, 3), (63, .bipush (-5), 2), (65, .ireturn, 1), (66, .iinc 3 1, 3), (69, .goto (-34), 3), (72, .aload_n 0, 1), (73, .getfield 72, 3), (76, .bipush 12, 2), (78, .if_icmp .ne 6, 3), (81, .bipush (-4), 2), (83, .ireturn, 1), (84, .aload_n 0, 1), (85, .getfield 7, 3), (88, .aload_n 0, 1), (89, .getfield 72, 3), (92, .iload_n 1, 1), (93, .iastore, 1), (94, .aload_n 0, 1), (95, .getfield 13, 3), (98, .aload_n 0, 1), (99, .getfield 72, 3), (102, .iload_n 2, 1), (103, .iastore, 1), (104, .aload_n 0, 1), (105, .dup, 1), (106, .getfield 72, 3)]
theorem cdX5_crossing_0_ok : ∀ x ∈ cdX5_crossing_0, decode prog_7_method_6_code x.1 = .ok x.2 := by decide +kernel
def cdX5_crossing_1 : List (Nat × Instr × Nat) := [(109, .iconst 1, 1), (110, .iadd, 1), (111, .putfield 72, 3), (114, .aload_n 0, 1), (115, .getfield 72, 3), (118, .ireturn, 1)]
theorem cdX5_crossing_1_ok : ∀ x ∈ cdX5_crossing_1, decode prog_7_method_6_code x.1 = .ok x.2 := by decide +kernel
def cdX5_crossing : List (Nat × Instr × Nat) := cdX5_crossing_0 ++ (cdX5_crossing_1)
theorem cdX5_crossing_ok : ∀ x ∈ cdX5_crossing, decode prog_7_method_6_code x.1 = .ok x.2 := fun x h => (List.mem_append.mp h).elim (fun h => cdX5_crossing_0_ok x h) (fun h => cdX5_crossing_1_ok x h)
def qX5_crossing : MI := (RX5, yX5_crossing, prog_7_method_6_code, 4, some .int, cdX5_crossing, flX5, [], 1, 22)
theorem qX5_crossing_ok : MOk qX5_crossing := ⟨cdX5_crossing_ok, flX5_ok, fun _ h => absurd h List.not_mem_nil, tw603, tw6, by decide +kernel, rfl, by decide +kernel, by decide +kernel⟩
def yX5_road : MethodName := ⟨RX5, "road", "(III)I"⟩
def cdX5_road_0 : List (Nat × Instr × Nat) := [(0, .aload_n 0, 1), (1, .iload_n 1, 1), (2, .invokevirtual 83, 3), (5, .ifCond .eq 11, 3), (8, .aload_n 0, 1), (9, .iload_n 2, 1), (10, .invokevirtual 83, 3), (13, .ifCond .ne 5, 3), (16, .iconst (-1), 1), (17, .ireturn, 1), (18, .iload_n 3, 1), (19, .iconst 0, 1), (20, .iconst 1, 1), (21, .invokestatic 76, 3), (24, .ifCond .ne 6, 3), (27, .bipush (-2), 2), (29, .ireturn, 1), (30, .aload_n 0, 1), (31, .getfield 80, 3), (34, .ifCond .le 6, 3), (37, .bipush (-3), 2), (39, .ireturn, 1), (40, .iload_n 1, 1), (41, .iload_n 2, 1), (42, .if_icmp .eq 37, 3), (45, .aload_n 0, 1), (46, .getfield 7, 3), (49, .iload_n 1, 1), (50, .iaload, 1), (51, .aload_n 0, 1), (52, .getfield 7, 3), (55, .iload_n 2, 1), (56, .iaload, 1), (57, .if_icmp .eq 18, 3), (60, .aload_n 0, 1), (61, .getfield 13, 3), (64, .iload_n 1, 1), (65, .iaload, 1), (66, .aload_n 0, 1), (67, .getfield 13, 3), (70, .iload_n 2, 1), (71, .iaload, 1), (72, .if_icmp .ne 7, 3), (75, .iconst 1, 1), (76, .goto 4, 3), (79, .iconst 0, 1), (80, .istore 4, 2), (82, .iconst 0, 1), (83, .istore 5, 2), (85, .iload 5, 2), (87, .aload_n 0, 1), (88, .getfield 87, 3), (91, .if_icmp .ge 65, 3), (94, .iload 4, 2), (96, .ifCond .eq 51, 3), (99, .aload_n 0, 1), (100, .getfield 16, 3), (103, .iload 5, 2), (105, .iaload, 1), (106, .iload_n 1, 1)]
theorem cdX5_road_0_ok : ∀ x ∈ cdX5_road_0, decode prog_7_method_7_code x.1 = .ok x.2 := by decide +kernel
def cdX5_road_1 : List (Nat × Instr × Nat) := [(107, .if_icmp .ne 14, 3), (110, .aload_n 0, 1), (111, .getfield 19, 3), (114, .iload 5, 2), (116, .iaload, 1), (117, .iload_n 2, 1), (118, .if_icmp .eq 29, 3), (121, .aload_n 0, 1), (122, .getfield 16, 3), (125, .iload 5, 2), (127, .iaload, 1), (128, .iload_n 2, 1), (129, .if_icmp .ne 14, 3), (132, .aload_n 0, 1), (133, .getfield 19, 3), (136, .iload 5, 2), (138, .iaload, 1), (139, .iload_n 1, 1), (140, .if_icmp .eq 7, 3), (143, .iconst 1, 1), (144, .goto 4, 3), (147, .iconst 0, 1), (148, .istore 4, 2), (150, .iinc 5 1, 3), (153, .goto (-68), 3), (156, .iload 4, 2), (158, .ifCond .ne 6, 3), (161, .bipush (-5), 2), (163, .ireturn, 1), (164, .aload_n 0, 1), (165, .getfield 87, 3), (168, .bipush 20, 2), (170, .if_icmp .ne 6, 3), (173, .bipush (-4), 2), (175, .ireturn, 1), (176, .aload_n 0, 1), (177, .getfield 16, 3), (180, .aload_n 0, 1), (181, .getfield 87, 3), (184, .iload_n 1, 1), (185, .iastore, 1), (186, .aload_n 0, 1), (187, .getfield 19, 3), (190, .aload_n 0, 1), (191, .getfield 87, 3), (194, .iload_n 2, 1), (195, .iastore, 1), (196, .aload_n 0, 1), (197, .getfield 22, 3), (200, .aload_n 0, 1), (201, .getfield 87, 3), (204, .iload_n 3, 1), (205, .iastore, 1), (206, .aload_n 0, 1), (207, .dup, 1), (208, .getfield 87, 3), (211, .iconst 1, 1), (212, .iadd, 1), (213, .putfield 87, 3), (216, .aload_n 0, 1)]
theorem cdX5_road_1_ok : ∀ x ∈ cdX5_road_1, decode prog_7_method_7_code x.1 = .ok x.2 := by decide +kernel
def cdX5_road_2 : List (Nat × Instr × Nat) := [(217, .getfield 87, 3), (220, .ireturn, 1)]
theorem cdX5_road_2_ok : ∀ x ∈ cdX5_road_2, decode prog_7_method_7_code x.1 = .ok x.2 := by decide +kernel
def cdX5_road : List (Nat × Instr × Nat) := cdX5_road_0 ++ (cdX5_road_1 ++ (cdX5_road_2))
theorem cdX5_road_ok : ∀ x ∈ cdX5_road, decode prog_7_method_7_code x.1 = .ok x.2 := fun x h => (List.mem_append.mp h).elim (fun h => cdX5_road_0_ok x h) (fun h => (List.mem_append.mp h).elim (fun h => cdX5_road_1_ok x h) (fun h => cdX5_road_2_ok x h))
def qX5_road : MI := (RX5, yX5_road, prog_7_method_7_code, 6, some .int, cdX5_road, flX5, [], 2, 43)
theorem qX5_road_ok : MOk qX5_road := ⟨cdX5_road_ok, flX5_ok, fun _ h => absurd h List.not_mem_nil, tw610, tw6, by decide +kernel, rfl, by decide +kernel, by decide +kernel⟩
def yX5_rule : MethodName := ⟨RX5, "rule", "(II)I"⟩
def cdX5_rule_0 : List (Nat × Instr × Nat) := [(0, .iload_n 1, 1), (1, .iconst 0, 1), (2, .iconst 3, 1), (3, .invokestatic 76, 3), (6, .ifCond .eq 32, 3), (9, .iload_n 2, 1), (10, .iconst 0, 1), (11, .iload_n 1, 1), (12, .ifCond .ne 8, 3), (15, .bipush 8, 2), (17, .goto 15, 3), (20, .iload_n 1, 1), (21, .iconst 3, 1), (22, .if_icmp .ne 8, 3), (25, .bipush 99, 2), (27, .goto 5, 3), (30, .bipush 9, 2), (32, .invokestatic 76, 3), (35, .ifCond .ne 6, 3), (38, .bipush (-2), 2), (40, .ireturn, 1), (41, .aload_n 0, 1), (42, .getfield 80, 3), (45, .ifCond .le 6, 3), (48, .bipush (-3), 2), (50, .ireturn, 1), (51, .aload_n 0, 1), (52, .getfield 25, 3), (55, .iload_n 1, 1), (56, .iaload, 1), (57, .istore_n 3, 1), (58, .aload_n 0, 1), (59, .getfield 25, 3), (62, .iload_n 1, 1), (63, .iload_n 2, 1), (64, .iastore, 1), (65, .iload_n 3, 1), (66, .ireturn, 1)]
theorem cdX5_rule_0_ok : ∀ x ∈ cdX5_rule_0, decode prog_7_method_8_code x.1 = .ok x.2 := by decide +kernel
def cdX5_rule : List (Nat × Instr × Nat) := cdX5_rule_0
theorem cdX5_rule_ok : ∀ x ∈ cdX5_rule, decode prog_7_method_8_code x.1 = .ok x.2 := fun x h => cdX5_rule_0_ok x h
def qX5_rule : MI := (RX5, yX5_rule, prog_7_method_8_code, 4, some .int, cdX5_rule, flX5, [], 1, 22)
theorem qX5_rule_ok : MOk qX5_rule := ⟨cdX5_rule_ok, flX5_ok, fun _ h => absurd h List.not_mem_nil, tw618, tw6, by decide +kernel, rfl, by decide +kernel, by decide +kernel⟩
def yX5_length : MethodName := ⟨RX5, "length", "(I)I"⟩
def cdX5_length_0 : List (Nat × Instr × Nat) := [(0, .aload_n 0, 1), (1, .getfield 7, 3), (4, .aload_n 0, 1), (5, .getfield 16, 3), (8, .iload_n 1, 1), (9, .iaload, 1), (10, .iaload, 1), (11, .aload_n 0, 1), (12, .getfield 13, 3), (15, .aload_n 0, 1), (16, .getfield 16, 3), (19, .iload_n 1, 1), (20, .iaload, 1), (21, .iaload, 1), (22, .aload_n 0, 1), (23, .getfield 7, 3), (26, .aload_n 0, 1), (27, .getfield 19, 3), (30, .iload_n 1, 1), (31, .iaload, 1), (32, .iaload, 1), (33, .aload_n 0, 1), (34, .getfield 13, 3), (37, .aload_n 0, 1), (38, .getfield 19, 3), (41, .iload_n 1, 1), (42, .iaload, 1), (43, .iaload, 1), (44, .invokestatic 90, 3), (47, .ireturn, 1)]
theorem cdX5_length_0_ok : ∀ x ∈ cdX5_length_0, decode prog_7_method_9_code x.1 = .ok x.2 := by decide +kernel
def cdX5_length : List (Nat × Instr × Nat) := cdX5_length_0
theorem cdX5_length_ok : ∀ x ∈ cdX5_length, decode prog_7_method_9_code x.1 = .ok x.2 := fun x h => cdX5_length_0_ok x h
def qX5_length : MI := (RX5, yX5_length, prog_7_method_9_code, 2, some .int, cdX5_length, flX5, [], 2, 44)
theorem qX5_length_ok : MOk qX5_length := ⟨cdX5_length_ok, flX5_ok, fun _ h => absurd h List.not_mem_nil, tw626, tw6, by decide +kernel, rfl, by decide +kernel, by decide +kernel⟩
def yX5_towards : MethodName := ⟨RX5, "towards", "(III)I"⟩
def cdX5_towards_0 : List (Nat × Instr × Nat) := [(0, .iload_n 0, 1), (1, .iload_n 1, 1), (2, .if_icmp .ne 7, 3), (5, .iload_n 0, 1), (6, .goto 17, 3), (9, .iload_n 0, 1), (10, .iload_n 1, 1), (11, .if_icmp .ge 9, 3), (14, .iload_n 0, 1), (15, .iload_n 2, 1), (16, .iadd, 1), (17, .goto 6, 3), (20, .iload_n 0, 1), (21, .iload_n 2, 1), (22, .isub, 1), (23, .ireturn, 1)]
theorem cdX5_towards_0_ok : ∀ x ∈ cdX5_towards_0, decode prog_7_method_10_code x.1 = .ok x.2 := by decide +kernel
def cdX5_towards : List (Nat × Instr × Nat) := cdX5_towards_0
theorem cdX5_towards_ok : ∀ x ∈ cdX5_towards, decode prog_7_method_10_code x.1 = .ok x.2 := fun x h => cdX5_towards_0_ok x h
def qX5_towards : MI := (RX5, yX5_towards, prog_7_method_10_code, 3, some .int, cdX5_towards, flX5, [], 0, 0)
theorem qX5_towards_ok : MOk qX5_towards := ⟨cdX5_towards_ok, flX5_ok, fun _ h => absurd h List.not_mem_nil, tw639, tw6, by decide +kernel, rfl, by decide +kernel, by decide +kernel⟩
def yX5_spotX : MethodName := ⟨RX5, "spotX", "(II)I"⟩
def cdX5_spotX_0 : List (Nat × Instr × Nat) := [(0, .aload_n 0, 1), (1, .getfield 7, 3), (4, .aload_n 0, 1), (5, .getfield 16, 3), (8, .iload_n 1, 1), (9, .iaload, 1), (10, .iaload, 1), (11, .aload_n 0, 1), (12, .getfield 7, 3), (15, .aload_n 0, 1), (16, .getfield 19, 3), (19, .iload_n 1, 1), (20, .iaload, 1), (21, .iaload, 1), (22, .iload_n 2, 1), (23, .invokestatic 94, 3), (26, .ireturn, 1)]
theorem cdX5_spotX_0_ok : ∀ x ∈ cdX5_spotX_0, decode prog_7_method_11_code x.1 = .ok x.2 := by decide +kernel
def cdX5_spotX : List (Nat × Instr × Nat) := cdX5_spotX_0
theorem cdX5_spotX_ok : ∀ x ∈ cdX5_spotX, decode prog_7_method_11_code x.1 = .ok x.2 := fun x h => cdX5_spotX_0_ok x h
def qX5_spotX : MI := (RX5, yX5_spotX, prog_7_method_11_code, 3, some .int, cdX5_spotX, flX5, [], 1, 22)
theorem qX5_spotX_ok : MOk qX5_spotX := ⟨cdX5_spotX_ok, flX5_ok, fun _ h => absurd h List.not_mem_nil, tw636, tw6, by decide +kernel, rfl, by decide +kernel, by decide +kernel⟩
def yX5_spotY : MethodName := ⟨RX5, "spotY", "(II)I"⟩
def cdX5_spotY_0 : List (Nat × Instr × Nat) := [(0, .aload_n 0, 1), (1, .getfield 13, 3), (4, .aload_n 0, 1), (5, .getfield 16, 3), (8, .iload_n 1, 1), (9, .iaload, 1), (10, .iaload, 1), (11, .aload_n 0, 1), (12, .getfield 13, 3), (15, .aload_n 0, 1), (16, .getfield 19, 3), (19, .iload_n 1, 1), (20, .iaload, 1), (21, .iaload, 1), (22, .iload_n 2, 1), (23, .invokestatic 94, 3), (26, .ireturn, 1)]
theorem cdX5_spotY_0_ok : ∀ x ∈ cdX5_spotY_0, decode prog_7_method_12_code x.1 = .ok x.2 := by decide +kernel
def cdX5_spotY : List (Nat × Instr × Nat) := cdX5_spotY_0
theorem cdX5_spotY_ok : ∀ x ∈ cdX5_spotY, decode prog_7_method_12_code x.1 = .ok x.2 := fun x h => cdX5_spotY_0_ok x h
def qX5_spotY : MI := (RX5, yX5_spotY, prog_7_method_12_code, 3, some .int, cdX5_spotY, flX5, [], 1, 22)
theorem qX5_spotY_ok : MOk qX5_spotY := ⟨cdX5_spotY_ok, flX5_ok, fun _ h => absurd h List.not_mem_nil, tw643, tw6, by decide +kernel, rfl, by decide +kernel, by decide +kernel⟩
def yX5_cell : MethodName := ⟨RX5, "cell", "(II)I"⟩
def cdX5_cell_0 : List (Nat × Instr × Nat) := [(0, .iload_n 1, 1), (1, .iconst 0, 1), (2, .bipush 7, 2), (4, .invokestatic 76, 3), (7, .ifCond .eq 13, 3), (10, .iload_n 2, 1), (11, .iconst 0, 1), (12, .bipush 7, 2), (14, .invokestatic 76, 3), (17, .ifCond .ne 6, 3), (20, .bipush (-2), 2), (22, .ireturn, 1), (23, .iconst 0, 1), (24, .istore_n 3, 1), (25, .iconst 0, 1), (26, .istore 4, 2), (28, .iload 4, 2), (30, .aload_n 0, 1), (31, .getfield 87, 3), (34, .if_icmp .ge 87, 3), (37, .iconst 0, 1), (38, .istore 5, 2), (40, .iconst 0, 1), (41, .istore 6, 2), (43, .iload 6, 2), (45, .aload_n 0, 1), (46, .iload 4, 2), (48, .invokevirtual 98, 3), (51, .if_icmp .gt 51, 3), (54, .iload 5, 2), (56, .ifCond .ne 33, 3), (59, .aload_n 0, 1), (60, .iload 4, 2), (62, .iload 6, 2), (64, .invokevirtual 102, 3), (67, .bipush 8, 2), (69, .idiv, 1), (70, .iload_n 1, 1), (71, .if_icmp .ne 22, 3), (74, .aload_n 0, 1), (75, .iload 4, 2), (77, .iload 6, 2), (79, .invokevirtual 105, 3), (82, .bipush 8, 2), (84, .idiv, 1), (85, .iload_n 2, 1), (86, .if_icmp .ne 7, 3), (89, .iconst 1, 1), (90, .goto 4, 3), (93, .iconst 0, 1), (94, .istore 5, 2), (96, .iinc 6 1, 3), (99, .goto (-56), 3), (102, .iload_n 3, 1), (103, .iload 5, 2), (105, .ifCond .eq 7, 3), (108, .iconst 1, 1), (109, .goto 4, 3), (112, .iconst 0, 1), (113, .iadd, 1)]
theorem cdX5_cell_0_ok : ∀ x ∈ cdX5_cell_0, decode prog_7_method_13_code x.1 = .ok x.2 := by decide +kernel
def cdX5_cell_1 : List (Nat × Instr × Nat) := [(114, .istore_n 3, 1), (115, .iinc 4 1, 3), (118, .goto (-90), 3), (121, .iload_n 3, 1), (122, .ireturn, 1)]
theorem cdX5_cell_1_ok : ∀ x ∈ cdX5_cell_1, decode prog_7_method_13_code x.1 = .ok x.2 := by decide +kernel
def cdX5_cell : List (Nat × Instr × Nat) := cdX5_cell_0 ++ (cdX5_cell_1)
theorem cdX5_cell_ok : ∀ x ∈ cdX5_cell, decode prog_7_method_13_code x.1 = .ok x.2 := fun x h => (List.mem_append.mp h).elim (fun h => cdX5_cell_0_ok x h) (fun h => cdX5_cell_1_ok x h)
def qX5_cell : MI := (RX5, yX5_cell, prog_7_method_13_code, 7, some .int, cdX5_cell, flX5, [], 3, 65)
theorem qX5_cell_ok : MOk qX5_cell := ⟨cdX5_cell_ok, flX5_ok, fun _ h => absurd h List.not_mem_nil, tw622, tw6, by decide +kernel, rfl, by decide +kernel, by decide +kernel⟩
def yX5_layFar : MethodName := ⟨RX5, "layFar", "()V"⟩
def cdX5_layFar_0 : List (Nat × Instr × Nat) := [(0, .iconst 0, 1), (1, .istore_n 1, 1), (2, .iload_n 1, 1), (3, .aload_n 0, 1), (4, .getfield 72, 3), (7, .if_icmp .ge 47, 3), (10, .iconst 0, 1), (11, .istore_n 2, 1), (12, .iload_n 2, 1), (13, .aload_n 0, 1), (14, .getfield 72, 3), (17, .if_icmp .ge 31, 3), (20, .aload_n 0, 1), (21, .getfield 34, 3), (24, .bipush 12, 2), (26, .iload_n 1, 1), (27, .imul, 1), (28, .iload_n 2, 1), (29, .iadd, 1), (30, .iload_n 1, 1), (31, .iload_n 2, 1), (32, .if_icmp .ne 7, 3), (35, .iconst 0, 1), (36, .goto 5, 3), (39, .ldc 108, 2), (41, .iastore, 1), (42, .iinc 2 1, 3), (45, .goto (-33), 3), (48, .iinc 1 1, 3), (51, .goto (-49), 3), (54, .iconst 0, 1), (55, .istore_n 1, 1), (56, .iload_n 1, 1), (57, .aload_n 0, 1), (58, .getfield 87, 3), (61, .if_icmp .ge 70, 3), (64, .aload_n 0, 1), (65, .getfield 34, 3), (68, .bipush 12, 2), (70, .aload_n 0, 1), (71, .getfield 16, 3), (74, .iload_n 1, 1), (75, .iaload, 1), (76, .imul, 1), (77, .aload_n 0, 1), (78, .getfield 19, 3), (81, .iload_n 1, 1), (82, .iaload, 1), (83, .iadd, 1), (84, .aload_n 0, 1), (85, .iload_n 1, 1), (86, .invokevirtual 98, 3), (89, .iastore, 1), (90, .aload_n 0, 1), (91, .getfield 22, 3), (94, .iload_n 1, 1), (95, .iaload, 1), (96, .ifCond .ne 29, 3), (99, .aload_n 0, 1), (100, .getfield 34, 3)]
theorem cdX5_layFar_0_ok : ∀ x ∈ cdX5_layFar_0, decode prog_7_method_14_code x.1 = .ok x.2 := by decide +kernel
def cdX5_layFar_1 : List (Nat × Instr × Nat) := [(103, .bipush 12, 2), (105, .aload_n 0, 1), (106, .getfield 19, 3), (109, .iload_n 1, 1), (110, .iaload, 1), (111, .imul, 1), (112, .aload_n 0, 1), (113, .getfield 16, 3), (116, .iload_n 1, 1), (117, .iaload, 1), (118, .iadd, 1), (119, .aload_n 0, 1), (120, .iload_n 1, 1), (121, .invokevirtual 98, 3), (124, .iastore, 1), (125, .iinc 1 1, 3), (128, .goto (-72), 3), (131, .iconst 0, 1), (132, .istore_n 1, 1), (133, .iload_n 1, 1), (134, .aload_n 0, 1), (135, .getfield 72, 3), (138, .if_icmp .ge 109, 3), (141, .iconst 0, 1), (142, .istore_n 2, 1), (143, .iload_n 2, 1), (144, .aload_n 0, 1), (145, .getfield 72, 3), (148, .if_icmp .ge 93, 3), (151, .iconst 0, 1), (152, .istore_n 3, 1), (153, .iload_n 3, 1), (154, .aload_n 0, 1), (155, .getfield 72, 3), (158, .if_icmp .ge 77, 3), (161, .aload_n 0, 1), (162, .getfield 34, 3), (165, .bipush 12, 2), (167, .iload_n 2, 1), (168, .imul, 1), (169, .iload_n 1, 1), (170, .iadd, 1), (171, .iaload, 1), (172, .aload_n 0, 1), (173, .getfield 34, 3), (176, .bipush 12, 2), (178, .iload_n 1, 1), (179, .imul, 1), (180, .iload_n 3, 1), (181, .iadd, 1), (182, .iaload, 1), (183, .iadd, 1), (184, .istore 4, 2), (186, .aload_n 0, 1), (187, .getfield 34, 3), (190, .bipush 12, 2), (192, .iload_n 2, 1), (193, .imul, 1), (194, .iload_n 3, 1), (195, .iadd, 1)]
theorem cdX5_layFar_1_ok : ∀ x ∈ cdX5_layFar_1, decode prog_7_method_14_code x.1 = .ok x.2 := by decide +kernel
def cdX5_layFar_2 : List (Nat × Instr × Nat) := [(196, .iload 4, 2), (198, .aload_n 0, 1), (199, .getfield 34, 3), (202, .bipush 12, 2), (204, .iload_n 2, 1), (205, .imul, 1), (206, .iload_n 3, 1), (207, .iadd, 1), (208, .iaload, 1), (209, .if_icmp .ge 8, 3), (212, .iload 4, 2), (214, .goto 14, 3), (217, .aload_n 0, 1), (218, .getfield 34, 3), (221, .bipush 12, 2), (223, .iload_n 2, 1), (224, .imul, 1), (225, .iload_n 3, 1), (226, .iadd, 1), (227, .iaload, 1), (228, .iastore, 1), (229, .iinc 3 1, 3), (232, .goto (-79), 3), (235, .iinc 2 1, 3), (238, .goto (-95), 3), (241, .iinc 1 1, 3), (244, .goto (-111), 3), (247, .return_, 1)]
theorem cdX5_layFar_2_ok : ∀ x ∈ cdX5_layFar_2, decode prog_7_method_14_code x.1 = .ok x.2 := by decide +kernel
def cdX5_layFar : List (Nat × Instr × Nat) := cdX5_layFar_0 ++ (cdX5_layFar_1 ++ (cdX5_layFar_2))
theorem cdX5_layFar_ok : ∀ x ∈ cdX5_layFar, decode prog_7_method_14_code x.1 = .ok x.2 := fun x h => (List.mem_append.mp h).elim (fun h => cdX5_layFar_0_ok x h) (fun h => (List.mem_append.mp h).elim (fun h => cdX5_layFar_1_ok x h) (fun h => cdX5_layFar_2_ok x h))
def qX5_layFar : MI := (RX5, yX5_layFar, prog_7_method_14_code, 5, none, cdX5_layFar, flX5, [(108, 1000000)], 3, 65)
theorem qX5_layFar_ok : MOk qX5_layFar := ⟨cdX5_layFar_ok, flX5_ok, List.forall_mem_cons.mpr ⟨⟨by decide, tw652⟩, fun _ h => absurd h List.not_mem_nil⟩, tw651, tw6, by decide +kernel, rfl, by decide +kernel, by decide +kernel⟩
def yX5_between : MethodName := ⟨RX5, "between", "(II)I"⟩
def cdX5_between_0 : List (Nat × Instr × Nat) := [(0, .aload_n 0, 1), (1, .iload_n 1, 1), (2, .invokevirtual 83, 3), (5, .ifCond .eq 11, 3), (8, .aload_n 0, 1), (9, .iload_n 2, 1), (10, .invokevirtual 83, 3), (13, .ifCond .ne 5, 3), (16, .iconst (-1), 1), (17, .ireturn, 1), (18, .aload_n 0, 1), (19, .invokevirtual 109, 3), (22, .aload_n 0, 1), (23, .getfield 34, 3), (26, .bipush 12, 2), (28, .iload_n 1, 1), (29, .imul, 1), (30, .iload_n 2, 1), (31, .iadd, 1), (32, .iaload, 1), (33, .ldc 108, 2), (35, .if_icmp .ge 17, 3), (38, .aload_n 0, 1), (39, .getfield 34, 3), (42, .bipush 12, 2), (44, .iload_n 1, 1), (45, .imul, 1), (46, .iload_n 2, 1), (47, .iadd, 1), (48, .iaload, 1), (49, .goto 5, 3), (52, .bipush (-6), 2), (54, .ireturn, 1)]
theorem cdX5_between_0_ok : ∀ x ∈ cdX5_between_0, decode prog_7_method_15_code x.1 = .ok x.2 := by decide +kernel
def cdX5_between : List (Nat × Instr × Nat) := cdX5_between_0
theorem cdX5_between_ok : ∀ x ∈ cdX5_between, decode prog_7_method_15_code x.1 = .ok x.2 := fun x h => cdX5_between_0_ok x h
def qX5_between : MI := (RX5, yX5_between, prog_7_method_15_code, 3, some .int, cdX5_between, flX5, [(108, 1000000)], 4, 89)
theorem qX5_between_ok : MOk qX5_between := ⟨cdX5_between_ok, flX5_ok, List.forall_mem_cons.mpr ⟨⟨by decide, tw652⟩, fun _ h => absurd h List.not_mem_nil⟩, tw647, tw6, by decide +kernel, rfl, by decide +kernel, by decide +kernel⟩
def yX5_isSpot : MethodName := ⟨RX5, "isSpot", "(I)Z"⟩
def cdX5_isSpot_0 : List (Nat × Instr × Nat) := [(0, .iload_n 1, 1), (1, .iconst 0, 1), (2, .bipush 100, 2), (4, .aload_n 0, 1), (5, .getfield 87, 3), (8, .imul, 1), (9, .iconst 1, 1), (10, .isub, 1), (11, .invokestatic 76, 3), (14, .ifCond .eq 22, 3), (17, .iload_n 1, 1), (18, .bipush 100, 2), (20, .irem, 1), (21, .aload_n 0, 1), (22, .iload_n 1, 1), (23, .bipush 100, 2), (25, .idiv, 1), (26, .invokevirtual 98, 3), (29, .if_icmp .gt 7, 3), (32, .iconst 1, 1), (33, .goto 4, 3), (36, .iconst 0, 1), (37, .ireturn, 1)]
theorem cdX5_isSpot_0_ok : ∀ x ∈ cdX5_isSpot_0, decode prog_7_method_16_code x.1 = .ok x.2 := by decide +kernel
def cdX5_isSpot : List (Nat × Instr × Nat) := cdX5_isSpot_0
theorem cdX5_isSpot_ok : ∀ x ∈ cdX5_isSpot, decode prog_7_method_16_code x.1 = .ok x.2 := fun x h => cdX5_isSpot_0_ok x h
def qX5_isSpot : MI := (RX5, yX5_isSpot, prog_7_method_16_code, 2, some .boolean, cdX5_isSpot, flX5, [], 3, 65)
theorem qX5_isSpot_ok : MOk qX5_isSpot := ⟨cdX5_isSpot_ok, flX5_ok, fun _ h => absurd h List.not_mem_nil, tw660, tw6, by decide +kernel, rfl, by decide +kernel, by decide +kernel⟩
def yX5_out : MethodName := ⟨RX5, "out", "(III)I"⟩
def cdX5_out_0 : List (Nat × Instr × Nat) := [(0, .iload_n 2, 1), (1, .bipush 100, 2), (3, .idiv, 1), (4, .istore 4, 2), (6, .iload_n 2, 1), (7, .bipush 100, 2), (9, .irem, 1), (10, .istore 5, 2), (12, .iload_n 3, 1), (13, .bipush 100, 2), (15, .idiv, 1), (16, .istore 6, 2), (18, .iload_n 3, 1), (19, .bipush 100, 2), (21, .irem, 1), (22, .istore 7, 2), (24, .iload_n 1, 1), (25, .ifCond .ne 40, 3), (28, .iload 4, 2), (30, .iload 6, 2), (32, .if_icmp .ne 30, 3), (35, .iload 7, 2), (37, .iload 5, 2), (39, .if_icmp .ge 13, 3), (42, .aload_n 0, 1), (43, .getfield 22, 3), (46, .iload 4, 2), (48, .iaload, 1), (49, .ifCond .ne 13, 3), (52, .iload 5, 2), (54, .iload 7, 2), (56, .invokestatic 68, 3), (59, .goto 5, 3), (62, .ldc 108, 2), (64, .ireturn, 1), (65, .iload_n 1, 1), (66, .iconst 3, 1), (67, .if_icmp .ge 7, 3), (70, .iconst 1, 1), (71, .goto 4, 3), (74, .iconst 0, 1), (75, .istore 8, 2), (77, .iload_n 1, 1), (78, .iconst 2, 1), (79, .irem, 1), (80, .ifCond .ne 7, 3), (83, .iconst 1, 1), (84, .goto 4, 3), (87, .iconst 0, 1), (88, .istore 9, 2), (90, .iload 8, 2), (92, .ifCond .eq 14, 3), (95, .aload_n 0, 1), (96, .getfield 22, 3), (99, .iload 4, 2), (101, .iaload, 1), (102, .iconst 1, 1), (103, .if_icmp .eq 19, 3), (106, .iload 9, 2), (108, .ifCond .eq 17, 3)]
theorem cdX5_out_0_ok : ∀ x ∈ cdX5_out_0, decode prog_7_method_17_code x.1 = .ok x.2 := by decide +kernel
def cdX5_out_1 : List (Nat × Instr × Nat) := [(111, .aload_n 0, 1), (112, .getfield 22, 3), (115, .iload 6, 2), (117, .iaload, 1), (118, .iconst 1, 1), (119, .if_icmp .ne 6, 3), (122, .ldc 108, 2), (124, .ireturn, 1), (125, .iload 8, 2), (127, .ifCond .eq 13, 3), (130, .aload_n 0, 1), (131, .getfield 16, 3), (134, .iload 4, 2), (136, .iaload, 1), (137, .goto 10, 3), (140, .aload_n 0, 1), (141, .getfield 19, 3), (144, .iload 4, 2), (146, .iaload, 1), (147, .istore 10, 2), (149, .iload 9, 2), (151, .ifCond .eq 13, 3), (154, .aload_n 0, 1), (155, .getfield 19, 3), (158, .iload 6, 2), (160, .iaload, 1), (161, .goto 10, 3), (164, .aload_n 0, 1), (165, .getfield 16, 3), (168, .iload 6, 2), (170, .iaload, 1), (171, .istore 11, 2), (173, .iload 8, 2), (175, .ifCond .eq 8, 3), (178, .iload 5, 2), (180, .goto 12, 3), (183, .aload_n 0, 1), (184, .iload 4, 2), (186, .invokevirtual 98, 3), (189, .iload 5, 2), (191, .isub, 1), (192, .aload_n 0, 1), (193, .getfield 34, 3), (196, .bipush 12, 2), (198, .iload 10, 2), (200, .imul, 1), (201, .iload 11, 2), (203, .iadd, 1), (204, .iaload, 1), (205, .iadd, 1), (206, .iload 9, 2), (208, .ifCond .eq 15, 3), (211, .aload_n 0, 1), (212, .iload 6, 2), (214, .invokevirtual 98, 3), (217, .iload 7, 2), (219, .isub, 1), (220, .goto 5, 3), (223, .iload 7, 2), (225, .iadd, 1)]
theorem cdX5_out_1_ok : ∀ x ∈ cdX5_out_1, decode prog_7_method_17_code x.1 = .ok x.2 := by decide +kernel
def cdX5_out_2 : List (Nat × Instr × Nat) := [(226, .istore 12, 2), (228, .iload 12, 2), (230, .ldc 108, 2), (232, .if_icmp .ge 8, 3), (235, .iload 12, 2), (237, .goto 5, 3), (240, .ldc 108, 2), (242, .ireturn, 1)]
theorem cdX5_out_2_ok : ∀ x ∈ cdX5_out_2, decode prog_7_method_17_code x.1 = .ok x.2 := by decide +kernel
def cdX5_out : List (Nat × Instr × Nat) := cdX5_out_0 ++ (cdX5_out_1 ++ (cdX5_out_2))
theorem cdX5_out_ok : ∀ x ∈ cdX5_out, decode prog_7_method_17_code x.1 = .ok x.2 := fun x h => (List.mem_append.mp h).elim (fun h => cdX5_out_0_ok x h) (fun h => (List.mem_append.mp h).elim (fun h => cdX5_out_1_ok x h) (fun h => cdX5_out_2_ok x h))
def qX5_out : MI := (RX5, yX5_out, prog_7_method_17_code, 13, some .int, cdX5_out, flX5, [(108, 1000000)], 3, 65)
theorem qX5_out_ok : MOk qX5_out := ⟨cdX5_out_ok, flX5_ok, List.forall_mem_cons.mpr ⟨⟨by decide, tw652⟩, fun _ h => absurd h List.not_mem_nil⟩, tw672, tw6, by decide +kernel, rfl, by decide +kernel, by decide +kernel⟩
def yX5_leastOut : MethodName := ⟨RX5, "leastOut", "(II)I"⟩
def cdX5_leastOut_0 : List (Nat × Instr × Nat) := [(0, .bipush (-6), 2), (2, .istore_n 3, 1), (3, .iconst 0, 1), (4, .istore 4, 2), (6, .iload 4, 2), (8, .iconst 5, 1), (9, .if_icmp .ge 49, 3), (12, .aload_n 0, 1), (13, .iload 4, 2), (15, .iload_n 1, 1), (16, .iload_n 2, 1), (17, .invokevirtual 112, 3), (20, .istore 5, 2), (22, .iload 5, 2), (24, .ldc 108, 2), (26, .if_icmp .ge 24, 3), (29, .iload_n 3, 1), (30, .ifCond .lt 15, 3), (33, .iload 5, 2), (35, .aload_n 0, 1), (36, .iload_n 3, 1), (37, .iload_n 1, 1), (38, .iload_n 2, 1), (39, .invokevirtual 112, 3), (42, .if_icmp .ge 8, 3), (45, .iload 4, 2), (47, .goto 4, 3), (50, .iload_n 3, 1), (51, .istore_n 3, 1), (52, .iinc 4 1, 3), (55, .goto (-49), 3), (58, .iload_n 3, 1), (59, .ireturn, 1)]
theorem cdX5_leastOut_0_ok : ∀ x ∈ cdX5_leastOut_0, decode prog_7_method_18_code x.1 = .ok x.2 := by decide +kernel
def cdX5_leastOut : List (Nat × Instr × Nat) := cdX5_leastOut_0
theorem cdX5_leastOut_ok : ∀ x ∈ cdX5_leastOut, decode prog_7_method_18_code x.1 = .ok x.2 := fun x h => cdX5_leastOut_0_ok x h
def qX5_leastOut : MI := (RX5, yX5_leastOut, prog_7_method_18_code, 6, some .int, cdX5_leastOut, flX5, [(108, 1000000)], 4, 97)
theorem qX5_leastOut_ok : MOk qX5_leastOut := ⟨cdX5_leastOut_ok, flX5_ok, List.forall_mem_cons.mpr ⟨⟨by decide, tw652⟩, fun _ h => absurd h List.not_mem_nil⟩, tw668, tw6, by decide +kernel, rfl, by decide +kernel, by decide +kernel⟩
def yX5_wayOf : MethodName := ⟨RX5, "wayOf", "(II)I"⟩
def cdX5_wayOf_0 : List (Nat × Instr × Nat) := [(0, .aload_n 0, 1), (1, .iload_n 1, 1), (2, .iload_n 2, 1), (3, .invokevirtual 115, 3), (6, .istore_n 3, 1), (7, .iload_n 3, 1), (8, .ifCond .ge 8, 3), (11, .bipush (-6), 2), (13, .goto 10, 3), (16, .aload_n 0, 1), (17, .iload_n 3, 1), (18, .iload_n 1, 1), (19, .iload_n 2, 1), (20, .invokevirtual 112, 3), (23, .ireturn, 1)]
theorem cdX5_wayOf_0_ok : ∀ x ∈ cdX5_wayOf_0, decode prog_7_method_19_code x.1 = .ok x.2 := by decide +kernel
def cdX5_wayOf : List (Nat × Instr × Nat) := cdX5_wayOf_0
theorem cdX5_wayOf_ok : ∀ x ∈ cdX5_wayOf, decode prog_7_method_19_code x.1 = .ok x.2 := fun x h => cdX5_wayOf_0_ok x h
def qX5_wayOf : MI := (RX5, yX5_wayOf, prog_7_method_19_code, 4, some .int, cdX5_wayOf, flX5, [], 5, 122)
theorem qX5_wayOf_ok : MOk qX5_wayOf := ⟨cdX5_wayOf_ok, flX5_ok, fun _ h => absurd h List.not_mem_nil, tw664, tw6, by decide +kernel, rfl, by decide +kernel, by decide +kernel⟩
def yX5_way : MethodName := ⟨RX5, "way", "(II)I"⟩
def cdX5_way_0 : List (Nat × Instr × Nat) := [(0, .aload_n 0, 1), (1, .iload_n 1, 1), (2, .invokevirtual 118, 3), (5, .ifCond .eq 11, 3), (8, .aload_n 0, 1), (9, .iload_n 2, 1), (10, .invokevirtual 118, 3), (13, .ifCond .ne 5, 3), (16, .iconst (-1), 1), (17, .ireturn, 1), (18, .aload_n 0, 1), (19, .invokevirtual 109, 3), (22, .aload_n 0, 1), (23, .iload_n 1, 1), (24, .iload_n 2, 1), (25, .invokevirtual 121, 3), (28, .ireturn, 1)]
theorem cdX5_way_0_ok : ∀ x ∈ cdX5_way_0, decode prog_7_method_20_code x.1 = .ok x.2 := by decide +kernel
def cdX5_way : List (Nat × Instr × Nat) := cdX5_way_0
theorem cdX5_way_ok : ∀ x ∈ cdX5_way, decode prog_7_method_20_code x.1 = .ok x.2 := fun x h => cdX5_way_0_ok x h
def qX5_way : MI := (RX5, yX5_way, prog_7_method_20_code, 3, some .int, cdX5_way, flX5, [], 6, 145)
theorem qX5_way_ok : MOk qX5_way := ⟨cdX5_way_ok, flX5_ok, fun _ h => absurd h List.not_mem_nil, tw656, tw6, by decide +kernel, rfl, by decide +kernel, by decide +kernel⟩
def yX5_fix : MethodName := ⟨RX5, "fix", "(II)I"⟩
def cdX5_fix_0 : List (Nat × Instr × Nat) := [(0, .iload_n 1, 1), (1, .iconst 0, 1), (2, .bipush 63, 2), (4, .invokestatic 76, 3), (7, .ifCond .eq 13, 3), (10, .iload_n 2, 1), (11, .iconst 0, 1), (12, .bipush 63, 2), (14, .invokestatic 76, 3), (17, .ifCond .ne 6, 3), (20, .bipush (-2), 2), (22, .ireturn, 1), (23, .aload_n 0, 1), (24, .getfield 80, 3), (27, .bipush 16, 2), (29, .if_icmp .ne 6, 3), (32, .bipush (-4), 2), (34, .ireturn, 1), (35, .aload_n 0, 1), (36, .getfield 28, 3), (39, .aload_n 0, 1), (40, .getfield 80, 3), (43, .iload_n 1, 1), (44, .iastore, 1), (45, .aload_n 0, 1), (46, .getfield 31, 3), (49, .aload_n 0, 1), (50, .getfield 80, 3), (53, .iload_n 2, 1), (54, .iastore, 1), (55, .aload_n 0, 1), (56, .dup, 1), (57, .getfield 80, 3), (60, .iconst 1, 1), (61, .iadd, 1), (62, .putfield 80, 3), (65, .aload_n 0, 1), (66, .getfield 80, 3), (69, .ireturn, 1)]
theorem cdX5_fix_0_ok : ∀ x ∈ cdX5_fix_0, decode prog_7_method_21_code x.1 = .ok x.2 := by decide +kernel
def cdX5_fix : List (Nat × Instr × Nat) := cdX5_fix_0
theorem cdX5_fix_ok : ∀ x ∈ cdX5_fix, decode prog_7_method_21_code x.1 = .ok x.2 := fun x h => cdX5_fix_0_ok x h
def qX5_fix : MI := (RX5, yX5_fix, prog_7_method_21_code, 3, some .int, cdX5_fix, flX5, [], 1, 22)
theorem qX5_fix_ok : MOk qX5_fix := ⟨cdX5_fix_ok, flX5_ok, fun _ h => absurd h List.not_mem_nil, tw676, tw6, by decide +kernel, rfl, by decide +kernel, by decide +kernel⟩
def yX5_drop : MethodName := ⟨RX5, "drop", "()I"⟩
def cdX5_drop_0 : List (Nat × Instr × Nat) := [(0, .aload_n 0, 1), (1, .getfield 80, 3), (4, .ifCond .ne 6, 3), (7, .bipush (-5), 2), (9, .ireturn, 1), (10, .aload_n 0, 1), (11, .dup, 1), (12, .getfield 80, 3), (15, .iconst 1, 1), (16, .isub, 1), (17, .putfield 80, 3), (20, .aload_n 0, 1), (21, .getfield 80, 3), (24, .ireturn, 1)]
theorem cdX5_drop_0_ok : ∀ x ∈ cdX5_drop_0, decode prog_7_method_22_code x.1 = .ok x.2 := by decide +kernel
def cdX5_drop : List (Nat × Instr × Nat) := cdX5_drop_0
theorem cdX5_drop_ok : ∀ x ∈ cdX5_drop, decode prog_7_method_22_code x.1 = .ok x.2 := fun x h => cdX5_drop_0_ok x h
def qX5_drop : MI := (RX5, yX5_drop, prog_7_method_22_code, 1, some .int, cdX5_drop, flX5, [], 0, 0)
theorem qX5_drop_ok : MOk qX5_drop := ⟨cdX5_drop_ok, flX5_ok, fun _ h => absurd h List.not_mem_nil, tw680, tw6, by decide +kernel, rfl, by decide +kernel, by decide +kernel⟩
def yX5_nearest : MethodName := ⟨RX5, "nearest", "(III)I"⟩
def cdX5_nearest_0 : List (Nat × Instr × Nat) := [(0, .iconst 0, 1), (1, .istore 4, 2), (3, .iconst 1, 1), (4, .istore 5, 2), (6, .iload 5, 2), (8, .aload_n 0, 1), (9, .iload_n 1, 1), (10, .invokevirtual 98, 3), (13, .if_icmp .gt 54, 3), (16, .aload_n 0, 1), (17, .iload_n 1, 1), (18, .iload 5, 2), (20, .invokevirtual 102, 3), (23, .aload_n 0, 1), (24, .iload_n 1, 1), (25, .iload 5, 2), (27, .invokevirtual 105, 3), (30, .iload_n 2, 1), (31, .iload_n 3, 1), (32, .invokestatic 90, 3), (35, .aload_n 0, 1), (36, .iload_n 1, 1), (37, .iload 4, 2), (39, .invokevirtual 102, 3), (42, .aload_n 0, 1), (43, .iload_n 1, 1), (44, .iload 4, 2), (46, .invokevirtual 105, 3), (49, .iload_n 2, 1), (50, .iload_n 3, 1), (51, .invokestatic 90, 3), (54, .if_icmp .ge 7, 3), (57, .iload 5, 2), (59, .istore 4, 2), (61, .iinc 5 1, 3), (64, .goto (-58), 3), (67, .iload 4, 2), (69, .ireturn, 1)]
theorem cdX5_nearest_0_ok : ∀ x ∈ cdX5_nearest_0, decode prog_7_method_23_code x.1 = .ok x.2 := by decide +kernel
def cdX5_nearest : List (Nat × Instr × Nat) := cdX5_nearest_0
theorem cdX5_nearest_ok : ∀ x ∈ cdX5_nearest, decode prog_7_method_23_code x.1 = .ok x.2 := fun x h => cdX5_nearest_0_ok x h
def qX5_nearest : MI := (RX5, yX5_nearest, prog_7_method_23_code, 6, some .int, cdX5_nearest, flX5, [], 3, 65)
theorem qX5_nearest_ok : MOk qX5_nearest := ⟨cdX5_nearest_ok, flX5_ok, fun _ h => absurd h List.not_mem_nil, tw700, tw6, by decide +kernel, rfl, by decide +kernel, by decide +kernel⟩
def yX5_layCandidates : MethodName := ⟨RX5, "layCandidates", "(I)V"⟩
def cdX5_layCandidates_0 : List (Nat × Instr × Nat) := [(0, .aload_n 0, 1), (1, .getfield 49, 3), (4, .iload_n 1, 1), (5, .iconst 0, 1), (6, .iastore, 1), (7, .iconst 0, 1), (8, .istore_n 2, 1), (9, .iload_n 2, 1), (10, .aload_n 0, 1), (11, .getfield 87, 3), (14, .if_icmp .ge 117, 3), (17, .aload_n 0, 1), (18, .iload_n 2, 1), (19, .aload_n 0, 1), (20, .getfield 28, 3), (23, .iload_n 1, 1), (24, .iaload, 1), (25, .aload_n 0, 1), (26, .getfield 31, 3), (29, .iload_n 1, 1), (30, .iaload, 1), (31, .invokevirtual 124, 3), (34, .istore_n 3, 1), (35, .aload_n 0, 1), (36, .iload_n 2, 1), (37, .iload_n 3, 1), (38, .invokevirtual 102, 3), (41, .aload_n 0, 1), (42, .iload_n 2, 1), (43, .iload_n 3, 1), (44, .invokevirtual 105, 3), (47, .aload_n 0, 1), (48, .getfield 28, 3), (51, .iload_n 1, 1), (52, .iaload, 1), (53, .aload_n 0, 1), (54, .getfield 31, 3), (57, .iload_n 1, 1), (58, .iaload, 1), (59, .invokestatic 90, 3), (62, .istore 4, 2), (64, .iload 4, 2), (66, .aload_n 0, 1), (67, .getfield 25, 3), (70, .iconst 0, 1), (71, .iaload, 1), (72, .if_icmp .gt 53, 3), (75, .aload_n 0, 1), (76, .getfield 37, 3), (79, .bipush 20, 2), (81, .iload_n 1, 1), (82, .imul, 1), (83, .aload_n 0, 1), (84, .getfield 49, 3), (87, .iload_n 1, 1), (88, .iaload, 1), (89, .iadd, 1), (90, .bipush 100, 2), (92, .iload_n 2, 1), (93, .imul, 1)]
theorem cdX5_layCandidates_0_ok : ∀ x ∈ cdX5_layCandidates_0, decode prog_7_method_24_code x.1 = .ok x.2 := by decide +kernel
def cdX5_layCandidates_1 : List (Nat × Instr × Nat) := [(94, .iload_n 3, 1), (95, .iadd, 1), (96, .iastore, 1), (97, .aload_n 0, 1), (98, .getfield 40, 3), (101, .bipush 20, 2), (103, .iload_n 1, 1), (104, .imul, 1), (105, .aload_n 0, 1), (106, .getfield 49, 3), (109, .iload_n 1, 1), (110, .iaload, 1), (111, .iadd, 1), (112, .iload 4, 2), (114, .iastore, 1), (115, .aload_n 0, 1), (116, .getfield 49, 3), (119, .iload_n 1, 1), (120, .dup2, 1), (121, .iaload, 1), (122, .iconst 1, 1), (123, .iadd, 1), (124, .iastore, 1), (125, .iinc 2 1, 3), (128, .goto (-119), 3), (131, .return_, 1)]
theorem cdX5_layCandidates_1_ok : ∀ x ∈ cdX5_layCandidates_1, decode prog_7_method_24_code x.1 = .ok x.2 := by decide +kernel
def cdX5_layCandidates : List (Nat × Instr × Nat) := cdX5_layCandidates_0 ++ (cdX5_layCandidates_1)
theorem cdX5_layCandidates_ok : ∀ x ∈ cdX5_layCandidates, decode prog_7_method_24_code x.1 = .ok x.2 := fun x h => (List.mem_append.mp h).elim (fun h => cdX5_layCandidates_0_ok x h) (fun h => cdX5_layCandidates_1_ok x h)
def qX5_layCandidates : MI := (RX5, yX5_layCandidates, prog_7_method_24_code, 5, none, cdX5_layCandidates, flX5, [], 4, 90)
theorem qX5_layCandidates_ok : MOk qX5_layCandidates := ⟨cdX5_layCandidates_ok, flX5_ok, fun _ h => absurd h List.not_mem_nil, tw696, tw6, by decide +kernel, rfl, by decide +kernel, by decide +kernel⟩
def yX5_goOn : MethodName := ⟨RX5, "goOn", "(II)Z"⟩
def cdX5_goOn_0 : List (Nat × Instr × Nat) := [(0, .aload_n 0, 1), (1, .getfield 28, 3), (4, .iload_n 1, 1), (5, .iaload, 1), (6, .aload_n 0, 1), (7, .getfield 31, 3), (10, .iload_n 1, 1), (11, .iaload, 1), (12, .aload_n 0, 1), (13, .getfield 28, 3), (16, .iload_n 2, 1), (17, .iaload, 1), (18, .aload_n 0, 1), (19, .getfield 31, 3), (22, .iload_n 2, 1), (23, .iaload, 1), (24, .invokestatic 90, 3), (27, .istore_n 3, 1), (28, .iconst 0, 1), (29, .istore 4, 2), (31, .bipush 20, 2), (33, .iload_n 1, 1), (34, .imul, 1), (35, .istore 5, 2), (37, .iload 5, 2), (39, .bipush 20, 2), (41, .iload_n 1, 1), (42, .imul, 1), (43, .aload_n 0, 1), (44, .getfield 49, 3), (47, .iload_n 1, 1), (48, .iaload, 1), (49, .iadd, 1), (50, .if_icmp .ge 213, 3), (53, .aload_n 0, 1), (54, .getfield 43, 3), (57, .iload 5, 2), (59, .bipush (-6), 2), (61, .iastore, 1), (62, .aload_n 0, 1), (63, .getfield 46, 3), (66, .iload 5, 2), (68, .bipush (-6), 2), (70, .iastore, 1), (71, .bipush 20, 2), (73, .iload_n 2, 1), (74, .imul, 1), (75, .istore 6, 2), (77, .iload 6, 2), (79, .bipush 20, 2), (81, .iload_n 2, 1), (82, .imul, 1), (83, .aload_n 0, 1), (84, .getfield 49, 3), (87, .iload_n 2, 1), (88, .iaload, 1), (89, .iadd, 1), (90, .if_icmp .ge 145, 3), (93, .aload_n 0, 1), (94, .getfield 43, 3)]
theorem cdX5_goOn_0_ok : ∀ x ∈ cdX5_goOn_0, decode prog_7_method_25_code x.1 = .ok x.2 := by decide +kernel
def cdX5_goOn_1 : List (Nat × Instr × Nat) := [(97, .iload 6, 2), (99, .iaload, 1), (100, .ifCond .ge 8, 3), (103, .bipush (-6), 2), (105, .goto 21, 3), (108, .aload_n 0, 1), (109, .aload_n 0, 1), (110, .getfield 37, 3), (113, .iload 6, 2), (115, .iaload, 1), (116, .aload_n 0, 1), (117, .getfield 37, 3), (120, .iload 5, 2), (122, .iaload, 1), (123, .invokevirtual 121, 3), (126, .istore 7, 2), (128, .iload 7, 2), (130, .ifCond .lt 99, 3), (133, .iload 7, 2), (135, .iload_n 3, 1), (136, .aload_n 0, 1), (137, .getfield 25, 3), (140, .iconst 3, 1), (141, .iaload, 1), (142, .iadd, 1), (143, .if_icmp .gt 86, 3), (146, .aload_n 0, 1), (147, .getfield 43, 3), (150, .iload 6, 2), (152, .iaload, 1), (153, .aload_n 0, 1), (154, .getfield 25, 3), (157, .iconst 2, 1), (158, .iaload, 1), (159, .iload 7, 2), (161, .iload_n 3, 1), (162, .invokestatic 68, 3), (165, .imul, 1), (166, .iadd, 1), (167, .aload_n 0, 1), (168, .getfield 25, 3), (171, .iconst 1, 1), (172, .iaload, 1), (173, .aload_n 0, 1), (174, .getfield 40, 3), (177, .iload 5, 2), (179, .iaload, 1), (180, .imul, 1), (181, .iadd, 1), (182, .istore 8, 2), (184, .aload_n 0, 1), (185, .getfield 43, 3), (188, .iload 5, 2), (190, .iaload, 1), (191, .ifCond .lt 15, 3), (194, .iload 8, 2), (196, .aload_n 0, 1), (197, .getfield 43, 3), (200, .iload 5, 2), (202, .iaload, 1)]
theorem cdX5_goOn_1_ok : ∀ x ∈ cdX5_goOn_1, decode prog_7_method_25_code x.1 = .ok x.2 := by decide +kernel
def cdX5_goOn_2 : List (Nat × Instr × Nat) := [(203, .if_icmp .ge 26, 3), (206, .aload_n 0, 1), (207, .getfield 43, 3), (210, .iload 5, 2), (212, .iload 8, 2), (214, .iastore, 1), (215, .aload_n 0, 1), (216, .getfield 46, 3), (219, .iload 5, 2), (221, .iload 6, 2), (223, .bipush 20, 2), (225, .iload_n 2, 1), (226, .imul, 1), (227, .isub, 1), (228, .iastore, 1), (229, .iinc 6 1, 3), (232, .goto (-155), 3), (235, .iload 4, 2), (237, .ifCond .ne 13, 3), (240, .aload_n 0, 1), (241, .getfield 43, 3), (244, .iload 5, 2), (246, .iaload, 1), (247, .ifCond .lt 7, 3), (250, .iconst 1, 1), (251, .goto 4, 3), (254, .iconst 0, 1), (255, .istore 4, 2), (257, .iinc 5 1, 3), (260, .goto (-223), 3), (263, .iload 4, 2), (265, .ireturn, 1)]
theorem cdX5_goOn_2_ok : ∀ x ∈ cdX5_goOn_2, decode prog_7_method_25_code x.1 = .ok x.2 := by decide +kernel
def cdX5_goOn : List (Nat × Instr × Nat) := cdX5_goOn_0 ++ (cdX5_goOn_1 ++ (cdX5_goOn_2))
theorem cdX5_goOn_ok : ∀ x ∈ cdX5_goOn, decode prog_7_method_25_code x.1 = .ok x.2 := fun x h => (List.mem_append.mp h).elim (fun h => cdX5_goOn_0_ok x h) (fun h => (List.mem_append.mp h).elim (fun h => cdX5_goOn_1_ok x h) (fun h => cdX5_goOn_2_ok x h))
def qX5_goOn : MI := (RX5, yX5_goOn, prog_7_method_25_code, 9, some .boolean, cdX5_goOn, flX5, [], 6, 145)
theorem qX5_goOn_ok : MOk qX5_goOn := ⟨cdX5_goOn_ok, flX5_ok, fun _ h => absurd h List.not_mem_nil, tw704, tw6, by decide +kernel, rfl, by decide +kernel, by decide +kernel⟩
def yX5_begin : MethodName := ⟨RX5, "begin", "(I)V"⟩
def cdX5_begin_0 : List (Nat × Instr × Nat) := [(0, .bipush 20, 2), (2, .iload_n 1, 1), (3, .imul, 1), (4, .istore_n 2, 1), (5, .iload_n 2, 1), (6, .bipush 20, 2), (8, .iload_n 1, 1), (9, .imul, 1), (10, .aload_n 0, 1), (11, .getfield 49, 3), (14, .iload_n 1, 1), (15, .iaload, 1), (16, .iadd, 1), (17, .if_icmp .ge 36, 3), (20, .aload_n 0, 1), (21, .getfield 43, 3), (24, .iload_n 2, 1), (25, .aload_n 0, 1), (26, .getfield 25, 3), (29, .iconst 1, 1), (30, .iaload, 1), (31, .aload_n 0, 1), (32, .getfield 40, 3), (35, .iload_n 2, 1), (36, .iaload, 1), (37, .imul, 1), (38, .iastore, 1), (39, .aload_n 0, 1), (40, .getfield 46, 3), (43, .iload_n 2, 1), (44, .bipush (-6), 2), (46, .iastore, 1), (47, .iinc 2 1, 3), (50, .goto (-45), 3), (53, .aload_n 0, 1), (54, .getfield 55, 3), (57, .iload_n 1, 1), (58, .bipush (-6), 2), (60, .iastore, 1), (61, .aload_n 0, 1), (62, .dup, 1), (63, .getfield 127, 3), (66, .iconst 1, 1), (67, .iadd, 1), (68, .putfield 127, 3), (71, .return_, 1)]
theorem cdX5_begin_0_ok : ∀ x ∈ cdX5_begin_0, decode prog_7_method_26_code x.1 = .ok x.2 := by decide +kernel
def cdX5_begin : List (Nat × Instr × Nat) := cdX5_begin_0
theorem cdX5_begin_ok : ∀ x ∈ cdX5_begin, decode prog_7_method_26_code x.1 = .ok x.2 := fun x h => cdX5_begin_0_ok x h
def qX5_begin : MI := (RX5, yX5_begin, prog_7_method_26_code, 3, none, cdX5_begin, flX5, [], 0, 0)
theorem qX5_begin_ok : MOk qX5_begin := ⟨cdX5_begin_ok, flX5_ok, fun _ h => absurd h List.not_mem_nil, tw708, tw6, by decide +kernel, rfl, by decide +kernel, by decide +kernel⟩
def yX5_layAll : MethodName := ⟨RX5, "layAll", "()V"⟩
def cdX5_layAll_0 : List (Nat × Instr × Nat) := [(0, .aload_n 0, 1), (1, .invokevirtual 109, 3), (4, .aload_n 0, 1), (5, .iconst 0, 1), (6, .putfield 127, 3), (9, .bipush (-6), 2), (11, .istore_n 1, 1), (12, .iconst 0, 1), (13, .istore_n 2, 1), (14, .iload_n 2, 1), (15, .aload_n 0, 1), (16, .getfield 80, 3), (19, .if_icmp .ge 70, 3), (22, .aload_n 0, 1), (23, .iload_n 2, 1), (24, .invokevirtual 130, 3), (27, .aload_n 0, 1), (28, .getfield 52, 3), (31, .iload_n 2, 1), (32, .bipush (-6), 2), (34, .iastore, 1), (35, .aload_n 0, 1), (36, .getfield 49, 3), (39, .iload_n 2, 1), (40, .iaload, 1), (41, .ifCond .le 42, 3), (44, .aload_n 0, 1), (45, .getfield 55, 3), (48, .iload_n 2, 1), (49, .iload_n 1, 1), (50, .iastore, 1), (51, .iload_n 1, 1), (52, .ifCond .lt 12, 3), (55, .aload_n 0, 1), (56, .iload_n 2, 1), (57, .iload_n 1, 1), (58, .invokevirtual 134, 3), (61, .ifCond .ne 8, 3), (64, .aload_n 0, 1), (65, .iload_n 2, 1), (66, .invokevirtual 138, 3), (69, .aload_n 0, 1), (70, .getfield 52, 3), (73, .iload_n 2, 1), (74, .aload_n 0, 1), (75, .getfield 127, 3), (78, .iconst 1, 1), (79, .isub, 1), (80, .iastore, 1), (81, .iload_n 2, 1), (82, .istore_n 1, 1), (83, .iinc 2 1, 3), (86, .goto (-72), 3), (89, .aload_n 0, 1), (90, .getfield 80, 3), (93, .iconst 1, 1), (94, .isub, 1), (95, .istore_n 2, 1), (96, .iload_n 2, 1), (97, .ifCond .lt 58, 3)]
theorem cdX5_layAll_0_ok : ∀ x ∈ cdX5_layAll_0, decode prog_7_method_27_code x.1 = .ok x.2 := by decide +kernel
def cdX5_layAll_1 : List (Nat × Instr × Nat) := [(100, .aload_n 0, 1), (101, .iload_n 2, 1), (102, .invokevirtual 141, 3), (105, .istore_n 3, 1), (106, .aload_n 0, 1), (107, .getfield 52, 3), (110, .iload_n 2, 1), (111, .iaload, 1), (112, .ifCond .lt 37, 3), (115, .aload_n 0, 1), (116, .getfield 58, 3), (119, .iload_n 2, 1), (120, .iload_n 3, 1), (121, .ifCond .lt 22, 3), (124, .aload_n 0, 1), (125, .getfield 46, 3), (128, .bipush 20, 2), (130, .iload_n 3, 1), (131, .imul, 1), (132, .aload_n 0, 1), (133, .getfield 58, 3), (136, .iload_n 3, 1), (137, .iaload, 1), (138, .iadd, 1), (139, .iaload, 1), (140, .goto 8, 3), (143, .aload_n 0, 1), (144, .iload_n 2, 1), (145, .invokevirtual 144, 3), (148, .iastore, 1), (149, .iinc 2 (-1), 3), (152, .goto (-56), 3), (155, .return_, 1)]
theorem cdX5_layAll_1_ok : ∀ x ∈ cdX5_layAll_1, decode prog_7_method_27_code x.1 = .ok x.2 := by decide +kernel
def cdX5_layAll : List (Nat × Instr × Nat) := cdX5_layAll_0 ++ (cdX5_layAll_1)
theorem cdX5_layAll_ok : ∀ x ∈ cdX5_layAll, decode prog_7_method_27_code x.1 = .ok x.2 := fun x h => (List.mem_append.mp h).elim (fun h => cdX5_layAll_0_ok x h) (fun h => cdX5_layAll_1_ok x h)
def qX5_layAll : MI := (RX5, yX5_layAll, prog_7_method_27_code, 4, none, cdX5_layAll, flX5, [], 7, 173)
theorem qX5_layAll_ok : MOk qX5_layAll := ⟨cdX5_layAll_ok, flX5_ok, fun _ h => absurd h List.not_mem_nil, tw692, tw6, by decide +kernel, rfl, by decide +kernel, by decide +kernel⟩
def yX5_next : MethodName := ⟨RX5, "next", "(I)I"⟩
def cdX5_next_0 : List (Nat × Instr × Nat) := [(0, .iload_n 1, 1), (1, .iconst 1, 1), (2, .iadd, 1), (3, .istore_n 2, 1), (4, .iload_n 2, 1), (5, .aload_n 0, 1), (6, .getfield 80, 3), (9, .if_icmp .ge 40, 3), (12, .aload_n 0, 1), (13, .getfield 52, 3), (16, .iload_n 2, 1), (17, .iaload, 1), (18, .ifCond .lt 25, 3), (21, .aload_n 0, 1), (22, .getfield 52, 3), (25, .iload_n 2, 1), (26, .iaload, 1), (27, .aload_n 0, 1), (28, .getfield 52, 3), (31, .iload_n 1, 1), (32, .iaload, 1), (33, .if_icmp .ne 7, 3), (36, .iload_n 2, 1), (37, .goto 5, 3), (40, .bipush (-6), 2), (42, .ireturn, 1), (43, .iinc 2 1, 3), (46, .goto (-42), 3), (49, .bipush (-6), 2), (51, .ireturn, 1)]
theorem cdX5_next_0_ok : ∀ x ∈ cdX5_next_0, decode prog_7_method_28_code x.1 = .ok x.2 := by decide +kernel
def cdX5_next : List (Nat × Instr × Nat) := cdX5_next_0
theorem cdX5_next_ok : ∀ x ∈ cdX5_next, decode prog_7_method_28_code x.1 = .ok x.2 := fun x h => cdX5_next_0_ok x h
def qX5_next : MI := (RX5, yX5_next, prog_7_method_28_code, 3, some .int, cdX5_next, flX5, [], 0, 0)
theorem qX5_next_ok : MOk qX5_next := ⟨cdX5_next_ok, flX5_ok, fun _ h => absurd h List.not_mem_nil, tw712, tw6, by decide +kernel, rfl, by decide +kernel, by decide +kernel⟩
def yX5_leastAt : MethodName := ⟨RX5, "leastAt", "(I)I"⟩
def cdX5_leastAt_0 : List (Nat × Instr × Nat) := [(0, .bipush (-6), 2), (2, .istore_n 2, 1), (3, .iconst 0, 1), (4, .istore_n 3, 1), (5, .iload_n 3, 1), (6, .aload_n 0, 1), (7, .getfield 49, 3), (10, .iload_n 1, 1), (11, .iaload, 1), (12, .if_icmp .ge 53, 3), (15, .aload_n 0, 1), (16, .getfield 43, 3), (19, .bipush 20, 2), (21, .iload_n 1, 1), (22, .imul, 1), (23, .iload_n 3, 1), (24, .iadd, 1), (25, .iaload, 1), (26, .istore 4, 2), (28, .iload 4, 2), (30, .ifCond .lt 27, 3), (33, .iload_n 2, 1), (34, .ifCond .lt 19, 3), (37, .iload 4, 2), (39, .aload_n 0, 1), (40, .getfield 43, 3), (43, .bipush 20, 2), (45, .iload_n 1, 1), (46, .imul, 1), (47, .iload_n 2, 1), (48, .iadd, 1), (49, .iaload, 1), (50, .if_icmp .ge 7, 3), (53, .iload_n 3, 1), (54, .goto 4, 3), (57, .iload_n 2, 1), (58, .istore_n 2, 1), (59, .iinc 3 1, 3), (62, .goto (-57), 3), (65, .iload_n 2, 1), (66, .ireturn, 1)]
theorem cdX5_leastAt_0_ok : ∀ x ∈ cdX5_leastAt_0, decode prog_7_method_29_code x.1 = .ok x.2 := by decide +kernel
def cdX5_leastAt : List (Nat × Instr × Nat) := cdX5_leastAt_0
theorem cdX5_leastAt_ok : ∀ x ∈ cdX5_leastAt, decode prog_7_method_29_code x.1 = .ok x.2 := fun x h => cdX5_leastAt_0_ok x h
def qX5_leastAt : MI := (RX5, yX5_leastAt, prog_7_method_29_code, 5, some .int, cdX5_leastAt, flX5, [], 0, 0)
theorem qX5_leastAt_ok : MOk qX5_leastAt := ⟨cdX5_leastAt_ok, flX5_ok, fun _ h => absurd h List.not_mem_nil, tw716, tw6, by decide +kernel, rfl, by decide +kernel, by decide +kernel⟩
def yX5_isFix : MethodName := ⟨RX5, "isFix", "(I)Z"⟩
def cdX5_isFix_0 : List (Nat × Instr × Nat) := [(0, .iload_n 1, 1), (1, .iconst 0, 1), (2, .aload_n 0, 1), (3, .getfield 80, 3), (6, .iconst 1, 1), (7, .isub, 1), (8, .invokestatic 76, 3), (11, .ireturn, 1)]
theorem cdX5_isFix_0_ok : ∀ x ∈ cdX5_isFix_0, decode prog_7_method_30_code x.1 = .ok x.2 := by decide +kernel
def cdX5_isFix : List (Nat × Instr × Nat) := cdX5_isFix_0
theorem cdX5_isFix_ok : ∀ x ∈ cdX5_isFix, decode prog_7_method_30_code x.1 = .ok x.2 := fun x h => cdX5_isFix_0_ok x h
def qX5_isFix : MI := (RX5, yX5_isFix, prog_7_method_30_code, 2, some .boolean, cdX5_isFix, flX5, [], 1, 22)
theorem qX5_isFix_ok : MOk qX5_isFix := ⟨cdX5_isFix_ok, flX5_ok, fun _ h => absurd h List.not_mem_nil, tw688, tw6, by decide +kernel, rfl, by decide +kernel, by decide +kernel⟩
def yX5_candidate : MethodName := ⟨RX5, "candidate", "(III)I"⟩
def cdX5_candidate_0 : List (Nat × Instr × Nat) := [(0, .aload_n 0, 1), (1, .iload_n 1, 1), (2, .invokevirtual 147, 3), (5, .ifCond .ne 5, 3), (8, .iconst (-1), 1), (9, .ireturn, 1), (10, .iload_n 3, 1), (11, .iconst 0, 1), (12, .iconst 3, 1), (13, .invokestatic 76, 3), (16, .ifCond .ne 6, 3), (19, .bipush (-2), 2), (21, .ireturn, 1), (22, .aload_n 0, 1), (23, .invokevirtual 150, 3), (26, .iload_n 2, 1), (27, .iconst (-1), 1), (28, .if_icmp .ne 10, 3), (31, .aload_n 0, 1), (32, .getfield 49, 3), (35, .iload_n 1, 1), (36, .iaload, 1), (37, .ireturn, 1), (38, .iload_n 2, 1), (39, .iconst 0, 1), (40, .aload_n 0, 1), (41, .getfield 49, 3), (44, .iload_n 1, 1), (45, .iaload, 1), (46, .iconst 1, 1), (47, .isub, 1), (48, .invokestatic 76, 3), (51, .ifCond .ne 6, 3), (54, .bipush (-6), 2), (56, .ireturn, 1), (57, .bipush 20, 2), (59, .iload_n 1, 1), (60, .imul, 1), (61, .iload_n 2, 1), (62, .iadd, 1), (63, .istore 4, 2), (65, .iload_n 3, 1), (66, .ifCond .ne 13, 3), (69, .aload_n 0, 1), (70, .getfield 37, 3), (73, .iload 4, 2), (75, .iaload, 1), (76, .goto 40, 3), (79, .iload_n 3, 1), (80, .iconst 1, 1), (81, .if_icmp .ne 13, 3), (84, .aload_n 0, 1), (85, .getfield 40, 3), (88, .iload 4, 2), (90, .iaload, 1), (91, .goto 25, 3), (94, .iload_n 3, 1), (95, .iconst 2, 1), (96, .if_icmp .ne 13, 3), (99, .aload_n 0, 1)]
theorem cdX5_candidate_0_ok : ∀ x ∈ cdX5_candidate_0, decode prog_7_method_31_code x.1 = .ok x.2 := by decide +kernel
def cdX5_candidate_1 : List (Nat × Instr × Nat) := [(100, .getfield 43, 3), (103, .iload 4, 2), (105, .iaload, 1), (106, .goto 10, 3), (109, .aload_n 0, 1), (110, .getfield 46, 3), (113, .iload 4, 2), (115, .iaload, 1), (116, .ireturn, 1)]
theorem cdX5_candidate_1_ok : ∀ x ∈ cdX5_candidate_1, decode prog_7_method_31_code x.1 = .ok x.2 := by decide +kernel
def cdX5_candidate : List (Nat × Instr × Nat) := cdX5_candidate_0 ++ (cdX5_candidate_1)
theorem cdX5_candidate_ok : ∀ x ∈ cdX5_candidate, decode prog_7_method_31_code x.1 = .ok x.2 := fun x h => (List.mem_append.mp h).elim (fun h => cdX5_candidate_0_ok x h) (fun h => cdX5_candidate_1_ok x h)
def qX5_candidate : MI := (RX5, yX5_candidate, prog_7_method_31_code, 5, some .int, cdX5_candidate, flX5, [], 8, 196)
theorem qX5_candidate_ok : MOk qX5_candidate := ⟨cdX5_candidate_ok, flX5_ok, fun _ h => absurd h List.not_mem_nil, tw684, tw6, by decide +kernel, rfl, by decide +kernel, by decide +kernel⟩
def yX5_best : MethodName := ⟨RX5, "best", "(I)I"⟩
def cdX5_best_0 : List (Nat × Instr × Nat) := [(0, .aload_n 0, 1), (1, .iload_n 1, 1), (2, .invokevirtual 147, 3), (5, .ifCond .ne 5, 3), (8, .iconst (-1), 1), (9, .ireturn, 1), (10, .aload_n 0, 1), (11, .invokevirtual 150, 3), (14, .aload_n 0, 1), (15, .getfield 52, 3), (18, .iload_n 1, 1), (19, .iaload, 1), (20, .ifCond .ge 8, 3), (23, .bipush (-6), 2), (25, .goto 19, 3), (28, .aload_n 0, 1), (29, .getfield 37, 3), (32, .bipush 20, 2), (34, .iload_n 1, 1), (35, .imul, 1), (36, .aload_n 0, 1), (37, .getfield 58, 3), (40, .iload_n 1, 1), (41, .iaload, 1), (42, .iadd, 1), (43, .iaload, 1), (44, .ireturn, 1)]
theorem cdX5_best_0_ok : ∀ x ∈ cdX5_best_0, decode prog_7_method_32_code x.1 = .ok x.2 := by decide +kernel
def cdX5_best : List (Nat × Instr × Nat) := cdX5_best_0
theorem cdX5_best_ok : ∀ x ∈ cdX5_best, decode prog_7_method_32_code x.1 = .ok x.2 := fun x h => cdX5_best_0_ok x h
def qX5_best : MI := (RX5, yX5_best, prog_7_method_32_code, 2, some .int, cdX5_best, flX5, [], 8, 196)
theorem qX5_best_ok : MOk qX5_best := ⟨cdX5_best_ok, flX5_ok, fun _ h => absurd h List.not_mem_nil, tw720, tw6, by decide +kernel, rfl, by decide +kernel, by decide +kernel⟩
def yX5_origin : MethodName := ⟨RX5, "origin", "(III)I"⟩
def cdX5_origin_0 : List (Nat × Instr × Nat) := [(0, .iload_n 3, 1), (1, .istore 4, 2), (3, .iload_n 2, 1), (4, .istore 5, 2), (6, .iload 5, 2), (8, .iload_n 1, 1), (9, .if_icmp .le 30, 3), (12, .aload_n 0, 1), (13, .getfield 46, 3), (16, .bipush 20, 2), (18, .iload 5, 2), (20, .imul, 1), (21, .iload 4, 2), (23, .iadd, 1), (24, .iaload, 1), (25, .istore 4, 2), (27, .aload_n 0, 1), (28, .getfield 55, 3), (31, .iload 5, 2), (33, .iaload, 1), (34, .istore 5, 2), (36, .goto (-30), 3), (39, .iload 4, 2), (41, .ireturn, 1)]
theorem cdX5_origin_0_ok : ∀ x ∈ cdX5_origin_0, decode prog_7_method_33_code x.1 = .ok x.2 := by decide +kernel
def cdX5_origin : List (Nat × Instr × Nat) := cdX5_origin_0
theorem cdX5_origin_ok : ∀ x ∈ cdX5_origin, decode prog_7_method_33_code x.1 = .ok x.2 := fun x h => cdX5_origin_0_ok x h
def qX5_origin : MI := (RX5, yX5_origin, prog_7_method_33_code, 6, some .int, cdX5_origin, flX5, [], 0, 0)
theorem qX5_origin_ok : MOk qX5_origin := ⟨cdX5_origin_ok, flX5_ok, fun _ h => absurd h List.not_mem_nil, tw732, tw6, by decide +kernel, rfl, by decide +kernel, by decide +kernel⟩
def yX5_isDecided : MethodName := ⟨RX5, "isDecided", "(I)Z"⟩
def cdX5_isDecided_0 : List (Nat × Instr × Nat) := [(0, .aload_n 0, 1), (1, .getfield 52, 3), (4, .iload_n 1, 1), (5, .iaload, 1), (6, .ifCond .ge 5, 3), (9, .iconst 0, 1), (10, .ireturn, 1), (11, .aload_n 0, 1), (12, .getfield 52, 3), (15, .iload_n 1, 1), (16, .iaload, 1), (17, .aload_n 0, 1), (18, .getfield 127, 3), (21, .iconst 1, 1), (22, .isub, 1), (23, .if_icmp .ge 5, 3), (26, .iconst 1, 1), (27, .ireturn, 1), (28, .iload_n 1, 1), (29, .istore_n 2, 1), (30, .aload_n 0, 1), (31, .iload_n 2, 1), (32, .invokevirtual 141, 3), (35, .ifCond .lt 12, 3), (38, .aload_n 0, 1), (39, .iload_n 2, 1), (40, .invokevirtual 141, 3), (43, .istore_n 2, 1), (44, .goto (-14), 3), (47, .bipush (-6), 2), (49, .istore_n 3, 1), (50, .iconst 0, 1), (51, .istore 4, 2), (53, .iload 4, 2), (55, .aload_n 0, 1), (56, .getfield 49, 3), (59, .iload_n 2, 1), (60, .iaload, 1), (61, .if_icmp .ge 49, 3), (64, .aload_n 0, 1), (65, .getfield 43, 3), (68, .bipush 20, 2), (70, .iload_n 2, 1), (71, .imul, 1), (72, .iload 4, 2), (74, .iadd, 1), (75, .iaload, 1), (76, .ifCond .lt 28, 3), (79, .aload_n 0, 1), (80, .iload_n 1, 1), (81, .iload_n 2, 1), (82, .iload 4, 2), (84, .invokevirtual 153, 3), (87, .istore 5, 2), (89, .iload_n 3, 1), (90, .ifCond .lt 11, 3), (93, .iload 5, 2), (95, .iload_n 3, 1), (96, .if_icmp .eq 5, 3), (99, .iconst 0, 1)]
theorem cdX5_isDecided_0_ok : ∀ x ∈ cdX5_isDecided_0, decode prog_7_method_34_code x.1 = .ok x.2 := by decide +kernel
def cdX5_isDecided_1 : List (Nat × Instr × Nat) := [(100, .ireturn, 1), (101, .iload 5, 2), (103, .istore_n 3, 1), (104, .iinc 4 1, 3), (107, .goto (-54), 3), (110, .iconst 1, 1), (111, .ireturn, 1)]
theorem cdX5_isDecided_1_ok : ∀ x ∈ cdX5_isDecided_1, decode prog_7_method_34_code x.1 = .ok x.2 := by decide +kernel
def cdX5_isDecided : List (Nat × Instr × Nat) := cdX5_isDecided_0 ++ (cdX5_isDecided_1)
theorem cdX5_isDecided_ok : ∀ x ∈ cdX5_isDecided, decode prog_7_method_34_code x.1 = .ok x.2 := fun x h => (List.mem_append.mp h).elim (fun h => cdX5_isDecided_0_ok x h) (fun h => cdX5_isDecided_1_ok x h)
def qX5_isDecided : MI := (RX5, yX5_isDecided, prog_7_method_34_code, 6, some .boolean, cdX5_isDecided, flX5, [], 1, 25)
theorem qX5_isDecided_ok : MOk qX5_isDecided := ⟨cdX5_isDecided_ok, flX5_ok, fun _ h => absurd h List.not_mem_nil, tw728, tw6, by decide +kernel, rfl, by decide +kernel, by decide +kernel⟩
def yX5_decided : MethodName := ⟨RX5, "decided", "(I)I"⟩
def cdX5_decided_0 : List (Nat × Instr × Nat) := [(0, .aload_n 0, 1), (1, .iload_n 1, 1), (2, .invokevirtual 147, 3), (5, .ifCond .ne 5, 3), (8, .iconst (-1), 1), (9, .ireturn, 1), (10, .aload_n 0, 1), (11, .invokevirtual 150, 3), (14, .aload_n 0, 1), (15, .iload_n 1, 1), (16, .invokevirtual 156, 3), (19, .ifCond .eq 22, 3), (22, .aload_n 0, 1), (23, .getfield 37, 3), (26, .bipush 20, 2), (28, .iload_n 1, 1), (29, .imul, 1), (30, .aload_n 0, 1), (31, .getfield 58, 3), (34, .iload_n 1, 1), (35, .iaload, 1), (36, .iadd, 1), (37, .iaload, 1), (38, .goto 5, 3), (41, .bipush (-6), 2), (43, .ireturn, 1)]
theorem cdX5_decided_0_ok : ∀ x ∈ cdX5_decided_0, decode prog_7_method_35_code x.1 = .ok x.2 := by decide +kernel
def cdX5_decided : List (Nat × Instr × Nat) := cdX5_decided_0
theorem cdX5_decided_ok : ∀ x ∈ cdX5_decided, decode prog_7_method_35_code x.1 = .ok x.2 := fun x h => cdX5_decided_0_ok x h
def qX5_decided : MI := (RX5, yX5_decided, prog_7_method_35_code, 2, some .int, cdX5_decided, flX5, [], 8, 196)
theorem qX5_decided_ok : MOk qX5_decided := ⟨cdX5_decided_ok, flX5_ok, fun _ h => absurd h List.not_mem_nil, tw724, tw6, by decide +kernel, rfl, by decide +kernel, by decide +kernel⟩
def yX5_piece : MethodName := ⟨RX5, "piece", "(I)I"⟩
def cdX5_piece_0 : List (Nat × Instr × Nat) := [(0, .aload_n 0, 1), (1, .iload_n 1, 1), (2, .invokevirtual 147, 3), (5, .ifCond .ne 5, 3), (8, .iconst (-1), 1), (9, .ireturn, 1), (10, .aload_n 0, 1), (11, .invokevirtual 150, 3), (14, .aload_n 0, 1), (15, .getfield 52, 3), (18, .iload_n 1, 1), (19, .iaload, 1), (20, .ireturn, 1)]
theorem cdX5_piece_0_ok : ∀ x ∈ cdX5_piece_0, decode prog_7_method_36_code x.1 = .ok x.2 := by decide +kernel
def cdX5_piece : List (Nat × Instr × Nat) := cdX5_piece_0
theorem cdX5_piece_ok : ∀ x ∈ cdX5_piece, decode prog_7_method_36_code x.1 = .ok x.2 := fun x h => cdX5_piece_0_ok x h
def qX5_piece : MI := (RX5, yX5_piece, prog_7_method_36_code, 2, some .int, cdX5_piece, flX5, [], 8, 196)
theorem qX5_piece_ok : MOk qX5_piece := ⟨cdX5_piece_ok, flX5_ok, fun _ h => absurd h List.not_mem_nil, tw736, tw6, by decide +kernel, rfl, by decide +kernel, by decide +kernel⟩
def yX5_stepOf : MethodName := ⟨RX5, "stepOf", "(I)I"⟩
def cdX5_stepOf_0 : List (Nat × Instr × Nat) := [(0, .aload_n 0, 1), (1, .getfield 52, 3), (4, .iload_n 1, 1), (5, .iaload, 1), (6, .ifCond .lt 12, 3), (9, .aload_n 0, 1), (10, .getfield 55, 3), (13, .iload_n 1, 1), (14, .iaload, 1), (15, .ifCond .ge 8, 3), (18, .bipush (-6), 2), (20, .goto 49, 3), (23, .aload_n 0, 1), (24, .aload_n 0, 1), (25, .getfield 37, 3), (28, .bipush 20, 2), (30, .aload_n 0, 1), (31, .getfield 55, 3), (34, .iload_n 1, 1), (35, .iaload, 1), (36, .imul, 1), (37, .aload_n 0, 1), (38, .getfield 58, 3), (41, .aload_n 0, 1), (42, .getfield 55, 3), (45, .iload_n 1, 1), (46, .iaload, 1), (47, .iaload, 1), (48, .iadd, 1), (49, .iaload, 1), (50, .aload_n 0, 1), (51, .getfield 37, 3), (54, .bipush 20, 2), (56, .iload_n 1, 1), (57, .imul, 1), (58, .aload_n 0, 1), (59, .getfield 58, 3), (62, .iload_n 1, 1), (63, .iaload, 1), (64, .iadd, 1), (65, .iaload, 1), (66, .invokevirtual 121, 3), (69, .ireturn, 1)]
theorem cdX5_stepOf_0_ok : ∀ x ∈ cdX5_stepOf_0, decode prog_7_method_37_code x.1 = .ok x.2 := by decide +kernel
def cdX5_stepOf : List (Nat × Instr × Nat) := cdX5_stepOf_0
theorem cdX5_stepOf_ok : ∀ x ∈ cdX5_stepOf, decode prog_7_method_37_code x.1 = .ok x.2 := fun x h => cdX5_stepOf_0_ok x h
def qX5_stepOf : MI := (RX5, yX5_stepOf, prog_7_method_37_code, 2, some .int, cdX5_stepOf, flX5, [], 6, 145)
theorem qX5_stepOf_ok : MOk qX5_stepOf := ⟨cdX5_stepOf_ok, flX5_ok, fun _ h => absurd h List.not_mem_nil, tw744, tw6, by decide +kernel, rfl, by decide +kernel, by decide +kernel⟩
def yX5_step : MethodName := ⟨RX5, "step", "(I)I"⟩
def cdX5_step_0 : List (Nat × Instr × Nat) := [(0, .aload_n 0, 1), (1, .iload_n 1, 1), (2, .invokevirtual 147, 3), (5, .ifCond .ne 5, 3), (8, .iconst (-1), 1), (9, .ireturn, 1), (10, .aload_n 0, 1), (11, .invokevirtual 150, 3), (14, .aload_n 0, 1), (15, .iload_n 1, 1), (16, .invokevirtual 159, 3), (19, .ireturn, 1)]
theorem cdX5_step_0_ok : ∀ x ∈ cdX5_step_0, decode prog_7_method_38_code x.1 = .ok x.2 := by decide +kernel
def cdX5_step : List (Nat × Instr × Nat) := cdX5_step_0
theorem cdX5_step_ok : ∀ x ∈ cdX5_step, decode prog_7_method_38_code x.1 = .ok x.2 := fun x h => cdX5_step_0_ok x h
def qX5_step : MI := (RX5, yX5_step, prog_7_method_38_code, 2, some .int, cdX5_step, flX5, [], 8, 196)
theorem qX5_step_ok : MOk qX5_step := ⟨cdX5_step_ok, flX5_ok, fun _ h => absurd h List.not_mem_nil, tw740, tw6, by decide +kernel, rfl, by decide +kernel, by decide +kernel⟩
def yX5_onward : MethodName := ⟨RX5, "onward", "(II)I"⟩
def cdX5_onward_0 : List (Nat × Instr × Nat) := [(0, .bipush (-6), 2), (2, .istore_n 3, 1), (3, .iconst 0, 1), (4, .istore 4, 2), (6, .iload 4, 2), (8, .aload_n 0, 1), (9, .getfield 87, 3), (12, .if_icmp .ge 120, 3), (15, .aload_n 0, 1), (16, .getfield 16, 3), (19, .iload 4, 2), (21, .iaload, 1), (22, .iload_n 1, 1), (23, .if_icmp .ne 13, 3), (26, .aload_n 0, 1), (27, .getfield 19, 3), (30, .iload 4, 2), (32, .iaload, 1), (33, .goto 36, 3), (36, .aload_n 0, 1), (37, .getfield 19, 3), (40, .iload 4, 2), (42, .iaload, 1), (43, .iload_n 1, 1), (44, .if_icmp .ne 23, 3), (47, .aload_n 0, 1), (48, .getfield 22, 3), (51, .iload 4, 2), (53, .iaload, 1), (54, .ifCond .ne 13, 3), (57, .aload_n 0, 1), (58, .getfield 16, 3), (61, .iload 4, 2), (63, .iaload, 1), (64, .goto 5, 3), (67, .bipush (-6), 2), (69, .istore 5, 2), (71, .iload 5, 2), (73, .ifCond .lt 53, 3), (76, .aload_n 0, 1), (77, .iload 4, 2), (79, .invokevirtual 98, 3), (82, .aload_n 0, 1), (83, .getfield 34, 3), (86, .bipush 12, 2), (88, .iload 5, 2), (90, .imul, 1), (91, .iload_n 2, 1), (92, .iadd, 1), (93, .iaload, 1), (94, .iadd, 1), (95, .aload_n 0, 1), (96, .getfield 34, 3), (99, .bipush 12, 2), (101, .iload_n 1, 1), (102, .imul, 1), (103, .iload_n 2, 1), (104, .iadd, 1), (105, .iaload, 1), (106, .if_icmp .ne 20, 3)]
theorem cdX5_onward_0_ok : ∀ x ∈ cdX5_onward_0, decode prog_7_method_39_code x.1 = .ok x.2 := by decide +kernel
def cdX5_onward_1 : List (Nat × Instr × Nat) := [(109, .iload_n 3, 1), (110, .ifCond .lt 9, 3), (113, .iload 5, 2), (115, .iload_n 3, 1), (116, .if_icmp .ge 8, 3), (119, .iload 5, 2), (121, .goto 4, 3), (124, .iload_n 3, 1), (125, .istore_n 3, 1), (126, .iinc 4 1, 3), (129, .goto (-123), 3), (132, .iload_n 3, 1), (133, .ireturn, 1)]
theorem cdX5_onward_1_ok : ∀ x ∈ cdX5_onward_1, decode prog_7_method_39_code x.1 = .ok x.2 := by decide +kernel
def cdX5_onward : List (Nat × Instr × Nat) := cdX5_onward_0 ++ (cdX5_onward_1)
theorem cdX5_onward_ok : ∀ x ∈ cdX5_onward, decode prog_7_method_39_code x.1 = .ok x.2 := fun x h => (List.mem_append.mp h).elim (fun h => cdX5_onward_0_ok x h) (fun h => cdX5_onward_1_ok x h)
def qX5_onward : MI := (RX5, yX5_onward, prog_7_method_39_code, 6, some .int, cdX5_onward, flX5, [], 3, 65)
theorem qX5_onward_ok : MOk qX5_onward := ⟨cdX5_onward_ok, flX5_ok, fun _ h => absurd h List.not_mem_nil, tw752, tw6, by decide +kernel, rfl, by decide +kernel, by decide +kernel⟩
def yX5_through : MethodName := ⟨RX5, "through", "(II)I"⟩
def cdX5_through_0 : List (Nat × Instr × Nat) := [(0, .aload_n 0, 1), (1, .iload_n 1, 1), (2, .invokevirtual 147, 3), (5, .ifCond .ne 5, 3), (8, .iconst (-1), 1), (9, .ireturn, 1), (10, .aload_n 0, 1), (11, .invokevirtual 150, 3), (14, .aload_n 0, 1), (15, .iload_n 1, 1), (16, .invokevirtual 159, 3), (19, .ifCond .ge 6, 3), (22, .bipush (-6), 2), (24, .ireturn, 1), (25, .aload_n 0, 1), (26, .getfield 37, 3), (29, .bipush 20, 2), (31, .aload_n 0, 1), (32, .getfield 55, 3), (35, .iload_n 1, 1), (36, .iaload, 1), (37, .imul, 1), (38, .aload_n 0, 1), (39, .getfield 58, 3), (42, .aload_n 0, 1), (43, .getfield 55, 3), (46, .iload_n 1, 1), (47, .iaload, 1), (48, .iaload, 1), (49, .iadd, 1), (50, .iaload, 1), (51, .istore_n 3, 1), (52, .aload_n 0, 1), (53, .getfield 37, 3), (56, .bipush 20, 2), (58, .iload_n 1, 1), (59, .imul, 1), (60, .aload_n 0, 1), (61, .getfield 58, 3), (64, .iload_n 1, 1), (65, .iaload, 1), (66, .iadd, 1), (67, .iaload, 1), (68, .istore 4, 2), (70, .aload_n 0, 1), (71, .iload_n 3, 1), (72, .iload 4, 2), (74, .invokevirtual 115, 3), (77, .istore 5, 2), (79, .iload 5, 2), (81, .ifCond .eq 7, 3), (84, .iload_n 2, 1), (85, .ifCond .ge 6, 3), (88, .bipush (-6), 2), (90, .ireturn, 1), (91, .iload 5, 2), (93, .iconst 3, 1), (94, .if_icmp .ge 15, 3), (97, .aload_n 0, 1), (98, .getfield 16, 3)]
theorem cdX5_through_0_ok : ∀ x ∈ cdX5_through_0, decode prog_7_method_40_code x.1 = .ok x.2 := by decide +kernel
def cdX5_through_1 : List (Nat × Instr × Nat) := [(101, .iload_n 3, 1), (102, .bipush 100, 2), (104, .idiv, 1), (105, .iaload, 1), (106, .goto 12, 3), (109, .aload_n 0, 1), (110, .getfield 19, 3), (113, .iload_n 3, 1), (114, .bipush 100, 2), (116, .idiv, 1), (117, .iaload, 1), (118, .istore 6, 2), (120, .iload 5, 2), (122, .iconst 2, 1), (123, .irem, 1), (124, .ifCond .ne 16, 3), (127, .aload_n 0, 1), (128, .getfield 19, 3), (131, .iload 4, 2), (133, .bipush 100, 2), (135, .idiv, 1), (136, .iaload, 1), (137, .goto 13, 3), (140, .aload_n 0, 1), (141, .getfield 16, 3), (144, .iload 4, 2), (146, .bipush 100, 2), (148, .idiv, 1), (149, .iaload, 1), (150, .istore 7, 2), (152, .iconst 0, 1), (153, .istore 8, 2), (155, .iload 8, 2), (157, .iload_n 2, 1), (158, .if_icmp .ge 29, 3), (161, .iload 6, 2), (163, .iload 7, 2), (165, .if_icmp .ne 6, 3), (168, .bipush (-6), 2), (170, .ireturn, 1), (171, .aload_n 0, 1), (172, .iload 6, 2), (174, .iload 7, 2), (176, .invokevirtual 162, 3), (179, .istore 6, 2), (181, .iinc 8 1, 3), (184, .goto (-29), 3), (187, .iload 6, 2), (189, .ireturn, 1)]
theorem cdX5_through_1_ok : ∀ x ∈ cdX5_through_1, decode prog_7_method_40_code x.1 = .ok x.2 := by decide +kernel
def cdX5_through : List (Nat × Instr × Nat) := cdX5_through_0 ++ (cdX5_through_1)
theorem cdX5_through_ok : ∀ x ∈ cdX5_through, decode prog_7_method_40_code x.1 = .ok x.2 := fun x h => (List.mem_append.mp h).elim (fun h => cdX5_through_0_ok x h) (fun h => cdX5_through_1_ok x h)
def qX5_through : MI := (RX5, yX5_through, prog_7_method_40_code, 9, some .int, cdX5_through, flX5, [], 8, 196)
theorem qX5_through_ok : MOk qX5_through := ⟨cdX5_through_ok, flX5_ok, fun _ h => absurd h List.not_mem_nil, tw748, tw6, by decide +kernel, rfl, by decide +kernel, by decide +kernel⟩
def yX5_total : MethodName := ⟨RX5, "total", "(I)I"⟩
def cdX5_total_0 : List (Nat × Instr × Nat) := [(0, .iload_n 1, 1), (1, .iconst 0, 1), (2, .iconst 4, 1), (3, .invokestatic 76, 3), (6, .ifCond .ne 6, 3), (9, .bipush (-2), 2), (11, .ireturn, 1), (12, .aload_n 0, 1), (13, .invokevirtual 150, 3), (16, .iconst 0, 1), (17, .istore_n 2, 1), (18, .iconst 0, 1), (19, .istore_n 3, 1), (20, .iload_n 3, 1), (21, .aload_n 0, 1), (22, .getfield 80, 3), (25, .if_icmp .ge 155, 3), (28, .iload_n 1, 1), (29, .tableswitch 140 0 4 #[35, 140, 78, 98, 117], 35), (64, .iload_n 2, 1), (65, .aload_n 0, 1), (66, .getfield 52, 3), (69, .iload_n 3, 1), (70, .iaload, 1), (71, .ifCond .lt 30, 3), (74, .aload_n 0, 1), (75, .iload_n 3, 1), (76, .invokevirtual 141, 3), (79, .ifCond .ge 22, 3), (82, .aload_n 0, 1), (83, .getfield 43, 3), (86, .bipush 20, 2), (88, .iload_n 3, 1), (89, .imul, 1), (90, .aload_n 0, 1), (91, .getfield 58, 3), (94, .iload_n 3, 1), (95, .iaload, 1), (96, .iadd, 1), (97, .iaload, 1), (98, .goto 4, 3), (101, .iconst 0, 1), (102, .iadd, 1), (103, .istore_n 2, 1), (104, .goto 70, 3), (107, .iload_n 2, 1), (108, .aload_n 0, 1), (109, .getfield 52, 3), (112, .iload_n 3, 1), (113, .iaload, 1), (114, .ifCond .ge 7, 3), (117, .iconst 1, 1), (118, .goto 4, 3), (121, .iconst 0, 1), (122, .iadd, 1), (123, .istore_n 2, 1), (124, .goto 50, 3), (127, .iload_n 2, 1), (128, .aload_n 0, 1), (129, .iload_n 3, 1)]
theorem cdX5_total_0_ok : ∀ x ∈ cdX5_total_0, decode prog_7_method_41_code x.1 = .ok x.2 := by decide +kernel
def cdX5_total_1 : List (Nat × Instr × Nat) := [(130, .invokevirtual 156, 3), (133, .ifCond .eq 7, 3), (136, .iconst 1, 1), (137, .goto 4, 3), (140, .iconst 0, 1), (141, .iadd, 1), (142, .istore_n 2, 1), (143, .goto 31, 3), (146, .iload_n 2, 1), (147, .aload_n 0, 1), (148, .iload_n 3, 1), (149, .invokevirtual 159, 3), (152, .ifCond .lt 11, 3), (155, .aload_n 0, 1), (156, .iload_n 3, 1), (157, .invokevirtual 159, 3), (160, .goto 4, 3), (163, .iconst 0, 1), (164, .iadd, 1), (165, .istore_n 2, 1), (166, .goto 8, 3), (169, .aload_n 0, 1), (170, .getfield 127, 3), (173, .istore_n 2, 1), (174, .iinc 3 1, 3), (177, .goto (-157), 3), (180, .iload_n 2, 1), (181, .ireturn, 1)]
theorem cdX5_total_1_ok : ∀ x ∈ cdX5_total_1, decode prog_7_method_41_code x.1 = .ok x.2 := by decide +kernel
def cdX5_total : List (Nat × Instr × Nat) := cdX5_total_0 ++ (cdX5_total_1)
theorem cdX5_total_ok : ∀ x ∈ cdX5_total, decode prog_7_method_41_code x.1 = .ok x.2 := fun x h => (List.mem_append.mp h).elim (fun h => cdX5_total_0_ok x h) (fun h => cdX5_total_1_ok x h)
def qX5_total : MI := (RX5, yX5_total, prog_7_method_41_code, 4, some .int, cdX5_total, flX5, [], 8, 196)
theorem qX5_total_ok : MOk qX5_total := ⟨cdX5_total_ok, flX5_ok, fun _ h => absurd h List.not_mem_nil, tw756, tw6, by decide +kernel, rfl, by decide +kernel, by decide +kernel⟩
def yX5_image : MethodName := ⟨RX5, "image", "(I)I"⟩
def cdX5_image_0 : List (Nat × Instr × Nat) := [(0, .iload_n 1, 1), (1, .iconst 0, 1), (2, .iconst 1, 1), (3, .invokestatic 76, 3), (6, .ifCond .ne 6, 3), (9, .bipush (-2), 2), (11, .ireturn, 1), (12, .sipush 130, 3), (15, .iload_n 1, 1), (16, .imul, 1), (17, .istore_n 2, 1), (18, .iconst 0, 1), (19, .istore_n 3, 1), (20, .iload_n 3, 1), (21, .bipush 12, 2), (23, .if_icmp .ge 40, 3), (26, .aload_n 0, 1), (27, .getfield 61, 3), (30, .iload_n 2, 1), (31, .iload_n 3, 1), (32, .iadd, 1), (33, .aload_n 0, 1), (34, .getfield 7, 3), (37, .iload_n 3, 1), (38, .iaload, 1), (39, .iastore, 1), (40, .aload_n 0, 1), (41, .getfield 61, 3), (44, .iload_n 2, 1), (45, .bipush 12, 2), (47, .iadd, 1), (48, .iload_n 3, 1), (49, .iadd, 1), (50, .aload_n 0, 1), (51, .getfield 13, 3), (54, .iload_n 3, 1), (55, .iaload, 1), (56, .iastore, 1), (57, .iinc 3 1, 3), (60, .goto (-40), 3), (63, .iconst 0, 1), (64, .istore_n 3, 1), (65, .iload_n 3, 1), (66, .bipush 20, 2), (68, .if_icmp .ge 60, 3), (71, .aload_n 0, 1), (72, .getfield 61, 3), (75, .iload_n 2, 1), (76, .bipush 24, 2), (78, .iadd, 1), (79, .iload_n 3, 1), (80, .iadd, 1), (81, .aload_n 0, 1), (82, .getfield 16, 3), (85, .iload_n 3, 1), (86, .iaload, 1), (87, .iastore, 1), (88, .aload_n 0, 1), (89, .getfield 61, 3), (92, .iload_n 2, 1)]
theorem cdX5_image_0_ok : ∀ x ∈ cdX5_image_0, decode prog_7_method_42_code x.1 = .ok x.2 := by decide +kernel
def cdX5_image_1 : List (Nat × Instr × Nat) := [(93, .bipush 44, 2), (95, .iadd, 1), (96, .iload_n 3, 1), (97, .iadd, 1), (98, .aload_n 0, 1), (99, .getfield 19, 3), (102, .iload_n 3, 1), (103, .iaload, 1), (104, .iastore, 1), (105, .aload_n 0, 1), (106, .getfield 61, 3), (109, .iload_n 2, 1), (110, .bipush 64, 2), (112, .iadd, 1), (113, .iload_n 3, 1), (114, .iadd, 1), (115, .aload_n 0, 1), (116, .getfield 22, 3), (119, .iload_n 3, 1), (120, .iaload, 1), (121, .iastore, 1), (122, .iinc 3 1, 3), (125, .goto (-60), 3), (128, .iconst 0, 1), (129, .istore_n 3, 1), (130, .iload_n 3, 1), (131, .bipush 16, 2), (133, .if_icmp .ge 43, 3), (136, .aload_n 0, 1), (137, .getfield 61, 3), (140, .iload_n 2, 1), (141, .bipush 84, 2), (143, .iadd, 1), (144, .iload_n 3, 1), (145, .iadd, 1), (146, .aload_n 0, 1), (147, .getfield 28, 3), (150, .iload_n 3, 1), (151, .iaload, 1), (152, .iastore, 1), (153, .aload_n 0, 1), (154, .getfield 61, 3), (157, .iload_n 2, 1), (158, .bipush 100, 2), (160, .iadd, 1), (161, .iload_n 3, 1), (162, .iadd, 1), (163, .aload_n 0, 1), (164, .getfield 31, 3), (167, .iload_n 3, 1), (168, .iaload, 1), (169, .iastore, 1), (170, .iinc 3 1, 3), (173, .goto (-43), 3), (176, .iconst 0, 1), (177, .istore_n 3, 1), (178, .iload_n 3, 1), (179, .iconst 4, 1), (180, .if_icmp .ge 26, 3), (183, .aload_n 0, 1)]
theorem cdX5_image_1_ok : ∀ x ∈ cdX5_image_1, decode prog_7_method_42_code x.1 = .ok x.2 := by decide +kernel
def cdX5_image_2 : List (Nat × Instr × Nat) := [(184, .getfield 61, 3), (187, .iload_n 2, 1), (188, .bipush 116, 2), (190, .iadd, 1), (191, .iload_n 3, 1), (192, .iadd, 1), (193, .aload_n 0, 1), (194, .getfield 25, 3), (197, .iload_n 3, 1), (198, .iaload, 1), (199, .iastore, 1), (200, .iinc 3 1, 3), (203, .goto (-25), 3), (206, .aload_n 0, 1), (207, .getfield 61, 3), (210, .iload_n 2, 1), (211, .bipush 120, 2), (213, .iadd, 1), (214, .aload_n 0, 1), (215, .getfield 72, 3), (218, .iastore, 1), (219, .aload_n 0, 1), (220, .getfield 61, 3), (223, .iload_n 2, 1), (224, .bipush 121, 2), (226, .iadd, 1), (227, .aload_n 0, 1), (228, .getfield 87, 3), (231, .iastore, 1), (232, .aload_n 0, 1), (233, .getfield 61, 3), (236, .iload_n 2, 1), (237, .bipush 122, 2), (239, .iadd, 1), (240, .aload_n 0, 1), (241, .getfield 80, 3), (244, .iastore, 1), (245, .aload_n 0, 1), (246, .getfield 64, 3), (249, .iload_n 1, 1), (250, .iconst 1, 1), (251, .bastore, 1), (252, .iconst 1, 1), (253, .ireturn, 1)]
theorem cdX5_image_2_ok : ∀ x ∈ cdX5_image_2, decode prog_7_method_42_code x.1 = .ok x.2 := by decide +kernel
def cdX5_image : List (Nat × Instr × Nat) := cdX5_image_0 ++ (cdX5_image_1 ++ (cdX5_image_2))
theorem cdX5_image_ok : ∀ x ∈ cdX5_image, decode prog_7_method_42_code x.1 = .ok x.2 := fun x h => (List.mem_append.mp h).elim (fun h => cdX5_image_0_ok x h) (fun h => (List.mem_append.mp h).elim (fun h => cdX5_image_1_ok x h) (fun h => cdX5_image_2_ok x h))
def qX5_image : MI := (RX5, yX5_image, prog_7_method_42_code, 4, some .int, cdX5_image, flX5, [], 1, 22)
theorem qX5_image_ok : MOk qX5_image := ⟨cdX5_image_ok, flX5_ok, fun _ h => absurd h List.not_mem_nil, tw760, tw6, by decide +kernel, rfl, by decide +kernel, by decide +kernel⟩
def yX5_restore : MethodName := ⟨RX5, "restore", "(I)I"⟩
def cdX5_restore_0 : List (Nat × Instr × Nat) := [(0, .iload_n 1, 1), (1, .iconst 0, 1), (2, .iconst 1, 1), (3, .invokestatic 76, 3), (6, .ifCond .ne 6, 3), (9, .bipush (-2), 2), (11, .ireturn, 1), (12, .aload_n 0, 1), (13, .getfield 64, 3), (16, .iload_n 1, 1), (17, .baload, 1), (18, .ifCond .ne 6, 3), (21, .bipush (-3), 2), (23, .ireturn, 1), (24, .sipush 130, 3), (27, .iload_n 1, 1), (28, .imul, 1), (29, .istore_n 2, 1), (30, .iconst 0, 1), (31, .istore_n 3, 1), (32, .iload_n 3, 1), (33, .bipush 12, 2), (35, .if_icmp .ge 40, 3), (38, .aload_n 0, 1), (39, .getfield 7, 3), (42, .iload_n 3, 1), (43, .aload_n 0, 1), (44, .getfield 61, 3), (47, .iload_n 2, 1), (48, .iload_n 3, 1), (49, .iadd, 1), (50, .iaload, 1), (51, .iastore, 1), (52, .aload_n 0, 1), (53, .getfield 13, 3), (56, .iload_n 3, 1), (57, .aload_n 0, 1), (58, .getfield 61, 3), (61, .iload_n 2, 1), (62, .bipush 12, 2), (64, .iadd, 1), (65, .iload_n 3, 1), (66, .iadd, 1), (67, .iaload, 1), (68, .iastore, 1), (69, .iinc 3 1, 3), (72, .goto (-40), 3), (75, .iconst 0, 1), (76, .istore_n 3, 1), (77, .iload_n 3, 1), (78, .bipush 20, 2), (80, .if_icmp .ge 60, 3), (83, .aload_n 0, 1), (84, .getfield 16, 3), (87, .iload_n 3, 1), (88, .aload_n 0, 1), (89, .getfield 61, 3), (92, .iload_n 2, 1), (93, .bipush 24, 2), (95, .iadd, 1)]
theorem cdX5_restore_0_ok : ∀ x ∈ cdX5_restore_0, decode prog_7_method_43_code x.1 = .ok x.2 := by decide +kernel
def cdX5_restore_1 : List (Nat × Instr × Nat) := [(96, .iload_n 3, 1), (97, .iadd, 1), (98, .iaload, 1), (99, .iastore, 1), (100, .aload_n 0, 1), (101, .getfield 19, 3), (104, .iload_n 3, 1), (105, .aload_n 0, 1), (106, .getfield 61, 3), (109, .iload_n 2, 1), (110, .bipush 44, 2), (112, .iadd, 1), (113, .iload_n 3, 1), (114, .iadd, 1), (115, .iaload, 1), (116, .iastore, 1), (117, .aload_n 0, 1), (118, .getfield 22, 3), (121, .iload_n 3, 1), (122, .aload_n 0, 1), (123, .getfield 61, 3), (126, .iload_n 2, 1), (127, .bipush 64, 2), (129, .iadd, 1), (130, .iload_n 3, 1), (131, .iadd, 1), (132, .iaload, 1), (133, .iastore, 1), (134, .iinc 3 1, 3), (137, .goto (-60), 3), (140, .iconst 0, 1), (141, .istore_n 3, 1), (142, .iload_n 3, 1), (143, .bipush 16, 2), (145, .if_icmp .ge 43, 3), (148, .aload_n 0, 1), (149, .getfield 28, 3), (152, .iload_n 3, 1), (153, .aload_n 0, 1), (154, .getfield 61, 3), (157, .iload_n 2, 1), (158, .bipush 84, 2), (160, .iadd, 1), (161, .iload_n 3, 1), (162, .iadd, 1), (163, .iaload, 1), (164, .iastore, 1), (165, .aload_n 0, 1), (166, .getfield 31, 3), (169, .iload_n 3, 1), (170, .aload_n 0, 1), (171, .getfield 61, 3), (174, .iload_n 2, 1), (175, .bipush 100, 2), (177, .iadd, 1), (178, .iload_n 3, 1), (179, .iadd, 1), (180, .iaload, 1), (181, .iastore, 1), (182, .iinc 3 1, 3)]
theorem cdX5_restore_1_ok : ∀ x ∈ cdX5_restore_1, decode prog_7_method_43_code x.1 = .ok x.2 := by decide +kernel
def cdX5_restore_2 : List (Nat × Instr × Nat) := [(185, .goto (-43), 3), (188, .iconst 0, 1), (189, .istore_n 3, 1), (190, .iload_n 3, 1), (191, .iconst 4, 1), (192, .if_icmp .ge 26, 3), (195, .aload_n 0, 1), (196, .getfield 25, 3), (199, .iload_n 3, 1), (200, .aload_n 0, 1), (201, .getfield 61, 3), (204, .iload_n 2, 1), (205, .bipush 116, 2), (207, .iadd, 1), (208, .iload_n 3, 1), (209, .iadd, 1), (210, .iaload, 1), (211, .iastore, 1), (212, .iinc 3 1, 3), (215, .goto (-25), 3), (218, .aload_n 0, 1), (219, .aload_n 0, 1), (220, .getfield 61, 3), (223, .iload_n 2, 1), (224, .bipush 120, 2), (226, .iadd, 1), (227, .iaload, 1), (228, .putfield 72, 3), (231, .aload_n 0, 1), (232, .aload_n 0, 1), (233, .getfield 61, 3), (236, .iload_n 2, 1), (237, .bipush 121, 2), (239, .iadd, 1), (240, .iaload, 1), (241, .putfield 87, 3), (244, .aload_n 0, 1), (245, .aload_n 0, 1), (246, .getfield 61, 3), (249, .iload_n 2, 1), (250, .bipush 122, 2), (252, .iadd, 1), (253, .iaload, 1), (254, .putfield 80, 3), (257, .iconst 1, 1), (258, .ireturn, 1)]
theorem cdX5_restore_2_ok : ∀ x ∈ cdX5_restore_2, decode prog_7_method_43_code x.1 = .ok x.2 := by decide +kernel
def cdX5_restore : List (Nat × Instr × Nat) := cdX5_restore_0 ++ (cdX5_restore_1 ++ (cdX5_restore_2))
theorem cdX5_restore_ok : ∀ x ∈ cdX5_restore, decode prog_7_method_43_code x.1 = .ok x.2 := fun x h => (List.mem_append.mp h).elim (fun h => cdX5_restore_0_ok x h) (fun h => (List.mem_append.mp h).elim (fun h => cdX5_restore_1_ok x h) (fun h => cdX5_restore_2_ok x h))
def qX5_restore : MI := (RX5, yX5_restore, prog_7_method_43_code, 4, some .int, cdX5_restore, flX5, [], 1, 22)
theorem qX5_restore_ok : MOk qX5_restore := ⟨cdX5_restore_ok, flX5_ok, fun _ h => absurd h List.not_mem_nil, tw764, tw6, by decide +kernel, rfl, by decide +kernel, by decide +kernel⟩
def yX5_told : MethodName := ⟨RX5, "told", "(I)I"⟩
def cdX5_told_0 : List (Nat × Instr × Nat) := [(0, .iload_n 1, 1), (1, .sipush 300, 3), (4, .if_icmp .lt 39, 3), (7, .iload_n 1, 1), (8, .sipush 300, 3), (11, .isub, 1), (12, .istore_n 2, 1), (13, .aload_n 0, 1), (14, .iload_n 2, 1), (15, .invokevirtual 147, 3), (18, .ifCond .eq 22, 3), (21, .bipush 100, 2), (23, .aload_n 0, 1), (24, .getfield 28, 3), (27, .iload_n 2, 1), (28, .iaload, 1), (29, .imul, 1), (30, .aload_n 0, 1), (31, .getfield 31, 3), (34, .iload_n 2, 1), (35, .iaload, 1), (36, .iadd, 1), (37, .goto 5, 3), (40, .bipush (-2), 2), (42, .ireturn, 1), (43, .iload_n 1, 1), (44, .sipush 200, 3), (47, .if_icmp .lt 56, 3), (50, .iload_n 1, 1), (51, .sipush 200, 3), (54, .isub, 1), (55, .istore_n 2, 1), (56, .iload_n 2, 1), (57, .iconst 0, 1), (58, .aload_n 0, 1), (59, .getfield 87, 3), (62, .iconst 1, 1), (63, .isub, 1), (64, .invokestatic 76, 3), (67, .ifCond .eq 33, 3), (70, .sipush 1000, 3), (73, .aload_n 0, 1), (74, .getfield 16, 3), (77, .iload_n 2, 1), (78, .iaload, 1), (79, .imul, 1), (80, .bipush 10, 2), (82, .aload_n 0, 1), (83, .getfield 19, 3), (86, .iload_n 2, 1), (87, .iaload, 1), (88, .imul, 1), (89, .iadd, 1), (90, .aload_n 0, 1), (91, .getfield 22, 3), (94, .iload_n 2, 1), (95, .iaload, 1), (96, .iadd, 1), (97, .goto 5, 3), (100, .bipush (-2), 2)]
theorem cdX5_told_0_ok : ∀ x ∈ cdX5_told_0, decode prog_7_method_44_code x.1 = .ok x.2 := by decide +kernel
def cdX5_told_1 : List (Nat × Instr × Nat) := [(102, .ireturn, 1), (103, .iload_n 1, 1), (104, .bipush 100, 2), (106, .if_icmp .lt 38, 3), (109, .iload_n 1, 1), (110, .bipush 100, 2), (112, .isub, 1), (113, .istore_n 2, 1), (114, .aload_n 0, 1), (115, .iload_n 2, 1), (116, .invokevirtual 83, 3), (119, .ifCond .eq 22, 3), (122, .bipush 100, 2), (124, .aload_n 0, 1), (125, .getfield 7, 3), (128, .iload_n 2, 1), (129, .iaload, 1), (130, .imul, 1), (131, .aload_n 0, 1), (132, .getfield 13, 3), (135, .iload_n 2, 1), (136, .iaload, 1), (137, .iadd, 1), (138, .goto 5, 3), (141, .bipush (-2), 2), (143, .ireturn, 1), (144, .iload_n 1, 1), (145, .tableswitch 42 0 2 #[27, 32, 37], 27), (172, .aload_n 0, 1), (173, .getfield 72, 3), (176, .ireturn, 1), (177, .aload_n 0, 1), (178, .getfield 87, 3), (181, .ireturn, 1), (182, .aload_n 0, 1), (183, .getfield 80, 3), (186, .ireturn, 1), (187, .iload_n 1, 1), (188, .iconst 3, 1), (189, .bipush 6, 2), (191, .invokestatic 76, 3), (194, .ifCond .eq 14, 3), (197, .aload_n 0, 1), (198, .getfield 25, 3), (201, .iload_n 1, 1), (202, .iconst 3, 1), (203, .isub, 1), (204, .iaload, 1), (205, .goto 5, 3), (208, .bipush (-2), 2), (210, .ireturn, 1)]
theorem cdX5_told_1_ok : ∀ x ∈ cdX5_told_1, decode prog_7_method_44_code x.1 = .ok x.2 := by decide +kernel
def cdX5_told : List (Nat × Instr × Nat) := cdX5_told_0 ++ (cdX5_told_1)
theorem cdX5_told_ok : ∀ x ∈ cdX5_told, decode prog_7_method_44_code x.1 = .ok x.2 := fun x h => (List.mem_append.mp h).elim (fun h => cdX5_told_0_ok x h) (fun h => cdX5_told_1_ok x h)
def qX5_told : MI := (RX5, yX5_told, prog_7_method_44_code, 3, some .int, cdX5_told, flX5, [], 2, 43)
theorem qX5_told_ok : MOk qX5_told := ⟨cdX5_told_ok, flX5_ok, fun _ h => absurd h List.not_mem_nil, tw768, tw6, by decide +kernel, rfl, by decide +kernel, by decide +kernel⟩
def yJ6_bitCount : MethodName := ⟨"java/lang/Integer", "bitCount", "(I)I"⟩
def cdJ6_bitCount_0 : List (Nat × Instr × Nat) := [(0, .iload_n 0, 1), (1, .iload_n 0, 1), (2, .iconst 1, 1), (3, .iushr, 1), (4, .ldc_w 265, 3), (7, .iand, 1), (8, .isub, 1), (9, .istore_n 0, 1), (10, .iload_n 0, 1), (11, .ldc_w 266, 3), (14, .iand, 1), (15, .iload_n 0, 1), (16, .iconst 2, 1), (17, .iushr, 1), (18, .ldc_w 266, 3), (21, .iand, 1), (22, .iadd, 1), (23, .istore_n 0, 1), (24, .iload_n 0, 1), (25, .iload_n 0, 1), (26, .iconst 4, 1), (27, .iushr, 1), (28, .iadd, 1), (29, .ldc_w 267, 3), (32, .iand, 1), (33, .istore_n 0, 1), (34, .iload_n 0, 1), (35, .iload_n 0, 1), (36, .bipush 8, 2), (38, .iushr, 1), (39, .iadd, 1), (40, .istore_n 0, 1), (41, .iload_n 0, 1), (42, .iload_n 0, 1), (43, .bipush 16, 2), (45, .iushr, 1), (46, .iadd, 1), (47, .istore_n 0, 1), (48, .iload_n 0, 1), (49, .bipush 63, 2), (51, .iand, 1), (52, .ireturn, 1)]
theorem cdJ6_bitCount_0_ok : ∀ x ∈ cdJ6_bitCount_0, decode prog_8_method_49_code x.1 = .ok x.2 := by decide +kernel
def cdJ6_bitCount : List (Nat × Instr × Nat) := cdJ6_bitCount_0
theorem cdJ6_bitCount_ok : ∀ x ∈ cdJ6_bitCount, decode prog_8_method_49_code x.1 = .ok x.2 := fun x h => cdJ6_bitCount_0_ok x h
def qJ6_bitCount : MI := ("java/lang/Integer", yJ6_bitCount, prog_8_method_49_code, 1, some .int, cdJ6_bitCount, [], [(265, 1431655765), (266, 858993459), (267, 252645135)], 0, 0)
theorem qJ6_bitCount_ok : MOk qJ6_bitCount := ⟨cdJ6_bitCount_ok, fun _ h => absurd h List.not_mem_nil, List.forall_mem_cons.mpr ⟨⟨by decide, tw367⟩, List.forall_mem_cons.mpr ⟨⟨by decide, tw368⟩, List.forall_mem_cons.mpr ⟨⟨by decide, tw369⟩, fun _ h => absurd h List.not_mem_nil⟩⟩⟩, tw366, tw8, by decide +kernel, rfl, by decide +kernel, by decide +kernel⟩
def yL_law : MethodName := ⟨RL, "law", "([I)Z"⟩
def cdL_law_0 : List (Nat × Instr × Nat) := [(0, .new 7, 3), (3, .dup, 1), (4, .invokespecial 9, 3), (7, .astore_n 1, 1), (8, .new 10, 3), (11, .dup, 1), (12, .invokespecial 12, 3), (15, .astore_n 2, 1), (16, .iconst 0, 1), (17, .istore_n 3, 1), (18, .iload_n 3, 1), (19, .aload_n 0, 1), (20, .arraylength, 1), (21, .iconst 4, 1), (22, .isub, 1), (23, .if_icmp .gt 617, 3), (26, .aload_n 0, 1), (27, .iload_n 3, 1), (28, .iaload, 1), (29, .bipush 31, 2), (31, .iand, 1), (32, .tableswitch 602 0 17 #[88, 121, 164, 197, 230, 263, 296, 329, 342, 385, 408, 431, 454, 477, 510, 533, 556, 579], 88), (120, .aload_n 1, 1), (121, .aload_n 0, 1), (122, .iload_n 3, 1), (123, .iconst 1, 1), (124, .iadd, 1), (125, .iaload, 1), (126, .aload_n 0, 1), (127, .iload_n 3, 1), (128, .iconst 2, 1), (129, .iadd, 1), (130, .iaload, 1), (131, .invokevirtual 13, 3), (134, .aload_n 2, 1), (135, .aload_n 0, 1), (136, .iload_n 3, 1), (137, .iconst 1, 1), (138, .iadd, 1), (139, .iaload, 1), (140, .aload_n 0, 1), (141, .iload_n 3, 1), (142, .iconst 2, 1), (143, .iadd, 1), (144, .iaload, 1), (145, .invokevirtual 17, 3), (148, .if_icmp .eq 486, 3), (151, .iconst 0, 1), (152, .ireturn, 1), (153, .aload_n 1, 1), (154, .aload_n 0, 1), (155, .iload_n 3, 1), (156, .iconst 1, 1), (157, .iadd, 1), (158, .iaload, 1), (159, .aload_n 0, 1), (160, .iload_n 3, 1), (161, .iconst 2, 1), (162, .iadd, 1), (163, .iaload, 1)]
theorem cdL_law_0_ok : ∀ x ∈ cdL_law_0, decode code x.1 = .ok x.2 := by decide +kernel
def cdL_law_1 : List (Nat × Instr × Nat) := [(164, .aload_n 0, 1), (165, .iload_n 3, 1), (166, .iconst 3, 1), (167, .iadd, 1), (168, .iaload, 1), (169, .invokevirtual 18, 3), (172, .aload_n 2, 1), (173, .aload_n 0, 1), (174, .iload_n 3, 1), (175, .iconst 1, 1), (176, .iadd, 1), (177, .iaload, 1), (178, .aload_n 0, 1), (179, .iload_n 3, 1), (180, .iconst 2, 1), (181, .iadd, 1), (182, .iaload, 1), (183, .aload_n 0, 1), (184, .iload_n 3, 1), (185, .iconst 3, 1), (186, .iadd, 1), (187, .iaload, 1), (188, .invokevirtual 22, 3), (191, .if_icmp .eq 443, 3), (194, .iconst 0, 1), (195, .ireturn, 1), (196, .aload_n 1, 1), (197, .aload_n 0, 1), (198, .iload_n 3, 1), (199, .iconst 1, 1), (200, .iadd, 1), (201, .iaload, 1), (202, .aload_n 0, 1), (203, .iload_n 3, 1), (204, .iconst 2, 1), (205, .iadd, 1), (206, .iaload, 1), (207, .invokevirtual 23, 3), (210, .aload_n 2, 1), (211, .aload_n 0, 1), (212, .iload_n 3, 1), (213, .iconst 1, 1), (214, .iadd, 1), (215, .iaload, 1), (216, .aload_n 0, 1), (217, .iload_n 3, 1), (218, .iconst 2, 1), (219, .iadd, 1), (220, .iaload, 1), (221, .invokevirtual 26, 3), (224, .if_icmp .eq 410, 3), (227, .iconst 0, 1), (228, .ireturn, 1), (229, .aload_n 1, 1), (230, .aload_n 0, 1), (231, .iload_n 3, 1), (232, .iconst 1, 1), (233, .iadd, 1), (234, .iaload, 1), (235, .aload_n 0, 1)]
theorem cdL_law_1_ok : ∀ x ∈ cdL_law_1, decode code x.1 = .ok x.2 := by decide +kernel
def cdL_law_2 : List (Nat × Instr × Nat) := [(236, .iload_n 3, 1), (237, .iconst 2, 1), (238, .iadd, 1), (239, .iaload, 1), (240, .invokevirtual 27, 3), (243, .aload_n 2, 1), (244, .aload_n 0, 1), (245, .iload_n 3, 1), (246, .iconst 1, 1), (247, .iadd, 1), (248, .iaload, 1), (249, .aload_n 0, 1), (250, .iload_n 3, 1), (251, .iconst 2, 1), (252, .iadd, 1), (253, .iaload, 1), (254, .invokevirtual 30, 3), (257, .if_icmp .eq 377, 3), (260, .iconst 0, 1), (261, .ireturn, 1), (262, .aload_n 1, 1), (263, .aload_n 0, 1), (264, .iload_n 3, 1), (265, .iconst 1, 1), (266, .iadd, 1), (267, .iaload, 1), (268, .aload_n 0, 1), (269, .iload_n 3, 1), (270, .iconst 2, 1), (271, .iadd, 1), (272, .iaload, 1), (273, .invokevirtual 31, 3), (276, .aload_n 2, 1), (277, .aload_n 0, 1), (278, .iload_n 3, 1), (279, .iconst 1, 1), (280, .iadd, 1), (281, .iaload, 1), (282, .aload_n 0, 1), (283, .iload_n 3, 1), (284, .iconst 2, 1), (285, .iadd, 1), (286, .iaload, 1), (287, .invokevirtual 34, 3), (290, .if_icmp .eq 344, 3), (293, .iconst 0, 1), (294, .ireturn, 1), (295, .aload_n 1, 1), (296, .aload_n 0, 1), (297, .iload_n 3, 1), (298, .iconst 1, 1), (299, .iadd, 1), (300, .iaload, 1), (301, .aload_n 0, 1), (302, .iload_n 3, 1), (303, .iconst 2, 1), (304, .iadd, 1), (305, .iaload, 1), (306, .invokevirtual 35, 3), (309, .aload_n 2, 1)]
theorem cdL_law_2_ok : ∀ x ∈ cdL_law_2, decode code x.1 = .ok x.2 := by decide +kernel
def cdL_law_3 : List (Nat × Instr × Nat) := [(310, .aload_n 0, 1), (311, .iload_n 3, 1), (312, .iconst 1, 1), (313, .iadd, 1), (314, .iaload, 1), (315, .aload_n 0, 1), (316, .iload_n 3, 1), (317, .iconst 2, 1), (318, .iadd, 1), (319, .iaload, 1), (320, .invokevirtual 38, 3), (323, .if_icmp .eq 311, 3), (326, .iconst 0, 1), (327, .ireturn, 1), (328, .aload_n 1, 1), (329, .aload_n 0, 1), (330, .iload_n 3, 1), (331, .iconst 1, 1), (332, .iadd, 1), (333, .iaload, 1), (334, .aload_n 0, 1), (335, .iload_n 3, 1), (336, .iconst 2, 1), (337, .iadd, 1), (338, .iaload, 1), (339, .invokevirtual 39, 3), (342, .aload_n 2, 1), (343, .aload_n 0, 1), (344, .iload_n 3, 1), (345, .iconst 1, 1), (346, .iadd, 1), (347, .iaload, 1), (348, .aload_n 0, 1), (349, .iload_n 3, 1), (350, .iconst 2, 1), (351, .iadd, 1), (352, .iaload, 1), (353, .invokevirtual 42, 3), (356, .if_icmp .eq 278, 3), (359, .iconst 0, 1), (360, .ireturn, 1), (361, .aload_n 1, 1), (362, .invokevirtual 43, 3), (365, .aload_n 2, 1), (366, .invokevirtual 47, 3), (369, .if_icmp .eq 265, 3), (372, .iconst 0, 1), (373, .ireturn, 1), (374, .aload_n 1, 1), (375, .aload_n 0, 1), (376, .iload_n 3, 1), (377, .iconst 1, 1), (378, .iadd, 1), (379, .iaload, 1), (380, .aload_n 0, 1), (381, .iload_n 3, 1), (382, .iconst 2, 1), (383, .iadd, 1), (384, .iaload, 1), (385, .aload_n 0, 1)]
theorem cdL_law_3_ok : ∀ x ∈ cdL_law_3, decode code x.1 = .ok x.2 := by decide +kernel
def cdL_law_4 : List (Nat × Instr × Nat) := [(386, .iload_n 3, 1), (387, .iconst 3, 1), (388, .iadd, 1), (389, .iaload, 1), (390, .invokevirtual 48, 3), (393, .aload_n 2, 1), (394, .aload_n 0, 1), (395, .iload_n 3, 1), (396, .iconst 1, 1), (397, .iadd, 1), (398, .iaload, 1), (399, .aload_n 0, 1), (400, .iload_n 3, 1), (401, .iconst 2, 1), (402, .iadd, 1), (403, .iaload, 1), (404, .aload_n 0, 1), (405, .iload_n 3, 1), (406, .iconst 3, 1), (407, .iadd, 1), (408, .iaload, 1), (409, .invokevirtual 51, 3), (412, .if_icmp .eq 222, 3), (415, .iconst 0, 1), (416, .ireturn, 1), (417, .aload_n 1, 1), (418, .aload_n 0, 1), (419, .iload_n 3, 1), (420, .iconst 1, 1), (421, .iadd, 1), (422, .iaload, 1), (423, .invokevirtual 52, 3), (426, .aload_n 2, 1), (427, .aload_n 0, 1), (428, .iload_n 3, 1), (429, .iconst 1, 1), (430, .iadd, 1), (431, .iaload, 1), (432, .invokevirtual 56, 3), (435, .if_icmp .eq 199, 3), (438, .iconst 0, 1), (439, .ireturn, 1), (440, .aload_n 1, 1), (441, .aload_n 0, 1), (442, .iload_n 3, 1), (443, .iconst 1, 1), (444, .iadd, 1), (445, .iaload, 1), (446, .invokevirtual 57, 3), (449, .aload_n 2, 1), (450, .aload_n 0, 1), (451, .iload_n 3, 1), (452, .iconst 1, 1), (453, .iadd, 1), (454, .iaload, 1), (455, .invokevirtual 60, 3), (458, .if_icmp .eq 176, 3), (461, .iconst 0, 1), (462, .ireturn, 1), (463, .aload_n 1, 1)]
theorem cdL_law_4_ok : ∀ x ∈ cdL_law_4, decode code x.1 = .ok x.2 := by decide +kernel
def cdL_law_5 : List (Nat × Instr × Nat) := [(464, .aload_n 0, 1), (465, .iload_n 3, 1), (466, .iconst 1, 1), (467, .iadd, 1), (468, .iaload, 1), (469, .invokevirtual 61, 3), (472, .aload_n 2, 1), (473, .aload_n 0, 1), (474, .iload_n 3, 1), (475, .iconst 1, 1), (476, .iadd, 1), (477, .iaload, 1), (478, .invokevirtual 64, 3), (481, .if_icmp .eq 153, 3), (484, .iconst 0, 1), (485, .ireturn, 1), (486, .aload_n 1, 1), (487, .aload_n 0, 1), (488, .iload_n 3, 1), (489, .iconst 1, 1), (490, .iadd, 1), (491, .iaload, 1), (492, .invokevirtual 65, 3), (495, .aload_n 2, 1), (496, .aload_n 0, 1), (497, .iload_n 3, 1), (498, .iconst 1, 1), (499, .iadd, 1), (500, .iaload, 1), (501, .invokevirtual 68, 3), (504, .if_icmp .eq 130, 3), (507, .iconst 0, 1), (508, .ireturn, 1), (509, .aload_n 1, 1), (510, .aload_n 0, 1), (511, .iload_n 3, 1), (512, .iconst 1, 1), (513, .iadd, 1), (514, .iaload, 1), (515, .aload_n 0, 1), (516, .iload_n 3, 1), (517, .iconst 2, 1), (518, .iadd, 1), (519, .iaload, 1), (520, .invokevirtual 69, 3), (523, .aload_n 2, 1), (524, .aload_n 0, 1), (525, .iload_n 3, 1), (526, .iconst 1, 1), (527, .iadd, 1), (528, .iaload, 1), (529, .aload_n 0, 1), (530, .iload_n 3, 1), (531, .iconst 2, 1), (532, .iadd, 1), (533, .iaload, 1), (534, .invokevirtual 72, 3), (537, .if_icmp .eq 97, 3), (540, .iconst 0, 1), (541, .ireturn, 1)]
theorem cdL_law_5_ok : ∀ x ∈ cdL_law_5, decode code x.1 = .ok x.2 := by decide +kernel
def cdL_law_6 : List (Nat × Instr × Nat) := [(542, .aload_n 1, 1), (543, .aload_n 0, 1), (544, .iload_n 3, 1), (545, .iconst 1, 1), (546, .iadd, 1), (547, .iaload, 1), (548, .invokevirtual 73, 3), (551, .aload_n 2, 1), (552, .aload_n 0, 1), (553, .iload_n 3, 1), (554, .iconst 1, 1), (555, .iadd, 1), (556, .iaload, 1), (557, .invokevirtual 76, 3), (560, .if_icmp .eq 74, 3), (563, .iconst 0, 1), (564, .ireturn, 1), (565, .aload_n 1, 1), (566, .aload_n 0, 1), (567, .iload_n 3, 1), (568, .iconst 1, 1), (569, .iadd, 1), (570, .iaload, 1), (571, .invokevirtual 77, 3), (574, .aload_n 2, 1), (575, .aload_n 0, 1), (576, .iload_n 3, 1), (577, .iconst 1, 1), (578, .iadd, 1), (579, .iaload, 1), (580, .invokevirtual 80, 3), (583, .if_icmp .eq 51, 3), (586, .iconst 0, 1), (587, .ireturn, 1), (588, .aload_n 1, 1), (589, .aload_n 0, 1), (590, .iload_n 3, 1), (591, .iconst 1, 1), (592, .iadd, 1), (593, .iaload, 1), (594, .invokevirtual 81, 3), (597, .aload_n 2, 1), (598, .aload_n 0, 1), (599, .iload_n 3, 1), (600, .iconst 1, 1), (601, .iadd, 1), (602, .iaload, 1), (603, .invokevirtual 84, 3), (606, .if_icmp .eq 28, 3), (609, .iconst 0, 1), (610, .ireturn, 1), (611, .aload_n 1, 1), (612, .aload_n 0, 1), (613, .iload_n 3, 1), (614, .iconst 1, 1), (615, .iadd, 1), (616, .iaload, 1), (617, .invokevirtual 85, 3), (620, .aload_n 2, 1), (621, .aload_n 0, 1)]
theorem cdL_law_6_ok : ∀ x ∈ cdL_law_6, decode code x.1 = .ok x.2 := by decide +kernel
def cdL_law_7 : List (Nat × Instr × Nat) := [(622, .iload_n 3, 1), (623, .iconst 1, 1), (624, .iadd, 1), (625, .iaload, 1), (626, .invokevirtual 88, 3), (629, .if_icmp .eq 5, 3), (632, .iconst 0, 1), (633, .ireturn, 1), (634, .iinc 3 4, 3), (637, .goto (-619), 3), (640, .iconst 1, 1), (641, .ireturn, 1)]
theorem cdL_law_7_ok : ∀ x ∈ cdL_law_7, decode code x.1 = .ok x.2 := by decide +kernel
def cdL_law : List (Nat × Instr × Nat) := cdL_law_0 ++ (cdL_law_1 ++ (cdL_law_2 ++ (cdL_law_3 ++ (cdL_law_4 ++ (cdL_law_5 ++ (cdL_law_6 ++ (cdL_law_7)))))))
theorem cdL_law_ok : ∀ x ∈ cdL_law, decode code x.1 = .ok x.2 := fun x h => (List.mem_append.mp h).elim (fun h => cdL_law_0_ok x h) (fun h => (List.mem_append.mp h).elim (fun h => cdL_law_1_ok x h) (fun h => (List.mem_append.mp h).elim (fun h => cdL_law_2_ok x h) (fun h => (List.mem_append.mp h).elim (fun h => cdL_law_3_ok x h) (fun h => (List.mem_append.mp h).elim (fun h => cdL_law_4_ok x h) (fun h => (List.mem_append.mp h).elim (fun h => cdL_law_5_ok x h) (fun h => (List.mem_append.mp h).elim (fun h => cdL_law_6_ok x h) (fun h => cdL_law_7_ok x h)))))))
def qL_law : MI := (RL, yL_law, code, 4, some .boolean, cdL_law, [], [], 11, 448)
theorem lkX4_20 : LkS RX4 20 yX4_isPlace := ⟨tw156, tw157⟩
theorem lkX4_38 : LkV RX4 38 yX0_isTaken := ⟨tw159, tw160, tw161⟩
theorem lkX4_46 : LkV RX4 46 yX0_addCrossing := ⟨tw163, tw164, tw165⟩
theorem lkX4_50 : LkV RX4 50 yX0_hasCrossing := ⟨tw174, tw175, tw176⟩
theorem lkX4_54 : LkV RX4 54 yX0_areInOneRow := ⟨tw178, tw179, tw180⟩
theorem lkX4_57 : LkV RX4 57 yX0_areJoined := ⟨tw183, tw184, tw185⟩
theorem lkX4_63 : LkV RX4 63 yX0_addRoad := ⟨tw187, tw188, tw189⟩
theorem lkX4_71 : LkV RX4 71 yX1_allows := ⟨tw202, tw203, tw204⟩
theorem lkX4_76 : LkV RX4 76 yX1_change := ⟨tw208, tw209, tw210⟩
theorem lkX4_80 : LkV RX4 80 yX0_roadsInCell := ⟨tw216, tw217, tw218⟩
theorem lkX4_83 : LkV RX4 83 yX0_leastBetween := ⟨tw233, tw234, tw235⟩
theorem lkX4_86 : LkV RX4 86 yX0_hasSpot := ⟨tw241, tw242, tw243⟩
theorem lkX4_89 : LkV RX4 89 yX0_wayLength := ⟨tw245, tw246, tw247⟩
theorem lkX4_92 : LkV RX4 92 yX3_addFix := ⟨tw280, tw281, tw282⟩
theorem lkX4_95 : LkV RX4 95 yX3_dropFix := ⟨tw374, tw375, tw376⟩
theorem lkX4_98 : LkV RX4 98 yX3_hasFix := ⟨tw382, tw293, tw294⟩
theorem lkX4_105 : LkV RX4 105 yX3_tellCandidate := ⟨tw383, tw384, tw385⟩
theorem lkX4_109 : LkV RX4 109 yX3_chosenSpot := ⟨tw391, tw392, tw393⟩
theorem lkX4_120 : LkV RX4 120 yX3_stepLength := ⟨tw407, tw408, tw409⟩
theorem lkX4_123 : LkV RX4 123 yX3_stepCrossing := ⟨tw420, tw421, tw422⟩
theorem lkX4_126 : LkV RX4 126 yX3_sumOfCosts := ⟨tw446, tw447, tw448⟩
theorem lkX4_130 : LkV RX4 130 yX3_countPieces := ⟨tw454, tw455, tw456⟩
theorem lkX4_133 : LkV RX4 133 yX3_countGaps := ⟨tw458, tw459, tw460⟩
theorem lkX4_136 : LkV RX4 136 yX3_countDecided := ⟨tw462, tw463, tw464⟩
theorem lkX4_139 : LkV RX4 139 yX3_sumOfSteps := ⟨tw466, tw467, tw468⟩
theorem lkX4_142 : LkV RX4 142 yX2_copyFrom := ⟨tw475, tw476, tw477⟩
theorem lkX4_150 : LkV RX4 150 yX4_tellCount := ⟨tw504, tw506, (mg (i := 25) (by decide +kernel) (by decide +kernel))⟩
theorem lkX4_153 : LkV RX4 153 yX0_tellCrossing := ⟨tw512, tw513, tw514⟩
theorem lkX4_156 : LkV RX4 156 yX0_tellRoad := ⟨tw516, tw517, tw518⟩
theorem lkX4_159 : LkV RX4 159 yX3_tellFix := ⟨tw520, tw521, tw522⟩
theorem lkX4_162 : LkV RX4 162 yX1_tellRule := ⟨tw508, tw509, tw510⟩
theorem lkX0_40 : LkV RX0 40 yX0_hasCrossing := ⟨tw182, tw175, tw176⟩
theorem lkX0_44 : LkS RX0 44 yX0_pair := ⟨tw167, tw168⟩
theorem lkX0_54 : LkV RX0 54 yX0_shortenBy := ⟨tw194, tw196, (mg (i := 0) (by decide +kernel) (by decide +kernel))⟩
theorem lkX0_58 : LkS RX0 58 yX0_spans := ⟨tw220, tw221⟩
theorem lkX0_68 : LkV RX0 68 yX0_hasRoad := ⟨tw304, tw305, tw306⟩
theorem lkX0_71 : LkV RX0 71 yX0_nearestX := ⟨tw308, tw310, (mg (i := 9) (by decide +kernel) (by decide +kernel))⟩
theorem lkX0_74 : LkV RX0 74 yX0_nearestY := ⟨tw315, tw317, (mg (i := 10) (by decide +kernel) (by decide +kernel))⟩
theorem lkX0_77 : LkS RX0 77 yX0_held := ⟨tw312, tw313⟩
theorem lkX0_81 : LkV RX0 81 yX0_hasSpot := ⟨tw249, tw242, tw243⟩
theorem lkX0_84 : LkV RX0 84 yX0_lengthOut := ⟨tw250, tw252, (mg (i := 1) (by decide +kernel) (by decide +kernel))⟩
theorem lkX0_87 : LkV RX0 87 yX0_wayLength := ⟨tw432, tw246, tw247⟩
theorem lkX0_90 : LkV RX0 90 yX0_lengthAlong := ⟨tw254, tw256, (mg (i := 2) (by decide +kernel) (by decide +kernel))⟩
theorem lkX0_93 : LkS RX0 93 yX0_leavesByLast := ⟨tw258, tw259⟩
theorem lkX0_96 : LkV RX0 96 yX0_leaveLength := ⟨tw261, tw263, (mg (i := 3) (by decide +kernel) (by decide +kernel))⟩
theorem lkX0_100 : LkV RX0 100 yX0_endOf := ⟨tw265, tw267, (mg (i := 4) (by decide +kernel) (by decide +kernel))⟩
theorem lkX0_103 : LkS RX0 103 yX0_comesByLast := ⟨tw269, tw270⟩
theorem lkX0_106 : LkV RX0 106 yX0_comeLength := ⟨tw272, tw274, (mg (i := 5) (by decide +kernel) (by decide +kernel))⟩
theorem lkX0_109 : LkV RX0 109 yX0_wayOut := ⟨tw428, tw430, (mg (i := 21) (by decide +kernel) (by decide +kernel))⟩
theorem lkX0_112 : LkV RX0 112 yX0_nextCrossing := ⟨tw433, tw435, (mg (i := 22) (by decide +kernel) (by decide +kernel))⟩
theorem lkX0_115 : LkV RX0 115 yX0_leastBetween := ⟨tw437, tw234, tw235⟩
theorem lkX0_118 : LkV RX0 118 yX0_leadsFrom := ⟨tw438, tw440, (mg (i := 23) (by decide +kernel) (by decide +kernel))⟩
theorem lkX2_36 : LkV RX2 36 yX0_copyFrom := ⟨tw479, tw480, tw481⟩
theorem lkX2_40 : LkV RX2 40 yX1_copyFrom := ⟨tw486, tw487, tw488⟩
theorem lkX2_43 : LkV RX2 43 yX3_copyFrom := ⟨tw491, tw492, tw493⟩
theorem lkX3_58 : LkV RX3 58 yX3_hasFix := ⟨tw292, tw293, tw294⟩
theorem lkX3_62 : LkV RX3 62 yX3_lastFixed := ⟨tw284, tw286, (mg (i := 6) (by decide +kernel) (by decide +kernel))⟩
theorem lkX3_66 : LkV RX3 66 yX3_findCandidates := ⟨tw296, tw298, (mg (i := 8) (by decide +kernel) (by decide +kernel))⟩
theorem lkX3_70 : LkV RX3 70 yX3_beginPiece := ⟨tw326, tw328, (mg (i := 11) (by decide +kernel) (by decide +kernel))⟩
theorem lkX3_74 : LkV RX3 74 yX3_goesOn := ⟨tw330, tw332, (mg (i := 12) (by decide +kernel) (by decide +kernel))⟩
theorem lkX3_78 : LkV RX3 78 yX3_settle := ⟨tw340, tw342, (mg (i := 14) (by decide +kernel) (by decide +kernel))⟩
theorem lkX3_81 : LkV RX3 81 yX3_isGap := ⟨tw288, tw290, (mg (i := 7) (by decide +kernel) (by decide +kernel))⟩
theorem lkX3_89 : LkV RX3 89 yX0_apartFromRoad := ⟨tw300, tw301, tw302⟩
theorem lkX3_98 : LkS RX3 98 yX3_slot := ⟨tw319, tw320⟩
theorem lkX3_102 : LkV RX3 102 yX0_nearestSpot := ⟨tw322, tw323, tw324⟩
theorem lkX3_105 : LkV RX3 105 yX3_joinCandidate := ⟨tw334, tw336, (mg (i := 13) (by decide +kernel) (by decide +kernel))⟩
theorem lkX3_115 : LkV RX3 115 yX0_wayLength := ⟨tw339, tw246, tw247⟩
theorem lkX3_118 : LkV RX3 118 yX3_hasCandidate := ⟨tw348, tw350, (mg (i := 16) (by decide +kernel) (by decide +kernel))⟩
theorem lkX3_121 : LkV RX3 121 yX3_backOf := ⟨tw344, tw346, (mg (i := 15) (by decide +kernel) (by decide +kernel))⟩
theorem lkX3_124 : LkV RX3 124 yX3_backsOf := ⟨tw352, tw354, (mg (i := 17) (by decide +kernel) (by decide +kernel))⟩
theorem lkX3_127 : LkV RX3 127 yX3_cheapest := ⟨tw356, tw358, (mg (i := 18) (by decide +kernel) (by decide +kernel))⟩
theorem lkX3_130 : LkV RX3 130 yX3_alive := ⟨tw360, tw362, (mg (i := 19) (by decide +kernel) (by decide +kernel))⟩
theorem lkX3_133 : LkS RX3 133 yJ6_bitCount := ⟨tw364, tw365⟩
theorem lkX3_138 : LkV RX3 138 yX3_stepStart := ⟨tw411, tw413, (mg (i := 20) (by decide +kernel) (by decide +kernel))⟩
theorem lkX3_141 : LkV RX3 141 yX3_chosenSpot := ⟨tw415, tw392, tw393⟩
theorem lkX3_144 : LkV RX3 144 yX0_crossingOnWay := ⟨tw424, tw425, tw426⟩
theorem lkX3_147 : LkV RX3 147 yX3_endsPiece := ⟨tw450, tw452, (mg (i := 24) (by decide +kernel) (by decide +kernel))⟩
theorem lkX3_150 : LkV RX3 150 yX3_stepLength := ⟨tw470, tw408, tw409⟩
theorem lkL_13 : LkV RL 13 yX4_crossing := ⟨tw152, tw153, tw154⟩
theorem lkL_17 : LkV RL 17 yX5_crossing := ⟨tw600, tw601, tw602⟩
theorem lkL_18 : LkV RL 18 yX4_road := ⟨tw170, tw171, tw172⟩
theorem lkL_22 : LkV RL 22 yX5_road := ⟨tw607, tw608, tw609⟩
theorem lkL_23 : LkV RL 23 yX4_rule := ⟨tw198, tw199, tw200⟩
theorem lkL_26 : LkV RL 26 yX5_rule := ⟨tw615, tw616, tw617⟩
theorem lkL_27 : LkV RL 27 yX4_cell := ⟨tw212, tw213, tw214⟩
theorem lkL_30 : LkV RL 30 yX5_cell := ⟨tw619, tw620, tw621⟩
theorem lkL_31 : LkV RL 31 yX4_between := ⟨tw229, tw230, tw231⟩
theorem lkL_34 : LkV RL 34 yX5_between := ⟨tw644, tw645, tw646⟩
theorem lkL_35 : LkV RL 35 yX4_way := ⟨tw237, tw238, tw239⟩
theorem lkL_38 : LkV RL 38 yX5_way := ⟨tw653, tw654, tw655⟩
theorem lkL_39 : LkV RL 39 yX4_fix := ⟨tw276, tw277, tw278⟩
theorem lkL_42 : LkV RL 42 yX5_fix := ⟨tw673, tw674, tw675⟩
theorem lkL_43 : LkV RL 43 yX4_drop := ⟨tw370, tw371, tw372⟩
theorem lkL_47 : LkV RL 47 yX5_drop := ⟨tw677, tw678, tw679⟩
theorem lkL_48 : LkV RL 48 yX4_candidate := ⟨tw378, tw379, tw380⟩
theorem lkL_51 : LkV RL 51 yX5_candidate := ⟨tw681, tw682, tw683⟩
theorem lkL_52 : LkV RL 52 yX4_best := ⟨tw387, tw388, tw389⟩
theorem lkL_56 : LkV RL 56 yX5_best := ⟨tw717, tw718, tw719⟩
theorem lkL_57 : LkV RL 57 yX4_decided := ⟨tw395, tw396, tw397⟩
theorem lkL_60 : LkV RL 60 yX5_decided := ⟨tw721, tw722, tw723⟩
theorem lkL_61 : LkV RL 61 yX4_piece := ⟨tw399, tw400, tw401⟩
theorem lkL_64 : LkV RL 64 yX5_piece := ⟨tw733, tw734, tw735⟩
theorem lkL_65 : LkV RL 65 yX4_step := ⟨tw403, tw404, tw405⟩
theorem lkL_68 : LkV RL 68 yX5_step := ⟨tw737, tw738, tw739⟩
theorem lkL_69 : LkV RL 69 yX4_through := ⟨tw416, tw417, tw418⟩
theorem lkL_72 : LkV RL 72 yX5_through := ⟨tw745, tw746, tw747⟩
theorem lkL_73 : LkV RL 73 yX4_total := ⟨tw442, tw443, tw444⟩
theorem lkL_76 : LkV RL 76 yX5_total := ⟨tw753, tw754, tw755⟩
theorem lkL_77 : LkV RL 77 yX4_image := ⟨tw471, tw472, tw473⟩
theorem lkL_80 : LkV RL 80 yX5_image := ⟨tw757, tw758, tw759⟩
theorem lkL_81 : LkV RL 81 yX4_restore := ⟨tw496, tw497, tw498⟩
theorem lkL_84 : LkV RL 84 yX5_restore := ⟨tw761, tw762, tw763⟩
theorem lkL_85 : LkV RL 85 yX4_told := ⟨tw500, tw501, tw502⟩
theorem lkL_88 : LkV RL 88 yX5_told := ⟨tw765, tw766, tw767⟩
theorem lkX5_68 : LkS RX5 68 yX5_off := ⟨tw630, tw631⟩
theorem lkX5_76 : LkS RX5 76 yX5_in := ⟨tw604, tw605⟩
theorem lkX5_83 : LkV RX5 83 yX5_isCrossing := ⟨tw611, tw613, (mg (i := 26) (by decide +kernel) (by decide +kernel))⟩
theorem lkX5_90 : LkS RX5 90 yX5_apart := ⟨tw627, tw628⟩
theorem lkX5_94 : LkS RX5 94 yX5_towards := ⟨tw637, tw638⟩
theorem lkX5_98 : LkV RX5 98 yX5_length := ⟨tw623, tw625, (mg (i := 27) (by decide +kernel) (by decide +kernel))⟩
theorem lkX5_102 : LkV RX5 102 yX5_spotX := ⟨tw633, tw635, (mg (i := 28) (by decide +kernel) (by decide +kernel))⟩
theorem lkX5_105 : LkV RX5 105 yX5_spotY := ⟨tw640, tw642, (mg (i := 29) (by decide +kernel) (by decide +kernel))⟩
theorem lkX5_109 : LkV RX5 109 yX5_layFar := ⟨tw648, tw650, (mg (i := 30) (by decide +kernel) (by decide +kernel))⟩
theorem lkX5_112 : LkV RX5 112 yX5_out := ⟨tw669, tw671, (mg (i := 34) (by decide +kernel) (by decide +kernel))⟩
theorem lkX5_115 : LkV RX5 115 yX5_leastOut := ⟨tw665, tw667, (mg (i := 33) (by decide +kernel) (by decide +kernel))⟩
theorem lkX5_118 : LkV RX5 118 yX5_isSpot := ⟨tw657, tw659, (mg (i := 31) (by decide +kernel) (by decide +kernel))⟩
theorem lkX5_121 : LkV RX5 121 yX5_wayOf := ⟨tw661, tw663, (mg (i := 32) (by decide +kernel) (by decide +kernel))⟩
theorem lkX5_124 : LkV RX5 124 yX5_nearest := ⟨tw697, tw699, (mg (i := 38) (by decide +kernel) (by decide +kernel))⟩
theorem lkX5_130 : LkV RX5 130 yX5_layCandidates := ⟨tw693, tw695, (mg (i := 37) (by decide +kernel) (by decide +kernel))⟩
theorem lkX5_134 : LkV RX5 134 yX5_goOn := ⟨tw701, tw703, (mg (i := 39) (by decide +kernel) (by decide +kernel))⟩
theorem lkX5_138 : LkV RX5 138 yX5_begin := ⟨tw705, tw707, (mg (i := 40) (by decide +kernel) (by decide +kernel))⟩
theorem lkX5_141 : LkV RX5 141 yX5_next := ⟨tw709, tw711, (mg (i := 41) (by decide +kernel) (by decide +kernel))⟩
theorem lkX5_144 : LkV RX5 144 yX5_leastAt := ⟨tw713, tw715, (mg (i := 42) (by decide +kernel) (by decide +kernel))⟩
theorem lkX5_147 : LkV RX5 147 yX5_isFix := ⟨tw685, tw687, (mg (i := 35) (by decide +kernel) (by decide +kernel))⟩
theorem lkX5_150 : LkV RX5 150 yX5_layAll := ⟨tw689, tw691, (mg (i := 36) (by decide +kernel) (by decide +kernel))⟩
theorem lkX5_153 : LkV RX5 153 yX5_origin := ⟨tw729, tw731, (mg (i := 44) (by decide +kernel) (by decide +kernel))⟩
theorem lkX5_156 : LkV RX5 156 yX5_isDecided := ⟨tw725, tw727, (mg (i := 43) (by decide +kernel) (by decide +kernel))⟩
theorem lkX5_159 : LkV RX5 159 yX5_stepOf := ⟨tw741, tw743, (mg (i := 45) (by decide +kernel) (by decide +kernel))⟩
theorem lkX5_162 : LkV RX5 162 yX5_onward := ⟨tw749, tw751, (mg (i := 46) (by decide +kernel) (by decide +kernel))⟩
theorem lkX0_48 : Jvm.Cond.methodLink RX0 48 Lib.Math.abs.name ∈ gw_tbl := tw191
theorem lkX3_109 : Jvm.Cond.methodLink RX3 109 Lib.Math.abs.name ∈ gw_tbl := tw338
theorem ms_abs : Jvm.Cond.static Lib.Math.abs.name ∈ gw_tbl ∧ Jvm.Cond.code Lib.Math.abs.name Lib.Math.abs.code 1 (some .int) ∈ gw_tbl := ⟨tw192, tw193⟩
theorem lkX0_65 : Jvm.Cond.methodLink RX0 65 Lib.Math.max.name ∈ gw_tbl := tw226
theorem ms_max : Jvm.Cond.static Lib.Math.max.name ∈ gw_tbl ∧ Jvm.Cond.code Lib.Math.max.name Lib.Math.max.code 2 (some .int) ∈ gw_tbl := ⟨tw227, tw228⟩
theorem lkX0_62 : Jvm.Cond.methodLink RX0 62 Lib.Math.min.name ∈ gw_tbl := tw223
theorem ms_min : Jvm.Cond.static Lib.Math.min.name ∈ gw_tbl ∧ Jvm.Cond.code Lib.Math.min.name Lib.Math.min.code 2 (some .int) ∈ gw_tbl := ⟨tw224, tw225⟩
theorem ms_ini : Jvm.Cond.initialized "java/lang/Math" ∈ gw_tbl := tw7
theorem lkX0_121 : Jvm.Cond.methodLink RX0 121 arraycopyName ∈ gw_tbl := tw483
theorem lkX1_18 : Jvm.Cond.methodLink RX1 18 arraycopyName ∈ gw_tbl := tw490
theorem lkX3_153 : Jvm.Cond.methodLink RX3 153 arraycopyName ∈ gw_tbl := tw495
theorem ac_ok : Jvm.Cond.native arraycopyName ∈ gw_tbl ∧ Jvm.Cond.static arraycopyName ∈ gw_tbl ∧ Jvm.Cond.initialized "java/lang/System" ∈ gw_tbl := ⟨tw485, tw484, tw9⟩
theorem lkMOST : Jvm.Cond.fieldLink RX1 15 "RoadTrace$Rules" "MOST" "[I" ∈ gw_tbl := tw206
end
section
/-! THE FRAME: an abstract memory of ints over a fixed shape of cells, and the machine's rows over it -/
abbrev Mm : Type := Nat → Nat → Int
abbrev Av : Type := Int ⊕ Nat
abbrev Sh : Type := (Nat × List (Option Nat)) ⊕ ((Nat × Nat) ⊕ List Nat)
def uf (f : Nat → Int) (j : Nat) (v : Int) : Nat → Int := fun b => if b = j then v else f b
def upR (M : Mm) (k : Nat) (f : Nat → Int) : Mm := fun a => if a = k then f else M a
def up (M : Mm) (k j : Nat) (v : Int) : Mm := upR M k (uf (M k) j v)
def shState (b : Nat) : List Sh := [.inl (2, [some (b+1), some (b+9), some (b+11), none]), .inl (0, [none, none, some (b+2), some (b+3), some (b+4), some (b+5), some (b+6), some (b+7), some (b+8)]), .inr (.inl (0, 12)), .inr (.inl (0, 12)), .inr (.inl (0, 20)), .inr (.inl (0, 20)), .inr (.inl (0, 20)), .inr (.inl (0, 20)), .inr (.inl (0, 144)), .inl (1, [some (b+10)]), .inr (.inl (0, 4)), .inl (3, [some (b+1), some (b+9), none, some (b+12), some (b+13), some (b+14), some (b+15), some (b+16), some (b+17), some (b+18), some (b+19), some (b+20), some (b+21), some (b+22)]), .inr (.inl (0, 16)), .inr (.inl (0, 16)), .inr (.inl (0, 16)), .inr (.inl (0, 16)), .inr (.inl (0, 16)), .inr (.inl (0, 320)), .inr (.inl (0, 320)), .inr (.inl (0, 320)), .inr (.inl (0, 320)), .inr (.inl (0, 16)), .inr (.inl (1, 16))]
def shModel : List Sh := [.inl (5, [some 72, some 73, none, some 74, some 75, some 76, none, some 77, some 78, some 79, none, some 80, some 81, some 82, some 83, some 84, some 85, some 86, some 87, some 88, none, some 89, some 90]), .inr (.inl (0, 12)), .inr (.inl (0, 12)), .inr (.inl (0, 20)), .inr (.inl (0, 20)), .inr (.inl (0, 20)), .inr (.inl (0, 4)), .inr (.inl (0, 16)), .inr (.inl (0, 16)), .inr (.inl (0, 144)), .inr (.inl (0, 320)), .inr (.inl (0, 320)), .inr (.inl (0, 320)), .inr (.inl (0, 320)), .inr (.inl (0, 16)), .inr (.inl (0, 16)), .inr (.inl (0, 16)), .inr (.inl (0, 16)), .inr (.inl (0, 260)), .inr (.inl (1, 2))]
def tp : List Sh := [.inl (4, [some 2, some 1]), .inr (.inr [25, 48])] ++ (shState 2 ++ (shState 25 ++ (shState 48 ++ shModel)))
theorem tp_len : tp.length = 91 := rfl
theorem tp_lt {q : Nat} {sh : Sh} (h : tp[q]? = some sh) : q < 91 := by
  have := (List.getElem?_eq_some_iff.mp h).1
  rw [tp_len] at this; exact this
def cvV (ad : Nat → Nat) : Av → Value
  | .inl z => .int (Int32.ofInt z)
  | .inr k => .ref (ad k)
theorem cvV_cat (ad : Nat → Nat) (v : Av) : (cvV ad v).category = 1 := by cases v <;> rfl
def flE (ad : Nat → Nat) (f : Nat → Int) (j : Nat) (o : Option Nat) : Value := match o with
  | some k => .ref (ad k)
  | none => .int (Int32.ofInt (f j))
abbrev Ca : Type := ClassId × ClassId × ClassId
def celE (ad : Nat → Nat) (cA : Ca) (f : Nat → Int) (sh : Sh) : va_E := match sh with
  | .inl o => .inr (o.1, o.2.mapIdx (flE ad f))
  | .inr (.inl a) => .inl (if a.1 = 0 then cA.1 else cA.2.1, a.2, .inl (fun j => Int32.ofInt (f j)))
  | .inr (.inr rs) => .inl (cA.2.2, rs.length, .inr (.inr (.inr (.inr (fun j => (rs[j]?).map ad)))))
def wld (ad : Nat → Nat) (cA : Ca) (M : Mm) : va_W := tp.mapIdx (fun k sh => (ad k, celE ad cA (M k) sh))
theorem wld_get {ad : Nat → Nat} {cA : Ca} {M : Mm} {q : Nat} {sh : Sh} (h : tp[q]? = some sh) : (wld ad cA M)[q]? = some (ad q, celE ad cA (M q) sh) := by
  simp [wld, List.getElem?_mapIdx, h]
theorem wld_set {ad : Nat → Nat} {cA : Ca} {M : Mm} {q : Nat} {sh : Sh} {f : Nat → Int} (h : tp[q]? = some sh) : (wld ad cA M).set q (ad q, celE ad cA f sh) = wld ad cA (upR M q f) := by
  apply List.ext_getElem?
  intro i
  by_cases hi : i = q
  · subst hi
    rw [List.getElem?_set_self (by simp [wld, tp_len]; exact tp_lt h), wld_get h]
    simp [upR]
  · rw [List.getElem?_set_ne (Ne.symm hi)]
    simp [wld, upR, hi]
theorem uf_i (f : Nat → Int) (k : Nat) (z : Int) : upd (fun j => Int32.ofInt (f j)) k (Int32.ofInt z) = fun j => Int32.ofInt (uf f k z j) := by
  funext j
  by_cases h : j = k
  · simp [upd, uf, h]
  · simp [upd, uf, h]
theorem fl_set (ad : Nat → Nat) (f : Nat → Int) (fs : List (Option Nat)) (k : Nat) (z : Int) (h : fs[k]? = some none) : (fs.mapIdx (flE ad f)).set k (.int (Int32.ofInt z)) = fs.mapIdx (flE ad (uf f k z)) := by
  apply List.ext_getElem?
  intro i
  by_cases hi : i = k
  · subst hi
    have hl := (List.getElem?_eq_some_iff.mp h).1
    rw [List.getElem?_set_self (by simpa using hl)]
    simp [List.getElem?_mapIdx, h, flE, uf]
  · rw [List.getElem?_set_ne (Ne.symm hi)]
    simp only [List.getElem?_mapIdx]
    cases hq : fs[i]? with
    | none => rfl
    | some o => cases o <;> simp [flE, uf, hi]
def okM (M : Mm) : Prop := (∀ k j, inR (M k j)) ∧ M 999 0 = 8 ∧ M 999 1 = 9 ∧ M 999 2 = 9 ∧ M 999 3 = 99
def okV : Av → Prop
  | .inl z => inR z
  | .inr _ => True
def okL (lv : List (Option Av)) : Prop := ∀ (i : Nat) (v : Av), lv[i]? = some (some v) → okV v
def okS (st : List Av) : Prop := ∀ v ∈ st, okV v
theorem okS.cons {v : Av} {st : List Av} (h : okV v) (h2 : okS st) : okS (v :: st) := fun w hw => by
  rcases List.mem_cons.mp hw with rfl | h3
  · exact h
  · exact h2 w h3
theorem okS.tail {v : Av} {st : List Av} (h : okS (v :: st)) : okS st := fun w hw => h w (List.mem_cons_of_mem _ hw)
theorem okS.head {v : Av} {st : List Av} (h : okS (v :: st)) : okV v := h v List.mem_cons_self
theorem okL.set {lv : List (Option Av)} {i : Nat} {v : Av} (h : okL lv) (hv : okV v) : okL (lv.set i (some v)) := by
  intro j w hj
  by_cases hij : i = j
  · subst hij
    by_cases hl : i < lv.length
    · rw [List.getElem?_set_self hl] at hj
      cases hj; exact hv
    · rw [List.getElem?_eq_none (by simpa using hl)] at hj
      cases hj
  · rw [List.getElem?_set_ne hij] at hj
    exact h j w hj
theorem okM_upR {M : Mm} (h : okM M) {k : Nat} (hk : k ≠ 999) {f : Nat → Int} (hf : ∀ j, inR (f j)) : okM (upR M k f) := by
  refine ⟨fun a b => ?_, ?_⟩
  · unfold upR
    split
    · exact hf b
    · exact h.1 a b
  · simpa [upR, Ne.symm hk] using h.2
theorem okM_up {M : Mm} (h : okM M) {k j : Nat} (hk : k ≠ 999) {v : Int} (hv : inR v) : okM (up M k j v) := by
  refine okM_upR h hk (fun b => ?_)
  unfold uf
  split
  · exact hv
  · exact h.1 k b
/-! locals -/
def lvl (ad : Nat → Nat) (lv : List (Option Av)) : List (Nat × Value) := (List.range lv.length).filterMap (fun i => match lv[i]? with
  | some (some v) => some (i, cvV ad v)
  | _ => none)
theorem mem_lvl {ad : Nat → Nat} {lv : List (Option Av)} {p : Nat × Value} : p ∈ lvl ad lv ↔ ∃ v, lv[p.1]? = some (some v) ∧ p.2 = cvV ad v := by
  unfold lvl
  rw [List.mem_filterMap]
  constructor
  · rintro ⟨i, -, h⟩
    split at h
    · rename_i v hv
      cases h
      exact ⟨v, hv, rfl⟩
    · cases h
  · rintro ⟨v, h, e⟩
    refine ⟨p.1, List.mem_range.mpr (List.getElem?_eq_some_iff.mp h).1, ?_⟩
    rw [h]
    show some (p.1, cvV ad v) = some p
    rw [← e]
def lvO (ad : Nat → Nat) (ls : Array Slot) (n : Nat) (lv : List (Option Av)) : Prop := lv_has ls n (lvl ad lv)
theorem lvO.at {ad : Nat → Nat} {ls : Array Slot} {n : Nat} {lv : List (Option Av)} (h : lvO ad ls n lv) {i : Nat} {v : Av} (e : lv[i]? = some (some v)) : ls[i]? = some (.val (cvV ad v)) := h.2.2 (i, cvV ad v) (mem_lvl.mpr ⟨v, e, rfl⟩)
theorem lvO.less {ad : Nat → Nat} {ls : Array Slot} {n : Nat} {lv lv' : List (Option Av)} (h : lvO ad ls n lv) (hl : ∀ (i : Nat) (v : Av), lv'[i]? = some (some v) → lv[i]? = some (some v)) : lvO ad ls n lv' := by
  refine ⟨h.1, h.2.1, fun p hp => ?_⟩
  obtain ⟨v, h1, h2⟩ := mem_lvl.mp hp
  rw [h2]
  exact h.at (hl _ _ h1)
theorem lvO_set {ad : Nat → Nat} {ls : Array Slot} {n : Nat} {lv : List (Option Av)} {i : Nat} {v : Av} (h : lv_has ls n ((i, cvV ad v) :: (lvl ad lv).filter (fun q => !(q.1 == i) && !(q.1 + 1 == i && q.2.category == 2)))) : lvO ad ls n (lv.set i (some v)) := by
  refine ⟨h.1, h.2.1, fun p hp => ?_⟩
  obtain ⟨w, h1, h2⟩ := mem_lvl.mp hp
  refine h.2.2 p ?_
  by_cases hi : i = p.1
  · subst hi
    by_cases hl : p.1 < lv.length
    · rw [List.getElem?_set_self hl] at h1
      cases h1
      rw [← h2]
      exact List.mem_cons_self
    · rw [List.getElem?_eq_none (by simpa using hl)] at h1
      cases h1
  · rw [List.getElem?_set_ne hi] at h1
    refine List.mem_cons_of_mem _ (List.mem_filter.mpr ⟨mem_lvl.mpr ⟨w, h1, h2⟩, ?_⟩)
    have hc : (p.2.category == 2) = false := by rw [h2, cvV_cat]; rfl
    simp [hc, Ne.symm hi]
/-! where a method stands -/
abbrev Gx : Type := Launch × va_G × Ca × (Nat → Nat) × (Nat → Prop)
abbrev Zx : Type := Gx × Program × Env × Room × State × MethodId × Array Value × List Frame × Method × Code × Nat × Nat × (State → Prop)
def tysW (cA : Ca) : List (ClassId × FieldType) := [(cA.1, .int), (cA.2.1, .boolean), (cA.2.2, .object "RoadTrace$State")]
def mostV (j : Nat) : Value := .int (match j with | 0 => 8 | 1 => 9 | 2 => 9 | _ => 99)
def most (ad : Nat → Nat) (A : Nat → Prop) (U : State) : Prop := va_Z "RoadTrace$Rules" "MOST" "[I" (.ref (ad 999)) A U U.heap ∧ va_T .int (ad 999) 4 mostV A U U.heap
def Cx (q : MI) : Zx → Prop
  | ((_, D, cA, ad, A), p, _, R, s, m, args, _, meth, c, cells, slots, _) => p.tables.exec = Jvm.exec ∧ c.code = qB q ∧ c.maxLocals = qN q ∧ s.vm.findClass q.1 = some m.cls ∧ (∀ w ∈ gw_tbl, w.before args s = true) ∧ meth.sig.returnType = qR q ∧ meth.locks = false ∧ va_K D vwCl (tysW cA) s ∧ (∀ x, s.heap.size ≤ x → A x) ∧ most ad A s ∧ qf q ≤ R.frames ∧ ql q ≤ R.locals ∧ cells ≤ R.cells ∧ slots ≤ R.slots
def Aw : Zx → Nat → List (Option Av) → List Av → Mm → Prop
  | ((l, D, cA, ad, A), p, e, R, s, m, args, below, meth, c, cells, slots, QW), pc, lv, st, M => okM M → okL lv → okS st → ∀ (H : Heap) (locs : List Loc) (ls : Array Slot), va_P D vwCl (wld ad cA M) H → va_D A (wld ad cA M) → va_S A s.heap H locs → lvO ad ls c.maxLocals lv → W p l e R s m args below meth c H locs cells slots QW (F0 m pc ls (st.map (cvV ad)))
theorem i32_i {z : Int} (h : inR z) : (Int32.ofInt z).toInt = z := Int32.toInt_ofInt_of_le (by have := h.1; simpa using this) (by have := h.2; omega)
theorem i32_n {z : Int} (h : inR z) : (Int32.ofInt z).toNatClampNeg = z.toNat := by rw [← Int32.toNat_toInt, i32_i h]
theorem i32_lt {a b : Int} (ha : inR a) (hb : inR b) : Int32.ofInt a < Int32.ofInt b ↔ a < b := by rw [Int32.lt_iff_toInt_lt, i32_i ha, i32_i hb]
theorem i32_le {a b : Int} (ha : inR a) (hb : inR b) : Int32.ofInt a ≤ Int32.ofInt b ↔ a ≤ b := by rw [Int32.le_iff_toInt_le, i32_i ha, i32_i hb]
theorem i32_eq {a b : Int} (ha : inR a) (hb : inR b) : Int32.ofInt a = Int32.ofInt b ↔ a = b := by rw [← Int32.toInt_inj, i32_i ha, i32_i hb]
theorem i32_of (x : Int32) : inR x.toInt := ⟨by have := x.le_toInt; simpa using this, by have := x.toInt_lt; omega⟩
theorem i32_in {i : Int} {n : Nat} (hi : inR i) (h : 0 ≤ i ∧ i < n) : vp_in (Int32.ofInt i) n := by rw [vp_in_iff, i32_i hi]; exact h
theorem i32_nar {z : Int} (h : z = 0 ∨ z = 1) : vp_nar .boolean (Int32.ofInt z) = Int32.ofInt z := by rcases h with rfl | rfl <;> rfl
theorem i32_narrow {z : Int} (h : z = 0 ∨ z = 1) : narrow .boolean (.int (Int32.ofInt z)) = .int (Int32.ofInt z) := by rcases h with rfl | rfl <;> rfl
/-! the step of an instruction that neither calls nor returns -/
def ldV (lv : List (Option Av)) (i : Nat) : Option Av := match lv[i]? with
  | some (some v) => some v
  | _ => none
theorem ldV_at {lv : List (Option Av)} {i : Nat} {v : Av} (h : ldV lv i = some v) : lv[i]? = some (some v) := by
  unfold ldV at h
  split at h
  · cases h; assumption
  · cases h
def cmpP (c : Jvm.ClassFile.Cond) (a b : Int) : Prop := match c with
  | .eq => a = b
  | .ne => ¬ a = b
  | .lt => a < b
  | .ge => b ≤ a
  | .gt => b < a
  | .le => a ≤ b
end
section
section RULES
variable {q : MI} {z : Zx} {pc : Nat} {lv : List (Option Av)} {st : List Av} {M : Mm}
theorem a_iload (hz : Cx q z) {i : Nat} {v : Int} (hd : decode (qB q) pc = .ok (.iload i, 2)) (hv : lv[i]? = some (some (.inl v))) (k : Aw z (pc + 2) lv (.inl v :: st) M) : Aw z pc lv st M := by
  obtain ⟨⟨l, D, cA, ad, A⟩, p, e, R, s, m, args, below, meth, c, cells, slots, QW⟩ := z
  obtain ⟨hx, hb, hml, hown, hts, hr, hlk, hK, hA, hmost, hfr, hlo, hce, hsl⟩ := hz
  intro okm okl oks H locs ls hP hD hS hl
  exact lv_iload hx hb hd (hl.at hv) (k okm okl (oks.cons (okl _ _ hv)) H locs ls hP hD hS hl)
theorem a_iload_n (hz : Cx q z) {i : Nat} {f : Fin 4} {v : Int} (hf : (f : Nat) = i) (hd : decode (qB q) pc = .ok (.iload_n f, 1)) (hv : lv[i]? = some (some (.inl v))) (k : Aw z (pc + 1) lv (.inl v :: st) M) : Aw z pc lv st M := by
  obtain ⟨⟨l, D, cA, ad, A⟩, p, e, R, s, m, args, below, meth, c, cells, slots, QW⟩ := z
  obtain ⟨hx, hb, hml, hown, hts, hr, hlk, hK, hA, hmost, hfr, hlo, hce, hsl⟩ := hz
  intro okm okl oks H locs ls hP hD hS hl
  exact lv_iload_n hx hb hd hf (hl.at hv) (k okm okl (oks.cons (okl _ _ hv)) H locs ls hP hD hS hl)
theorem a_aload (hz : Cx q z) {i : Nat} {v : Nat} (hd : decode (qB q) pc = .ok (.aload i, 2)) (hv : lv[i]? = some (some (.inr v))) (k : Aw z (pc + 2) lv (.inr v :: st) M) : Aw z pc lv st M := by
  obtain ⟨⟨l, D, cA, ad, A⟩, p, e, R, s, m, args, below, meth, c, cells, slots, QW⟩ := z
  obtain ⟨hx, hb, hml, hown, hts, hr, hlk, hK, hA, hmost, hfr, hlo, hce, hsl⟩ := hz
  intro okm okl oks H locs ls hP hD hS hl
  exact lv_aload hx hb hd (hl.at hv) (k okm okl (oks.cons (okl _ _ hv)) H locs ls hP hD hS hl)
theorem a_aload_n (hz : Cx q z) {i : Nat} {f : Fin 4} {v : Nat} (hf : (f : Nat) = i) (hd : decode (qB q) pc = .ok (.aload_n f, 1)) (hv : lv[i]? = some (some (.inr v))) (k : Aw z (pc + 1) lv (.inr v :: st) M) : Aw z pc lv st M := by
  obtain ⟨⟨l, D, cA, ad, A⟩, p, e, R, s, m, args, below, meth, c, cells, slots, QW⟩ := z
  obtain ⟨hx, hb, hml, hown, hts, hr, hlk, hK, hA, hmost, hfr, hlo, hce, hsl⟩ := hz
  intro okm okl oks H locs ls hP hD hS hl
  exact lv_aload_n hx hb hd hf (hl.at hv) (k okm okl (oks.cons (okl _ _ hv)) H locs ls hP hD hS hl)
theorem a_istore (hz : Cx q z) {i : Nat} {v : Int} (hi : i < qN q) (hd : decode (qB q) pc = .ok (.istore i, 2)) (k : Aw z (pc + 2) (lv.set i (some (.inl v))) st M) : Aw z pc lv (.inl v :: st) M := by
  obtain ⟨⟨l, D, cA, ad, A⟩, p, e, R, s, m, args, below, meth, c, cells, slots, QW⟩ := z
  obtain ⟨hx, hb, hml, hown, hts, hr, hlk, hK, hA, hmost, hfr, hlo, hce, hsl⟩ := hz
  intro okm okl oks H locs ls hP hD hS hl
  exact lv_istore hx hb hd hl (by rw [hml]; exact hi) rfl (fun ls2 hl2 => k okm (okl.set oks.head) oks.tail H locs ls2 hP hD hS (lvO_set hl2))
theorem a_istore_n (hz : Cx q z) {i : Nat} {f : Fin 4} {v : Int} (hi : i < qN q) (hf : (f : Nat) = i) (hd : decode (qB q) pc = .ok (.istore_n f, 1)) (k : Aw z (pc + 1) (lv.set i (some (.inl v))) st M) : Aw z pc lv (.inl v :: st) M := by
  obtain ⟨⟨l, D, cA, ad, A⟩, p, e, R, s, m, args, below, meth, c, cells, slots, QW⟩ := z
  obtain ⟨hx, hb, hml, hown, hts, hr, hlk, hK, hA, hmost, hfr, hlo, hce, hsl⟩ := hz
  intro okm okl oks H locs ls hP hD hS hl
  exact lv_istore_n hx hb hd hf hl (by rw [hml]; exact hi) rfl (fun ls2 hl2 => k okm (okl.set oks.head) oks.tail H locs ls2 hP hD hS (lvO_set hl2))
theorem a_astore (hz : Cx q z) {i : Nat} {v : Nat} (hi : i < qN q) (hd : decode (qB q) pc = .ok (.astore i, 2)) (k : Aw z (pc + 2) (lv.set i (some (.inr v))) st M) : Aw z pc lv (.inr v :: st) M := by
  obtain ⟨⟨l, D, cA, ad, A⟩, p, e, R, s, m, args, below, meth, c, cells, slots, QW⟩ := z
  obtain ⟨hx, hb, hml, hown, hts, hr, hlk, hK, hA, hmost, hfr, hlo, hce, hsl⟩ := hz
  intro okm okl oks H locs ls hP hD hS hl
  exact lv_astore hx hb hd hl (by rw [hml]; exact hi) rfl (fun ls2 hl2 => k okm (okl.set oks.head) oks.tail H locs ls2 hP hD hS (lvO_set hl2))
theorem a_astore_n (hz : Cx q z) {i : Nat} {f : Fin 4} {v : Nat} (hi : i < qN q) (hf : (f : Nat) = i) (hd : decode (qB q) pc = .ok (.astore_n f, 1)) (k : Aw z (pc + 1) (lv.set i (some (.inr v))) st M) : Aw z pc lv (.inr v :: st) M := by
  obtain ⟨⟨l, D, cA, ad, A⟩, p, e, R, s, m, args, below, meth, c, cells, slots, QW⟩ := z
  obtain ⟨hx, hb, hml, hown, hts, hr, hlk, hK, hA, hmost, hfr, hlo, hce, hsl⟩ := hz
  intro okm okl oks H locs ls hP hD hS hl
  exact lv_astore_n hx hb hd hf hl (by rw [hml]; exact hi) rfl (fun ls2 hl2 => k okm (okl.set oks.head) oks.tail H locs ls2 hP hD hS (lvO_set hl2))
theorem a_iconst (hz : Cx q z) {v : Int} (h : inR v) (hd : decode (qB q) pc = .ok (.iconst v, 1)) (k : Aw z (pc + 1) lv (.inl v :: st) M) : Aw z pc lv st M := by
  obtain ⟨⟨l, D, cA, ad, A⟩, p, e, R, s, m, args, below, meth, c, cells, slots, QW⟩ := z
  obtain ⟨hx, hb, hml, hown, hts, hr, hlk, hK, hA, hmost, hfr, hlo, hce, hsl⟩ := hz
  intro okm okl oks H locs ls hP hD hS hl
  exact lv_iconst hx hb hd rfl (k okm okl (oks.cons h) H locs ls hP hD hS hl)
theorem i8_i {v : Int} (h : -128 ≤ v ∧ v ≤ 127) : (Int8.ofInt v).toInt32 = Int32.ofInt v := by
  rw [← Int32.toInt_inj, i32_i ⟨by omega, by omega⟩, Int8.toInt_toInt32, Int8.toInt_ofInt_of_le (by omega) (by omega)]
theorem i16_i {v : Int} (h : -32768 ≤ v ∧ v ≤ 32767) : (Int16.ofInt v).toInt32 = Int32.ofInt v := by
  rw [← Int32.toInt_inj, i32_i ⟨by omega, by omega⟩, Int16.toInt_toInt32, Int16.toInt_ofInt_of_le (by omega) (by omega)]
theorem a_bipush (hz : Cx q z) {v : Int} (h : -128 ≤ v ∧ v ≤ 127) (hd : decode (qB q) pc = .ok (.bipush v, 2)) (k : Aw z (pc + 2) lv (.inl v :: st) M) : Aw z pc lv st M := by
  obtain ⟨⟨l, D, cA, ad, A⟩, p, e, R, s, m, args, below, meth, c, cells, slots, QW⟩ := z
  obtain ⟨hx, hb, hml, hown, hts, hr, hlk, hK, hA, hmost, hfr, hlo, hce, hsl⟩ := hz
  intro okm okl oks H locs ls hP hD hS hl
  exact lv_bipush hx hb hd (i8_i h) (k okm okl (oks.cons ⟨by omega, by omega⟩) H locs ls hP hD hS hl)
theorem a_sipush (hz : Cx q z) {v : Int} (h : -32768 ≤ v ∧ v ≤ 32767) (hd : decode (qB q) pc = .ok (.sipush v, 3)) (k : Aw z (pc + 3) lv (.inl v :: st) M) : Aw z pc lv st M := by
  obtain ⟨⟨l, D, cA, ad, A⟩, p, e, R, s, m, args, below, meth, c, cells, slots, QW⟩ := z
  obtain ⟨hx, hb, hml, hown, hts, hr, hlk, hK, hA, hmost, hfr, hlo, hce, hsl⟩ := hz
  intro okm okl oks H locs ls hP hD hS hl
  exact lv_sipush hx hb hd (i16_i h) (k okm okl (oks.cons ⟨by omega, by omega⟩) H locs ls hP hD hS hl)
theorem a_ldc (hz : Cx q z) {i : Nat} {v : Int} (h : inR v) (hc : Jvm.Cond.constant q.1 i (Int32.ofInt v) ∈ gw_tbl) (hd : decode (qB q) pc = .ok (.ldc i, 2)) (k : Aw z (pc + 2) lv (.inl v :: st) M) : Aw z pc lv st M := by
  obtain ⟨⟨l, D, cA, ad, A⟩, p, e, R, s, m, args, below, meth, c, cells, slots, QW⟩ := z
  obtain ⟨hx, hb, hml, hown, hts, hr, hlk, hK, hA, hmost, hfr, hlo, hce, hsl⟩ := hz
  intro okm okl oks H locs ls hP hD hS hl
  exact lv_ldc hx hb hown (hts _ hc) hd (k okm okl (oks.cons h) H locs ls hP hD hS hl)
theorem a_ldc_w (hz : Cx q z) {i : Nat} {v : Int} (h : inR v) (hc : Jvm.Cond.constant q.1 i (Int32.ofInt v) ∈ gw_tbl) (hd : decode (qB q) pc = .ok (.ldc_w i, 3)) (k : Aw z (pc + 3) lv (.inl v :: st) M) : Aw z pc lv st M := by
  obtain ⟨⟨l, D, cA, ad, A⟩, p, e, R, s, m, args, below, meth, c, cells, slots, QW⟩ := z
  obtain ⟨hx, hb, hml, hown, hts, hr, hlk, hK, hA, hmost, hfr, hlo, hce, hsl⟩ := hz
  intro okm okl oks H locs ls hP hD hS hl
  exact lv_ldcw hx hb hown (hts _ hc) hd (k okm okl (oks.cons h) H locs ls hP hD hS hl)
theorem a_iadd (hz : Cx q z) {a b : Int} (h : inR (a + b)) (hd : decode (qB q) pc = .ok (.iadd, 1)) (k : Aw z (pc + 1) lv (.inl (a + b) :: st) M) : Aw z pc lv (.inl b :: .inl a :: st) M := by
  obtain ⟨⟨l, D, cA, ad, A⟩, p, e, R, s, m, args, below, meth, c, cells, slots, QW⟩ := z
  obtain ⟨hx, hb, hml, hown, hts, hr, hlk, hK, hA, hmost, hfr, hlo, hce, hsl⟩ := hz
  intro okm okl oks H locs ls hP hD hS hl
  have k2 := k okm okl (oks.tail.tail.cons h) H locs ls hP hD hS hl
  refine lv_iadd hx hb hd ?_
  rw [← Int32.ofInt_add]
  exact k2
theorem a_isub (hz : Cx q z) {a b : Int} (h : inR (a - b)) (hd : decode (qB q) pc = .ok (.isub, 1)) (k : Aw z (pc + 1) lv (.inl (a - b) :: st) M) : Aw z pc lv (.inl b :: .inl a :: st) M := by
  obtain ⟨⟨l, D, cA, ad, A⟩, p, e, R, s, m, args, below, meth, c, cells, slots, QW⟩ := z
  obtain ⟨hx, hb, hml, hown, hts, hr, hlk, hK, hA, hmost, hfr, hlo, hce, hsl⟩ := hz
  intro okm okl oks H locs ls hP hD hS hl
  have k2 := k okm okl (oks.tail.tail.cons h) H locs ls hP hD hS hl
  refine lv_isub hx hb hd ?_
  rw [← Int32.ofInt_sub]
  exact k2
theorem a_imul (hz : Cx q z) {a b : Int} (h : inR (a * b)) (hd : decode (qB q) pc = .ok (.imul, 1)) (k : Aw z (pc + 1) lv (.inl (a * b) :: st) M) : Aw z pc lv (.inl b :: .inl a :: st) M := by
  obtain ⟨⟨l, D, cA, ad, A⟩, p, e, R, s, m, args, below, meth, c, cells, slots, QW⟩ := z
  obtain ⟨hx, hb, hml, hown, hts, hr, hlk, hK, hA, hmost, hfr, hlo, hce, hsl⟩ := hz
  intro okm okl oks H locs ls hP hD hS hl
  have k2 := k okm okl (oks.tail.tail.cons h) H locs ls hP hD hS hl
  refine lv_imul hx hb hd ?_
  rw [← Int32.ofInt_mul]
  exact k2
theorem a_ineg (hz : Cx q z) {a : Int} (h : inR (-a)) (hd : decode (qB q) pc = .ok (.ineg, 1)) (k : Aw z (pc + 1) lv (.inl (-a) :: st) M) : Aw z pc lv (.inl a :: st) M := by
  obtain ⟨⟨l, D, cA, ad, A⟩, p, e, R, s, m, args, below, meth, c, cells, slots, QW⟩ := z
  obtain ⟨hx, hb, hml, hown, hts, hr, hlk, hK, hA, hmost, hfr, hlo, hce, hsl⟩ := hz
  intro okm okl oks H locs ls hP hD hS hl
  have k2 := k okm okl (oks.tail.cons h) H locs ls hP hD hS hl
  refine lv_ineg hx hb hd ?_
  rw [← Int32.ofInt_neg]
  exact k2
theorem i32_div {a b : Int} (ha : inR a) (hb : inR b) (h1 : ¬ b = 0) (h2 : ¬ b = -1) : Int32.ofInt a / Int32.ofInt b = Int32.ofInt (a.tdiv b) := by
  rw [Int32.ofInt_tdiv (by exact ha.1) (by exact ha.2) (by exact hb.1) (by exact hb.2)]
theorem inR_div {a b : Int} (ha : inR a) (hb : inR b) (h2 : ¬ b = -1) : inR (a.tdiv b) := by
  have h := Int32.toInt_div_of_ne_right (Int32.ofInt a) (Int32.ofInt b) (fun h => h2 ((i32_eq hb (show inR (-1) by decide)).mp (h.trans (by decide))))
  rw [i32_i ha, i32_i hb] at h
  rw [← h]
  exact i32_of _
theorem i32_rem {a b : Int} (ha : inR a) (hb : inR b) (h1 : ¬ b = 0) (h2 : ¬ b = -1) : Int32.ofInt a - Int32.ofInt a / Int32.ofInt b * Int32.ofInt b = Int32.ofInt (a.tmod b) := by
  rw [i32_div ha hb h1 h2, ← Int32.ofInt_mul, ← Int32.ofInt_sub, Int.tmod_def, Int.mul_comm b]
theorem inR_rem {a b : Int} (ha : inR a) : inR (a.tmod b) := by
  have h1 : (a.tmod b).natAbs ≤ a.natAbs := by rw [Int.natAbs_tmod]; exact Nat.mod_le _ _
  have := ha.1; have := ha.2
  by_cases h0 : 0 ≤ a
  · have := Int.tmod_nonneg b h0
    constructor <;> omega
  · have h3 : a.tmod b ≤ 0 := by
      have h4 := Int.tmod_nonneg b (show 0 ≤ -a by omega)
      rw [Int.neg_tmod] at h4
      omega
    constructor <;> omega
def b2 (f : Int32 → Int32 → Int32) (a b : Int) : Int := (f (Int32.ofInt a) (Int32.ofInt b)).toInt
theorem b2_i (f : Int32 → Int32 → Int32) (a b : Int) : Int32.ofInt (b2 f a b) = f (Int32.ofInt a) (Int32.ofInt b) := Int32.ofInt_toInt _
def ishlI (a b : Int) : Int := b2 (fun x y => x <<< (y &&& 31)) a b
def ishrI (a b : Int) : Int := b2 (fun x y => x >>> (y &&& 31)) a b
def iushrI (a b : Int) : Int := b2 (fun x y => (x.toUInt32 >>> (y.toUInt32 &&& Int32.toUInt32 31)).toInt32) a b
def iandI (a b : Int) : Int := b2 (fun x y => x &&& y) a b
def iorI (a b : Int) : Int := b2 (fun x y => x ||| y) a b
theorem a_idiv (hz : Cx q z) {a b : Int} (h : ¬ b = 0 ∧ ¬ b = -1) (hd : decode (qB q) pc = .ok (.idiv, 1)) (k : Aw z (pc + 1) lv (.inl (a.tdiv b) :: st) M) : Aw z pc lv (.inl b :: .inl a :: st) M := by
  obtain ⟨⟨l, D, cA, ad, A⟩, p, e, R, s, m, args, below, meth, c, cells, slots, QW⟩ := z
  obtain ⟨hx, hb, hml, hown, hts, hr, hlk, hK, hA, hmost, hfr, hlo, hce, hsl⟩ := hz
  intro okm okl oks H locs ls hP hD hS hl
  have hb1 : inR b := oks.head
  have ha1 : inR a := oks.tail.head
  have k2 := k okm okl (oks.tail.tail.cons (inR_div ha1 hb1 h.2)) H locs ls hP hD hS hl
  refine lv_idiv hx hb hd (fun h9 => h.1 ((i32_eq hb1 (by decide)).mp h9)) ?_
  rw [i32_div ha1 hb1 h.1 h.2]
  exact k2
theorem a_irem (hz : Cx q z) {a b : Int} (h : ¬ b = 0 ∧ ¬ b = -1) (hd : decode (qB q) pc = .ok (.irem, 1)) (k : Aw z (pc + 1) lv (.inl (a.tmod b) :: st) M) : Aw z pc lv (.inl b :: .inl a :: st) M := by
  obtain ⟨⟨l, D, cA, ad, A⟩, p, e, R, s, m, args, below, meth, c, cells, slots, QW⟩ := z
  obtain ⟨hx, hb, hml, hown, hts, hr, hlk, hK, hA, hmost, hfr, hlo, hce, hsl⟩ := hz
  intro okm okl oks H locs ls hP hD hS hl
  have hb1 : inR b := oks.head
  have ha1 : inR a := oks.tail.head
  have k2 := k okm okl (oks.tail.tail.cons (inR_rem ha1)) H locs ls hP hD hS hl
  refine lv_irem hx hb hd (fun h9 => h.1 ((i32_eq hb1 (by decide)).mp h9)) ?_
  rw [i32_rem ha1 hb1 h.1 h.2]
  exact k2
theorem a_ishl (hz : Cx q z) {a b : Int} (hd : decode (qB q) pc = .ok (.ishl, 1)) (k : Aw z (pc + 1) lv (.inl (ishlI a b) :: st) M) : Aw z pc lv (.inl b :: .inl a :: st) M := by
  obtain ⟨⟨l, D, cA, ad, A⟩, p, e, R, s, m, args, below, meth, c, cells, slots, QW⟩ := z
  obtain ⟨hx, hb, hml, hown, hts, hr, hlk, hK, hA, hmost, hfr, hlo, hce, hsl⟩ := hz
  intro okm okl oks H locs ls hP hD hS hl
  have k2 := k okm okl (oks.tail.tail.cons (i32_of _)) H locs ls hP hD hS hl
  refine lv_ishl hx hb hd ?_
  have k3 := b2_i (fun x y => x <<< (y &&& 31)) a b
  simp only [List.map_cons, cvV, ishlI] at k2
  rw [k3] at k2
  exact k2
theorem a_ishr (hz : Cx q z) {a b : Int} (hd : decode (qB q) pc = .ok (.ishr, 1)) (k : Aw z (pc + 1) lv (.inl (ishrI a b) :: st) M) : Aw z pc lv (.inl b :: .inl a :: st) M := by
  obtain ⟨⟨l, D, cA, ad, A⟩, p, e, R, s, m, args, below, meth, c, cells, slots, QW⟩ := z
  obtain ⟨hx, hb, hml, hown, hts, hr, hlk, hK, hA, hmost, hfr, hlo, hce, hsl⟩ := hz
  intro okm okl oks H locs ls hP hD hS hl
  have k2 := k okm okl (oks.tail.tail.cons (i32_of _)) H locs ls hP hD hS hl
  refine lv_ishr hx hb hd ?_
  have k3 := b2_i (fun x y => x >>> (y &&& 31)) a b
  simp only [List.map_cons, cvV, ishrI] at k2
  rw [k3] at k2
  exact k2
theorem a_iand (hz : Cx q z) {a b : Int} (hd : decode (qB q) pc = .ok (.iand, 1)) (k : Aw z (pc + 1) lv (.inl (iandI a b) :: st) M) : Aw z pc lv (.inl b :: .inl a :: st) M := by
  obtain ⟨⟨l, D, cA, ad, A⟩, p, e, R, s, m, args, below, meth, c, cells, slots, QW⟩ := z
  obtain ⟨hx, hb, hml, hown, hts, hr, hlk, hK, hA, hmost, hfr, hlo, hce, hsl⟩ := hz
  intro okm okl oks H locs ls hP hD hS hl
  have k2 := k okm okl (oks.tail.tail.cons (i32_of _)) H locs ls hP hD hS hl
  refine lv_iand hx hb hd ?_
  have k3 := b2_i (fun x y => x &&& y) a b
  simp only [List.map_cons, cvV, iandI] at k2
  rw [k3] at k2
  exact k2
theorem a_ior (hz : Cx q z) {a b : Int} (hd : decode (qB q) pc = .ok (.ior, 1)) (k : Aw z (pc + 1) lv (.inl (iorI a b) :: st) M) : Aw z pc lv (.inl b :: .inl a :: st) M := by
  obtain ⟨⟨l, D, cA, ad, A⟩, p, e, R, s, m, args, below, meth, c, cells, slots, QW⟩ := z
  obtain ⟨hx, hb, hml, hown, hts, hr, hlk, hK, hA, hmost, hfr, hlo, hce, hsl⟩ := hz
  intro okm okl oks H locs ls hP hD hS hl
  have k2 := k okm okl (oks.tail.tail.cons (i32_of _)) H locs ls hP hD hS hl
  refine lv_ior hx hb hd ?_
  have k3 := b2_i (fun x y => x ||| y) a b
  simp only [List.map_cons, cvV, iorI] at k2
  rw [k3] at k2
  exact k2
theorem a_iushr (hz : Cx q z) {a b : Int} (hd : decode (qB q) pc = .ok (.iushr, 1)) (k : Aw z (pc + 1) lv (.inl (iushrI a b) :: st) M) : Aw z pc lv (.inl b :: .inl a :: st) M := by
  obtain ⟨⟨l, D, cA, ad, A⟩, p, e, R, s, m, args, below, meth, c, cells, slots, QW⟩ := z
  obtain ⟨hx, hb, hml, hown, hts, hr, hlk, hK, hA, hmost, hfr, hlo, hce, hsl⟩ := hz
  intro okm okl oks H locs ls hP hD hS hl
  have k2 := k okm okl (oks.tail.tail.cons (i32_of _)) H locs ls hP hD hS hl
  exact lv_iushr hx hb hd (b2_i (fun x y => (x.toUInt32 >>> (y.toUInt32 &&& Int32.toUInt32 31)).toInt32) a b).symm k2
theorem a_iinc (hz : Cx q z) {i : Nat} {n v : Int} (hi : i < qN q) (hv : lv[i]? = some (some (.inl v))) (h : inR (v + n)) (hd : decode (qB q) pc = .ok (.iinc i n, 3)) (k : Aw z (pc + 3) (lv.set i (some (.inl (v + n)))) st M) : Aw z pc lv st M := by
  obtain ⟨⟨l, D, cA, ad, A⟩, p, e, R, s, m, args, below, meth, c, cells, slots, QW⟩ := z
  obtain ⟨hx, hb, hml, hown, hts, hr, hlk, hK, hA, hmost, hfr, hlo, hce, hsl⟩ := hz
  intro okm okl oks H locs ls hP hD hS hl
  obtain ⟨kk, hkk⟩ := List.getElem?_of_mem (mem_lvl.mpr ⟨.inl v, hv, rfl⟩ : ((i, cvV ad (.inl v)) : Nat × Value) ∈ lvl ad lv)
  refine lv_iinc hx hb hd hl hkk (Int32.ofInt_add v n).symm (by rw [hml]; exact hi) rfl (fun ls2 hl2 => k okm (okl.set h) oks H locs ls2 hP hD hS (lvO_set (v := .inl (v + n)) hl2))
theorem a_goto (hz : Cx q z) {off : Int} {t : Nat} (ht : (pc : Int) + off = (t : Int)) (hd : decode (qB q) pc = .ok (.goto off, 3)) (k : Aw z t lv st M) : Aw z pc lv st M := by
  obtain ⟨⟨l, D, cA, ad, A⟩, p, e, R, s, m, args, below, meth, c, cells, slots, QW⟩ := z
  obtain ⟨hx, hb, hml, hown, hts, hr, hlk, hK, hA, hmost, hfr, hlo, hce, hsl⟩ := hz
  intro okm okl oks H locs ls hP hD hS hl
  exact lv_goto hx hb hd ht (k okm okl oks H locs ls hP hD hS hl)
theorem a_icmp_eq_t (hz : Cx q z) {a b off : Int} {t : Nat} (ht : (pc : Int) + off = (t : Int)) (h : cmpP .eq a b) (hd : decode (qB q) pc = .ok (.if_icmp .eq off, 3)) (k : Aw z t lv st M) : Aw z pc lv (.inl b :: .inl a :: st) M := by
  obtain ⟨⟨l, D, cA, ad, A⟩, p, e, R, s, m, args, below, meth, c, cells, slots, QW⟩ := z
  obtain ⟨hx, hb, hml, hown, hts, hr, hlk, hK, hA, hmost, hfr, hlo, hce, hsl⟩ := hz
  intro okm okl oks H locs ls hP hD hS hl
  have hb1 : inR b := oks.head
  have ha1 : inR a := oks.tail.head
  have k2 := k okm okl oks.tail.tail H locs ls hP hD hS hl
  exact lv_icmp_eq hx hb hd ht (fun _ => k2) (fun h9 => absurd ((i32_eq ha1 hb1).mpr h) h9)
theorem a_if_eq_t (hz : Cx q z) {a off : Int} {t : Nat} (ht : (pc : Int) + off = (t : Int)) (h : cmpP .eq a 0) (hd : decode (qB q) pc = .ok (.ifCond .eq off, 3)) (k : Aw z t lv st M) : Aw z pc lv (.inl a :: st) M := by
  obtain ⟨⟨l, D, cA, ad, A⟩, p, e, R, s, m, args, below, meth, c, cells, slots, QW⟩ := z
  obtain ⟨hx, hb, hml, hown, hts, hr, hlk, hK, hA, hmost, hfr, hlo, hce, hsl⟩ := hz
  intro okm okl oks H locs ls hP hD hS hl
  have hb1 : inR 0 := by decide
  have ha1 : inR a := oks.head
  have k2 := k okm okl oks.tail H locs ls hP hD hS hl
  exact lv_if_eq hx hb hd ht (fun _ => k2) (fun h9 => absurd ((i32_eq ha1 hb1).mpr h) h9)
theorem a_icmp_eq_f (hz : Cx q z) {a b off : Int} {t : Nat} (ht : (pc : Int) + off = (t : Int)) (h : ¬ cmpP .eq a b) (hd : decode (qB q) pc = .ok (.if_icmp .eq off, 3)) (k : Aw z (pc + 3) lv st M) : Aw z pc lv (.inl b :: .inl a :: st) M := by
  obtain ⟨⟨l, D, cA, ad, A⟩, p, e, R, s, m, args, below, meth, c, cells, slots, QW⟩ := z
  obtain ⟨hx, hb, hml, hown, hts, hr, hlk, hK, hA, hmost, hfr, hlo, hce, hsl⟩ := hz
  intro okm okl oks H locs ls hP hD hS hl
  have hb1 : inR b := oks.head
  have ha1 : inR a := oks.tail.head
  have k2 := k okm okl oks.tail.tail H locs ls hP hD hS hl
  exact lv_icmp_eq hx hb hd ht (fun h9 => absurd ((i32_eq ha1 hb1).mp h9) h) (fun _ => k2)
theorem a_if_eq_f (hz : Cx q z) {a off : Int} {t : Nat} (ht : (pc : Int) + off = (t : Int)) (h : ¬ cmpP .eq a 0) (hd : decode (qB q) pc = .ok (.ifCond .eq off, 3)) (k : Aw z (pc + 3) lv st M) : Aw z pc lv (.inl a :: st) M := by
  obtain ⟨⟨l, D, cA, ad, A⟩, p, e, R, s, m, args, below, meth, c, cells, slots, QW⟩ := z
  obtain ⟨hx, hb, hml, hown, hts, hr, hlk, hK, hA, hmost, hfr, hlo, hce, hsl⟩ := hz
  intro okm okl oks H locs ls hP hD hS hl
  have hb1 : inR 0 := by decide
  have ha1 : inR a := oks.head
  have k2 := k okm okl oks.tail H locs ls hP hD hS hl
  exact lv_if_eq hx hb hd ht (fun h9 => absurd ((i32_eq ha1 hb1).mp h9) h) (fun _ => k2)
theorem a_icmp_ne_t (hz : Cx q z) {a b off : Int} {t : Nat} (ht : (pc : Int) + off = (t : Int)) (h : cmpP .ne a b) (hd : decode (qB q) pc = .ok (.if_icmp .ne off, 3)) (k : Aw z t lv st M) : Aw z pc lv (.inl b :: .inl a :: st) M := by
  obtain ⟨⟨l, D, cA, ad, A⟩, p, e, R, s, m, args, below, meth, c, cells, slots, QW⟩ := z
  obtain ⟨hx, hb, hml, hown, hts, hr, hlk, hK, hA, hmost, hfr, hlo, hce, hsl⟩ := hz
  intro okm okl oks H locs ls hP hD hS hl
  have hb1 : inR b := oks.head
  have ha1 : inR a := oks.tail.head
  have k2 := k okm okl oks.tail.tail H locs ls hP hD hS hl
  exact lv_icmp_ne hx hb hd ht (fun _ => k2) (fun h9 => absurd ((i32_eq ha1 hb1).mp h9) h)
theorem a_if_ne_t (hz : Cx q z) {a off : Int} {t : Nat} (ht : (pc : Int) + off = (t : Int)) (h : cmpP .ne a 0) (hd : decode (qB q) pc = .ok (.ifCond .ne off, 3)) (k : Aw z t lv st M) : Aw z pc lv (.inl a :: st) M := by
  obtain ⟨⟨l, D, cA, ad, A⟩, p, e, R, s, m, args, below, meth, c, cells, slots, QW⟩ := z
  obtain ⟨hx, hb, hml, hown, hts, hr, hlk, hK, hA, hmost, hfr, hlo, hce, hsl⟩ := hz
  intro okm okl oks H locs ls hP hD hS hl
  have hb1 : inR 0 := by decide
  have ha1 : inR a := oks.head
  have k2 := k okm okl oks.tail H locs ls hP hD hS hl
  exact lv_if_ne hx hb hd ht (fun _ => k2) (fun h9 => absurd ((i32_eq ha1 hb1).mp h9) h)
theorem a_icmp_ne_f (hz : Cx q z) {a b off : Int} {t : Nat} (ht : (pc : Int) + off = (t : Int)) (h : ¬ cmpP .ne a b) (hd : decode (qB q) pc = .ok (.if_icmp .ne off, 3)) (k : Aw z (pc + 3) lv st M) : Aw z pc lv (.inl b :: .inl a :: st) M := by
  obtain ⟨⟨l, D, cA, ad, A⟩, p, e, R, s, m, args, below, meth, c, cells, slots, QW⟩ := z
  obtain ⟨hx, hb, hml, hown, hts, hr, hlk, hK, hA, hmost, hfr, hlo, hce, hsl⟩ := hz
  intro okm okl oks H locs ls hP hD hS hl
  have hb1 : inR b := oks.head
  have ha1 : inR a := oks.tail.head
  have k2 := k okm okl oks.tail.tail H locs ls hP hD hS hl
  exact lv_icmp_ne hx hb hd ht (fun h9 => absurd (fun h8 => h9 ((i32_eq ha1 hb1).mpr h8)) h) (fun _ => k2)
theorem a_if_ne_f (hz : Cx q z) {a off : Int} {t : Nat} (ht : (pc : Int) + off = (t : Int)) (h : ¬ cmpP .ne a 0) (hd : decode (qB q) pc = .ok (.ifCond .ne off, 3)) (k : Aw z (pc + 3) lv st M) : Aw z pc lv (.inl a :: st) M := by
  obtain ⟨⟨l, D, cA, ad, A⟩, p, e, R, s, m, args, below, meth, c, cells, slots, QW⟩ := z
  obtain ⟨hx, hb, hml, hown, hts, hr, hlk, hK, hA, hmost, hfr, hlo, hce, hsl⟩ := hz
  intro okm okl oks H locs ls hP hD hS hl
  have hb1 : inR 0 := by decide
  have ha1 : inR a := oks.head
  have k2 := k okm okl oks.tail H locs ls hP hD hS hl
  exact lv_if_ne hx hb hd ht (fun h9 => absurd (fun h8 => h9 ((i32_eq ha1 hb1).mpr h8)) h) (fun _ => k2)
theorem a_icmp_lt_t (hz : Cx q z) {a b off : Int} {t : Nat} (ht : (pc : Int) + off = (t : Int)) (h : cmpP .lt a b) (hd : decode (qB q) pc = .ok (.if_icmp .lt off, 3)) (k : Aw z t lv st M) : Aw z pc lv (.inl b :: .inl a :: st) M := by
  obtain ⟨⟨l, D, cA, ad, A⟩, p, e, R, s, m, args, below, meth, c, cells, slots, QW⟩ := z
  obtain ⟨hx, hb, hml, hown, hts, hr, hlk, hK, hA, hmost, hfr, hlo, hce, hsl⟩ := hz
  intro okm okl oks H locs ls hP hD hS hl
  have hb1 : inR b := oks.head
  have ha1 : inR a := oks.tail.head
  have k2 := k okm okl oks.tail.tail H locs ls hP hD hS hl
  exact lv_icmp_lt hx hb hd ht (fun _ => k2) (fun h9 => absurd ((i32_lt ha1 hb1).mpr h) h9)
theorem a_if_lt_t (hz : Cx q z) {a off : Int} {t : Nat} (ht : (pc : Int) + off = (t : Int)) (h : cmpP .lt a 0) (hd : decode (qB q) pc = .ok (.ifCond .lt off, 3)) (k : Aw z t lv st M) : Aw z pc lv (.inl a :: st) M := by
  obtain ⟨⟨l, D, cA, ad, A⟩, p, e, R, s, m, args, below, meth, c, cells, slots, QW⟩ := z
  obtain ⟨hx, hb, hml, hown, hts, hr, hlk, hK, hA, hmost, hfr, hlo, hce, hsl⟩ := hz
  intro okm okl oks H locs ls hP hD hS hl
  have hb1 : inR 0 := by decide
  have ha1 : inR a := oks.head
  have k2 := k okm okl oks.tail H locs ls hP hD hS hl
  exact lv_if_lt hx hb hd ht (fun _ => k2) (fun h9 => absurd ((i32_lt ha1 hb1).mpr h) h9)
theorem a_icmp_lt_f (hz : Cx q z) {a b off : Int} {t : Nat} (ht : (pc : Int) + off = (t : Int)) (h : ¬ cmpP .lt a b) (hd : decode (qB q) pc = .ok (.if_icmp .lt off, 3)) (k : Aw z (pc + 3) lv st M) : Aw z pc lv (.inl b :: .inl a :: st) M := by
  obtain ⟨⟨l, D, cA, ad, A⟩, p, e, R, s, m, args, below, meth, c, cells, slots, QW⟩ := z
  obtain ⟨hx, hb, hml, hown, hts, hr, hlk, hK, hA, hmost, hfr, hlo, hce, hsl⟩ := hz
  intro okm okl oks H locs ls hP hD hS hl
  have hb1 : inR b := oks.head
  have ha1 : inR a := oks.tail.head
  have k2 := k okm okl oks.tail.tail H locs ls hP hD hS hl
  exact lv_icmp_lt hx hb hd ht (fun h9 => absurd ((i32_lt ha1 hb1).mp h9) h) (fun _ => k2)
theorem a_if_lt_f (hz : Cx q z) {a off : Int} {t : Nat} (ht : (pc : Int) + off = (t : Int)) (h : ¬ cmpP .lt a 0) (hd : decode (qB q) pc = .ok (.ifCond .lt off, 3)) (k : Aw z (pc + 3) lv st M) : Aw z pc lv (.inl a :: st) M := by
  obtain ⟨⟨l, D, cA, ad, A⟩, p, e, R, s, m, args, below, meth, c, cells, slots, QW⟩ := z
  obtain ⟨hx, hb, hml, hown, hts, hr, hlk, hK, hA, hmost, hfr, hlo, hce, hsl⟩ := hz
  intro okm okl oks H locs ls hP hD hS hl
  have hb1 : inR 0 := by decide
  have ha1 : inR a := oks.head
  have k2 := k okm okl oks.tail H locs ls hP hD hS hl
  exact lv_if_lt hx hb hd ht (fun h9 => absurd ((i32_lt ha1 hb1).mp h9) h) (fun _ => k2)
theorem a_icmp_ge_t (hz : Cx q z) {a b off : Int} {t : Nat} (ht : (pc : Int) + off = (t : Int)) (h : cmpP .ge a b) (hd : decode (qB q) pc = .ok (.if_icmp .ge off, 3)) (k : Aw z t lv st M) : Aw z pc lv (.inl b :: .inl a :: st) M := by
  obtain ⟨⟨l, D, cA, ad, A⟩, p, e, R, s, m, args, below, meth, c, cells, slots, QW⟩ := z
  obtain ⟨hx, hb, hml, hown, hts, hr, hlk, hK, hA, hmost, hfr, hlo, hce, hsl⟩ := hz
  intro okm okl oks H locs ls hP hD hS hl
  have hb1 : inR b := oks.head
  have ha1 : inR a := oks.tail.head
  have k2 := k okm okl oks.tail.tail H locs ls hP hD hS hl
  exact lv_icmp_ge hx hb hd ht (fun _ => k2) (fun h9 => absurd ((i32_le hb1 ha1).mpr h) h9)
theorem a_if_ge_t (hz : Cx q z) {a off : Int} {t : Nat} (ht : (pc : Int) + off = (t : Int)) (h : cmpP .ge a 0) (hd : decode (qB q) pc = .ok (.ifCond .ge off, 3)) (k : Aw z t lv st M) : Aw z pc lv (.inl a :: st) M := by
  obtain ⟨⟨l, D, cA, ad, A⟩, p, e, R, s, m, args, below, meth, c, cells, slots, QW⟩ := z
  obtain ⟨hx, hb, hml, hown, hts, hr, hlk, hK, hA, hmost, hfr, hlo, hce, hsl⟩ := hz
  intro okm okl oks H locs ls hP hD hS hl
  have hb1 : inR 0 := by decide
  have ha1 : inR a := oks.head
  have k2 := k okm okl oks.tail H locs ls hP hD hS hl
  exact lv_if_ge hx hb hd ht (fun _ => k2) (fun h9 => absurd ((i32_le hb1 ha1).mpr h) h9)
theorem a_icmp_ge_f (hz : Cx q z) {a b off : Int} {t : Nat} (ht : (pc : Int) + off = (t : Int)) (h : ¬ cmpP .ge a b) (hd : decode (qB q) pc = .ok (.if_icmp .ge off, 3)) (k : Aw z (pc + 3) lv st M) : Aw z pc lv (.inl b :: .inl a :: st) M := by
  obtain ⟨⟨l, D, cA, ad, A⟩, p, e, R, s, m, args, below, meth, c, cells, slots, QW⟩ := z
  obtain ⟨hx, hb, hml, hown, hts, hr, hlk, hK, hA, hmost, hfr, hlo, hce, hsl⟩ := hz
  intro okm okl oks H locs ls hP hD hS hl
  have hb1 : inR b := oks.head
  have ha1 : inR a := oks.tail.head
  have k2 := k okm okl oks.tail.tail H locs ls hP hD hS hl
  exact lv_icmp_ge hx hb hd ht (fun h9 => absurd ((i32_le hb1 ha1).mp h9) h) (fun _ => k2)
theorem a_if_ge_f (hz : Cx q z) {a off : Int} {t : Nat} (ht : (pc : Int) + off = (t : Int)) (h : ¬ cmpP .ge a 0) (hd : decode (qB q) pc = .ok (.ifCond .ge off, 3)) (k : Aw z (pc + 3) lv st M) : Aw z pc lv (.inl a :: st) M := by
  obtain ⟨⟨l, D, cA, ad, A⟩, p, e, R, s, m, args, below, meth, c, cells, slots, QW⟩ := z
  obtain ⟨hx, hb, hml, hown, hts, hr, hlk, hK, hA, hmost, hfr, hlo, hce, hsl⟩ := hz
  intro okm okl oks H locs ls hP hD hS hl
  have hb1 : inR 0 := by decide
  have ha1 : inR a := oks.head
  have k2 := k okm okl oks.tail H locs ls hP hD hS hl
  exact lv_if_ge hx hb hd ht (fun h9 => absurd ((i32_le hb1 ha1).mp h9) h) (fun _ => k2)
theorem a_icmp_gt_t (hz : Cx q z) {a b off : Int} {t : Nat} (ht : (pc : Int) + off = (t : Int)) (h : cmpP .gt a b) (hd : decode (qB q) pc = .ok (.if_icmp .gt off, 3)) (k : Aw z t lv st M) : Aw z pc lv (.inl b :: .inl a :: st) M := by
  obtain ⟨⟨l, D, cA, ad, A⟩, p, e, R, s, m, args, below, meth, c, cells, slots, QW⟩ := z
  obtain ⟨hx, hb, hml, hown, hts, hr, hlk, hK, hA, hmost, hfr, hlo, hce, hsl⟩ := hz
  intro okm okl oks H locs ls hP hD hS hl
  have hb1 : inR b := oks.head
  have ha1 : inR a := oks.tail.head
  have k2 := k okm okl oks.tail.tail H locs ls hP hD hS hl
  exact lv_icmp_gt hx hb hd ht (fun _ => k2) (fun h9 => absurd ((i32_lt hb1 ha1).mpr h) h9)
theorem a_if_gt_t (hz : Cx q z) {a off : Int} {t : Nat} (ht : (pc : Int) + off = (t : Int)) (h : cmpP .gt a 0) (hd : decode (qB q) pc = .ok (.ifCond .gt off, 3)) (k : Aw z t lv st M) : Aw z pc lv (.inl a :: st) M := by
  obtain ⟨⟨l, D, cA, ad, A⟩, p, e, R, s, m, args, below, meth, c, cells, slots, QW⟩ := z
  obtain ⟨hx, hb, hml, hown, hts, hr, hlk, hK, hA, hmost, hfr, hlo, hce, hsl⟩ := hz
  intro okm okl oks H locs ls hP hD hS hl
  have hb1 : inR 0 := by decide
  have ha1 : inR a := oks.head
  have k2 := k okm okl oks.tail H locs ls hP hD hS hl
  exact lv_if_gt hx hb hd ht (fun _ => k2) (fun h9 => absurd ((i32_lt hb1 ha1).mpr h) h9)
theorem a_icmp_gt_f (hz : Cx q z) {a b off : Int} {t : Nat} (ht : (pc : Int) + off = (t : Int)) (h : ¬ cmpP .gt a b) (hd : decode (qB q) pc = .ok (.if_icmp .gt off, 3)) (k : Aw z (pc + 3) lv st M) : Aw z pc lv (.inl b :: .inl a :: st) M := by
  obtain ⟨⟨l, D, cA, ad, A⟩, p, e, R, s, m, args, below, meth, c, cells, slots, QW⟩ := z
  obtain ⟨hx, hb, hml, hown, hts, hr, hlk, hK, hA, hmost, hfr, hlo, hce, hsl⟩ := hz
  intro okm okl oks H locs ls hP hD hS hl
  have hb1 : inR b := oks.head
  have ha1 : inR a := oks.tail.head
  have k2 := k okm okl oks.tail.tail H locs ls hP hD hS hl
  exact lv_icmp_gt hx hb hd ht (fun h9 => absurd ((i32_lt hb1 ha1).mp h9) h) (fun _ => k2)
theorem a_if_gt_f (hz : Cx q z) {a off : Int} {t : Nat} (ht : (pc : Int) + off = (t : Int)) (h : ¬ cmpP .gt a 0) (hd : decode (qB q) pc = .ok (.ifCond .gt off, 3)) (k : Aw z (pc + 3) lv st M) : Aw z pc lv (.inl a :: st) M := by
  obtain ⟨⟨l, D, cA, ad, A⟩, p, e, R, s, m, args, below, meth, c, cells, slots, QW⟩ := z
  obtain ⟨hx, hb, hml, hown, hts, hr, hlk, hK, hA, hmost, hfr, hlo, hce, hsl⟩ := hz
  intro okm okl oks H locs ls hP hD hS hl
  have hb1 : inR 0 := by decide
  have ha1 : inR a := oks.head
  have k2 := k okm okl oks.tail H locs ls hP hD hS hl
  exact lv_if_gt hx hb hd ht (fun h9 => absurd ((i32_lt hb1 ha1).mp h9) h) (fun _ => k2)
theorem a_icmp_le_t (hz : Cx q z) {a b off : Int} {t : Nat} (ht : (pc : Int) + off = (t : Int)) (h : cmpP .le a b) (hd : decode (qB q) pc = .ok (.if_icmp .le off, 3)) (k : Aw z t lv st M) : Aw z pc lv (.inl b :: .inl a :: st) M := by
  obtain ⟨⟨l, D, cA, ad, A⟩, p, e, R, s, m, args, below, meth, c, cells, slots, QW⟩ := z
  obtain ⟨hx, hb, hml, hown, hts, hr, hlk, hK, hA, hmost, hfr, hlo, hce, hsl⟩ := hz
  intro okm okl oks H locs ls hP hD hS hl
  have hb1 : inR b := oks.head
  have ha1 : inR a := oks.tail.head
  have k2 := k okm okl oks.tail.tail H locs ls hP hD hS hl
  exact lv_icmp_le hx hb hd ht (fun _ => k2) (fun h9 => absurd ((i32_le ha1 hb1).mpr h) h9)
theorem a_if_le_t (hz : Cx q z) {a off : Int} {t : Nat} (ht : (pc : Int) + off = (t : Int)) (h : cmpP .le a 0) (hd : decode (qB q) pc = .ok (.ifCond .le off, 3)) (k : Aw z t lv st M) : Aw z pc lv (.inl a :: st) M := by
  obtain ⟨⟨l, D, cA, ad, A⟩, p, e, R, s, m, args, below, meth, c, cells, slots, QW⟩ := z
  obtain ⟨hx, hb, hml, hown, hts, hr, hlk, hK, hA, hmost, hfr, hlo, hce, hsl⟩ := hz
  intro okm okl oks H locs ls hP hD hS hl
  have hb1 : inR 0 := by decide
  have ha1 : inR a := oks.head
  have k2 := k okm okl oks.tail H locs ls hP hD hS hl
  exact lv_if_le hx hb hd ht (fun _ => k2) (fun h9 => absurd ((i32_le ha1 hb1).mpr h) h9)
theorem a_icmp_le_f (hz : Cx q z) {a b off : Int} {t : Nat} (ht : (pc : Int) + off = (t : Int)) (h : ¬ cmpP .le a b) (hd : decode (qB q) pc = .ok (.if_icmp .le off, 3)) (k : Aw z (pc + 3) lv st M) : Aw z pc lv (.inl b :: .inl a :: st) M := by
  obtain ⟨⟨l, D, cA, ad, A⟩, p, e, R, s, m, args, below, meth, c, cells, slots, QW⟩ := z
  obtain ⟨hx, hb, hml, hown, hts, hr, hlk, hK, hA, hmost, hfr, hlo, hce, hsl⟩ := hz
  intro okm okl oks H locs ls hP hD hS hl
  have hb1 : inR b := oks.head
  have ha1 : inR a := oks.tail.head
  have k2 := k okm okl oks.tail.tail H locs ls hP hD hS hl
  exact lv_icmp_le hx hb hd ht (fun h9 => absurd ((i32_le ha1 hb1).mp h9) h) (fun _ => k2)
theorem a_if_le_f (hz : Cx q z) {a off : Int} {t : Nat} (ht : (pc : Int) + off = (t : Int)) (h : ¬ cmpP .le a 0) (hd : decode (qB q) pc = .ok (.ifCond .le off, 3)) (k : Aw z (pc + 3) lv st M) : Aw z pc lv (.inl a :: st) M := by
  obtain ⟨⟨l, D, cA, ad, A⟩, p, e, R, s, m, args, below, meth, c, cells, slots, QW⟩ := z
  obtain ⟨hx, hb, hml, hown, hts, hr, hlk, hK, hA, hmost, hfr, hlo, hce, hsl⟩ := hz
  intro okm okl oks H locs ls hP hD hS hl
  have hb1 : inR 0 := by decide
  have ha1 : inR a := oks.head
  have k2 := k okm okl oks.tail H locs ls hP hD hS hl
  exact lv_if_le hx hb hd ht (fun h9 => absurd ((i32_le ha1 hb1).mp h9) h) (fun _ => k2)
theorem a_dup (hz : Cx q z) {v : Av} (hd : decode (qB q) pc = .ok (.dup, 1)) (k : Aw z (pc + 1) lv (v :: v :: st) M) : Aw z pc lv (v :: st) M := by
  obtain ⟨⟨l, D, cA, ad, A⟩, p, e, R, s, m, args, below, meth, c, cells, slots, QW⟩ := z
  obtain ⟨hx, hb, hml, hown, hts, hr, hlk, hK, hA, hmost, hfr, hlo, hce, hsl⟩ := hz
  intro okm okl oks H locs ls hP hD hS hl
  exact lv_dup hx hb hd (cvV_cat ad v) (k okm okl (oks.cons oks.head) H locs ls hP hD hS hl)
theorem a_dup2 (hz : Cx q z) {v w : Av} (hd : decode (qB q) pc = .ok (.dup2, 1)) (k : Aw z (pc + 1) lv (v :: w :: v :: w :: st) M) : Aw z pc lv (v :: w :: st) M := by
  obtain ⟨⟨l, D, cA, ad, A⟩, p, e, R, s, m, args, below, meth, c, cells, slots, QW⟩ := z
  obtain ⟨hx, hb, hml, hown, hts, hr, hlk, hK, hA, hmost, hfr, hlo, hce, hsl⟩ := hz
  intro okm okl oks H locs ls hP hD hS hl
  exact lv_dup2_11 hx hb hd (cvV_cat ad v) (cvV_cat ad w) (k okm okl ((oks.cons oks.tail.head).cons oks.head) H locs ls hP hD hS hl)
theorem a_tabIn (hz : Cx q z) {a dflt lo hi off : Int} {offs : Array Int} {n t o : Nat} (h : a = lo + o) (hh : lo + o ≤ hi) (ho : offs[o]? = some off) (ht : (pc : Int) + off = (t : Int)) (hd : decode (qB q) pc = .ok (.tableswitch dflt lo hi offs, n)) (k : Aw z t lv st M) : Aw z pc lv (.inl a :: st) M := by
  obtain ⟨⟨l, D, cA, ad, A⟩, p, e, R, s, m, args, below, meth, c, cells, slots, QW⟩ := z
  obtain ⟨hx, hb, hml, hown, hts, hr, hlk, hK, hA, hmost, hfr, hlo, hce, hsl⟩ := hz
  intro okm okl oks H locs ls hP hD hS hl
  have ha1 : inR a := oks.head
  refine lv_tableIn hx hb hd (by rw [i32_i ha1]; omega) (by rw [i32_i ha1]; omega) (by rw [i32_i ha1, h]; rw [show (lo + (o : Int) - lo).toNat = o by omega]; exact ho) ht (k okm okl oks.tail H locs ls hP hD hS hl)
theorem a_tabOut (hz : Cx q z) {a dflt lo hi : Int} {offs : Array Int} {n t : Nat} (h : a < lo ∨ hi < a) (ht : (pc : Int) + dflt = (t : Int)) (hd : decode (qB q) pc = .ok (.tableswitch dflt lo hi offs, n)) (k : Aw z t lv st M) : Aw z pc lv (.inl a :: st) M := by
  obtain ⟨⟨l, D, cA, ad, A⟩, p, e, R, s, m, args, below, meth, c, cells, slots, QW⟩ := z
  obtain ⟨hx, hb, hml, hown, hts, hr, hlk, hK, hA, hmost, hfr, hlo, hce, hsl⟩ := hz
  intro okm okl oks H locs ls hP hD hS hl
  have ha1 : inR a := oks.head
  exact lv_tableOut hx hb hd (by rw [i32_i ha1]; exact h) ht (k okm okl oks.tail H locs ls hP hD hS hl)
theorem vc_in : ∀ (ci : Nat) (C : String) (T : u_T) (N : Nat), vwCl[ci]? = some (C, T, N) → (∀ w ∈ u_ws C T N, w ∈ gw_tbl) ∧ ∃ ty0 : Nat → FieldType, (∀ k, k < N → parseFieldDescriptor (T k).2.2.1 = some (ty0 k)) ∧ ∀ a, a < N → ∀ b, b < N → a ≠ b → (T a).2.1 ≠ (T b).2.1
  | 0, _, _, _, h => by cases h; exact ⟨inX0, tyX0, tyX0_ok, nmX0⟩
  | 1, _, _, _, h => by cases h; exact ⟨inX1, tyX1, tyX1_ok, nmX1⟩
  | 2, _, _, _, h => by cases h; exact ⟨inX2, tyX2, tyX2_ok, nmX2⟩
  | 3, _, _, _, h => by cases h; exact ⟨inX3, tyX3, tyX3_ok, nmX3⟩
  | 4, _, _, _, h => by cases h; exact ⟨inX4, tyX4, tyX4_ok, nmX4⟩
  | 5, _, _, _, h => by cases h; exact ⟨inX5, tyX5, tyX5_ok, nmX5⟩
  | k + 6, _, _, _, h => by simp [vwCl] at h
theorem a_getI (hz : Cx q z) {i a ci kf : Nat} {fs : List (Option Nat)} (hF : FOk q.1 (i, ci, kf)) (ht : tp[a]? = some (.inl (ci, fs))) (hf : fs[kf]? = some none) (hd : decode (qB q) pc = .ok (.getfield i, 3)) (k : Aw z (pc + 3) lv (.inl (M a kf) :: st) M) : Aw z pc lv (.inr a :: st) M := by
  obtain ⟨⟨l, D, cA, ad, A⟩, p, e, R, s, m, args, below, meth, c, cells, slots, QW⟩ := z
  obtain ⟨hx, hb, hml, hown, hts, hr, hlk, hK, hA, hmost, hfr, hlo, hce, hsl⟩ := hz
  intro okm okl oks H locs ls hP hD hS hl
  obtain ⟨C, T, N, h1, h2, h3⟩ := hF
  refine va_get (D := D) (v := .int (Int32.ofInt (M a kf))) hx hb hts (vc_in ci C T N h1).1 hown hK hP a (wld_get ht) h1 kf h2 (hts _ h3) (fun _ h9 => h9) ?_ hd (k okm okl (oks.tail.cons (okm.1 a kf)) H locs ls hP hD hS hl)
  simp [List.getElem?_mapIdx, hf, flE]
theorem a_getR (hz : Cx q z) {i a ci kf b : Nat} {fs : List (Option Nat)} (hF : FOk q.1 (i, ci, kf)) (ht : tp[a]? = some (.inl (ci, fs))) (hf : fs[kf]? = some (some b)) (hd : decode (qB q) pc = .ok (.getfield i, 3)) (k : Aw z (pc + 3) lv (.inr b :: st) M) : Aw z pc lv (.inr a :: st) M := by
  obtain ⟨⟨l, D, cA, ad, A⟩, p, e, R, s, m, args, below, meth, c, cells, slots, QW⟩ := z
  obtain ⟨hx, hb, hml, hown, hts, hr, hlk, hK, hA, hmost, hfr, hlo, hce, hsl⟩ := hz
  intro okm okl oks H locs ls hP hD hS hl
  obtain ⟨C, T, N, h1, h2, h3⟩ := hF
  refine va_get (D := D) (v := .ref (ad b)) hx hb hts (vc_in ci C T N h1).1 hown hK hP a (wld_get ht) h1 kf h2 (hts _ h3) (fun _ h9 => h9) ?_ hd (k okm okl (oks.tail.cons trivial) H locs ls hP hD hS hl)
  simp [List.getElem?_mapIdx, hf, flE]
theorem ne999 {a : Nat} {sh : Sh} (h : tp[a]? = some sh) : a ≠ 999 := by have := tp_lt h; omega
theorem put_ok : ∀ (ci kf : Nat) (b : Bool), putF ci kf = some b → ∀ (C : String) (T : u_T) (N : Nat), vwCl[ci]? = some (C, T, N) → (T kf).2.2.2 = false ∧ parseFieldDescriptor (T kf).2.2.1 = some (if b then .boolean else .int) := by
  intro ci kf b h C T N hc
  unfold putF at h
  split at h <;> first | (cases h; cases hc; exact ⟨rfl, by decide +kernel⟩) | cases h
theorem narB {b : Bool} {v : Int} (h : b = true → v = 0 ∨ v = 1) : narrow (if b then .boolean else .int) (.int (Int32.ofInt v)) = .int (Int32.ofInt v) ∧ fits (if b then .boolean else .int) (.int (Int32.ofInt v)) = true := by
  cases b with
  | false => exact ⟨rfl, rfl⟩
  | true => rcases h rfl with rfl | rfl <;> exact ⟨rfl, rfl⟩
theorem a_put (hz : Cx q z) {i a ci kf : Nat} {v : Int} {bb : Bool} {fs : List (Option Nat)} (hF : FOk q.1 (i, ci, kf)) (ht : tp[a]? = some (.inl (ci, fs))) (hf : fs[kf]? = some none) (hp : putF ci kf = some bb) (hv : bb = true → v = 0 ∨ v = 1) (hd : decode (qB q) pc = .ok (.putfield i, 3)) (k : Aw z (pc + 3) lv st (up M a kf v)) : Aw z pc lv (.inl v :: .inr a :: st) M := by
  obtain ⟨⟨l, D, cA, ad, A⟩, p, e, R, s, m, args, below, meth, c, cells, slots, QW⟩ := z
  obtain ⟨hx, hb, hml, hown, hts, hr, hlk, hK, hA, hmost, hfr, hlo, hce, hsl⟩ := hz
  intro okm okl oks H locs ls hP hD hS hl
  obtain ⟨C, T, N, h1, h2, h3⟩ := hF
  obtain ⟨e1, ty0, e2, e3⟩ := vc_in ci C T N h1
  obtain ⟨f1, f2⟩ := put_ok ci kf bb hp C T N h1
  refine va_put (D := D) (v := .int (Int32.ofInt v)) hx hb hts e1 ty0 e2 e3 hown hK hP hD hS a (wld_get ht) h1 kf h2 (hts _ h3) (fun _ h9 => h9) f1 f2 (narB hv).1 (narB hv).2 (by have := (List.getElem?_eq_some_iff.mp hf).1; simpa using this) hd (fun H1 locs1 hP1 hD1 hS1 => ?_)
  have e : (wld ad cA M).set a (ad a, .inr (ci, (fs.mapIdx (flE ad (M a))).set kf (.int (Int32.ofInt v)))) = wld ad cA (up M a kf v) := by
    rw [fl_set ad (M a) fs kf v hf]
    exact wld_set (sh := .inl (ci, fs)) ht
  rw [e] at hP1 hD1
  exact k (okM_up okm (ne999 ht) oks.head) okl oks.tail.tail H1 locs1 ls hP1 hD1 hS1 hl
theorem a_iaload (hz : Cx q z) {a n : Nat} {i : Int} (ht : tp[a]? = some (.inr (.inl (0, n)))) (h : 0 ≤ i ∧ i < n) (hd : decode (qB q) pc = .ok (.iaload, 1)) (k : Aw z (pc + 1) lv (.inl (M a i.toNat) :: st) M) : Aw z pc lv (.inl i :: .inr a :: st) M := by
  obtain ⟨⟨l, D, cA, ad, A⟩, p, e, R, s, m, args, below, meth, c, cells, slots, QW⟩ := z
  obtain ⟨hx, hb, hml, hown, hts, hr, hlk, hK, hA, hmost, hfr, hlo, hce, hsl⟩ := hz
  intro okm okl oks H locs ls hP hD hS hl
  have hi : inR i := oks.head
  have k2 := k okm okl (oks.tail.tail.cons (okm.1 a i.toNat)) H locs ls hP hD hS hl
  refine va_iald hx hb hK hP a 0 (wld_get ht) rfl (i32_in hi h) hd ?_
  rw [i32_n hi]
  exact k2
theorem a_baload (hz : Cx q z) {a n : Nat} {i : Int} (ht : tp[a]? = some (.inr (.inl (1, n)))) (h : 0 ≤ i ∧ i < n) (hd : decode (qB q) pc = .ok (.baload, 1)) (k : Aw z (pc + 1) lv (.inl (M a i.toNat) :: st) M) : Aw z pc lv (.inl i :: .inr a :: st) M := by
  obtain ⟨⟨l, D, cA, ad, A⟩, p, e, R, s, m, args, below, meth, c, cells, slots, QW⟩ := z
  obtain ⟨hx, hb, hml, hown, hts, hr, hlk, hK, hA, hmost, hfr, hlo, hce, hsl⟩ := hz
  intro okm okl oks H locs ls hP hD hS hl
  have hi : inR i := oks.head
  have k2 := k okm okl (oks.tail.tail.cons (okm.1 a i.toNat)) H locs ls hP hD hS hl
  refine va_zald hx hb hK hP a 1 (wld_get ht) rfl (i32_in hi h) hd ?_
  rw [i32_n hi]
  exact k2
theorem a_iastore (hz : Cx q z) {a n : Nat} {i v : Int} (ht : tp[a]? = some (.inr (.inl (0, n)))) (h : 0 ≤ i ∧ i < n) (hd : decode (qB q) pc = .ok (.iastore, 1)) (k : Aw z (pc + 1) lv st (up M a i.toNat v)) : Aw z pc lv (.inl v :: .inl i :: .inr a :: st) M := by
  obtain ⟨⟨l, D, cA, ad, A⟩, p, e, R, s, m, args, below, meth, c, cells, slots, QW⟩ := z
  obtain ⟨hx, hb, hml, hown, hts, hr, hlk, hK, hA, hmost, hfr, hlo, hce, hsl⟩ := hz
  intro okm okl oks H locs ls hP hD hS hl
  have hi : inR i := oks.tail.head
  refine va_iast hx hb hK hP hD hS a 0 (wld_get ht) rfl (i32_in hi h) hd (fun H1 locs1 hP1 hD1 hS1 => ?_)
  rw [i32_n hi, uf_i] at hP1 hD1
  have e := @wld_set ad cA M a (.inr (.inl (0, n))) (uf (M a) i.toNat v) ht
  have hP1 : va_P D vwCl (wld ad cA (up M a i.toNat v)) H1 := by unfold up; rw [← e]; exact hP1
  have hD1 : va_D A (wld ad cA (up M a i.toNat v)) := by unfold up; rw [← e]; exact hD1
  exact k (okM_up okm (ne999 ht) oks.head) okl oks.tail.tail.tail H1 locs1 ls hP1 hD1 hS1 hl
theorem a_bastore (hz : Cx q z) {a n : Nat} {i v : Int} (ht : tp[a]? = some (.inr (.inl (1, n)))) (h : 0 ≤ i ∧ i < n) (hv : v = 0 ∨ v = 1) (hd : decode (qB q) pc = .ok (.bastore, 1)) (k : Aw z (pc + 1) lv st (up M a i.toNat v)) : Aw z pc lv (.inl v :: .inl i :: .inr a :: st) M := by
  obtain ⟨⟨l, D, cA, ad, A⟩, p, e, R, s, m, args, below, meth, c, cells, slots, QW⟩ := z
  obtain ⟨hx, hb, hml, hown, hts, hr, hlk, hK, hA, hmost, hfr, hlo, hce, hsl⟩ := hz
  intro okm okl oks H locs ls hP hD hS hl
  have hi : inR i := oks.tail.head
  refine va_zast hx hb hK hP hD hS a 1 (wld_get ht) rfl (i32_in hi h) hd (fun H1 locs1 hP1 hD1 hS1 => ?_)
  rw [i32_n hi, i32_nar hv, uf_i] at hP1 hD1
  have e := @wld_set ad cA M a (.inr (.inl (1, n))) (uf (M a) i.toNat v) ht
  have hP1 : va_P D vwCl (wld ad cA (up M a i.toNat v)) H1 := by unfold up; rw [← e]; exact hP1
  have hD1 : va_D A (wld ad cA (up M a i.toNat v)) := by unfold up; rw [← e]; exact hD1
  exact k (okM_up okm (ne999 ht) oks.head) okl oks.tail.tail.tail H1 locs1 ls hP1 hD1 hS1 hl
theorem a_aaload (hz : Cx q z) {a o b : Nat} {i : Int} {rs : List Nat} (ht : tp[a]? = some (.inr (.inr rs))) (hb2 : rs[o]? = some b) (h : i = (o : Int)) (hd : decode (qB q) pc = .ok (.aaload, 1)) (k : Aw z (pc + 1) lv (.inr b :: st) M) : Aw z pc lv (.inl i :: .inr a :: st) M := by
  obtain ⟨⟨l, D, cA, ad, A⟩, p, e, R, s, m, args, below, meth, c, cells, slots, QW⟩ := z
  obtain ⟨hx, hb, hml, hown, hts, hr, hlk, hK, hA, hmost, hfr, hlo, hce, hsl⟩ := hz
  intro okm okl oks H locs ls hP hD hS hl
  have hi : inR i := oks.head
  have k2 := k okm okl (oks.tail.tail.cons trivial) H locs ls hP hD hS hl
  have ho := (List.getElem?_eq_some_iff.mp hb2).1
  refine va_aldq hx hb hK hP a 2 (wld_get ht) rfl (i32_in hi (by omega)) hd ?_
  have e : va_rf ((fun j => (rs[j]?).map ad) (Int32.ofInt i).toNatClampNeg) = .ref (ad b) := by
    rw [i32_n hi, h]
    show va_rf ((rs[(o : Int).toNat]?).map ad) = _
    rw [Int.toNat_natCast, hb2]
    rfl
  rw [e]
  exact k2
theorem a_mostload (hz : Cx q z) {i : Int} (h : 0 ≤ i ∧ i < 4) (hd : decode (qB q) pc = .ok (.iaload, 1)) (k : Aw z (pc + 1) lv (.inl (M 999 i.toNat) :: st) M) : Aw z pc lv (.inl i :: .inr 999 :: st) M := by
  obtain ⟨⟨l, D, cA, ad, A⟩, p, e, R, s, m, args, below, meth, c, cells, slots, QW⟩ := z
  obtain ⟨hx, hb, hml, hown, hts, hr, hlk, hK, hA, hmost, hfr, hlo, hce, hsl⟩ := hz
  intro okm okl oks H locs ls hP hD hS hl
  have hi : inR i := oks.head
  have k2 := k okm okl (oks.tail.tail.cons (okm.1 999 i.toNat)) H locs ls hP hD hS hl
  refine va_ti hx hb hmost.2 hS (i32_in hi h) ?_ hd k2
  rw [i32_n hi]
  obtain ⟨-, m0, m1, m2, m3⟩ := okm
  have hc : i = 0 ∨ i = 1 ∨ i = 2 ∨ i = 3 := by omega
  rcases hc with rfl | rfl | rfl | rfl
  · show mostV 0 = .int (Int32.ofInt (M 999 0)); rw [m0]; rfl
  · show mostV 1 = .int (Int32.ofInt (M 999 1)); rw [m1]; rfl
  · show mostV 2 = .int (Int32.ofInt (M 999 2)); rw [m2]; rfl
  · show mostV 3 = .int (Int32.ofInt (M 999 3)); rw [m3]; rfl
theorem a_most (hz : Cx q z) {i : Nat} (hF : Jvm.Cond.fieldLink q.1 i "RoadTrace$Rules" "MOST" "[I" ∈ gw_tbl) (hd : decode (qB q) pc = .ok (.getstatic i, 3)) (k : Aw z (pc + 3) lv (.inr 999 :: st) M) : Aw z pc lv st M := by
  obtain ⟨⟨l, D, cA, ad, A⟩, p, e, R, s, m, args, below, meth, c, cells, slots, QW⟩ := z
  obtain ⟨hx, hb, hml, hown, hts, hr, hlk, hK, hA, hmost, hfr, hlo, hce, hsl⟩ := hz
  intro okm okl oks H locs ls hP hD hS hl
  exact va_gets hx hb hmost.1 hS hown (hts _ hF) (fun _ h9 => h9) hd (k okm okl (oks.cons trivial) H locs ls hP hD hS hl)
theorem cat_sum (ad : Nat → Nat) (st : List Av) : ((st.map (cvV ad)).map fun v => v.category).sum = st.length := by
  induction st with
  | nil => rfl
  | cons v st ih => simp only [List.map_cons, List.sum_cons, ih, cvV_cat, List.length_cons]; omega
theorem a_mabs (hz : Cx q z) {a : Int} {i : Nat} (h : inR (-a)) (hL : Jvm.Cond.methodLink q.1 i Lib.Math.abs.name ∈ gw_tbl) (hf1 : 1 ≤ qf q) (hl1 : st.length + 13 ≤ ql q) (hd : decode (qB q) pc = .ok (.invokestatic i, 3)) (k : Aw z (pc + 3) lv (.inl (if 0 ≤ a then a else -a) :: st) M) : Aw z pc lv (.inl a :: st) M := by
  obtain ⟨⟨l, D, cA, ad, A⟩, p, e, R, s, m, args, below, meth, c, cells, slots, QW⟩ := z
  obtain ⟨hx, hb, hml, hown, hts, hr, hlk, hK, hA, hmost, hfr, hlo, hce, hsl⟩ := hz
  intro okm okl oks H locs ls hP hD hS hl
  have ha1 : inR a := oks.head
  have hv : inR (if 0 ≤ a then a else -a) := by split <;> assumption
  have k2 := k okm okl (oks.tail.cons hv) H locs ls hP hD hS hl
  refine va_mabs hx hb (by rw [hl.1]) hown (hts _ hL) (hts _ ms_abs.1) (hts _ ms_ini) (hts _ ms_abs.2) (by omega) (by rw [cat_sum]; omega) hce hsl hd ?_
  have e : (if (0 : Int32) ≤ Int32.ofInt a then Int32.ofInt a else 0 - Int32.ofInt a) = Int32.ofInt (if 0 ≤ a then a else -a) := by
    by_cases h0 : 0 ≤ a
    · rw [if_pos h0, if_pos (show (0 : Int32) ≤ Int32.ofInt a from (i32_le (show inR 0 by decide) ha1).mpr h0)]
    · rw [if_neg h0, if_neg (show ¬ (0 : Int32) ≤ Int32.ofInt a from fun h9 => h0 ((i32_le (show inR 0 by decide) ha1).mp h9)), Int32.ofInt_neg, Int32.zero_sub]
  rw [e]
  exact k2
theorem a_mmax (hz : Cx q z) {a b : Int} {i : Nat} (hL : Jvm.Cond.methodLink q.1 i Lib.Math.max.name ∈ gw_tbl) (hf1 : 1 ≤ qf q) (hl1 : st.length + 13 ≤ ql q) (hd : decode (qB q) pc = .ok (.invokestatic i, 3)) (k : Aw z (pc + 3) lv (.inl (if a < b then b else a) :: st) M) : Aw z pc lv (.inl b :: .inl a :: st) M := by
  obtain ⟨⟨l, D, cA, ad, A⟩, p, e, R, s, m, args, below, meth, c, cells, slots, QW⟩ := z
  obtain ⟨hx, hb, hml, hown, hts, hr, hlk, hK, hA, hmost, hfr, hlo, hce, hsl⟩ := hz
  intro okm okl oks H locs ls hP hD hS hl
  have hb1 : inR b := oks.head
  have ha1 : inR a := oks.tail.head
  have hv : inR (if a < b then b else a) := by split <;> assumption
  have k2 := k okm okl (oks.tail.tail.cons hv) H locs ls hP hD hS hl
  refine va_mmax hx hb (by rw [hl.1]) hown (hts _ hL) (hts _ ms_max.1) (hts _ ms_ini) (hts _ ms_max.2) (by omega) (by rw [cat_sum]; omega) hce hsl hd ?_
  have e : (if Int32.ofInt a < Int32.ofInt b then Int32.ofInt b else Int32.ofInt a) = Int32.ofInt (if a < b then b else a) := by
    by_cases h0 : a < b
    · rw [if_pos h0, if_pos ((i32_lt ha1 hb1).mpr h0)]
    · rw [if_neg h0, if_neg (fun h9 => h0 ((i32_lt ha1 hb1).mp h9))]
  rw [e]
  exact k2
theorem a_mmin (hz : Cx q z) {a b : Int} {i : Nat} (hL : Jvm.Cond.methodLink q.1 i Lib.Math.min.name ∈ gw_tbl) (hf1 : 1 ≤ qf q) (hl1 : st.length + 13 ≤ ql q) (hd : decode (qB q) pc = .ok (.invokestatic i, 3)) (k : Aw z (pc + 3) lv (.inl (if b < a then b else a) :: st) M) : Aw z pc lv (.inl b :: .inl a :: st) M := by
  obtain ⟨⟨l, D, cA, ad, A⟩, p, e, R, s, m, args, below, meth, c, cells, slots, QW⟩ := z
  obtain ⟨hx, hb, hml, hown, hts, hr, hlk, hK, hA, hmost, hfr, hlo, hce, hsl⟩ := hz
  intro okm okl oks H locs ls hP hD hS hl
  have hb1 : inR b := oks.head
  have ha1 : inR a := oks.tail.head
  have hv : inR (if b < a then b else a) := by split <;> assumption
  have k2 := k okm okl (oks.tail.tail.cons hv) H locs ls hP hD hS hl
  refine va_mmin hx hb (by rw [hl.1]) hown (hts _ hL) (hts _ ms_min.1) (hts _ ms_ini) (hts _ ms_min.2) (by omega) (by rw [cat_sum]; omega) hce hsl hd ?_
  have e : (if Int32.ofInt b < Int32.ofInt a then Int32.ofInt b else Int32.ofInt a) = Int32.ofInt (if b < a then b else a) := by
    by_cases h0 : b < a
    · rw [if_pos h0, if_pos ((i32_lt hb1 ha1).mpr h0)]
    · rw [if_neg h0, if_neg (fun h9 => h0 ((i32_lt hb1 ha1).mp h9))]
  rw [e]
  exact k2
theorem a_copy (hz : Cx q z) {i a b n0 n1 : Nat} {n : Int} (hL : Jvm.Cond.methodLink q.1 i arraycopyName ∈ gw_tbl) (ha : tp[a]? = some (.inr (.inl (0, n0)))) (hb2 : tp[b]? = some (.inr (.inl (0, n1)))) (h0 : 0 ≤ n ∧ n ≤ n0 ∧ n ≤ n1) (hf1 : 1 ≤ qf q) (hl1 : st.length + 18 ≤ ql q) (hd : decode (qB q) pc = .ok (.invokestatic i, 3)) (k : Aw z (pc + 3) lv st (upR M b (fun j => if j < n.toNat then M a j else M b j))) : Aw z pc lv (.inl n :: .inl 0 :: .inr b :: .inl 0 :: .inr a :: st) M := by
  obtain ⟨⟨l, D, cA, ad, A⟩, p, e, R, s, m, args, below, meth, c, cells, slots, QW⟩ := z
  obtain ⟨hx, hb, hml, hown, hts, hr, hlk, hK, hA, hmost, hfr, hlo, hce, hsl⟩ := hz
  intro okm okl oks H locs ls hP hD hS hl
  have hn : inR n := oks.head
  have z0 : (Int32.ofInt 0).toNatClampNeg = 0 := rfl
  refine va_copyi hx hb hl.1.symm hown (hts _ hL) (hts _ ac_ok.1) (hts _ ac_ok.2.1) (hts _ ac_ok.2.2) hK hP hD hS a b 0 0 (wld_get ha) (wld_get hb2) rfl rfl rfl (by decide) (by decide) (fun h9 => absurd ((i32_lt hn (show inR 0 by decide)).mp h9) (by omega)) (by rw [z0, i32_n hn]; omega) (by rw [z0, i32_n hn]; omega) (fun _ _ => rfl) (by omega) (by rw [cat_sum]; show st.length + (nativeFrameWords "java/lang/System" "arraycopy" 5 + 11) ≤ _; rw [show nativeFrameWords "java/lang/System" "arraycopy" 5 = 7 by decide]; omega) hd (fun H1 locs1 hP1 hD1 hS1 => ?_)
  have e : va_cpy (fun j => Int32.ofInt (M a j)) (fun j => Int32.ofInt (M b j)) (Int32.ofInt 0).toNatClampNeg (Int32.ofInt 0).toNatClampNeg (Int32.ofInt n).toNatClampNeg = fun j => Int32.ofInt (if j < n.toNat then M a j else M b j) := by
    funext j
    rw [z0, i32_n hn]
    unfold va_cpy
    by_cases hj : j < n.toNat
    · simp [hj]
    · simp [hj]
  have e2 := @wld_set ad cA M b (.inr (.inl (0, n1))) (fun j => if j < n.toNat then M a j else M b j) hb2
  rw [e] at hP1 hD1
  have hP1 : va_P D vwCl (wld ad cA (upR M b (fun j => if j < n.toNat then M a j else M b j))) H1 := by rw [← e2]; exact hP1
  have hD1 : va_D A (wld ad cA (upR M b (fun j => if j < n.toNat then M a j else M b j))) := by rw [← e2]; exact hD1
  exact k (okM_upR okm (ne999 hb2) (fun j => by split <;> exact okm.1 _ _)) okl oks.tail.tail.tail.tail.tail H1 locs1 ls hP1 hD1 hS1 hl
end RULES
end
section
/-! THE STEP as a function: a stretch of instructions is run by computing -/
abbrev Rs : Type := Nat × List (Option Av) × List Av × Mm × Option Prop
def ilen : Instr → Nat
  | .iload _ | .aload _ | .istore _ | .astore _ | .bipush _ | .ldc _ => 2
  | .sipush _ | .ldc_w _ | .iinc _ _ | .goto _ | .if_icmp _ _ | .ifCond _ _ | .getfield _ | .putfield _ => 3
  | _ => 1
def needO : Instr → Bool
  | .if_icmp _ _ | .ifCond _ _ | .tableswitch _ _ _ _ | .aaload => true
  | _ => false
def stp (q : MI) (o pc : Nat) (lv : List (Option Av)) (st : List Av) (M : Mm) : Instr → Option Rs
  | .iload i => match ldV lv i with
    | some (.inl v) => some (pc + 2, lv, .inl v :: st, M, none)
    | _ => none
  | .iload_n i => match ldV lv (i : Nat) with
    | some (.inl v) => some (pc + 1, lv, .inl v :: st, M, none)
    | _ => none
  | .aload i => match ldV lv i with
    | some (.inr v) => some (pc + 2, lv, .inr v :: st, M, none)
    | _ => none
  | .aload_n i => match ldV lv (i : Nat) with
    | some (.inr v) => some (pc + 1, lv, .inr v :: st, M, none)
    | _ => none
  | .istore i => match st with
    | .inl v :: st => if i < qN q then some (pc + 2, lv.set i (some (.inl v)), st, M, none) else none
    | _ => none
  | .istore_n i => match st with
    | .inl v :: st => if (i : Nat) < qN q then some (pc + 1, lv.set (i : Nat) (some (.inl v)), st, M, none) else none
    | _ => none
  | .astore i => match st with
    | .inr v :: st => if i < qN q then some (pc + 2, lv.set i (some (.inr v)), st, M, none) else none
    | _ => none
  | .astore_n i => match st with
    | .inr v :: st => if (i : Nat) < qN q then some (pc + 1, lv.set (i : Nat) (some (.inr v)), st, M, none) else none
    | _ => none
  | .iconst v => if -128 ≤ v ∧ v ≤ 127 then some (pc + 1, lv, .inl v :: st, M, none) else none
  | .bipush v => if -128 ≤ v ∧ v ≤ 127 then some (pc + 2, lv, .inl v :: st, M, none) else none
  | .sipush v => if -32768 ≤ v ∧ v ≤ 32767 then some (pc + 3, lv, .inl v :: st, M, none) else none
  | .ldc i => match (qK q).find? (fun x => x.1 == i) with
    | some x => some (pc + 2, lv, .inl x.2 :: st, M, none)
    | none => none
  | .ldc_w i => match (qK q).find? (fun x => x.1 == i) with
    | some x => some (pc + 3, lv, .inl x.2 :: st, M, none)
    | none => none
  | .iadd => match st with
    | .inl b :: .inl a :: st => some (pc + 1, lv, .inl (a + b) :: st, M, some (inR (a + b)))
    | _ => none
  | .isub => match st with
    | .inl b :: .inl a :: st => some (pc + 1, lv, .inl (a - b) :: st, M, some (inR (a - b)))
    | _ => none
  | .imul => match st with
    | .inl b :: .inl a :: st => some (pc + 1, lv, .inl (a * b) :: st, M, some (inR (a * b)))
    | _ => none
  | .ineg => match st with
    | .inl a :: st => some (pc + 1, lv, .inl (-a) :: st, M, some (inR (-a)))
    | _ => none
  | .idiv => match st with
    | .inl b :: .inl a :: st => some (pc + 1, lv, .inl (a.tdiv b) :: st, M, some (¬ b = 0 ∧ ¬ b = -1))
    | _ => none
  | .irem => match st with
    | .inl b :: .inl a :: st => some (pc + 1, lv, .inl (a.tmod b) :: st, M, some (¬ b = 0 ∧ ¬ b = -1))
    | _ => none
  | .ishl => match st with
    | .inl b :: .inl a :: st => some (pc + 1, lv, .inl (ishlI a b) :: st, M, none)
    | _ => none
  | .ishr => match st with
    | .inl b :: .inl a :: st => some (pc + 1, lv, .inl (ishrI a b) :: st, M, none)
    | _ => none
  | .iushr => match st with
    | .inl b :: .inl a :: st => some (pc + 1, lv, .inl (iushrI a b) :: st, M, none)
    | _ => none
  | .iand => match st with
    | .inl b :: .inl a :: st => some (pc + 1, lv, .inl (iandI a b) :: st, M, none)
    | _ => none
  | .ior => match st with
    | .inl b :: .inl a :: st => some (pc + 1, lv, .inl (iorI a b) :: st, M, none)
    | _ => none
  | .iinc i n => match ldV lv i with
    | some (.inl v) => if i < qN q then some (pc + 3, lv.set i (some (.inl (v + n))), st, M, some (inR (v + n))) else none
    | _ => none
  | .goto off => if 0 ≤ (pc : Int) + off then some (((pc : Int) + off).toNat, lv, st, M, none) else none
  | .if_icmp c off => match st with
    | .inl b :: .inl a :: st => if 0 ≤ (pc : Int) + off then (if o = 1 then some (((pc : Int) + off).toNat, lv, st, M, some (cmpP c a b)) else some (pc + 3, lv, st, M, some (¬ cmpP c a b))) else none
    | _ => none
  | .ifCond c off => match st with
    | .inl a :: st => if 0 ≤ (pc : Int) + off then (if o = 1 then some (((pc : Int) + off).toNat, lv, st, M, some (cmpP c a 0)) else some (pc + 3, lv, st, M, some (¬ cmpP c a 0))) else none
    | _ => none
  | .dup => match st with
    | v :: st => some (pc + 1, lv, v :: v :: st, M, none)
    | _ => none
  | .dup2 => match st with
    | v :: w :: st => some (pc + 1, lv, v :: w :: v :: w :: st, M, none)
    | _ => none
  | .tableswitch d lo hi offs => match st with
    | .inl a :: st => match offs[o]? with
      | some off => if lo + o ≤ hi ∧ 0 ≤ (pc : Int) + off then some (((pc : Int) + off).toNat, lv, st, M, some (a = lo + o)) else none
      | none => if 0 ≤ (pc : Int) + d then some (((pc : Int) + d).toNat, lv, st, M, some (a < lo ∨ hi < a)) else none
    | _ => none
  | .getfield i => match st with
    | .inr a :: st => match (qF q).find? (fun x => x.1 == i) with
      | some x => match tp[a]? with
        | some (.inl y) => if x.2.1 = y.1 then (match y.2[x.2.2]? with
          | some none => some (pc + 3, lv, .inl (M a x.2.2) :: st, M, none)
          | some (some b) => some (pc + 3, lv, .inr b :: st, M, none)
          | none => none) else none
        | _ => none
      | none => none
    | _ => none
  | .putfield i => match st with
    | .inl v :: .inr a :: st => match (qF q).find? (fun x => x.1 == i) with
      | some x => match tp[a]? with
        | some (.inl y) => if x.2.1 = y.1 then (match y.2[x.2.2]? with
          | some none => match putF x.2.1 x.2.2 with
            | some true => some (pc + 3, lv, st, up M a x.2.2 v, some (v = 0 ∨ v = 1))
            | some false => some (pc + 3, lv, st, up M a x.2.2 v, none)
            | none => none
          | _ => none) else none
        | _ => none
      | none => none
    | _ => none
  | .iaload => match st with
    | .inl i :: .inr a :: st => if a = 999 then some (pc + 1, lv, .inl (M a i.toNat) :: st, M, some (0 ≤ i ∧ i < 4)) else match tp[a]? with
      | some (.inr (.inl (0, n))) => some (pc + 1, lv, .inl (M a i.toNat) :: st, M, some (0 ≤ i ∧ i < (n : Int)))
      | _ => none
    | _ => none
  | .baload => match st with
    | .inl i :: .inr a :: st => match tp[a]? with
      | some (.inr (.inl (1, n))) => some (pc + 1, lv, .inl (M a i.toNat) :: st, M, some (0 ≤ i ∧ i < (n : Int)))
      | _ => none
    | _ => none
  | .iastore => match st with
    | .inl v :: .inl i :: .inr a :: st => match tp[a]? with
      | some (.inr (.inl (0, n))) => some (pc + 1, lv, st, up M a i.toNat v, some (0 ≤ i ∧ i < (n : Int)))
      | _ => none
    | _ => none
  | .bastore => match st with
    | .inl v :: .inl i :: .inr a :: st => match tp[a]? with
      | some (.inr (.inl (1, n))) => some (pc + 1, lv, st, up M a i.toNat v, some ((0 ≤ i ∧ i < (n : Int)) ∧ (v = 0 ∨ v = 1)))
      | _ => none
    | _ => none
  | .aaload => match st with
    | .inl i :: .inr a :: st => match tp[a]? with
      | some (.inr (.inr rs)) => match rs[o]? with
        | some b => some (pc + 1, lv, .inr b :: st, M, some (i = (o : Int)))
        | none => none
      | _ => none
    | _ => none
  | _ => none
theorem mem_find {α : Type} {l : List α} {p : α → Bool} {x : α} (h : l.find? p = some x) : x ∈ l ∧ p x = true := ⟨List.mem_of_find?_eq_some h, List.find?_some h⟩
def okLen (x : Instr) (n : Nat) : Bool := match x with
  | .tableswitch _ _ _ _ => true
  | x => n == ilen x
theorem tgt_of {pc : Nat} {off : Int} (h : 0 ≤ (pc : Int) + off) : (pc : Int) + off = ((((pc : Int) + off).toNat : Nat) : Int) := (Int.toNat_of_nonneg h).symm
set_option maxHeartbeats 4000000 in
theorem stp_ok {q : MI} {z : Zx} (hq : MOk q) (hz : Cx q z) {o pc n : Nat} {lv : List (Option Av)} {st : List Av} {M : Mm} {x : Instr} {r : Rs} (hd : decode (qB q) pc = .ok (x, n)) (hn : okLen x n = true) (h : stp q o pc lv st M x = some r) (hP : r.2.2.2.2.getD True) (k : Aw z r.1 r.2.1 r.2.2.1 r.2.2.2.1) : Aw z pc lv st M := by
  cases x
  case iload i =>
    have hn : n = 2 := by simpa [okLen, ilen] using hn
    subst hn
    simp only [stp] at h
    split at h
    · rename_i v e
      cases h
      exact a_iload hz hd (ldV_at e) k
    · cases h
  case iload_n i =>
    have hn : n = 1 := by simpa [okLen, ilen] using hn
    subst hn
    simp only [stp] at h
    split at h
    · rename_i v e
      cases h
      exact a_iload_n hz rfl hd (ldV_at e) k
    · cases h
  case aload i =>
    have hn : n = 2 := by simpa [okLen, ilen] using hn
    subst hn
    simp only [stp] at h
    split at h
    · rename_i v e
      cases h
      exact a_aload hz hd (ldV_at e) k
    · cases h
  case aload_n i =>
    have hn : n = 1 := by simpa [okLen, ilen] using hn
    subst hn
    simp only [stp] at h
    split at h
    · rename_i v e
      cases h
      exact a_aload_n hz rfl hd (ldV_at e) k
    · cases h
  case istore i =>
    have hn : n = 2 := by simpa [okLen, ilen] using hn
    subst hn
    simp only [stp] at h
    split at h
    · split at h
      · rename_i hi
        cases h
        exact a_istore hz hi hd k
      · cases h
    · cases h
  case istore_n i =>
    have hn : n = 1 := by simpa [okLen, ilen] using hn
    subst hn
    simp only [stp] at h
    split at h
    · split at h
      · rename_i hi
        cases h
        exact a_istore_n hz hi rfl hd k
      · cases h
    · cases h
  case astore i =>
    have hn : n = 2 := by simpa [okLen, ilen] using hn
    subst hn
    simp only [stp] at h
    split at h
    · split at h
      · rename_i hi
        cases h
        exact a_astore hz hi hd k
      · cases h
    · cases h
  case astore_n i =>
    have hn : n = 1 := by simpa [okLen, ilen] using hn
    subst hn
    simp only [stp] at h
    split at h
    · split at h
      · rename_i hi
        cases h
        exact a_astore_n hz hi rfl hd k
      · cases h
    · cases h
  case iconst v =>
    have hn : n = 1 := by simpa [okLen, ilen] using hn
    subst hn
    simp only [stp] at h
    split at h
    · rename_i hi
      cases h
      exact a_iconst hz ⟨by omega, by omega⟩ hd k
    · cases h
  case bipush v =>
    have hn : n = 2 := by simpa [okLen, ilen] using hn
    subst hn
    simp only [stp] at h
    split at h
    · rename_i hi
      cases h
      exact a_bipush hz hi hd k
    · cases h
  case sipush v =>
    have hn : n = 3 := by simpa [okLen, ilen] using hn
    subst hn
    simp only [stp] at h
    split at h
    · rename_i hi
      cases h
      exact a_sipush hz hi hd k
    · cases h
  case ldc i =>
    have hn : n = 2 := by simpa [okLen, ilen] using hn
    subst hn
    simp only [stp] at h
    split at h
    · rename_i x e
      cases h
      obtain ⟨e1, e2⟩ := mem_find e
      have e3 : x.1 = i := by simpa using e2
      subst e3
      obtain ⟨h1, h2⟩ := hq.2.2.1 x e1
      exact a_ldc hz h1 h2 hd k
    · cases h
  case ldc_w i =>
    have hn : n = 3 := by simpa [okLen, ilen] using hn
    subst hn
    simp only [stp] at h
    split at h
    · rename_i x e
      cases h
      obtain ⟨e1, e2⟩ := mem_find e
      have e3 : x.1 = i := by simpa using e2
      subst e3
      obtain ⟨h1, h2⟩ := hq.2.2.1 x e1
      exact a_ldc_w hz h1 h2 hd k
    · cases h
  case iadd  =>
    have hn : n = 1 := by simpa [okLen, ilen] using hn
    subst hn
    simp only [stp] at h
    split at h
    · cases h
      exact a_iadd hz hP hd k
    · cases h
  case isub  =>
    have hn : n = 1 := by simpa [okLen, ilen] using hn
    subst hn
    simp only [stp] at h
    split at h
    · cases h
      exact a_isub hz hP hd k
    · cases h
  case imul  =>
    have hn : n = 1 := by simpa [okLen, ilen] using hn
    subst hn
    simp only [stp] at h
    split at h
    · cases h
      exact a_imul hz hP hd k
    · cases h
  case idiv  =>
    have hn : n = 1 := by simpa [okLen, ilen] using hn
    subst hn
    simp only [stp] at h
    split at h
    · cases h
      exact a_idiv hz hP hd k
    · cases h
  case irem  =>
    have hn : n = 1 := by simpa [okLen, ilen] using hn
    subst hn
    simp only [stp] at h
    split at h
    · cases h
      exact a_irem hz hP hd k
    · cases h
  case ineg  =>
    have hn : n = 1 := by simpa [okLen, ilen] using hn
    subst hn
    simp only [stp] at h
    split at h
    · cases h
      exact a_ineg hz hP hd k
    · cases h
  case ishl  =>
    have hn : n = 1 := by simpa [okLen, ilen] using hn
    subst hn
    simp only [stp] at h
    split at h
    · cases h
      exact a_ishl hz hd k
    · cases h
  case ishr  =>
    have hn : n = 1 := by simpa [okLen, ilen] using hn
    subst hn
    simp only [stp] at h
    split at h
    · cases h
      exact a_ishr hz hd k
    · cases h
  case iushr  =>
    have hn : n = 1 := by simpa [okLen, ilen] using hn
    subst hn
    simp only [stp] at h
    split at h
    · cases h
      exact a_iushr hz hd k
    · cases h
  case iand  =>
    have hn : n = 1 := by simpa [okLen, ilen] using hn
    subst hn
    simp only [stp] at h
    split at h
    · cases h
      exact a_iand hz hd k
    · cases h
  case ior  =>
    have hn : n = 1 := by simpa [okLen, ilen] using hn
    subst hn
    simp only [stp] at h
    split at h
    · cases h
      exact a_ior hz hd k
    · cases h
  case dup  =>
    have hn : n = 1 := by simpa [okLen, ilen] using hn
    subst hn
    simp only [stp] at h
    split at h
    · cases h
      exact a_dup hz hd k
    · cases h
  case dup2  =>
    have hn : n = 1 := by simpa [okLen, ilen] using hn
    subst hn
    simp only [stp] at h
    split at h
    · cases h
      exact a_dup2 hz hd k
    · cases h
  case iinc i v =>
    have hn : n = 3 := by simpa [okLen, ilen] using hn
    subst hn
    simp only [stp] at h
    split at h
    · rename_i w e
      split at h
      · rename_i hi
        cases h
        exact a_iinc hz hi (ldV_at e) hP hd k
      · cases h
    · cases h
  case goto off =>
    have hn : n = 3 := by simpa [okLen, ilen] using hn
    subst hn
    simp only [stp] at h
    split at h
    · rename_i hi
      cases h
      exact a_goto hz (tgt_of hi) hd k
    · cases h
  case if_icmp c off =>
    have hn : n = 3 := by simpa [okLen, ilen] using hn
    subst hn
    simp only [stp] at h
    split at h
    · split at h
      · rename_i hi
        split at h
        · cases h
          cases c
          · exact a_icmp_eq_t hz (tgt_of hi) hP hd k
          · exact a_icmp_ne_t hz (tgt_of hi) hP hd k
          · exact a_icmp_lt_t hz (tgt_of hi) hP hd k
          · exact a_icmp_ge_t hz (tgt_of hi) hP hd k
          · exact a_icmp_gt_t hz (tgt_of hi) hP hd k
          · exact a_icmp_le_t hz (tgt_of hi) hP hd k
        · cases h
          cases c
          · exact a_icmp_eq_f hz (tgt_of hi) hP hd k
          · exact a_icmp_ne_f hz (tgt_of hi) hP hd k
          · exact a_icmp_lt_f hz (tgt_of hi) hP hd k
          · exact a_icmp_ge_f hz (tgt_of hi) hP hd k
          · exact a_icmp_gt_f hz (tgt_of hi) hP hd k
          · exact a_icmp_le_f hz (tgt_of hi) hP hd k
      · cases h
    · cases h
  case ifCond c off =>
    have hn : n = 3 := by simpa [okLen, ilen] using hn
    subst hn
    simp only [stp] at h
    split at h
    · split at h
      · rename_i hi
        split at h
        · cases h
          cases c
          · exact a_if_eq_t hz (tgt_of hi) hP hd k
          · exact a_if_ne_t hz (tgt_of hi) hP hd k
          · exact a_if_lt_t hz (tgt_of hi) hP hd k
          · exact a_if_ge_t hz (tgt_of hi) hP hd k
          · exact a_if_gt_t hz (tgt_of hi) hP hd k
          · exact a_if_le_t hz (tgt_of hi) hP hd k
        · cases h
          cases c
          · exact a_if_eq_f hz (tgt_of hi) hP hd k
          · exact a_if_ne_f hz (tgt_of hi) hP hd k
          · exact a_if_lt_f hz (tgt_of hi) hP hd k
          · exact a_if_ge_f hz (tgt_of hi) hP hd k
          · exact a_if_gt_f hz (tgt_of hi) hP hd k
          · exact a_if_le_f hz (tgt_of hi) hP hd k
      · cases h
    · cases h
  case tableswitch d lo hi offs =>
    simp only [stp] at h
    split at h
    · split at h
      · rename_i off e
        split at h
        · rename_i hi
          cases h
          exact a_tabIn hz hP hi.1 e (tgt_of hi.2) hd k
        · cases h
      · split at h
        · rename_i hi
          cases h
          exact a_tabOut hz hP (tgt_of hi) hd k
        · cases h
    · cases h
  case getfield i =>
    have hn : n = 3 := by simpa [okLen, ilen] using hn
    subst hn
    simp only [stp] at h
    split at h
    · split at h
      · rename_i x e
        obtain ⟨e1, e2⟩ := mem_find e
        have e3 : x.1 = i := by simpa using e2
        subst e3
        split at h
        · rename_i y ey
          split at h
          · rename_i hc
            obtain ⟨x1, x2, x3⟩ := x
            obtain ⟨y1, y2⟩ := y
            cases hc
            split at h
            · rename_i ef
              cases h
              exact a_getI hz (hq.2.1 _ e1) ey ef hd k
            · rename_i b ef
              cases h
              exact a_getR hz (hq.2.1 _ e1) ey ef hd k
            · cases h
          · cases h
        · cases h
      · cases h
    · cases h
  case putfield i =>
    have hn : n = 3 := by simpa [okLen, ilen] using hn
    subst hn
    simp only [stp] at h
    split at h
    · split at h
      · rename_i x e
        obtain ⟨e1, e2⟩ := mem_find e
        have e3 : x.1 = i := by simpa using e2
        subst e3
        split at h
        · rename_i y ey
          split at h
          · rename_i hc
            obtain ⟨x1, x2, x3⟩ := x
            obtain ⟨y1, y2⟩ := y
            cases hc
            split at h
            · rename_i ef
              split at h
              · rename_i ep
                cases h
                exact a_put hz (hq.2.1 _ e1) ey ef ep (fun _ => hP) hd k
              · rename_i ep
                cases h
                exact a_put hz (hq.2.1 _ e1) ey ef ep (fun h9 => by cases h9) hd k
              · cases h
            · cases h
          · cases h
        · cases h
      · cases h
    · cases h
  case iaload  =>
    have hn : n = 1 := by simpa [okLen, ilen] using hn
    subst hn
    simp only [stp] at h
    split at h
    · split at h
      · rename_i ha
        subst ha
        cases h
        exact a_mostload hz hP hd k
      · split at h
        · rename_i ht
          cases h
          exact a_iaload hz ht hP hd k
        · cases h
    · cases h
  case baload  =>
    have hn : n = 1 := by simpa [okLen, ilen] using hn
    subst hn
    simp only [stp] at h
    split at h
    · split at h
      · rename_i ht
        cases h
        exact a_baload hz ht hP hd k
      · cases h
    · cases h
  case iastore  =>
    have hn : n = 1 := by simpa [okLen, ilen] using hn
    subst hn
    simp only [stp] at h
    split at h
    · split at h
      · rename_i ht
        cases h
        exact a_iastore hz ht hP hd k
      · cases h
    · cases h
  case bastore  =>
    have hn : n = 1 := by simpa [okLen, ilen] using hn
    subst hn
    simp only [stp] at h
    split at h
    · split at h
      · rename_i ht
        cases h
        exact a_bastore hz ht hP.1 hP.2 hd k
      · cases h
    · cases h
  case aaload  =>
    have hn : n = 1 := by simpa [okLen, ilen] using hn
    subst hn
    simp only [stp] at h
    split at h
    · split at h
      · rename_i ht
        split at h
        · rename_i eb
          cases h
          exact a_aaload hz ht eb hP hd k
        · cases h
      · cases h
    · cases h
  all_goals (simp only [stp] at h; cases h)
def rnC (q : MI) : Nat → List Nat → Nat → List (Option Av) → List Av → Mm → Option (Nat × List (Option Av) × List Av × Mm × Prop)
  | 0, _, pc, lv, st, M => some (pc, lv, st, M, True)
  | k + 1, os, pc, lv, st, M => match (qC q).find? (fun x => x.1 == pc) with
    | none => none
    | some x => if okLen x.2.1 x.2.2 = true then (match stp q (os.headD 0) pc lv st M x.2.1 with
      | none => none
      | some r => match rnC q k (if needO x.2.1 = true then os.tail else os) r.1 r.2.1 r.2.2.1 r.2.2.2.1 with
        | none => none
        | some t => some (t.1, t.2.1, t.2.2.1, t.2.2.2.1, (match r.2.2.2.2 with
          | some P => P ∧ t.2.2.2.2
          | none => t.2.2.2.2))) else none
theorem a_run {q : MI} {z : Zx} (hq : MOk q) (hz : Cx q z) : ∀ (k : Nat) (os : List Nat) {pc : Nat} {lv : List (Option Av)} {st : List Av} {M : Mm} {pc' : Nat} {lv' : List (Option Av)} {st' : List Av} {M' : Mm} {P : Prop}, rnC q k os pc lv st M = some (pc', lv', st', M', P) → P → Aw z pc' lv' st' M' → Aw z pc lv st M := by
  intro k
  induction k with
  | zero =>
    intro os pc lv st M pc' lv' st' M' P h _ kk
    simp only [rnC] at h
    cases h
    exact kk
  | succ k ih =>
    intro os pc lv st M pc' lv' st' M' P h hP kk
    simp only [rnC] at h
    split at h
    · cases h
    · rename_i x e
      obtain ⟨e1, e2⟩ := mem_find e
      have e3 : x.1 = pc := by simpa using e2
      subst e3
      split at h
      · rename_i hn
        split at h
        · cases h
        · rename_i r er
          split at h
          · cases h
          · rename_i t et
            obtain ⟨t1, t2, t3, t4, t5⟩ := t
            have hd := hq.1 x e1
            cases h
            refine stp_ok (r := r) hq hz hd hn er ?_ (ih _ et ?_ kk)
            · revert hP
              cases r.2.2.2.2 with
              | none => intro _; trivial
              | some P1 => intro hP; exact hP.1
            · revert hP
              cases r.2.2.2.2 with
              | none => intro hP; exact hP
              | some P1 => intro hP; exact hP.2
      · cases h
end
section
/-! CONTRACTS over the abstract memory: a method's start, its end, its call -/
def QcO (D : va_G) (cA : Ca) (ad : Nat → Nat) (A : Nat → Prop) (Q : Option Int → Mm → Prop) : Array Value → State → Outcome → State → Prop := fun _ st oc t => (∃ (r : Option Int) (M : Mm), oc = .returned (r.map (fun v => Value.int (Int32.ofInt v))) ∧ Q r M ∧ okM M ∧ (∀ v, r = some v → inR v) ∧ va_P D vwCl (wld ad cA M) t.heap ∧ va_D A (wld ad cA M)) ∧ va_F A st t
def PcO (D : va_G) (cA : Ca) (ad : Nat → Nat) (A : Nat → Prop) (as : List Av) (M : Mm) : Array Value → State → Prop := va_Pc (as.map (cvV ad)) (fun U => va_P D vwCl (wld ad cA M) U.heap ∧ va_K D vwCl (tysW cA) U ∧ va_D A (wld ad cA M) ∧ (∀ x, U.heap.size ≤ x → A x) ∧ most ad A U)
def Ct : Gx → MI → List Av → Mm → (Option Int → Mm → Prop) → Prop
  | (l, D, cA, ad, A), q, as, M, Q => okM M → okS as → Met l (qY q) (Jvm.Cond.code (qY q) (qB q) (qN q) (qR q) :: gw_tbl) { frames := qf q, cells := 0, slots := 0, locals := ql q } (PcO D cA ad A as M) (QcO D cA ad A Q) 0 0 A
def Rt (Q : Option Int → Mm → Prop) : Zx → Prop
  | ((_, D, cA, ad, A), _, _, _, s, _, args, below, _, _, cells, slots, QW) => cells = 0 ∧ slots = 0 ∧ QW = MQ below (QcO D cA ad A Q) args s 0 0 A
theorem sl_len (ad : Nat → Nat) (as : List Av) : (lg_sl (as.map (cvV ad))).length = as.length := by
  induction as with
  | nil => rfl
  | cons v as ih =>
    have hc : ¬ (cvV ad v).category = 2 := by rw [cvV_cat]; decide
    simp only [lg_sl, List.map_cons, List.flatMap_cons, hc, if_false, List.length_append, List.length_cons, List.length_nil] at ih ⊢
    omega
theorem args_mem (ad : Nat → Nat) : ∀ (as : List Av) (k i : Nat) (v : Av), as[i]? = some v → (k + i, cvV ad v) ∈ lv_args k (as.map (cvV ad))
  | [], k, i, v, h => by simp at h
  | w :: as, k, 0, v, h => by
    simp only [List.getElem?_cons_zero, Option.some.injEq] at h
    subst h
    exact List.mem_cons_self
  | w :: as, k, i + 1, v, h => by
    rw [List.getElem?_cons_succ] at h
    have hc : ¬ (cvV ad w).category = 2 := by rw [cvV_cat]; decide
    simp only [List.map_cons, lv_args, hc, if_false]
    refine List.mem_cons_of_mem _ ?_
    have := args_mem ad as (k + 1) i v h
    rwa [show k + (i + 1) = k + 1 + i by omega]
def lv0 (as : List Av) (n : Nat) : List (Option Av) := as.map some ++ List.replicate (n - as.length) none
theorem lv0_get {as : List Av} {n i : Nat} {v : Av} (h : (lv0 as n)[i]? = some (some v)) : as[i]? = some v := by
  unfold lv0 at h
  by_cases hi : i < as.length
  · rw [List.getElem?_append_left (by simpa using hi)] at h
    rw [List.getElem?_map] at h
    cases ha : as[i]? with
    | none => rw [ha] at h; cases h
    | some w => rw [ha] at h; simpa using h
  · rw [List.getElem?_append_right (by simpa using hi)] at h
    have := List.mem_of_getElem? h
    simp at this
theorem c_of {g : Gx} {q : MI} {as : List Av} {M : Mm} {Q : Option Int → Mm → Prop} (hq : MOk q) (hn : as.length ≤ qN q) (h : ∀ z : Zx, z.1 = g → Cx q z → Rt Q z → Aw z 0 (lv0 as (qN q)) [] M) : Ct g q as M Q := by
  obtain ⟨l, D, cA, ad, A⟩ := g
  intro okm oks
  refine Met.ofW (cc := qB q) (maxL := qN q) (ret := qR q) hq.2.2.2.2.2.1 rfl ?_
  intro p e s m args below meth c s₁ B hml hv
  obtain ⟨rfl, hP, hK, hD, hA, hmost⟩ := hv
  have hts : ∀ w ∈ gw_tbl, w.before (as.map (cvV ad)).toArray s = true := fun w hw => atoms_spec (ws := Jvm.Cond.code (qY q) (qB q) (qN q) (qR q) :: gw_tbl) B.pre w (List.mem_cons_of_mem _ hw)
  have hown : s.vm.findClass q.1 = some m.cls := by rw [hq.2.2.2.2.2.2.1]; exact findClass_of_methodNamed B.named
  have hl := lv_entry (as.map (cvV ad)) (n := qN q) (by rw [sl_len]; exact hn)
  rw [lg_entry_eq]
  have hl2 : lvO ad ((lg_sl (as.map (cvV ad)) ++ List.replicate (qN q - (lg_sl (as.map (cvV ad))).length) Slot.unset).toArray) c.maxLocals (lv0 as (qN q)) := by
    refine ⟨by rw [hml]; exact hl.1, hl.2.1, fun p hp => ?_⟩
    obtain ⟨v, h1, h2⟩ := mem_lvl.mp hp
    have h3 := args_mem ad as 0 p.1 v (lv0_get h1)
    rw [Nat.zero_add, ← h2] at h3
    exact hl.2.2 p h3
  exact h ((l, D, cA, ad, A), p, e, _, s, m, _, below, meth, c, 0, 0, _) rfl ⟨B.exec, B.bytes, hml, hown, hts, B.returns, B.notSynchronized, hK, hA, hmost, Nat.le_refl _, Nat.le_refl _, Nat.zero_le _, Nat.zero_le _⟩ ⟨rfl, rfl, rfl⟩ okm (fun i v hi => oks v (List.mem_of_getElem? (lv0_get hi))) (fun v hv => by cases hv) s.heap [] _ hP hD va_S.rf hl2
section CALLS
variable {q q2 : MI} {z : Zx} {pc : Nat} {lv : List (Option Av)} {st : List Av} {M : Mm} {Q : Option Int → Mm → Prop}
theorem a_iret (hz : Cx q z) (hR : Rt Q z) (hd : decode (qB q) pc = .ok (.ireturn, 1)) {v : Int} (hQ : Q (some v) M) (hty : qR q = some .int ∨ (qR q = some .boolean ∧ (v = 0 ∨ v = 1))) : Aw z pc lv [.inl v] M := by
  obtain ⟨⟨l, D, cA, ad, A⟩, p, e, R, s, m, args, below, meth, c, cells, slots, QW⟩ := z
  obtain ⟨hx, hb, hml, hown, hts, hr, hlk, hK, hA, hmost, hfr, hlo, hce, hsl⟩ := hz
  obtain ⟨rfl, rfl, rfl⟩ := hR
  intro okm okl oks H locs ls hP hD hS hl
  have hv : inR v := oks.head
  have key : ∀ t : State, t.heap = H → s.WarmedH t.vm → QcO D cA ad A Q args s (.returned (some (.int (Int32.ofInt v)))) t := fun t ht hW => ⟨⟨some v, M, rfl, hQ, okm, fun w hw => by cases hw; exact hv, by rw [ht]; exact hP, hD⟩, hS.F ht⟩
  rcases hty with h | ⟨h, h01⟩
  · exact W.zret (ty := .int) hx hb (hr.trans h) rfl key hS.2.2 hd hlk
  · exact W.zret (ty := .boolean) hx hb (hr.trans h) (i32_narrow h01) key hS.2.2 hd hlk
theorem a_vret (hz : Cx q z) (hR : Rt Q z) (hd : decode (qB q) pc = .ok (.return_, 1)) (hQ : Q none M) (hty : qR q = none) : Aw z pc lv [] M := by
  obtain ⟨⟨l, D, cA, ad, A⟩, p, e, R, s, m, args, below, meth, c, cells, slots, QW⟩ := z
  obtain ⟨hx, hb, hml, hown, hts, hr, hlk, hK, hA, hmost, hfr, hlo, hce, hsl⟩ := hz
  obtain ⟨rfl, rfl, rfl⟩ := hR
  intro okm okl oks H locs ls hP hD hS hl
  exact W.vret hx hb (hr.trans hty) (fun t ht hW => ⟨⟨none, M, rfl, hQ, okm, fun w hw => (nomatch hw), by rw [ht]; exact hP, hD⟩, hS.F ht⟩) hS.2.2 hd hlk
theorem blindO (D : va_G) (cA : Ca) (ad : Nat → Nat) (A : Nat → Prop) (as : List Av) (M : Mm) : FrameBlind (PcO D cA ad A as M) := by
  intro a U g mk h
  obtain ⟨h1, h2, h3, h4, h5, h6, h7⟩ := h
  exact ⟨h1, h2, va_K.moved (u := U) (U := U.calling g mk a) (Vm.Alike.refl U.vm) h3, h4, h5, va_Z.moved (u := U) (U := U.calling g mk a) (Vm.Alike.refl U.vm) h6, va_T.moved (u := U) (U := U.calling g mk a) (Vm.Alike.refl U.vm) h7⟩
theorem goodC (hq : MOk q) : GoodIn gw_tbl (Jvm.Cond.code (qY q) (qB q) (qN q) (qR q) :: gw_tbl) := by
  intro w hw
  rcases List.mem_cons.mp hw with rfl | h
  · exact gw_good _ hq.2.2.2.1
  · exact gw_good _ h
/-- what goes on behind a call -/
theorem a_back {p : Program} {l : Launch} {e : Env} {R : Room} {s : State} {m : MethodId} {args : Array Value} {below : List Frame} {meth : Method} {c : Code} {H : Heap} {locs : List Loc} {cells slots : Nat} {QW : State → Prop} {D : va_G} {cA : Ca} {ad : Nat → Nat} {A : Nat → Prop} {ls : Array Slot} {st0 : List Value} {a : Array Value}
    (run : va_Run p l e R s m args below meth c H locs cells slots 0 0 (F0 m pc ls st0) (st.map (cvV ad)) (QcO D cA ad A Q a) A) (hS : va_S A s.heap H locs) (okl : okL lv) (oks : okS st) (hl : lvO ad ls c.maxLocals lv)
    (k : ∀ r M', Q r M' → Aw ((l, D, cA, ad, A), p, e, R, s, m, args, below, meth, c, cells, slots, QW) (pc + 3) lv (r.toList.map Sum.inl ++ st) M') : W p l e R s m args below meth c H locs cells slots QW (F0 m pc ls st0) := by
  intro T hT X
  obtain ⟨v, st₀, t, T', L, h0, X', hL, e1, e2, ⟨⟨r, M', hv, hQ, okm', hri, hP', hD'⟩, hz1, hk⟩, sg⟩ := run T hT X
  rw [h0] at hz1 hk
  have oks' : okS (r.toList.map Sum.inl ++ st) := by
    intro w hw
    rcases List.mem_append.mp hw with h | h
    · cases r with
      | none => cases h
      | some x => simp at h; subst h; exact hri x rfl
    · exact oks w h
  obtain ⟨t2, a1, b1⟩ := k r M' hQ okm' okl oks' T'.heap (locs ++ L) ls (by rw [e1]; exact hP') hD' ⟨Nat.le_trans hS.1 (by rw [e1]; exact hz1), fun x h1 h2 => by rw [e1, hk x (Nat.lt_of_lt_of_le h1 hS.1) h2]; exact hS.2.1 x h1 h2, fun x hx => by
      rcases List.mem_append.mp hx with h | h
      · exact hS.2.2 x h
      · exact hL x h⟩ hl T' rfl X'
  refine ⟨t2, sg t2 ?_, b1⟩
  cases hv
  cases r with
  | none => exact a1
  | some x => exact a1
theorem a_callS {idx : Nat} {as : List Av} (hq2 : MOk q2) (hz : Cx q z) (hL : LkS q.1 idx (qY q2)) (hd : decode (qB q) pc = .ok (.invokestatic idx, 3)) (hn : (parseMethodDescriptor (qY q2).desc).map (fun d => d.parameters.length) = some as.length) (hfr2 : qf q2 + 1 ≤ qf q) (hlo2 : 8 + (qN q2 + 11) + ql q2 ≤ ql q) (hrest : st.length ≤ 8) (hC : Ct z.1 q2 as M Q)
    (k : ∀ r M', Q r M' → Aw z (pc + 3) lv (r.toList.map Sum.inl ++ st) M') : Aw z pc lv (as.reverse ++ st) M := by
  obtain ⟨⟨l, D, cA, ad, A⟩, p, e, R, s, m, args, below, meth, c, cells, slots, QW⟩ := z
  obtain ⟨hx, hb, hml, hown, hts, hr, hlk, hK, hA, hmost, hfr, hlo, hce, hsl⟩ := hz
  intro okm okl oks H locs ls hP hD hS hl
  have ok1 : okS as := fun v hv => oks v (List.mem_append_left _ (List.mem_reverse.mpr hv))
  have ok2 : okS st := fun v hv => oks v (List.mem_append_right _ hv)
  have hM := hC okm ok1
  obtain ⟨g1, g2, g3, g4, g5, g6, g7, g8, g9⟩ := hq2
  have hq2 : MOk q2 := ⟨g1, g2, g3, g4, g5, g6, g7, g8, g9⟩
  refine a_back (va_runS (As := as.map (cvV ad)) (rest := st.map (cvV ad)) ⟨hx, hb, hml, hown, hts⟩ hM ⟨⟨rfl, rfl, ?_, ?_, pay_in hts (goodC hq2), List.mem_cons_self, hts _ g4, hts _ g5, ⟨g8, g9⟩, ?_, hts _ hL.1⟩, hts _ hL.2⟩ ⟨blindO D cA ad A as M, ?_⟩ rfl (List.length_map _) (hl.1.trans hml) ?_ (lv_room (by rw [cat_sum]; exact hrest)) hd ⟨hce, hsl⟩) hS okl ok2 hl k
  · exact Nat.le_trans hfr2 hfr
  · exact Nat.le_trans hlo2 hlo
  · intro sig hs
    rw [hs] at hn
    exact (Option.some.inj hn).symm
  · intro U hU hW
    refine ⟨rfl, by rw [hU]; exact hP, va_K.moved hW.alike hK, hD, fun x hx2 => hA x (Nat.le_trans hS.1 (by rw [← hU]; exact hx2)), ?_, ?_⟩
    · rw [hU]; exact (hmost.1.kept (fun x h1 h2 => hS.2.1 x h1 h2)).moved hW.alike
    · rw [hU]; exact (hmost.2.kept (fun x h1 h2 => hS.2.1 x h1 h2)).moved hW.alike
  · show (as.reverse ++ st).map (cvV ad) = _
    rw [List.map_append, List.map_reverse]
theorem a_callV {idx a ci : Nat} {as : List Av} {fs : List (Option Nat)} {T0 : u_T} {N0 : Nat} (hq2 : MOk q2) (hz : Cx q z) (hL : LkV q.1 idx (qY q2)) (hd : decode (qB q) pc = .ok (.invokevirtual idx, 3)) (hn : (parseMethodDescriptor (qY q2).desc).map (fun d => d.parameters.length) = some as.length) (hfr2 : qf q2 + 1 ≤ qf q) (hlo2 : 8 + (qN q2 + 11) + ql q2 ≤ ql q) (hrest : st.length ≤ 8) (ht : tp[a]? = some (.inl (ci, fs))) (hci : vwCl[ci]? = some ((qY q2).cls, T0, N0)) (hC : Ct z.1 q2 (.inr a :: as) M Q)
    (k : ∀ r M', Q r M' → Aw z (pc + 3) lv (r.toList.map Sum.inl ++ st) M') : Aw z pc lv (as.reverse ++ .inr a :: st) M := by
  obtain ⟨⟨l, D, cA, ad, A⟩, p, e, R, s, m, args, below, meth, c, cells, slots, QW⟩ := z
  obtain ⟨hx, hb, hml, hown, hts, hr, hlk, hK, hA, hmost, hfr, hlo, hce, hsl⟩ := hz
  intro okm okl oks H locs ls hP hD hS hl
  have ok1 : okS (.inr a :: as) := by
    intro v hv
    rcases List.mem_cons.mp hv with rfl | h
    · trivial
    · exact oks v (List.mem_append_left _ (List.mem_reverse.mpr h))
  have ok2 : okS st := fun v hv => oks v (List.mem_append_right _ (List.mem_cons_of_mem _ hv))
  have hM := hC okm ok1
  obtain ⟨g1, g2, g3, g4, g5, g6, g7, g8, g9⟩ := hq2
  have hq2 : MOk q2 := ⟨g1, g2, g3, g4, g5, g6, g7, g8, g9⟩
  refine a_back (va_runV (As := as.map (cvV ad)) (rest := st.map (cvV ad)) (b := ad a) ⟨hx, hb, hml, hown, hts⟩ hM ⟨⟨rfl, rfl, ?_, ?_, pay_in hts (goodC hq2), List.mem_cons_self, hts _ g4, hts _ g5, ⟨g8, g9⟩, ?_, hts _ hL.1⟩, hts _ hL.2.1, hts _ hL.2.2⟩ ⟨blindO D cA ad A (.inr a :: as) M, ?_, ?_⟩ rfl (List.length_map _) (hl.1.trans hml) ?_ (lv_room (by rw [cat_sum]; exact hrest)) hd ⟨hce, hsl⟩) hS okl ok2 hl k
  · exact Nat.le_trans hfr2 hfr
  · exact Nat.le_trans hlo2 hlo
  · intro sig hs
    rw [hs] at hn
    exact (Option.some.inj hn).symm
  · exact va_recv hK hP hci (wld_get ht)
  · intro U hU hW
    refine ⟨rfl, by rw [hU]; exact hP, va_K.moved hW.alike hK, hD, fun x hx2 => hA x (Nat.le_trans hS.1 (by rw [← hU]; exact hx2)), ?_, ?_⟩
    · rw [hU]; exact (hmost.1.kept (fun x h1 h2 => hS.2.1 x h1 h2)).moved hW.alike
    · rw [hU]; exact (hmost.2.kept (fun x h1 h2 => hS.2.1 x h1 h2)).moved hW.alike
  · show (as.reverse ++ .inr a :: st).map (cvV ad) = _
    rw [List.map_append, List.map_reverse]
    rfl
theorem a_less {lv' : List (Option Av)} (h : ∀ (i : Nat) (v : Av), lv'[i]? = some (some v) → lv[i]? = some (some v)) (k : Aw z pc lv' st M) : Aw z pc lv st M := by
  obtain ⟨⟨l, D, cA, ad, A⟩, p, e, R, s, m, args, below, meth, c, cells, slots, QW⟩ := z
  intro okm okl oks H locs ls hP hD hS hl
  exact k okm (fun i v hi => okl i v (h i v hi)) oks H locs ls hP hD hS (hl.less h)
def lessL (mask : List Bool) (lv : List (Option Av)) : List (Option Av) := lv.zipWith (fun v b => if b then v else none) mask
theorem a_mask (mask : List Bool) (k : Aw z pc (lessL mask lv) st M) : Aw z pc lv st M := by
  refine a_less (fun i v h => ?_) k
  unfold lessL at h
  rw [List.getElem?_zipWith] at h
  cases h1 : lv[i]? with
  | none => rw [h1] at h; cases h
  | some w =>
    rw [h1] at h
    cases h2 : mask[i]? with
    | none => rw [h2] at h; cases h
    | some b =>
      rw [h2] at h
      cases b with
      | true => simpa using h
      | false => simp at h
end CALLS
/-! FUNCTIONS that the methods compute: their words -/
def OK {α : Type} (o : Option α) (P : α → Prop) : Prop := match o with
  | some a => P a
  | none => False
def gd {α : Type} (C : Prop) [Decidable C] (t : Option α) : Option α := if C then t else none
def bnd {α β : Type} (e : α) (f : α → Option β) : Option β := f e
def cal {α β : Type} (o : Option α) (f : α → Option β) : Option β := match o with
  | some a => f a
  | none => none
def cal2 {α β γ : Type} (o : Option (α × γ)) (f : α → γ → Option β) : Option β := match o with
  | some a => f a.1 a.2
  | none => none
def jn {α β : Type} (k : α) (t : α → β) : β := t k
theorem gd_elim {α : Type} {C : Prop} [Decidable C] {t : Option α} {P : α → Prop} (h : OK (gd C t) P) : C ∧ OK t P := by
  unfold gd at h
  by_cases hc : C
  · rw [if_pos hc] at h; exact ⟨hc, h⟩
  · rw [if_neg hc] at h; exact h.elim
theorem gd_pos {α : Type} {C : Prop} [Decidable C] {t : Option α} (h : C) : gd C t = t := if_pos h
theorem ite_elim {α : Type} {C : Prop} [Decidable C] {a b : Option α} {P : α → Prop} {G : Prop} (h : OK (if C then a else b) P) (k1 : C → OK a P → G) (k2 : ¬ C → OK b P → G) : G := by
  by_cases hc : C
  · rw [if_pos hc] at h; exact k1 hc h
  · rw [if_neg hc] at h; exact k2 hc h
theorem cal_elim {α β : Type} {o : Option α} {f : α → Option β} {P : β → Prop} (h : OK (cal o f) P) : ∃ a, o = some a ∧ OK (f a) P := by
  cases o with
  | none => exact h.elim
  | some a => exact ⟨a, rfl, h⟩
theorem cal2_elim {α β γ : Type} {o : Option (α × γ)} {f : α → γ → Option β} {P : β → Prop} (h : OK (cal2 o f) P) : ∃ a c, o = some (a, c) ∧ OK (f a c) P := by
  cases o with
  | none => exact h.elim
  | some a => exact ⟨a.1, a.2, rfl, h⟩
theorem jn_elim {α β : Type} {k : α} {t : α → Option β} {P : β → Prop} {G : Prop} (h : OK (jn k t) P) (C : α → Prop) (hk : C k) (kk : ∀ k', C k' → OK (t k') P → G) : G := kk k hk h
theorem bnd_elim {α β : Type} {e : α} {f : α → Option β} {P : β → Prop} {G : α → Prop} (h : OK (bnd e f) P) (k : ∀ t, OK (f t) P → G t) : G e := k e h
def iabs (a : Int) : Int := if 0 ≤ a then a else -a
def imax (a b : Int) : Int := if a < b then b else a
def imin (a b : Int) : Int := if b < a then b else a
def cpM (M : Mm) (b a : Nat) (n : Int) : Mm := upR M b (fun j => if j < n.toNat then M a j else M b j)
theorem d_at {q : MI} (hq : MOk q) {pc : Nat} {x : Instr} {n : Nat} (h : (qC q).find? (fun y => y.1 == pc) = some (pc, x, n)) : decode (qB q) pc = .ok (x, n) := hq.1 (pc, x, n) (mem_find h).1
theorem c_ofP {g : Gx} {q : MI} {as : List Av} {M : Mm} {f : Option Int} {r : Int} (hf : f = some r) (hq : MOk q) (hn : as.length ≤ qN q) (h : ∀ z : Zx, Cx q z → ∀ Q : Option Int → Mm → Prop, Rt Q z → OK f (fun r2 => Q (some r2) M) → Aw z 0 (lv0 as (qN q)) [] M) : Ct g q as M (fun r' M' => r' = some r ∧ M' = M) :=
  c_of hq hn (fun z _ hz hR => h z hz _ hR (by rw [hf]; exact ⟨rfl, rfl⟩))
theorem c_ofI {g : Gx} {q : MI} {as : List Av} {M M2 : Mm} {f : Option (Int × Mm)} {r : Int} (hf : f = some (r, M2)) (hq : MOk q) (hn : as.length ≤ qN q) (h : ∀ z : Zx, Cx q z → ∀ Q : Option Int → Mm → Prop, Rt Q z → OK f (fun r2 => Q (some r2.1) r2.2) → Aw z 0 (lv0 as (qN q)) [] M) : Ct g q as M (fun r' M' => r' = some r ∧ M' = M2) :=
  c_of hq hn (fun z _ hz hR => h z hz _ hR (by rw [hf]; exact ⟨rfl, rfl⟩))
theorem c_ofV {g : Gx} {q : MI} {as : List Av} {M M2 : Mm} {f : Option Mm} (hf : f = some M2) (hq : MOk q) (hn : as.length ≤ qN q) (h : ∀ z : Zx, Cx q z → ∀ Q : Option Int → Mm → Prop, Rt Q z → OK f (fun r2 => Q none r2) → Aw z 0 (lv0 as (qN q)) [] M) : Ct g q as M (fun r' M' => r' = none ∧ M' = M2) :=
  c_of hq hn (fun z _ hz hR => h z hz _ hR (by rw [hf]; exact ⟨rfl, rfl⟩))
section CALLF
variable {q q2 : MI} {z : Zx} {pc : Nat} {lv : List (Option Av)} {st : List Av} {M : Mm}
/-- a call with an int answer, or with none, of a method that is known to compute (r, M2) -/
theorem a_fS {idx : Nat} {as : List Av} {r : Option Int} {M2 : Mm} (hC : Ct z.1 q2 as M (fun r' M' => r' = r ∧ M' = M2)) (hq : MOk q) (hq2 : MOk q2) (hz : Cx q z) (hL : LkS q.1 idx (qY q2)) (hd : (qC q).find? (fun y => y.1 == pc) = some (pc, .invokestatic idx, 3)) (n k0 : Nat) (hn : ((parseMethodDescriptor (qY q2).desc).map (fun d => d.parameters.length) = some n) ∧ qf q2 + 1 ≤ qf q ∧ 8 + (qN q2 + 11) + ql q2 ≤ ql q ∧ k0 ≤ 8) (h1 : as.length = n) (h2 : st.length = k0) (k : Aw z (pc + 3) lv (r.toList.map Sum.inl ++ st) M2) : Aw z pc lv (as.reverse ++ st) M :=
  a_callS hq2 hz hL (d_at hq hd) (by rw [h1]; exact hn.1) hn.2.1 hn.2.2.1 (by rw [h2]; exact hn.2.2.2) hC (fun r' M' h => by obtain ⟨rfl, rfl⟩ := h; exact k)
theorem a_fV {idx a ci : Nat} {as : List Av} {fs : List (Option Nat)} {T0 : u_T} {N0 : Nat} {r : Option Int} {M2 : Mm} (hC : Ct z.1 q2 (.inr a :: as) M (fun r' M' => r' = r ∧ M' = M2)) (hq : MOk q) (hq2 : MOk q2) (hz : Cx q z) (hL : LkV q.1 idx (qY q2)) (hd : (qC q).find? (fun y => y.1 == pc) = some (pc, .invokevirtual idx, 3)) (n k0 : Nat) (hn : ((parseMethodDescriptor (qY q2).desc).map (fun d => d.parameters.length) = some n) ∧ qf q2 + 1 ≤ qf q ∧ 8 + (qN q2 + 11) + ql q2 ≤ ql q ∧ k0 ≤ 8) (h1 : as.length = n) (h2 : st.length = k0) (ht : tp[a]? = some (.inl (ci, fs))) (hci : vwCl[ci]? = some ((qY q2).cls, T0, N0)) (k : Aw z (pc + 3) lv (r.toList.map Sum.inl ++ st) M2) : Aw z pc lv (as.reverse ++ .inr a :: st) M :=
  a_callV hq2 hz hL (d_at hq hd) (by rw [h1]; exact hn.1) hn.2.1 hn.2.2.1 (by rw [h2]; exact hn.2.2.2) ht hci hC (fun r' M' h => by obtain ⟨rfl, rfl⟩ := h; exact k)
theorem a_abs {a : Int} {i : Nat} (hq : MOk q) (hz : Cx q z) (h : inR (-a)) (hL : Jvm.Cond.methodLink q.1 i Lib.Math.abs.name ∈ gw_tbl) (k0 : Nat) (hn : 1 ≤ qf q ∧ k0 + 13 ≤ ql q) (h2 : st.length = k0) (hd : (qC q).find? (fun y => y.1 == pc) = some (pc, .invokestatic i, 3)) (k : Aw z (pc + 3) lv (.inl (iabs a) :: st) M) : Aw z pc lv (.inl a :: st) M := a_mabs hz h hL hn.1 (by rw [h2]; exact hn.2) (d_at hq hd) k
theorem a_max {a b : Int} {i : Nat} (hq : MOk q) (hz : Cx q z) (hL : Jvm.Cond.methodLink q.1 i Lib.Math.max.name ∈ gw_tbl) (k0 : Nat) (hn : 1 ≤ qf q ∧ k0 + 13 ≤ ql q) (h2 : st.length = k0) (hd : (qC q).find? (fun y => y.1 == pc) = some (pc, .invokestatic i, 3)) (k : Aw z (pc + 3) lv (.inl (imax a b) :: st) M) : Aw z pc lv (.inl b :: .inl a :: st) M := a_mmax hz hL hn.1 (by rw [h2]; exact hn.2) (d_at hq hd) k
theorem a_min {a b : Int} {i : Nat} (hq : MOk q) (hz : Cx q z) (hL : Jvm.Cond.methodLink q.1 i Lib.Math.min.name ∈ gw_tbl) (k0 : Nat) (hn : 1 ≤ qf q ∧ k0 + 13 ≤ ql q) (h2 : st.length = k0) (hd : (qC q).find? (fun y => y.1 == pc) = some (pc, .invokestatic i, 3)) (k : Aw z (pc + 3) lv (.inl (imin a b) :: st) M) : Aw z pc lv (.inl b :: .inl a :: st) M := a_mmin hz hL hn.1 (by rw [h2]; exact hn.2) (d_at hq hd) k
theorem a_cpy {i a b n0 n1 : Nat} {n : Int} (hq : MOk q) (hz : Cx q z) (hL : Jvm.Cond.methodLink q.1 i arraycopyName ∈ gw_tbl) (ha : tp[a]? = some (.inr (.inl (0, n0)))) (hb2 : tp[b]? = some (.inr (.inl (0, n1)))) (k0 : Nat) (h0 : (0 ≤ n ∧ n ≤ n0 ∧ n ≤ n1) ∧ 1 ≤ qf q ∧ k0 + 18 ≤ ql q) (h2 : st.length = k0) (hd : (qC q).find? (fun y => y.1 == pc) = some (pc, .invokestatic i, 3)) (k : Aw z (pc + 3) lv st (cpM M b a n)) : Aw z pc lv (.inl n :: .inl 0 :: .inr b :: .inl 0 :: .inr a :: st) M := a_copy hz hL ha hb2 h0.1 h0.2.1 (by rw [h2]; exact h0.2.2) (d_at hq hd) k
theorem a_ri {Q : Option Int → Mm → Prop} {v : Int} (hq : MOk q) (hz : Cx q z) (hR : Rt Q z) (hd : (qC q).find? (fun y => y.1 == pc) = some (pc, .ireturn, 1)) (hty : qR q = some .int ∨ (qR q = some .boolean ∧ (v = 0 ∨ v = 1))) (hQ : Q (some v) M) : Aw z pc lv [.inl v] M := a_iret hz hR (d_at hq hd) hQ hty
theorem a_rv {Q : Option Int → Mm → Prop} (hq : MOk q) (hz : Cx q z) (hR : Rt Q z) (hd : (qC q).find? (fun y => y.1 == pc) = some (pc, .return_, 1)) (hty : qR q = none) (hQ : Q none M) : Aw z pc lv [] M := a_vret hz hR (d_at hq hd) hQ hty
end CALLF
end
section
/-! CONSTRUCTORS: a world that grows; wr is the caller's part, which stays -/
abbrev Yx : Type := Gx × Program × Env × Room × State × MethodId × Array Value × List Frame × Method × Code × (State → Prop)
def Bx (own : String) (cc : ByteArray) (nL fr lo : Nat) : Yx → Prop
  | ((_, D, cA, _, A), p, _, R, s, m, args, _, meth, c, _) => p.tables.exec = Jvm.exec ∧ c.code = cc ∧ c.maxLocals = nL ∧ s.vm.findClass own = some m.cls ∧ (∀ w ∈ gw_tbl, w.before args s = true) ∧ meth.locks = false ∧ va_K D vwCl (tysW cA) s ∧ (∀ x, s.heap.size ≤ x → A x) ∧ fr ≤ R.frames ∧ lo ≤ R.locals ∧ va_AO "RoadTrace$State" s
def Bn : Yx → Prop
  | (_, _, _, _, _, _, _, _, meth, _, _) => meth.name = "<init>"
def Br (C S : Nat) : Yx → Prop
  | (_, _, _, R, _, _, _, _, _, _, _) => C ≤ R.cells ∧ S ≤ R.slots
def Bw : Yx → va_W → Nat → Nat → Nat → List (Nat × Value) → List Value → Prop
  | ((l, D, cA, ad, A), p, e, R, s, m, args, below, meth, c, QW), ws, cells, slots, pc, lv, st => ∀ (H : Heap) (locs : List Loc) (ls : Array Slot), va_P D vwCl ws H → va_D A ws → va_S A s.heap H locs → lv_has ls c.maxLocals lv → W p l e R s m args below meth c H locs cells slots QW (F0 m pc ls st)
theorem ap_get {wr l : va_W} {i : Nat} : (wr ++ l)[wr.length + i]? = l[i]? := by rw [List.getElem?_append_right (by omega), Nat.add_sub_cancel_left]
theorem ap_set {wr l : va_W} {i : Nat} {x : Nat × va_E} : (wr ++ l).set (wr.length + i) x = wr ++ l.set i x := by rw [List.set_append_right _ _ (by omega), Nat.add_sub_cancel_left]
section BRULES
variable {own : String} {cc : ByteArray} {nL fr lo : Nat} {y : Yx} {wr w : va_W} {cells slots pc : Nat} {lv : List (Nat × Value)} {st : List Value}
theorem b_aload {f : Fin 4} {i j : Nat} {a : Nat} (hz : Bx own cc nL fr lo y) (hf : (f : Nat) = i) (hv : lv[j]? = some (i, .ref a)) (hd : decode cc pc = .ok (.aload_n f, 1)) (k : Bw y (wr ++ w) cells slots (pc + 1) lv (.ref a :: st)) : Bw y (wr ++ w) cells slots pc lv st := by
  obtain ⟨⟨l, D, cA, ad, A⟩, p, e, R, s, m, args, below, meth, c, QW⟩ := y
  obtain ⟨hx, hb, hml, hown, hts, hlk, hK, hA, hfr, hlo, hao⟩ := hz
  intro H locs ls hP hD hS hl
  exact lv_aload_n hx hb hd hf (lv_at hl j hv) (k H locs ls hP hD hS hl)
theorem b_iconst {v : Int} {x : Int32} (hz : Bx own cc nL fr lo y) (hv : Int32.ofInt v = x) (hd : decode cc pc = .ok (.iconst v, 1)) (k : Bw y (wr ++ w) cells slots (pc + 1) lv (.int x :: st)) : Bw y (wr ++ w) cells slots pc lv st := by
  obtain ⟨⟨l, D, cA, ad, A⟩, p, e, R, s, m, args, below, meth, c, QW⟩ := y
  obtain ⟨hx, hb, hml, hown, hts, hlk, hK, hA, hfr, hlo, hao⟩ := hz
  intro H locs ls hP hD hS hl
  exact lv_iconst hx hb hd hv (k H locs ls hP hD hS hl)
theorem b_bipush {v : Int} {x : Int32} (hz : Bx own cc nL fr lo y) (hv : (Int8.ofInt v).toInt32 = x) (hd : decode cc pc = .ok (.bipush v, 2)) (k : Bw y (wr ++ w) cells slots (pc + 2) lv (.int x :: st)) : Bw y (wr ++ w) cells slots pc lv st := by
  obtain ⟨⟨l, D, cA, ad, A⟩, p, e, R, s, m, args, below, meth, c, QW⟩ := y
  obtain ⟨hx, hb, hml, hown, hts, hlk, hK, hA, hfr, hlo, hao⟩ := hz
  intro H locs ls hP hD hS hl
  exact lv_bipush hx hb hd hv (k H locs ls hP hD hS hl)
theorem b_sipush {v : Int} {x : Int32} (hz : Bx own cc nL fr lo y) (hv : (Int16.ofInt v).toInt32 = x) (hd : decode cc pc = .ok (.sipush v, 3)) (k : Bw y (wr ++ w) cells slots (pc + 3) lv (.int x :: st)) : Bw y (wr ++ w) cells slots pc lv st := by
  obtain ⟨⟨l, D, cA, ad, A⟩, p, e, R, s, m, args, below, meth, c, QW⟩ := y
  obtain ⟨hx, hb, hml, hown, hts, hlk, hK, hA, hfr, hlo, hao⟩ := hz
  intro H locs ls hP hD hS hl
  exact lv_sipush hx hb hd hv (k H locs ls hP hD hS hl)
theorem b_dup {v : Value} (hz : Bx own cc nL fr lo y) (hv : v.category = 1) (hd : decode cc pc = .ok (.dup, 1)) (k : Bw y (wr ++ w) cells slots (pc + 1) lv (v :: v :: st)) : Bw y (wr ++ w) cells slots pc lv (v :: st) := by
  obtain ⟨⟨l, D, cA, ad, A⟩, p, e, R, s, m, args, below, meth, c, QW⟩ := y
  obtain ⟨hx, hb, hml, hown, hts, hlk, hK, hA, hfr, hlo, hao⟩ := hz
  intro H locs ls hP hD hS hl
  exact lv_dup hx hb hd hv (k H locs ls hP hD hS hl)
theorem b_object {a idx : Nat} (hz : Bx own cc nL fr lo y) (hL : Jvm.Cond.methodLink own idx objectInit ∈ gw_tbl ∧ Jvm.Cond.instanceMethod objectInit ∈ gw_tbl ∧ Jvm.Cond.code objectInit ⟨#[0xb1]⟩ 1 none ∈ gw_tbl) (hn : 1 ≤ fr ∧ (st.map fun v => v.category).sum + 12 ≤ lo) (hd : decode cc pc = .ok (.invokespecial idx, 3)) (k : Bw y (wr ++ w) cells slots (pc + 3) lv st) : Bw y (wr ++ w) cells slots pc lv (.ref a :: st) := by
  obtain ⟨⟨l, D, cA, ad, A⟩, p, e, R, s, m, args, below, meth, c, QW⟩ := y
  obtain ⟨hx, hb, hml, hown, hts, hlk, hK, hA, hfr, hlo, hao⟩ := hz
  intro H locs ls hP hD hS hl
  exact W.objInit hx hb hown (hts _ hL.1) (hts _ hL.2.1) (hts _ hL.2.2) rfl hl.1 rfl hd (by omega) (by show 2 * 0 + _ + 12 ≤ _; omega) (k H locs ls hP hD hS hl)
theorem ty_one {D : va_G} {tys : List (ClassId × FieldType)} {s : State} {c1 c2 : ClassId} {ty : FieldType} (hn : ∀ C, ty ≠ .object C) (hK : va_K D vwCl tys s) {i j : Nat} (h1 : tys[i]? = some (c1, ty)) (h2 : tys[j]? = some (c2, ty)) : c1 = c2 := by
  have e1 := (hK.2 i _ h1).2
  have e2 := (hK.2 j _ h2).2
  cases ty with
  | object C => exact absurd rfl (hn C)
  | _ => exact Option.some.inj (e1.symm.trans e2)
theorem b_newaI {n : Int32} {N : Nat} (hz : Bx own cc nL fr lo y) (hN : n.toNatClampNeg = N) (hn : ¬ n < 0) (hs : N * 4 ≤ 536870912) (hr : Br (cells + 1) (slots + N) y) (hc : Jvm.Cond.arrayClass .int ∈ gw_tbl) (hd : decode cc pc = .ok (.newarray .int, 2)) (k : ∀ q, Bw y (wr ++ (w ++ [(q, .inl (y.1.2.2.1.1, N, .inl (fun _ => 0)))])) (cells + 1) (slots + N) (pc + 2) lv (.ref q :: st)) : Bw y (wr ++ w) cells slots pc lv (.int n :: st) := by
  obtain ⟨⟨l, D, cA, ad, A⟩, p, e, R, s, m, args, below, meth, c, QW⟩ := y
  obtain ⟨hx, hb, hml, hown, hts, hlk, hK, hA, hfr, hlo, hao⟩ := hz
  intro H locs ls hP hD hS hl
  refine va_newa (atype := .int) (ty := .int) (a0 := (N, .inl (fun _ => 0))) hx hb (hts _ hc) rfl hK hP hD hS hA (fun c2 => rfl) hn hN hs hr.1 hr.2 hd (fun q c2 H1 hK1 hP1 hD1 hS1 => ?_)
  have e := ty_one (fun C h => by cases h) hK1 (i := 3) (j := 0) rfl rfl
  subst e
  rw [List.append_assoc] at hP1 hD1
  exact k q H1 locs ls hP1 hD1 hS1 hl
theorem b_newaZ {n : Int32} {N : Nat} (hz : Bx own cc nL fr lo y) (hN : n.toNatClampNeg = N) (hn : ¬ n < 0) (hs : N * 1 ≤ 536870912) (hr : Br (cells + 1) (slots + N) y) (hc : Jvm.Cond.arrayClass .boolean ∈ gw_tbl) (hd : decode cc pc = .ok (.newarray .boolean, 2)) (k : ∀ q, Bw y (wr ++ (w ++ [(q, .inl (y.1.2.2.1.2.1, N, .inl (fun _ => 0)))])) (cells + 1) (slots + N) (pc + 2) lv (.ref q :: st)) : Bw y (wr ++ w) cells slots pc lv (.int n :: st) := by
  obtain ⟨⟨l, D, cA, ad, A⟩, p, e, R, s, m, args, below, meth, c, QW⟩ := y
  obtain ⟨hx, hb, hml, hown, hts, hlk, hK, hA, hfr, hlo, hao⟩ := hz
  intro H locs ls hP hD hS hl
  refine va_newa (atype := .boolean) (ty := .boolean) (a0 := (N, .inl (fun _ => 0))) hx hb (hts _ hc) rfl hK hP hD hS hA (fun c2 => rfl) hn hN hs hr.1 hr.2 hd (fun q c2 H1 hK1 hP1 hD1 hS1 => ?_)
  have e := ty_one (fun C h => by cases h) hK1 (i := 3) (j := 1) rfl rfl
  subst e
  rw [List.append_assoc] at hP1 hD1
  exact k q H1 locs ls hP1 hD1 hS1 hl
theorem b_putF {i ci kf idx a : Nat} {fs : List Value} {v : Value} {C : String} {T : u_T} {N : Nat} {ty : FieldType} (hz : Bx own cc nL fr lo y) (hn : Bn y) (hF : FOk own (idx, ci, kf)) (hw : w[i]? = some (a, .inr (ci, fs))) (hc : vwCl[ci]? = some (C, T, N)) (hfin : (T kf).2.2.2 = true ∧ (T kf).1 = own) (hty : parseFieldDescriptor (T kf).2.2.1 = some ty) (hv : narrow ty v = v ∧ fits ty v = true) (hl : kf < fs.length) (hd : decode cc pc = .ok (.putfield idx, 3)) (k : Bw y (wr ++ w.set i (a, .inr (ci, fs.set kf v))) cells slots (pc + 3) lv st) : Bw y (wr ++ w) cells slots pc lv (v :: .ref a :: st) := by
  obtain ⟨⟨l, D, cA, ad, A⟩, p, e, R, s, m, args, below, meth, c, QW⟩ := y
  obtain ⟨hx, hb, hml, hown, hts, hlk, hK, hA, hfr, hlo, hao⟩ := hz
  obtain ⟨C', T', N', h1, h2, h3⟩ := hF
  cases hc.symm.trans h1
  obtain ⟨e1, ty0, e2, e3⟩ := vc_in ci C T N hc
  intro H locs ls hP hD hS hlv
  refine va_putF (D := D) hx hb hts e1 ty0 e2 e3 hown hK hP hD hS (wr.length + i) (ap_get.trans hw) hc kf h2 (hts _ h3) (fun _ h9 => h9) hfin.1 hn hfin.2 hty hv.1 hv.2 hl hd (fun H1 locs1 hP1 hD1 hS1 => ?_)
  rw [ap_set] at hP1 hD1
  exact k H1 locs1 ls hP1 hD1 hS1 hlv
theorem b_put {i ci kf idx a : Nat} {fs : List Value} {v : Value} {C : String} {T : u_T} {N : Nat} {ty : FieldType} (hz : Bx own cc nL fr lo y) (hF : FOk own (idx, ci, kf)) (hw : w[i]? = some (a, .inr (ci, fs))) (hc : vwCl[ci]? = some (C, T, N)) (hfin : (T kf).2.2.2 = false) (hty : parseFieldDescriptor (T kf).2.2.1 = some ty) (hv : narrow ty v = v ∧ fits ty v = true) (hl : kf < fs.length) (hd : decode cc pc = .ok (.putfield idx, 3)) (k : Bw y (wr ++ w.set i (a, .inr (ci, fs.set kf v))) cells slots (pc + 3) lv st) : Bw y (wr ++ w) cells slots pc lv (v :: .ref a :: st) := by
  obtain ⟨⟨l, D, cA, ad, A⟩, p, e, R, s, m, args, below, meth, c, QW⟩ := y
  obtain ⟨hx, hb, hml, hown, hts, hlk, hK, hA, hfr, hlo, hao⟩ := hz
  obtain ⟨C', T', N', h1, h2, h3⟩ := hF
  cases hc.symm.trans h1
  obtain ⟨e1, ty0, e2, e3⟩ := vc_in ci C T N hc
  intro H locs ls hP hD hS hlv
  refine va_put (D := D) hx hb hts e1 ty0 e2 e3 hown hK hP hD hS (wr.length + i) (ap_get.trans hw) hc kf h2 (hts _ h3) (fun _ h9 => h9) hfin hty hv.1 hv.2 hl hd (fun H1 locs1 hP1 hD1 hS1 => ?_)
  rw [ap_set] at hP1 hD1
  exact k H1 locs1 ls hP1 hD1 hS1 hlv
theorem b_get {i ci kf idx a : Nat} {fs : List Value} {v : Value} {C : String} {T : u_T} {N : Nat} (hz : Bx own cc nL fr lo y) (hF : FOk own (idx, ci, kf)) (hw : w[i]? = some (a, .inr (ci, fs))) (hc : vwCl[ci]? = some (C, T, N)) (hv : fs[kf]? = some v) (hd : decode cc pc = .ok (.getfield idx, 3)) (k : Bw y (wr ++ w) cells slots (pc + 3) lv (v :: st)) : Bw y (wr ++ w) cells slots pc lv (.ref a :: st) := by
  obtain ⟨⟨l, D, cA, ad, A⟩, p, e, R, s, m, args, below, meth, c, QW⟩ := y
  obtain ⟨hx, hb, hml, hown, hts, hlk, hK, hA, hfr, hlo, hao⟩ := hz
  obtain ⟨C', T', N', h1, h2, h3⟩ := hF
  cases hc.symm.trans h1
  intro H locs ls hP hD hS hlv
  exact va_get (D := D) hx hb hts (vc_in ci C T N hc).1 hown hK hP (wr.length + i) (ap_get.trans hw) hc kf h2 (hts _ h3) (fun _ h9 => h9) hv hd (k H locs ls hP hD hS hlv)
theorem b_iast {i a n : Nat} {f f' : Nat → Int32} {j x : Int32} (hz : Bx own cc nL fr lo y) (hw : w[i]? = some (a, .inl (y.1.2.2.1.1, n, .inl f))) (hj : vp_in j n) (hf : upd f j.toNatClampNeg x = f') (hd : decode cc pc = .ok (.iastore, 1)) (k : Bw y (wr ++ w.set i (a, .inl (y.1.2.2.1.1, n, .inl f'))) cells slots (pc + 1) lv st) : Bw y (wr ++ w) cells slots pc lv (.int x :: .int j :: .ref a :: st) := by
  obtain ⟨⟨l, D, cA, ad, A⟩, p, e, R, s, m, args, below, meth, c, QW⟩ := y
  obtain ⟨hx, hb, hml, hown, hts, hlk, hK, hA, hfr, hlo, hao⟩ := hz
  intro H locs ls hP hD hS hlv
  refine va_iast hx hb hK hP hD hS (wr.length + i) 0 (ap_get.trans hw) rfl hj hd (fun H1 locs1 hP1 hD1 hS1 => ?_)
  rw [hf, ap_set] at hP1 hD1
  exact k H1 locs1 ls hP1 hD1 hS1 hlv
theorem b_new {ci idx : Nat} {C : String} {T : u_T} {N : Nat} {fs : List Value} (hz : Bx own cc nL fr lo y) (hc : vwCl[ci]? = some (C, T, N)) (ty : Nat → FieldType) (hty : ∀ k, k < N → parseFieldDescriptor (T k).2.2.1 = some (ty k)) (hL : Jvm.Cond.classLink own idx C ∈ gw_tbl ∧ Jvm.Cond.instantiable C N ∈ gw_tbl ∧ Jvm.Cond.initialized C ∈ gw_tbl) (hfs : ∀ j, j < N → defaultValue (ty j) = vp_V fs j) (hr : Br (cells + 1) (slots + N) y) (hd : decode cc pc = .ok (.new idx, 3)) (k : ∀ q, Bw y (wr ++ (w ++ [(q, .inr (ci, fs))])) (cells + 1) (slots + N) (pc + 3) lv (.ref q :: st)) : Bw y (wr ++ w) cells slots pc lv st := by
  obtain ⟨⟨l, D, cA, ad, A⟩, p, e, R, s, m, args, below, meth, c, QW⟩ := y
  obtain ⟨hx, hb, hml, hown, hts, hlk, hK, hA, hfr, hlo, hao⟩ := hz
  intro H locs ls hP hD hS hlv
  refine va_new hx hb hts (vc_in ci C T N hc).1 ty hty hown (hts _ hL.1) (hts _ hL.2.1) (hts _ hL.2.2) hK hP hD hS hA hc hfs hr.1 hr.2 hd (fun q H1 hP1 hD1 hS1 => ?_)
  rw [List.append_assoc] at hP1 hD1
  exact k q H1 locs ls hP1 hD1 hS1 hlv
theorem b_iload {f : Fin 4} {i j : Nat} {a : Int32} (hz : Bx own cc nL fr lo y) (hf : (f : Nat) = i) (hv : lv[j]? = some (i, .int a)) (hd : decode cc pc = .ok (.iload_n f, 1)) (k : Bw y (wr ++ w) cells slots (pc + 1) lv (.int a :: st)) : Bw y (wr ++ w) cells slots pc lv st := by
  obtain ⟨⟨l, D, cA, ad, A⟩, p, e, R, s, m, args, below, meth, c, QW⟩ := y
  obtain ⟨hx, hb, hml, hown, hts, hlk, hK, hA, hfr, hlo, hao⟩ := hz
  intro H locs ls hP hD hS hl
  exact lv_iload_n hx hb hd hf (lv_at hl j hv) (k H locs ls hP hD hS hl)
theorem b_istore {f : Fin 4} {i : Nat} {a : Int32} {lv' : List (Nat × Value)} (hz : Bx own cc nL fr lo y) (hf : (f : Nat) = i) (hi : i < nL) (hl' : (i, Value.int a) :: lv.filter (fun q => !(q.1 == i) && !(q.1 + 1 == i && q.2.category == 2)) = lv') (hd : decode cc pc = .ok (.istore_n f, 1)) (k : Bw y (wr ++ w) cells slots (pc + 1) lv' st) : Bw y (wr ++ w) cells slots pc lv (.int a :: st) := by
  obtain ⟨⟨l, D, cA, ad, A⟩, p, e, R, s, m, args, below, meth, c, QW⟩ := y
  obtain ⟨hx, hb, hml, hown, hts, hlk, hK, hA, hfr, hlo, hao⟩ := hz
  intro H locs ls hP hD hS hl
  exact lv_istore_n hx hb hd hf hl (by rw [hml]; exact hi) hl' (fun ls2 hl2 => k H locs ls2 hP hD hS hl2)
theorem b_astore {f : Fin 4} {i : Nat} {a : Nat} {lv' : List (Nat × Value)} (hz : Bx own cc nL fr lo y) (hf : (f : Nat) = i) (hi : i < nL) (hl' : (i, Value.ref a) :: lv.filter (fun q => !(q.1 == i) && !(q.1 + 1 == i && q.2.category == 2)) = lv') (hd : decode cc pc = .ok (.astore_n f, 1)) (k : Bw y (wr ++ w) cells slots (pc + 1) lv' st) : Bw y (wr ++ w) cells slots pc lv (.ref a :: st) := by
  obtain ⟨⟨l, D, cA, ad, A⟩, p, e, R, s, m, args, below, meth, c, QW⟩ := y
  obtain ⟨hx, hb, hml, hown, hts, hlk, hK, hA, hfr, hlo, hao⟩ := hz
  intro H locs ls hP hD hS hl
  exact lv_astore_n hx hb hd hf hl (by rw [hml]; exact hi) hl' (fun ls2 hl2 => k H locs ls2 hP hD hS hl2)
theorem b_iinc {i k : Nat} {n : Int} {x v : Int32} {lv' : List (Nat × Value)} (hz : Bx own cc nL fr lo y) (hk : lv[k]? = some (i, .int x)) (hv : x + Int32.ofInt n = v) (hi : i < nL) (hl' : (i, Value.int v) :: lv.filter (fun q => !(q.1 == i) && !(q.1 + 1 == i && q.2.category == 2)) = lv') (hd : decode cc pc = .ok (.iinc i n, 3)) (kk : Bw y (wr ++ w) cells slots (pc + 3) lv' st) : Bw y (wr ++ w) cells slots pc lv st := by
  obtain ⟨⟨l, D, cA, ad, A⟩, p, e, R, s, m, args, below, meth, c, QW⟩ := y
  obtain ⟨hx, hb, hml, hown, hts, hlk, hK, hA, hfr, hlo, hao⟩ := hz
  intro H locs ls hP hD hS hl
  exact lv_iinc hx hb hd hl hk hv (by rw [hml]; exact hi) hl' (fun ls2 hl2 => kk H locs ls2 hP hD hS hl2)
theorem b_goto {off : Int} {t : Nat} (hz : Bx own cc nL fr lo y) (ht : (pc : Int) + off = (t : Int)) (hd : decode cc pc = .ok (.goto off, 3)) (k : Bw y (wr ++ w) cells slots t lv st) : Bw y (wr ++ w) cells slots pc lv st := by
  obtain ⟨⟨l, D, cA, ad, A⟩, p, e, R, s, m, args, below, meth, c, QW⟩ := y
  obtain ⟨hx, hb, hml, hown, hts, hlk, hK, hA, hfr, hlo, hao⟩ := hz
  intro H locs ls hP hD hS hl
  exact lv_goto hx hb hd ht (k H locs ls hP hD hS hl)
theorem b_icmpT {off : Int} {t : Nat} {a b : Int32} (hz : Bx own cc nL fr lo y) (ht : (pc : Int) + off = (t : Int)) (h : b ≤ a) (hd : decode cc pc = .ok (.if_icmp .ge off, 3)) (k : Bw y (wr ++ w) cells slots t lv st) : Bw y (wr ++ w) cells slots pc lv (.int b :: .int a :: st) := by
  obtain ⟨⟨l, D, cA, ad, A⟩, p, e, R, s, m, args, below, meth, c, QW⟩ := y
  obtain ⟨hx, hb, hml, hown, hts, hlk, hK, hA, hfr, hlo, hao⟩ := hz
  intro H locs ls hP hD hS hl
  exact lv_icmp_ge hx hb hd ht (fun _ => k H locs ls hP hD hS hl) (fun h9 => absurd h h9)
theorem b_icmpF {off : Int} {t : Nat} {a b : Int32} (hz : Bx own cc nL fr lo y) (ht : (pc : Int) + off = (t : Int)) (h : ¬ b ≤ a) (hd : decode cc pc = .ok (.if_icmp .ge off, 3)) (k : Bw y (wr ++ w) cells slots (pc + 3) lv st) : Bw y (wr ++ w) cells slots pc lv (.int b :: .int a :: st) := by
  obtain ⟨⟨l, D, cA, ad, A⟩, p, e, R, s, m, args, below, meth, c, QW⟩ := y
  obtain ⟨hx, hb, hml, hown, hts, hlk, hK, hA, hfr, hlo, hao⟩ := hz
  intro H locs ls hP hD hS hl
  exact lv_icmp_ge hx hb hd ht (fun h9 => absurd h9 h) (fun _ => k H locs ls hP hD hS hl)
theorem ty_obj {D : va_G} {tys : List (ClassId × FieldType)} {s : State} {c1 c2 : ClassId} {C : String} (hK : va_K D vwCl tys s) {i j : Nat} (h1 : tys[i]? = some (c1, .object C)) (h2 : tys[j]? = some (c2, .object C)) : c1 = c2 := by
  obtain ⟨k1, p1, -, -, -, e1⟩ := (hK.2 i _ h1).2
  obtain ⟨k2, p2, -, -, -, e2⟩ := (hK.2 j _ h2).2
  exact Option.some.inj (e1.symm.trans e2)
theorem b_newq {n : Int32} {N idx : Nat} (hz : Bx own cc nL fr lo y) (hN : n.toNatClampNeg = N) (hn : ¬ n < 0) (hs : N * 4 ≤ 536870912) (hr : Br (cells + 1) (slots + N) y) (hc : Jvm.Cond.classLink own idx "RoadTrace$State" ∈ gw_tbl) (hd : decode cc pc = .ok (.anewarray idx, 3)) (k : ∀ q, Bw y (wr ++ (w ++ [(q, .inl (y.1.2.2.1.2.2, N, .inr (.inr (.inr (.inr (fun _ => none))))))])) (cells + 1) (slots + N) (pc + 3) lv (.ref q :: st)) : Bw y (wr ++ w) cells slots pc lv (.int n :: st) := by
  obtain ⟨⟨l, D, cA, ad, A⟩, p, e, R, s, m, args, below, meth, c, QW⟩ := y
  obtain ⟨hx, hb, hml, hown, hts, hlk, hK, hA, hfr, hlo, hao⟩ := hz
  intro H locs ls hP hD hS hl
  refine va_newq hx hb hown (hts _ hc) hao hK hP hD hS hA hn hN hs hr.1 hr.2 hd (fun q c2 H1 hK1 hP1 hD1 hS1 => ?_)
  have e := ty_obj hK1 (i := 3) (j := 2) rfl rfl
  subst e
  rw [List.append_assoc] at hP1 hD1
  exact k q H1 locs ls hP1 hD1 hS1 hl
theorem b_astq {i iv a n v : Nat} {vs : List Value} {f f' : Nat → Option Nat} {j : Int32} (hz : Bx own cc nL fr lo y) (hw : w[i]? = some (a, .inl (y.1.2.2.1.2.2, n, .inr (.inr (.inr (.inr f)))))) (hw2 : w[iv]? = some (v, .inr (2, vs))) (hj : vp_in j n) (hf : va_up f j.toNatClampNeg (some v) = f') (hd : decode cc pc = .ok (.aastore, 1)) (k : Bw y (wr ++ w.set i (a, .inl (y.1.2.2.1.2.2, n, .inr (.inr (.inr (.inr f')))))) cells slots (pc + 1) lv st) : Bw y (wr ++ w) cells slots pc lv (.ref v :: .int j :: .ref a :: st) := by
  obtain ⟨⟨l, D, cA, ad, A⟩, p, e, R, s, m, args, below, meth, c, QW⟩ := y
  obtain ⟨hx, hb, hml, hown, hts, hlk, hK, hA, hfr, hlo, hao⟩ := hz
  intro H locs ls hP hD hS hlv
  refine va_astq hx hb hK hP hD hS (wr.length + i) 2 (wr.length + iv) 2 (r := (RX2, TX2, 4)) (ap_get.trans hw) rfl (ap_get.trans hw2) rfl hj hd (fun H1 locs1 hP1 hD1 hS1 => ?_)
  rw [hf, ap_set] at hP1 hD1
  exact k H1 locs1 ls hP1 hD1 hS1 hlv
/-- a constructor's contract: its own blank cell at the end of the world; behind it the cells that it made -/
def QcN (D : va_G) (A : Nat → Prop) (post : va_W → Prop) : Array Value → State → Outcome → State → Prop := fun _ st oc t => (oc = .returned none ∧ ∃ ws, post ws ∧ va_P D vwCl ws t.heap ∧ va_D A ws) ∧ va_F A st t
def PcN (D : va_G) (cA : Ca) (A : Nat → Prop) (as : List Value) (ws : va_W) : Array Value → State → Prop := va_Pc as (fun U => va_P D vwCl ws U.heap ∧ va_K D vwCl (tysW cA) U ∧ va_D A ws ∧ (∀ x, U.heap.size ≤ x → A x) ∧ va_AO "RoadTrace$State" U)
def Cn (g : Gx) (yn : MethodName) (cc : ByteArray) (nL fr lo mc ms : Nat) (as : List Value) (ws : va_W) (post : va_W → Prop) : Prop := Met g.1 yn (Jvm.Cond.code yn cc nL none :: gw_tbl) { frames := fr, cells := mc, slots := ms, locals := lo } (PcN g.2.1 g.2.2.1 g.2.2.2.2 as ws) (QcN g.2.1 g.2.2.2.2 post) mc ms g.2.2.2.2
def BRt (post : va_W → Prop) (mc ms : Nat) : Yx → Prop
  | ((_, D, _, _, A), _, _, _, s, _, args, below, meth, _, QW) => meth.sig.returnType = none ∧ QW = MQ below (QcN D A post) args s mc ms A
theorem b_vret {post : va_W → Prop} {ws : va_W} (hz : Bx own cc nL fr lo y) (hR : BRt post cells slots y) (hp : post ws) (hd : decode cc pc = .ok (.return_, 1)) : Bw y ws cells slots pc lv [] := by
  obtain ⟨⟨l, D, cA, ad, A⟩, p, e, R, s, m, args, below, meth, c, QW⟩ := y
  obtain ⟨hx, hb, hml, hown, hts, hlk, hK, hA, hfr, hlo, hao⟩ := hz
  obtain ⟨hr, rfl⟩ := hR
  intro H locs ls hP hD hS hlv
  exact W.vret hx hb hr (fun t ht hW => ⟨⟨rfl, ws, hp, by rw [ht]; exact hP, hD⟩, hS.F ht⟩) hS.2.2 hd hlk
theorem n_of {g : Gx} {yn : MethodName} {mc ms : Nat} {as : List Value} {ws : va_W} {post : va_W → Prop} (hq : plainName yn.cls = true ∧ own = yn.cls ∧ yn.name = "<init>") (hn : (lg_sl as).length ≤ nL) (h : ∀ y : Yx, y.1 = g → Bx own cc nL fr lo y → Bn y → Br mc ms y → BRt post mc ms y → Bw y ws 0 0 0 (lv_args 0 as) []) : Cn g yn cc nL fr lo mc ms as ws post := by
  obtain ⟨l, D, cA, ad, A⟩ := g
  refine Met.ofW (cc := cc) (maxL := nL) (ret := none) hq.1 rfl ?_
  intro p e s m args below meth c s₁ B hml hv
  obtain ⟨rfl, hP, hK, hD, hA, hao⟩ := hv
  have hts : ∀ w ∈ gw_tbl, w.before as.toArray s = true := fun w hw => atoms_spec (ws := Jvm.Cond.code yn cc nL none :: gw_tbl) B.pre w (List.mem_cons_of_mem _ hw)
  have hown : s.vm.findClass own = some m.cls := by rw [hq.2.1]; exact findClass_of_methodNamed B.named
  have hin : meth.name = "<init>" := ((name_of_methodNamed B.named B.method).1).trans hq.2.2
  have hl := lv_entry as (n := nL) hn
  rw [lg_entry_eq]
  exact h ((l, D, cA, ad, A), p, e, _, s, m, _, below, meth, c, _) rfl ⟨B.exec, B.bytes, hml, hown, hts, B.notSynchronized, hK, hA, Nat.le_refl _, Nat.le_refl _, hao⟩ hin ⟨Nat.le_refl _, Nat.le_refl _⟩ ⟨B.returns, rfl⟩ s.heap [] _ hP hD va_S.rf (by rw [hml]; exact hl)
theorem b_call {yn : MethodName} {c2 : ByteArray} {nL2 fr2 lo2 mc ms idx a : Nat} {as : List Value} {e0 : va_E} {post : va_W → Prop} (hz : Bx own cc nL fr lo y) (hC : Cn y.1 yn c2 nL2 fr2 lo2 mc ms (.ref a :: as) ((wr ++ w) ++ [(a, e0)]) post) (hq : Jvm.Cond.code yn c2 nL2 none ∈ gw_tbl ∧ Jvm.Cond.initialized yn.cls ∈ gw_tbl ∧ Jvm.Cond.methodLink own idx yn ∈ gw_tbl ∧ Jvm.Cond.instanceMethod yn ∈ gw_tbl ∧ yn.name = "<init>" ∧ yn.cls ≠ "java/lang/invoke/MethodHandle" ∧ yn.cls ≠ "java/lang/invoke/VarHandle") (n k0 : Nat) (hn : ((parseMethodDescriptor yn.desc).map (fun d => d.parameters.length) = some n) ∧ fr2 + 1 ≤ fr ∧ 8 + (nL2 + 11) + lo2 ≤ lo ∧ k0 ≤ 8) (h1n : as.length = n) (h2n : (st.map fun v => v.category).sum = k0) (hr : Br (cells + mc) (slots + ms) y) (hd : decode cc pc = .ok (.invokespecial idx, 3))
    (k : ∀ ws, post ws → Bw y ws (cells + mc) (slots + ms) (pc + 3) lv st) : Bw y (wr ++ (w ++ [(a, e0)])) cells slots pc lv (as.reverse ++ .ref a :: st) := by
  obtain ⟨⟨l, D, cA, ad, A⟩, p, e, R, s, m, args, below, meth, c, QW⟩ := y
  obtain ⟨hx, hb, hml, hown, hts, hlk, hK, hA, hfr, hlo, hao⟩ := hz
  obtain ⟨g4, g5, gl, gi, gn, g8, g9⟩ := hq
  intro H locs ls hP hD hS hlv
  rw [← List.append_assoc] at hP hD
  have hgood : GoodIn gw_tbl (Jvm.Cond.code yn c2 nL2 none :: gw_tbl) := by
    intro x hx
    rcases List.mem_cons.mp hx with rfl | h
    · exact gw_good _ g4
    · exact gw_good _ h
  have hbl : FrameBlind (PcN D cA A (.ref a :: as) ((wr ++ w) ++ [(a, e0)])) := by
    intro b U g mk h
    obtain ⟨h1, h2, h3, h4, h5, h6⟩ := h
    exact ⟨h1, h2, va_K.moved (u := U) (U := U.calling g mk b) (Vm.Alike.refl U.vm) h3, h4, h5, va_AO.moved (u := U) (U := U.calling g mk b) (Vm.Alike.refl U.vm) h6⟩
  have run := va_runI (As := as) (rest := st) (b := a) (g := F0 m pc ls (as.reverse ++ .ref a :: st)) (locs := locs) (cells := cells) (slots := slots) (below := below) (meth := meth) (e := e) ⟨hx, hb, hml, hown, hts⟩ hC ⟨⟨rfl, rfl, Nat.le_trans hn.2.1 hfr, Nat.le_trans hn.2.2.1 hlo, pay_in hts hgood, List.mem_cons_self, hts _ g4, hts _ g5, ⟨g8, g9⟩, fun sig h => by have h2 := hn.1; rw [h] at h2; exact (Option.some.inj h2).symm, hts _ gl⟩, gn, hts _ gi⟩ ⟨hbl, fun U hU hW => ⟨rfl, by rw [hU]; exact hP, va_K.moved hW.alike hK, hD, fun x hx2 => hA x (Nat.le_trans hS.1 (by rw [← hU]; exact hx2)), hao.moved hW.alike⟩⟩ rfl h1n (hlv.1.trans hml) rfl (lv_room (by rw [h2n]; exact hn.2.2.2)) hd hr
  intro T hT X
  obtain ⟨v, st₀, t, T', L, h0, X', hL, e1, e2, ⟨⟨hv, ws, hp, hP', hD'⟩, hz1, hk⟩, sg⟩ := run T hT X
  rw [h0] at hz1 hk
  cases hv
  obtain ⟨t2, a1, b1⟩ := k ws hp T'.heap (locs ++ L) ls (by rw [e1]; exact hP') hD' ⟨Nat.le_trans hS.1 (by rw [e1]; exact hz1), fun x h1 h2 => by rw [e1, hk x (Nat.lt_of_lt_of_le h1 hS.1) h2]; exact hS.2.1 x h1 h2, fun x hx => by
      rcases List.mem_append.mp hx with h | h
      · exact hS.2.2 x h
      · exact hL x h⟩ hlv T' rfl X'
  exact ⟨t2, sg t2 a1, b1⟩
end BRULES
end
section
/-! THE CONSTRUCTORS: what each lays -/
def rl0 : Nat → Int32 := upd (upd (upd (upd (fun _ => 0) 0 4) 1 1) 2 1) 3 40
def netW (cA : Ca) (a : Nat → Nat) : va_W := [((a 0), .inr (0, [.int 0, .int 0, .ref (a 1), .ref (a 2), .ref (a 3), .ref (a 4), .ref (a 5), .ref (a 6), .ref (a 7)])), ((a 1), .inl (cA.1, 12, .inl (fun _ => 0))), ((a 2), .inl (cA.1, 12, .inl (fun _ => 0))), ((a 3), .inl (cA.1, 20, .inl (fun _ => 0))), ((a 4), .inl (cA.1, 20, .inl (fun _ => 0))), ((a 5), .inl (cA.1, 20, .inl (fun _ => 0))), ((a 6), .inl (cA.1, 20, .inl (fun _ => 0))), ((a 7), .inl (cA.1, 144, .inl (fun _ => 0)))]
def rulesW (cA : Ca) (a : Nat → Nat) : va_W := [((a 0), .inr (1, [.ref (a 1)])), ((a 1), .inl (cA.1, 4, .inl rl0))]
def traceW (cA : Ca) (n r : Nat) (a : Nat → Nat) : va_W := [((a 0), .inr (3, [.ref n, .ref r, .int 0, .ref (a 1), .ref (a 2), .ref (a 3), .ref (a 4), .ref (a 5), .ref (a 6), .ref (a 7), .ref (a 8), .ref (a 9), .ref (a 10), .ref (a 11)])), ((a 1), .inl (cA.1, 16, .inl (fun _ => 0))), ((a 2), .inl (cA.1, 16, .inl (fun _ => 0))), ((a 3), .inl (cA.1, 16, .inl (fun _ => 0))), ((a 4), .inl (cA.1, 16, .inl (fun _ => 0))), ((a 5), .inl (cA.1, 16, .inl (fun _ => 0))), ((a 6), .inl (cA.1, 320, .inl (fun _ => 0))), ((a 7), .inl (cA.1, 320, .inl (fun _ => 0))), ((a 8), .inl (cA.1, 320, .inl (fun _ => 0))), ((a 9), .inl (cA.1, 320, .inl (fun _ => 0))), ((a 10), .inl (cA.1, 16, .inl (fun _ => 0))), ((a 11), .inl (cA.2.1, 16, .inl (fun _ => 0)))]
def stateW (cA : Ca) (a : Nat → Nat) : va_W := [((a 0), .inr (2, [.ref (a 1), .ref (a 9), .ref (a 11), .int 0])), ((a 1), .inr (0, [.int 0, .int 0, .ref (a 2), .ref (a 3), .ref (a 4), .ref (a 5), .ref (a 6), .ref (a 7), .ref (a 8)])), ((a 2), .inl (cA.1, 12, .inl (fun _ => 0))), ((a 3), .inl (cA.1, 12, .inl (fun _ => 0))), ((a 4), .inl (cA.1, 20, .inl (fun _ => 0))), ((a 5), .inl (cA.1, 20, .inl (fun _ => 0))), ((a 6), .inl (cA.1, 20, .inl (fun _ => 0))), ((a 7), .inl (cA.1, 20, .inl (fun _ => 0))), ((a 8), .inl (cA.1, 144, .inl (fun _ => 0))), ((a 9), .inr (1, [.ref (a 10)])), ((a 10), .inl (cA.1, 4, .inl rl0)), ((a 11), .inr (3, [.ref (a 1), .ref (a 9), .int 0, .ref (a 12), .ref (a 13), .ref (a 14), .ref (a 15), .ref (a 16), .ref (a 17), .ref (a 18), .ref (a 19), .ref (a 20), .ref (a 21), .ref (a 22)])), ((a 12), .inl (cA.1, 16, .inl (fun _ => 0))), ((a 13), .inl (cA.1, 16, .inl (fun _ => 0))), ((a 14), .inl (cA.1, 16, .inl (fun _ => 0))), ((a 15), .inl (cA.1, 16, .inl (fun _ => 0))), ((a 16), .inl (cA.1, 16, .inl (fun _ => 0))), ((a 17), .inl (cA.1, 320, .inl (fun _ => 0))), ((a 18), .inl (cA.1, 320, .inl (fun _ => 0))), ((a 19), .inl (cA.1, 320, .inl (fun _ => 0))), ((a 20), .inl (cA.1, 320, .inl (fun _ => 0))), ((a 21), .inl (cA.1, 16, .inl (fun _ => 0))), ((a 22), .inl (cA.2.1, 16, .inl (fun _ => 0)))]
def modelW (cA : Ca) (a : Nat → Nat) : va_W := [((a 0), .inr (5, [.ref (a 1), .ref (a 2), .int 0, .ref (a 3), .ref (a 4), .ref (a 5), .int 0, .ref (a 6), .ref (a 7), .ref (a 8), .int 0, .ref (a 9), .ref (a 10), .ref (a 11), .ref (a 12), .ref (a 13), .ref (a 14), .ref (a 15), .ref (a 16), .ref (a 17), .int 0, .ref (a 18), .ref (a 19)])), ((a 1), .inl (cA.1, 12, .inl (fun _ => 0))), ((a 2), .inl (cA.1, 12, .inl (fun _ => 0))), ((a 3), .inl (cA.1, 20, .inl (fun _ => 0))), ((a 4), .inl (cA.1, 20, .inl (fun _ => 0))), ((a 5), .inl (cA.1, 20, .inl (fun _ => 0))), ((a 6), .inl (cA.1, 4, .inl rl0)), ((a 7), .inl (cA.1, 16, .inl (fun _ => 0))), ((a 8), .inl (cA.1, 16, .inl (fun _ => 0))), ((a 9), .inl (cA.1, 144, .inl (fun _ => 0))), ((a 10), .inl (cA.1, 320, .inl (fun _ => 0))), ((a 11), .inl (cA.1, 320, .inl (fun _ => 0))), ((a 12), .inl (cA.1, 320, .inl (fun _ => 0))), ((a 13), .inl (cA.1, 320, .inl (fun _ => 0))), ((a 14), .inl (cA.1, 16, .inl (fun _ => 0))), ((a 15), .inl (cA.1, 16, .inl (fun _ => 0))), ((a 16), .inl (cA.1, 16, .inl (fun _ => 0))), ((a 17), .inl (cA.1, 16, .inl (fun _ => 0))), ((a 18), .inl (cA.1, 260, .inl (fun _ => 0))), ((a 19), .inl (cA.2.1, 2, .inl (fun _ => 0)))]
def roadW (cA : Ca) (a : Nat → Nat) : va_W := [((a 0), .inr (4, [.ref (a 1), .ref (a 24)])), ((a 1), .inr (2, [.ref (a 2), .ref (a 10), .ref (a 12), .int 0])), ((a 2), .inr (0, [.int 0, .int 0, .ref (a 3), .ref (a 4), .ref (a 5), .ref (a 6), .ref (a 7), .ref (a 8), .ref (a 9)])), ((a 3), .inl (cA.1, 12, .inl (fun _ => 0))), ((a 4), .inl (cA.1, 12, .inl (fun _ => 0))), ((a 5), .inl (cA.1, 20, .inl (fun _ => 0))), ((a 6), .inl (cA.1, 20, .inl (fun _ => 0))), ((a 7), .inl (cA.1, 20, .inl (fun _ => 0))), ((a 8), .inl (cA.1, 20, .inl (fun _ => 0))), ((a 9), .inl (cA.1, 144, .inl (fun _ => 0))), ((a 10), .inr (1, [.ref (a 11)])), ((a 11), .inl (cA.1, 4, .inl rl0)), ((a 12), .inr (3, [.ref (a 2), .ref (a 10), .int 0, .ref (a 13), .ref (a 14), .ref (a 15), .ref (a 16), .ref (a 17), .ref (a 18), .ref (a 19), .ref (a 20), .ref (a 21), .ref (a 22), .ref (a 23)])), ((a 13), .inl (cA.1, 16, .inl (fun _ => 0))), ((a 14), .inl (cA.1, 16, .inl (fun _ => 0))), ((a 15), .inl (cA.1, 16, .inl (fun _ => 0))), ((a 16), .inl (cA.1, 16, .inl (fun _ => 0))), ((a 17), .inl (cA.1, 16, .inl (fun _ => 0))), ((a 18), .inl (cA.1, 320, .inl (fun _ => 0))), ((a 19), .inl (cA.1, 320, .inl (fun _ => 0))), ((a 20), .inl (cA.1, 320, .inl (fun _ => 0))), ((a 21), .inl (cA.1, 320, .inl (fun _ => 0))), ((a 22), .inl (cA.1, 16, .inl (fun _ => 0))), ((a 23), .inl (cA.2.1, 16, .inl (fun _ => 0))), ((a 24), .inl (cA.2.2, 2, .inr (.inr (.inr (.inr (va_up (va_up (fun _ => none) 0 (some (a 25))) 1 (some (a 48)))))))), ((a 25), .inr (2, [.ref (a 26), .ref (a 34), .ref (a 36), .int 0])), ((a 26), .inr (0, [.int 0, .int 0, .ref (a 27), .ref (a 28), .ref (a 29), .ref (a 30), .ref (a 31), .ref (a 32), .ref (a 33)])), ((a 27), .inl (cA.1, 12, .inl (fun _ => 0))), ((a 28), .inl (cA.1, 12, .inl (fun _ => 0))), ((a 29), .inl (cA.1, 20, .inl (fun _ => 0))), ((a 30), .inl (cA.1, 20, .inl (fun _ => 0))), ((a 31), .inl (cA.1, 20, .inl (fun _ => 0))), ((a 32), .inl (cA.1, 20, .inl (fun _ => 0))), ((a 33), .inl (cA.1, 144, .inl (fun _ => 0))), ((a 34), .inr (1, [.ref (a 35)])), ((a 35), .inl (cA.1, 4, .inl rl0)), ((a 36), .inr (3, [.ref (a 26), .ref (a 34), .int 0, .ref (a 37), .ref (a 38), .ref (a 39), .ref (a 40), .ref (a 41), .ref (a 42), .ref (a 43), .ref (a 44), .ref (a 45), .ref (a 46), .ref (a 47)])), ((a 37), .inl (cA.1, 16, .inl (fun _ => 0))), ((a 38), .inl (cA.1, 16, .inl (fun _ => 0))), ((a 39), .inl (cA.1, 16, .inl (fun _ => 0))), ((a 40), .inl (cA.1, 16, .inl (fun _ => 0))), ((a 41), .inl (cA.1, 16, .inl (fun _ => 0))), ((a 42), .inl (cA.1, 320, .inl (fun _ => 0))), ((a 43), .inl (cA.1, 320, .inl (fun _ => 0))), ((a 44), .inl (cA.1, 320, .inl (fun _ => 0))), ((a 45), .inl (cA.1, 320, .inl (fun _ => 0))), ((a 46), .inl (cA.1, 16, .inl (fun _ => 0))), ((a 47), .inl (cA.2.1, 16, .inl (fun _ => 0))), ((a 48), .inr (2, [.ref (a 49), .ref (a 57), .ref (a 59), .int 0])), ((a 49), .inr (0, [.int 0, .int 0, .ref (a 50), .ref (a 51), .ref (a 52), .ref (a 53), .ref (a 54), .ref (a 55), .ref (a 56)])), ((a 50), .inl (cA.1, 12, .inl (fun _ => 0))), ((a 51), .inl (cA.1, 12, .inl (fun _ => 0))), ((a 52), .inl (cA.1, 20, .inl (fun _ => 0))), ((a 53), .inl (cA.1, 20, .inl (fun _ => 0))), ((a 54), .inl (cA.1, 20, .inl (fun _ => 0))), ((a 55), .inl (cA.1, 20, .inl (fun _ => 0))), ((a 56), .inl (cA.1, 144, .inl (fun _ => 0))), ((a 57), .inr (1, [.ref (a 58)])), ((a 58), .inl (cA.1, 4, .inl rl0)), ((a 59), .inr (3, [.ref (a 49), .ref (a 57), .int 0, .ref (a 60), .ref (a 61), .ref (a 62), .ref (a 63), .ref (a 64), .ref (a 65), .ref (a 66), .ref (a 67), .ref (a 68), .ref (a 69), .ref (a 70)])), ((a 60), .inl (cA.1, 16, .inl (fun _ => 0))), ((a 61), .inl (cA.1, 16, .inl (fun _ => 0))), ((a 62), .inl (cA.1, 16, .inl (fun _ => 0))), ((a 63), .inl (cA.1, 16, .inl (fun _ => 0))), ((a 64), .inl (cA.1, 16, .inl (fun _ => 0))), ((a 65), .inl (cA.1, 320, .inl (fun _ => 0))), ((a 66), .inl (cA.1, 320, .inl (fun _ => 0))), ((a 67), .inl (cA.1, 320, .inl (fun _ => 0))), ((a 68), .inl (cA.1, 320, .inl (fun _ => 0))), ((a 69), .inl (cA.1, 16, .inl (fun _ => 0))), ((a 70), .inl (cA.2.1, 16, .inl (fun _ => 0)))]
theorem Br_le {C S C2 S2 : Nat} {y : Yx} (h : Br C S y) (h1 : C2 ≤ C) (h2 : S2 ≤ S) : Br C2 S2 y := by obtain ⟨g, p, e, R, r⟩ := y; exact ⟨Nat.le_trans h1 h.1, Nat.le_trans h2 h.2⟩
theorem tv2 : (Jvm.Cond.initialized "RoadTrace$State") ∈ gw_tbl := mg (i := 49) (by decide +kernel) (by decide +kernel)
theorem tv3 : (Jvm.Cond.initialized "RoadTrace$Net") ∈ gw_tbl := mg (i := 50) (by decide +kernel) (by decide +kernel)
theorem tv4 : (Jvm.Cond.initialized "RoadTrace$Rules") ∈ gw_tbl := mg (i := 51) (by decide +kernel) (by decide +kernel)
theorem tv5 : (Jvm.Cond.initialized "RoadTrace$Trace") ∈ gw_tbl := mg (i := 52) (by decide +kernel) (by decide +kernel)
theorem tv15 : (Jvm.Cond.methodLink "RoadTrace" (1 : Nat) ({ cls := "java/lang/Object", name := "<init>", desc := "()V" } : Jvm.MethodName)) ∈ gw_tbl := mg (i := 62) (by decide +kernel) (by decide +kernel)
theorem tv16 : (Jvm.Cond.instanceMethod ({ cls := "java/lang/Object", name := "<init>", desc := "()V" } : Jvm.MethodName)) ∈ gw_tbl := mg (i := 63) (by decide +kernel) (by decide +kernel)
theorem tv17 : (Jvm.Cond.code ({ cls := "java/lang/Object", name := "<init>", desc := "()V" } : Jvm.MethodName) object_method_1_code (1 : Nat) (Option.none : Option Jvm.ClassFile.FieldType)) ∈ gw_tbl := mg (i := 64) (by decide +kernel) (by decide +kernel)
theorem tv18 : (Jvm.Cond.classLink "RoadTrace" (7 : Nat) "RoadTrace$State") ∈ gw_tbl := mg (i := 65) (by decide +kernel) (by decide +kernel)
theorem tv19 : (Jvm.Cond.instantiable "RoadTrace$State" (4 : Nat)) ∈ gw_tbl := mg (i := 66) (by decide +kernel) (by decide +kernel)
theorem tv20 : (Jvm.Cond.methodLink "RoadTrace" (9 : Nat) ({ cls := "RoadTrace$State", name := "<init>", desc := "()V" } : Jvm.MethodName)) ∈ gw_tbl := mg (i := 67) (by decide +kernel) (by decide +kernel)
theorem tv21 : (Jvm.Cond.instanceMethod ({ cls := "RoadTrace$State", name := "<init>", desc := "()V" } : Jvm.MethodName)) ∈ gw_tbl := mg (i := 68) (by decide +kernel) (by decide +kernel)
theorem tv22 : (Jvm.Cond.code ({ cls := "RoadTrace$State", name := "<init>", desc := "()V" } : Jvm.MethodName) prog_4_method_1_code (1 : Nat) (Option.none : Option Jvm.ClassFile.FieldType)) ∈ gw_tbl := mg (i := 69) (by decide +kernel) (by decide +kernel)
theorem tv23 : (Jvm.Cond.methodLink "RoadTrace$State" (1 : Nat) ({ cls := "java/lang/Object", name := "<init>", desc := "()V" } : Jvm.MethodName)) ∈ gw_tbl := mg (i := 70) (by decide +kernel) (by decide +kernel)
theorem tv24 : (Jvm.Cond.classLink "RoadTrace$State" (7 : Nat) "RoadTrace$Net") ∈ gw_tbl := mg (i := 71) (by decide +kernel) (by decide +kernel)
theorem tv25 : (Jvm.Cond.instantiable "RoadTrace$Net" (9 : Nat)) ∈ gw_tbl := mg (i := 72) (by decide +kernel) (by decide +kernel)
theorem tv26 : (Jvm.Cond.methodLink "RoadTrace$State" (9 : Nat) ({ cls := "RoadTrace$Net", name := "<init>", desc := "()V" } : Jvm.MethodName)) ∈ gw_tbl := mg (i := 73) (by decide +kernel) (by decide +kernel)
theorem tv27 : (Jvm.Cond.instanceMethod ({ cls := "RoadTrace$Net", name := "<init>", desc := "()V" } : Jvm.MethodName)) ∈ gw_tbl := mg (i := 74) (by decide +kernel) (by decide +kernel)
theorem tv28 : (Jvm.Cond.code ({ cls := "RoadTrace$Net", name := "<init>", desc := "()V" } : Jvm.MethodName) prog_2_method_1_code (1 : Nat) (Option.none : Option Jvm.ClassFile.FieldType)) ∈ gw_tbl := mg (i := 75) (by decide +kernel) (by decide +kernel)
theorem tv29 : (Jvm.Cond.methodLink "RoadTrace$Net" (3 : Nat) ({ cls := "java/lang/Object", name := "<init>", desc := "()V" } : Jvm.MethodName)) ∈ gw_tbl := mg (i := 76) (by decide +kernel) (by decide +kernel)
theorem tv61 : (Jvm.Cond.arrayClass Jvm.ClassFile.FieldType.int) ∈ gw_tbl := mg (i := 108) (by decide +kernel) (by decide +kernel)
theorem tv62 : (Jvm.Cond.classLink "RoadTrace$State" (16 : Nat) "RoadTrace$Rules") ∈ gw_tbl := mg (i := 109) (by decide +kernel) (by decide +kernel)
theorem tv63 : (Jvm.Cond.instantiable "RoadTrace$Rules" (1 : Nat)) ∈ gw_tbl := mg (i := 110) (by decide +kernel) (by decide +kernel)
theorem tv64 : (Jvm.Cond.methodLink "RoadTrace$State" (18 : Nat) ({ cls := "RoadTrace$Rules", name := "<init>", desc := "()V" } : Jvm.MethodName)) ∈ gw_tbl := mg (i := 111) (by decide +kernel) (by decide +kernel)
theorem tv65 : (Jvm.Cond.instanceMethod ({ cls := "RoadTrace$Rules", name := "<init>", desc := "()V" } : Jvm.MethodName)) ∈ gw_tbl := mg (i := 112) (by decide +kernel) (by decide +kernel)
theorem tv66 : (Jvm.Cond.code ({ cls := "RoadTrace$Rules", name := "<init>", desc := "()V" } : Jvm.MethodName) prog_3_method_1_code (1 : Nat) (Option.none : Option Jvm.ClassFile.FieldType)) ∈ gw_tbl := mg (i := 113) (by decide +kernel) (by decide +kernel)
theorem tv67 : (Jvm.Cond.methodLink "RoadTrace$Rules" (3 : Nat) ({ cls := "java/lang/Object", name := "<init>", desc := "()V" } : Jvm.MethodName)) ∈ gw_tbl := mg (i := 114) (by decide +kernel) (by decide +kernel)
theorem tv73 : (Jvm.Cond.classLink "RoadTrace$State" (23 : Nat) "RoadTrace$Trace") ∈ gw_tbl := mg (i := 120) (by decide +kernel) (by decide +kernel)
theorem tv74 : (Jvm.Cond.instantiable "RoadTrace$Trace" (14 : Nat)) ∈ gw_tbl := mg (i := 121) (by decide +kernel) (by decide +kernel)
theorem tv75 : (Jvm.Cond.methodLink "RoadTrace$State" (25 : Nat) ({ cls := "RoadTrace$Trace", name := "<init>", desc := "(LRoadTrace$Net;LRoadTrace$Rules;)V" } : Jvm.MethodName)) ∈ gw_tbl := mg (i := 122) (by decide +kernel) (by decide +kernel)
theorem tv76 : (Jvm.Cond.instanceMethod ({ cls := "RoadTrace$Trace", name := "<init>", desc := "(LRoadTrace$Net;LRoadTrace$Rules;)V" } : Jvm.MethodName)) ∈ gw_tbl := mg (i := 123) (by decide +kernel) (by decide +kernel)
theorem tv77 : (Jvm.Cond.code ({ cls := "RoadTrace$Trace", name := "<init>", desc := "(LRoadTrace$Net;LRoadTrace$Rules;)V" } : Jvm.MethodName) prog_5_method_1_code (3 : Nat) (Option.none : Option Jvm.ClassFile.FieldType)) ∈ gw_tbl := mg (i := 124) (by decide +kernel) (by decide +kernel)
theorem tv78 : (Jvm.Cond.methodLink "RoadTrace$Trace" (3 : Nat) ({ cls := "java/lang/Object", name := "<init>", desc := "()V" } : Jvm.MethodName)) ∈ gw_tbl := mg (i := 125) (by decide +kernel) (by decide +kernel)
theorem tv126 : (Jvm.Cond.arrayClass Jvm.ClassFile.FieldType.boolean) ∈ gw_tbl := mg (i := 173) (by decide +kernel) (by decide +kernel)
theorem tv529 : (Jvm.Cond.methodLink "RoadTraceModel" (1 : Nat) ({ cls := "java/lang/Object", name := "<init>", desc := "()V" } : Jvm.MethodName)) ∈ gw_tbl := mg (i := 576) (by decide +kernel) (by decide +kernel)
theorem eX0_init_0 : decode prog_2_method_1_code 0 = .ok (.aload_n 0, 1) := by decide +kernel
theorem eX0_init_1 : decode prog_2_method_1_code 1 = .ok (.invokespecial 3, 3) := by decide +kernel
theorem eX0_init_4 : decode prog_2_method_1_code 4 = .ok (.aload_n 0, 1) := by decide +kernel
theorem eX0_init_5 : decode prog_2_method_1_code 5 = .ok (.bipush 12, 2) := by decide +kernel
theorem eX0_init_7 : decode prog_2_method_1_code 7 = .ok (.newarray .int, 2) := by decide +kernel
theorem eX0_init_9 : decode prog_2_method_1_code 9 = .ok (.putfield 9, 3) := by decide +kernel
theorem eX0_init_12 : decode prog_2_method_1_code 12 = .ok (.aload_n 0, 1) := by decide +kernel
theorem eX0_init_13 : decode prog_2_method_1_code 13 = .ok (.bipush 12, 2) := by decide +kernel
theorem eX0_init_15 : decode prog_2_method_1_code 15 = .ok (.newarray .int, 2) := by decide +kernel
theorem eX0_init_17 : decode prog_2_method_1_code 17 = .ok (.putfield 15, 3) := by decide +kernel
theorem eX0_init_20 : decode prog_2_method_1_code 20 = .ok (.aload_n 0, 1) := by decide +kernel
theorem eX0_init_21 : decode prog_2_method_1_code 21 = .ok (.bipush 20, 2) := by decide +kernel
theorem eX0_init_23 : decode prog_2_method_1_code 23 = .ok (.newarray .int, 2) := by decide +kernel
theorem eX0_init_25 : decode prog_2_method_1_code 25 = .ok (.putfield 18, 3) := by decide +kernel
theorem eX0_init_28 : decode prog_2_method_1_code 28 = .ok (.aload_n 0, 1) := by decide +kernel
theorem eX0_init_29 : decode prog_2_method_1_code 29 = .ok (.bipush 20, 2) := by decide +kernel
theorem eX0_init_31 : decode prog_2_method_1_code 31 = .ok (.newarray .int, 2) := by decide +kernel
theorem eX0_init_33 : decode prog_2_method_1_code 33 = .ok (.putfield 21, 3) := by decide +kernel
theorem eX0_init_36 : decode prog_2_method_1_code 36 = .ok (.aload_n 0, 1) := by decide +kernel
theorem eX0_init_37 : decode prog_2_method_1_code 37 = .ok (.bipush 20, 2) := by decide +kernel
theorem eX0_init_39 : decode prog_2_method_1_code 39 = .ok (.newarray .int, 2) := by decide +kernel
theorem eX0_init_41 : decode prog_2_method_1_code 41 = .ok (.putfield 24, 3) := by decide +kernel
theorem eX0_init_44 : decode prog_2_method_1_code 44 = .ok (.aload_n 0, 1) := by decide +kernel
theorem eX0_init_45 : decode prog_2_method_1_code 45 = .ok (.bipush 20, 2) := by decide +kernel
theorem eX0_init_47 : decode prog_2_method_1_code 47 = .ok (.newarray .int, 2) := by decide +kernel
theorem eX0_init_49 : decode prog_2_method_1_code 49 = .ok (.putfield 27, 3) := by decide +kernel
theorem eX0_init_52 : decode prog_2_method_1_code 52 = .ok (.aload_n 0, 1) := by decide +kernel
theorem eX0_init_53 : decode prog_2_method_1_code 53 = .ok (.sipush 144, 3) := by decide +kernel
theorem eX0_init_56 : decode prog_2_method_1_code 56 = .ok (.newarray .int, 2) := by decide +kernel
theorem eX0_init_58 : decode prog_2_method_1_code 58 = .ok (.putfield 30, 3) := by decide +kernel
theorem eX0_init_61 : decode prog_2_method_1_code 61 = .ok (.return_, 1) := by decide +kernel
def yX0_init : MethodName := ⟨RX0, "<init>", "()V"⟩
set_option maxRecDepth 100000 in
set_option maxHeartbeats 4000000 in
theorem cX0_init (g : Gx) (h0 : Nat) (wr : va_W) : Cn g yX0_init prog_2_method_1_code 1 1 12 7 248 [.ref h0] (wr ++ [(h0, .inr (0, [.int 0, .int 0, .null, .null, .null, .null, .null, .null, .null]))]) (fun ws => ∃ a : Nat → Nat, a 0 = h0 ∧ ws = wr ++ netW g.2.2.1 a) := by
  refine n_of ⟨by decide +kernel, rfl, rfl⟩ (Nat.le_of_ble_eq_true rfl) (fun y hg hz hn hr hR => ?_)
  obtain ⟨⟨l, D, cA, ad, A⟩, y2⟩ := y
  subst hg
  refine b_aload hz rfl (j := 0) rfl eX0_init_0 ?_
  refine b_object hz ⟨tv29, tv16, tv17⟩ (by decide) eX0_init_1 ?_
  show Bw ((l, D, cA, ad, A), y2) (wr ++ [(h0, .inr (0, [.int 0, .int 0, .null, .null, .null, .null, .null, .null, .null]))]) 0 0 4 [(0, .ref h0)] []
  refine b_aload hz rfl (j := 0) rfl eX0_init_4 ?_
  refine b_bipush (x := 12) hz (by decide) eX0_init_5 ?_
  refine b_newaI (N := 12) hz (by decide) (by decide) (by decide) (Br_le hr (by decide) (by decide)) tv61 eX0_init_7 (fun q1 => ?_)
  show Bw ((l, D, cA, ad, A), y2) (wr ++ [(h0, .inr (0, [.int 0, .int 0, .null, .null, .null, .null, .null, .null, .null])), (q1, .inl (cA.1, 12, .inl (fun _ => 0)))]) 1 12 9 [(0, .ref h0)] [.ref q1, .ref h0]
  refine b_putF (i := 0) (kf := 2) (C := RX0) (T := TX0) (N := 9) (ty := .array .int) hz hn (flX0_ok _ (List.mem_of_getElem? (i := 0) rfl)) rfl rfl ⟨rfl, rfl⟩ (by decide +kernel) ⟨rfl, rfl⟩ (Nat.le_of_ble_eq_true rfl) eX0_init_9 ?_
  show Bw ((l, D, cA, ad, A), y2) (wr ++ [(h0, .inr (0, [.int 0, .int 0, .ref q1, .null, .null, .null, .null, .null, .null])), (q1, .inl (cA.1, 12, .inl (fun _ => 0)))]) 1 12 12 [(0, .ref h0)] []
  refine b_aload hz rfl (j := 0) rfl eX0_init_12 ?_
  refine b_bipush (x := 12) hz (by decide) eX0_init_13 ?_
  refine b_newaI (N := 12) hz (by decide) (by decide) (by decide) (Br_le hr (by decide) (by decide)) tv61 eX0_init_15 (fun q2 => ?_)
  show Bw ((l, D, cA, ad, A), y2) (wr ++ [(h0, .inr (0, [.int 0, .int 0, .ref q1, .null, .null, .null, .null, .null, .null])), (q1, .inl (cA.1, 12, .inl (fun _ => 0))), (q2, .inl (cA.1, 12, .inl (fun _ => 0)))]) 2 24 17 [(0, .ref h0)] [.ref q2, .ref h0]
  refine b_putF (i := 0) (kf := 3) (C := RX0) (T := TX0) (N := 9) (ty := .array .int) hz hn (flX0_ok _ (List.mem_of_getElem? (i := 1) rfl)) rfl rfl ⟨rfl, rfl⟩ (by decide +kernel) ⟨rfl, rfl⟩ (Nat.le_of_ble_eq_true rfl) eX0_init_17 ?_
  show Bw ((l, D, cA, ad, A), y2) (wr ++ [(h0, .inr (0, [.int 0, .int 0, .ref q1, .ref q2, .null, .null, .null, .null, .null])), (q1, .inl (cA.1, 12, .inl (fun _ => 0))), (q2, .inl (cA.1, 12, .inl (fun _ => 0)))]) 2 24 20 [(0, .ref h0)] []
  refine b_aload hz rfl (j := 0) rfl eX0_init_20 ?_
  refine b_bipush (x := 20) hz (by decide) eX0_init_21 ?_
  refine b_newaI (N := 20) hz (by decide) (by decide) (by decide) (Br_le hr (by decide) (by decide)) tv61 eX0_init_23 (fun q3 => ?_)
  show Bw ((l, D, cA, ad, A), y2) (wr ++ [(h0, .inr (0, [.int 0, .int 0, .ref q1, .ref q2, .null, .null, .null, .null, .null])), (q1, .inl (cA.1, 12, .inl (fun _ => 0))), (q2, .inl (cA.1, 12, .inl (fun _ => 0))), (q3, .inl (cA.1, 20, .inl (fun _ => 0)))]) 3 44 25 [(0, .ref h0)] [.ref q3, .ref h0]
  refine b_putF (i := 0) (kf := 4) (C := RX0) (T := TX0) (N := 9) (ty := .array .int) hz hn (flX0_ok _ (List.mem_of_getElem? (i := 2) rfl)) rfl rfl ⟨rfl, rfl⟩ (by decide +kernel) ⟨rfl, rfl⟩ (Nat.le_of_ble_eq_true rfl) eX0_init_25 ?_
  show Bw ((l, D, cA, ad, A), y2) (wr ++ [(h0, .inr (0, [.int 0, .int 0, .ref q1, .ref q2, .ref q3, .null, .null, .null, .null])), (q1, .inl (cA.1, 12, .inl (fun _ => 0))), (q2, .inl (cA.1, 12, .inl (fun _ => 0))), (q3, .inl (cA.1, 20, .inl (fun _ => 0)))]) 3 44 28 [(0, .ref h0)] []
  refine b_aload hz rfl (j := 0) rfl eX0_init_28 ?_
  refine b_bipush (x := 20) hz (by decide) eX0_init_29 ?_
  refine b_newaI (N := 20) hz (by decide) (by decide) (by decide) (Br_le hr (by decide) (by decide)) tv61 eX0_init_31 (fun q4 => ?_)
  show Bw ((l, D, cA, ad, A), y2) (wr ++ [(h0, .inr (0, [.int 0, .int 0, .ref q1, .ref q2, .ref q3, .null, .null, .null, .null])), (q1, .inl (cA.1, 12, .inl (fun _ => 0))), (q2, .inl (cA.1, 12, .inl (fun _ => 0))), (q3, .inl (cA.1, 20, .inl (fun _ => 0))), (q4, .inl (cA.1, 20, .inl (fun _ => 0)))]) 4 64 33 [(0, .ref h0)] [.ref q4, .ref h0]
  refine b_putF (i := 0) (kf := 5) (C := RX0) (T := TX0) (N := 9) (ty := .array .int) hz hn (flX0_ok _ (List.mem_of_getElem? (i := 3) rfl)) rfl rfl ⟨rfl, rfl⟩ (by decide +kernel) ⟨rfl, rfl⟩ (Nat.le_of_ble_eq_true rfl) eX0_init_33 ?_
  show Bw ((l, D, cA, ad, A), y2) (wr ++ [(h0, .inr (0, [.int 0, .int 0, .ref q1, .ref q2, .ref q3, .ref q4, .null, .null, .null])), (q1, .inl (cA.1, 12, .inl (fun _ => 0))), (q2, .inl (cA.1, 12, .inl (fun _ => 0))), (q3, .inl (cA.1, 20, .inl (fun _ => 0))), (q4, .inl (cA.1, 20, .inl (fun _ => 0)))]) 4 64 36 [(0, .ref h0)] []
  refine b_aload hz rfl (j := 0) rfl eX0_init_36 ?_
  refine b_bipush (x := 20) hz (by decide) eX0_init_37 ?_
  refine b_newaI (N := 20) hz (by decide) (by decide) (by decide) (Br_le hr (by decide) (by decide)) tv61 eX0_init_39 (fun q5 => ?_)
  show Bw ((l, D, cA, ad, A), y2) (wr ++ [(h0, .inr (0, [.int 0, .int 0, .ref q1, .ref q2, .ref q3, .ref q4, .null, .null, .null])), (q1, .inl (cA.1, 12, .inl (fun _ => 0))), (q2, .inl (cA.1, 12, .inl (fun _ => 0))), (q3, .inl (cA.1, 20, .inl (fun _ => 0))), (q4, .inl (cA.1, 20, .inl (fun _ => 0))), (q5, .inl (cA.1, 20, .inl (fun _ => 0)))]) 5 84 41 [(0, .ref h0)] [.ref q5, .ref h0]
  refine b_putF (i := 0) (kf := 6) (C := RX0) (T := TX0) (N := 9) (ty := .array .int) hz hn (flX0_ok _ (List.mem_of_getElem? (i := 4) rfl)) rfl rfl ⟨rfl, rfl⟩ (by decide +kernel) ⟨rfl, rfl⟩ (Nat.le_of_ble_eq_true rfl) eX0_init_41 ?_
  show Bw ((l, D, cA, ad, A), y2) (wr ++ [(h0, .inr (0, [.int 0, .int 0, .ref q1, .ref q2, .ref q3, .ref q4, .ref q5, .null, .null])), (q1, .inl (cA.1, 12, .inl (fun _ => 0))), (q2, .inl (cA.1, 12, .inl (fun _ => 0))), (q3, .inl (cA.1, 20, .inl (fun _ => 0))), (q4, .inl (cA.1, 20, .inl (fun _ => 0))), (q5, .inl (cA.1, 20, .inl (fun _ => 0)))]) 5 84 44 [(0, .ref h0)] []
  refine b_aload hz rfl (j := 0) rfl eX0_init_44 ?_
  refine b_bipush (x := 20) hz (by decide) eX0_init_45 ?_
  refine b_newaI (N := 20) hz (by decide) (by decide) (by decide) (Br_le hr (by decide) (by decide)) tv61 eX0_init_47 (fun q6 => ?_)
  show Bw ((l, D, cA, ad, A), y2) (wr ++ [(h0, .inr (0, [.int 0, .int 0, .ref q1, .ref q2, .ref q3, .ref q4, .ref q5, .null, .null])), (q1, .inl (cA.1, 12, .inl (fun _ => 0))), (q2, .inl (cA.1, 12, .inl (fun _ => 0))), (q3, .inl (cA.1, 20, .inl (fun _ => 0))), (q4, .inl (cA.1, 20, .inl (fun _ => 0))), (q5, .inl (cA.1, 20, .inl (fun _ => 0))), (q6, .inl (cA.1, 20, .inl (fun _ => 0)))]) 6 104 49 [(0, .ref h0)] [.ref q6, .ref h0]
  refine b_putF (i := 0) (kf := 7) (C := RX0) (T := TX0) (N := 9) (ty := .array .int) hz hn (flX0_ok _ (List.mem_of_getElem? (i := 5) rfl)) rfl rfl ⟨rfl, rfl⟩ (by decide +kernel) ⟨rfl, rfl⟩ (Nat.le_of_ble_eq_true rfl) eX0_init_49 ?_
  show Bw ((l, D, cA, ad, A), y2) (wr ++ [(h0, .inr (0, [.int 0, .int 0, .ref q1, .ref q2, .ref q3, .ref q4, .ref q5, .ref q6, .null])), (q1, .inl (cA.1, 12, .inl (fun _ => 0))), (q2, .inl (cA.1, 12, .inl (fun _ => 0))), (q3, .inl (cA.1, 20, .inl (fun _ => 0))), (q4, .inl (cA.1, 20, .inl (fun _ => 0))), (q5, .inl (cA.1, 20, .inl (fun _ => 0))), (q6, .inl (cA.1, 20, .inl (fun _ => 0)))]) 6 104 52 [(0, .ref h0)] []
  refine b_aload hz rfl (j := 0) rfl eX0_init_52 ?_
  refine b_sipush (x := 144) hz (by decide) eX0_init_53 ?_
  refine b_newaI (N := 144) hz (by decide) (by decide) (by decide) (Br_le hr (by decide) (by decide)) tv61 eX0_init_56 (fun q7 => ?_)
  show Bw ((l, D, cA, ad, A), y2) (wr ++ [(h0, .inr (0, [.int 0, .int 0, .ref q1, .ref q2, .ref q3, .ref q4, .ref q5, .ref q6, .null])), (q1, .inl (cA.1, 12, .inl (fun _ => 0))), (q2, .inl (cA.1, 12, .inl (fun _ => 0))), (q3, .inl (cA.1, 20, .inl (fun _ => 0))), (q4, .inl (cA.1, 20, .inl (fun _ => 0))), (q5, .inl (cA.1, 20, .inl (fun _ => 0))), (q6, .inl (cA.1, 20, .inl (fun _ => 0))), (q7, .inl (cA.1, 144, .inl (fun _ => 0)))]) 7 248 58 [(0, .ref h0)] [.ref q7, .ref h0]
  refine b_putF (i := 0) (kf := 8) (C := RX0) (T := TX0) (N := 9) (ty := .array .int) hz hn (flX0_ok _ (List.mem_of_getElem? (i := 6) rfl)) rfl rfl ⟨rfl, rfl⟩ (by decide +kernel) ⟨rfl, rfl⟩ (Nat.le_of_ble_eq_true rfl) eX0_init_58 ?_
  show Bw ((l, D, cA, ad, A), y2) (wr ++ [(h0, .inr (0, [.int 0, .int 0, .ref q1, .ref q2, .ref q3, .ref q4, .ref q5, .ref q6, .ref q7])), (q1, .inl (cA.1, 12, .inl (fun _ => 0))), (q2, .inl (cA.1, 12, .inl (fun _ => 0))), (q3, .inl (cA.1, 20, .inl (fun _ => 0))), (q4, .inl (cA.1, 20, .inl (fun _ => 0))), (q5, .inl (cA.1, 20, .inl (fun _ => 0))), (q6, .inl (cA.1, 20, .inl (fun _ => 0))), (q7, .inl (cA.1, 144, .inl (fun _ => 0)))]) 7 248 61 [(0, .ref h0)] []
  exact b_vret hz hR ⟨fun k => [h0, q1, q2, q3, q4, q5, q6, q7].getD k 0, rfl, rfl⟩ eX0_init_61
theorem eX1_init_0 : decode prog_3_method_1_code 0 = .ok (.aload_n 0, 1) := by decide +kernel
theorem eX1_init_1 : decode prog_3_method_1_code 1 = .ok (.invokespecial 3, 3) := by decide +kernel
theorem eX1_init_4 : decode prog_3_method_1_code 4 = .ok (.aload_n 0, 1) := by decide +kernel
theorem eX1_init_5 : decode prog_3_method_1_code 5 = .ok (.iconst 4, 1) := by decide +kernel
theorem eX1_init_6 : decode prog_3_method_1_code 6 = .ok (.newarray .int, 2) := by decide +kernel
theorem eX1_init_8 : decode prog_3_method_1_code 8 = .ok (.dup, 1) := by decide +kernel
theorem eX1_init_9 : decode prog_3_method_1_code 9 = .ok (.iconst 0, 1) := by decide +kernel
theorem eX1_init_10 : decode prog_3_method_1_code 10 = .ok (.iconst 4, 1) := by decide +kernel
theorem eX1_init_11 : decode prog_3_method_1_code 11 = .ok (.iastore, 1) := by decide +kernel
theorem eX1_init_12 : decode prog_3_method_1_code 12 = .ok (.dup, 1) := by decide +kernel
theorem eX1_init_13 : decode prog_3_method_1_code 13 = .ok (.iconst 1, 1) := by decide +kernel
theorem eX1_init_14 : decode prog_3_method_1_code 14 = .ok (.iconst 1, 1) := by decide +kernel
theorem eX1_init_15 : decode prog_3_method_1_code 15 = .ok (.iastore, 1) := by decide +kernel
theorem eX1_init_16 : decode prog_3_method_1_code 16 = .ok (.dup, 1) := by decide +kernel
theorem eX1_init_17 : decode prog_3_method_1_code 17 = .ok (.iconst 2, 1) := by decide +kernel
theorem eX1_init_18 : decode prog_3_method_1_code 18 = .ok (.iconst 1, 1) := by decide +kernel
theorem eX1_init_19 : decode prog_3_method_1_code 19 = .ok (.iastore, 1) := by decide +kernel
theorem eX1_init_20 : decode prog_3_method_1_code 20 = .ok (.dup, 1) := by decide +kernel
theorem eX1_init_21 : decode prog_3_method_1_code 21 = .ok (.iconst 3, 1) := by decide +kernel
theorem eX1_init_22 : decode prog_3_method_1_code 22 = .ok (.bipush 40, 2) := by decide +kernel
theorem eX1_init_24 : decode prog_3_method_1_code 24 = .ok (.iastore, 1) := by decide +kernel
theorem eX1_init_25 : decode prog_3_method_1_code 25 = .ok (.putfield 9, 3) := by decide +kernel
theorem eX1_init_28 : decode prog_3_method_1_code 28 = .ok (.return_, 1) := by decide +kernel
def yX1_init : MethodName := ⟨RX1, "<init>", "()V"⟩
set_option maxRecDepth 100000 in
set_option maxHeartbeats 4000000 in
theorem cX1_init (g : Gx) (h0 : Nat) (wr : va_W) : Cn g yX1_init prog_3_method_1_code 1 1 12 1 4 [.ref h0] (wr ++ [(h0, .inr (1, [.null]))]) (fun ws => ∃ a : Nat → Nat, a 0 = h0 ∧ ws = wr ++ rulesW g.2.2.1 a) := by
  refine n_of ⟨by decide +kernel, rfl, rfl⟩ (Nat.le_of_ble_eq_true rfl) (fun y hg hz hn hr hR => ?_)
  obtain ⟨⟨l, D, cA, ad, A⟩, y2⟩ := y
  subst hg
  refine b_aload hz rfl (j := 0) rfl eX1_init_0 ?_
  refine b_object hz ⟨tv67, tv16, tv17⟩ (by decide) eX1_init_1 ?_
  show Bw ((l, D, cA, ad, A), y2) (wr ++ [(h0, .inr (1, [.null]))]) 0 0 4 [(0, .ref h0)] []
  refine b_aload hz rfl (j := 0) rfl eX1_init_4 ?_
  refine b_iconst (x := 4) hz (by decide) eX1_init_5 ?_
  refine b_newaI (N := 4) hz (by decide) (by decide) (by decide) (Br_le hr (by decide) (by decide)) tv61 eX1_init_6 (fun q1 => ?_)
  show Bw ((l, D, cA, ad, A), y2) (wr ++ [(h0, .inr (1, [.null])), (q1, .inl (cA.1, 4, .inl (fun _ => 0)))]) 1 4 8 [(0, .ref h0)] [.ref q1, .ref h0]
  refine b_dup hz rfl eX1_init_8 ?_
  refine b_iconst (x := 0) hz (by decide) eX1_init_9 ?_
  refine b_iconst (x := 4) hz (by decide) eX1_init_10 ?_
  refine b_iast (i := 1) (f' := (upd (fun _ => 0) 0 4)) hz rfl (by unfold vp_in; decide) rfl eX1_init_11 ?_
  show Bw ((l, D, cA, ad, A), y2) (wr ++ [(h0, .inr (1, [.null])), (q1, .inl (cA.1, 4, .inl (upd (fun _ => 0) 0 4)))]) 1 4 12 [(0, .ref h0)] [.ref q1, .ref h0]
  refine b_dup hz rfl eX1_init_12 ?_
  refine b_iconst (x := 1) hz (by decide) eX1_init_13 ?_
  refine b_iconst (x := 1) hz (by decide) eX1_init_14 ?_
  refine b_iast (i := 1) (f' := (upd (upd (fun _ => 0) 0 4) 1 1)) hz rfl (by unfold vp_in; decide) rfl eX1_init_15 ?_
  show Bw ((l, D, cA, ad, A), y2) (wr ++ [(h0, .inr (1, [.null])), (q1, .inl (cA.1, 4, .inl (upd (upd (fun _ => 0) 0 4) 1 1)))]) 1 4 16 [(0, .ref h0)] [.ref q1, .ref h0]
  refine b_dup hz rfl eX1_init_16 ?_
  refine b_iconst (x := 2) hz (by decide) eX1_init_17 ?_
  refine b_iconst (x := 1) hz (by decide) eX1_init_18 ?_
  refine b_iast (i := 1) (f' := (upd (upd (upd (fun _ => 0) 0 4) 1 1) 2 1)) hz rfl (by unfold vp_in; decide) rfl eX1_init_19 ?_
  show Bw ((l, D, cA, ad, A), y2) (wr ++ [(h0, .inr (1, [.null])), (q1, .inl (cA.1, 4, .inl (upd (upd (upd (fun _ => 0) 0 4) 1 1) 2 1)))]) 1 4 20 [(0, .ref h0)] [.ref q1, .ref h0]
  refine b_dup hz rfl eX1_init_20 ?_
  refine b_iconst (x := 3) hz (by decide) eX1_init_21 ?_
  refine b_bipush (x := 40) hz (by decide) eX1_init_22 ?_
  refine b_iast (i := 1) (f' := (upd (upd (upd (upd (fun _ => 0) 0 4) 1 1) 2 1) 3 40)) hz rfl (by unfold vp_in; decide) rfl eX1_init_24 ?_
  show Bw ((l, D, cA, ad, A), y2) (wr ++ [(h0, .inr (1, [.null])), (q1, .inl (cA.1, 4, .inl (upd (upd (upd (upd (fun _ => 0) 0 4) 1 1) 2 1) 3 40)))]) 1 4 25 [(0, .ref h0)] [.ref q1, .ref h0]
  refine b_putF (i := 0) (kf := 0) (C := RX1) (T := TX1) (N := 1) (ty := .array .int) hz hn (flX1_ok _ (List.mem_of_getElem? (i := 0) rfl)) rfl rfl ⟨rfl, rfl⟩ (by decide +kernel) ⟨rfl, rfl⟩ (Nat.le_of_ble_eq_true rfl) eX1_init_25 ?_
  show Bw ((l, D, cA, ad, A), y2) (wr ++ [(h0, .inr (1, [.ref q1])), (q1, .inl (cA.1, 4, .inl (upd (upd (upd (upd (fun _ => 0) 0 4) 1 1) 2 1) 3 40)))]) 1 4 28 [(0, .ref h0)] []
  exact b_vret hz hR ⟨fun k => [h0, q1].getD k 0, rfl, rfl⟩ eX1_init_28
theorem eX3_init_0 : decode prog_5_method_1_code 0 = .ok (.aload_n 0, 1) := by decide +kernel
theorem eX3_init_1 : decode prog_5_method_1_code 1 = .ok (.invokespecial 3, 3) := by decide +kernel
theorem eX3_init_4 : decode prog_5_method_1_code 4 = .ok (.aload_n 0, 1) := by decide +kernel
theorem eX3_init_5 : decode prog_5_method_1_code 5 = .ok (.bipush 16, 2) := by decide +kernel
theorem eX3_init_7 : decode prog_5_method_1_code 7 = .ok (.newarray .int, 2) := by decide +kernel
theorem eX3_init_9 : decode prog_5_method_1_code 9 = .ok (.putfield 9, 3) := by decide +kernel
theorem eX3_init_12 : decode prog_5_method_1_code 12 = .ok (.aload_n 0, 1) := by decide +kernel
theorem eX3_init_13 : decode prog_5_method_1_code 13 = .ok (.bipush 16, 2) := by decide +kernel
theorem eX3_init_15 : decode prog_5_method_1_code 15 = .ok (.newarray .int, 2) := by decide +kernel
theorem eX3_init_17 : decode prog_5_method_1_code 17 = .ok (.putfield 15, 3) := by decide +kernel
theorem eX3_init_20 : decode prog_5_method_1_code 20 = .ok (.aload_n 0, 1) := by decide +kernel
theorem eX3_init_21 : decode prog_5_method_1_code 21 = .ok (.bipush 16, 2) := by decide +kernel
theorem eX3_init_23 : decode prog_5_method_1_code 23 = .ok (.newarray .int, 2) := by decide +kernel
theorem eX3_init_25 : decode prog_5_method_1_code 25 = .ok (.putfield 18, 3) := by decide +kernel
theorem eX3_init_28 : decode prog_5_method_1_code 28 = .ok (.aload_n 0, 1) := by decide +kernel
theorem eX3_init_29 : decode prog_5_method_1_code 29 = .ok (.bipush 16, 2) := by decide +kernel
theorem eX3_init_31 : decode prog_5_method_1_code 31 = .ok (.newarray .int, 2) := by decide +kernel
theorem eX3_init_33 : decode prog_5_method_1_code 33 = .ok (.putfield 21, 3) := by decide +kernel
theorem eX3_init_36 : decode prog_5_method_1_code 36 = .ok (.aload_n 0, 1) := by decide +kernel
theorem eX3_init_37 : decode prog_5_method_1_code 37 = .ok (.bipush 16, 2) := by decide +kernel
theorem eX3_init_39 : decode prog_5_method_1_code 39 = .ok (.newarray .int, 2) := by decide +kernel
theorem eX3_init_41 : decode prog_5_method_1_code 41 = .ok (.putfield 24, 3) := by decide +kernel
theorem eX3_init_44 : decode prog_5_method_1_code 44 = .ok (.aload_n 0, 1) := by decide +kernel
theorem eX3_init_45 : decode prog_5_method_1_code 45 = .ok (.sipush 320, 3) := by decide +kernel
theorem eX3_init_48 : decode prog_5_method_1_code 48 = .ok (.newarray .int, 2) := by decide +kernel
theorem eX3_init_50 : decode prog_5_method_1_code 50 = .ok (.putfield 27, 3) := by decide +kernel
theorem eX3_init_53 : decode prog_5_method_1_code 53 = .ok (.aload_n 0, 1) := by decide +kernel
theorem eX3_init_54 : decode prog_5_method_1_code 54 = .ok (.sipush 320, 3) := by decide +kernel
theorem eX3_init_57 : decode prog_5_method_1_code 57 = .ok (.newarray .int, 2) := by decide +kernel
theorem eX3_init_59 : decode prog_5_method_1_code 59 = .ok (.putfield 30, 3) := by decide +kernel
theorem eX3_init_62 : decode prog_5_method_1_code 62 = .ok (.aload_n 0, 1) := by decide +kernel
theorem eX3_init_63 : decode prog_5_method_1_code 63 = .ok (.sipush 320, 3) := by decide +kernel
theorem eX3_init_66 : decode prog_5_method_1_code 66 = .ok (.newarray .int, 2) := by decide +kernel
theorem eX3_init_68 : decode prog_5_method_1_code 68 = .ok (.putfield 33, 3) := by decide +kernel
theorem eX3_init_71 : decode prog_5_method_1_code 71 = .ok (.aload_n 0, 1) := by decide +kernel
theorem eX3_init_72 : decode prog_5_method_1_code 72 = .ok (.sipush 320, 3) := by decide +kernel
theorem eX3_init_75 : decode prog_5_method_1_code 75 = .ok (.newarray .int, 2) := by decide +kernel
theorem eX3_init_77 : decode prog_5_method_1_code 77 = .ok (.putfield 36, 3) := by decide +kernel
theorem eX3_init_80 : decode prog_5_method_1_code 80 = .ok (.aload_n 0, 1) := by decide +kernel
theorem eX3_init_81 : decode prog_5_method_1_code 81 = .ok (.bipush 16, 2) := by decide +kernel
theorem eX3_init_83 : decode prog_5_method_1_code 83 = .ok (.newarray .int, 2) := by decide +kernel
theorem eX3_init_85 : decode prog_5_method_1_code 85 = .ok (.putfield 39, 3) := by decide +kernel
theorem eX3_init_88 : decode prog_5_method_1_code 88 = .ok (.aload_n 0, 1) := by decide +kernel
theorem eX3_init_89 : decode prog_5_method_1_code 89 = .ok (.bipush 16, 2) := by decide +kernel
theorem eX3_init_91 : decode prog_5_method_1_code 91 = .ok (.newarray .boolean, 2) := by decide +kernel
theorem eX3_init_93 : decode prog_5_method_1_code 93 = .ok (.putfield 42, 3) := by decide +kernel
theorem eX3_init_96 : decode prog_5_method_1_code 96 = .ok (.aload_n 0, 1) := by decide +kernel
theorem eX3_init_97 : decode prog_5_method_1_code 97 = .ok (.aload_n 1, 1) := by decide +kernel
theorem eX3_init_98 : decode prog_5_method_1_code 98 = .ok (.putfield 46, 3) := by decide +kernel
theorem eX3_init_101 : decode prog_5_method_1_code 101 = .ok (.aload_n 0, 1) := by decide +kernel
theorem eX3_init_102 : decode prog_5_method_1_code 102 = .ok (.aload_n 2, 1) := by decide +kernel
theorem eX3_init_103 : decode prog_5_method_1_code 103 = .ok (.putfield 50, 3) := by decide +kernel
theorem eX3_init_106 : decode prog_5_method_1_code 106 = .ok (.return_, 1) := by decide +kernel
def yX3_init : MethodName := ⟨RX3, "<init>", "(LRoadTrace$Net;LRoadTrace$Rules;)V"⟩
set_option maxRecDepth 100000 in
set_option maxHeartbeats 4000000 in
theorem cX3_init (g : Gx) (h0 n r : Nat) (wr : va_W) : Cn g yX3_init prog_5_method_1_code 3 1 12 11 1392 [.ref h0, .ref n, .ref r] (wr ++ [(h0, .inr (3, [.null, .null, .int 0, .null, .null, .null, .null, .null, .null, .null, .null, .null, .null, .null]))]) (fun ws => ∃ a : Nat → Nat, a 0 = h0 ∧ ws = wr ++ traceW g.2.2.1 n r a) := by
  refine n_of ⟨by decide +kernel, rfl, rfl⟩ (Nat.le_of_ble_eq_true rfl) (fun y hg hz hn hr hR => ?_)
  obtain ⟨⟨l, D, cA, ad, A⟩, y2⟩ := y
  subst hg
  refine b_aload hz rfl (j := 0) rfl eX3_init_0 ?_
  refine b_object hz ⟨tv78, tv16, tv17⟩ (by decide) eX3_init_1 ?_
  show Bw ((l, D, cA, ad, A), y2) (wr ++ [(h0, .inr (3, [.null, .null, .int 0, .null, .null, .null, .null, .null, .null, .null, .null, .null, .null, .null]))]) 0 0 4 [(0, .ref h0), (1, .ref n), (2, .ref r)] []
  refine b_aload hz rfl (j := 0) rfl eX3_init_4 ?_
  refine b_bipush (x := 16) hz (by decide) eX3_init_5 ?_
  refine b_newaI (N := 16) hz (by decide) (by decide) (by decide) (Br_le hr (by decide) (by decide)) tv61 eX3_init_7 (fun q1 => ?_)
  show Bw ((l, D, cA, ad, A), y2) (wr ++ [(h0, .inr (3, [.null, .null, .int 0, .null, .null, .null, .null, .null, .null, .null, .null, .null, .null, .null])), (q1, .inl (cA.1, 16, .inl (fun _ => 0)))]) 1 16 9 [(0, .ref h0), (1, .ref n), (2, .ref r)] [.ref q1, .ref h0]
  refine b_putF (i := 0) (kf := 3) (C := RX3) (T := TX3) (N := 14) (ty := .array .int) hz hn (flX3_ok _ (List.mem_of_getElem? (i := 0) rfl)) rfl rfl ⟨rfl, rfl⟩ (by decide +kernel) ⟨rfl, rfl⟩ (Nat.le_of_ble_eq_true rfl) eX3_init_9 ?_
  show Bw ((l, D, cA, ad, A), y2) (wr ++ [(h0, .inr (3, [.null, .null, .int 0, .ref q1, .null, .null, .null, .null, .null, .null, .null, .null, .null, .null])), (q1, .inl (cA.1, 16, .inl (fun _ => 0)))]) 1 16 12 [(0, .ref h0), (1, .ref n), (2, .ref r)] []
  refine b_aload hz rfl (j := 0) rfl eX3_init_12 ?_
  refine b_bipush (x := 16) hz (by decide) eX3_init_13 ?_
  refine b_newaI (N := 16) hz (by decide) (by decide) (by decide) (Br_le hr (by decide) (by decide)) tv61 eX3_init_15 (fun q2 => ?_)
  show Bw ((l, D, cA, ad, A), y2) (wr ++ [(h0, .inr (3, [.null, .null, .int 0, .ref q1, .null, .null, .null, .null, .null, .null, .null, .null, .null, .null])), (q1, .inl (cA.1, 16, .inl (fun _ => 0))), (q2, .inl (cA.1, 16, .inl (fun _ => 0)))]) 2 32 17 [(0, .ref h0), (1, .ref n), (2, .ref r)] [.ref q2, .ref h0]
  refine b_putF (i := 0) (kf := 4) (C := RX3) (T := TX3) (N := 14) (ty := .array .int) hz hn (flX3_ok _ (List.mem_of_getElem? (i := 1) rfl)) rfl rfl ⟨rfl, rfl⟩ (by decide +kernel) ⟨rfl, rfl⟩ (Nat.le_of_ble_eq_true rfl) eX3_init_17 ?_
  show Bw ((l, D, cA, ad, A), y2) (wr ++ [(h0, .inr (3, [.null, .null, .int 0, .ref q1, .ref q2, .null, .null, .null, .null, .null, .null, .null, .null, .null])), (q1, .inl (cA.1, 16, .inl (fun _ => 0))), (q2, .inl (cA.1, 16, .inl (fun _ => 0)))]) 2 32 20 [(0, .ref h0), (1, .ref n), (2, .ref r)] []
  refine b_aload hz rfl (j := 0) rfl eX3_init_20 ?_
  refine b_bipush (x := 16) hz (by decide) eX3_init_21 ?_
  refine b_newaI (N := 16) hz (by decide) (by decide) (by decide) (Br_le hr (by decide) (by decide)) tv61 eX3_init_23 (fun q3 => ?_)
  show Bw ((l, D, cA, ad, A), y2) (wr ++ [(h0, .inr (3, [.null, .null, .int 0, .ref q1, .ref q2, .null, .null, .null, .null, .null, .null, .null, .null, .null])), (q1, .inl (cA.1, 16, .inl (fun _ => 0))), (q2, .inl (cA.1, 16, .inl (fun _ => 0))), (q3, .inl (cA.1, 16, .inl (fun _ => 0)))]) 3 48 25 [(0, .ref h0), (1, .ref n), (2, .ref r)] [.ref q3, .ref h0]
  refine b_putF (i := 0) (kf := 5) (C := RX3) (T := TX3) (N := 14) (ty := .array .int) hz hn (flX3_ok _ (List.mem_of_getElem? (i := 2) rfl)) rfl rfl ⟨rfl, rfl⟩ (by decide +kernel) ⟨rfl, rfl⟩ (Nat.le_of_ble_eq_true rfl) eX3_init_25 ?_
  show Bw ((l, D, cA, ad, A), y2) (wr ++ [(h0, .inr (3, [.null, .null, .int 0, .ref q1, .ref q2, .ref q3, .null, .null, .null, .null, .null, .null, .null, .null])), (q1, .inl (cA.1, 16, .inl (fun _ => 0))), (q2, .inl (cA.1, 16, .inl (fun _ => 0))), (q3, .inl (cA.1, 16, .inl (fun _ => 0)))]) 3 48 28 [(0, .ref h0), (1, .ref n), (2, .ref r)] []
  refine b_aload hz rfl (j := 0) rfl eX3_init_28 ?_
  refine b_bipush (x := 16) hz (by decide) eX3_init_29 ?_
  refine b_newaI (N := 16) hz (by decide) (by decide) (by decide) (Br_le hr (by decide) (by decide)) tv61 eX3_init_31 (fun q4 => ?_)
  show Bw ((l, D, cA, ad, A), y2) (wr ++ [(h0, .inr (3, [.null, .null, .int 0, .ref q1, .ref q2, .ref q3, .null, .null, .null, .null, .null, .null, .null, .null])), (q1, .inl (cA.1, 16, .inl (fun _ => 0))), (q2, .inl (cA.1, 16, .inl (fun _ => 0))), (q3, .inl (cA.1, 16, .inl (fun _ => 0))), (q4, .inl (cA.1, 16, .inl (fun _ => 0)))]) 4 64 33 [(0, .ref h0), (1, .ref n), (2, .ref r)] [.ref q4, .ref h0]
  refine b_putF (i := 0) (kf := 6) (C := RX3) (T := TX3) (N := 14) (ty := .array .int) hz hn (flX3_ok _ (List.mem_of_getElem? (i := 3) rfl)) rfl rfl ⟨rfl, rfl⟩ (by decide +kernel) ⟨rfl, rfl⟩ (Nat.le_of_ble_eq_true rfl) eX3_init_33 ?_
  show Bw ((l, D, cA, ad, A), y2) (wr ++ [(h0, .inr (3, [.null, .null, .int 0, .ref q1, .ref q2, .ref q3, .ref q4, .null, .null, .null, .null, .null, .null, .null])), (q1, .inl (cA.1, 16, .inl (fun _ => 0))), (q2, .inl (cA.1, 16, .inl (fun _ => 0))), (q3, .inl (cA.1, 16, .inl (fun _ => 0))), (q4, .inl (cA.1, 16, .inl (fun _ => 0)))]) 4 64 36 [(0, .ref h0), (1, .ref n), (2, .ref r)] []
  refine b_aload hz rfl (j := 0) rfl eX3_init_36 ?_
  refine b_bipush (x := 16) hz (by decide) eX3_init_37 ?_
  refine b_newaI (N := 16) hz (by decide) (by decide) (by decide) (Br_le hr (by decide) (by decide)) tv61 eX3_init_39 (fun q5 => ?_)
  show Bw ((l, D, cA, ad, A), y2) (wr ++ [(h0, .inr (3, [.null, .null, .int 0, .ref q1, .ref q2, .ref q3, .ref q4, .null, .null, .null, .null, .null, .null, .null])), (q1, .inl (cA.1, 16, .inl (fun _ => 0))), (q2, .inl (cA.1, 16, .inl (fun _ => 0))), (q3, .inl (cA.1, 16, .inl (fun _ => 0))), (q4, .inl (cA.1, 16, .inl (fun _ => 0))), (q5, .inl (cA.1, 16, .inl (fun _ => 0)))]) 5 80 41 [(0, .ref h0), (1, .ref n), (2, .ref r)] [.ref q5, .ref h0]
  refine b_putF (i := 0) (kf := 7) (C := RX3) (T := TX3) (N := 14) (ty := .array .int) hz hn (flX3_ok _ (List.mem_of_getElem? (i := 4) rfl)) rfl rfl ⟨rfl, rfl⟩ (by decide +kernel) ⟨rfl, rfl⟩ (Nat.le_of_ble_eq_true rfl) eX3_init_41 ?_
  show Bw ((l, D, cA, ad, A), y2) (wr ++ [(h0, .inr (3, [.null, .null, .int 0, .ref q1, .ref q2, .ref q3, .ref q4, .ref q5, .null, .null, .null, .null, .null, .null])), (q1, .inl (cA.1, 16, .inl (fun _ => 0))), (q2, .inl (cA.1, 16, .inl (fun _ => 0))), (q3, .inl (cA.1, 16, .inl (fun _ => 0))), (q4, .inl (cA.1, 16, .inl (fun _ => 0))), (q5, .inl (cA.1, 16, .inl (fun _ => 0)))]) 5 80 44 [(0, .ref h0), (1, .ref n), (2, .ref r)] []
  refine b_aload hz rfl (j := 0) rfl eX3_init_44 ?_
  refine b_sipush (x := 320) hz (by decide) eX3_init_45 ?_
  refine b_newaI (N := 320) hz (by decide) (by decide) (by decide) (Br_le hr (by decide) (by decide)) tv61 eX3_init_48 (fun q6 => ?_)
  show Bw ((l, D, cA, ad, A), y2) (wr ++ [(h0, .inr (3, [.null, .null, .int 0, .ref q1, .ref q2, .ref q3, .ref q4, .ref q5, .null, .null, .null, .null, .null, .null])), (q1, .inl (cA.1, 16, .inl (fun _ => 0))), (q2, .inl (cA.1, 16, .inl (fun _ => 0))), (q3, .inl (cA.1, 16, .inl (fun _ => 0))), (q4, .inl (cA.1, 16, .inl (fun _ => 0))), (q5, .inl (cA.1, 16, .inl (fun _ => 0))), (q6, .inl (cA.1, 320, .inl (fun _ => 0)))]) 6 400 50 [(0, .ref h0), (1, .ref n), (2, .ref r)] [.ref q6, .ref h0]
  refine b_putF (i := 0) (kf := 8) (C := RX3) (T := TX3) (N := 14) (ty := .array .int) hz hn (flX3_ok _ (List.mem_of_getElem? (i := 5) rfl)) rfl rfl ⟨rfl, rfl⟩ (by decide +kernel) ⟨rfl, rfl⟩ (Nat.le_of_ble_eq_true rfl) eX3_init_50 ?_
  show Bw ((l, D, cA, ad, A), y2) (wr ++ [(h0, .inr (3, [.null, .null, .int 0, .ref q1, .ref q2, .ref q3, .ref q4, .ref q5, .ref q6, .null, .null, .null, .null, .null])), (q1, .inl (cA.1, 16, .inl (fun _ => 0))), (q2, .inl (cA.1, 16, .inl (fun _ => 0))), (q3, .inl (cA.1, 16, .inl (fun _ => 0))), (q4, .inl (cA.1, 16, .inl (fun _ => 0))), (q5, .inl (cA.1, 16, .inl (fun _ => 0))), (q6, .inl (cA.1, 320, .inl (fun _ => 0)))]) 6 400 53 [(0, .ref h0), (1, .ref n), (2, .ref r)] []
  refine b_aload hz rfl (j := 0) rfl eX3_init_53 ?_
  refine b_sipush (x := 320) hz (by decide) eX3_init_54 ?_
  refine b_newaI (N := 320) hz (by decide) (by decide) (by decide) (Br_le hr (by decide) (by decide)) tv61 eX3_init_57 (fun q7 => ?_)
  show Bw ((l, D, cA, ad, A), y2) (wr ++ [(h0, .inr (3, [.null, .null, .int 0, .ref q1, .ref q2, .ref q3, .ref q4, .ref q5, .ref q6, .null, .null, .null, .null, .null])), (q1, .inl (cA.1, 16, .inl (fun _ => 0))), (q2, .inl (cA.1, 16, .inl (fun _ => 0))), (q3, .inl (cA.1, 16, .inl (fun _ => 0))), (q4, .inl (cA.1, 16, .inl (fun _ => 0))), (q5, .inl (cA.1, 16, .inl (fun _ => 0))), (q6, .inl (cA.1, 320, .inl (fun _ => 0))), (q7, .inl (cA.1, 320, .inl (fun _ => 0)))]) 7 720 59 [(0, .ref h0), (1, .ref n), (2, .ref r)] [.ref q7, .ref h0]
  refine b_putF (i := 0) (kf := 9) (C := RX3) (T := TX3) (N := 14) (ty := .array .int) hz hn (flX3_ok _ (List.mem_of_getElem? (i := 6) rfl)) rfl rfl ⟨rfl, rfl⟩ (by decide +kernel) ⟨rfl, rfl⟩ (Nat.le_of_ble_eq_true rfl) eX3_init_59 ?_
  show Bw ((l, D, cA, ad, A), y2) (wr ++ [(h0, .inr (3, [.null, .null, .int 0, .ref q1, .ref q2, .ref q3, .ref q4, .ref q5, .ref q6, .ref q7, .null, .null, .null, .null])), (q1, .inl (cA.1, 16, .inl (fun _ => 0))), (q2, .inl (cA.1, 16, .inl (fun _ => 0))), (q3, .inl (cA.1, 16, .inl (fun _ => 0))), (q4, .inl (cA.1, 16, .inl (fun _ => 0))), (q5, .inl (cA.1, 16, .inl (fun _ => 0))), (q6, .inl (cA.1, 320, .inl (fun _ => 0))), (q7, .inl (cA.1, 320, .inl (fun _ => 0)))]) 7 720 62 [(0, .ref h0), (1, .ref n), (2, .ref r)] []
  refine b_aload hz rfl (j := 0) rfl eX3_init_62 ?_
  refine b_sipush (x := 320) hz (by decide) eX3_init_63 ?_
  refine b_newaI (N := 320) hz (by decide) (by decide) (by decide) (Br_le hr (by decide) (by decide)) tv61 eX3_init_66 (fun q8 => ?_)
  show Bw ((l, D, cA, ad, A), y2) (wr ++ [(h0, .inr (3, [.null, .null, .int 0, .ref q1, .ref q2, .ref q3, .ref q4, .ref q5, .ref q6, .ref q7, .null, .null, .null, .null])), (q1, .inl (cA.1, 16, .inl (fun _ => 0))), (q2, .inl (cA.1, 16, .inl (fun _ => 0))), (q3, .inl (cA.1, 16, .inl (fun _ => 0))), (q4, .inl (cA.1, 16, .inl (fun _ => 0))), (q5, .inl (cA.1, 16, .inl (fun _ => 0))), (q6, .inl (cA.1, 320, .inl (fun _ => 0))), (q7, .inl (cA.1, 320, .inl (fun _ => 0))), (q8, .inl (cA.1, 320, .inl (fun _ => 0)))]) 8 1040 68 [(0, .ref h0), (1, .ref n), (2, .ref r)] [.ref q8, .ref h0]
  refine b_putF (i := 0) (kf := 10) (C := RX3) (T := TX3) (N := 14) (ty := .array .int) hz hn (flX3_ok _ (List.mem_of_getElem? (i := 7) rfl)) rfl rfl ⟨rfl, rfl⟩ (by decide +kernel) ⟨rfl, rfl⟩ (Nat.le_of_ble_eq_true rfl) eX3_init_68 ?_
  show Bw ((l, D, cA, ad, A), y2) (wr ++ [(h0, .inr (3, [.null, .null, .int 0, .ref q1, .ref q2, .ref q3, .ref q4, .ref q5, .ref q6, .ref q7, .ref q8, .null, .null, .null])), (q1, .inl (cA.1, 16, .inl (fun _ => 0))), (q2, .inl (cA.1, 16, .inl (fun _ => 0))), (q3, .inl (cA.1, 16, .inl (fun _ => 0))), (q4, .inl (cA.1, 16, .inl (fun _ => 0))), (q5, .inl (cA.1, 16, .inl (fun _ => 0))), (q6, .inl (cA.1, 320, .inl (fun _ => 0))), (q7, .inl (cA.1, 320, .inl (fun _ => 0))), (q8, .inl (cA.1, 320, .inl (fun _ => 0)))]) 8 1040 71 [(0, .ref h0), (1, .ref n), (2, .ref r)] []
  refine b_aload hz rfl (j := 0) rfl eX3_init_71 ?_
  refine b_sipush (x := 320) hz (by decide) eX3_init_72 ?_
  refine b_newaI (N := 320) hz (by decide) (by decide) (by decide) (Br_le hr (by decide) (by decide)) tv61 eX3_init_75 (fun q9 => ?_)
  show Bw ((l, D, cA, ad, A), y2) (wr ++ [(h0, .inr (3, [.null, .null, .int 0, .ref q1, .ref q2, .ref q3, .ref q4, .ref q5, .ref q6, .ref q7, .ref q8, .null, .null, .null])), (q1, .inl (cA.1, 16, .inl (fun _ => 0))), (q2, .inl (cA.1, 16, .inl (fun _ => 0))), (q3, .inl (cA.1, 16, .inl (fun _ => 0))), (q4, .inl (cA.1, 16, .inl (fun _ => 0))), (q5, .inl (cA.1, 16, .inl (fun _ => 0))), (q6, .inl (cA.1, 320, .inl (fun _ => 0))), (q7, .inl (cA.1, 320, .inl (fun _ => 0))), (q8, .inl (cA.1, 320, .inl (fun _ => 0))), (q9, .inl (cA.1, 320, .inl (fun _ => 0)))]) 9 1360 77 [(0, .ref h0), (1, .ref n), (2, .ref r)] [.ref q9, .ref h0]
  refine b_putF (i := 0) (kf := 11) (C := RX3) (T := TX3) (N := 14) (ty := .array .int) hz hn (flX3_ok _ (List.mem_of_getElem? (i := 8) rfl)) rfl rfl ⟨rfl, rfl⟩ (by decide +kernel) ⟨rfl, rfl⟩ (Nat.le_of_ble_eq_true rfl) eX3_init_77 ?_
  show Bw ((l, D, cA, ad, A), y2) (wr ++ [(h0, .inr (3, [.null, .null, .int 0, .ref q1, .ref q2, .ref q3, .ref q4, .ref q5, .ref q6, .ref q7, .ref q8, .ref q9, .null, .null])), (q1, .inl (cA.1, 16, .inl (fun _ => 0))), (q2, .inl (cA.1, 16, .inl (fun _ => 0))), (q3, .inl (cA.1, 16, .inl (fun _ => 0))), (q4, .inl (cA.1, 16, .inl (fun _ => 0))), (q5, .inl (cA.1, 16, .inl (fun _ => 0))), (q6, .inl (cA.1, 320, .inl (fun _ => 0))), (q7, .inl (cA.1, 320, .inl (fun _ => 0))), (q8, .inl (cA.1, 320, .inl (fun _ => 0))), (q9, .inl (cA.1, 320, .inl (fun _ => 0)))]) 9 1360 80 [(0, .ref h0), (1, .ref n), (2, .ref r)] []
  refine b_aload hz rfl (j := 0) rfl eX3_init_80 ?_
  refine b_bipush (x := 16) hz (by decide) eX3_init_81 ?_
  refine b_newaI (N := 16) hz (by decide) (by decide) (by decide) (Br_le hr (by decide) (by decide)) tv61 eX3_init_83 (fun q10 => ?_)
  show Bw ((l, D, cA, ad, A), y2) (wr ++ [(h0, .inr (3, [.null, .null, .int 0, .ref q1, .ref q2, .ref q3, .ref q4, .ref q5, .ref q6, .ref q7, .ref q8, .ref q9, .null, .null])), (q1, .inl (cA.1, 16, .inl (fun _ => 0))), (q2, .inl (cA.1, 16, .inl (fun _ => 0))), (q3, .inl (cA.1, 16, .inl (fun _ => 0))), (q4, .inl (cA.1, 16, .inl (fun _ => 0))), (q5, .inl (cA.1, 16, .inl (fun _ => 0))), (q6, .inl (cA.1, 320, .inl (fun _ => 0))), (q7, .inl (cA.1, 320, .inl (fun _ => 0))), (q8, .inl (cA.1, 320, .inl (fun _ => 0))), (q9, .inl (cA.1, 320, .inl (fun _ => 0))), (q10, .inl (cA.1, 16, .inl (fun _ => 0)))]) 10 1376 85 [(0, .ref h0), (1, .ref n), (2, .ref r)] [.ref q10, .ref h0]
  refine b_putF (i := 0) (kf := 12) (C := RX3) (T := TX3) (N := 14) (ty := .array .int) hz hn (flX3_ok _ (List.mem_of_getElem? (i := 9) rfl)) rfl rfl ⟨rfl, rfl⟩ (by decide +kernel) ⟨rfl, rfl⟩ (Nat.le_of_ble_eq_true rfl) eX3_init_85 ?_
  show Bw ((l, D, cA, ad, A), y2) (wr ++ [(h0, .inr (3, [.null, .null, .int 0, .ref q1, .ref q2, .ref q3, .ref q4, .ref q5, .ref q6, .ref q7, .ref q8, .ref q9, .ref q10, .null])), (q1, .inl (cA.1, 16, .inl (fun _ => 0))), (q2, .inl (cA.1, 16, .inl (fun _ => 0))), (q3, .inl (cA.1, 16, .inl (fun _ => 0))), (q4, .inl (cA.1, 16, .inl (fun _ => 0))), (q5, .inl (cA.1, 16, .inl (fun _ => 0))), (q6, .inl (cA.1, 320, .inl (fun _ => 0))), (q7, .inl (cA.1, 320, .inl (fun _ => 0))), (q8, .inl (cA.1, 320, .inl (fun _ => 0))), (q9, .inl (cA.1, 320, .inl (fun _ => 0))), (q10, .inl (cA.1, 16, .inl (fun _ => 0)))]) 10 1376 88 [(0, .ref h0), (1, .ref n), (2, .ref r)] []
  refine b_aload hz rfl (j := 0) rfl eX3_init_88 ?_
  refine b_bipush (x := 16) hz (by decide) eX3_init_89 ?_
  refine b_newaZ (N := 16) hz (by decide) (by decide) (by decide) (Br_le hr (by decide) (by decide)) tv126 eX3_init_91 (fun q11 => ?_)
  show Bw ((l, D, cA, ad, A), y2) (wr ++ [(h0, .inr (3, [.null, .null, .int 0, .ref q1, .ref q2, .ref q3, .ref q4, .ref q5, .ref q6, .ref q7, .ref q8, .ref q9, .ref q10, .null])), (q1, .inl (cA.1, 16, .inl (fun _ => 0))), (q2, .inl (cA.1, 16, .inl (fun _ => 0))), (q3, .inl (cA.1, 16, .inl (fun _ => 0))), (q4, .inl (cA.1, 16, .inl (fun _ => 0))), (q5, .inl (cA.1, 16, .inl (fun _ => 0))), (q6, .inl (cA.1, 320, .inl (fun _ => 0))), (q7, .inl (cA.1, 320, .inl (fun _ => 0))), (q8, .inl (cA.1, 320, .inl (fun _ => 0))), (q9, .inl (cA.1, 320, .inl (fun _ => 0))), (q10, .inl (cA.1, 16, .inl (fun _ => 0))), (q11, .inl (cA.2.1, 16, .inl (fun _ => 0)))]) 11 1392 93 [(0, .ref h0), (1, .ref n), (2, .ref r)] [.ref q11, .ref h0]
  refine b_putF (i := 0) (kf := 13) (C := RX3) (T := TX3) (N := 14) (ty := .array .boolean) hz hn (flX3_ok _ (List.mem_of_getElem? (i := 10) rfl)) rfl rfl ⟨rfl, rfl⟩ (by decide +kernel) ⟨rfl, rfl⟩ (Nat.le_of_ble_eq_true rfl) eX3_init_93 ?_
  show Bw ((l, D, cA, ad, A), y2) (wr ++ [(h0, .inr (3, [.null, .null, .int 0, .ref q1, .ref q2, .ref q3, .ref q4, .ref q5, .ref q6, .ref q7, .ref q8, .ref q9, .ref q10, .ref q11])), (q1, .inl (cA.1, 16, .inl (fun _ => 0))), (q2, .inl (cA.1, 16, .inl (fun _ => 0))), (q3, .inl (cA.1, 16, .inl (fun _ => 0))), (q4, .inl (cA.1, 16, .inl (fun _ => 0))), (q5, .inl (cA.1, 16, .inl (fun _ => 0))), (q6, .inl (cA.1, 320, .inl (fun _ => 0))), (q7, .inl (cA.1, 320, .inl (fun _ => 0))), (q8, .inl (cA.1, 320, .inl (fun _ => 0))), (q9, .inl (cA.1, 320, .inl (fun _ => 0))), (q10, .inl (cA.1, 16, .inl (fun _ => 0))), (q11, .inl (cA.2.1, 16, .inl (fun _ => 0)))]) 11 1392 96 [(0, .ref h0), (1, .ref n), (2, .ref r)] []
  refine b_aload hz rfl (j := 0) rfl eX3_init_96 ?_
  refine b_aload hz rfl (j := 1) rfl eX3_init_97 ?_
  refine b_putF (i := 0) (kf := 0) (C := RX3) (T := TX3) (N := 14) (ty := .object "RoadTrace$Net") hz hn (flX3_ok _ (List.mem_of_getElem? (i := 11) rfl)) rfl rfl ⟨rfl, rfl⟩ (by decide +kernel) ⟨rfl, rfl⟩ (Nat.le_of_ble_eq_true rfl) eX3_init_98 ?_
  show Bw ((l, D, cA, ad, A), y2) (wr ++ [(h0, .inr (3, [.ref n, .null, .int 0, .ref q1, .ref q2, .ref q3, .ref q4, .ref q5, .ref q6, .ref q7, .ref q8, .ref q9, .ref q10, .ref q11])), (q1, .inl (cA.1, 16, .inl (fun _ => 0))), (q2, .inl (cA.1, 16, .inl (fun _ => 0))), (q3, .inl (cA.1, 16, .inl (fun _ => 0))), (q4, .inl (cA.1, 16, .inl (fun _ => 0))), (q5, .inl (cA.1, 16, .inl (fun _ => 0))), (q6, .inl (cA.1, 320, .inl (fun _ => 0))), (q7, .inl (cA.1, 320, .inl (fun _ => 0))), (q8, .inl (cA.1, 320, .inl (fun _ => 0))), (q9, .inl (cA.1, 320, .inl (fun _ => 0))), (q10, .inl (cA.1, 16, .inl (fun _ => 0))), (q11, .inl (cA.2.1, 16, .inl (fun _ => 0)))]) 11 1392 101 [(0, .ref h0), (1, .ref n), (2, .ref r)] []
  refine b_aload hz rfl (j := 0) rfl eX3_init_101 ?_
  refine b_aload hz rfl (j := 2) rfl eX3_init_102 ?_
  refine b_putF (i := 0) (kf := 1) (C := RX3) (T := TX3) (N := 14) (ty := .object "RoadTrace$Rules") hz hn (flX3_ok _ (List.mem_of_getElem? (i := 12) rfl)) rfl rfl ⟨rfl, rfl⟩ (by decide +kernel) ⟨rfl, rfl⟩ (Nat.le_of_ble_eq_true rfl) eX3_init_103 ?_
  show Bw ((l, D, cA, ad, A), y2) (wr ++ [(h0, .inr (3, [.ref n, .ref r, .int 0, .ref q1, .ref q2, .ref q3, .ref q4, .ref q5, .ref q6, .ref q7, .ref q8, .ref q9, .ref q10, .ref q11])), (q1, .inl (cA.1, 16, .inl (fun _ => 0))), (q2, .inl (cA.1, 16, .inl (fun _ => 0))), (q3, .inl (cA.1, 16, .inl (fun _ => 0))), (q4, .inl (cA.1, 16, .inl (fun _ => 0))), (q5, .inl (cA.1, 16, .inl (fun _ => 0))), (q6, .inl (cA.1, 320, .inl (fun _ => 0))), (q7, .inl (cA.1, 320, .inl (fun _ => 0))), (q8, .inl (cA.1, 320, .inl (fun _ => 0))), (q9, .inl (cA.1, 320, .inl (fun _ => 0))), (q10, .inl (cA.1, 16, .inl (fun _ => 0))), (q11, .inl (cA.2.1, 16, .inl (fun _ => 0)))]) 11 1392 106 [(0, .ref h0), (1, .ref n), (2, .ref r)] []
  exact b_vret hz hR ⟨fun k => [h0, q1, q2, q3, q4, q5, q6, q7, q8, q9, q10, q11].getD k 0, rfl, rfl⟩ eX3_init_106
theorem eX2_init_0 : decode prog_4_method_1_code 0 = .ok (.aload_n 0, 1) := by decide +kernel
theorem eX2_init_1 : decode prog_4_method_1_code 1 = .ok (.invokespecial 1, 3) := by decide +kernel
theorem eX2_init_4 : decode prog_4_method_1_code 4 = .ok (.aload_n 0, 1) := by decide +kernel
theorem eX2_init_5 : decode prog_4_method_1_code 5 = .ok (.new 7, 3) := by decide +kernel
theorem eX2_init_8 : decode prog_4_method_1_code 8 = .ok (.dup, 1) := by decide +kernel
theorem eX2_init_9 : decode prog_4_method_1_code 9 = .ok (.invokespecial 9, 3) := by decide +kernel
theorem eX2_init_12 : decode prog_4_method_1_code 12 = .ok (.putfield 10, 3) := by decide +kernel
theorem eX2_init_15 : decode prog_4_method_1_code 15 = .ok (.aload_n 0, 1) := by decide +kernel
theorem eX2_init_16 : decode prog_4_method_1_code 16 = .ok (.new 16, 3) := by decide +kernel
theorem eX2_init_19 : decode prog_4_method_1_code 19 = .ok (.dup, 1) := by decide +kernel
theorem eX2_init_20 : decode prog_4_method_1_code 20 = .ok (.invokespecial 18, 3) := by decide +kernel
theorem eX2_init_23 : decode prog_4_method_1_code 23 = .ok (.putfield 19, 3) := by decide +kernel
theorem eX2_init_26 : decode prog_4_method_1_code 26 = .ok (.aload_n 0, 1) := by decide +kernel
theorem eX2_init_27 : decode prog_4_method_1_code 27 = .ok (.new 23, 3) := by decide +kernel
theorem eX2_init_30 : decode prog_4_method_1_code 30 = .ok (.dup, 1) := by decide +kernel
theorem eX2_init_31 : decode prog_4_method_1_code 31 = .ok (.aload_n 0, 1) := by decide +kernel
theorem eX2_init_32 : decode prog_4_method_1_code 32 = .ok (.getfield 10, 3) := by decide +kernel
theorem eX2_init_35 : decode prog_4_method_1_code 35 = .ok (.aload_n 0, 1) := by decide +kernel
theorem eX2_init_36 : decode prog_4_method_1_code 36 = .ok (.getfield 19, 3) := by decide +kernel
theorem eX2_init_39 : decode prog_4_method_1_code 39 = .ok (.invokespecial 25, 3) := by decide +kernel
theorem eX2_init_42 : decode prog_4_method_1_code 42 = .ok (.putfield 28, 3) := by decide +kernel
theorem eX2_init_45 : decode prog_4_method_1_code 45 = .ok (.aload_n 0, 1) := by decide +kernel
theorem eX2_init_46 : decode prog_4_method_1_code 46 = .ok (.iconst 0, 1) := by decide +kernel
theorem eX2_init_47 : decode prog_4_method_1_code 47 = .ok (.putfield 32, 3) := by decide +kernel
theorem eX2_init_50 : decode prog_4_method_1_code 50 = .ok (.return_, 1) := by decide +kernel
def yX2_init : MethodName := ⟨RX2, "<init>", "()V"⟩
set_option maxRecDepth 100000 in
set_option maxHeartbeats 4000000 in
theorem cX2_init (g : Gx) (h0 : Nat) (wr : va_W) : Cn g yX2_init prog_4_method_1_code 1 2 34 22 1668 [.ref h0] (wr ++ [(h0, .inr (2, [.null, .null, .null, .int 0]))]) (fun ws => ∃ a : Nat → Nat, a 0 = h0 ∧ ws = wr ++ stateW g.2.2.1 a) := by
  refine n_of ⟨by decide +kernel, rfl, rfl⟩ (Nat.le_of_ble_eq_true rfl) (fun y hg hz hn hr hR => ?_)
  obtain ⟨⟨l, D, cA, ad, A⟩, y2⟩ := y
  subst hg
  refine b_aload hz rfl (j := 0) rfl eX2_init_0 ?_
  refine b_object hz ⟨tv23, tv16, tv17⟩ (by decide) eX2_init_1 ?_
  show Bw ((l, D, cA, ad, A), y2) (wr ++ [(h0, .inr (2, [.null, .null, .null, .int 0]))]) 0 0 4 [(0, .ref h0)] []
  refine b_aload hz rfl (j := 0) rfl eX2_init_4 ?_
  refine b_new (ci := 0) (C := RX0) (T := TX0) (N := 9) (fs := [.int 0, .int 0, .null, .null, .null, .null, .null, .null, .null]) hz rfl tyX0 tyX0_ok ⟨tv24, tv25, tv3⟩ (by decide +kernel) (Br_le hr (by decide) (by decide)) eX2_init_5 (fun q1 => ?_)
  show Bw ((l, D, cA, ad, A), y2) (wr ++ [(h0, .inr (2, [.null, .null, .null, .int 0])), (q1, .inr (0, [.int 0, .int 0, .null, .null, .null, .null, .null, .null, .null]))]) 1 9 8 [(0, .ref h0)] [.ref q1, .ref h0]
  refine b_dup hz rfl eX2_init_8 ?_
  refine b_call (w := [(h0, .inr (2, [.null, .null, .null, .int 0]))]) (as := []) (a := q1) (st := [.ref q1, .ref h0]) hz (cX0_init (l, D, cA, ad, A) q1 _) ⟨tv28, tv3, tv26, tv27, rfl, by decide +kernel, by decide +kernel⟩ 0 2 ⟨by decide +kernel, by decide, by decide, by decide⟩ rfl rfl (Br_le hr (by decide) (by decide)) eX2_init_9 ?_
  rintro ws ⟨a2, rfl, rfl⟩
  rw [List.append_assoc]
  show Bw ((l, D, cA, ad, A), y2) (wr ++ [(h0, .inr (2, [.null, .null, .null, .int 0])), ((a2 0), .inr (0, [.int 0, .int 0, .ref (a2 1), .ref (a2 2), .ref (a2 3), .ref (a2 4), .ref (a2 5), .ref (a2 6), .ref (a2 7)])), ((a2 1), .inl (cA.1, 12, .inl (fun _ => 0))), ((a2 2), .inl (cA.1, 12, .inl (fun _ => 0))), ((a2 3), .inl (cA.1, 20, .inl (fun _ => 0))), ((a2 4), .inl (cA.1, 20, .inl (fun _ => 0))), ((a2 5), .inl (cA.1, 20, .inl (fun _ => 0))), ((a2 6), .inl (cA.1, 20, .inl (fun _ => 0))), ((a2 7), .inl (cA.1, 144, .inl (fun _ => 0)))]) 8 257 12 [(0, .ref h0)] [.ref (a2 0), .ref h0]
  refine b_putF (i := 0) (kf := 0) (C := RX2) (T := TX2) (N := 4) (ty := .object "RoadTrace$Net") hz hn (flX2_ok _ (List.mem_of_getElem? (i := 0) rfl)) rfl rfl ⟨rfl, rfl⟩ (by decide +kernel) ⟨rfl, rfl⟩ (Nat.le_of_ble_eq_true rfl) eX2_init_12 ?_
  show Bw ((l, D, cA, ad, A), y2) (wr ++ [(h0, .inr (2, [.ref (a2 0), .null, .null, .int 0])), ((a2 0), .inr (0, [.int 0, .int 0, .ref (a2 1), .ref (a2 2), .ref (a2 3), .ref (a2 4), .ref (a2 5), .ref (a2 6), .ref (a2 7)])), ((a2 1), .inl (cA.1, 12, .inl (fun _ => 0))), ((a2 2), .inl (cA.1, 12, .inl (fun _ => 0))), ((a2 3), .inl (cA.1, 20, .inl (fun _ => 0))), ((a2 4), .inl (cA.1, 20, .inl (fun _ => 0))), ((a2 5), .inl (cA.1, 20, .inl (fun _ => 0))), ((a2 6), .inl (cA.1, 20, .inl (fun _ => 0))), ((a2 7), .inl (cA.1, 144, .inl (fun _ => 0)))]) 8 257 15 [(0, .ref h0)] []
  refine b_aload hz rfl (j := 0) rfl eX2_init_15 ?_
  refine b_new (ci := 1) (C := RX1) (T := TX1) (N := 1) (fs := [.null]) hz rfl tyX1 tyX1_ok ⟨tv62, tv63, tv4⟩ (by decide +kernel) (Br_le hr (by decide) (by decide)) eX2_init_16 (fun q3 => ?_)
  show Bw ((l, D, cA, ad, A), y2) (wr ++ [(h0, .inr (2, [.ref (a2 0), .null, .null, .int 0])), ((a2 0), .inr (0, [.int 0, .int 0, .ref (a2 1), .ref (a2 2), .ref (a2 3), .ref (a2 4), .ref (a2 5), .ref (a2 6), .ref (a2 7)])), ((a2 1), .inl (cA.1, 12, .inl (fun _ => 0))), ((a2 2), .inl (cA.1, 12, .inl (fun _ => 0))), ((a2 3), .inl (cA.1, 20, .inl (fun _ => 0))), ((a2 4), .inl (cA.1, 20, .inl (fun _ => 0))), ((a2 5), .inl (cA.1, 20, .inl (fun _ => 0))), ((a2 6), .inl (cA.1, 20, .inl (fun _ => 0))), ((a2 7), .inl (cA.1, 144, .inl (fun _ => 0))), (q3, .inr (1, [.null]))]) 9 258 19 [(0, .ref h0)] [.ref q3, .ref h0]
  refine b_dup hz rfl eX2_init_19 ?_
  refine b_call (w := [(h0, .inr (2, [.ref (a2 0), .null, .null, .int 0])), ((a2 0), .inr (0, [.int 0, .int 0, .ref (a2 1), .ref (a2 2), .ref (a2 3), .ref (a2 4), .ref (a2 5), .ref (a2 6), .ref (a2 7)])), ((a2 1), .inl (cA.1, 12, .inl (fun _ => 0))), ((a2 2), .inl (cA.1, 12, .inl (fun _ => 0))), ((a2 3), .inl (cA.1, 20, .inl (fun _ => 0))), ((a2 4), .inl (cA.1, 20, .inl (fun _ => 0))), ((a2 5), .inl (cA.1, 20, .inl (fun _ => 0))), ((a2 6), .inl (cA.1, 20, .inl (fun _ => 0))), ((a2 7), .inl (cA.1, 144, .inl (fun _ => 0)))]) (as := []) (a := q3) (st := [.ref q3, .ref h0]) hz (cX1_init (l, D, cA, ad, A) q3 _) ⟨tv66, tv4, tv64, tv65, rfl, by decide +kernel, by decide +kernel⟩ 0 2 ⟨by decide +kernel, by decide, by decide, by decide⟩ rfl rfl (Br_le hr (by decide) (by decide)) eX2_init_20 ?_
  rintro ws ⟨a4, rfl, rfl⟩
  rw [List.append_assoc]
  show Bw ((l, D, cA, ad, A), y2) (wr ++ [(h0, .inr (2, [.ref (a2 0), .null, .null, .int 0])), ((a2 0), .inr (0, [.int 0, .int 0, .ref (a2 1), .ref (a2 2), .ref (a2 3), .ref (a2 4), .ref (a2 5), .ref (a2 6), .ref (a2 7)])), ((a2 1), .inl (cA.1, 12, .inl (fun _ => 0))), ((a2 2), .inl (cA.1, 12, .inl (fun _ => 0))), ((a2 3), .inl (cA.1, 20, .inl (fun _ => 0))), ((a2 4), .inl (cA.1, 20, .inl (fun _ => 0))), ((a2 5), .inl (cA.1, 20, .inl (fun _ => 0))), ((a2 6), .inl (cA.1, 20, .inl (fun _ => 0))), ((a2 7), .inl (cA.1, 144, .inl (fun _ => 0))), ((a4 0), .inr (1, [.ref (a4 1)])), ((a4 1), .inl (cA.1, 4, .inl rl0))]) 10 262 23 [(0, .ref h0)] [.ref (a4 0), .ref h0]
  refine b_putF (i := 0) (kf := 1) (C := RX2) (T := TX2) (N := 4) (ty := .object "RoadTrace$Rules") hz hn (flX2_ok _ (List.mem_of_getElem? (i := 1) rfl)) rfl rfl ⟨rfl, rfl⟩ (by decide +kernel) ⟨rfl, rfl⟩ (Nat.le_of_ble_eq_true rfl) eX2_init_23 ?_
  show Bw ((l, D, cA, ad, A), y2) (wr ++ [(h0, .inr (2, [.ref (a2 0), .ref (a4 0), .null, .int 0])), ((a2 0), .inr (0, [.int 0, .int 0, .ref (a2 1), .ref (a2 2), .ref (a2 3), .ref (a2 4), .ref (a2 5), .ref (a2 6), .ref (a2 7)])), ((a2 1), .inl (cA.1, 12, .inl (fun _ => 0))), ((a2 2), .inl (cA.1, 12, .inl (fun _ => 0))), ((a2 3), .inl (cA.1, 20, .inl (fun _ => 0))), ((a2 4), .inl (cA.1, 20, .inl (fun _ => 0))), ((a2 5), .inl (cA.1, 20, .inl (fun _ => 0))), ((a2 6), .inl (cA.1, 20, .inl (fun _ => 0))), ((a2 7), .inl (cA.1, 144, .inl (fun _ => 0))), ((a4 0), .inr (1, [.ref (a4 1)])), ((a4 1), .inl (cA.1, 4, .inl rl0))]) 10 262 26 [(0, .ref h0)] []
  refine b_aload hz rfl (j := 0) rfl eX2_init_26 ?_
  refine b_new (ci := 3) (C := RX3) (T := TX3) (N := 14) (fs := [.null, .null, .int 0, .null, .null, .null, .null, .null, .null, .null, .null, .null, .null, .null]) hz rfl tyX3 tyX3_ok ⟨tv73, tv74, tv5⟩ (by decide +kernel) (Br_le hr (by decide) (by decide)) eX2_init_27 (fun q5 => ?_)
  show Bw ((l, D, cA, ad, A), y2) (wr ++ [(h0, .inr (2, [.ref (a2 0), .ref (a4 0), .null, .int 0])), ((a2 0), .inr (0, [.int 0, .int 0, .ref (a2 1), .ref (a2 2), .ref (a2 3), .ref (a2 4), .ref (a2 5), .ref (a2 6), .ref (a2 7)])), ((a2 1), .inl (cA.1, 12, .inl (fun _ => 0))), ((a2 2), .inl (cA.1, 12, .inl (fun _ => 0))), ((a2 3), .inl (cA.1, 20, .inl (fun _ => 0))), ((a2 4), .inl (cA.1, 20, .inl (fun _ => 0))), ((a2 5), .inl (cA.1, 20, .inl (fun _ => 0))), ((a2 6), .inl (cA.1, 20, .inl (fun _ => 0))), ((a2 7), .inl (cA.1, 144, .inl (fun _ => 0))), ((a4 0), .inr (1, [.ref (a4 1)])), ((a4 1), .inl (cA.1, 4, .inl rl0)), (q5, .inr (3, [.null, .null, .int 0, .null, .null, .null, .null, .null, .null, .null, .null, .null, .null, .null]))]) 11 276 30 [(0, .ref h0)] [.ref q5, .ref h0]
  refine b_dup hz rfl eX2_init_30 ?_
  refine b_aload hz rfl (j := 0) rfl eX2_init_31 ?_
  refine b_get (i := 0) (kf := 0) (v := .ref (a2 0)) (C := RX2) (T := TX2) (N := 4) hz (flX2_ok _ (List.mem_of_getElem? (i := 0) rfl)) rfl rfl rfl eX2_init_32 ?_
  refine b_aload hz rfl (j := 0) rfl eX2_init_35 ?_
  refine b_get (i := 0) (kf := 1) (v := .ref (a4 0)) (C := RX2) (T := TX2) (N := 4) hz (flX2_ok _ (List.mem_of_getElem? (i := 1) rfl)) rfl rfl rfl eX2_init_36 ?_
  refine b_call (w := [(h0, .inr (2, [.ref (a2 0), .ref (a4 0), .null, .int 0])), ((a2 0), .inr (0, [.int 0, .int 0, .ref (a2 1), .ref (a2 2), .ref (a2 3), .ref (a2 4), .ref (a2 5), .ref (a2 6), .ref (a2 7)])), ((a2 1), .inl (cA.1, 12, .inl (fun _ => 0))), ((a2 2), .inl (cA.1, 12, .inl (fun _ => 0))), ((a2 3), .inl (cA.1, 20, .inl (fun _ => 0))), ((a2 4), .inl (cA.1, 20, .inl (fun _ => 0))), ((a2 5), .inl (cA.1, 20, .inl (fun _ => 0))), ((a2 6), .inl (cA.1, 20, .inl (fun _ => 0))), ((a2 7), .inl (cA.1, 144, .inl (fun _ => 0))), ((a4 0), .inr (1, [.ref (a4 1)])), ((a4 1), .inl (cA.1, 4, .inl rl0))]) (as := [.ref (a2 0), .ref (a4 0)]) (a := q5) (st := [.ref q5, .ref h0]) hz (cX3_init (l, D, cA, ad, A) q5 (a2 0) (a4 0) _) ⟨tv77, tv5, tv75, tv76, rfl, by decide +kernel, by decide +kernel⟩ 2 2 ⟨by decide +kernel, by decide, by decide, by decide⟩ rfl rfl (Br_le hr (by decide) (by decide)) eX2_init_39 ?_
  rintro ws ⟨a6, rfl, rfl⟩
  rw [List.append_assoc]
  show Bw ((l, D, cA, ad, A), y2) (wr ++ [(h0, .inr (2, [.ref (a2 0), .ref (a4 0), .null, .int 0])), ((a2 0), .inr (0, [.int 0, .int 0, .ref (a2 1), .ref (a2 2), .ref (a2 3), .ref (a2 4), .ref (a2 5), .ref (a2 6), .ref (a2 7)])), ((a2 1), .inl (cA.1, 12, .inl (fun _ => 0))), ((a2 2), .inl (cA.1, 12, .inl (fun _ => 0))), ((a2 3), .inl (cA.1, 20, .inl (fun _ => 0))), ((a2 4), .inl (cA.1, 20, .inl (fun _ => 0))), ((a2 5), .inl (cA.1, 20, .inl (fun _ => 0))), ((a2 6), .inl (cA.1, 20, .inl (fun _ => 0))), ((a2 7), .inl (cA.1, 144, .inl (fun _ => 0))), ((a4 0), .inr (1, [.ref (a4 1)])), ((a4 1), .inl (cA.1, 4, .inl rl0)), ((a6 0), .inr (3, [.ref (a2 0), .ref (a4 0), .int 0, .ref (a6 1), .ref (a6 2), .ref (a6 3), .ref (a6 4), .ref (a6 5), .ref (a6 6), .ref (a6 7), .ref (a6 8), .ref (a6 9), .ref (a6 10), .ref (a6 11)])), ((a6 1), .inl (cA.1, 16, .inl (fun _ => 0))), ((a6 2), .inl (cA.1, 16, .inl (fun _ => 0))), ((a6 3), .inl (cA.1, 16, .inl (fun _ => 0))), ((a6 4), .inl (cA.1, 16, .inl (fun _ => 0))), ((a6 5), .inl (cA.1, 16, .inl (fun _ => 0))), ((a6 6), .inl (cA.1, 320, .inl (fun _ => 0))), ((a6 7), .inl (cA.1, 320, .inl (fun _ => 0))), ((a6 8), .inl (cA.1, 320, .inl (fun _ => 0))), ((a6 9), .inl (cA.1, 320, .inl (fun _ => 0))), ((a6 10), .inl (cA.1, 16, .inl (fun _ => 0))), ((a6 11), .inl (cA.2.1, 16, .inl (fun _ => 0)))]) 22 1668 42 [(0, .ref h0)] [.ref (a6 0), .ref h0]
  refine b_putF (i := 0) (kf := 2) (C := RX2) (T := TX2) (N := 4) (ty := .object "RoadTrace$Trace") hz hn (flX2_ok _ (List.mem_of_getElem? (i := 2) rfl)) rfl rfl ⟨rfl, rfl⟩ (by decide +kernel) ⟨rfl, rfl⟩ (Nat.le_of_ble_eq_true rfl) eX2_init_42 ?_
  show Bw ((l, D, cA, ad, A), y2) (wr ++ [(h0, .inr (2, [.ref (a2 0), .ref (a4 0), .ref (a6 0), .int 0])), ((a2 0), .inr (0, [.int 0, .int 0, .ref (a2 1), .ref (a2 2), .ref (a2 3), .ref (a2 4), .ref (a2 5), .ref (a2 6), .ref (a2 7)])), ((a2 1), .inl (cA.1, 12, .inl (fun _ => 0))), ((a2 2), .inl (cA.1, 12, .inl (fun _ => 0))), ((a2 3), .inl (cA.1, 20, .inl (fun _ => 0))), ((a2 4), .inl (cA.1, 20, .inl (fun _ => 0))), ((a2 5), .inl (cA.1, 20, .inl (fun _ => 0))), ((a2 6), .inl (cA.1, 20, .inl (fun _ => 0))), ((a2 7), .inl (cA.1, 144, .inl (fun _ => 0))), ((a4 0), .inr (1, [.ref (a4 1)])), ((a4 1), .inl (cA.1, 4, .inl rl0)), ((a6 0), .inr (3, [.ref (a2 0), .ref (a4 0), .int 0, .ref (a6 1), .ref (a6 2), .ref (a6 3), .ref (a6 4), .ref (a6 5), .ref (a6 6), .ref (a6 7), .ref (a6 8), .ref (a6 9), .ref (a6 10), .ref (a6 11)])), ((a6 1), .inl (cA.1, 16, .inl (fun _ => 0))), ((a6 2), .inl (cA.1, 16, .inl (fun _ => 0))), ((a6 3), .inl (cA.1, 16, .inl (fun _ => 0))), ((a6 4), .inl (cA.1, 16, .inl (fun _ => 0))), ((a6 5), .inl (cA.1, 16, .inl (fun _ => 0))), ((a6 6), .inl (cA.1, 320, .inl (fun _ => 0))), ((a6 7), .inl (cA.1, 320, .inl (fun _ => 0))), ((a6 8), .inl (cA.1, 320, .inl (fun _ => 0))), ((a6 9), .inl (cA.1, 320, .inl (fun _ => 0))), ((a6 10), .inl (cA.1, 16, .inl (fun _ => 0))), ((a6 11), .inl (cA.2.1, 16, .inl (fun _ => 0)))]) 22 1668 45 [(0, .ref h0)] []
  refine b_aload hz rfl (j := 0) rfl eX2_init_45 ?_
  refine b_iconst (x := 0) hz (by decide) eX2_init_46 ?_
  refine b_put (i := 0) (kf := 3) (C := RX2) (T := TX2) (N := 4) (ty := .boolean) hz (flX2_ok _ (List.mem_of_getElem? (i := 3) rfl)) rfl rfl rfl (by decide +kernel) ⟨rfl, rfl⟩ (Nat.le_of_ble_eq_true rfl) eX2_init_47 ?_
  show Bw ((l, D, cA, ad, A), y2) (wr ++ [(h0, .inr (2, [.ref (a2 0), .ref (a4 0), .ref (a6 0), .int 0])), ((a2 0), .inr (0, [.int 0, .int 0, .ref (a2 1), .ref (a2 2), .ref (a2 3), .ref (a2 4), .ref (a2 5), .ref (a2 6), .ref (a2 7)])), ((a2 1), .inl (cA.1, 12, .inl (fun _ => 0))), ((a2 2), .inl (cA.1, 12, .inl (fun _ => 0))), ((a2 3), .inl (cA.1, 20, .inl (fun _ => 0))), ((a2 4), .inl (cA.1, 20, .inl (fun _ => 0))), ((a2 5), .inl (cA.1, 20, .inl (fun _ => 0))), ((a2 6), .inl (cA.1, 20, .inl (fun _ => 0))), ((a2 7), .inl (cA.1, 144, .inl (fun _ => 0))), ((a4 0), .inr (1, [.ref (a4 1)])), ((a4 1), .inl (cA.1, 4, .inl rl0)), ((a6 0), .inr (3, [.ref (a2 0), .ref (a4 0), .int 0, .ref (a6 1), .ref (a6 2), .ref (a6 3), .ref (a6 4), .ref (a6 5), .ref (a6 6), .ref (a6 7), .ref (a6 8), .ref (a6 9), .ref (a6 10), .ref (a6 11)])), ((a6 1), .inl (cA.1, 16, .inl (fun _ => 0))), ((a6 2), .inl (cA.1, 16, .inl (fun _ => 0))), ((a6 3), .inl (cA.1, 16, .inl (fun _ => 0))), ((a6 4), .inl (cA.1, 16, .inl (fun _ => 0))), ((a6 5), .inl (cA.1, 16, .inl (fun _ => 0))), ((a6 6), .inl (cA.1, 320, .inl (fun _ => 0))), ((a6 7), .inl (cA.1, 320, .inl (fun _ => 0))), ((a6 8), .inl (cA.1, 320, .inl (fun _ => 0))), ((a6 9), .inl (cA.1, 320, .inl (fun _ => 0))), ((a6 10), .inl (cA.1, 16, .inl (fun _ => 0))), ((a6 11), .inl (cA.2.1, 16, .inl (fun _ => 0)))]) 22 1668 50 [(0, .ref h0)] []
  exact b_vret hz hR ⟨fun k => [h0, (a2 0), (a2 1), (a2 2), (a2 3), (a2 4), (a2 5), (a2 6), (a2 7), (a4 0), (a4 1), (a6 0), (a6 1), (a6 2), (a6 3), (a6 4), (a6 5), (a6 6), (a6 7), (a6 8), (a6 9), (a6 10), (a6 11)].getD k 0, rfl, rfl⟩ eX2_init_50
theorem eX5_init_0 : decode prog_7_method_1_code 0 = .ok (.aload_n 0, 1) := by decide +kernel
theorem eX5_init_1 : decode prog_7_method_1_code 1 = .ok (.invokespecial 1, 3) := by decide +kernel
theorem eX5_init_4 : decode prog_7_method_1_code 4 = .ok (.aload_n 0, 1) := by decide +kernel
theorem eX5_init_5 : decode prog_7_method_1_code 5 = .ok (.bipush 12, 2) := by decide +kernel
theorem eX5_init_7 : decode prog_7_method_1_code 7 = .ok (.newarray .int, 2) := by decide +kernel
theorem eX5_init_9 : decode prog_7_method_1_code 9 = .ok (.putfield 7, 3) := by decide +kernel
theorem eX5_init_12 : decode prog_7_method_1_code 12 = .ok (.aload_n 0, 1) := by decide +kernel
theorem eX5_init_13 : decode prog_7_method_1_code 13 = .ok (.bipush 12, 2) := by decide +kernel
theorem eX5_init_15 : decode prog_7_method_1_code 15 = .ok (.newarray .int, 2) := by decide +kernel
theorem eX5_init_17 : decode prog_7_method_1_code 17 = .ok (.putfield 13, 3) := by decide +kernel
theorem eX5_init_20 : decode prog_7_method_1_code 20 = .ok (.aload_n 0, 1) := by decide +kernel
theorem eX5_init_21 : decode prog_7_method_1_code 21 = .ok (.bipush 20, 2) := by decide +kernel
theorem eX5_init_23 : decode prog_7_method_1_code 23 = .ok (.newarray .int, 2) := by decide +kernel
theorem eX5_init_25 : decode prog_7_method_1_code 25 = .ok (.putfield 16, 3) := by decide +kernel
theorem eX5_init_28 : decode prog_7_method_1_code 28 = .ok (.aload_n 0, 1) := by decide +kernel
theorem eX5_init_29 : decode prog_7_method_1_code 29 = .ok (.bipush 20, 2) := by decide +kernel
theorem eX5_init_31 : decode prog_7_method_1_code 31 = .ok (.newarray .int, 2) := by decide +kernel
theorem eX5_init_33 : decode prog_7_method_1_code 33 = .ok (.putfield 19, 3) := by decide +kernel
theorem eX5_init_36 : decode prog_7_method_1_code 36 = .ok (.aload_n 0, 1) := by decide +kernel
theorem eX5_init_37 : decode prog_7_method_1_code 37 = .ok (.bipush 20, 2) := by decide +kernel
theorem eX5_init_39 : decode prog_7_method_1_code 39 = .ok (.newarray .int, 2) := by decide +kernel
theorem eX5_init_41 : decode prog_7_method_1_code 41 = .ok (.putfield 22, 3) := by decide +kernel
theorem eX5_init_44 : decode prog_7_method_1_code 44 = .ok (.aload_n 0, 1) := by decide +kernel
theorem eX5_init_45 : decode prog_7_method_1_code 45 = .ok (.iconst 4, 1) := by decide +kernel
theorem eX5_init_46 : decode prog_7_method_1_code 46 = .ok (.newarray .int, 2) := by decide +kernel
theorem eX5_init_48 : decode prog_7_method_1_code 48 = .ok (.putfield 25, 3) := by decide +kernel
theorem eX5_init_51 : decode prog_7_method_1_code 51 = .ok (.aload_n 0, 1) := by decide +kernel
theorem eX5_init_52 : decode prog_7_method_1_code 52 = .ok (.bipush 16, 2) := by decide +kernel
theorem eX5_init_54 : decode prog_7_method_1_code 54 = .ok (.newarray .int, 2) := by decide +kernel
theorem eX5_init_56 : decode prog_7_method_1_code 56 = .ok (.putfield 28, 3) := by decide +kernel
theorem eX5_init_59 : decode prog_7_method_1_code 59 = .ok (.aload_n 0, 1) := by decide +kernel
theorem eX5_init_60 : decode prog_7_method_1_code 60 = .ok (.bipush 16, 2) := by decide +kernel
theorem eX5_init_62 : decode prog_7_method_1_code 62 = .ok (.newarray .int, 2) := by decide +kernel
theorem eX5_init_64 : decode prog_7_method_1_code 64 = .ok (.putfield 31, 3) := by decide +kernel
theorem eX5_init_67 : decode prog_7_method_1_code 67 = .ok (.aload_n 0, 1) := by decide +kernel
theorem eX5_init_68 : decode prog_7_method_1_code 68 = .ok (.sipush 144, 3) := by decide +kernel
theorem eX5_init_71 : decode prog_7_method_1_code 71 = .ok (.newarray .int, 2) := by decide +kernel
theorem eX5_init_73 : decode prog_7_method_1_code 73 = .ok (.putfield 34, 3) := by decide +kernel
theorem eX5_init_76 : decode prog_7_method_1_code 76 = .ok (.aload_n 0, 1) := by decide +kernel
theorem eX5_init_77 : decode prog_7_method_1_code 77 = .ok (.sipush 320, 3) := by decide +kernel
theorem eX5_init_80 : decode prog_7_method_1_code 80 = .ok (.newarray .int, 2) := by decide +kernel
theorem eX5_init_82 : decode prog_7_method_1_code 82 = .ok (.putfield 37, 3) := by decide +kernel
theorem eX5_init_85 : decode prog_7_method_1_code 85 = .ok (.aload_n 0, 1) := by decide +kernel
theorem eX5_init_86 : decode prog_7_method_1_code 86 = .ok (.sipush 320, 3) := by decide +kernel
theorem eX5_init_89 : decode prog_7_method_1_code 89 = .ok (.newarray .int, 2) := by decide +kernel
theorem eX5_init_91 : decode prog_7_method_1_code 91 = .ok (.putfield 40, 3) := by decide +kernel
theorem eX5_init_94 : decode prog_7_method_1_code 94 = .ok (.aload_n 0, 1) := by decide +kernel
theorem eX5_init_95 : decode prog_7_method_1_code 95 = .ok (.sipush 320, 3) := by decide +kernel
theorem eX5_init_98 : decode prog_7_method_1_code 98 = .ok (.newarray .int, 2) := by decide +kernel
theorem eX5_init_100 : decode prog_7_method_1_code 100 = .ok (.putfield 43, 3) := by decide +kernel
theorem eX5_init_103 : decode prog_7_method_1_code 103 = .ok (.aload_n 0, 1) := by decide +kernel
theorem eX5_init_104 : decode prog_7_method_1_code 104 = .ok (.sipush 320, 3) := by decide +kernel
theorem eX5_init_107 : decode prog_7_method_1_code 107 = .ok (.newarray .int, 2) := by decide +kernel
theorem eX5_init_109 : decode prog_7_method_1_code 109 = .ok (.putfield 46, 3) := by decide +kernel
theorem eX5_init_112 : decode prog_7_method_1_code 112 = .ok (.aload_n 0, 1) := by decide +kernel
theorem eX5_init_113 : decode prog_7_method_1_code 113 = .ok (.bipush 16, 2) := by decide +kernel
theorem eX5_init_115 : decode prog_7_method_1_code 115 = .ok (.newarray .int, 2) := by decide +kernel
theorem eX5_init_117 : decode prog_7_method_1_code 117 = .ok (.putfield 49, 3) := by decide +kernel
theorem eX5_init_120 : decode prog_7_method_1_code 120 = .ok (.aload_n 0, 1) := by decide +kernel
theorem eX5_init_121 : decode prog_7_method_1_code 121 = .ok (.bipush 16, 2) := by decide +kernel
theorem eX5_init_123 : decode prog_7_method_1_code 123 = .ok (.newarray .int, 2) := by decide +kernel
theorem eX5_init_125 : decode prog_7_method_1_code 125 = .ok (.putfield 52, 3) := by decide +kernel
theorem eX5_init_128 : decode prog_7_method_1_code 128 = .ok (.aload_n 0, 1) := by decide +kernel
theorem eX5_init_129 : decode prog_7_method_1_code 129 = .ok (.bipush 16, 2) := by decide +kernel
theorem eX5_init_131 : decode prog_7_method_1_code 131 = .ok (.newarray .int, 2) := by decide +kernel
theorem eX5_init_133 : decode prog_7_method_1_code 133 = .ok (.putfield 55, 3) := by decide +kernel
theorem eX5_init_136 : decode prog_7_method_1_code 136 = .ok (.aload_n 0, 1) := by decide +kernel
theorem eX5_init_137 : decode prog_7_method_1_code 137 = .ok (.bipush 16, 2) := by decide +kernel
theorem eX5_init_139 : decode prog_7_method_1_code 139 = .ok (.newarray .int, 2) := by decide +kernel
theorem eX5_init_141 : decode prog_7_method_1_code 141 = .ok (.putfield 58, 3) := by decide +kernel
theorem eX5_init_144 : decode prog_7_method_1_code 144 = .ok (.aload_n 0, 1) := by decide +kernel
theorem eX5_init_145 : decode prog_7_method_1_code 145 = .ok (.sipush 260, 3) := by decide +kernel
theorem eX5_init_148 : decode prog_7_method_1_code 148 = .ok (.newarray .int, 2) := by decide +kernel
theorem eX5_init_150 : decode prog_7_method_1_code 150 = .ok (.putfield 61, 3) := by decide +kernel
theorem eX5_init_153 : decode prog_7_method_1_code 153 = .ok (.aload_n 0, 1) := by decide +kernel
theorem eX5_init_154 : decode prog_7_method_1_code 154 = .ok (.iconst 2, 1) := by decide +kernel
theorem eX5_init_155 : decode prog_7_method_1_code 155 = .ok (.newarray .boolean, 2) := by decide +kernel
theorem eX5_init_157 : decode prog_7_method_1_code 157 = .ok (.putfield 64, 3) := by decide +kernel
theorem eX5_init_160 : decode prog_7_method_1_code 160 = .ok (.aload_n 0, 1) := by decide +kernel
theorem eX5_init_161 : decode prog_7_method_1_code 161 = .ok (.getfield 25, 3) := by decide +kernel
theorem eX5_init_164 : decode prog_7_method_1_code 164 = .ok (.iconst 0, 1) := by decide +kernel
theorem eX5_init_165 : decode prog_7_method_1_code 165 = .ok (.iconst 4, 1) := by decide +kernel
theorem eX5_init_166 : decode prog_7_method_1_code 166 = .ok (.iastore, 1) := by decide +kernel
theorem eX5_init_167 : decode prog_7_method_1_code 167 = .ok (.aload_n 0, 1) := by decide +kernel
theorem eX5_init_168 : decode prog_7_method_1_code 168 = .ok (.getfield 25, 3) := by decide +kernel
theorem eX5_init_171 : decode prog_7_method_1_code 171 = .ok (.iconst 1, 1) := by decide +kernel
theorem eX5_init_172 : decode prog_7_method_1_code 172 = .ok (.iconst 1, 1) := by decide +kernel
theorem eX5_init_173 : decode prog_7_method_1_code 173 = .ok (.iastore, 1) := by decide +kernel
theorem eX5_init_174 : decode prog_7_method_1_code 174 = .ok (.aload_n 0, 1) := by decide +kernel
theorem eX5_init_175 : decode prog_7_method_1_code 175 = .ok (.getfield 25, 3) := by decide +kernel
theorem eX5_init_178 : decode prog_7_method_1_code 178 = .ok (.iconst 2, 1) := by decide +kernel
theorem eX5_init_179 : decode prog_7_method_1_code 179 = .ok (.iconst 1, 1) := by decide +kernel
theorem eX5_init_180 : decode prog_7_method_1_code 180 = .ok (.iastore, 1) := by decide +kernel
theorem eX5_init_181 : decode prog_7_method_1_code 181 = .ok (.aload_n 0, 1) := by decide +kernel
theorem eX5_init_182 : decode prog_7_method_1_code 182 = .ok (.getfield 25, 3) := by decide +kernel
theorem eX5_init_185 : decode prog_7_method_1_code 185 = .ok (.iconst 3, 1) := by decide +kernel
theorem eX5_init_186 : decode prog_7_method_1_code 186 = .ok (.bipush 40, 2) := by decide +kernel
theorem eX5_init_188 : decode prog_7_method_1_code 188 = .ok (.iastore, 1) := by decide +kernel
theorem eX5_init_189 : decode prog_7_method_1_code 189 = .ok (.return_, 1) := by decide +kernel
def yX5_init : MethodName := ⟨RX5, "<init>", "()V"⟩
set_option maxRecDepth 100000 in
set_option maxHeartbeats 4000000 in
theorem cX5_init (g : Gx) (h0 : Nat) (wr : va_W) : Cn g yX5_init prog_7_method_1_code 1 1 12 19 1870 [.ref h0] (wr ++ [(h0, .inr (5, [.null, .null, .int 0, .null, .null, .null, .int 0, .null, .null, .null, .int 0, .null, .null, .null, .null, .null, .null, .null, .null, .null, .int 0, .null, .null]))]) (fun ws => ∃ a : Nat → Nat, a 0 = h0 ∧ ws = wr ++ modelW g.2.2.1 a) := by
  refine n_of ⟨by decide +kernel, rfl, rfl⟩ (Nat.le_of_ble_eq_true rfl) (fun y hg hz hn hr hR => ?_)
  obtain ⟨⟨l, D, cA, ad, A⟩, y2⟩ := y
  subst hg
  refine b_aload hz rfl (j := 0) rfl eX5_init_0 ?_
  refine b_object hz ⟨tv529, tv16, tv17⟩ (by decide) eX5_init_1 ?_
  show Bw ((l, D, cA, ad, A), y2) (wr ++ [(h0, .inr (5, [.null, .null, .int 0, .null, .null, .null, .int 0, .null, .null, .null, .int 0, .null, .null, .null, .null, .null, .null, .null, .null, .null, .int 0, .null, .null]))]) 0 0 4 [(0, .ref h0)] []
  refine b_aload hz rfl (j := 0) rfl eX5_init_4 ?_
  refine b_bipush (x := 12) hz (by decide) eX5_init_5 ?_
  refine b_newaI (N := 12) hz (by decide) (by decide) (by decide) (Br_le hr (by decide) (by decide)) tv61 eX5_init_7 (fun q1 => ?_)
  show Bw ((l, D, cA, ad, A), y2) (wr ++ [(h0, .inr (5, [.null, .null, .int 0, .null, .null, .null, .int 0, .null, .null, .null, .int 0, .null, .null, .null, .null, .null, .null, .null, .null, .null, .int 0, .null, .null])), (q1, .inl (cA.1, 12, .inl (fun _ => 0)))]) 1 12 9 [(0, .ref h0)] [.ref q1, .ref h0]
  refine b_putF (i := 0) (kf := 0) (C := RX5) (T := TX5) (N := 23) (ty := .array .int) hz hn (flX5_ok _ (List.mem_of_getElem? (i := 0) rfl)) rfl rfl ⟨rfl, rfl⟩ (by decide +kernel) ⟨rfl, rfl⟩ (Nat.le_of_ble_eq_true rfl) eX5_init_9 ?_
  show Bw ((l, D, cA, ad, A), y2) (wr ++ [(h0, .inr (5, [.ref q1, .null, .int 0, .null, .null, .null, .int 0, .null, .null, .null, .int 0, .null, .null, .null, .null, .null, .null, .null, .null, .null, .int 0, .null, .null])), (q1, .inl (cA.1, 12, .inl (fun _ => 0)))]) 1 12 12 [(0, .ref h0)] []
  refine b_aload hz rfl (j := 0) rfl eX5_init_12 ?_
  refine b_bipush (x := 12) hz (by decide) eX5_init_13 ?_
  refine b_newaI (N := 12) hz (by decide) (by decide) (by decide) (Br_le hr (by decide) (by decide)) tv61 eX5_init_15 (fun q2 => ?_)
  show Bw ((l, D, cA, ad, A), y2) (wr ++ [(h0, .inr (5, [.ref q1, .null, .int 0, .null, .null, .null, .int 0, .null, .null, .null, .int 0, .null, .null, .null, .null, .null, .null, .null, .null, .null, .int 0, .null, .null])), (q1, .inl (cA.1, 12, .inl (fun _ => 0))), (q2, .inl (cA.1, 12, .inl (fun _ => 0)))]) 2 24 17 [(0, .ref h0)] [.ref q2, .ref h0]
  refine b_putF (i := 0) (kf := 1) (C := RX5) (T := TX5) (N := 23) (ty := .array .int) hz hn (flX5_ok _ (List.mem_of_getElem? (i := 1) rfl)) rfl rfl ⟨rfl, rfl⟩ (by decide +kernel) ⟨rfl, rfl⟩ (Nat.le_of_ble_eq_true rfl) eX5_init_17 ?_
  show Bw ((l, D, cA, ad, A), y2) (wr ++ [(h0, .inr (5, [.ref q1, .ref q2, .int 0, .null, .null, .null, .int 0, .null, .null, .null, .int 0, .null, .null, .null, .null, .null, .null, .null, .null, .null, .int 0, .null, .null])), (q1, .inl (cA.1, 12, .inl (fun _ => 0))), (q2, .inl (cA.1, 12, .inl (fun _ => 0)))]) 2 24 20 [(0, .ref h0)] []
  refine b_aload hz rfl (j := 0) rfl eX5_init_20 ?_
  refine b_bipush (x := 20) hz (by decide) eX5_init_21 ?_
  refine b_newaI (N := 20) hz (by decide) (by decide) (by decide) (Br_le hr (by decide) (by decide)) tv61 eX5_init_23 (fun q3 => ?_)
  show Bw ((l, D, cA, ad, A), y2) (wr ++ [(h0, .inr (5, [.ref q1, .ref q2, .int 0, .null, .null, .null, .int 0, .null, .null, .null, .int 0, .null, .null, .null, .null, .null, .null, .null, .null, .null, .int 0, .null, .null])), (q1, .inl (cA.1, 12, .inl (fun _ => 0))), (q2, .inl (cA.1, 12, .inl (fun _ => 0))), (q3, .inl (cA.1, 20, .inl (fun _ => 0)))]) 3 44 25 [(0, .ref h0)] [.ref q3, .ref h0]
  refine b_putF (i := 0) (kf := 3) (C := RX5) (T := TX5) (N := 23) (ty := .array .int) hz hn (flX5_ok _ (List.mem_of_getElem? (i := 2) rfl)) rfl rfl ⟨rfl, rfl⟩ (by decide +kernel) ⟨rfl, rfl⟩ (Nat.le_of_ble_eq_true rfl) eX5_init_25 ?_
  show Bw ((l, D, cA, ad, A), y2) (wr ++ [(h0, .inr (5, [.ref q1, .ref q2, .int 0, .ref q3, .null, .null, .int 0, .null, .null, .null, .int 0, .null, .null, .null, .null, .null, .null, .null, .null, .null, .int 0, .null, .null])), (q1, .inl (cA.1, 12, .inl (fun _ => 0))), (q2, .inl (cA.1, 12, .inl (fun _ => 0))), (q3, .inl (cA.1, 20, .inl (fun _ => 0)))]) 3 44 28 [(0, .ref h0)] []
  refine b_aload hz rfl (j := 0) rfl eX5_init_28 ?_
  refine b_bipush (x := 20) hz (by decide) eX5_init_29 ?_
  refine b_newaI (N := 20) hz (by decide) (by decide) (by decide) (Br_le hr (by decide) (by decide)) tv61 eX5_init_31 (fun q4 => ?_)
  show Bw ((l, D, cA, ad, A), y2) (wr ++ [(h0, .inr (5, [.ref q1, .ref q2, .int 0, .ref q3, .null, .null, .int 0, .null, .null, .null, .int 0, .null, .null, .null, .null, .null, .null, .null, .null, .null, .int 0, .null, .null])), (q1, .inl (cA.1, 12, .inl (fun _ => 0))), (q2, .inl (cA.1, 12, .inl (fun _ => 0))), (q3, .inl (cA.1, 20, .inl (fun _ => 0))), (q4, .inl (cA.1, 20, .inl (fun _ => 0)))]) 4 64 33 [(0, .ref h0)] [.ref q4, .ref h0]
  refine b_putF (i := 0) (kf := 4) (C := RX5) (T := TX5) (N := 23) (ty := .array .int) hz hn (flX5_ok _ (List.mem_of_getElem? (i := 3) rfl)) rfl rfl ⟨rfl, rfl⟩ (by decide +kernel) ⟨rfl, rfl⟩ (Nat.le_of_ble_eq_true rfl) eX5_init_33 ?_
  show Bw ((l, D, cA, ad, A), y2) (wr ++ [(h0, .inr (5, [.ref q1, .ref q2, .int 0, .ref q3, .ref q4, .null, .int 0, .null, .null, .null, .int 0, .null, .null, .null, .null, .null, .null, .null, .null, .null, .int 0, .null, .null])), (q1, .inl (cA.1, 12, .inl (fun _ => 0))), (q2, .inl (cA.1, 12, .inl (fun _ => 0))), (q3, .inl (cA.1, 20, .inl (fun _ => 0))), (q4, .inl (cA.1, 20, .inl (fun _ => 0)))]) 4 64 36 [(0, .ref h0)] []
  refine b_aload hz rfl (j := 0) rfl eX5_init_36 ?_
  refine b_bipush (x := 20) hz (by decide) eX5_init_37 ?_
  refine b_newaI (N := 20) hz (by decide) (by decide) (by decide) (Br_le hr (by decide) (by decide)) tv61 eX5_init_39 (fun q5 => ?_)
  show Bw ((l, D, cA, ad, A), y2) (wr ++ [(h0, .inr (5, [.ref q1, .ref q2, .int 0, .ref q3, .ref q4, .null, .int 0, .null, .null, .null, .int 0, .null, .null, .null, .null, .null, .null, .null, .null, .null, .int 0, .null, .null])), (q1, .inl (cA.1, 12, .inl (fun _ => 0))), (q2, .inl (cA.1, 12, .inl (fun _ => 0))), (q3, .inl (cA.1, 20, .inl (fun _ => 0))), (q4, .inl (cA.1, 20, .inl (fun _ => 0))), (q5, .inl (cA.1, 20, .inl (fun _ => 0)))]) 5 84 41 [(0, .ref h0)] [.ref q5, .ref h0]
  refine b_putF (i := 0) (kf := 5) (C := RX5) (T := TX5) (N := 23) (ty := .array .int) hz hn (flX5_ok _ (List.mem_of_getElem? (i := 4) rfl)) rfl rfl ⟨rfl, rfl⟩ (by decide +kernel) ⟨rfl, rfl⟩ (Nat.le_of_ble_eq_true rfl) eX5_init_41 ?_
  show Bw ((l, D, cA, ad, A), y2) (wr ++ [(h0, .inr (5, [.ref q1, .ref q2, .int 0, .ref q3, .ref q4, .ref q5, .int 0, .null, .null, .null, .int 0, .null, .null, .null, .null, .null, .null, .null, .null, .null, .int 0, .null, .null])), (q1, .inl (cA.1, 12, .inl (fun _ => 0))), (q2, .inl (cA.1, 12, .inl (fun _ => 0))), (q3, .inl (cA.1, 20, .inl (fun _ => 0))), (q4, .inl (cA.1, 20, .inl (fun _ => 0))), (q5, .inl (cA.1, 20, .inl (fun _ => 0)))]) 5 84 44 [(0, .ref h0)] []
  refine b_aload hz rfl (j := 0) rfl eX5_init_44 ?_
  refine b_iconst (x := 4) hz (by decide) eX5_init_45 ?_
  refine b_newaI (N := 4) hz (by decide) (by decide) (by decide) (Br_le hr (by decide) (by decide)) tv61 eX5_init_46 (fun q6 => ?_)
  show Bw ((l, D, cA, ad, A), y2) (wr ++ [(h0, .inr (5, [.ref q1, .ref q2, .int 0, .ref q3, .ref q4, .ref q5, .int 0, .null, .null, .null, .int 0, .null, .null, .null, .null, .null, .null, .null, .null, .null, .int 0, .null, .null])), (q1, .inl (cA.1, 12, .inl (fun _ => 0))), (q2, .inl (cA.1, 12, .inl (fun _ => 0))), (q3, .inl (cA.1, 20, .inl (fun _ => 0))), (q4, .inl (cA.1, 20, .inl (fun _ => 0))), (q5, .inl (cA.1, 20, .inl (fun _ => 0))), (q6, .inl (cA.1, 4, .inl (fun _ => 0)))]) 6 88 48 [(0, .ref h0)] [.ref q6, .ref h0]
  refine b_putF (i := 0) (kf := 7) (C := RX5) (T := TX5) (N := 23) (ty := .array .int) hz hn (flX5_ok _ (List.mem_of_getElem? (i := 5) rfl)) rfl rfl ⟨rfl, rfl⟩ (by decide +kernel) ⟨rfl, rfl⟩ (Nat.le_of_ble_eq_true rfl) eX5_init_48 ?_
  show Bw ((l, D, cA, ad, A), y2) (wr ++ [(h0, .inr (5, [.ref q1, .ref q2, .int 0, .ref q3, .ref q4, .ref q5, .int 0, .ref q6, .null, .null, .int 0, .null, .null, .null, .null, .null, .null, .null, .null, .null, .int 0, .null, .null])), (q1, .inl (cA.1, 12, .inl (fun _ => 0))), (q2, .inl (cA.1, 12, .inl (fun _ => 0))), (q3, .inl (cA.1, 20, .inl (fun _ => 0))), (q4, .inl (cA.1, 20, .inl (fun _ => 0))), (q5, .inl (cA.1, 20, .inl (fun _ => 0))), (q6, .inl (cA.1, 4, .inl (fun _ => 0)))]) 6 88 51 [(0, .ref h0)] []
  refine b_aload hz rfl (j := 0) rfl eX5_init_51 ?_
  refine b_bipush (x := 16) hz (by decide) eX5_init_52 ?_
  refine b_newaI (N := 16) hz (by decide) (by decide) (by decide) (Br_le hr (by decide) (by decide)) tv61 eX5_init_54 (fun q7 => ?_)
  show Bw ((l, D, cA, ad, A), y2) (wr ++ [(h0, .inr (5, [.ref q1, .ref q2, .int 0, .ref q3, .ref q4, .ref q5, .int 0, .ref q6, .null, .null, .int 0, .null, .null, .null, .null, .null, .null, .null, .null, .null, .int 0, .null, .null])), (q1, .inl (cA.1, 12, .inl (fun _ => 0))), (q2, .inl (cA.1, 12, .inl (fun _ => 0))), (q3, .inl (cA.1, 20, .inl (fun _ => 0))), (q4, .inl (cA.1, 20, .inl (fun _ => 0))), (q5, .inl (cA.1, 20, .inl (fun _ => 0))), (q6, .inl (cA.1, 4, .inl (fun _ => 0))), (q7, .inl (cA.1, 16, .inl (fun _ => 0)))]) 7 104 56 [(0, .ref h0)] [.ref q7, .ref h0]
  refine b_putF (i := 0) (kf := 8) (C := RX5) (T := TX5) (N := 23) (ty := .array .int) hz hn (flX5_ok _ (List.mem_of_getElem? (i := 6) rfl)) rfl rfl ⟨rfl, rfl⟩ (by decide +kernel) ⟨rfl, rfl⟩ (Nat.le_of_ble_eq_true rfl) eX5_init_56 ?_
  show Bw ((l, D, cA, ad, A), y2) (wr ++ [(h0, .inr (5, [.ref q1, .ref q2, .int 0, .ref q3, .ref q4, .ref q5, .int 0, .ref q6, .ref q7, .null, .int 0, .null, .null, .null, .null, .null, .null, .null, .null, .null, .int 0, .null, .null])), (q1, .inl (cA.1, 12, .inl (fun _ => 0))), (q2, .inl (cA.1, 12, .inl (fun _ => 0))), (q3, .inl (cA.1, 20, .inl (fun _ => 0))), (q4, .inl (cA.1, 20, .inl (fun _ => 0))), (q5, .inl (cA.1, 20, .inl (fun _ => 0))), (q6, .inl (cA.1, 4, .inl (fun _ => 0))), (q7, .inl (cA.1, 16, .inl (fun _ => 0)))]) 7 104 59 [(0, .ref h0)] []
  refine b_aload hz rfl (j := 0) rfl eX5_init_59 ?_
  refine b_bipush (x := 16) hz (by decide) eX5_init_60 ?_
  refine b_newaI (N := 16) hz (by decide) (by decide) (by decide) (Br_le hr (by decide) (by decide)) tv61 eX5_init_62 (fun q8 => ?_)
  show Bw ((l, D, cA, ad, A), y2) (wr ++ [(h0, .inr (5, [.ref q1, .ref q2, .int 0, .ref q3, .ref q4, .ref q5, .int 0, .ref q6, .ref q7, .null, .int 0, .null, .null, .null, .null, .null, .null, .null, .null, .null, .int 0, .null, .null])), (q1, .inl (cA.1, 12, .inl (fun _ => 0))), (q2, .inl (cA.1, 12, .inl (fun _ => 0))), (q3, .inl (cA.1, 20, .inl (fun _ => 0))), (q4, .inl (cA.1, 20, .inl (fun _ => 0))), (q5, .inl (cA.1, 20, .inl (fun _ => 0))), (q6, .inl (cA.1, 4, .inl (fun _ => 0))), (q7, .inl (cA.1, 16, .inl (fun _ => 0))), (q8, .inl (cA.1, 16, .inl (fun _ => 0)))]) 8 120 64 [(0, .ref h0)] [.ref q8, .ref h0]
  refine b_putF (i := 0) (kf := 9) (C := RX5) (T := TX5) (N := 23) (ty := .array .int) hz hn (flX5_ok _ (List.mem_of_getElem? (i := 7) rfl)) rfl rfl ⟨rfl, rfl⟩ (by decide +kernel) ⟨rfl, rfl⟩ (Nat.le_of_ble_eq_true rfl) eX5_init_64 ?_
  show Bw ((l, D, cA, ad, A), y2) (wr ++ [(h0, .inr (5, [.ref q1, .ref q2, .int 0, .ref q3, .ref q4, .ref q5, .int 0, .ref q6, .ref q7, .ref q8, .int 0, .null, .null, .null, .null, .null, .null, .null, .null, .null, .int 0, .null, .null])), (q1, .inl (cA.1, 12, .inl (fun _ => 0))), (q2, .inl (cA.1, 12, .inl (fun _ => 0))), (q3, .inl (cA.1, 20, .inl (fun _ => 0))), (q4, .inl (cA.1, 20, .inl (fun _ => 0))), (q5, .inl (cA.1, 20, .inl (fun _ => 0))), (q6, .inl (cA.1, 4, .inl (fun _ => 0))), (q7, .inl (cA.1, 16, .inl (fun _ => 0))), (q8, .inl (cA.1, 16, .inl (fun _ => 0)))]) 8 120 67 [(0, .ref h0)] []
  refine b_aload hz rfl (j := 0) rfl eX5_init_67 ?_
  refine b_sipush (x := 144) hz (by decide) eX5_init_68 ?_
  refine b_newaI (N := 144) hz (by decide) (by decide) (by decide) (Br_le hr (by decide) (by decide)) tv61 eX5_init_71 (fun q9 => ?_)
  show Bw ((l, D, cA, ad, A), y2) (wr ++ [(h0, .inr (5, [.ref q1, .ref q2, .int 0, .ref q3, .ref q4, .ref q5, .int 0, .ref q6, .ref q7, .ref q8, .int 0, .null, .null, .null, .null, .null, .null, .null, .null, .null, .int 0, .null, .null])), (q1, .inl (cA.1, 12, .inl (fun _ => 0))), (q2, .inl (cA.1, 12, .inl (fun _ => 0))), (q3, .inl (cA.1, 20, .inl (fun _ => 0))), (q4, .inl (cA.1, 20, .inl (fun _ => 0))), (q5, .inl (cA.1, 20, .inl (fun _ => 0))), (q6, .inl (cA.1, 4, .inl (fun _ => 0))), (q7, .inl (cA.1, 16, .inl (fun _ => 0))), (q8, .inl (cA.1, 16, .inl (fun _ => 0))), (q9, .inl (cA.1, 144, .inl (fun _ => 0)))]) 9 264 73 [(0, .ref h0)] [.ref q9, .ref h0]
  refine b_putF (i := 0) (kf := 11) (C := RX5) (T := TX5) (N := 23) (ty := .array .int) hz hn (flX5_ok _ (List.mem_of_getElem? (i := 8) rfl)) rfl rfl ⟨rfl, rfl⟩ (by decide +kernel) ⟨rfl, rfl⟩ (Nat.le_of_ble_eq_true rfl) eX5_init_73 ?_
  show Bw ((l, D, cA, ad, A), y2) (wr ++ [(h0, .inr (5, [.ref q1, .ref q2, .int 0, .ref q3, .ref q4, .ref q5, .int 0, .ref q6, .ref q7, .ref q8, .int 0, .ref q9, .null, .null, .null, .null, .null, .null, .null, .null, .int 0, .null, .null])), (q1, .inl (cA.1, 12, .inl (fun _ => 0))), (q2, .inl (cA.1, 12, .inl (fun _ => 0))), (q3, .inl (cA.1, 20, .inl (fun _ => 0))), (q4, .inl (cA.1, 20, .inl (fun _ => 0))), (q5, .inl (cA.1, 20, .inl (fun _ => 0))), (q6, .inl (cA.1, 4, .inl (fun _ => 0))), (q7, .inl (cA.1, 16, .inl (fun _ => 0))), (q8, .inl (cA.1, 16, .inl (fun _ => 0))), (q9, .inl (cA.1, 144, .inl (fun _ => 0)))]) 9 264 76 [(0, .ref h0)] []
  refine b_aload hz rfl (j := 0) rfl eX5_init_76 ?_
  refine b_sipush (x := 320) hz (by decide) eX5_init_77 ?_
  refine b_newaI (N := 320) hz (by decide) (by decide) (by decide) (Br_le hr (by decide) (by decide)) tv61 eX5_init_80 (fun q10 => ?_)
  show Bw ((l, D, cA, ad, A), y2) (wr ++ [(h0, .inr (5, [.ref q1, .ref q2, .int 0, .ref q3, .ref q4, .ref q5, .int 0, .ref q6, .ref q7, .ref q8, .int 0, .ref q9, .null, .null, .null, .null, .null, .null, .null, .null, .int 0, .null, .null])), (q1, .inl (cA.1, 12, .inl (fun _ => 0))), (q2, .inl (cA.1, 12, .inl (fun _ => 0))), (q3, .inl (cA.1, 20, .inl (fun _ => 0))), (q4, .inl (cA.1, 20, .inl (fun _ => 0))), (q5, .inl (cA.1, 20, .inl (fun _ => 0))), (q6, .inl (cA.1, 4, .inl (fun _ => 0))), (q7, .inl (cA.1, 16, .inl (fun _ => 0))), (q8, .inl (cA.1, 16, .inl (fun _ => 0))), (q9, .inl (cA.1, 144, .inl (fun _ => 0))), (q10, .inl (cA.1, 320, .inl (fun _ => 0)))]) 10 584 82 [(0, .ref h0)] [.ref q10, .ref h0]
  refine b_putF (i := 0) (kf := 12) (C := RX5) (T := TX5) (N := 23) (ty := .array .int) hz hn (flX5_ok _ (List.mem_of_getElem? (i := 9) rfl)) rfl rfl ⟨rfl, rfl⟩ (by decide +kernel) ⟨rfl, rfl⟩ (Nat.le_of_ble_eq_true rfl) eX5_init_82 ?_
  show Bw ((l, D, cA, ad, A), y2) (wr ++ [(h0, .inr (5, [.ref q1, .ref q2, .int 0, .ref q3, .ref q4, .ref q5, .int 0, .ref q6, .ref q7, .ref q8, .int 0, .ref q9, .ref q10, .null, .null, .null, .null, .null, .null, .null, .int 0, .null, .null])), (q1, .inl (cA.1, 12, .inl (fun _ => 0))), (q2, .inl (cA.1, 12, .inl (fun _ => 0))), (q3, .inl (cA.1, 20, .inl (fun _ => 0))), (q4, .inl (cA.1, 20, .inl (fun _ => 0))), (q5, .inl (cA.1, 20, .inl (fun _ => 0))), (q6, .inl (cA.1, 4, .inl (fun _ => 0))), (q7, .inl (cA.1, 16, .inl (fun _ => 0))), (q8, .inl (cA.1, 16, .inl (fun _ => 0))), (q9, .inl (cA.1, 144, .inl (fun _ => 0))), (q10, .inl (cA.1, 320, .inl (fun _ => 0)))]) 10 584 85 [(0, .ref h0)] []
  refine b_aload hz rfl (j := 0) rfl eX5_init_85 ?_
  refine b_sipush (x := 320) hz (by decide) eX5_init_86 ?_
  refine b_newaI (N := 320) hz (by decide) (by decide) (by decide) (Br_le hr (by decide) (by decide)) tv61 eX5_init_89 (fun q11 => ?_)
  show Bw ((l, D, cA, ad, A), y2) (wr ++ [(h0, .inr (5, [.ref q1, .ref q2, .int 0, .ref q3, .ref q4, .ref q5, .int 0, .ref q6, .ref q7, .ref q8, .int 0, .ref q9, .ref q10, .null, .null, .null, .null, .null, .null, .null, .int 0, .null, .null])), (q1, .inl (cA.1, 12, .inl (fun _ => 0))), (q2, .inl (cA.1, 12, .inl (fun _ => 0))), (q3, .inl (cA.1, 20, .inl (fun _ => 0))), (q4, .inl (cA.1, 20, .inl (fun _ => 0))), (q5, .inl (cA.1, 20, .inl (fun _ => 0))), (q6, .inl (cA.1, 4, .inl (fun _ => 0))), (q7, .inl (cA.1, 16, .inl (fun _ => 0))), (q8, .inl (cA.1, 16, .inl (fun _ => 0))), (q9, .inl (cA.1, 144, .inl (fun _ => 0))), (q10, .inl (cA.1, 320, .inl (fun _ => 0))), (q11, .inl (cA.1, 320, .inl (fun _ => 0)))]) 11 904 91 [(0, .ref h0)] [.ref q11, .ref h0]
  refine b_putF (i := 0) (kf := 13) (C := RX5) (T := TX5) (N := 23) (ty := .array .int) hz hn (flX5_ok _ (List.mem_of_getElem? (i := 10) rfl)) rfl rfl ⟨rfl, rfl⟩ (by decide +kernel) ⟨rfl, rfl⟩ (Nat.le_of_ble_eq_true rfl) eX5_init_91 ?_
  show Bw ((l, D, cA, ad, A), y2) (wr ++ [(h0, .inr (5, [.ref q1, .ref q2, .int 0, .ref q3, .ref q4, .ref q5, .int 0, .ref q6, .ref q7, .ref q8, .int 0, .ref q9, .ref q10, .ref q11, .null, .null, .null, .null, .null, .null, .int 0, .null, .null])), (q1, .inl (cA.1, 12, .inl (fun _ => 0))), (q2, .inl (cA.1, 12, .inl (fun _ => 0))), (q3, .inl (cA.1, 20, .inl (fun _ => 0))), (q4, .inl (cA.1, 20, .inl (fun _ => 0))), (q5, .inl (cA.1, 20, .inl (fun _ => 0))), (q6, .inl (cA.1, 4, .inl (fun _ => 0))), (q7, .inl (cA.1, 16, .inl (fun _ => 0))), (q8, .inl (cA.1, 16, .inl (fun _ => 0))), (q9, .inl (cA.1, 144, .inl (fun _ => 0))), (q10, .inl (cA.1, 320, .inl (fun _ => 0))), (q11, .inl (cA.1, 320, .inl (fun _ => 0)))]) 11 904 94 [(0, .ref h0)] []
  refine b_aload hz rfl (j := 0) rfl eX5_init_94 ?_
  refine b_sipush (x := 320) hz (by decide) eX5_init_95 ?_
  refine b_newaI (N := 320) hz (by decide) (by decide) (by decide) (Br_le hr (by decide) (by decide)) tv61 eX5_init_98 (fun q12 => ?_)
  show Bw ((l, D, cA, ad, A), y2) (wr ++ [(h0, .inr (5, [.ref q1, .ref q2, .int 0, .ref q3, .ref q4, .ref q5, .int 0, .ref q6, .ref q7, .ref q8, .int 0, .ref q9, .ref q10, .ref q11, .null, .null, .null, .null, .null, .null, .int 0, .null, .null])), (q1, .inl (cA.1, 12, .inl (fun _ => 0))), (q2, .inl (cA.1, 12, .inl (fun _ => 0))), (q3, .inl (cA.1, 20, .inl (fun _ => 0))), (q4, .inl (cA.1, 20, .inl (fun _ => 0))), (q5, .inl (cA.1, 20, .inl (fun _ => 0))), (q6, .inl (cA.1, 4, .inl (fun _ => 0))), (q7, .inl (cA.1, 16, .inl (fun _ => 0))), (q8, .inl (cA.1, 16, .inl (fun _ => 0))), (q9, .inl (cA.1, 144, .inl (fun _ => 0))), (q10, .inl (cA.1, 320, .inl (fun _ => 0))), (q11, .inl (cA.1, 320, .inl (fun _ => 0))), (q12, .inl (cA.1, 320, .inl (fun _ => 0)))]) 12 1224 100 [(0, .ref h0)] [.ref q12, .ref h0]
  refine b_putF (i := 0) (kf := 14) (C := RX5) (T := TX5) (N := 23) (ty := .array .int) hz hn (flX5_ok _ (List.mem_of_getElem? (i := 11) rfl)) rfl rfl ⟨rfl, rfl⟩ (by decide +kernel) ⟨rfl, rfl⟩ (Nat.le_of_ble_eq_true rfl) eX5_init_100 ?_
  show Bw ((l, D, cA, ad, A), y2) (wr ++ [(h0, .inr (5, [.ref q1, .ref q2, .int 0, .ref q3, .ref q4, .ref q5, .int 0, .ref q6, .ref q7, .ref q8, .int 0, .ref q9, .ref q10, .ref q11, .ref q12, .null, .null, .null, .null, .null, .int 0, .null, .null])), (q1, .inl (cA.1, 12, .inl (fun _ => 0))), (q2, .inl (cA.1, 12, .inl (fun _ => 0))), (q3, .inl (cA.1, 20, .inl (fun _ => 0))), (q4, .inl (cA.1, 20, .inl (fun _ => 0))), (q5, .inl (cA.1, 20, .inl (fun _ => 0))), (q6, .inl (cA.1, 4, .inl (fun _ => 0))), (q7, .inl (cA.1, 16, .inl (fun _ => 0))), (q8, .inl (cA.1, 16, .inl (fun _ => 0))), (q9, .inl (cA.1, 144, .inl (fun _ => 0))), (q10, .inl (cA.1, 320, .inl (fun _ => 0))), (q11, .inl (cA.1, 320, .inl (fun _ => 0))), (q12, .inl (cA.1, 320, .inl (fun _ => 0)))]) 12 1224 103 [(0, .ref h0)] []
  refine b_aload hz rfl (j := 0) rfl eX5_init_103 ?_
  refine b_sipush (x := 320) hz (by decide) eX5_init_104 ?_
  refine b_newaI (N := 320) hz (by decide) (by decide) (by decide) (Br_le hr (by decide) (by decide)) tv61 eX5_init_107 (fun q13 => ?_)
  show Bw ((l, D, cA, ad, A), y2) (wr ++ [(h0, .inr (5, [.ref q1, .ref q2, .int 0, .ref q3, .ref q4, .ref q5, .int 0, .ref q6, .ref q7, .ref q8, .int 0, .ref q9, .ref q10, .ref q11, .ref q12, .null, .null, .null, .null, .null, .int 0, .null, .null])), (q1, .inl (cA.1, 12, .inl (fun _ => 0))), (q2, .inl (cA.1, 12, .inl (fun _ => 0))), (q3, .inl (cA.1, 20, .inl (fun _ => 0))), (q4, .inl (cA.1, 20, .inl (fun _ => 0))), (q5, .inl (cA.1, 20, .inl (fun _ => 0))), (q6, .inl (cA.1, 4, .inl (fun _ => 0))), (q7, .inl (cA.1, 16, .inl (fun _ => 0))), (q8, .inl (cA.1, 16, .inl (fun _ => 0))), (q9, .inl (cA.1, 144, .inl (fun _ => 0))), (q10, .inl (cA.1, 320, .inl (fun _ => 0))), (q11, .inl (cA.1, 320, .inl (fun _ => 0))), (q12, .inl (cA.1, 320, .inl (fun _ => 0))), (q13, .inl (cA.1, 320, .inl (fun _ => 0)))]) 13 1544 109 [(0, .ref h0)] [.ref q13, .ref h0]
  refine b_putF (i := 0) (kf := 15) (C := RX5) (T := TX5) (N := 23) (ty := .array .int) hz hn (flX5_ok _ (List.mem_of_getElem? (i := 12) rfl)) rfl rfl ⟨rfl, rfl⟩ (by decide +kernel) ⟨rfl, rfl⟩ (Nat.le_of_ble_eq_true rfl) eX5_init_109 ?_
  show Bw ((l, D, cA, ad, A), y2) (wr ++ [(h0, .inr (5, [.ref q1, .ref q2, .int 0, .ref q3, .ref q4, .ref q5, .int 0, .ref q6, .ref q7, .ref q8, .int 0, .ref q9, .ref q10, .ref q11, .ref q12, .ref q13, .null, .null, .null, .null, .int 0, .null, .null])), (q1, .inl (cA.1, 12, .inl (fun _ => 0))), (q2, .inl (cA.1, 12, .inl (fun _ => 0))), (q3, .inl (cA.1, 20, .inl (fun _ => 0))), (q4, .inl (cA.1, 20, .inl (fun _ => 0))), (q5, .inl (cA.1, 20, .inl (fun _ => 0))), (q6, .inl (cA.1, 4, .inl (fun _ => 0))), (q7, .inl (cA.1, 16, .inl (fun _ => 0))), (q8, .inl (cA.1, 16, .inl (fun _ => 0))), (q9, .inl (cA.1, 144, .inl (fun _ => 0))), (q10, .inl (cA.1, 320, .inl (fun _ => 0))), (q11, .inl (cA.1, 320, .inl (fun _ => 0))), (q12, .inl (cA.1, 320, .inl (fun _ => 0))), (q13, .inl (cA.1, 320, .inl (fun _ => 0)))]) 13 1544 112 [(0, .ref h0)] []
  refine b_aload hz rfl (j := 0) rfl eX5_init_112 ?_
  refine b_bipush (x := 16) hz (by decide) eX5_init_113 ?_
  refine b_newaI (N := 16) hz (by decide) (by decide) (by decide) (Br_le hr (by decide) (by decide)) tv61 eX5_init_115 (fun q14 => ?_)
  show Bw ((l, D, cA, ad, A), y2) (wr ++ [(h0, .inr (5, [.ref q1, .ref q2, .int 0, .ref q3, .ref q4, .ref q5, .int 0, .ref q6, .ref q7, .ref q8, .int 0, .ref q9, .ref q10, .ref q11, .ref q12, .ref q13, .null, .null, .null, .null, .int 0, .null, .null])), (q1, .inl (cA.1, 12, .inl (fun _ => 0))), (q2, .inl (cA.1, 12, .inl (fun _ => 0))), (q3, .inl (cA.1, 20, .inl (fun _ => 0))), (q4, .inl (cA.1, 20, .inl (fun _ => 0))), (q5, .inl (cA.1, 20, .inl (fun _ => 0))), (q6, .inl (cA.1, 4, .inl (fun _ => 0))), (q7, .inl (cA.1, 16, .inl (fun _ => 0))), (q8, .inl (cA.1, 16, .inl (fun _ => 0))), (q9, .inl (cA.1, 144, .inl (fun _ => 0))), (q10, .inl (cA.1, 320, .inl (fun _ => 0))), (q11, .inl (cA.1, 320, .inl (fun _ => 0))), (q12, .inl (cA.1, 320, .inl (fun _ => 0))), (q13, .inl (cA.1, 320, .inl (fun _ => 0))), (q14, .inl (cA.1, 16, .inl (fun _ => 0)))]) 14 1560 117 [(0, .ref h0)] [.ref q14, .ref h0]
  refine b_putF (i := 0) (kf := 16) (C := RX5) (T := TX5) (N := 23) (ty := .array .int) hz hn (flX5_ok _ (List.mem_of_getElem? (i := 13) rfl)) rfl rfl ⟨rfl, rfl⟩ (by decide +kernel) ⟨rfl, rfl⟩ (Nat.le_of_ble_eq_true rfl) eX5_init_117 ?_
  show Bw ((l, D, cA, ad, A), y2) (wr ++ [(h0, .inr (5, [.ref q1, .ref q2, .int 0, .ref q3, .ref q4, .ref q5, .int 0, .ref q6, .ref q7, .ref q8, .int 0, .ref q9, .ref q10, .ref q11, .ref q12, .ref q13, .ref q14, .null, .null, .null, .int 0, .null, .null])), (q1, .inl (cA.1, 12, .inl (fun _ => 0))), (q2, .inl (cA.1, 12, .inl (fun _ => 0))), (q3, .inl (cA.1, 20, .inl (fun _ => 0))), (q4, .inl (cA.1, 20, .inl (fun _ => 0))), (q5, .inl (cA.1, 20, .inl (fun _ => 0))), (q6, .inl (cA.1, 4, .inl (fun _ => 0))), (q7, .inl (cA.1, 16, .inl (fun _ => 0))), (q8, .inl (cA.1, 16, .inl (fun _ => 0))), (q9, .inl (cA.1, 144, .inl (fun _ => 0))), (q10, .inl (cA.1, 320, .inl (fun _ => 0))), (q11, .inl (cA.1, 320, .inl (fun _ => 0))), (q12, .inl (cA.1, 320, .inl (fun _ => 0))), (q13, .inl (cA.1, 320, .inl (fun _ => 0))), (q14, .inl (cA.1, 16, .inl (fun _ => 0)))]) 14 1560 120 [(0, .ref h0)] []
  refine b_aload hz rfl (j := 0) rfl eX5_init_120 ?_
  refine b_bipush (x := 16) hz (by decide) eX5_init_121 ?_
  refine b_newaI (N := 16) hz (by decide) (by decide) (by decide) (Br_le hr (by decide) (by decide)) tv61 eX5_init_123 (fun q15 => ?_)
  show Bw ((l, D, cA, ad, A), y2) (wr ++ [(h0, .inr (5, [.ref q1, .ref q2, .int 0, .ref q3, .ref q4, .ref q5, .int 0, .ref q6, .ref q7, .ref q8, .int 0, .ref q9, .ref q10, .ref q11, .ref q12, .ref q13, .ref q14, .null, .null, .null, .int 0, .null, .null])), (q1, .inl (cA.1, 12, .inl (fun _ => 0))), (q2, .inl (cA.1, 12, .inl (fun _ => 0))), (q3, .inl (cA.1, 20, .inl (fun _ => 0))), (q4, .inl (cA.1, 20, .inl (fun _ => 0))), (q5, .inl (cA.1, 20, .inl (fun _ => 0))), (q6, .inl (cA.1, 4, .inl (fun _ => 0))), (q7, .inl (cA.1, 16, .inl (fun _ => 0))), (q8, .inl (cA.1, 16, .inl (fun _ => 0))), (q9, .inl (cA.1, 144, .inl (fun _ => 0))), (q10, .inl (cA.1, 320, .inl (fun _ => 0))), (q11, .inl (cA.1, 320, .inl (fun _ => 0))), (q12, .inl (cA.1, 320, .inl (fun _ => 0))), (q13, .inl (cA.1, 320, .inl (fun _ => 0))), (q14, .inl (cA.1, 16, .inl (fun _ => 0))), (q15, .inl (cA.1, 16, .inl (fun _ => 0)))]) 15 1576 125 [(0, .ref h0)] [.ref q15, .ref h0]
  refine b_putF (i := 0) (kf := 17) (C := RX5) (T := TX5) (N := 23) (ty := .array .int) hz hn (flX5_ok _ (List.mem_of_getElem? (i := 14) rfl)) rfl rfl ⟨rfl, rfl⟩ (by decide +kernel) ⟨rfl, rfl⟩ (Nat.le_of_ble_eq_true rfl) eX5_init_125 ?_
  show Bw ((l, D, cA, ad, A), y2) (wr ++ [(h0, .inr (5, [.ref q1, .ref q2, .int 0, .ref q3, .ref q4, .ref q5, .int 0, .ref q6, .ref q7, .ref q8, .int 0, .ref q9, .ref q10, .ref q11, .ref q12, .ref q13, .ref q14, .ref q15, .null, .null, .int 0, .null, .null])), (q1, .inl (cA.1, 12, .inl (fun _ => 0))), (q2, .inl (cA.1, 12, .inl (fun _ => 0))), (q3, .inl (cA.1, 20, .inl (fun _ => 0))), (q4, .inl (cA.1, 20, .inl (fun _ => 0))), (q5, .inl (cA.1, 20, .inl (fun _ => 0))), (q6, .inl (cA.1, 4, .inl (fun _ => 0))), (q7, .inl (cA.1, 16, .inl (fun _ => 0))), (q8, .inl (cA.1, 16, .inl (fun _ => 0))), (q9, .inl (cA.1, 144, .inl (fun _ => 0))), (q10, .inl (cA.1, 320, .inl (fun _ => 0))), (q11, .inl (cA.1, 320, .inl (fun _ => 0))), (q12, .inl (cA.1, 320, .inl (fun _ => 0))), (q13, .inl (cA.1, 320, .inl (fun _ => 0))), (q14, .inl (cA.1, 16, .inl (fun _ => 0))), (q15, .inl (cA.1, 16, .inl (fun _ => 0)))]) 15 1576 128 [(0, .ref h0)] []
  refine b_aload hz rfl (j := 0) rfl eX5_init_128 ?_
  refine b_bipush (x := 16) hz (by decide) eX5_init_129 ?_
  refine b_newaI (N := 16) hz (by decide) (by decide) (by decide) (Br_le hr (by decide) (by decide)) tv61 eX5_init_131 (fun q16 => ?_)
  show Bw ((l, D, cA, ad, A), y2) (wr ++ [(h0, .inr (5, [.ref q1, .ref q2, .int 0, .ref q3, .ref q4, .ref q5, .int 0, .ref q6, .ref q7, .ref q8, .int 0, .ref q9, .ref q10, .ref q11, .ref q12, .ref q13, .ref q14, .ref q15, .null, .null, .int 0, .null, .null])), (q1, .inl (cA.1, 12, .inl (fun _ => 0))), (q2, .inl (cA.1, 12, .inl (fun _ => 0))), (q3, .inl (cA.1, 20, .inl (fun _ => 0))), (q4, .inl (cA.1, 20, .inl (fun _ => 0))), (q5, .inl (cA.1, 20, .inl (fun _ => 0))), (q6, .inl (cA.1, 4, .inl (fun _ => 0))), (q7, .inl (cA.1, 16, .inl (fun _ => 0))), (q8, .inl (cA.1, 16, .inl (fun _ => 0))), (q9, .inl (cA.1, 144, .inl (fun _ => 0))), (q10, .inl (cA.1, 320, .inl (fun _ => 0))), (q11, .inl (cA.1, 320, .inl (fun _ => 0))), (q12, .inl (cA.1, 320, .inl (fun _ => 0))), (q13, .inl (cA.1, 320, .inl (fun _ => 0))), (q14, .inl (cA.1, 16, .inl (fun _ => 0))), (q15, .inl (cA.1, 16, .inl (fun _ => 0))), (q16, .inl (cA.1, 16, .inl (fun _ => 0)))]) 16 1592 133 [(0, .ref h0)] [.ref q16, .ref h0]
  refine b_putF (i := 0) (kf := 18) (C := RX5) (T := TX5) (N := 23) (ty := .array .int) hz hn (flX5_ok _ (List.mem_of_getElem? (i := 15) rfl)) rfl rfl ⟨rfl, rfl⟩ (by decide +kernel) ⟨rfl, rfl⟩ (Nat.le_of_ble_eq_true rfl) eX5_init_133 ?_
  show Bw ((l, D, cA, ad, A), y2) (wr ++ [(h0, .inr (5, [.ref q1, .ref q2, .int 0, .ref q3, .ref q4, .ref q5, .int 0, .ref q6, .ref q7, .ref q8, .int 0, .ref q9, .ref q10, .ref q11, .ref q12, .ref q13, .ref q14, .ref q15, .ref q16, .null, .int 0, .null, .null])), (q1, .inl (cA.1, 12, .inl (fun _ => 0))), (q2, .inl (cA.1, 12, .inl (fun _ => 0))), (q3, .inl (cA.1, 20, .inl (fun _ => 0))), (q4, .inl (cA.1, 20, .inl (fun _ => 0))), (q5, .inl (cA.1, 20, .inl (fun _ => 0))), (q6, .inl (cA.1, 4, .inl (fun _ => 0))), (q7, .inl (cA.1, 16, .inl (fun _ => 0))), (q8, .inl (cA.1, 16, .inl (fun _ => 0))), (q9, .inl (cA.1, 144, .inl (fun _ => 0))), (q10, .inl (cA.1, 320, .inl (fun _ => 0))), (q11, .inl (cA.1, 320, .inl (fun _ => 0))), (q12, .inl (cA.1, 320, .inl (fun _ => 0))), (q13, .inl (cA.1, 320, .inl (fun _ => 0))), (q14, .inl (cA.1, 16, .inl (fun _ => 0))), (q15, .inl (cA.1, 16, .inl (fun _ => 0))), (q16, .inl (cA.1, 16, .inl (fun _ => 0)))]) 16 1592 136 [(0, .ref h0)] []
  refine b_aload hz rfl (j := 0) rfl eX5_init_136 ?_
  refine b_bipush (x := 16) hz (by decide) eX5_init_137 ?_
  refine b_newaI (N := 16) hz (by decide) (by decide) (by decide) (Br_le hr (by decide) (by decide)) tv61 eX5_init_139 (fun q17 => ?_)
  show Bw ((l, D, cA, ad, A), y2) (wr ++ [(h0, .inr (5, [.ref q1, .ref q2, .int 0, .ref q3, .ref q4, .ref q5, .int 0, .ref q6, .ref q7, .ref q8, .int 0, .ref q9, .ref q10, .ref q11, .ref q12, .ref q13, .ref q14, .ref q15, .ref q16, .null, .int 0, .null, .null])), (q1, .inl (cA.1, 12, .inl (fun _ => 0))), (q2, .inl (cA.1, 12, .inl (fun _ => 0))), (q3, .inl (cA.1, 20, .inl (fun _ => 0))), (q4, .inl (cA.1, 20, .inl (fun _ => 0))), (q5, .inl (cA.1, 20, .inl (fun _ => 0))), (q6, .inl (cA.1, 4, .inl (fun _ => 0))), (q7, .inl (cA.1, 16, .inl (fun _ => 0))), (q8, .inl (cA.1, 16, .inl (fun _ => 0))), (q9, .inl (cA.1, 144, .inl (fun _ => 0))), (q10, .inl (cA.1, 320, .inl (fun _ => 0))), (q11, .inl (cA.1, 320, .inl (fun _ => 0))), (q12, .inl (cA.1, 320, .inl (fun _ => 0))), (q13, .inl (cA.1, 320, .inl (fun _ => 0))), (q14, .inl (cA.1, 16, .inl (fun _ => 0))), (q15, .inl (cA.1, 16, .inl (fun _ => 0))), (q16, .inl (cA.1, 16, .inl (fun _ => 0))), (q17, .inl (cA.1, 16, .inl (fun _ => 0)))]) 17 1608 141 [(0, .ref h0)] [.ref q17, .ref h0]
  refine b_putF (i := 0) (kf := 19) (C := RX5) (T := TX5) (N := 23) (ty := .array .int) hz hn (flX5_ok _ (List.mem_of_getElem? (i := 16) rfl)) rfl rfl ⟨rfl, rfl⟩ (by decide +kernel) ⟨rfl, rfl⟩ (Nat.le_of_ble_eq_true rfl) eX5_init_141 ?_
  show Bw ((l, D, cA, ad, A), y2) (wr ++ [(h0, .inr (5, [.ref q1, .ref q2, .int 0, .ref q3, .ref q4, .ref q5, .int 0, .ref q6, .ref q7, .ref q8, .int 0, .ref q9, .ref q10, .ref q11, .ref q12, .ref q13, .ref q14, .ref q15, .ref q16, .ref q17, .int 0, .null, .null])), (q1, .inl (cA.1, 12, .inl (fun _ => 0))), (q2, .inl (cA.1, 12, .inl (fun _ => 0))), (q3, .inl (cA.1, 20, .inl (fun _ => 0))), (q4, .inl (cA.1, 20, .inl (fun _ => 0))), (q5, .inl (cA.1, 20, .inl (fun _ => 0))), (q6, .inl (cA.1, 4, .inl (fun _ => 0))), (q7, .inl (cA.1, 16, .inl (fun _ => 0))), (q8, .inl (cA.1, 16, .inl (fun _ => 0))), (q9, .inl (cA.1, 144, .inl (fun _ => 0))), (q10, .inl (cA.1, 320, .inl (fun _ => 0))), (q11, .inl (cA.1, 320, .inl (fun _ => 0))), (q12, .inl (cA.1, 320, .inl (fun _ => 0))), (q13, .inl (cA.1, 320, .inl (fun _ => 0))), (q14, .inl (cA.1, 16, .inl (fun _ => 0))), (q15, .inl (cA.1, 16, .inl (fun _ => 0))), (q16, .inl (cA.1, 16, .inl (fun _ => 0))), (q17, .inl (cA.1, 16, .inl (fun _ => 0)))]) 17 1608 144 [(0, .ref h0)] []
  refine b_aload hz rfl (j := 0) rfl eX5_init_144 ?_
  refine b_sipush (x := 260) hz (by decide) eX5_init_145 ?_
  refine b_newaI (N := 260) hz (by decide) (by decide) (by decide) (Br_le hr (by decide) (by decide)) tv61 eX5_init_148 (fun q18 => ?_)
  show Bw ((l, D, cA, ad, A), y2) (wr ++ [(h0, .inr (5, [.ref q1, .ref q2, .int 0, .ref q3, .ref q4, .ref q5, .int 0, .ref q6, .ref q7, .ref q8, .int 0, .ref q9, .ref q10, .ref q11, .ref q12, .ref q13, .ref q14, .ref q15, .ref q16, .ref q17, .int 0, .null, .null])), (q1, .inl (cA.1, 12, .inl (fun _ => 0))), (q2, .inl (cA.1, 12, .inl (fun _ => 0))), (q3, .inl (cA.1, 20, .inl (fun _ => 0))), (q4, .inl (cA.1, 20, .inl (fun _ => 0))), (q5, .inl (cA.1, 20, .inl (fun _ => 0))), (q6, .inl (cA.1, 4, .inl (fun _ => 0))), (q7, .inl (cA.1, 16, .inl (fun _ => 0))), (q8, .inl (cA.1, 16, .inl (fun _ => 0))), (q9, .inl (cA.1, 144, .inl (fun _ => 0))), (q10, .inl (cA.1, 320, .inl (fun _ => 0))), (q11, .inl (cA.1, 320, .inl (fun _ => 0))), (q12, .inl (cA.1, 320, .inl (fun _ => 0))), (q13, .inl (cA.1, 320, .inl (fun _ => 0))), (q14, .inl (cA.1, 16, .inl (fun _ => 0))), (q15, .inl (cA.1, 16, .inl (fun _ => 0))), (q16, .inl (cA.1, 16, .inl (fun _ => 0))), (q17, .inl (cA.1, 16, .inl (fun _ => 0))), (q18, .inl (cA.1, 260, .inl (fun _ => 0)))]) 18 1868 150 [(0, .ref h0)] [.ref q18, .ref h0]
  refine b_putF (i := 0) (kf := 21) (C := RX5) (T := TX5) (N := 23) (ty := .array .int) hz hn (flX5_ok _ (List.mem_of_getElem? (i := 17) rfl)) rfl rfl ⟨rfl, rfl⟩ (by decide +kernel) ⟨rfl, rfl⟩ (Nat.le_of_ble_eq_true rfl) eX5_init_150 ?_
  show Bw ((l, D, cA, ad, A), y2) (wr ++ [(h0, .inr (5, [.ref q1, .ref q2, .int 0, .ref q3, .ref q4, .ref q5, .int 0, .ref q6, .ref q7, .ref q8, .int 0, .ref q9, .ref q10, .ref q11, .ref q12, .ref q13, .ref q14, .ref q15, .ref q16, .ref q17, .int 0, .ref q18, .null])), (q1, .inl (cA.1, 12, .inl (fun _ => 0))), (q2, .inl (cA.1, 12, .inl (fun _ => 0))), (q3, .inl (cA.1, 20, .inl (fun _ => 0))), (q4, .inl (cA.1, 20, .inl (fun _ => 0))), (q5, .inl (cA.1, 20, .inl (fun _ => 0))), (q6, .inl (cA.1, 4, .inl (fun _ => 0))), (q7, .inl (cA.1, 16, .inl (fun _ => 0))), (q8, .inl (cA.1, 16, .inl (fun _ => 0))), (q9, .inl (cA.1, 144, .inl (fun _ => 0))), (q10, .inl (cA.1, 320, .inl (fun _ => 0))), (q11, .inl (cA.1, 320, .inl (fun _ => 0))), (q12, .inl (cA.1, 320, .inl (fun _ => 0))), (q13, .inl (cA.1, 320, .inl (fun _ => 0))), (q14, .inl (cA.1, 16, .inl (fun _ => 0))), (q15, .inl (cA.1, 16, .inl (fun _ => 0))), (q16, .inl (cA.1, 16, .inl (fun _ => 0))), (q17, .inl (cA.1, 16, .inl (fun _ => 0))), (q18, .inl (cA.1, 260, .inl (fun _ => 0)))]) 18 1868 153 [(0, .ref h0)] []
  refine b_aload hz rfl (j := 0) rfl eX5_init_153 ?_
  refine b_iconst (x := 2) hz (by decide) eX5_init_154 ?_
  refine b_newaZ (N := 2) hz (by decide) (by decide) (by decide) (Br_le hr (by decide) (by decide)) tv126 eX5_init_155 (fun q19 => ?_)
  show Bw ((l, D, cA, ad, A), y2) (wr ++ [(h0, .inr (5, [.ref q1, .ref q2, .int 0, .ref q3, .ref q4, .ref q5, .int 0, .ref q6, .ref q7, .ref q8, .int 0, .ref q9, .ref q10, .ref q11, .ref q12, .ref q13, .ref q14, .ref q15, .ref q16, .ref q17, .int 0, .ref q18, .null])), (q1, .inl (cA.1, 12, .inl (fun _ => 0))), (q2, .inl (cA.1, 12, .inl (fun _ => 0))), (q3, .inl (cA.1, 20, .inl (fun _ => 0))), (q4, .inl (cA.1, 20, .inl (fun _ => 0))), (q5, .inl (cA.1, 20, .inl (fun _ => 0))), (q6, .inl (cA.1, 4, .inl (fun _ => 0))), (q7, .inl (cA.1, 16, .inl (fun _ => 0))), (q8, .inl (cA.1, 16, .inl (fun _ => 0))), (q9, .inl (cA.1, 144, .inl (fun _ => 0))), (q10, .inl (cA.1, 320, .inl (fun _ => 0))), (q11, .inl (cA.1, 320, .inl (fun _ => 0))), (q12, .inl (cA.1, 320, .inl (fun _ => 0))), (q13, .inl (cA.1, 320, .inl (fun _ => 0))), (q14, .inl (cA.1, 16, .inl (fun _ => 0))), (q15, .inl (cA.1, 16, .inl (fun _ => 0))), (q16, .inl (cA.1, 16, .inl (fun _ => 0))), (q17, .inl (cA.1, 16, .inl (fun _ => 0))), (q18, .inl (cA.1, 260, .inl (fun _ => 0))), (q19, .inl (cA.2.1, 2, .inl (fun _ => 0)))]) 19 1870 157 [(0, .ref h0)] [.ref q19, .ref h0]
  refine b_putF (i := 0) (kf := 22) (C := RX5) (T := TX5) (N := 23) (ty := .array .boolean) hz hn (flX5_ok _ (List.mem_of_getElem? (i := 18) rfl)) rfl rfl ⟨rfl, rfl⟩ (by decide +kernel) ⟨rfl, rfl⟩ (Nat.le_of_ble_eq_true rfl) eX5_init_157 ?_
  show Bw ((l, D, cA, ad, A), y2) (wr ++ [(h0, .inr (5, [.ref q1, .ref q2, .int 0, .ref q3, .ref q4, .ref q5, .int 0, .ref q6, .ref q7, .ref q8, .int 0, .ref q9, .ref q10, .ref q11, .ref q12, .ref q13, .ref q14, .ref q15, .ref q16, .ref q17, .int 0, .ref q18, .ref q19])), (q1, .inl (cA.1, 12, .inl (fun _ => 0))), (q2, .inl (cA.1, 12, .inl (fun _ => 0))), (q3, .inl (cA.1, 20, .inl (fun _ => 0))), (q4, .inl (cA.1, 20, .inl (fun _ => 0))), (q5, .inl (cA.1, 20, .inl (fun _ => 0))), (q6, .inl (cA.1, 4, .inl (fun _ => 0))), (q7, .inl (cA.1, 16, .inl (fun _ => 0))), (q8, .inl (cA.1, 16, .inl (fun _ => 0))), (q9, .inl (cA.1, 144, .inl (fun _ => 0))), (q10, .inl (cA.1, 320, .inl (fun _ => 0))), (q11, .inl (cA.1, 320, .inl (fun _ => 0))), (q12, .inl (cA.1, 320, .inl (fun _ => 0))), (q13, .inl (cA.1, 320, .inl (fun _ => 0))), (q14, .inl (cA.1, 16, .inl (fun _ => 0))), (q15, .inl (cA.1, 16, .inl (fun _ => 0))), (q16, .inl (cA.1, 16, .inl (fun _ => 0))), (q17, .inl (cA.1, 16, .inl (fun _ => 0))), (q18, .inl (cA.1, 260, .inl (fun _ => 0))), (q19, .inl (cA.2.1, 2, .inl (fun _ => 0)))]) 19 1870 160 [(0, .ref h0)] []
  refine b_aload hz rfl (j := 0) rfl eX5_init_160 ?_
  refine b_get (i := 0) (kf := 7) (v := .ref q6) (C := RX5) (T := TX5) (N := 23) hz (flX5_ok _ (List.mem_of_getElem? (i := 5) rfl)) rfl rfl rfl eX5_init_161 ?_
  refine b_iconst (x := 0) hz (by decide) eX5_init_164 ?_
  refine b_iconst (x := 4) hz (by decide) eX5_init_165 ?_
  refine b_iast (i := 6) (f' := (upd (fun _ => 0) 0 4)) hz rfl (by unfold vp_in; decide) rfl eX5_init_166 ?_
  show Bw ((l, D, cA, ad, A), y2) (wr ++ [(h0, .inr (5, [.ref q1, .ref q2, .int 0, .ref q3, .ref q4, .ref q5, .int 0, .ref q6, .ref q7, .ref q8, .int 0, .ref q9, .ref q10, .ref q11, .ref q12, .ref q13, .ref q14, .ref q15, .ref q16, .ref q17, .int 0, .ref q18, .ref q19])), (q1, .inl (cA.1, 12, .inl (fun _ => 0))), (q2, .inl (cA.1, 12, .inl (fun _ => 0))), (q3, .inl (cA.1, 20, .inl (fun _ => 0))), (q4, .inl (cA.1, 20, .inl (fun _ => 0))), (q5, .inl (cA.1, 20, .inl (fun _ => 0))), (q6, .inl (cA.1, 4, .inl (upd (fun _ => 0) 0 4))), (q7, .inl (cA.1, 16, .inl (fun _ => 0))), (q8, .inl (cA.1, 16, .inl (fun _ => 0))), (q9, .inl (cA.1, 144, .inl (fun _ => 0))), (q10, .inl (cA.1, 320, .inl (fun _ => 0))), (q11, .inl (cA.1, 320, .inl (fun _ => 0))), (q12, .inl (cA.1, 320, .inl (fun _ => 0))), (q13, .inl (cA.1, 320, .inl (fun _ => 0))), (q14, .inl (cA.1, 16, .inl (fun _ => 0))), (q15, .inl (cA.1, 16, .inl (fun _ => 0))), (q16, .inl (cA.1, 16, .inl (fun _ => 0))), (q17, .inl (cA.1, 16, .inl (fun _ => 0))), (q18, .inl (cA.1, 260, .inl (fun _ => 0))), (q19, .inl (cA.2.1, 2, .inl (fun _ => 0)))]) 19 1870 167 [(0, .ref h0)] []
  refine b_aload hz rfl (j := 0) rfl eX5_init_167 ?_
  refine b_get (i := 0) (kf := 7) (v := .ref q6) (C := RX5) (T := TX5) (N := 23) hz (flX5_ok _ (List.mem_of_getElem? (i := 5) rfl)) rfl rfl rfl eX5_init_168 ?_
  refine b_iconst (x := 1) hz (by decide) eX5_init_171 ?_
  refine b_iconst (x := 1) hz (by decide) eX5_init_172 ?_
  refine b_iast (i := 6) (f' := (upd (upd (fun _ => 0) 0 4) 1 1)) hz rfl (by unfold vp_in; decide) rfl eX5_init_173 ?_
  show Bw ((l, D, cA, ad, A), y2) (wr ++ [(h0, .inr (5, [.ref q1, .ref q2, .int 0, .ref q3, .ref q4, .ref q5, .int 0, .ref q6, .ref q7, .ref q8, .int 0, .ref q9, .ref q10, .ref q11, .ref q12, .ref q13, .ref q14, .ref q15, .ref q16, .ref q17, .int 0, .ref q18, .ref q19])), (q1, .inl (cA.1, 12, .inl (fun _ => 0))), (q2, .inl (cA.1, 12, .inl (fun _ => 0))), (q3, .inl (cA.1, 20, .inl (fun _ => 0))), (q4, .inl (cA.1, 20, .inl (fun _ => 0))), (q5, .inl (cA.1, 20, .inl (fun _ => 0))), (q6, .inl (cA.1, 4, .inl (upd (upd (fun _ => 0) 0 4) 1 1))), (q7, .inl (cA.1, 16, .inl (fun _ => 0))), (q8, .inl (cA.1, 16, .inl (fun _ => 0))), (q9, .inl (cA.1, 144, .inl (fun _ => 0))), (q10, .inl (cA.1, 320, .inl (fun _ => 0))), (q11, .inl (cA.1, 320, .inl (fun _ => 0))), (q12, .inl (cA.1, 320, .inl (fun _ => 0))), (q13, .inl (cA.1, 320, .inl (fun _ => 0))), (q14, .inl (cA.1, 16, .inl (fun _ => 0))), (q15, .inl (cA.1, 16, .inl (fun _ => 0))), (q16, .inl (cA.1, 16, .inl (fun _ => 0))), (q17, .inl (cA.1, 16, .inl (fun _ => 0))), (q18, .inl (cA.1, 260, .inl (fun _ => 0))), (q19, .inl (cA.2.1, 2, .inl (fun _ => 0)))]) 19 1870 174 [(0, .ref h0)] []
  refine b_aload hz rfl (j := 0) rfl eX5_init_174 ?_
  refine b_get (i := 0) (kf := 7) (v := .ref q6) (C := RX5) (T := TX5) (N := 23) hz (flX5_ok _ (List.mem_of_getElem? (i := 5) rfl)) rfl rfl rfl eX5_init_175 ?_
  refine b_iconst (x := 2) hz (by decide) eX5_init_178 ?_
  refine b_iconst (x := 1) hz (by decide) eX5_init_179 ?_
  refine b_iast (i := 6) (f' := (upd (upd (upd (fun _ => 0) 0 4) 1 1) 2 1)) hz rfl (by unfold vp_in; decide) rfl eX5_init_180 ?_
  show Bw ((l, D, cA, ad, A), y2) (wr ++ [(h0, .inr (5, [.ref q1, .ref q2, .int 0, .ref q3, .ref q4, .ref q5, .int 0, .ref q6, .ref q7, .ref q8, .int 0, .ref q9, .ref q10, .ref q11, .ref q12, .ref q13, .ref q14, .ref q15, .ref q16, .ref q17, .int 0, .ref q18, .ref q19])), (q1, .inl (cA.1, 12, .inl (fun _ => 0))), (q2, .inl (cA.1, 12, .inl (fun _ => 0))), (q3, .inl (cA.1, 20, .inl (fun _ => 0))), (q4, .inl (cA.1, 20, .inl (fun _ => 0))), (q5, .inl (cA.1, 20, .inl (fun _ => 0))), (q6, .inl (cA.1, 4, .inl (upd (upd (upd (fun _ => 0) 0 4) 1 1) 2 1))), (q7, .inl (cA.1, 16, .inl (fun _ => 0))), (q8, .inl (cA.1, 16, .inl (fun _ => 0))), (q9, .inl (cA.1, 144, .inl (fun _ => 0))), (q10, .inl (cA.1, 320, .inl (fun _ => 0))), (q11, .inl (cA.1, 320, .inl (fun _ => 0))), (q12, .inl (cA.1, 320, .inl (fun _ => 0))), (q13, .inl (cA.1, 320, .inl (fun _ => 0))), (q14, .inl (cA.1, 16, .inl (fun _ => 0))), (q15, .inl (cA.1, 16, .inl (fun _ => 0))), (q16, .inl (cA.1, 16, .inl (fun _ => 0))), (q17, .inl (cA.1, 16, .inl (fun _ => 0))), (q18, .inl (cA.1, 260, .inl (fun _ => 0))), (q19, .inl (cA.2.1, 2, .inl (fun _ => 0)))]) 19 1870 181 [(0, .ref h0)] []
  refine b_aload hz rfl (j := 0) rfl eX5_init_181 ?_
  refine b_get (i := 0) (kf := 7) (v := .ref q6) (C := RX5) (T := TX5) (N := 23) hz (flX5_ok _ (List.mem_of_getElem? (i := 5) rfl)) rfl rfl rfl eX5_init_182 ?_
  refine b_iconst (x := 3) hz (by decide) eX5_init_185 ?_
  refine b_bipush (x := 40) hz (by decide) eX5_init_186 ?_
  refine b_iast (i := 6) (f' := (upd (upd (upd (upd (fun _ => 0) 0 4) 1 1) 2 1) 3 40)) hz rfl (by unfold vp_in; decide) rfl eX5_init_188 ?_
  show Bw ((l, D, cA, ad, A), y2) (wr ++ [(h0, .inr (5, [.ref q1, .ref q2, .int 0, .ref q3, .ref q4, .ref q5, .int 0, .ref q6, .ref q7, .ref q8, .int 0, .ref q9, .ref q10, .ref q11, .ref q12, .ref q13, .ref q14, .ref q15, .ref q16, .ref q17, .int 0, .ref q18, .ref q19])), (q1, .inl (cA.1, 12, .inl (fun _ => 0))), (q2, .inl (cA.1, 12, .inl (fun _ => 0))), (q3, .inl (cA.1, 20, .inl (fun _ => 0))), (q4, .inl (cA.1, 20, .inl (fun _ => 0))), (q5, .inl (cA.1, 20, .inl (fun _ => 0))), (q6, .inl (cA.1, 4, .inl (upd (upd (upd (upd (fun _ => 0) 0 4) 1 1) 2 1) 3 40))), (q7, .inl (cA.1, 16, .inl (fun _ => 0))), (q8, .inl (cA.1, 16, .inl (fun _ => 0))), (q9, .inl (cA.1, 144, .inl (fun _ => 0))), (q10, .inl (cA.1, 320, .inl (fun _ => 0))), (q11, .inl (cA.1, 320, .inl (fun _ => 0))), (q12, .inl (cA.1, 320, .inl (fun _ => 0))), (q13, .inl (cA.1, 320, .inl (fun _ => 0))), (q14, .inl (cA.1, 16, .inl (fun _ => 0))), (q15, .inl (cA.1, 16, .inl (fun _ => 0))), (q16, .inl (cA.1, 16, .inl (fun _ => 0))), (q17, .inl (cA.1, 16, .inl (fun _ => 0))), (q18, .inl (cA.1, 260, .inl (fun _ => 0))), (q19, .inl (cA.2.1, 2, .inl (fun _ => 0)))]) 19 1870 189 [(0, .ref h0)] []
  exact b_vret hz hR ⟨fun k => [h0, q1, q2, q3, q4, q5, q6, q7, q8, q9, q10, q11, q12, q13, q14, q15, q16, q17, q18, q19].getD k 0, rfl, rfl⟩ eX5_init_189
theorem eX4_init_0 : decode prog_1_method_1_code 0 = .ok (.aload_n 0, 1) := by decide +kernel
theorem eX4_init_1 : decode prog_1_method_1_code 1 = .ok (.invokespecial 1, 3) := by decide +kernel
theorem eX4_init_4 : decode prog_1_method_1_code 4 = .ok (.aload_n 0, 1) := by decide +kernel
theorem eX4_init_5 : decode prog_1_method_1_code 5 = .ok (.new 7, 3) := by decide +kernel
theorem eX4_init_8 : decode prog_1_method_1_code 8 = .ok (.dup, 1) := by decide +kernel
theorem eX4_init_9 : decode prog_1_method_1_code 9 = .ok (.invokespecial 9, 3) := by decide +kernel
theorem eX4_init_12 : decode prog_1_method_1_code 12 = .ok (.putfield 10, 3) := by decide +kernel
theorem eX4_init_15 : decode prog_1_method_1_code 15 = .ok (.aload_n 0, 1) := by decide +kernel
theorem eX4_init_16 : decode prog_1_method_1_code 16 = .ok (.iconst 2, 1) := by decide +kernel
theorem eX4_init_17 : decode prog_1_method_1_code 17 = .ok (.anewarray 7, 3) := by decide +kernel
theorem eX4_init_20 : decode prog_1_method_1_code 20 = .ok (.putfield 16, 3) := by decide +kernel
theorem eX4_init_23 : decode prog_1_method_1_code 23 = .ok (.iconst 0, 1) := by decide +kernel
theorem eX4_init_24 : decode prog_1_method_1_code 24 = .ok (.istore_n 1, 1) := by decide +kernel
theorem eX4_init_25 : decode prog_1_method_1_code 25 = .ok (.iload_n 1, 1) := by decide +kernel
theorem eX4_init_26 : decode prog_1_method_1_code 26 = .ok (.iconst 2, 1) := by decide +kernel
theorem eX4_init_27 : decode prog_1_method_1_code 27 = .ok (.if_icmp .ge 22, 3) := by decide +kernel
theorem eX4_init_30 : decode prog_1_method_1_code 30 = .ok (.aload_n 0, 1) := by decide +kernel
theorem eX4_init_31 : decode prog_1_method_1_code 31 = .ok (.getfield 16, 3) := by decide +kernel
theorem eX4_init_34 : decode prog_1_method_1_code 34 = .ok (.iload_n 1, 1) := by decide +kernel
theorem eX4_init_35 : decode prog_1_method_1_code 35 = .ok (.new 7, 3) := by decide +kernel
theorem eX4_init_38 : decode prog_1_method_1_code 38 = .ok (.dup, 1) := by decide +kernel
theorem eX4_init_39 : decode prog_1_method_1_code 39 = .ok (.invokespecial 9, 3) := by decide +kernel
theorem eX4_init_42 : decode prog_1_method_1_code 42 = .ok (.aastore, 1) := by decide +kernel
theorem eX4_init_43 : decode prog_1_method_1_code 43 = .ok (.iinc 1 1, 3) := by decide +kernel
theorem eX4_init_46 : decode prog_1_method_1_code 46 = .ok (.goto (-21), 3) := by decide +kernel
theorem eX4_init_49 : decode prog_1_method_1_code 49 = .ok (.return_, 1) := by decide +kernel
def yX4_init : MethodName := ⟨RX4, "<init>", "()V"⟩
set_option maxRecDepth 100000 in
set_option maxHeartbeats 4000000 in
theorem cX4_init (g : Gx) (h0 : Nat) (wr : va_W) : Cn g yX4_init prog_1_method_1_code 2 3 54 70 5018 [.ref h0] (wr ++ [(h0, .inr (4, [.null, .null]))]) (fun ws => ∃ a : Nat → Nat, a 0 = h0 ∧ ws = wr ++ roadW g.2.2.1 a) := by
  refine n_of ⟨by decide +kernel, rfl, rfl⟩ (Nat.le_of_ble_eq_true rfl) (fun y hg hz hn hr hR => ?_)
  obtain ⟨⟨l, D, cA, ad, A⟩, y2⟩ := y
  subst hg
  refine b_aload hz rfl (j := 0) rfl eX4_init_0 ?_
  refine b_object hz ⟨tv15, tv16, tv17⟩ (by decide) eX4_init_1 ?_
  show Bw ((l, D, cA, ad, A), y2) (wr ++ [(h0, .inr (4, [.null, .null]))]) 0 0 4 [(0, .ref h0)] []
  refine b_aload hz rfl (j := 0) rfl eX4_init_4 ?_
  refine b_new (ci := 2) (C := RX2) (T := TX2) (N := 4) (fs := [.null, .null, .null, .int 0]) hz rfl tyX2 tyX2_ok ⟨tv18, tv19, tv2⟩ (by decide +kernel) (Br_le hr (by decide) (by decide)) eX4_init_5 (fun q1 => ?_)
  show Bw ((l, D, cA, ad, A), y2) (wr ++ [(h0, .inr (4, [.null, .null])), (q1, .inr (2, [.null, .null, .null, .int 0]))]) 1 4 8 [(0, .ref h0)] [.ref q1, .ref h0]
  refine b_dup hz rfl eX4_init_8 ?_
  refine b_call (w := [(h0, .inr (4, [.null, .null]))]) (as := []) (a := q1) (st := [.ref q1, .ref h0]) hz (cX2_init (l, D, cA, ad, A) q1 _) ⟨tv22, tv2, tv20, tv21, rfl, by decide +kernel, by decide +kernel⟩ 0 2 ⟨by decide +kernel, by decide, by decide, by decide⟩ rfl rfl (Br_le hr (by decide) (by decide)) eX4_init_9 ?_
  rintro ws ⟨a2, rfl, rfl⟩
  rw [List.append_assoc]
  show Bw ((l, D, cA, ad, A), y2) (wr ++ [(h0, .inr (4, [.null, .null])), ((a2 0), .inr (2, [.ref (a2 1), .ref (a2 9), .ref (a2 11), .int 0])), ((a2 1), .inr (0, [.int 0, .int 0, .ref (a2 2), .ref (a2 3), .ref (a2 4), .ref (a2 5), .ref (a2 6), .ref (a2 7), .ref (a2 8)])), ((a2 2), .inl (cA.1, 12, .inl (fun _ => 0))), ((a2 3), .inl (cA.1, 12, .inl (fun _ => 0))), ((a2 4), .inl (cA.1, 20, .inl (fun _ => 0))), ((a2 5), .inl (cA.1, 20, .inl (fun _ => 0))), ((a2 6), .inl (cA.1, 20, .inl (fun _ => 0))), ((a2 7), .inl (cA.1, 20, .inl (fun _ => 0))), ((a2 8), .inl (cA.1, 144, .inl (fun _ => 0))), ((a2 9), .inr (1, [.ref (a2 10)])), ((a2 10), .inl (cA.1, 4, .inl rl0)), ((a2 11), .inr (3, [.ref (a2 1), .ref (a2 9), .int 0, .ref (a2 12), .ref (a2 13), .ref (a2 14), .ref (a2 15), .ref (a2 16), .ref (a2 17), .ref (a2 18), .ref (a2 19), .ref (a2 20), .ref (a2 21), .ref (a2 22)])), ((a2 12), .inl (cA.1, 16, .inl (fun _ => 0))), ((a2 13), .inl (cA.1, 16, .inl (fun _ => 0))), ((a2 14), .inl (cA.1, 16, .inl (fun _ => 0))), ((a2 15), .inl (cA.1, 16, .inl (fun _ => 0))), ((a2 16), .inl (cA.1, 16, .inl (fun _ => 0))), ((a2 17), .inl (cA.1, 320, .inl (fun _ => 0))), ((a2 18), .inl (cA.1, 320, .inl (fun _ => 0))), ((a2 19), .inl (cA.1, 320, .inl (fun _ => 0))), ((a2 20), .inl (cA.1, 320, .inl (fun _ => 0))), ((a2 21), .inl (cA.1, 16, .inl (fun _ => 0))), ((a2 22), .inl (cA.2.1, 16, .inl (fun _ => 0)))]) 23 1672 12 [(0, .ref h0)] [.ref (a2 0), .ref h0]
  refine b_putF (i := 0) (kf := 0) (C := RX4) (T := TX4) (N := 2) (ty := .object "RoadTrace$State") hz hn (flX4_ok _ (List.mem_of_getElem? (i := 0) rfl)) rfl rfl ⟨rfl, rfl⟩ (by decide +kernel) ⟨rfl, rfl⟩ (Nat.le_of_ble_eq_true rfl) eX4_init_12 ?_
  show Bw ((l, D, cA, ad, A), y2) (wr ++ [(h0, .inr (4, [.ref (a2 0), .null])), ((a2 0), .inr (2, [.ref (a2 1), .ref (a2 9), .ref (a2 11), .int 0])), ((a2 1), .inr (0, [.int 0, .int 0, .ref (a2 2), .ref (a2 3), .ref (a2 4), .ref (a2 5), .ref (a2 6), .ref (a2 7), .ref (a2 8)])), ((a2 2), .inl (cA.1, 12, .inl (fun _ => 0))), ((a2 3), .inl (cA.1, 12, .inl (fun _ => 0))), ((a2 4), .inl (cA.1, 20, .inl (fun _ => 0))), ((a2 5), .inl (cA.1, 20, .inl (fun _ => 0))), ((a2 6), .inl (cA.1, 20, .inl (fun _ => 0))), ((a2 7), .inl (cA.1, 20, .inl (fun _ => 0))), ((a2 8), .inl (cA.1, 144, .inl (fun _ => 0))), ((a2 9), .inr (1, [.ref (a2 10)])), ((a2 10), .inl (cA.1, 4, .inl rl0)), ((a2 11), .inr (3, [.ref (a2 1), .ref (a2 9), .int 0, .ref (a2 12), .ref (a2 13), .ref (a2 14), .ref (a2 15), .ref (a2 16), .ref (a2 17), .ref (a2 18), .ref (a2 19), .ref (a2 20), .ref (a2 21), .ref (a2 22)])), ((a2 12), .inl (cA.1, 16, .inl (fun _ => 0))), ((a2 13), .inl (cA.1, 16, .inl (fun _ => 0))), ((a2 14), .inl (cA.1, 16, .inl (fun _ => 0))), ((a2 15), .inl (cA.1, 16, .inl (fun _ => 0))), ((a2 16), .inl (cA.1, 16, .inl (fun _ => 0))), ((a2 17), .inl (cA.1, 320, .inl (fun _ => 0))), ((a2 18), .inl (cA.1, 320, .inl (fun _ => 0))), ((a2 19), .inl (cA.1, 320, .inl (fun _ => 0))), ((a2 20), .inl (cA.1, 320, .inl (fun _ => 0))), ((a2 21), .inl (cA.1, 16, .inl (fun _ => 0))), ((a2 22), .inl (cA.2.1, 16, .inl (fun _ => 0)))]) 23 1672 15 [(0, .ref h0)] []
  refine b_aload hz rfl (j := 0) rfl eX4_init_15 ?_
  refine b_iconst (x := 2) hz (by decide) eX4_init_16 ?_
  refine b_newq (N := 2) hz (by decide) (by decide) (by decide) (Br_le hr (by decide) (by decide)) tv18 eX4_init_17 (fun q3 => ?_)
  show Bw ((l, D, cA, ad, A), y2) (wr ++ [(h0, .inr (4, [.ref (a2 0), .null])), ((a2 0), .inr (2, [.ref (a2 1), .ref (a2 9), .ref (a2 11), .int 0])), ((a2 1), .inr (0, [.int 0, .int 0, .ref (a2 2), .ref (a2 3), .ref (a2 4), .ref (a2 5), .ref (a2 6), .ref (a2 7), .ref (a2 8)])), ((a2 2), .inl (cA.1, 12, .inl (fun _ => 0))), ((a2 3), .inl (cA.1, 12, .inl (fun _ => 0))), ((a2 4), .inl (cA.1, 20, .inl (fun _ => 0))), ((a2 5), .inl (cA.1, 20, .inl (fun _ => 0))), ((a2 6), .inl (cA.1, 20, .inl (fun _ => 0))), ((a2 7), .inl (cA.1, 20, .inl (fun _ => 0))), ((a2 8), .inl (cA.1, 144, .inl (fun _ => 0))), ((a2 9), .inr (1, [.ref (a2 10)])), ((a2 10), .inl (cA.1, 4, .inl rl0)), ((a2 11), .inr (3, [.ref (a2 1), .ref (a2 9), .int 0, .ref (a2 12), .ref (a2 13), .ref (a2 14), .ref (a2 15), .ref (a2 16), .ref (a2 17), .ref (a2 18), .ref (a2 19), .ref (a2 20), .ref (a2 21), .ref (a2 22)])), ((a2 12), .inl (cA.1, 16, .inl (fun _ => 0))), ((a2 13), .inl (cA.1, 16, .inl (fun _ => 0))), ((a2 14), .inl (cA.1, 16, .inl (fun _ => 0))), ((a2 15), .inl (cA.1, 16, .inl (fun _ => 0))), ((a2 16), .inl (cA.1, 16, .inl (fun _ => 0))), ((a2 17), .inl (cA.1, 320, .inl (fun _ => 0))), ((a2 18), .inl (cA.1, 320, .inl (fun _ => 0))), ((a2 19), .inl (cA.1, 320, .inl (fun _ => 0))), ((a2 20), .inl (cA.1, 320, .inl (fun _ => 0))), ((a2 21), .inl (cA.1, 16, .inl (fun _ => 0))), ((a2 22), .inl (cA.2.1, 16, .inl (fun _ => 0))), (q3, .inl (cA.2.2, 2, .inr (.inr (.inr (.inr (fun _ => none))))))]) 24 1674 20 [(0, .ref h0)] [.ref q3, .ref h0]
  refine b_putF (i := 0) (kf := 1) (C := RX4) (T := TX4) (N := 2) (ty := .array (.object "RoadTrace$State")) hz hn (flX4_ok _ (List.mem_of_getElem? (i := 1) rfl)) rfl rfl ⟨rfl, rfl⟩ (by decide +kernel) ⟨rfl, rfl⟩ (Nat.le_of_ble_eq_true rfl) eX4_init_20 ?_
  show Bw ((l, D, cA, ad, A), y2) (wr ++ [(h0, .inr (4, [.ref (a2 0), .ref q3])), ((a2 0), .inr (2, [.ref (a2 1), .ref (a2 9), .ref (a2 11), .int 0])), ((a2 1), .inr (0, [.int 0, .int 0, .ref (a2 2), .ref (a2 3), .ref (a2 4), .ref (a2 5), .ref (a2 6), .ref (a2 7), .ref (a2 8)])), ((a2 2), .inl (cA.1, 12, .inl (fun _ => 0))), ((a2 3), .inl (cA.1, 12, .inl (fun _ => 0))), ((a2 4), .inl (cA.1, 20, .inl (fun _ => 0))), ((a2 5), .inl (cA.1, 20, .inl (fun _ => 0))), ((a2 6), .inl (cA.1, 20, .inl (fun _ => 0))), ((a2 7), .inl (cA.1, 20, .inl (fun _ => 0))), ((a2 8), .inl (cA.1, 144, .inl (fun _ => 0))), ((a2 9), .inr (1, [.ref (a2 10)])), ((a2 10), .inl (cA.1, 4, .inl rl0)), ((a2 11), .inr (3, [.ref (a2 1), .ref (a2 9), .int 0, .ref (a2 12), .ref (a2 13), .ref (a2 14), .ref (a2 15), .ref (a2 16), .ref (a2 17), .ref (a2 18), .ref (a2 19), .ref (a2 20), .ref (a2 21), .ref (a2 22)])), ((a2 12), .inl (cA.1, 16, .inl (fun _ => 0))), ((a2 13), .inl (cA.1, 16, .inl (fun _ => 0))), ((a2 14), .inl (cA.1, 16, .inl (fun _ => 0))), ((a2 15), .inl (cA.1, 16, .inl (fun _ => 0))), ((a2 16), .inl (cA.1, 16, .inl (fun _ => 0))), ((a2 17), .inl (cA.1, 320, .inl (fun _ => 0))), ((a2 18), .inl (cA.1, 320, .inl (fun _ => 0))), ((a2 19), .inl (cA.1, 320, .inl (fun _ => 0))), ((a2 20), .inl (cA.1, 320, .inl (fun _ => 0))), ((a2 21), .inl (cA.1, 16, .inl (fun _ => 0))), ((a2 22), .inl (cA.2.1, 16, .inl (fun _ => 0))), (q3, .inl (cA.2.2, 2, .inr (.inr (.inr (.inr (fun _ => none))))))]) 24 1674 23 [(0, .ref h0)] []
  refine b_iconst (x := 0) hz (by decide) eX4_init_23 ?_
  refine b_istore (i := 1) hz rfl (by decide) rfl eX4_init_24 ?_
  show Bw ((l, D, cA, ad, A), y2) (wr ++ [(h0, .inr (4, [.ref (a2 0), .ref q3])), ((a2 0), .inr (2, [.ref (a2 1), .ref (a2 9), .ref (a2 11), .int 0])), ((a2 1), .inr (0, [.int 0, .int 0, .ref (a2 2), .ref (a2 3), .ref (a2 4), .ref (a2 5), .ref (a2 6), .ref (a2 7), .ref (a2 8)])), ((a2 2), .inl (cA.1, 12, .inl (fun _ => 0))), ((a2 3), .inl (cA.1, 12, .inl (fun _ => 0))), ((a2 4), .inl (cA.1, 20, .inl (fun _ => 0))), ((a2 5), .inl (cA.1, 20, .inl (fun _ => 0))), ((a2 6), .inl (cA.1, 20, .inl (fun _ => 0))), ((a2 7), .inl (cA.1, 20, .inl (fun _ => 0))), ((a2 8), .inl (cA.1, 144, .inl (fun _ => 0))), ((a2 9), .inr (1, [.ref (a2 10)])), ((a2 10), .inl (cA.1, 4, .inl rl0)), ((a2 11), .inr (3, [.ref (a2 1), .ref (a2 9), .int 0, .ref (a2 12), .ref (a2 13), .ref (a2 14), .ref (a2 15), .ref (a2 16), .ref (a2 17), .ref (a2 18), .ref (a2 19), .ref (a2 20), .ref (a2 21), .ref (a2 22)])), ((a2 12), .inl (cA.1, 16, .inl (fun _ => 0))), ((a2 13), .inl (cA.1, 16, .inl (fun _ => 0))), ((a2 14), .inl (cA.1, 16, .inl (fun _ => 0))), ((a2 15), .inl (cA.1, 16, .inl (fun _ => 0))), ((a2 16), .inl (cA.1, 16, .inl (fun _ => 0))), ((a2 17), .inl (cA.1, 320, .inl (fun _ => 0))), ((a2 18), .inl (cA.1, 320, .inl (fun _ => 0))), ((a2 19), .inl (cA.1, 320, .inl (fun _ => 0))), ((a2 20), .inl (cA.1, 320, .inl (fun _ => 0))), ((a2 21), .inl (cA.1, 16, .inl (fun _ => 0))), ((a2 22), .inl (cA.2.1, 16, .inl (fun _ => 0))), (q3, .inl (cA.2.2, 2, .inr (.inr (.inr (.inr (fun _ => none))))))]) 24 1674 25 [(1, .int 0), (0, .ref h0)] []
  refine b_iload hz rfl (j := 0) rfl eX4_init_25 ?_
  refine b_iconst (x := 2) hz (by decide) eX4_init_26 ?_
  refine b_icmpF (t := 49) hz (by decide) (by decide) eX4_init_27 ?_
  show Bw ((l, D, cA, ad, A), y2) (wr ++ [(h0, .inr (4, [.ref (a2 0), .ref q3])), ((a2 0), .inr (2, [.ref (a2 1), .ref (a2 9), .ref (a2 11), .int 0])), ((a2 1), .inr (0, [.int 0, .int 0, .ref (a2 2), .ref (a2 3), .ref (a2 4), .ref (a2 5), .ref (a2 6), .ref (a2 7), .ref (a2 8)])), ((a2 2), .inl (cA.1, 12, .inl (fun _ => 0))), ((a2 3), .inl (cA.1, 12, .inl (fun _ => 0))), ((a2 4), .inl (cA.1, 20, .inl (fun _ => 0))), ((a2 5), .inl (cA.1, 20, .inl (fun _ => 0))), ((a2 6), .inl (cA.1, 20, .inl (fun _ => 0))), ((a2 7), .inl (cA.1, 20, .inl (fun _ => 0))), ((a2 8), .inl (cA.1, 144, .inl (fun _ => 0))), ((a2 9), .inr (1, [.ref (a2 10)])), ((a2 10), .inl (cA.1, 4, .inl rl0)), ((a2 11), .inr (3, [.ref (a2 1), .ref (a2 9), .int 0, .ref (a2 12), .ref (a2 13), .ref (a2 14), .ref (a2 15), .ref (a2 16), .ref (a2 17), .ref (a2 18), .ref (a2 19), .ref (a2 20), .ref (a2 21), .ref (a2 22)])), ((a2 12), .inl (cA.1, 16, .inl (fun _ => 0))), ((a2 13), .inl (cA.1, 16, .inl (fun _ => 0))), ((a2 14), .inl (cA.1, 16, .inl (fun _ => 0))), ((a2 15), .inl (cA.1, 16, .inl (fun _ => 0))), ((a2 16), .inl (cA.1, 16, .inl (fun _ => 0))), ((a2 17), .inl (cA.1, 320, .inl (fun _ => 0))), ((a2 18), .inl (cA.1, 320, .inl (fun _ => 0))), ((a2 19), .inl (cA.1, 320, .inl (fun _ => 0))), ((a2 20), .inl (cA.1, 320, .inl (fun _ => 0))), ((a2 21), .inl (cA.1, 16, .inl (fun _ => 0))), ((a2 22), .inl (cA.2.1, 16, .inl (fun _ => 0))), (q3, .inl (cA.2.2, 2, .inr (.inr (.inr (.inr (fun _ => none))))))]) 24 1674 30 [(1, .int 0), (0, .ref h0)] []
  refine b_aload hz rfl (j := 1) rfl eX4_init_30 ?_
  refine b_get (i := 0) (kf := 1) (v := .ref q3) (C := RX4) (T := TX4) (N := 2) hz (flX4_ok _ (List.mem_of_getElem? (i := 1) rfl)) rfl rfl rfl eX4_init_31 ?_
  refine b_iload hz rfl (j := 0) rfl eX4_init_34 ?_
  refine b_new (ci := 2) (C := RX2) (T := TX2) (N := 4) (fs := [.null, .null, .null, .int 0]) hz rfl tyX2 tyX2_ok ⟨tv18, tv19, tv2⟩ (by decide +kernel) (Br_le hr (by decide) (by decide)) eX4_init_35 (fun q4 => ?_)
  show Bw ((l, D, cA, ad, A), y2) (wr ++ [(h0, .inr (4, [.ref (a2 0), .ref q3])), ((a2 0), .inr (2, [.ref (a2 1), .ref (a2 9), .ref (a2 11), .int 0])), ((a2 1), .inr (0, [.int 0, .int 0, .ref (a2 2), .ref (a2 3), .ref (a2 4), .ref (a2 5), .ref (a2 6), .ref (a2 7), .ref (a2 8)])), ((a2 2), .inl (cA.1, 12, .inl (fun _ => 0))), ((a2 3), .inl (cA.1, 12, .inl (fun _ => 0))), ((a2 4), .inl (cA.1, 20, .inl (fun _ => 0))), ((a2 5), .inl (cA.1, 20, .inl (fun _ => 0))), ((a2 6), .inl (cA.1, 20, .inl (fun _ => 0))), ((a2 7), .inl (cA.1, 20, .inl (fun _ => 0))), ((a2 8), .inl (cA.1, 144, .inl (fun _ => 0))), ((a2 9), .inr (1, [.ref (a2 10)])), ((a2 10), .inl (cA.1, 4, .inl rl0)), ((a2 11), .inr (3, [.ref (a2 1), .ref (a2 9), .int 0, .ref (a2 12), .ref (a2 13), .ref (a2 14), .ref (a2 15), .ref (a2 16), .ref (a2 17), .ref (a2 18), .ref (a2 19), .ref (a2 20), .ref (a2 21), .ref (a2 22)])), ((a2 12), .inl (cA.1, 16, .inl (fun _ => 0))), ((a2 13), .inl (cA.1, 16, .inl (fun _ => 0))), ((a2 14), .inl (cA.1, 16, .inl (fun _ => 0))), ((a2 15), .inl (cA.1, 16, .inl (fun _ => 0))), ((a2 16), .inl (cA.1, 16, .inl (fun _ => 0))), ((a2 17), .inl (cA.1, 320, .inl (fun _ => 0))), ((a2 18), .inl (cA.1, 320, .inl (fun _ => 0))), ((a2 19), .inl (cA.1, 320, .inl (fun _ => 0))), ((a2 20), .inl (cA.1, 320, .inl (fun _ => 0))), ((a2 21), .inl (cA.1, 16, .inl (fun _ => 0))), ((a2 22), .inl (cA.2.1, 16, .inl (fun _ => 0))), (q3, .inl (cA.2.2, 2, .inr (.inr (.inr (.inr (fun _ => none)))))), (q4, .inr (2, [.null, .null, .null, .int 0]))]) 25 1678 38 [(1, .int 0), (0, .ref h0)] [.ref q4, .int 0, .ref q3]
  refine b_dup hz rfl eX4_init_38 ?_
  refine b_call (w := [(h0, .inr (4, [.ref (a2 0), .ref q3])), ((a2 0), .inr (2, [.ref (a2 1), .ref (a2 9), .ref (a2 11), .int 0])), ((a2 1), .inr (0, [.int 0, .int 0, .ref (a2 2), .ref (a2 3), .ref (a2 4), .ref (a2 5), .ref (a2 6), .ref (a2 7), .ref (a2 8)])), ((a2 2), .inl (cA.1, 12, .inl (fun _ => 0))), ((a2 3), .inl (cA.1, 12, .inl (fun _ => 0))), ((a2 4), .inl (cA.1, 20, .inl (fun _ => 0))), ((a2 5), .inl (cA.1, 20, .inl (fun _ => 0))), ((a2 6), .inl (cA.1, 20, .inl (fun _ => 0))), ((a2 7), .inl (cA.1, 20, .inl (fun _ => 0))), ((a2 8), .inl (cA.1, 144, .inl (fun _ => 0))), ((a2 9), .inr (1, [.ref (a2 10)])), ((a2 10), .inl (cA.1, 4, .inl rl0)), ((a2 11), .inr (3, [.ref (a2 1), .ref (a2 9), .int 0, .ref (a2 12), .ref (a2 13), .ref (a2 14), .ref (a2 15), .ref (a2 16), .ref (a2 17), .ref (a2 18), .ref (a2 19), .ref (a2 20), .ref (a2 21), .ref (a2 22)])), ((a2 12), .inl (cA.1, 16, .inl (fun _ => 0))), ((a2 13), .inl (cA.1, 16, .inl (fun _ => 0))), ((a2 14), .inl (cA.1, 16, .inl (fun _ => 0))), ((a2 15), .inl (cA.1, 16, .inl (fun _ => 0))), ((a2 16), .inl (cA.1, 16, .inl (fun _ => 0))), ((a2 17), .inl (cA.1, 320, .inl (fun _ => 0))), ((a2 18), .inl (cA.1, 320, .inl (fun _ => 0))), ((a2 19), .inl (cA.1, 320, .inl (fun _ => 0))), ((a2 20), .inl (cA.1, 320, .inl (fun _ => 0))), ((a2 21), .inl (cA.1, 16, .inl (fun _ => 0))), ((a2 22), .inl (cA.2.1, 16, .inl (fun _ => 0))), (q3, .inl (cA.2.2, 2, .inr (.inr (.inr (.inr (fun _ => none))))))]) (as := []) (a := q4) (st := [.ref q4, .int 0, .ref q3]) hz (cX2_init (l, D, cA, ad, A) q4 _) ⟨tv22, tv2, tv20, tv21, rfl, by decide +kernel, by decide +kernel⟩ 0 3 ⟨by decide +kernel, by decide, by decide, by decide⟩ rfl rfl (Br_le hr (by decide) (by decide)) eX4_init_39 ?_
  rintro ws ⟨a5, rfl, rfl⟩
  rw [List.append_assoc]
  show Bw ((l, D, cA, ad, A), y2) (wr ++ [(h0, .inr (4, [.ref (a2 0), .ref q3])), ((a2 0), .inr (2, [.ref (a2 1), .ref (a2 9), .ref (a2 11), .int 0])), ((a2 1), .inr (0, [.int 0, .int 0, .ref (a2 2), .ref (a2 3), .ref (a2 4), .ref (a2 5), .ref (a2 6), .ref (a2 7), .ref (a2 8)])), ((a2 2), .inl (cA.1, 12, .inl (fun _ => 0))), ((a2 3), .inl (cA.1, 12, .inl (fun _ => 0))), ((a2 4), .inl (cA.1, 20, .inl (fun _ => 0))), ((a2 5), .inl (cA.1, 20, .inl (fun _ => 0))), ((a2 6), .inl (cA.1, 20, .inl (fun _ => 0))), ((a2 7), .inl (cA.1, 20, .inl (fun _ => 0))), ((a2 8), .inl (cA.1, 144, .inl (fun _ => 0))), ((a2 9), .inr (1, [.ref (a2 10)])), ((a2 10), .inl (cA.1, 4, .inl rl0)), ((a2 11), .inr (3, [.ref (a2 1), .ref (a2 9), .int 0, .ref (a2 12), .ref (a2 13), .ref (a2 14), .ref (a2 15), .ref (a2 16), .ref (a2 17), .ref (a2 18), .ref (a2 19), .ref (a2 20), .ref (a2 21), .ref (a2 22)])), ((a2 12), .inl (cA.1, 16, .inl (fun _ => 0))), ((a2 13), .inl (cA.1, 16, .inl (fun _ => 0))), ((a2 14), .inl (cA.1, 16, .inl (fun _ => 0))), ((a2 15), .inl (cA.1, 16, .inl (fun _ => 0))), ((a2 16), .inl (cA.1, 16, .inl (fun _ => 0))), ((a2 17), .inl (cA.1, 320, .inl (fun _ => 0))), ((a2 18), .inl (cA.1, 320, .inl (fun _ => 0))), ((a2 19), .inl (cA.1, 320, .inl (fun _ => 0))), ((a2 20), .inl (cA.1, 320, .inl (fun _ => 0))), ((a2 21), .inl (cA.1, 16, .inl (fun _ => 0))), ((a2 22), .inl (cA.2.1, 16, .inl (fun _ => 0))), (q3, .inl (cA.2.2, 2, .inr (.inr (.inr (.inr (fun _ => none)))))), ((a5 0), .inr (2, [.ref (a5 1), .ref (a5 9), .ref (a5 11), .int 0])), ((a5 1), .inr (0, [.int 0, .int 0, .ref (a5 2), .ref (a5 3), .ref (a5 4), .ref (a5 5), .ref (a5 6), .ref (a5 7), .ref (a5 8)])), ((a5 2), .inl (cA.1, 12, .inl (fun _ => 0))), ((a5 3), .inl (cA.1, 12, .inl (fun _ => 0))), ((a5 4), .inl (cA.1, 20, .inl (fun _ => 0))), ((a5 5), .inl (cA.1, 20, .inl (fun _ => 0))), ((a5 6), .inl (cA.1, 20, .inl (fun _ => 0))), ((a5 7), .inl (cA.1, 20, .inl (fun _ => 0))), ((a5 8), .inl (cA.1, 144, .inl (fun _ => 0))), ((a5 9), .inr (1, [.ref (a5 10)])), ((a5 10), .inl (cA.1, 4, .inl rl0)), ((a5 11), .inr (3, [.ref (a5 1), .ref (a5 9), .int 0, .ref (a5 12), .ref (a5 13), .ref (a5 14), .ref (a5 15), .ref (a5 16), .ref (a5 17), .ref (a5 18), .ref (a5 19), .ref (a5 20), .ref (a5 21), .ref (a5 22)])), ((a5 12), .inl (cA.1, 16, .inl (fun _ => 0))), ((a5 13), .inl (cA.1, 16, .inl (fun _ => 0))), ((a5 14), .inl (cA.1, 16, .inl (fun _ => 0))), ((a5 15), .inl (cA.1, 16, .inl (fun _ => 0))), ((a5 16), .inl (cA.1, 16, .inl (fun _ => 0))), ((a5 17), .inl (cA.1, 320, .inl (fun _ => 0))), ((a5 18), .inl (cA.1, 320, .inl (fun _ => 0))), ((a5 19), .inl (cA.1, 320, .inl (fun _ => 0))), ((a5 20), .inl (cA.1, 320, .inl (fun _ => 0))), ((a5 21), .inl (cA.1, 16, .inl (fun _ => 0))), ((a5 22), .inl (cA.2.1, 16, .inl (fun _ => 0)))]) 47 3346 42 [(1, .int 0), (0, .ref h0)] [.ref (a5 0), .int 0, .ref q3]
  refine b_astq (i := 24) (iv := 25) (f' := (va_up (fun _ => none) 0 (some (a5 0)))) hz rfl rfl (by unfold vp_in; decide) rfl eX4_init_42 ?_
  show Bw ((l, D, cA, ad, A), y2) (wr ++ [(h0, .inr (4, [.ref (a2 0), .ref q3])), ((a2 0), .inr (2, [.ref (a2 1), .ref (a2 9), .ref (a2 11), .int 0])), ((a2 1), .inr (0, [.int 0, .int 0, .ref (a2 2), .ref (a2 3), .ref (a2 4), .ref (a2 5), .ref (a2 6), .ref (a2 7), .ref (a2 8)])), ((a2 2), .inl (cA.1, 12, .inl (fun _ => 0))), ((a2 3), .inl (cA.1, 12, .inl (fun _ => 0))), ((a2 4), .inl (cA.1, 20, .inl (fun _ => 0))), ((a2 5), .inl (cA.1, 20, .inl (fun _ => 0))), ((a2 6), .inl (cA.1, 20, .inl (fun _ => 0))), ((a2 7), .inl (cA.1, 20, .inl (fun _ => 0))), ((a2 8), .inl (cA.1, 144, .inl (fun _ => 0))), ((a2 9), .inr (1, [.ref (a2 10)])), ((a2 10), .inl (cA.1, 4, .inl rl0)), ((a2 11), .inr (3, [.ref (a2 1), .ref (a2 9), .int 0, .ref (a2 12), .ref (a2 13), .ref (a2 14), .ref (a2 15), .ref (a2 16), .ref (a2 17), .ref (a2 18), .ref (a2 19), .ref (a2 20), .ref (a2 21), .ref (a2 22)])), ((a2 12), .inl (cA.1, 16, .inl (fun _ => 0))), ((a2 13), .inl (cA.1, 16, .inl (fun _ => 0))), ((a2 14), .inl (cA.1, 16, .inl (fun _ => 0))), ((a2 15), .inl (cA.1, 16, .inl (fun _ => 0))), ((a2 16), .inl (cA.1, 16, .inl (fun _ => 0))), ((a2 17), .inl (cA.1, 320, .inl (fun _ => 0))), ((a2 18), .inl (cA.1, 320, .inl (fun _ => 0))), ((a2 19), .inl (cA.1, 320, .inl (fun _ => 0))), ((a2 20), .inl (cA.1, 320, .inl (fun _ => 0))), ((a2 21), .inl (cA.1, 16, .inl (fun _ => 0))), ((a2 22), .inl (cA.2.1, 16, .inl (fun _ => 0))), (q3, .inl (cA.2.2, 2, .inr (.inr (.inr (.inr (va_up (fun _ => none) 0 (some (a5 0)))))))), ((a5 0), .inr (2, [.ref (a5 1), .ref (a5 9), .ref (a5 11), .int 0])), ((a5 1), .inr (0, [.int 0, .int 0, .ref (a5 2), .ref (a5 3), .ref (a5 4), .ref (a5 5), .ref (a5 6), .ref (a5 7), .ref (a5 8)])), ((a5 2), .inl (cA.1, 12, .inl (fun _ => 0))), ((a5 3), .inl (cA.1, 12, .inl (fun _ => 0))), ((a5 4), .inl (cA.1, 20, .inl (fun _ => 0))), ((a5 5), .inl (cA.1, 20, .inl (fun _ => 0))), ((a5 6), .inl (cA.1, 20, .inl (fun _ => 0))), ((a5 7), .inl (cA.1, 20, .inl (fun _ => 0))), ((a5 8), .inl (cA.1, 144, .inl (fun _ => 0))), ((a5 9), .inr (1, [.ref (a5 10)])), ((a5 10), .inl (cA.1, 4, .inl rl0)), ((a5 11), .inr (3, [.ref (a5 1), .ref (a5 9), .int 0, .ref (a5 12), .ref (a5 13), .ref (a5 14), .ref (a5 15), .ref (a5 16), .ref (a5 17), .ref (a5 18), .ref (a5 19), .ref (a5 20), .ref (a5 21), .ref (a5 22)])), ((a5 12), .inl (cA.1, 16, .inl (fun _ => 0))), ((a5 13), .inl (cA.1, 16, .inl (fun _ => 0))), ((a5 14), .inl (cA.1, 16, .inl (fun _ => 0))), ((a5 15), .inl (cA.1, 16, .inl (fun _ => 0))), ((a5 16), .inl (cA.1, 16, .inl (fun _ => 0))), ((a5 17), .inl (cA.1, 320, .inl (fun _ => 0))), ((a5 18), .inl (cA.1, 320, .inl (fun _ => 0))), ((a5 19), .inl (cA.1, 320, .inl (fun _ => 0))), ((a5 20), .inl (cA.1, 320, .inl (fun _ => 0))), ((a5 21), .inl (cA.1, 16, .inl (fun _ => 0))), ((a5 22), .inl (cA.2.1, 16, .inl (fun _ => 0)))]) 47 3346 43 [(1, .int 0), (0, .ref h0)] []
  refine b_iinc (k := 0) (v := 1) hz rfl (by decide) (by decide) rfl eX4_init_43 ?_
  show Bw ((l, D, cA, ad, A), y2) (wr ++ [(h0, .inr (4, [.ref (a2 0), .ref q3])), ((a2 0), .inr (2, [.ref (a2 1), .ref (a2 9), .ref (a2 11), .int 0])), ((a2 1), .inr (0, [.int 0, .int 0, .ref (a2 2), .ref (a2 3), .ref (a2 4), .ref (a2 5), .ref (a2 6), .ref (a2 7), .ref (a2 8)])), ((a2 2), .inl (cA.1, 12, .inl (fun _ => 0))), ((a2 3), .inl (cA.1, 12, .inl (fun _ => 0))), ((a2 4), .inl (cA.1, 20, .inl (fun _ => 0))), ((a2 5), .inl (cA.1, 20, .inl (fun _ => 0))), ((a2 6), .inl (cA.1, 20, .inl (fun _ => 0))), ((a2 7), .inl (cA.1, 20, .inl (fun _ => 0))), ((a2 8), .inl (cA.1, 144, .inl (fun _ => 0))), ((a2 9), .inr (1, [.ref (a2 10)])), ((a2 10), .inl (cA.1, 4, .inl rl0)), ((a2 11), .inr (3, [.ref (a2 1), .ref (a2 9), .int 0, .ref (a2 12), .ref (a2 13), .ref (a2 14), .ref (a2 15), .ref (a2 16), .ref (a2 17), .ref (a2 18), .ref (a2 19), .ref (a2 20), .ref (a2 21), .ref (a2 22)])), ((a2 12), .inl (cA.1, 16, .inl (fun _ => 0))), ((a2 13), .inl (cA.1, 16, .inl (fun _ => 0))), ((a2 14), .inl (cA.1, 16, .inl (fun _ => 0))), ((a2 15), .inl (cA.1, 16, .inl (fun _ => 0))), ((a2 16), .inl (cA.1, 16, .inl (fun _ => 0))), ((a2 17), .inl (cA.1, 320, .inl (fun _ => 0))), ((a2 18), .inl (cA.1, 320, .inl (fun _ => 0))), ((a2 19), .inl (cA.1, 320, .inl (fun _ => 0))), ((a2 20), .inl (cA.1, 320, .inl (fun _ => 0))), ((a2 21), .inl (cA.1, 16, .inl (fun _ => 0))), ((a2 22), .inl (cA.2.1, 16, .inl (fun _ => 0))), (q3, .inl (cA.2.2, 2, .inr (.inr (.inr (.inr (va_up (fun _ => none) 0 (some (a5 0)))))))), ((a5 0), .inr (2, [.ref (a5 1), .ref (a5 9), .ref (a5 11), .int 0])), ((a5 1), .inr (0, [.int 0, .int 0, .ref (a5 2), .ref (a5 3), .ref (a5 4), .ref (a5 5), .ref (a5 6), .ref (a5 7), .ref (a5 8)])), ((a5 2), .inl (cA.1, 12, .inl (fun _ => 0))), ((a5 3), .inl (cA.1, 12, .inl (fun _ => 0))), ((a5 4), .inl (cA.1, 20, .inl (fun _ => 0))), ((a5 5), .inl (cA.1, 20, .inl (fun _ => 0))), ((a5 6), .inl (cA.1, 20, .inl (fun _ => 0))), ((a5 7), .inl (cA.1, 20, .inl (fun _ => 0))), ((a5 8), .inl (cA.1, 144, .inl (fun _ => 0))), ((a5 9), .inr (1, [.ref (a5 10)])), ((a5 10), .inl (cA.1, 4, .inl rl0)), ((a5 11), .inr (3, [.ref (a5 1), .ref (a5 9), .int 0, .ref (a5 12), .ref (a5 13), .ref (a5 14), .ref (a5 15), .ref (a5 16), .ref (a5 17), .ref (a5 18), .ref (a5 19), .ref (a5 20), .ref (a5 21), .ref (a5 22)])), ((a5 12), .inl (cA.1, 16, .inl (fun _ => 0))), ((a5 13), .inl (cA.1, 16, .inl (fun _ => 0))), ((a5 14), .inl (cA.1, 16, .inl (fun _ => 0))), ((a5 15), .inl (cA.1, 16, .inl (fun _ => 0))), ((a5 16), .inl (cA.1, 16, .inl (fun _ => 0))), ((a5 17), .inl (cA.1, 320, .inl (fun _ => 0))), ((a5 18), .inl (cA.1, 320, .inl (fun _ => 0))), ((a5 19), .inl (cA.1, 320, .inl (fun _ => 0))), ((a5 20), .inl (cA.1, 320, .inl (fun _ => 0))), ((a5 21), .inl (cA.1, 16, .inl (fun _ => 0))), ((a5 22), .inl (cA.2.1, 16, .inl (fun _ => 0)))]) 47 3346 46 [(1, .int 1), (0, .ref h0)] []
  refine b_goto (t := 25) hz (by decide) eX4_init_46 ?_
  refine b_iload hz rfl (j := 0) rfl eX4_init_25 ?_
  refine b_iconst (x := 2) hz (by decide) eX4_init_26 ?_
  refine b_icmpF (t := 49) hz (by decide) (by decide) eX4_init_27 ?_
  show Bw ((l, D, cA, ad, A), y2) (wr ++ [(h0, .inr (4, [.ref (a2 0), .ref q3])), ((a2 0), .inr (2, [.ref (a2 1), .ref (a2 9), .ref (a2 11), .int 0])), ((a2 1), .inr (0, [.int 0, .int 0, .ref (a2 2), .ref (a2 3), .ref (a2 4), .ref (a2 5), .ref (a2 6), .ref (a2 7), .ref (a2 8)])), ((a2 2), .inl (cA.1, 12, .inl (fun _ => 0))), ((a2 3), .inl (cA.1, 12, .inl (fun _ => 0))), ((a2 4), .inl (cA.1, 20, .inl (fun _ => 0))), ((a2 5), .inl (cA.1, 20, .inl (fun _ => 0))), ((a2 6), .inl (cA.1, 20, .inl (fun _ => 0))), ((a2 7), .inl (cA.1, 20, .inl (fun _ => 0))), ((a2 8), .inl (cA.1, 144, .inl (fun _ => 0))), ((a2 9), .inr (1, [.ref (a2 10)])), ((a2 10), .inl (cA.1, 4, .inl rl0)), ((a2 11), .inr (3, [.ref (a2 1), .ref (a2 9), .int 0, .ref (a2 12), .ref (a2 13), .ref (a2 14), .ref (a2 15), .ref (a2 16), .ref (a2 17), .ref (a2 18), .ref (a2 19), .ref (a2 20), .ref (a2 21), .ref (a2 22)])), ((a2 12), .inl (cA.1, 16, .inl (fun _ => 0))), ((a2 13), .inl (cA.1, 16, .inl (fun _ => 0))), ((a2 14), .inl (cA.1, 16, .inl (fun _ => 0))), ((a2 15), .inl (cA.1, 16, .inl (fun _ => 0))), ((a2 16), .inl (cA.1, 16, .inl (fun _ => 0))), ((a2 17), .inl (cA.1, 320, .inl (fun _ => 0))), ((a2 18), .inl (cA.1, 320, .inl (fun _ => 0))), ((a2 19), .inl (cA.1, 320, .inl (fun _ => 0))), ((a2 20), .inl (cA.1, 320, .inl (fun _ => 0))), ((a2 21), .inl (cA.1, 16, .inl (fun _ => 0))), ((a2 22), .inl (cA.2.1, 16, .inl (fun _ => 0))), (q3, .inl (cA.2.2, 2, .inr (.inr (.inr (.inr (va_up (fun _ => none) 0 (some (a5 0)))))))), ((a5 0), .inr (2, [.ref (a5 1), .ref (a5 9), .ref (a5 11), .int 0])), ((a5 1), .inr (0, [.int 0, .int 0, .ref (a5 2), .ref (a5 3), .ref (a5 4), .ref (a5 5), .ref (a5 6), .ref (a5 7), .ref (a5 8)])), ((a5 2), .inl (cA.1, 12, .inl (fun _ => 0))), ((a5 3), .inl (cA.1, 12, .inl (fun _ => 0))), ((a5 4), .inl (cA.1, 20, .inl (fun _ => 0))), ((a5 5), .inl (cA.1, 20, .inl (fun _ => 0))), ((a5 6), .inl (cA.1, 20, .inl (fun _ => 0))), ((a5 7), .inl (cA.1, 20, .inl (fun _ => 0))), ((a5 8), .inl (cA.1, 144, .inl (fun _ => 0))), ((a5 9), .inr (1, [.ref (a5 10)])), ((a5 10), .inl (cA.1, 4, .inl rl0)), ((a5 11), .inr (3, [.ref (a5 1), .ref (a5 9), .int 0, .ref (a5 12), .ref (a5 13), .ref (a5 14), .ref (a5 15), .ref (a5 16), .ref (a5 17), .ref (a5 18), .ref (a5 19), .ref (a5 20), .ref (a5 21), .ref (a5 22)])), ((a5 12), .inl (cA.1, 16, .inl (fun _ => 0))), ((a5 13), .inl (cA.1, 16, .inl (fun _ => 0))), ((a5 14), .inl (cA.1, 16, .inl (fun _ => 0))), ((a5 15), .inl (cA.1, 16, .inl (fun _ => 0))), ((a5 16), .inl (cA.1, 16, .inl (fun _ => 0))), ((a5 17), .inl (cA.1, 320, .inl (fun _ => 0))), ((a5 18), .inl (cA.1, 320, .inl (fun _ => 0))), ((a5 19), .inl (cA.1, 320, .inl (fun _ => 0))), ((a5 20), .inl (cA.1, 320, .inl (fun _ => 0))), ((a5 21), .inl (cA.1, 16, .inl (fun _ => 0))), ((a5 22), .inl (cA.2.1, 16, .inl (fun _ => 0)))]) 47 3346 30 [(1, .int 1), (0, .ref h0)] []
  refine b_aload hz rfl (j := 1) rfl eX4_init_30 ?_
  refine b_get (i := 0) (kf := 1) (v := .ref q3) (C := RX4) (T := TX4) (N := 2) hz (flX4_ok _ (List.mem_of_getElem? (i := 1) rfl)) rfl rfl rfl eX4_init_31 ?_
  refine b_iload hz rfl (j := 0) rfl eX4_init_34 ?_
  refine b_new (ci := 2) (C := RX2) (T := TX2) (N := 4) (fs := [.null, .null, .null, .int 0]) hz rfl tyX2 tyX2_ok ⟨tv18, tv19, tv2⟩ (by decide +kernel) (Br_le hr (by decide) (by decide)) eX4_init_35 (fun q6 => ?_)
  show Bw ((l, D, cA, ad, A), y2) (wr ++ [(h0, .inr (4, [.ref (a2 0), .ref q3])), ((a2 0), .inr (2, [.ref (a2 1), .ref (a2 9), .ref (a2 11), .int 0])), ((a2 1), .inr (0, [.int 0, .int 0, .ref (a2 2), .ref (a2 3), .ref (a2 4), .ref (a2 5), .ref (a2 6), .ref (a2 7), .ref (a2 8)])), ((a2 2), .inl (cA.1, 12, .inl (fun _ => 0))), ((a2 3), .inl (cA.1, 12, .inl (fun _ => 0))), ((a2 4), .inl (cA.1, 20, .inl (fun _ => 0))), ((a2 5), .inl (cA.1, 20, .inl (fun _ => 0))), ((a2 6), .inl (cA.1, 20, .inl (fun _ => 0))), ((a2 7), .inl (cA.1, 20, .inl (fun _ => 0))), ((a2 8), .inl (cA.1, 144, .inl (fun _ => 0))), ((a2 9), .inr (1, [.ref (a2 10)])), ((a2 10), .inl (cA.1, 4, .inl rl0)), ((a2 11), .inr (3, [.ref (a2 1), .ref (a2 9), .int 0, .ref (a2 12), .ref (a2 13), .ref (a2 14), .ref (a2 15), .ref (a2 16), .ref (a2 17), .ref (a2 18), .ref (a2 19), .ref (a2 20), .ref (a2 21), .ref (a2 22)])), ((a2 12), .inl (cA.1, 16, .inl (fun _ => 0))), ((a2 13), .inl (cA.1, 16, .inl (fun _ => 0))), ((a2 14), .inl (cA.1, 16, .inl (fun _ => 0))), ((a2 15), .inl (cA.1, 16, .inl (fun _ => 0))), ((a2 16), .inl (cA.1, 16, .inl (fun _ => 0))), ((a2 17), .inl (cA.1, 320, .inl (fun _ => 0))), ((a2 18), .inl (cA.1, 320, .inl (fun _ => 0))), ((a2 19), .inl (cA.1, 320, .inl (fun _ => 0))), ((a2 20), .inl (cA.1, 320, .inl (fun _ => 0))), ((a2 21), .inl (cA.1, 16, .inl (fun _ => 0))), ((a2 22), .inl (cA.2.1, 16, .inl (fun _ => 0))), (q3, .inl (cA.2.2, 2, .inr (.inr (.inr (.inr (va_up (fun _ => none) 0 (some (a5 0)))))))), ((a5 0), .inr (2, [.ref (a5 1), .ref (a5 9), .ref (a5 11), .int 0])), ((a5 1), .inr (0, [.int 0, .int 0, .ref (a5 2), .ref (a5 3), .ref (a5 4), .ref (a5 5), .ref (a5 6), .ref (a5 7), .ref (a5 8)])), ((a5 2), .inl (cA.1, 12, .inl (fun _ => 0))), ((a5 3), .inl (cA.1, 12, .inl (fun _ => 0))), ((a5 4), .inl (cA.1, 20, .inl (fun _ => 0))), ((a5 5), .inl (cA.1, 20, .inl (fun _ => 0))), ((a5 6), .inl (cA.1, 20, .inl (fun _ => 0))), ((a5 7), .inl (cA.1, 20, .inl (fun _ => 0))), ((a5 8), .inl (cA.1, 144, .inl (fun _ => 0))), ((a5 9), .inr (1, [.ref (a5 10)])), ((a5 10), .inl (cA.1, 4, .inl rl0)), ((a5 11), .inr (3, [.ref (a5 1), .ref (a5 9), .int 0, .ref (a5 12), .ref (a5 13), .ref (a5 14), .ref (a5 15), .ref (a5 16), .ref (a5 17), .ref (a5 18), .ref (a5 19), .ref (a5 20), .ref (a5 21), .ref (a5 22)])), ((a5 12), .inl (cA.1, 16, .inl (fun _ => 0))), ((a5 13), .inl (cA.1, 16, .inl (fun _ => 0))), ((a5 14), .inl (cA.1, 16, .inl (fun _ => 0))), ((a5 15), .inl (cA.1, 16, .inl (fun _ => 0))), ((a5 16), .inl (cA.1, 16, .inl (fun _ => 0))), ((a5 17), .inl (cA.1, 320, .inl (fun _ => 0))), ((a5 18), .inl (cA.1, 320, .inl (fun _ => 0))), ((a5 19), .inl (cA.1, 320, .inl (fun _ => 0))), ((a5 20), .inl (cA.1, 320, .inl (fun _ => 0))), ((a5 21), .inl (cA.1, 16, .inl (fun _ => 0))), ((a5 22), .inl (cA.2.1, 16, .inl (fun _ => 0))), (q6, .inr (2, [.null, .null, .null, .int 0]))]) 48 3350 38 [(1, .int 1), (0, .ref h0)] [.ref q6, .int 1, .ref q3]
  refine b_dup hz rfl eX4_init_38 ?_
  refine b_call (w := [(h0, .inr (4, [.ref (a2 0), .ref q3])), ((a2 0), .inr (2, [.ref (a2 1), .ref (a2 9), .ref (a2 11), .int 0])), ((a2 1), .inr (0, [.int 0, .int 0, .ref (a2 2), .ref (a2 3), .ref (a2 4), .ref (a2 5), .ref (a2 6), .ref (a2 7), .ref (a2 8)])), ((a2 2), .inl (cA.1, 12, .inl (fun _ => 0))), ((a2 3), .inl (cA.1, 12, .inl (fun _ => 0))), ((a2 4), .inl (cA.1, 20, .inl (fun _ => 0))), ((a2 5), .inl (cA.1, 20, .inl (fun _ => 0))), ((a2 6), .inl (cA.1, 20, .inl (fun _ => 0))), ((a2 7), .inl (cA.1, 20, .inl (fun _ => 0))), ((a2 8), .inl (cA.1, 144, .inl (fun _ => 0))), ((a2 9), .inr (1, [.ref (a2 10)])), ((a2 10), .inl (cA.1, 4, .inl rl0)), ((a2 11), .inr (3, [.ref (a2 1), .ref (a2 9), .int 0, .ref (a2 12), .ref (a2 13), .ref (a2 14), .ref (a2 15), .ref (a2 16), .ref (a2 17), .ref (a2 18), .ref (a2 19), .ref (a2 20), .ref (a2 21), .ref (a2 22)])), ((a2 12), .inl (cA.1, 16, .inl (fun _ => 0))), ((a2 13), .inl (cA.1, 16, .inl (fun _ => 0))), ((a2 14), .inl (cA.1, 16, .inl (fun _ => 0))), ((a2 15), .inl (cA.1, 16, .inl (fun _ => 0))), ((a2 16), .inl (cA.1, 16, .inl (fun _ => 0))), ((a2 17), .inl (cA.1, 320, .inl (fun _ => 0))), ((a2 18), .inl (cA.1, 320, .inl (fun _ => 0))), ((a2 19), .inl (cA.1, 320, .inl (fun _ => 0))), ((a2 20), .inl (cA.1, 320, .inl (fun _ => 0))), ((a2 21), .inl (cA.1, 16, .inl (fun _ => 0))), ((a2 22), .inl (cA.2.1, 16, .inl (fun _ => 0))), (q3, .inl (cA.2.2, 2, .inr (.inr (.inr (.inr (va_up (fun _ => none) 0 (some (a5 0)))))))), ((a5 0), .inr (2, [.ref (a5 1), .ref (a5 9), .ref (a5 11), .int 0])), ((a5 1), .inr (0, [.int 0, .int 0, .ref (a5 2), .ref (a5 3), .ref (a5 4), .ref (a5 5), .ref (a5 6), .ref (a5 7), .ref (a5 8)])), ((a5 2), .inl (cA.1, 12, .inl (fun _ => 0))), ((a5 3), .inl (cA.1, 12, .inl (fun _ => 0))), ((a5 4), .inl (cA.1, 20, .inl (fun _ => 0))), ((a5 5), .inl (cA.1, 20, .inl (fun _ => 0))), ((a5 6), .inl (cA.1, 20, .inl (fun _ => 0))), ((a5 7), .inl (cA.1, 20, .inl (fun _ => 0))), ((a5 8), .inl (cA.1, 144, .inl (fun _ => 0))), ((a5 9), .inr (1, [.ref (a5 10)])), ((a5 10), .inl (cA.1, 4, .inl rl0)), ((a5 11), .inr (3, [.ref (a5 1), .ref (a5 9), .int 0, .ref (a5 12), .ref (a5 13), .ref (a5 14), .ref (a5 15), .ref (a5 16), .ref (a5 17), .ref (a5 18), .ref (a5 19), .ref (a5 20), .ref (a5 21), .ref (a5 22)])), ((a5 12), .inl (cA.1, 16, .inl (fun _ => 0))), ((a5 13), .inl (cA.1, 16, .inl (fun _ => 0))), ((a5 14), .inl (cA.1, 16, .inl (fun _ => 0))), ((a5 15), .inl (cA.1, 16, .inl (fun _ => 0))), ((a5 16), .inl (cA.1, 16, .inl (fun _ => 0))), ((a5 17), .inl (cA.1, 320, .inl (fun _ => 0))), ((a5 18), .inl (cA.1, 320, .inl (fun _ => 0))), ((a5 19), .inl (cA.1, 320, .inl (fun _ => 0))), ((a5 20), .inl (cA.1, 320, .inl (fun _ => 0))), ((a5 21), .inl (cA.1, 16, .inl (fun _ => 0))), ((a5 22), .inl (cA.2.1, 16, .inl (fun _ => 0)))]) (as := []) (a := q6) (st := [.ref q6, .int 1, .ref q3]) hz (cX2_init (l, D, cA, ad, A) q6 _) ⟨tv22, tv2, tv20, tv21, rfl, by decide +kernel, by decide +kernel⟩ 0 3 ⟨by decide +kernel, by decide, by decide, by decide⟩ rfl rfl (Br_le hr (by decide) (by decide)) eX4_init_39 ?_
  rintro ws ⟨a7, rfl, rfl⟩
  rw [List.append_assoc]
  show Bw ((l, D, cA, ad, A), y2) (wr ++ [(h0, .inr (4, [.ref (a2 0), .ref q3])), ((a2 0), .inr (2, [.ref (a2 1), .ref (a2 9), .ref (a2 11), .int 0])), ((a2 1), .inr (0, [.int 0, .int 0, .ref (a2 2), .ref (a2 3), .ref (a2 4), .ref (a2 5), .ref (a2 6), .ref (a2 7), .ref (a2 8)])), ((a2 2), .inl (cA.1, 12, .inl (fun _ => 0))), ((a2 3), .inl (cA.1, 12, .inl (fun _ => 0))), ((a2 4), .inl (cA.1, 20, .inl (fun _ => 0))), ((a2 5), .inl (cA.1, 20, .inl (fun _ => 0))), ((a2 6), .inl (cA.1, 20, .inl (fun _ => 0))), ((a2 7), .inl (cA.1, 20, .inl (fun _ => 0))), ((a2 8), .inl (cA.1, 144, .inl (fun _ => 0))), ((a2 9), .inr (1, [.ref (a2 10)])), ((a2 10), .inl (cA.1, 4, .inl rl0)), ((a2 11), .inr (3, [.ref (a2 1), .ref (a2 9), .int 0, .ref (a2 12), .ref (a2 13), .ref (a2 14), .ref (a2 15), .ref (a2 16), .ref (a2 17), .ref (a2 18), .ref (a2 19), .ref (a2 20), .ref (a2 21), .ref (a2 22)])), ((a2 12), .inl (cA.1, 16, .inl (fun _ => 0))), ((a2 13), .inl (cA.1, 16, .inl (fun _ => 0))), ((a2 14), .inl (cA.1, 16, .inl (fun _ => 0))), ((a2 15), .inl (cA.1, 16, .inl (fun _ => 0))), ((a2 16), .inl (cA.1, 16, .inl (fun _ => 0))), ((a2 17), .inl (cA.1, 320, .inl (fun _ => 0))), ((a2 18), .inl (cA.1, 320, .inl (fun _ => 0))), ((a2 19), .inl (cA.1, 320, .inl (fun _ => 0))), ((a2 20), .inl (cA.1, 320, .inl (fun _ => 0))), ((a2 21), .inl (cA.1, 16, .inl (fun _ => 0))), ((a2 22), .inl (cA.2.1, 16, .inl (fun _ => 0))), (q3, .inl (cA.2.2, 2, .inr (.inr (.inr (.inr (va_up (fun _ => none) 0 (some (a5 0)))))))), ((a5 0), .inr (2, [.ref (a5 1), .ref (a5 9), .ref (a5 11), .int 0])), ((a5 1), .inr (0, [.int 0, .int 0, .ref (a5 2), .ref (a5 3), .ref (a5 4), .ref (a5 5), .ref (a5 6), .ref (a5 7), .ref (a5 8)])), ((a5 2), .inl (cA.1, 12, .inl (fun _ => 0))), ((a5 3), .inl (cA.1, 12, .inl (fun _ => 0))), ((a5 4), .inl (cA.1, 20, .inl (fun _ => 0))), ((a5 5), .inl (cA.1, 20, .inl (fun _ => 0))), ((a5 6), .inl (cA.1, 20, .inl (fun _ => 0))), ((a5 7), .inl (cA.1, 20, .inl (fun _ => 0))), ((a5 8), .inl (cA.1, 144, .inl (fun _ => 0))), ((a5 9), .inr (1, [.ref (a5 10)])), ((a5 10), .inl (cA.1, 4, .inl rl0)), ((a5 11), .inr (3, [.ref (a5 1), .ref (a5 9), .int 0, .ref (a5 12), .ref (a5 13), .ref (a5 14), .ref (a5 15), .ref (a5 16), .ref (a5 17), .ref (a5 18), .ref (a5 19), .ref (a5 20), .ref (a5 21), .ref (a5 22)])), ((a5 12), .inl (cA.1, 16, .inl (fun _ => 0))), ((a5 13), .inl (cA.1, 16, .inl (fun _ => 0))), ((a5 14), .inl (cA.1, 16, .inl (fun _ => 0))), ((a5 15), .inl (cA.1, 16, .inl (fun _ => 0))), ((a5 16), .inl (cA.1, 16, .inl (fun _ => 0))), ((a5 17), .inl (cA.1, 320, .inl (fun _ => 0))), ((a5 18), .inl (cA.1, 320, .inl (fun _ => 0))), ((a5 19), .inl (cA.1, 320, .inl (fun _ => 0))), ((a5 20), .inl (cA.1, 320, .inl (fun _ => 0))), ((a5 21), .inl (cA.1, 16, .inl (fun _ => 0))), ((a5 22), .inl (cA.2.1, 16, .inl (fun _ => 0))), ((a7 0), .inr (2, [.ref (a7 1), .ref (a7 9), .ref (a7 11), .int 0])), ((a7 1), .inr (0, [.int 0, .int 0, .ref (a7 2), .ref (a7 3), .ref (a7 4), .ref (a7 5), .ref (a7 6), .ref (a7 7), .ref (a7 8)])), ((a7 2), .inl (cA.1, 12, .inl (fun _ => 0))), ((a7 3), .inl (cA.1, 12, .inl (fun _ => 0))), ((a7 4), .inl (cA.1, 20, .inl (fun _ => 0))), ((a7 5), .inl (cA.1, 20, .inl (fun _ => 0))), ((a7 6), .inl (cA.1, 20, .inl (fun _ => 0))), ((a7 7), .inl (cA.1, 20, .inl (fun _ => 0))), ((a7 8), .inl (cA.1, 144, .inl (fun _ => 0))), ((a7 9), .inr (1, [.ref (a7 10)])), ((a7 10), .inl (cA.1, 4, .inl rl0)), ((a7 11), .inr (3, [.ref (a7 1), .ref (a7 9), .int 0, .ref (a7 12), .ref (a7 13), .ref (a7 14), .ref (a7 15), .ref (a7 16), .ref (a7 17), .ref (a7 18), .ref (a7 19), .ref (a7 20), .ref (a7 21), .ref (a7 22)])), ((a7 12), .inl (cA.1, 16, .inl (fun _ => 0))), ((a7 13), .inl (cA.1, 16, .inl (fun _ => 0))), ((a7 14), .inl (cA.1, 16, .inl (fun _ => 0))), ((a7 15), .inl (cA.1, 16, .inl (fun _ => 0))), ((a7 16), .inl (cA.1, 16, .inl (fun _ => 0))), ((a7 17), .inl (cA.1, 320, .inl (fun _ => 0))), ((a7 18), .inl (cA.1, 320, .inl (fun _ => 0))), ((a7 19), .inl (cA.1, 320, .inl (fun _ => 0))), ((a7 20), .inl (cA.1, 320, .inl (fun _ => 0))), ((a7 21), .inl (cA.1, 16, .inl (fun _ => 0))), ((a7 22), .inl (cA.2.1, 16, .inl (fun _ => 0)))]) 70 5018 42 [(1, .int 1), (0, .ref h0)] [.ref (a7 0), .int 1, .ref q3]
  refine b_astq (i := 24) (iv := 48) (f' := (va_up (va_up (fun _ => none) 0 (some (a5 0))) 1 (some (a7 0)))) hz rfl rfl (by unfold vp_in; decide) rfl eX4_init_42 ?_
  show Bw ((l, D, cA, ad, A), y2) (wr ++ [(h0, .inr (4, [.ref (a2 0), .ref q3])), ((a2 0), .inr (2, [.ref (a2 1), .ref (a2 9), .ref (a2 11), .int 0])), ((a2 1), .inr (0, [.int 0, .int 0, .ref (a2 2), .ref (a2 3), .ref (a2 4), .ref (a2 5), .ref (a2 6), .ref (a2 7), .ref (a2 8)])), ((a2 2), .inl (cA.1, 12, .inl (fun _ => 0))), ((a2 3), .inl (cA.1, 12, .inl (fun _ => 0))), ((a2 4), .inl (cA.1, 20, .inl (fun _ => 0))), ((a2 5), .inl (cA.1, 20, .inl (fun _ => 0))), ((a2 6), .inl (cA.1, 20, .inl (fun _ => 0))), ((a2 7), .inl (cA.1, 20, .inl (fun _ => 0))), ((a2 8), .inl (cA.1, 144, .inl (fun _ => 0))), ((a2 9), .inr (1, [.ref (a2 10)])), ((a2 10), .inl (cA.1, 4, .inl rl0)), ((a2 11), .inr (3, [.ref (a2 1), .ref (a2 9), .int 0, .ref (a2 12), .ref (a2 13), .ref (a2 14), .ref (a2 15), .ref (a2 16), .ref (a2 17), .ref (a2 18), .ref (a2 19), .ref (a2 20), .ref (a2 21), .ref (a2 22)])), ((a2 12), .inl (cA.1, 16, .inl (fun _ => 0))), ((a2 13), .inl (cA.1, 16, .inl (fun _ => 0))), ((a2 14), .inl (cA.1, 16, .inl (fun _ => 0))), ((a2 15), .inl (cA.1, 16, .inl (fun _ => 0))), ((a2 16), .inl (cA.1, 16, .inl (fun _ => 0))), ((a2 17), .inl (cA.1, 320, .inl (fun _ => 0))), ((a2 18), .inl (cA.1, 320, .inl (fun _ => 0))), ((a2 19), .inl (cA.1, 320, .inl (fun _ => 0))), ((a2 20), .inl (cA.1, 320, .inl (fun _ => 0))), ((a2 21), .inl (cA.1, 16, .inl (fun _ => 0))), ((a2 22), .inl (cA.2.1, 16, .inl (fun _ => 0))), (q3, .inl (cA.2.2, 2, .inr (.inr (.inr (.inr (va_up (va_up (fun _ => none) 0 (some (a5 0))) 1 (some (a7 0)))))))), ((a5 0), .inr (2, [.ref (a5 1), .ref (a5 9), .ref (a5 11), .int 0])), ((a5 1), .inr (0, [.int 0, .int 0, .ref (a5 2), .ref (a5 3), .ref (a5 4), .ref (a5 5), .ref (a5 6), .ref (a5 7), .ref (a5 8)])), ((a5 2), .inl (cA.1, 12, .inl (fun _ => 0))), ((a5 3), .inl (cA.1, 12, .inl (fun _ => 0))), ((a5 4), .inl (cA.1, 20, .inl (fun _ => 0))), ((a5 5), .inl (cA.1, 20, .inl (fun _ => 0))), ((a5 6), .inl (cA.1, 20, .inl (fun _ => 0))), ((a5 7), .inl (cA.1, 20, .inl (fun _ => 0))), ((a5 8), .inl (cA.1, 144, .inl (fun _ => 0))), ((a5 9), .inr (1, [.ref (a5 10)])), ((a5 10), .inl (cA.1, 4, .inl rl0)), ((a5 11), .inr (3, [.ref (a5 1), .ref (a5 9), .int 0, .ref (a5 12), .ref (a5 13), .ref (a5 14), .ref (a5 15), .ref (a5 16), .ref (a5 17), .ref (a5 18), .ref (a5 19), .ref (a5 20), .ref (a5 21), .ref (a5 22)])), ((a5 12), .inl (cA.1, 16, .inl (fun _ => 0))), ((a5 13), .inl (cA.1, 16, .inl (fun _ => 0))), ((a5 14), .inl (cA.1, 16, .inl (fun _ => 0))), ((a5 15), .inl (cA.1, 16, .inl (fun _ => 0))), ((a5 16), .inl (cA.1, 16, .inl (fun _ => 0))), ((a5 17), .inl (cA.1, 320, .inl (fun _ => 0))), ((a5 18), .inl (cA.1, 320, .inl (fun _ => 0))), ((a5 19), .inl (cA.1, 320, .inl (fun _ => 0))), ((a5 20), .inl (cA.1, 320, .inl (fun _ => 0))), ((a5 21), .inl (cA.1, 16, .inl (fun _ => 0))), ((a5 22), .inl (cA.2.1, 16, .inl (fun _ => 0))), ((a7 0), .inr (2, [.ref (a7 1), .ref (a7 9), .ref (a7 11), .int 0])), ((a7 1), .inr (0, [.int 0, .int 0, .ref (a7 2), .ref (a7 3), .ref (a7 4), .ref (a7 5), .ref (a7 6), .ref (a7 7), .ref (a7 8)])), ((a7 2), .inl (cA.1, 12, .inl (fun _ => 0))), ((a7 3), .inl (cA.1, 12, .inl (fun _ => 0))), ((a7 4), .inl (cA.1, 20, .inl (fun _ => 0))), ((a7 5), .inl (cA.1, 20, .inl (fun _ => 0))), ((a7 6), .inl (cA.1, 20, .inl (fun _ => 0))), ((a7 7), .inl (cA.1, 20, .inl (fun _ => 0))), ((a7 8), .inl (cA.1, 144, .inl (fun _ => 0))), ((a7 9), .inr (1, [.ref (a7 10)])), ((a7 10), .inl (cA.1, 4, .inl rl0)), ((a7 11), .inr (3, [.ref (a7 1), .ref (a7 9), .int 0, .ref (a7 12), .ref (a7 13), .ref (a7 14), .ref (a7 15), .ref (a7 16), .ref (a7 17), .ref (a7 18), .ref (a7 19), .ref (a7 20), .ref (a7 21), .ref (a7 22)])), ((a7 12), .inl (cA.1, 16, .inl (fun _ => 0))), ((a7 13), .inl (cA.1, 16, .inl (fun _ => 0))), ((a7 14), .inl (cA.1, 16, .inl (fun _ => 0))), ((a7 15), .inl (cA.1, 16, .inl (fun _ => 0))), ((a7 16), .inl (cA.1, 16, .inl (fun _ => 0))), ((a7 17), .inl (cA.1, 320, .inl (fun _ => 0))), ((a7 18), .inl (cA.1, 320, .inl (fun _ => 0))), ((a7 19), .inl (cA.1, 320, .inl (fun _ => 0))), ((a7 20), .inl (cA.1, 320, .inl (fun _ => 0))), ((a7 21), .inl (cA.1, 16, .inl (fun _ => 0))), ((a7 22), .inl (cA.2.1, 16, .inl (fun _ => 0)))]) 70 5018 43 [(1, .int 1), (0, .ref h0)] []
  refine b_iinc (k := 0) (v := 2) hz rfl (by decide) (by decide) rfl eX4_init_43 ?_
  show Bw ((l, D, cA, ad, A), y2) (wr ++ [(h0, .inr (4, [.ref (a2 0), .ref q3])), ((a2 0), .inr (2, [.ref (a2 1), .ref (a2 9), .ref (a2 11), .int 0])), ((a2 1), .inr (0, [.int 0, .int 0, .ref (a2 2), .ref (a2 3), .ref (a2 4), .ref (a2 5), .ref (a2 6), .ref (a2 7), .ref (a2 8)])), ((a2 2), .inl (cA.1, 12, .inl (fun _ => 0))), ((a2 3), .inl (cA.1, 12, .inl (fun _ => 0))), ((a2 4), .inl (cA.1, 20, .inl (fun _ => 0))), ((a2 5), .inl (cA.1, 20, .inl (fun _ => 0))), ((a2 6), .inl (cA.1, 20, .inl (fun _ => 0))), ((a2 7), .inl (cA.1, 20, .inl (fun _ => 0))), ((a2 8), .inl (cA.1, 144, .inl (fun _ => 0))), ((a2 9), .inr (1, [.ref (a2 10)])), ((a2 10), .inl (cA.1, 4, .inl rl0)), ((a2 11), .inr (3, [.ref (a2 1), .ref (a2 9), .int 0, .ref (a2 12), .ref (a2 13), .ref (a2 14), .ref (a2 15), .ref (a2 16), .ref (a2 17), .ref (a2 18), .ref (a2 19), .ref (a2 20), .ref (a2 21), .ref (a2 22)])), ((a2 12), .inl (cA.1, 16, .inl (fun _ => 0))), ((a2 13), .inl (cA.1, 16, .inl (fun _ => 0))), ((a2 14), .inl (cA.1, 16, .inl (fun _ => 0))), ((a2 15), .inl (cA.1, 16, .inl (fun _ => 0))), ((a2 16), .inl (cA.1, 16, .inl (fun _ => 0))), ((a2 17), .inl (cA.1, 320, .inl (fun _ => 0))), ((a2 18), .inl (cA.1, 320, .inl (fun _ => 0))), ((a2 19), .inl (cA.1, 320, .inl (fun _ => 0))), ((a2 20), .inl (cA.1, 320, .inl (fun _ => 0))), ((a2 21), .inl (cA.1, 16, .inl (fun _ => 0))), ((a2 22), .inl (cA.2.1, 16, .inl (fun _ => 0))), (q3, .inl (cA.2.2, 2, .inr (.inr (.inr (.inr (va_up (va_up (fun _ => none) 0 (some (a5 0))) 1 (some (a7 0)))))))), ((a5 0), .inr (2, [.ref (a5 1), .ref (a5 9), .ref (a5 11), .int 0])), ((a5 1), .inr (0, [.int 0, .int 0, .ref (a5 2), .ref (a5 3), .ref (a5 4), .ref (a5 5), .ref (a5 6), .ref (a5 7), .ref (a5 8)])), ((a5 2), .inl (cA.1, 12, .inl (fun _ => 0))), ((a5 3), .inl (cA.1, 12, .inl (fun _ => 0))), ((a5 4), .inl (cA.1, 20, .inl (fun _ => 0))), ((a5 5), .inl (cA.1, 20, .inl (fun _ => 0))), ((a5 6), .inl (cA.1, 20, .inl (fun _ => 0))), ((a5 7), .inl (cA.1, 20, .inl (fun _ => 0))), ((a5 8), .inl (cA.1, 144, .inl (fun _ => 0))), ((a5 9), .inr (1, [.ref (a5 10)])), ((a5 10), .inl (cA.1, 4, .inl rl0)), ((a5 11), .inr (3, [.ref (a5 1), .ref (a5 9), .int 0, .ref (a5 12), .ref (a5 13), .ref (a5 14), .ref (a5 15), .ref (a5 16), .ref (a5 17), .ref (a5 18), .ref (a5 19), .ref (a5 20), .ref (a5 21), .ref (a5 22)])), ((a5 12), .inl (cA.1, 16, .inl (fun _ => 0))), ((a5 13), .inl (cA.1, 16, .inl (fun _ => 0))), ((a5 14), .inl (cA.1, 16, .inl (fun _ => 0))), ((a5 15), .inl (cA.1, 16, .inl (fun _ => 0))), ((a5 16), .inl (cA.1, 16, .inl (fun _ => 0))), ((a5 17), .inl (cA.1, 320, .inl (fun _ => 0))), ((a5 18), .inl (cA.1, 320, .inl (fun _ => 0))), ((a5 19), .inl (cA.1, 320, .inl (fun _ => 0))), ((a5 20), .inl (cA.1, 320, .inl (fun _ => 0))), ((a5 21), .inl (cA.1, 16, .inl (fun _ => 0))), ((a5 22), .inl (cA.2.1, 16, .inl (fun _ => 0))), ((a7 0), .inr (2, [.ref (a7 1), .ref (a7 9), .ref (a7 11), .int 0])), ((a7 1), .inr (0, [.int 0, .int 0, .ref (a7 2), .ref (a7 3), .ref (a7 4), .ref (a7 5), .ref (a7 6), .ref (a7 7), .ref (a7 8)])), ((a7 2), .inl (cA.1, 12, .inl (fun _ => 0))), ((a7 3), .inl (cA.1, 12, .inl (fun _ => 0))), ((a7 4), .inl (cA.1, 20, .inl (fun _ => 0))), ((a7 5), .inl (cA.1, 20, .inl (fun _ => 0))), ((a7 6), .inl (cA.1, 20, .inl (fun _ => 0))), ((a7 7), .inl (cA.1, 20, .inl (fun _ => 0))), ((a7 8), .inl (cA.1, 144, .inl (fun _ => 0))), ((a7 9), .inr (1, [.ref (a7 10)])), ((a7 10), .inl (cA.1, 4, .inl rl0)), ((a7 11), .inr (3, [.ref (a7 1), .ref (a7 9), .int 0, .ref (a7 12), .ref (a7 13), .ref (a7 14), .ref (a7 15), .ref (a7 16), .ref (a7 17), .ref (a7 18), .ref (a7 19), .ref (a7 20), .ref (a7 21), .ref (a7 22)])), ((a7 12), .inl (cA.1, 16, .inl (fun _ => 0))), ((a7 13), .inl (cA.1, 16, .inl (fun _ => 0))), ((a7 14), .inl (cA.1, 16, .inl (fun _ => 0))), ((a7 15), .inl (cA.1, 16, .inl (fun _ => 0))), ((a7 16), .inl (cA.1, 16, .inl (fun _ => 0))), ((a7 17), .inl (cA.1, 320, .inl (fun _ => 0))), ((a7 18), .inl (cA.1, 320, .inl (fun _ => 0))), ((a7 19), .inl (cA.1, 320, .inl (fun _ => 0))), ((a7 20), .inl (cA.1, 320, .inl (fun _ => 0))), ((a7 21), .inl (cA.1, 16, .inl (fun _ => 0))), ((a7 22), .inl (cA.2.1, 16, .inl (fun _ => 0)))]) 70 5018 46 [(1, .int 2), (0, .ref h0)] []
  refine b_goto (t := 25) hz (by decide) eX4_init_46 ?_
  refine b_iload hz rfl (j := 0) rfl eX4_init_25 ?_
  refine b_iconst (x := 2) hz (by decide) eX4_init_26 ?_
  refine b_icmpT (t := 49) hz (by decide) (by decide) eX4_init_27 ?_
  show Bw ((l, D, cA, ad, A), y2) (wr ++ [(h0, .inr (4, [.ref (a2 0), .ref q3])), ((a2 0), .inr (2, [.ref (a2 1), .ref (a2 9), .ref (a2 11), .int 0])), ((a2 1), .inr (0, [.int 0, .int 0, .ref (a2 2), .ref (a2 3), .ref (a2 4), .ref (a2 5), .ref (a2 6), .ref (a2 7), .ref (a2 8)])), ((a2 2), .inl (cA.1, 12, .inl (fun _ => 0))), ((a2 3), .inl (cA.1, 12, .inl (fun _ => 0))), ((a2 4), .inl (cA.1, 20, .inl (fun _ => 0))), ((a2 5), .inl (cA.1, 20, .inl (fun _ => 0))), ((a2 6), .inl (cA.1, 20, .inl (fun _ => 0))), ((a2 7), .inl (cA.1, 20, .inl (fun _ => 0))), ((a2 8), .inl (cA.1, 144, .inl (fun _ => 0))), ((a2 9), .inr (1, [.ref (a2 10)])), ((a2 10), .inl (cA.1, 4, .inl rl0)), ((a2 11), .inr (3, [.ref (a2 1), .ref (a2 9), .int 0, .ref (a2 12), .ref (a2 13), .ref (a2 14), .ref (a2 15), .ref (a2 16), .ref (a2 17), .ref (a2 18), .ref (a2 19), .ref (a2 20), .ref (a2 21), .ref (a2 22)])), ((a2 12), .inl (cA.1, 16, .inl (fun _ => 0))), ((a2 13), .inl (cA.1, 16, .inl (fun _ => 0))), ((a2 14), .inl (cA.1, 16, .inl (fun _ => 0))), ((a2 15), .inl (cA.1, 16, .inl (fun _ => 0))), ((a2 16), .inl (cA.1, 16, .inl (fun _ => 0))), ((a2 17), .inl (cA.1, 320, .inl (fun _ => 0))), ((a2 18), .inl (cA.1, 320, .inl (fun _ => 0))), ((a2 19), .inl (cA.1, 320, .inl (fun _ => 0))), ((a2 20), .inl (cA.1, 320, .inl (fun _ => 0))), ((a2 21), .inl (cA.1, 16, .inl (fun _ => 0))), ((a2 22), .inl (cA.2.1, 16, .inl (fun _ => 0))), (q3, .inl (cA.2.2, 2, .inr (.inr (.inr (.inr (va_up (va_up (fun _ => none) 0 (some (a5 0))) 1 (some (a7 0)))))))), ((a5 0), .inr (2, [.ref (a5 1), .ref (a5 9), .ref (a5 11), .int 0])), ((a5 1), .inr (0, [.int 0, .int 0, .ref (a5 2), .ref (a5 3), .ref (a5 4), .ref (a5 5), .ref (a5 6), .ref (a5 7), .ref (a5 8)])), ((a5 2), .inl (cA.1, 12, .inl (fun _ => 0))), ((a5 3), .inl (cA.1, 12, .inl (fun _ => 0))), ((a5 4), .inl (cA.1, 20, .inl (fun _ => 0))), ((a5 5), .inl (cA.1, 20, .inl (fun _ => 0))), ((a5 6), .inl (cA.1, 20, .inl (fun _ => 0))), ((a5 7), .inl (cA.1, 20, .inl (fun _ => 0))), ((a5 8), .inl (cA.1, 144, .inl (fun _ => 0))), ((a5 9), .inr (1, [.ref (a5 10)])), ((a5 10), .inl (cA.1, 4, .inl rl0)), ((a5 11), .inr (3, [.ref (a5 1), .ref (a5 9), .int 0, .ref (a5 12), .ref (a5 13), .ref (a5 14), .ref (a5 15), .ref (a5 16), .ref (a5 17), .ref (a5 18), .ref (a5 19), .ref (a5 20), .ref (a5 21), .ref (a5 22)])), ((a5 12), .inl (cA.1, 16, .inl (fun _ => 0))), ((a5 13), .inl (cA.1, 16, .inl (fun _ => 0))), ((a5 14), .inl (cA.1, 16, .inl (fun _ => 0))), ((a5 15), .inl (cA.1, 16, .inl (fun _ => 0))), ((a5 16), .inl (cA.1, 16, .inl (fun _ => 0))), ((a5 17), .inl (cA.1, 320, .inl (fun _ => 0))), ((a5 18), .inl (cA.1, 320, .inl (fun _ => 0))), ((a5 19), .inl (cA.1, 320, .inl (fun _ => 0))), ((a5 20), .inl (cA.1, 320, .inl (fun _ => 0))), ((a5 21), .inl (cA.1, 16, .inl (fun _ => 0))), ((a5 22), .inl (cA.2.1, 16, .inl (fun _ => 0))), ((a7 0), .inr (2, [.ref (a7 1), .ref (a7 9), .ref (a7 11), .int 0])), ((a7 1), .inr (0, [.int 0, .int 0, .ref (a7 2), .ref (a7 3), .ref (a7 4), .ref (a7 5), .ref (a7 6), .ref (a7 7), .ref (a7 8)])), ((a7 2), .inl (cA.1, 12, .inl (fun _ => 0))), ((a7 3), .inl (cA.1, 12, .inl (fun _ => 0))), ((a7 4), .inl (cA.1, 20, .inl (fun _ => 0))), ((a7 5), .inl (cA.1, 20, .inl (fun _ => 0))), ((a7 6), .inl (cA.1, 20, .inl (fun _ => 0))), ((a7 7), .inl (cA.1, 20, .inl (fun _ => 0))), ((a7 8), .inl (cA.1, 144, .inl (fun _ => 0))), ((a7 9), .inr (1, [.ref (a7 10)])), ((a7 10), .inl (cA.1, 4, .inl rl0)), ((a7 11), .inr (3, [.ref (a7 1), .ref (a7 9), .int 0, .ref (a7 12), .ref (a7 13), .ref (a7 14), .ref (a7 15), .ref (a7 16), .ref (a7 17), .ref (a7 18), .ref (a7 19), .ref (a7 20), .ref (a7 21), .ref (a7 22)])), ((a7 12), .inl (cA.1, 16, .inl (fun _ => 0))), ((a7 13), .inl (cA.1, 16, .inl (fun _ => 0))), ((a7 14), .inl (cA.1, 16, .inl (fun _ => 0))), ((a7 15), .inl (cA.1, 16, .inl (fun _ => 0))), ((a7 16), .inl (cA.1, 16, .inl (fun _ => 0))), ((a7 17), .inl (cA.1, 320, .inl (fun _ => 0))), ((a7 18), .inl (cA.1, 320, .inl (fun _ => 0))), ((a7 19), .inl (cA.1, 320, .inl (fun _ => 0))), ((a7 20), .inl (cA.1, 320, .inl (fun _ => 0))), ((a7 21), .inl (cA.1, 16, .inl (fun _ => 0))), ((a7 22), .inl (cA.2.1, 16, .inl (fun _ => 0)))]) 70 5018 49 [(1, .int 2), (0, .ref h0)] []
  exact b_vret hz hR ⟨fun k => [h0, (a2 0), (a2 1), (a2 2), (a2 3), (a2 4), (a2 5), (a2 6), (a2 7), (a2 8), (a2 9), (a2 10), (a2 11), (a2 12), (a2 13), (a2 14), (a2 15), (a2 16), (a2 17), (a2 18), (a2 19), (a2 20), (a2 21), (a2 22), q3, (a5 0), (a5 1), (a5 2), (a5 3), (a5 4), (a5 5), (a5 6), (a5 7), (a5 8), (a5 9), (a5 10), (a5 11), (a5 12), (a5 13), (a5 14), (a5 15), (a5 16), (a5 17), (a5 18), (a5 19), (a5 20), (a5 21), (a5 22), (a7 0), (a7 1), (a7 2), (a7 3), (a7 4), (a7 5), (a7 6), (a7 7), (a7 8), (a7 9), (a7 10), (a7 11), (a7 12), (a7 13), (a7 14), (a7 15), (a7 16), (a7 17), (a7 18), (a7 19), (a7 20), (a7 21), (a7 22)].getD k 0, rfl, rfl⟩ eX4_init_49
end
