-- ===== PART A: goes FIRST, ahead of the names: the tables' words, and 'selects' of the private methods out of them =====
/-- a private method of a class that the tables say can be made, by its rows of tables_1 -/
def lw_okq (q : MethodName × Nat) : Prop := (q.1.cls ≠ "java/lang/invoke/MethodHandle" ∧ q.1.cls ≠ "java/lang/invoke/VarHandle") ∧ Cond.instantiable q.1.cls q.2 ∈ tables_1 ∧ Cond.privateMethod q.1 ∈ tables_1 ∧ Cond.instanceMethod q.1 ∈ tables_1
theorem lw_p0 : lw_okq (⟨"RoadTrace$Net", "shortenBy", "(III)V"⟩, 9) := ⟨⟨by decide +kernel, by decide +kernel⟩, List.mem_of_getElem? (i := 25) (by decide +kernel), List.mem_of_getElem? (i := 195) (by decide +kernel), List.mem_of_getElem? (i := 196) (by decide +kernel)⟩
theorem lw_p1 : lw_okq (⟨"RoadTrace$Net", "lengthOut", "(III)I"⟩, 9) := ⟨⟨by decide +kernel, by decide +kernel⟩, List.mem_of_getElem? (i := 25) (by decide +kernel), List.mem_of_getElem? (i := 251) (by decide +kernel), List.mem_of_getElem? (i := 252) (by decide +kernel)⟩
theorem lw_p2 : lw_okq (⟨"RoadTrace$Net", "lengthAlong", "(II)I"⟩, 9) := ⟨⟨by decide +kernel, by decide +kernel⟩, List.mem_of_getElem? (i := 25) (by decide +kernel), List.mem_of_getElem? (i := 255) (by decide +kernel), List.mem_of_getElem? (i := 256) (by decide +kernel)⟩
theorem lw_p3 : lw_okq (⟨"RoadTrace$Net", "leaveLength", "(IZ)I"⟩, 9) := ⟨⟨by decide +kernel, by decide +kernel⟩, List.mem_of_getElem? (i := 25) (by decide +kernel), List.mem_of_getElem? (i := 262) (by decide +kernel), List.mem_of_getElem? (i := 263) (by decide +kernel)⟩
theorem lw_p4 : lw_okq (⟨"RoadTrace$Net", "endOf", "(IZ)I"⟩, 9) := ⟨⟨by decide +kernel, by decide +kernel⟩, List.mem_of_getElem? (i := 25) (by decide +kernel), List.mem_of_getElem? (i := 266) (by decide +kernel), List.mem_of_getElem? (i := 267) (by decide +kernel)⟩
theorem lw_p5 : lw_okq (⟨"RoadTrace$Net", "comeLength", "(IZ)I"⟩, 9) := ⟨⟨by decide +kernel, by decide +kernel⟩, List.mem_of_getElem? (i := 25) (by decide +kernel), List.mem_of_getElem? (i := 273) (by decide +kernel), List.mem_of_getElem? (i := 274) (by decide +kernel)⟩
theorem lw_p6 : lw_okq (⟨"RoadTrace$Trace", "lastFixed", "()I"⟩, 14) := ⟨⟨by decide +kernel, by decide +kernel⟩, List.mem_of_getElem? (i := 74) (by decide +kernel), List.mem_of_getElem? (i := 285) (by decide +kernel), List.mem_of_getElem? (i := 286) (by decide +kernel)⟩
theorem lw_p7 : lw_okq (⟨"RoadTrace$Trace", "isGap", "(I)Z"⟩, 14) := ⟨⟨by decide +kernel, by decide +kernel⟩, List.mem_of_getElem? (i := 74) (by decide +kernel), List.mem_of_getElem? (i := 289) (by decide +kernel), List.mem_of_getElem? (i := 290) (by decide +kernel)⟩
theorem lw_p8 : lw_okq (⟨"RoadTrace$Trace", "findCandidates", "(I)V"⟩, 14) := ⟨⟨by decide +kernel, by decide +kernel⟩, List.mem_of_getElem? (i := 74) (by decide +kernel), List.mem_of_getElem? (i := 297) (by decide +kernel), List.mem_of_getElem? (i := 298) (by decide +kernel)⟩
theorem lw_p9 : lw_okq (⟨"RoadTrace$Net", "nearestX", "(II)I"⟩, 9) := ⟨⟨by decide +kernel, by decide +kernel⟩, List.mem_of_getElem? (i := 25) (by decide +kernel), List.mem_of_getElem? (i := 309) (by decide +kernel), List.mem_of_getElem? (i := 310) (by decide +kernel)⟩
theorem lw_p10 : lw_okq (⟨"RoadTrace$Net", "nearestY", "(II)I"⟩, 9) := ⟨⟨by decide +kernel, by decide +kernel⟩, List.mem_of_getElem? (i := 25) (by decide +kernel), List.mem_of_getElem? (i := 316) (by decide +kernel), List.mem_of_getElem? (i := 317) (by decide +kernel)⟩
theorem lw_p11 : lw_okq (⟨"RoadTrace$Trace", "beginPiece", "(II)V"⟩, 14) := ⟨⟨by decide +kernel, by decide +kernel⟩, List.mem_of_getElem? (i := 74) (by decide +kernel), List.mem_of_getElem? (i := 327) (by decide +kernel), List.mem_of_getElem? (i := 328) (by decide +kernel)⟩
theorem lw_p12 : lw_okq (⟨"RoadTrace$Trace", "goesOn", "(II)Z"⟩, 14) := ⟨⟨by decide +kernel, by decide +kernel⟩, List.mem_of_getElem? (i := 74) (by decide +kernel), List.mem_of_getElem? (i := 331) (by decide +kernel), List.mem_of_getElem? (i := 332) (by decide +kernel)⟩
theorem lw_p13 : lw_okq (⟨"RoadTrace$Trace", "joinCandidate", "(III)V"⟩, 14) := ⟨⟨by decide +kernel, by decide +kernel⟩, List.mem_of_getElem? (i := 74) (by decide +kernel), List.mem_of_getElem? (i := 335) (by decide +kernel), List.mem_of_getElem? (i := 336) (by decide +kernel)⟩
theorem lw_p14 : lw_okq (⟨"RoadTrace$Trace", "settle", "()V"⟩, 14) := ⟨⟨by decide +kernel, by decide +kernel⟩, List.mem_of_getElem? (i := 74) (by decide +kernel), List.mem_of_getElem? (i := 341) (by decide +kernel), List.mem_of_getElem? (i := 342) (by decide +kernel)⟩
theorem lw_p15 : lw_okq (⟨"RoadTrace$Trace", "backOf", "(II)I"⟩, 14) := ⟨⟨by decide +kernel, by decide +kernel⟩, List.mem_of_getElem? (i := 74) (by decide +kernel), List.mem_of_getElem? (i := 345) (by decide +kernel), List.mem_of_getElem? (i := 346) (by decide +kernel)⟩
def lw_privs_1 : List (MethodName × Nat) := [(⟨"RoadTrace$Net", "shortenBy", "(III)V"⟩, 9), (⟨"RoadTrace$Net", "lengthOut", "(III)I"⟩, 9), (⟨"RoadTrace$Net", "lengthAlong", "(II)I"⟩, 9), (⟨"RoadTrace$Net", "leaveLength", "(IZ)I"⟩, 9), (⟨"RoadTrace$Net", "endOf", "(IZ)I"⟩, 9), (⟨"RoadTrace$Net", "comeLength", "(IZ)I"⟩, 9), (⟨"RoadTrace$Trace", "lastFixed", "()I"⟩, 14), (⟨"RoadTrace$Trace", "isGap", "(I)Z"⟩, 14), (⟨"RoadTrace$Trace", "findCandidates", "(I)V"⟩, 14), (⟨"RoadTrace$Net", "nearestX", "(II)I"⟩, 9), (⟨"RoadTrace$Net", "nearestY", "(II)I"⟩, 9), (⟨"RoadTrace$Trace", "beginPiece", "(II)V"⟩, 14), (⟨"RoadTrace$Trace", "goesOn", "(II)Z"⟩, 14), (⟨"RoadTrace$Trace", "joinCandidate", "(III)V"⟩, 14), (⟨"RoadTrace$Trace", "settle", "()V"⟩, 14), (⟨"RoadTrace$Trace", "backOf", "(II)I"⟩, 14)]
theorem lw_r1 : ∀ q ∈ lw_privs_1, lw_okq q := List.forall_mem_cons.mpr ⟨lw_p0, List.forall_mem_cons.mpr ⟨lw_p1, List.forall_mem_cons.mpr ⟨lw_p2, List.forall_mem_cons.mpr ⟨lw_p3, List.forall_mem_cons.mpr ⟨lw_p4, List.forall_mem_cons.mpr ⟨lw_p5, List.forall_mem_cons.mpr ⟨lw_p6, List.forall_mem_cons.mpr ⟨lw_p7, List.forall_mem_cons.mpr ⟨lw_p8, List.forall_mem_cons.mpr ⟨lw_p9, List.forall_mem_cons.mpr ⟨lw_p10, List.forall_mem_cons.mpr ⟨lw_p11, List.forall_mem_cons.mpr ⟨lw_p12, List.forall_mem_cons.mpr ⟨lw_p13, List.forall_mem_cons.mpr ⟨lw_p14, List.forall_mem_cons.mpr ⟨lw_p15, fun _ h => absurd h List.not_mem_nil⟩⟩⟩⟩⟩⟩⟩⟩⟩⟩⟩⟩⟩⟩⟩⟩
theorem lw_p16 : lw_okq (⟨"RoadTrace$Trace", "hasCandidate", "(II)Z"⟩, 14) := ⟨⟨by decide +kernel, by decide +kernel⟩, List.mem_of_getElem? (i := 74) (by decide +kernel), List.mem_of_getElem? (i := 349) (by decide +kernel), List.mem_of_getElem? (i := 350) (by decide +kernel)⟩
theorem lw_p17 : lw_okq (⟨"RoadTrace$Trace", "backsOf", "(II)I"⟩, 14) := ⟨⟨by decide +kernel, by decide +kernel⟩, List.mem_of_getElem? (i := 74) (by decide +kernel), List.mem_of_getElem? (i := 353) (by decide +kernel), List.mem_of_getElem? (i := 354) (by decide +kernel)⟩
theorem lw_p18 : lw_okq (⟨"RoadTrace$Trace", "cheapest", "(I)I"⟩, 14) := ⟨⟨by decide +kernel, by decide +kernel⟩, List.mem_of_getElem? (i := 74) (by decide +kernel), List.mem_of_getElem? (i := 357) (by decide +kernel), List.mem_of_getElem? (i := 358) (by decide +kernel)⟩
theorem lw_p19 : lw_okq (⟨"RoadTrace$Trace", "alive", "(I)I"⟩, 14) := ⟨⟨by decide +kernel, by decide +kernel⟩, List.mem_of_getElem? (i := 74) (by decide +kernel), List.mem_of_getElem? (i := 361) (by decide +kernel), List.mem_of_getElem? (i := 362) (by decide +kernel)⟩
theorem lw_p20 : lw_okq (⟨"RoadTrace$Trace", "stepStart", "(I)I"⟩, 14) := ⟨⟨by decide +kernel, by decide +kernel⟩, List.mem_of_getElem? (i := 74) (by decide +kernel), List.mem_of_getElem? (i := 412) (by decide +kernel), List.mem_of_getElem? (i := 413) (by decide +kernel)⟩
theorem lw_p21 : lw_okq (⟨"RoadTrace$Net", "wayOut", "(II)I"⟩, 9) := ⟨⟨by decide +kernel, by decide +kernel⟩, List.mem_of_getElem? (i := 25) (by decide +kernel), List.mem_of_getElem? (i := 429) (by decide +kernel), List.mem_of_getElem? (i := 430) (by decide +kernel)⟩
theorem lw_p22 : lw_okq (⟨"RoadTrace$Net", "nextCrossing", "(II)I"⟩, 9) := ⟨⟨by decide +kernel, by decide +kernel⟩, List.mem_of_getElem? (i := 25) (by decide +kernel), List.mem_of_getElem? (i := 434) (by decide +kernel), List.mem_of_getElem? (i := 435) (by decide +kernel)⟩
theorem lw_p23 : lw_okq (⟨"RoadTrace$Net", "leadsFrom", "(II)I"⟩, 9) := ⟨⟨by decide +kernel, by decide +kernel⟩, List.mem_of_getElem? (i := 25) (by decide +kernel), List.mem_of_getElem? (i := 439) (by decide +kernel), List.mem_of_getElem? (i := 440) (by decide +kernel)⟩
theorem lw_p24 : lw_okq (⟨"RoadTrace$Trace", "endsPiece", "(I)Z"⟩, 14) := ⟨⟨by decide +kernel, by decide +kernel⟩, List.mem_of_getElem? (i := 74) (by decide +kernel), List.mem_of_getElem? (i := 451) (by decide +kernel), List.mem_of_getElem? (i := 452) (by decide +kernel)⟩
theorem lw_p25 : lw_okq (⟨"RoadTrace", "tellCount", "(I)I"⟩, 2) := ⟨⟨by decide +kernel, by decide +kernel⟩, List.mem_of_getElem? (i := 11) (by decide +kernel), List.mem_of_getElem? (i := 505) (by decide +kernel), List.mem_of_getElem? (i := 506) (by decide +kernel)⟩
theorem lw_p26 : lw_okq (⟨"RoadTraceModel", "isCrossing", "(I)Z"⟩, 23) := ⟨⟨by decide +kernel, by decide +kernel⟩, List.mem_of_getElem? (i := 525) (by decide +kernel), List.mem_of_getElem? (i := 612) (by decide +kernel), List.mem_of_getElem? (i := 613) (by decide +kernel)⟩
theorem lw_p27 : lw_okq (⟨"RoadTraceModel", "length", "(I)I"⟩, 23) := ⟨⟨by decide +kernel, by decide +kernel⟩, List.mem_of_getElem? (i := 525) (by decide +kernel), List.mem_of_getElem? (i := 624) (by decide +kernel), List.mem_of_getElem? (i := 625) (by decide +kernel)⟩
theorem lw_p28 : lw_okq (⟨"RoadTraceModel", "spotX", "(II)I"⟩, 23) := ⟨⟨by decide +kernel, by decide +kernel⟩, List.mem_of_getElem? (i := 525) (by decide +kernel), List.mem_of_getElem? (i := 634) (by decide +kernel), List.mem_of_getElem? (i := 635) (by decide +kernel)⟩
theorem lw_p29 : lw_okq (⟨"RoadTraceModel", "spotY", "(II)I"⟩, 23) := ⟨⟨by decide +kernel, by decide +kernel⟩, List.mem_of_getElem? (i := 525) (by decide +kernel), List.mem_of_getElem? (i := 641) (by decide +kernel), List.mem_of_getElem? (i := 642) (by decide +kernel)⟩
theorem lw_p30 : lw_okq (⟨"RoadTraceModel", "layFar", "()V"⟩, 23) := ⟨⟨by decide +kernel, by decide +kernel⟩, List.mem_of_getElem? (i := 525) (by decide +kernel), List.mem_of_getElem? (i := 649) (by decide +kernel), List.mem_of_getElem? (i := 650) (by decide +kernel)⟩
theorem lw_p31 : lw_okq (⟨"RoadTraceModel", "isSpot", "(I)Z"⟩, 23) := ⟨⟨by decide +kernel, by decide +kernel⟩, List.mem_of_getElem? (i := 525) (by decide +kernel), List.mem_of_getElem? (i := 658) (by decide +kernel), List.mem_of_getElem? (i := 659) (by decide +kernel)⟩
def lw_privs_2 : List (MethodName × Nat) := [(⟨"RoadTrace$Trace", "hasCandidate", "(II)Z"⟩, 14), (⟨"RoadTrace$Trace", "backsOf", "(II)I"⟩, 14), (⟨"RoadTrace$Trace", "cheapest", "(I)I"⟩, 14), (⟨"RoadTrace$Trace", "alive", "(I)I"⟩, 14), (⟨"RoadTrace$Trace", "stepStart", "(I)I"⟩, 14), (⟨"RoadTrace$Net", "wayOut", "(II)I"⟩, 9), (⟨"RoadTrace$Net", "nextCrossing", "(II)I"⟩, 9), (⟨"RoadTrace$Net", "leadsFrom", "(II)I"⟩, 9), (⟨"RoadTrace$Trace", "endsPiece", "(I)Z"⟩, 14), (⟨"RoadTrace", "tellCount", "(I)I"⟩, 2), (⟨"RoadTraceModel", "isCrossing", "(I)Z"⟩, 23), (⟨"RoadTraceModel", "length", "(I)I"⟩, 23), (⟨"RoadTraceModel", "spotX", "(II)I"⟩, 23), (⟨"RoadTraceModel", "spotY", "(II)I"⟩, 23), (⟨"RoadTraceModel", "layFar", "()V"⟩, 23), (⟨"RoadTraceModel", "isSpot", "(I)Z"⟩, 23)]
theorem lw_r2 : ∀ q ∈ lw_privs_2, lw_okq q := List.forall_mem_cons.mpr ⟨lw_p16, List.forall_mem_cons.mpr ⟨lw_p17, List.forall_mem_cons.mpr ⟨lw_p18, List.forall_mem_cons.mpr ⟨lw_p19, List.forall_mem_cons.mpr ⟨lw_p20, List.forall_mem_cons.mpr ⟨lw_p21, List.forall_mem_cons.mpr ⟨lw_p22, List.forall_mem_cons.mpr ⟨lw_p23, List.forall_mem_cons.mpr ⟨lw_p24, List.forall_mem_cons.mpr ⟨lw_p25, List.forall_mem_cons.mpr ⟨lw_p26, List.forall_mem_cons.mpr ⟨lw_p27, List.forall_mem_cons.mpr ⟨lw_p28, List.forall_mem_cons.mpr ⟨lw_p29, List.forall_mem_cons.mpr ⟨lw_p30, List.forall_mem_cons.mpr ⟨lw_p31, fun _ h => absurd h List.not_mem_nil⟩⟩⟩⟩⟩⟩⟩⟩⟩⟩⟩⟩⟩⟩⟩⟩
theorem lw_p32 : lw_okq (⟨"RoadTraceModel", "wayOf", "(II)I"⟩, 23) := ⟨⟨by decide +kernel, by decide +kernel⟩, List.mem_of_getElem? (i := 525) (by decide +kernel), List.mem_of_getElem? (i := 662) (by decide +kernel), List.mem_of_getElem? (i := 663) (by decide +kernel)⟩
theorem lw_p33 : lw_okq (⟨"RoadTraceModel", "leastOut", "(II)I"⟩, 23) := ⟨⟨by decide +kernel, by decide +kernel⟩, List.mem_of_getElem? (i := 525) (by decide +kernel), List.mem_of_getElem? (i := 666) (by decide +kernel), List.mem_of_getElem? (i := 667) (by decide +kernel)⟩
theorem lw_p34 : lw_okq (⟨"RoadTraceModel", "out", "(III)I"⟩, 23) := ⟨⟨by decide +kernel, by decide +kernel⟩, List.mem_of_getElem? (i := 525) (by decide +kernel), List.mem_of_getElem? (i := 670) (by decide +kernel), List.mem_of_getElem? (i := 671) (by decide +kernel)⟩
theorem lw_p35 : lw_okq (⟨"RoadTraceModel", "isFix", "(I)Z"⟩, 23) := ⟨⟨by decide +kernel, by decide +kernel⟩, List.mem_of_getElem? (i := 525) (by decide +kernel), List.mem_of_getElem? (i := 686) (by decide +kernel), List.mem_of_getElem? (i := 687) (by decide +kernel)⟩
theorem lw_p36 : lw_okq (⟨"RoadTraceModel", "layAll", "()V"⟩, 23) := ⟨⟨by decide +kernel, by decide +kernel⟩, List.mem_of_getElem? (i := 525) (by decide +kernel), List.mem_of_getElem? (i := 690) (by decide +kernel), List.mem_of_getElem? (i := 691) (by decide +kernel)⟩
theorem lw_p37 : lw_okq (⟨"RoadTraceModel", "layCandidates", "(I)V"⟩, 23) := ⟨⟨by decide +kernel, by decide +kernel⟩, List.mem_of_getElem? (i := 525) (by decide +kernel), List.mem_of_getElem? (i := 694) (by decide +kernel), List.mem_of_getElem? (i := 695) (by decide +kernel)⟩
theorem lw_p38 : lw_okq (⟨"RoadTraceModel", "nearest", "(III)I"⟩, 23) := ⟨⟨by decide +kernel, by decide +kernel⟩, List.mem_of_getElem? (i := 525) (by decide +kernel), List.mem_of_getElem? (i := 698) (by decide +kernel), List.mem_of_getElem? (i := 699) (by decide +kernel)⟩
theorem lw_p39 : lw_okq (⟨"RoadTraceModel", "goOn", "(II)Z"⟩, 23) := ⟨⟨by decide +kernel, by decide +kernel⟩, List.mem_of_getElem? (i := 525) (by decide +kernel), List.mem_of_getElem? (i := 702) (by decide +kernel), List.mem_of_getElem? (i := 703) (by decide +kernel)⟩
theorem lw_p40 : lw_okq (⟨"RoadTraceModel", "begin", "(I)V"⟩, 23) := ⟨⟨by decide +kernel, by decide +kernel⟩, List.mem_of_getElem? (i := 525) (by decide +kernel), List.mem_of_getElem? (i := 706) (by decide +kernel), List.mem_of_getElem? (i := 707) (by decide +kernel)⟩
theorem lw_p41 : lw_okq (⟨"RoadTraceModel", "next", "(I)I"⟩, 23) := ⟨⟨by decide +kernel, by decide +kernel⟩, List.mem_of_getElem? (i := 525) (by decide +kernel), List.mem_of_getElem? (i := 710) (by decide +kernel), List.mem_of_getElem? (i := 711) (by decide +kernel)⟩
theorem lw_p42 : lw_okq (⟨"RoadTraceModel", "leastAt", "(I)I"⟩, 23) := ⟨⟨by decide +kernel, by decide +kernel⟩, List.mem_of_getElem? (i := 525) (by decide +kernel), List.mem_of_getElem? (i := 714) (by decide +kernel), List.mem_of_getElem? (i := 715) (by decide +kernel)⟩
theorem lw_p43 : lw_okq (⟨"RoadTraceModel", "isDecided", "(I)Z"⟩, 23) := ⟨⟨by decide +kernel, by decide +kernel⟩, List.mem_of_getElem? (i := 525) (by decide +kernel), List.mem_of_getElem? (i := 726) (by decide +kernel), List.mem_of_getElem? (i := 727) (by decide +kernel)⟩
theorem lw_p44 : lw_okq (⟨"RoadTraceModel", "origin", "(III)I"⟩, 23) := ⟨⟨by decide +kernel, by decide +kernel⟩, List.mem_of_getElem? (i := 525) (by decide +kernel), List.mem_of_getElem? (i := 730) (by decide +kernel), List.mem_of_getElem? (i := 731) (by decide +kernel)⟩
theorem lw_p45 : lw_okq (⟨"RoadTraceModel", "stepOf", "(I)I"⟩, 23) := ⟨⟨by decide +kernel, by decide +kernel⟩, List.mem_of_getElem? (i := 525) (by decide +kernel), List.mem_of_getElem? (i := 742) (by decide +kernel), List.mem_of_getElem? (i := 743) (by decide +kernel)⟩
theorem lw_p46 : lw_okq (⟨"RoadTraceModel", "onward", "(II)I"⟩, 23) := ⟨⟨by decide +kernel, by decide +kernel⟩, List.mem_of_getElem? (i := 525) (by decide +kernel), List.mem_of_getElem? (i := 750) (by decide +kernel), List.mem_of_getElem? (i := 751) (by decide +kernel)⟩
def lw_privs_3 : List (MethodName × Nat) := [(⟨"RoadTraceModel", "wayOf", "(II)I"⟩, 23), (⟨"RoadTraceModel", "leastOut", "(II)I"⟩, 23), (⟨"RoadTraceModel", "out", "(III)I"⟩, 23), (⟨"RoadTraceModel", "isFix", "(I)Z"⟩, 23), (⟨"RoadTraceModel", "layAll", "()V"⟩, 23), (⟨"RoadTraceModel", "layCandidates", "(I)V"⟩, 23), (⟨"RoadTraceModel", "nearest", "(III)I"⟩, 23), (⟨"RoadTraceModel", "goOn", "(II)Z"⟩, 23), (⟨"RoadTraceModel", "begin", "(I)V"⟩, 23), (⟨"RoadTraceModel", "next", "(I)I"⟩, 23), (⟨"RoadTraceModel", "leastAt", "(I)I"⟩, 23), (⟨"RoadTraceModel", "isDecided", "(I)Z"⟩, 23), (⟨"RoadTraceModel", "origin", "(III)I"⟩, 23), (⟨"RoadTraceModel", "stepOf", "(I)I"⟩, 23), (⟨"RoadTraceModel", "onward", "(II)I"⟩, 23)]
theorem lw_r3 : ∀ q ∈ lw_privs_3, lw_okq q := List.forall_mem_cons.mpr ⟨lw_p32, List.forall_mem_cons.mpr ⟨lw_p33, List.forall_mem_cons.mpr ⟨lw_p34, List.forall_mem_cons.mpr ⟨lw_p35, List.forall_mem_cons.mpr ⟨lw_p36, List.forall_mem_cons.mpr ⟨lw_p37, List.forall_mem_cons.mpr ⟨lw_p38, List.forall_mem_cons.mpr ⟨lw_p39, List.forall_mem_cons.mpr ⟨lw_p40, List.forall_mem_cons.mpr ⟨lw_p41, List.forall_mem_cons.mpr ⟨lw_p42, List.forall_mem_cons.mpr ⟨lw_p43, List.forall_mem_cons.mpr ⟨lw_p44, List.forall_mem_cons.mpr ⟨lw_p45, List.forall_mem_cons.mpr ⟨lw_p46, fun _ h => absurd h List.not_mem_nil⟩⟩⟩⟩⟩⟩⟩⟩⟩⟩⟩⟩⟩⟩⟩
def lw_privs : List (MethodName × Nat) := lw_privs_1 ++ (lw_privs_2 ++ (lw_privs_3))
def lw_tbl : List Cond := k2_sels lw_privs ++ tables_1
theorem lw_privs_ok : ∀ q ∈ lw_privs, lw_okq q := by
  show ∀ q ∈ lw_privs_1 ++ (lw_privs_2 ++ (lw_privs_3)), lw_okq q
  exact List.forall_mem_append.mpr ⟨lw_r1, List.forall_mem_append.mpr ⟨lw_r2, lw_r3⟩⟩

def RX0 : String := "RoadTrace$Net"
def TX0 : u_T := fun k => match k with
  | 0 => ("RoadTrace$Net", "crossings", "I", false)
  | 1 => ("RoadTrace$Net", "roads", "I", false)
  | 2 => ("RoadTrace$Net", "xs", "[I", true)
  | 3 => ("RoadTrace$Net", "ys", "[I", true)
  | 4 => ("RoadTrace$Net", "firsts", "[I", true)
  | 5 => ("RoadTrace$Net", "lasts", "[I", true)
  | 6 => ("RoadTrace$Net", "kinds", "[I", true)
  | 7 => ("RoadTrace$Net", "lengths", "[I", true)
  | _ => ("RoadTrace$Net", "least", "[I", true)
def tyX0 : Nat → FieldType := fun k => match k with
  | 0 => .int
  | 1 => .int
  | 2 => .array .int
  | 3 => .array .int
  | 4 => .array .int
  | 5 => .array .int
  | 6 => .array .int
  | 7 => .array .int
  | _ => .array .int
theorem nmX0 : ∀ a, a < 9 → ∀ b, b < 9 → a ≠ b → (TX0 a).2.1 ≠ (TX0 b).2.1 := by decide +kernel
theorem tyX0_ok : ∀ k, k < 9 → parseFieldDescriptor (TX0 k).2.2.1 = some (tyX0 k) := by decide +kernel
def RX1 : String := "RoadTrace$Rules"
def TX1 : u_T := fun k => match k with
  | _ => ("RoadTrace$Rules", "values", "[I", true)
def tyX1 : Nat → FieldType := fun k => match k with
  | _ => .array .int
theorem nmX1 : ∀ a, a < 1 → ∀ b, b < 1 → a ≠ b → (TX1 a).2.1 ≠ (TX1 b).2.1 := by decide +kernel
theorem tyX1_ok : ∀ k, k < 1 → parseFieldDescriptor (TX1 k).2.2.1 = some (tyX1 k) := by decide +kernel
def RX2 : String := "RoadTrace$State"
def TX2 : u_T := fun k => match k with
  | 0 => ("RoadTrace$State", "net", "LRoadTrace$Net;", true)
  | 1 => ("RoadTrace$State", "rules", "LRoadTrace$Rules;", true)
  | 2 => ("RoadTrace$State", "trace", "LRoadTrace$Trace;", true)
  | _ => ("RoadTrace$State", "kept", "Z", false)
def tyX2 : Nat → FieldType := fun k => match k with
  | 0 => .object "RoadTrace$Net"
  | 1 => .object "RoadTrace$Rules"
  | 2 => .object "RoadTrace$Trace"
  | _ => .boolean
theorem nmX2 : ∀ a, a < 4 → ∀ b, b < 4 → a ≠ b → (TX2 a).2.1 ≠ (TX2 b).2.1 := by decide +kernel
theorem tyX2_ok : ∀ k, k < 4 → parseFieldDescriptor (TX2 k).2.2.1 = some (tyX2 k) := by decide +kernel
def RX3 : String := "RoadTrace$Trace"
def TX3 : u_T := fun k => match k with
  | 0 => ("RoadTrace$Trace", "net", "LRoadTrace$Net;", true)
  | 1 => ("RoadTrace$Trace", "rules", "LRoadTrace$Rules;", true)
  | 2 => ("RoadTrace$Trace", "fixes", "I", false)
  | 3 => ("RoadTrace$Trace", "xs", "[I", true)
  | 4 => ("RoadTrace$Trace", "ys", "[I", true)
  | 5 => ("RoadTrace$Trace", "counts", "[I", true)
  | 6 => ("RoadTrace$Trace", "pieces", "[I", true)
  | 7 => ("RoadTrace$Trace", "befores", "[I", true)
  | 8 => ("RoadTrace$Trace", "spots", "[I", true)
  | 9 => ("RoadTrace$Trace", "aparts", "[I", true)
  | 10 => ("RoadTrace$Trace", "costs", "[I", true)
  | 11 => ("RoadTrace$Trace", "backs", "[I", true)
  | 12 => ("RoadTrace$Trace", "chosens", "[I", true)
  | _ => ("RoadTrace$Trace", "decideds", "[Z", true)
def tyX3 : Nat → FieldType := fun k => match k with
  | 0 => .object "RoadTrace$Net"
  | 1 => .object "RoadTrace$Rules"
  | 2 => .int
  | 3 => .array .int
  | 4 => .array .int
  | 5 => .array .int
  | 6 => .array .int
  | 7 => .array .int
  | 8 => .array .int
  | 9 => .array .int
  | 10 => .array .int
  | 11 => .array .int
  | 12 => .array .int
  | _ => .array .boolean
theorem nmX3 : ∀ a, a < 14 → ∀ b, b < 14 → a ≠ b → (TX3 a).2.1 ≠ (TX3 b).2.1 := by decide +kernel
theorem tyX3_ok : ∀ k, k < 14 → parseFieldDescriptor (TX3 k).2.2.1 = some (tyX3 k) := by decide +kernel
def RX4 : String := "RoadTrace"
def TX4 : u_T := fun k => match k with
  | 0 => ("RoadTrace", "now", "LRoadTrace$State;", true)
  | _ => ("RoadTrace", "images", "[LRoadTrace$State;", true)
def tyX4 : Nat → FieldType := fun k => match k with
  | 0 => .object "RoadTrace$State"
  | _ => .array (.object "RoadTrace$State")
theorem nmX4 : ∀ a, a < 2 → ∀ b, b < 2 → a ≠ b → (TX4 a).2.1 ≠ (TX4 b).2.1 := by decide +kernel
theorem tyX4_ok : ∀ k, k < 2 → parseFieldDescriptor (TX4 k).2.2.1 = some (tyX4 k) := by decide +kernel
def RX5 : String := "RoadTraceModel"
def TX5 : u_T := fun k => match k with
  | 0 => ("RoadTraceModel", "crossX", "[I", true)
  | 1 => ("RoadTraceModel", "crossY", "[I", true)
  | 2 => ("RoadTraceModel", "crossings", "I", false)
  | 3 => ("RoadTraceModel", "first", "[I", true)
  | 4 => ("RoadTraceModel", "last", "[I", true)
  | 5 => ("RoadTraceModel", "ways", "[I", true)
  | 6 => ("RoadTraceModel", "roads", "I", false)
  | 7 => ("RoadTraceModel", "rules", "[I", true)
  | 8 => ("RoadTraceModel", "fixX", "[I", true)
  | 9 => ("RoadTraceModel", "fixY", "[I", true)
  | 10 => ("RoadTraceModel", "fixes", "I", false)
  | 11 => ("RoadTraceModel", "far", "[I", true)
  | 12 => ("RoadTraceModel", "spot", "[I", true)
  | 13 => ("RoadTraceModel", "side", "[I", true)
  | 14 => ("RoadTraceModel", "cost", "[I", true)
  | 15 => ("RoadTraceModel", "back", "[I", true)
  | 16 => ("RoadTraceModel", "many", "[I", true)
  | 17 => ("RoadTraceModel", "piece", "[I", true)
  | 18 => ("RoadTraceModel", "ahead", "[I", true)
  | 19 => ("RoadTraceModel", "best", "[I", true)
  | 20 => ("RoadTraceModel", "pieces", "I", false)
  | 21 => ("RoadTraceModel", "image", "[I", true)
  | _ => ("RoadTraceModel", "isKept", "[Z", true)
def tyX5 : Nat → FieldType := fun k => match k with
  | 0 => .array .int
  | 1 => .array .int
  | 2 => .int
  | 3 => .array .int
  | 4 => .array .int
  | 5 => .array .int
  | 6 => .int
  | 7 => .array .int
  | 8 => .array .int
  | 9 => .array .int
  | 10 => .int
  | 11 => .array .int
  | 12 => .array .int
  | 13 => .array .int
  | 14 => .array .int
  | 15 => .array .int
  | 16 => .array .int
  | 17 => .array .int
  | 18 => .array .int
  | 19 => .array .int
  | 20 => .int
  | 21 => .array .int
  | _ => .array .boolean
theorem nmX5 : ∀ a, a < 23 → ∀ b, b < 23 → a ≠ b → (TX5 a).2.1 ≠ (TX5 b).2.1 := by decide +kernel
theorem tyX5_ok : ∀ k, k < 23 → parseFieldDescriptor (TX5 k).2.2.1 = some (tyX5 k) := by decide +kernel
abbrev vwCl : List vw_C := [(RX0, TX0, 9), (RX1, TX1, 1), (RX2, TX2, 4), (RX3, TX3, 14), (RX4, TX4, 2), (RX5, TX5, 23)]
def RL : String := "RoadTraceLaw"
def gw_tbl : List Jvm.Cond := lw_tbl.filter goodWord
theorem mg {i : Nat} {w : Jvm.Cond} (h : lw_tbl[i]? = some w) (h2 : goodWord w = true) : w ∈ gw_tbl := List.mem_filter.mpr ⟨List.mem_of_getElem? h, h2⟩
theorem gw_in : ∀ w ∈ gw_tbl, w ∈ lw_tbl := fun _ h => (List.mem_filter.mp h).1
theorem gw_good : GoodIn gw_tbl gw_tbl := fun w h => ⟨h, good_of_word (List.mem_filter.mp h).2⟩
theorem gw_goodL : GoodIn lw_tbl gw_tbl := fun w h => ⟨gw_in w h, good_of_word (List.mem_filter.mp h).2⟩
theorem inX0 : ∀ w ∈ u_ws RX0 TX0 9, w ∈ gw_tbl := by decide +kernel
theorem inX1 : ∀ w ∈ u_ws RX1 TX1 1, w ∈ gw_tbl := by decide +kernel
theorem inX2 : ∀ w ∈ u_ws RX2 TX2 4, w ∈ gw_tbl := by decide +kernel
theorem inX3 : ∀ w ∈ u_ws RX3 TX3 14, w ∈ gw_tbl := by decide +kernel
theorem inX4 : ∀ w ∈ u_ws RX4 TX4 2, w ∈ gw_tbl := by decide +kernel
theorem inX5 : ∀ w ∈ u_ws RX5 TX5 23, w ∈ gw_tbl := by decide +kernel
theorem tw1 : (Jvm.Cond.initialized "RoadTrace") ∈ gw_tbl := mg (i := 48) (by decide +kernel) (by decide +kernel)
theorem tw2 : (Jvm.Cond.initialized "RoadTrace$State") ∈ gw_tbl := mg (i := 49) (by decide +kernel) (by decide +kernel)
theorem tw3 : (Jvm.Cond.initialized "RoadTrace$Net") ∈ gw_tbl := mg (i := 50) (by decide +kernel) (by decide +kernel)
theorem tw4 : (Jvm.Cond.initialized "RoadTrace$Rules") ∈ gw_tbl := mg (i := 51) (by decide +kernel) (by decide +kernel)
theorem tw5 : (Jvm.Cond.initialized "RoadTrace$Trace") ∈ gw_tbl := mg (i := 52) (by decide +kernel) (by decide +kernel)
theorem tw6 : (Jvm.Cond.initialized "RoadTraceModel") ∈ gw_tbl := mg (i := 53) (by decide +kernel) (by decide +kernel)
theorem tw7 : (Jvm.Cond.initialized "java/lang/Math") ∈ gw_tbl := mg (i := 54) (by decide +kernel) (by decide +kernel)
theorem tw8 : (Jvm.Cond.initialized "java/lang/Integer") ∈ gw_tbl := mg (i := 55) (by decide +kernel) (by decide +kernel)
theorem tw9 : (Jvm.Cond.initialized "java/lang/System") ∈ gw_tbl := mg (i := 56) (by decide +kernel) (by decide +kernel)
theorem tw30 : (Jvm.Cond.fieldLink "RoadTrace$Net" (33 : Nat) "RoadTrace$Net" "crossings" "I") ∈ gw_tbl := mg (i := 77) (by decide +kernel) (by decide +kernel)
theorem tw31 : (Jvm.Cond.fieldLink "RoadTrace" (43 : Nat) "RoadTrace$Net" "crossings" "I") ∈ gw_tbl := mg (i := 78) (by decide +kernel) (by decide +kernel)
theorem tw32 : (Jvm.Cond.fieldLink "RoadTrace$Net" (37 : Nat) "RoadTrace$Net" "roads" "I") ∈ gw_tbl := mg (i := 79) (by decide +kernel) (by decide +kernel)
theorem tw33 : (Jvm.Cond.fieldLink "RoadTrace" (60 : Nat) "RoadTrace$Net" "roads" "I") ∈ gw_tbl := mg (i := 80) (by decide +kernel) (by decide +kernel)
theorem tw34 : (Jvm.Cond.fieldLink "RoadTrace$Trace" (84 : Nat) "RoadTrace$Net" "roads" "I") ∈ gw_tbl := mg (i := 81) (by decide +kernel) (by decide +kernel)
theorem tw35 : (Jvm.Cond.fieldLink "RoadTrace$Net" (9 : Nat) "RoadTrace$Net" "xs" "[I") ∈ gw_tbl := mg (i := 82) (by decide +kernel) (by decide +kernel)
theorem tw36 : (Jvm.Cond.fieldLink "RoadTrace$Net" (15 : Nat) "RoadTrace$Net" "ys" "[I") ∈ gw_tbl := mg (i := 83) (by decide +kernel) (by decide +kernel)
theorem tw37 : (Jvm.Cond.fieldLink "RoadTrace$Net" (18 : Nat) "RoadTrace$Net" "firsts" "[I") ∈ gw_tbl := mg (i := 84) (by decide +kernel) (by decide +kernel)
theorem tw38 : (Jvm.Cond.fieldLink "RoadTrace$Net" (21 : Nat) "RoadTrace$Net" "lasts" "[I") ∈ gw_tbl := mg (i := 85) (by decide +kernel) (by decide +kernel)
theorem tw39 : (Jvm.Cond.fieldLink "RoadTrace$Net" (24 : Nat) "RoadTrace$Net" "kinds" "[I") ∈ gw_tbl := mg (i := 86) (by decide +kernel) (by decide +kernel)
theorem tw40 : (Jvm.Cond.fieldLink "RoadTrace$Net" (27 : Nat) "RoadTrace$Net" "lengths" "[I") ∈ gw_tbl := mg (i := 87) (by decide +kernel) (by decide +kernel)
theorem tw41 : (Jvm.Cond.fieldLink "RoadTrace$Net" (30 : Nat) "RoadTrace$Net" "least" "[I") ∈ gw_tbl := mg (i := 88) (by decide +kernel) (by decide +kernel)
theorem tw68 : (Jvm.Cond.fieldLink "RoadTrace$Rules" (9 : Nat) "RoadTrace$Rules" "values" "[I") ∈ gw_tbl := mg (i := 115) (by decide +kernel) (by decide +kernel)
theorem tw69 : (Jvm.Cond.fieldLink "RoadTrace$Trace" (93 : Nat) "RoadTrace$Rules" "values" "[I") ∈ gw_tbl := mg (i := 116) (by decide +kernel) (by decide +kernel)
theorem tw79 : (Jvm.Cond.fieldLink "RoadTrace$Trace" (46 : Nat) "RoadTrace$Trace" "net" "LRoadTrace$Net;") ∈ gw_tbl := mg (i := 126) (by decide +kernel) (by decide +kernel)
theorem tw80 : (Jvm.Cond.fieldLink "RoadTrace$Trace" (50 : Nat) "RoadTrace$Trace" "rules" "LRoadTrace$Rules;") ∈ gw_tbl := mg (i := 127) (by decide +kernel) (by decide +kernel)
theorem tw81 : (Jvm.Cond.fieldLink "RoadTrace$Trace" (54 : Nat) "RoadTrace$Trace" "fixes" "I") ∈ gw_tbl := mg (i := 128) (by decide +kernel) (by decide +kernel)
theorem tw82 : (Jvm.Cond.fieldLink "RoadTrace" (28 : Nat) "RoadTrace$Trace" "fixes" "I") ∈ gw_tbl := mg (i := 129) (by decide +kernel) (by decide +kernel)
theorem tw83 : (Jvm.Cond.fieldLink "RoadTrace$Trace" (9 : Nat) "RoadTrace$Trace" "xs" "[I") ∈ gw_tbl := mg (i := 130) (by decide +kernel) (by decide +kernel)
theorem tw84 : (Jvm.Cond.fieldLink "RoadTrace$Trace" (15 : Nat) "RoadTrace$Trace" "ys" "[I") ∈ gw_tbl := mg (i := 131) (by decide +kernel) (by decide +kernel)
theorem tw85 : (Jvm.Cond.fieldLink "RoadTrace$Trace" (18 : Nat) "RoadTrace$Trace" "counts" "[I") ∈ gw_tbl := mg (i := 132) (by decide +kernel) (by decide +kernel)
theorem tw86 : (Jvm.Cond.fieldLink "RoadTrace" (101 : Nat) "RoadTrace$Trace" "counts" "[I") ∈ gw_tbl := mg (i := 133) (by decide +kernel) (by decide +kernel)
theorem tw87 : (Jvm.Cond.fieldLink "RoadTrace$Trace" (21 : Nat) "RoadTrace$Trace" "pieces" "[I") ∈ gw_tbl := mg (i := 134) (by decide +kernel) (by decide +kernel)
theorem tw88 : (Jvm.Cond.fieldLink "RoadTrace" (117 : Nat) "RoadTrace$Trace" "pieces" "[I") ∈ gw_tbl := mg (i := 135) (by decide +kernel) (by decide +kernel)
theorem tw89 : (Jvm.Cond.fieldLink "RoadTrace$Trace" (24 : Nat) "RoadTrace$Trace" "befores" "[I") ∈ gw_tbl := mg (i := 136) (by decide +kernel) (by decide +kernel)
theorem tw90 : (Jvm.Cond.fieldLink "RoadTrace$Trace" (27 : Nat) "RoadTrace$Trace" "spots" "[I") ∈ gw_tbl := mg (i := 137) (by decide +kernel) (by decide +kernel)
theorem tw91 : (Jvm.Cond.fieldLink "RoadTrace$Trace" (30 : Nat) "RoadTrace$Trace" "aparts" "[I") ∈ gw_tbl := mg (i := 138) (by decide +kernel) (by decide +kernel)
theorem tw92 : (Jvm.Cond.fieldLink "RoadTrace$Trace" (33 : Nat) "RoadTrace$Trace" "costs" "[I") ∈ gw_tbl := mg (i := 139) (by decide +kernel) (by decide +kernel)
theorem tw93 : (Jvm.Cond.fieldLink "RoadTrace$Trace" (36 : Nat) "RoadTrace$Trace" "backs" "[I") ∈ gw_tbl := mg (i := 140) (by decide +kernel) (by decide +kernel)
theorem tw94 : (Jvm.Cond.fieldLink "RoadTrace$Trace" (39 : Nat) "RoadTrace$Trace" "chosens" "[I") ∈ gw_tbl := mg (i := 141) (by decide +kernel) (by decide +kernel)
theorem tw95 : (Jvm.Cond.fieldLink "RoadTrace$Trace" (42 : Nat) "RoadTrace$Trace" "decideds" "[Z") ∈ gw_tbl := mg (i := 142) (by decide +kernel) (by decide +kernel)
theorem tw96 : (Jvm.Cond.fieldLink "RoadTrace" (113 : Nat) "RoadTrace$Trace" "decideds" "[Z") ∈ gw_tbl := mg (i := 143) (by decide +kernel) (by decide +kernel)
theorem tw127 : (Jvm.Cond.fieldLink "RoadTrace$State" (10 : Nat) "RoadTrace$State" "net" "LRoadTrace$Net;") ∈ gw_tbl := mg (i := 174) (by decide +kernel) (by decide +kernel)
theorem tw128 : (Jvm.Cond.fieldLink "RoadTrace" (34 : Nat) "RoadTrace$State" "net" "LRoadTrace$Net;") ∈ gw_tbl := mg (i := 175) (by decide +kernel) (by decide +kernel)
theorem tw129 : (Jvm.Cond.fieldLink "RoadTrace$State" (19 : Nat) "RoadTrace$State" "rules" "LRoadTrace$Rules;") ∈ gw_tbl := mg (i := 176) (by decide +kernel) (by decide +kernel)
theorem tw130 : (Jvm.Cond.fieldLink "RoadTrace" (67 : Nat) "RoadTrace$State" "rules" "LRoadTrace$Rules;") ∈ gw_tbl := mg (i := 177) (by decide +kernel) (by decide +kernel)
theorem tw131 : (Jvm.Cond.fieldLink "RoadTrace$State" (28 : Nat) "RoadTrace$State" "trace" "LRoadTrace$Trace;") ∈ gw_tbl := mg (i := 178) (by decide +kernel) (by decide +kernel)
theorem tw132 : (Jvm.Cond.fieldLink "RoadTrace" (24 : Nat) "RoadTrace$State" "trace" "LRoadTrace$Trace;") ∈ gw_tbl := mg (i := 179) (by decide +kernel) (by decide +kernel)
theorem tw133 : (Jvm.Cond.fieldLink "RoadTrace$State" (32 : Nat) "RoadTrace$State" "kept" "Z") ∈ gw_tbl := mg (i := 180) (by decide +kernel) (by decide +kernel)
theorem tw134 : (Jvm.Cond.fieldLink "RoadTrace" (146 : Nat) "RoadTrace$State" "kept" "Z") ∈ gw_tbl := mg (i := 181) (by decide +kernel) (by decide +kernel)
theorem tw145 : (Jvm.Cond.fieldLink "RoadTrace" (10 : Nat) "RoadTrace" "now" "LRoadTrace$State;") ∈ gw_tbl := mg (i := 192) (by decide +kernel) (by decide +kernel)
theorem tw146 : (Jvm.Cond.fieldLink "RoadTrace" (16 : Nat) "RoadTrace" "images" "[LRoadTrace$State;") ∈ gw_tbl := mg (i := 193) (by decide +kernel) (by decide +kernel)
theorem tw152 : (Jvm.Cond.methodLink "RoadTraceLaw" (13 : Nat) ({ cls := "RoadTrace", name := "crossing", desc := "(II)I" } : Jvm.MethodName)) ∈ gw_tbl := mg (i := 199) (by decide +kernel) (by decide +kernel)
theorem tw153 : (Jvm.Cond.instanceMethod ({ cls := "RoadTrace", name := "crossing", desc := "(II)I" } : Jvm.MethodName)) ∈ gw_tbl := mg (i := 200) (by decide +kernel) (by decide +kernel)
theorem tw154 : (Jvm.Cond.selects "RoadTrace" ({ cls := "RoadTrace", name := "crossing", desc := "(II)I" } : Jvm.MethodName) ({ cls := "RoadTrace", name := "crossing", desc := "(II)I" } : Jvm.MethodName)) ∈ gw_tbl := mg (i := 201) (by decide +kernel) (by decide +kernel)
theorem tw155 : (Jvm.Cond.code ({ cls := "RoadTrace", name := "crossing", desc := "(II)I" } : Jvm.MethodName) prog_1_method_2_code (3 : Nat) (Option.some Jvm.ClassFile.FieldType.int)) ∈ gw_tbl := mg (i := 202) (by decide +kernel) (by decide +kernel)
theorem tw156 : (Jvm.Cond.methodLink "RoadTrace" (20 : Nat) ({ cls := "RoadTrace", name := "isPlace", desc := "(II)Z" } : Jvm.MethodName)) ∈ gw_tbl := mg (i := 203) (by decide +kernel) (by decide +kernel)
theorem tw157 : (Jvm.Cond.static ({ cls := "RoadTrace", name := "isPlace", desc := "(II)Z" } : Jvm.MethodName)) ∈ gw_tbl := mg (i := 204) (by decide +kernel) (by decide +kernel)
theorem tw158 : (Jvm.Cond.code ({ cls := "RoadTrace", name := "isPlace", desc := "(II)Z" } : Jvm.MethodName) prog_1_method_21_code (2 : Nat) (Option.some Jvm.ClassFile.FieldType.boolean)) ∈ gw_tbl := mg (i := 205) (by decide +kernel) (by decide +kernel)
theorem tw159 : (Jvm.Cond.methodLink "RoadTrace" (38 : Nat) ({ cls := "RoadTrace$Net", name := "isTaken", desc := "(II)Z" } : Jvm.MethodName)) ∈ gw_tbl := mg (i := 206) (by decide +kernel) (by decide +kernel)
theorem tw160 : (Jvm.Cond.instanceMethod ({ cls := "RoadTrace$Net", name := "isTaken", desc := "(II)Z" } : Jvm.MethodName)) ∈ gw_tbl := mg (i := 207) (by decide +kernel) (by decide +kernel)
theorem tw161 : (Jvm.Cond.selects "RoadTrace$Net" ({ cls := "RoadTrace$Net", name := "isTaken", desc := "(II)Z" } : Jvm.MethodName) ({ cls := "RoadTrace$Net", name := "isTaken", desc := "(II)Z" } : Jvm.MethodName)) ∈ gw_tbl := mg (i := 208) (by decide +kernel) (by decide +kernel)
theorem tw162 : (Jvm.Cond.code ({ cls := "RoadTrace$Net", name := "isTaken", desc := "(II)Z" } : Jvm.MethodName) prog_2_method_5_code (4 : Nat) (Option.some Jvm.ClassFile.FieldType.boolean)) ∈ gw_tbl := mg (i := 209) (by decide +kernel) (by decide +kernel)
theorem tw163 : (Jvm.Cond.methodLink "RoadTrace" (46 : Nat) ({ cls := "RoadTrace$Net", name := "addCrossing", desc := "(II)V" } : Jvm.MethodName)) ∈ gw_tbl := mg (i := 210) (by decide +kernel) (by decide +kernel)
theorem tw164 : (Jvm.Cond.instanceMethod ({ cls := "RoadTrace$Net", name := "addCrossing", desc := "(II)V" } : Jvm.MethodName)) ∈ gw_tbl := mg (i := 211) (by decide +kernel) (by decide +kernel)
theorem tw165 : (Jvm.Cond.selects "RoadTrace$Net" ({ cls := "RoadTrace$Net", name := "addCrossing", desc := "(II)V" } : Jvm.MethodName) ({ cls := "RoadTrace$Net", name := "addCrossing", desc := "(II)V" } : Jvm.MethodName)) ∈ gw_tbl := mg (i := 212) (by decide +kernel) (by decide +kernel)
theorem tw166 : (Jvm.Cond.code ({ cls := "RoadTrace$Net", name := "addCrossing", desc := "(II)V" } : Jvm.MethodName) prog_2_method_8_code (5 : Nat) (Option.none : Option Jvm.ClassFile.FieldType)) ∈ gw_tbl := mg (i := 213) (by decide +kernel) (by decide +kernel)
theorem tw167 : (Jvm.Cond.methodLink "RoadTrace$Net" (44 : Nat) ({ cls := "RoadTrace$Net", name := "pair", desc := "(II)I" } : Jvm.MethodName)) ∈ gw_tbl := mg (i := 214) (by decide +kernel) (by decide +kernel)
theorem tw168 : (Jvm.Cond.static ({ cls := "RoadTrace$Net", name := "pair", desc := "(II)I" } : Jvm.MethodName)) ∈ gw_tbl := mg (i := 215) (by decide +kernel) (by decide +kernel)
theorem tw169 : (Jvm.Cond.code ({ cls := "RoadTrace$Net", name := "pair", desc := "(II)I" } : Jvm.MethodName) prog_2_method_12_code (2 : Nat) (Option.some Jvm.ClassFile.FieldType.int)) ∈ gw_tbl := mg (i := 216) (by decide +kernel) (by decide +kernel)
theorem tw170 : (Jvm.Cond.methodLink "RoadTraceLaw" (18 : Nat) ({ cls := "RoadTrace", name := "road", desc := "(III)I" } : Jvm.MethodName)) ∈ gw_tbl := mg (i := 217) (by decide +kernel) (by decide +kernel)
theorem tw171 : (Jvm.Cond.instanceMethod ({ cls := "RoadTrace", name := "road", desc := "(III)I" } : Jvm.MethodName)) ∈ gw_tbl := mg (i := 218) (by decide +kernel) (by decide +kernel)
theorem tw172 : (Jvm.Cond.selects "RoadTrace" ({ cls := "RoadTrace", name := "road", desc := "(III)I" } : Jvm.MethodName) ({ cls := "RoadTrace", name := "road", desc := "(III)I" } : Jvm.MethodName)) ∈ gw_tbl := mg (i := 219) (by decide +kernel) (by decide +kernel)
theorem tw173 : (Jvm.Cond.code ({ cls := "RoadTrace", name := "road", desc := "(III)I" } : Jvm.MethodName) prog_1_method_3_code (5 : Nat) (Option.some Jvm.ClassFile.FieldType.int)) ∈ gw_tbl := mg (i := 220) (by decide +kernel) (by decide +kernel)
theorem tw174 : (Jvm.Cond.methodLink "RoadTrace" (50 : Nat) ({ cls := "RoadTrace$Net", name := "hasCrossing", desc := "(I)Z" } : Jvm.MethodName)) ∈ gw_tbl := mg (i := 221) (by decide +kernel) (by decide +kernel)
theorem tw175 : (Jvm.Cond.instanceMethod ({ cls := "RoadTrace$Net", name := "hasCrossing", desc := "(I)Z" } : Jvm.MethodName)) ∈ gw_tbl := mg (i := 222) (by decide +kernel) (by decide +kernel)
theorem tw176 : (Jvm.Cond.selects "RoadTrace$Net" ({ cls := "RoadTrace$Net", name := "hasCrossing", desc := "(I)Z" } : Jvm.MethodName) ({ cls := "RoadTrace$Net", name := "hasCrossing", desc := "(I)Z" } : Jvm.MethodName)) ∈ gw_tbl := mg (i := 223) (by decide +kernel) (by decide +kernel)
theorem tw177 : (Jvm.Cond.code ({ cls := "RoadTrace$Net", name := "hasCrossing", desc := "(I)Z" } : Jvm.MethodName) prog_2_method_2_code (2 : Nat) (Option.some Jvm.ClassFile.FieldType.boolean)) ∈ gw_tbl := mg (i := 224) (by decide +kernel) (by decide +kernel)
theorem tw178 : (Jvm.Cond.methodLink "RoadTrace" (54 : Nat) ({ cls := "RoadTrace$Net", name := "areInOneRow", desc := "(II)Z" } : Jvm.MethodName)) ∈ gw_tbl := mg (i := 225) (by decide +kernel) (by decide +kernel)
theorem tw179 : (Jvm.Cond.instanceMethod ({ cls := "RoadTrace$Net", name := "areInOneRow", desc := "(II)Z" } : Jvm.MethodName)) ∈ gw_tbl := mg (i := 226) (by decide +kernel) (by decide +kernel)
theorem tw180 : (Jvm.Cond.selects "RoadTrace$Net" ({ cls := "RoadTrace$Net", name := "areInOneRow", desc := "(II)Z" } : Jvm.MethodName) ({ cls := "RoadTrace$Net", name := "areInOneRow", desc := "(II)Z" } : Jvm.MethodName)) ∈ gw_tbl := mg (i := 227) (by decide +kernel) (by decide +kernel)
theorem tw181 : (Jvm.Cond.code ({ cls := "RoadTrace$Net", name := "areInOneRow", desc := "(II)Z" } : Jvm.MethodName) prog_2_method_6_code (3 : Nat) (Option.some Jvm.ClassFile.FieldType.boolean)) ∈ gw_tbl := mg (i := 228) (by decide +kernel) (by decide +kernel)
theorem tw182 : (Jvm.Cond.methodLink "RoadTrace$Net" (40 : Nat) ({ cls := "RoadTrace$Net", name := "hasCrossing", desc := "(I)Z" } : Jvm.MethodName)) ∈ gw_tbl := mg (i := 229) (by decide +kernel) (by decide +kernel)
theorem tw183 : (Jvm.Cond.methodLink "RoadTrace" (57 : Nat) ({ cls := "RoadTrace$Net", name := "areJoined", desc := "(II)Z" } : Jvm.MethodName)) ∈ gw_tbl := mg (i := 230) (by decide +kernel) (by decide +kernel)
theorem tw184 : (Jvm.Cond.instanceMethod ({ cls := "RoadTrace$Net", name := "areJoined", desc := "(II)Z" } : Jvm.MethodName)) ∈ gw_tbl := mg (i := 231) (by decide +kernel) (by decide +kernel)
theorem tw185 : (Jvm.Cond.selects "RoadTrace$Net" ({ cls := "RoadTrace$Net", name := "areJoined", desc := "(II)Z" } : Jvm.MethodName) ({ cls := "RoadTrace$Net", name := "areJoined", desc := "(II)Z" } : Jvm.MethodName)) ∈ gw_tbl := mg (i := 232) (by decide +kernel) (by decide +kernel)
theorem tw186 : (Jvm.Cond.code ({ cls := "RoadTrace$Net", name := "areJoined", desc := "(II)Z" } : Jvm.MethodName) prog_2_method_7_code (6 : Nat) (Option.some Jvm.ClassFile.FieldType.boolean)) ∈ gw_tbl := mg (i := 233) (by decide +kernel) (by decide +kernel)
theorem tw187 : (Jvm.Cond.methodLink "RoadTrace" (63 : Nat) ({ cls := "RoadTrace$Net", name := "addRoad", desc := "(III)V" } : Jvm.MethodName)) ∈ gw_tbl := mg (i := 234) (by decide +kernel) (by decide +kernel)
theorem tw188 : (Jvm.Cond.instanceMethod ({ cls := "RoadTrace$Net", name := "addRoad", desc := "(III)V" } : Jvm.MethodName)) ∈ gw_tbl := mg (i := 235) (by decide +kernel) (by decide +kernel)
theorem tw189 : (Jvm.Cond.selects "RoadTrace$Net" ({ cls := "RoadTrace$Net", name := "addRoad", desc := "(III)V" } : Jvm.MethodName) ({ cls := "RoadTrace$Net", name := "addRoad", desc := "(III)V" } : Jvm.MethodName)) ∈ gw_tbl := mg (i := 236) (by decide +kernel) (by decide +kernel)
theorem tw190 : (Jvm.Cond.code ({ cls := "RoadTrace$Net", name := "addRoad", desc := "(III)V" } : Jvm.MethodName) prog_2_method_9_code (5 : Nat) (Option.none : Option Jvm.ClassFile.FieldType)) ∈ gw_tbl := mg (i := 237) (by decide +kernel) (by decide +kernel)
theorem tw191 : (Jvm.Cond.methodLink "RoadTrace$Net" (48 : Nat) ({ cls := "java/lang/Math", name := "abs", desc := "(I)I" } : Jvm.MethodName)) ∈ gw_tbl := mg (i := 238) (by decide +kernel) (by decide +kernel)
theorem tw192 : (Jvm.Cond.static ({ cls := "java/lang/Math", name := "abs", desc := "(I)I" } : Jvm.MethodName)) ∈ gw_tbl := mg (i := 239) (by decide +kernel) (by decide +kernel)
theorem tw193 : (Jvm.Cond.code ({ cls := "java/lang/Math", name := "abs", desc := "(I)I" } : Jvm.MethodName) prog_9_method_59_code (1 : Nat) (Option.some Jvm.ClassFile.FieldType.int)) ∈ gw_tbl := mg (i := 240) (by decide +kernel) (by decide +kernel)
theorem tw194 : (Jvm.Cond.methodLink "RoadTrace$Net" (54 : Nat) ({ cls := "RoadTrace$Net", name := "shortenBy", desc := "(III)V" } : Jvm.MethodName)) ∈ gw_tbl := mg (i := 241) (by decide +kernel) (by decide +kernel)
theorem tw196 : (Jvm.Cond.instanceMethod ({ cls := "RoadTrace$Net", name := "shortenBy", desc := "(III)V" } : Jvm.MethodName)) ∈ gw_tbl := mg (i := 243) (by decide +kernel) (by decide +kernel)
theorem tw197 : (Jvm.Cond.code ({ cls := "RoadTrace$Net", name := "shortenBy", desc := "(III)V" } : Jvm.MethodName) prog_2_method_10_code (9 : Nat) (Option.none : Option Jvm.ClassFile.FieldType)) ∈ gw_tbl := mg (i := 244) (by decide +kernel) (by decide +kernel)
theorem tw198 : (Jvm.Cond.methodLink "RoadTraceLaw" (23 : Nat) ({ cls := "RoadTrace", name := "rule", desc := "(II)I" } : Jvm.MethodName)) ∈ gw_tbl := mg (i := 245) (by decide +kernel) (by decide +kernel)
theorem tw199 : (Jvm.Cond.instanceMethod ({ cls := "RoadTrace", name := "rule", desc := "(II)I" } : Jvm.MethodName)) ∈ gw_tbl := mg (i := 246) (by decide +kernel) (by decide +kernel)
theorem tw200 : (Jvm.Cond.selects "RoadTrace" ({ cls := "RoadTrace", name := "rule", desc := "(II)I" } : Jvm.MethodName) ({ cls := "RoadTrace", name := "rule", desc := "(II)I" } : Jvm.MethodName)) ∈ gw_tbl := mg (i := 247) (by decide +kernel) (by decide +kernel)
theorem tw201 : (Jvm.Cond.code ({ cls := "RoadTrace", name := "rule", desc := "(II)I" } : Jvm.MethodName) prog_1_method_4_code (3 : Nat) (Option.some Jvm.ClassFile.FieldType.int)) ∈ gw_tbl := mg (i := 248) (by decide +kernel) (by decide +kernel)
theorem tw202 : (Jvm.Cond.methodLink "RoadTrace" (71 : Nat) ({ cls := "RoadTrace$Rules", name := "allows", desc := "(II)Z" } : Jvm.MethodName)) ∈ gw_tbl := mg (i := 249) (by decide +kernel) (by decide +kernel)
theorem tw203 : (Jvm.Cond.instanceMethod ({ cls := "RoadTrace$Rules", name := "allows", desc := "(II)Z" } : Jvm.MethodName)) ∈ gw_tbl := mg (i := 250) (by decide +kernel) (by decide +kernel)
theorem tw204 : (Jvm.Cond.selects "RoadTrace$Rules" ({ cls := "RoadTrace$Rules", name := "allows", desc := "(II)Z" } : Jvm.MethodName) ({ cls := "RoadTrace$Rules", name := "allows", desc := "(II)Z" } : Jvm.MethodName)) ∈ gw_tbl := mg (i := 251) (by decide +kernel) (by decide +kernel)
theorem tw205 : (Jvm.Cond.code ({ cls := "RoadTrace$Rules", name := "allows", desc := "(II)Z" } : Jvm.MethodName) prog_3_method_2_code (3 : Nat) (Option.some Jvm.ClassFile.FieldType.boolean)) ∈ gw_tbl := mg (i := 252) (by decide +kernel) (by decide +kernel)
theorem tw206 : (Jvm.Cond.fieldLink "RoadTrace$Rules" (15 : Nat) "RoadTrace$Rules" "MOST" "[I") ∈ gw_tbl := mg (i := 253) (by decide +kernel) (by decide +kernel)
theorem tw208 : (Jvm.Cond.methodLink "RoadTrace" (76 : Nat) ({ cls := "RoadTrace$Rules", name := "change", desc := "(II)I" } : Jvm.MethodName)) ∈ gw_tbl := mg (i := 255) (by decide +kernel) (by decide +kernel)
theorem tw209 : (Jvm.Cond.instanceMethod ({ cls := "RoadTrace$Rules", name := "change", desc := "(II)I" } : Jvm.MethodName)) ∈ gw_tbl := mg (i := 256) (by decide +kernel) (by decide +kernel)
theorem tw210 : (Jvm.Cond.selects "RoadTrace$Rules" ({ cls := "RoadTrace$Rules", name := "change", desc := "(II)I" } : Jvm.MethodName) ({ cls := "RoadTrace$Rules", name := "change", desc := "(II)I" } : Jvm.MethodName)) ∈ gw_tbl := mg (i := 257) (by decide +kernel) (by decide +kernel)
theorem tw211 : (Jvm.Cond.code ({ cls := "RoadTrace$Rules", name := "change", desc := "(II)I" } : Jvm.MethodName) prog_3_method_3_code (4 : Nat) (Option.some Jvm.ClassFile.FieldType.int)) ∈ gw_tbl := mg (i := 258) (by decide +kernel) (by decide +kernel)
theorem tw212 : (Jvm.Cond.methodLink "RoadTraceLaw" (27 : Nat) ({ cls := "RoadTrace", name := "cell", desc := "(II)I" } : Jvm.MethodName)) ∈ gw_tbl := mg (i := 259) (by decide +kernel) (by decide +kernel)
theorem tw213 : (Jvm.Cond.instanceMethod ({ cls := "RoadTrace", name := "cell", desc := "(II)I" } : Jvm.MethodName)) ∈ gw_tbl := mg (i := 260) (by decide +kernel) (by decide +kernel)
theorem tw214 : (Jvm.Cond.selects "RoadTrace" ({ cls := "RoadTrace", name := "cell", desc := "(II)I" } : Jvm.MethodName) ({ cls := "RoadTrace", name := "cell", desc := "(II)I" } : Jvm.MethodName)) ∈ gw_tbl := mg (i := 261) (by decide +kernel) (by decide +kernel)
theorem tw215 : (Jvm.Cond.code ({ cls := "RoadTrace", name := "cell", desc := "(II)I" } : Jvm.MethodName) prog_1_method_5_code (3 : Nat) (Option.some Jvm.ClassFile.FieldType.int)) ∈ gw_tbl := mg (i := 262) (by decide +kernel) (by decide +kernel)
theorem tw216 : (Jvm.Cond.methodLink "RoadTrace" (80 : Nat) ({ cls := "RoadTrace$Net", name := "roadsInCell", desc := "(II)I" } : Jvm.MethodName)) ∈ gw_tbl := mg (i := 263) (by decide +kernel) (by decide +kernel)
theorem tw217 : (Jvm.Cond.instanceMethod ({ cls := "RoadTrace$Net", name := "roadsInCell", desc := "(II)I" } : Jvm.MethodName)) ∈ gw_tbl := mg (i := 264) (by decide +kernel) (by decide +kernel)
theorem tw218 : (Jvm.Cond.selects "RoadTrace$Net" ({ cls := "RoadTrace$Net", name := "roadsInCell", desc := "(II)I" } : Jvm.MethodName) ({ cls := "RoadTrace$Net", name := "roadsInCell", desc := "(II)I" } : Jvm.MethodName)) ∈ gw_tbl := mg (i := 265) (by decide +kernel) (by decide +kernel)
theorem tw219 : (Jvm.Cond.code ({ cls := "RoadTrace$Net", name := "roadsInCell", desc := "(II)I" } : Jvm.MethodName) prog_2_method_13_code (5 : Nat) (Option.some Jvm.ClassFile.FieldType.int)) ∈ gw_tbl := mg (i := 266) (by decide +kernel) (by decide +kernel)
theorem tw220 : (Jvm.Cond.methodLink "RoadTrace$Net" (58 : Nat) ({ cls := "RoadTrace$Net", name := "spans", desc := "(III)Z" } : Jvm.MethodName)) ∈ gw_tbl := mg (i := 267) (by decide +kernel) (by decide +kernel)
theorem tw221 : (Jvm.Cond.static ({ cls := "RoadTrace$Net", name := "spans", desc := "(III)Z" } : Jvm.MethodName)) ∈ gw_tbl := mg (i := 268) (by decide +kernel) (by decide +kernel)
theorem tw222 : (Jvm.Cond.code ({ cls := "RoadTrace$Net", name := "spans", desc := "(III)Z" } : Jvm.MethodName) prog_2_method_14_code (3 : Nat) (Option.some Jvm.ClassFile.FieldType.boolean)) ∈ gw_tbl := mg (i := 269) (by decide +kernel) (by decide +kernel)
theorem tw223 : (Jvm.Cond.methodLink "RoadTrace$Net" (62 : Nat) ({ cls := "java/lang/Math", name := "min", desc := "(II)I" } : Jvm.MethodName)) ∈ gw_tbl := mg (i := 270) (by decide +kernel) (by decide +kernel)
theorem tw224 : (Jvm.Cond.static ({ cls := "java/lang/Math", name := "min", desc := "(II)I" } : Jvm.MethodName)) ∈ gw_tbl := mg (i := 271) (by decide +kernel) (by decide +kernel)
theorem tw225 : (Jvm.Cond.code ({ cls := "java/lang/Math", name := "min", desc := "(II)I" } : Jvm.MethodName) prog_9_method_69_code (2 : Nat) (Option.some Jvm.ClassFile.FieldType.int)) ∈ gw_tbl := mg (i := 272) (by decide +kernel) (by decide +kernel)
theorem tw226 : (Jvm.Cond.methodLink "RoadTrace$Net" (65 : Nat) ({ cls := "java/lang/Math", name := "max", desc := "(II)I" } : Jvm.MethodName)) ∈ gw_tbl := mg (i := 273) (by decide +kernel) (by decide +kernel)
theorem tw227 : (Jvm.Cond.static ({ cls := "java/lang/Math", name := "max", desc := "(II)I" } : Jvm.MethodName)) ∈ gw_tbl := mg (i := 274) (by decide +kernel) (by decide +kernel)
theorem tw228 : (Jvm.Cond.code ({ cls := "java/lang/Math", name := "max", desc := "(II)I" } : Jvm.MethodName) prog_9_method_65_code (2 : Nat) (Option.some Jvm.ClassFile.FieldType.int)) ∈ gw_tbl := mg (i := 275) (by decide +kernel) (by decide +kernel)
theorem tw229 : (Jvm.Cond.methodLink "RoadTraceLaw" (31 : Nat) ({ cls := "RoadTrace", name := "between", desc := "(II)I" } : Jvm.MethodName)) ∈ gw_tbl := mg (i := 276) (by decide +kernel) (by decide +kernel)
theorem tw230 : (Jvm.Cond.instanceMethod ({ cls := "RoadTrace", name := "between", desc := "(II)I" } : Jvm.MethodName)) ∈ gw_tbl := mg (i := 277) (by decide +kernel) (by decide +kernel)
theorem tw231 : (Jvm.Cond.selects "RoadTrace" ({ cls := "RoadTrace", name := "between", desc := "(II)I" } : Jvm.MethodName) ({ cls := "RoadTrace", name := "between", desc := "(II)I" } : Jvm.MethodName)) ∈ gw_tbl := mg (i := 278) (by decide +kernel) (by decide +kernel)
theorem tw232 : (Jvm.Cond.code ({ cls := "RoadTrace", name := "between", desc := "(II)I" } : Jvm.MethodName) prog_1_method_6_code (3 : Nat) (Option.some Jvm.ClassFile.FieldType.int)) ∈ gw_tbl := mg (i := 279) (by decide +kernel) (by decide +kernel)
theorem tw233 : (Jvm.Cond.methodLink "RoadTrace" (83 : Nat) ({ cls := "RoadTrace$Net", name := "leastBetween", desc := "(II)I" } : Jvm.MethodName)) ∈ gw_tbl := mg (i := 280) (by decide +kernel) (by decide +kernel)
theorem tw234 : (Jvm.Cond.instanceMethod ({ cls := "RoadTrace$Net", name := "leastBetween", desc := "(II)I" } : Jvm.MethodName)) ∈ gw_tbl := mg (i := 281) (by decide +kernel) (by decide +kernel)
theorem tw235 : (Jvm.Cond.selects "RoadTrace$Net" ({ cls := "RoadTrace$Net", name := "leastBetween", desc := "(II)I" } : Jvm.MethodName) ({ cls := "RoadTrace$Net", name := "leastBetween", desc := "(II)I" } : Jvm.MethodName)) ∈ gw_tbl := mg (i := 282) (by decide +kernel) (by decide +kernel)
theorem tw236 : (Jvm.Cond.code ({ cls := "RoadTrace$Net", name := "leastBetween", desc := "(II)I" } : Jvm.MethodName) prog_2_method_11_code (3 : Nat) (Option.some Jvm.ClassFile.FieldType.int)) ∈ gw_tbl := mg (i := 283) (by decide +kernel) (by decide +kernel)
theorem tw237 : (Jvm.Cond.methodLink "RoadTraceLaw" (35 : Nat) ({ cls := "RoadTrace", name := "way", desc := "(II)I" } : Jvm.MethodName)) ∈ gw_tbl := mg (i := 284) (by decide +kernel) (by decide +kernel)
theorem tw238 : (Jvm.Cond.instanceMethod ({ cls := "RoadTrace", name := "way", desc := "(II)I" } : Jvm.MethodName)) ∈ gw_tbl := mg (i := 285) (by decide +kernel) (by decide +kernel)
theorem tw239 : (Jvm.Cond.selects "RoadTrace" ({ cls := "RoadTrace", name := "way", desc := "(II)I" } : Jvm.MethodName) ({ cls := "RoadTrace", name := "way", desc := "(II)I" } : Jvm.MethodName)) ∈ gw_tbl := mg (i := 286) (by decide +kernel) (by decide +kernel)
theorem tw240 : (Jvm.Cond.code ({ cls := "RoadTrace", name := "way", desc := "(II)I" } : Jvm.MethodName) prog_1_method_7_code (3 : Nat) (Option.some Jvm.ClassFile.FieldType.int)) ∈ gw_tbl := mg (i := 287) (by decide +kernel) (by decide +kernel)
theorem tw241 : (Jvm.Cond.methodLink "RoadTrace" (86 : Nat) ({ cls := "RoadTrace$Net", name := "hasSpot", desc := "(I)Z" } : Jvm.MethodName)) ∈ gw_tbl := mg (i := 288) (by decide +kernel) (by decide +kernel)
theorem tw242 : (Jvm.Cond.instanceMethod ({ cls := "RoadTrace$Net", name := "hasSpot", desc := "(I)Z" } : Jvm.MethodName)) ∈ gw_tbl := mg (i := 289) (by decide +kernel) (by decide +kernel)
theorem tw243 : (Jvm.Cond.selects "RoadTrace$Net" ({ cls := "RoadTrace$Net", name := "hasSpot", desc := "(I)Z" } : Jvm.MethodName) ({ cls := "RoadTrace$Net", name := "hasSpot", desc := "(I)Z" } : Jvm.MethodName)) ∈ gw_tbl := mg (i := 290) (by decide +kernel) (by decide +kernel)
theorem tw244 : (Jvm.Cond.code ({ cls := "RoadTrace$Net", name := "hasSpot", desc := "(I)Z" } : Jvm.MethodName) prog_2_method_4_code (3 : Nat) (Option.some Jvm.ClassFile.FieldType.boolean)) ∈ gw_tbl := mg (i := 291) (by decide +kernel) (by decide +kernel)
theorem tw245 : (Jvm.Cond.methodLink "RoadTrace" (89 : Nat) ({ cls := "RoadTrace$Net", name := "wayLength", desc := "(II)I" } : Jvm.MethodName)) ∈ gw_tbl := mg (i := 292) (by decide +kernel) (by decide +kernel)
theorem tw246 : (Jvm.Cond.instanceMethod ({ cls := "RoadTrace$Net", name := "wayLength", desc := "(II)I" } : Jvm.MethodName)) ∈ gw_tbl := mg (i := 293) (by decide +kernel) (by decide +kernel)
theorem tw247 : (Jvm.Cond.selects "RoadTrace$Net" ({ cls := "RoadTrace$Net", name := "wayLength", desc := "(II)I" } : Jvm.MethodName) ({ cls := "RoadTrace$Net", name := "wayLength", desc := "(II)I" } : Jvm.MethodName)) ∈ gw_tbl := mg (i := 294) (by decide +kernel) (by decide +kernel)
theorem tw248 : (Jvm.Cond.code ({ cls := "RoadTrace$Net", name := "wayLength", desc := "(II)I" } : Jvm.MethodName) prog_2_method_20_code (6 : Nat) (Option.some Jvm.ClassFile.FieldType.int)) ∈ gw_tbl := mg (i := 295) (by decide +kernel) (by decide +kernel)
theorem tw249 : (Jvm.Cond.methodLink "RoadTrace$Net" (81 : Nat) ({ cls := "RoadTrace$Net", name := "hasSpot", desc := "(I)Z" } : Jvm.MethodName)) ∈ gw_tbl := mg (i := 296) (by decide +kernel) (by decide +kernel)
theorem tw250 : (Jvm.Cond.methodLink "RoadTrace$Net" (84 : Nat) ({ cls := "RoadTrace$Net", name := "lengthOut", desc := "(III)I" } : Jvm.MethodName)) ∈ gw_tbl := mg (i := 297) (by decide +kernel) (by decide +kernel)
theorem tw252 : (Jvm.Cond.instanceMethod ({ cls := "RoadTrace$Net", name := "lengthOut", desc := "(III)I" } : Jvm.MethodName)) ∈ gw_tbl := mg (i := 299) (by decide +kernel) (by decide +kernel)
theorem tw253 : (Jvm.Cond.code ({ cls := "RoadTrace$Net", name := "lengthOut", desc := "(III)I" } : Jvm.MethodName) prog_2_method_22_code (7 : Nat) (Option.some Jvm.ClassFile.FieldType.int)) ∈ gw_tbl := mg (i := 300) (by decide +kernel) (by decide +kernel)
theorem tw254 : (Jvm.Cond.methodLink "RoadTrace$Net" (90 : Nat) ({ cls := "RoadTrace$Net", name := "lengthAlong", desc := "(II)I" } : Jvm.MethodName)) ∈ gw_tbl := mg (i := 301) (by decide +kernel) (by decide +kernel)
theorem tw256 : (Jvm.Cond.instanceMethod ({ cls := "RoadTrace$Net", name := "lengthAlong", desc := "(II)I" } : Jvm.MethodName)) ∈ gw_tbl := mg (i := 303) (by decide +kernel) (by decide +kernel)
theorem tw257 : (Jvm.Cond.code ({ cls := "RoadTrace$Net", name := "lengthAlong", desc := "(II)I" } : Jvm.MethodName) prog_2_method_23_code (4 : Nat) (Option.some Jvm.ClassFile.FieldType.int)) ∈ gw_tbl := mg (i := 304) (by decide +kernel) (by decide +kernel)
theorem tw258 : (Jvm.Cond.methodLink "RoadTrace$Net" (93 : Nat) ({ cls := "RoadTrace$Net", name := "leavesByLast", desc := "(I)Z" } : Jvm.MethodName)) ∈ gw_tbl := mg (i := 305) (by decide +kernel) (by decide +kernel)
theorem tw259 : (Jvm.Cond.static ({ cls := "RoadTrace$Net", name := "leavesByLast", desc := "(I)Z" } : Jvm.MethodName)) ∈ gw_tbl := mg (i := 306) (by decide +kernel) (by decide +kernel)
theorem tw260 : (Jvm.Cond.code ({ cls := "RoadTrace$Net", name := "leavesByLast", desc := "(I)Z" } : Jvm.MethodName) prog_2_method_27_code (1 : Nat) (Option.some Jvm.ClassFile.FieldType.boolean)) ∈ gw_tbl := mg (i := 307) (by decide +kernel) (by decide +kernel)
theorem tw261 : (Jvm.Cond.methodLink "RoadTrace$Net" (96 : Nat) ({ cls := "RoadTrace$Net", name := "leaveLength", desc := "(IZ)I" } : Jvm.MethodName)) ∈ gw_tbl := mg (i := 308) (by decide +kernel) (by decide +kernel)
theorem tw263 : (Jvm.Cond.instanceMethod ({ cls := "RoadTrace$Net", name := "leaveLength", desc := "(IZ)I" } : Jvm.MethodName)) ∈ gw_tbl := mg (i := 310) (by decide +kernel) (by decide +kernel)
theorem tw264 : (Jvm.Cond.code ({ cls := "RoadTrace$Net", name := "leaveLength", desc := "(IZ)I" } : Jvm.MethodName) prog_2_method_24_code (5 : Nat) (Option.some Jvm.ClassFile.FieldType.int)) ∈ gw_tbl := mg (i := 311) (by decide +kernel) (by decide +kernel)
theorem tw265 : (Jvm.Cond.methodLink "RoadTrace$Net" (100 : Nat) ({ cls := "RoadTrace$Net", name := "endOf", desc := "(IZ)I" } : Jvm.MethodName)) ∈ gw_tbl := mg (i := 312) (by decide +kernel) (by decide +kernel)
theorem tw267 : (Jvm.Cond.instanceMethod ({ cls := "RoadTrace$Net", name := "endOf", desc := "(IZ)I" } : Jvm.MethodName)) ∈ gw_tbl := mg (i := 314) (by decide +kernel) (by decide +kernel)
theorem tw268 : (Jvm.Cond.code ({ cls := "RoadTrace$Net", name := "endOf", desc := "(IZ)I" } : Jvm.MethodName) prog_2_method_26_code (4 : Nat) (Option.some Jvm.ClassFile.FieldType.int)) ∈ gw_tbl := mg (i := 315) (by decide +kernel) (by decide +kernel)
theorem tw269 : (Jvm.Cond.methodLink "RoadTrace$Net" (103 : Nat) ({ cls := "RoadTrace$Net", name := "comesByLast", desc := "(I)Z" } : Jvm.MethodName)) ∈ gw_tbl := mg (i := 316) (by decide +kernel) (by decide +kernel)
theorem tw270 : (Jvm.Cond.static ({ cls := "RoadTrace$Net", name := "comesByLast", desc := "(I)Z" } : Jvm.MethodName)) ∈ gw_tbl := mg (i := 317) (by decide +kernel) (by decide +kernel)
theorem tw271 : (Jvm.Cond.code ({ cls := "RoadTrace$Net", name := "comesByLast", desc := "(I)Z" } : Jvm.MethodName) prog_2_method_28_code (1 : Nat) (Option.some Jvm.ClassFile.FieldType.boolean)) ∈ gw_tbl := mg (i := 318) (by decide +kernel) (by decide +kernel)
theorem tw272 : (Jvm.Cond.methodLink "RoadTrace$Net" (106 : Nat) ({ cls := "RoadTrace$Net", name := "comeLength", desc := "(IZ)I" } : Jvm.MethodName)) ∈ gw_tbl := mg (i := 319) (by decide +kernel) (by decide +kernel)
theorem tw274 : (Jvm.Cond.instanceMethod ({ cls := "RoadTrace$Net", name := "comeLength", desc := "(IZ)I" } : Jvm.MethodName)) ∈ gw_tbl := mg (i := 321) (by decide +kernel) (by decide +kernel)
theorem tw275 : (Jvm.Cond.code ({ cls := "RoadTrace$Net", name := "comeLength", desc := "(IZ)I" } : Jvm.MethodName) prog_2_method_25_code (5 : Nat) (Option.some Jvm.ClassFile.FieldType.int)) ∈ gw_tbl := mg (i := 322) (by decide +kernel) (by decide +kernel)
theorem tw276 : (Jvm.Cond.methodLink "RoadTraceLaw" (39 : Nat) ({ cls := "RoadTrace", name := "fix", desc := "(II)I" } : Jvm.MethodName)) ∈ gw_tbl := mg (i := 323) (by decide +kernel) (by decide +kernel)
theorem tw277 : (Jvm.Cond.instanceMethod ({ cls := "RoadTrace", name := "fix", desc := "(II)I" } : Jvm.MethodName)) ∈ gw_tbl := mg (i := 324) (by decide +kernel) (by decide +kernel)
theorem tw278 : (Jvm.Cond.selects "RoadTrace" ({ cls := "RoadTrace", name := "fix", desc := "(II)I" } : Jvm.MethodName) ({ cls := "RoadTrace", name := "fix", desc := "(II)I" } : Jvm.MethodName)) ∈ gw_tbl := mg (i := 325) (by decide +kernel) (by decide +kernel)
theorem tw279 : (Jvm.Cond.code ({ cls := "RoadTrace", name := "fix", desc := "(II)I" } : Jvm.MethodName) prog_1_method_8_code (3 : Nat) (Option.some Jvm.ClassFile.FieldType.int)) ∈ gw_tbl := mg (i := 326) (by decide +kernel) (by decide +kernel)
theorem tw280 : (Jvm.Cond.methodLink "RoadTrace" (92 : Nat) ({ cls := "RoadTrace$Trace", name := "addFix", desc := "(II)V" } : Jvm.MethodName)) ∈ gw_tbl := mg (i := 327) (by decide +kernel) (by decide +kernel)
theorem tw281 : (Jvm.Cond.instanceMethod ({ cls := "RoadTrace$Trace", name := "addFix", desc := "(II)V" } : Jvm.MethodName)) ∈ gw_tbl := mg (i := 328) (by decide +kernel) (by decide +kernel)
theorem tw282 : (Jvm.Cond.selects "RoadTrace$Trace" ({ cls := "RoadTrace$Trace", name := "addFix", desc := "(II)V" } : Jvm.MethodName) ({ cls := "RoadTrace$Trace", name := "addFix", desc := "(II)V" } : Jvm.MethodName)) ∈ gw_tbl := mg (i := 329) (by decide +kernel) (by decide +kernel)
theorem tw283 : (Jvm.Cond.code ({ cls := "RoadTrace$Trace", name := "addFix", desc := "(II)V" } : Jvm.MethodName) prog_5_method_6_code (5 : Nat) (Option.none : Option Jvm.ClassFile.FieldType)) ∈ gw_tbl := mg (i := 330) (by decide +kernel) (by decide +kernel)
theorem tw284 : (Jvm.Cond.methodLink "RoadTrace$Trace" (62 : Nat) ({ cls := "RoadTrace$Trace", name := "lastFixed", desc := "()I" } : Jvm.MethodName)) ∈ gw_tbl := mg (i := 331) (by decide +kernel) (by decide +kernel)
theorem tw286 : (Jvm.Cond.instanceMethod ({ cls := "RoadTrace$Trace", name := "lastFixed", desc := "()I" } : Jvm.MethodName)) ∈ gw_tbl := mg (i := 333) (by decide +kernel) (by decide +kernel)
theorem tw287 : (Jvm.Cond.code ({ cls := "RoadTrace$Trace", name := "lastFixed", desc := "()I" } : Jvm.MethodName) prog_5_method_8_code (2 : Nat) (Option.some Jvm.ClassFile.FieldType.int)) ∈ gw_tbl := mg (i := 334) (by decide +kernel) (by decide +kernel)
theorem tw288 : (Jvm.Cond.methodLink "RoadTrace$Trace" (81 : Nat) ({ cls := "RoadTrace$Trace", name := "isGap", desc := "(I)Z" } : Jvm.MethodName)) ∈ gw_tbl := mg (i := 335) (by decide +kernel) (by decide +kernel)
theorem tw290 : (Jvm.Cond.instanceMethod ({ cls := "RoadTrace$Trace", name := "isGap", desc := "(I)Z" } : Jvm.MethodName)) ∈ gw_tbl := mg (i := 337) (by decide +kernel) (by decide +kernel)
theorem tw291 : (Jvm.Cond.code ({ cls := "RoadTrace$Trace", name := "isGap", desc := "(I)Z" } : Jvm.MethodName) prog_5_method_4_code (2 : Nat) (Option.some Jvm.ClassFile.FieldType.boolean)) ∈ gw_tbl := mg (i := 338) (by decide +kernel) (by decide +kernel)
theorem tw292 : (Jvm.Cond.methodLink "RoadTrace$Trace" (58 : Nat) ({ cls := "RoadTrace$Trace", name := "hasFix", desc := "(I)Z" } : Jvm.MethodName)) ∈ gw_tbl := mg (i := 339) (by decide +kernel) (by decide +kernel)
theorem tw293 : (Jvm.Cond.instanceMethod ({ cls := "RoadTrace$Trace", name := "hasFix", desc := "(I)Z" } : Jvm.MethodName)) ∈ gw_tbl := mg (i := 340) (by decide +kernel) (by decide +kernel)
theorem tw294 : (Jvm.Cond.selects "RoadTrace$Trace" ({ cls := "RoadTrace$Trace", name := "hasFix", desc := "(I)Z" } : Jvm.MethodName) ({ cls := "RoadTrace$Trace", name := "hasFix", desc := "(I)Z" } : Jvm.MethodName)) ∈ gw_tbl := mg (i := 341) (by decide +kernel) (by decide +kernel)
theorem tw295 : (Jvm.Cond.code ({ cls := "RoadTrace$Trace", name := "hasFix", desc := "(I)Z" } : Jvm.MethodName) prog_5_method_2_code (2 : Nat) (Option.some Jvm.ClassFile.FieldType.boolean)) ∈ gw_tbl := mg (i := 342) (by decide +kernel) (by decide +kernel)
theorem tw296 : (Jvm.Cond.methodLink "RoadTrace$Trace" (66 : Nat) ({ cls := "RoadTrace$Trace", name := "findCandidates", desc := "(I)V" } : Jvm.MethodName)) ∈ gw_tbl := mg (i := 343) (by decide +kernel) (by decide +kernel)
theorem tw298 : (Jvm.Cond.instanceMethod ({ cls := "RoadTrace$Trace", name := "findCandidates", desc := "(I)V" } : Jvm.MethodName)) ∈ gw_tbl := mg (i := 345) (by decide +kernel) (by decide +kernel)
theorem tw299 : (Jvm.Cond.code ({ cls := "RoadTrace$Trace", name := "findCandidates", desc := "(I)V" } : Jvm.MethodName) prog_5_method_9_code (5 : Nat) (Option.none : Option Jvm.ClassFile.FieldType)) ∈ gw_tbl := mg (i := 346) (by decide +kernel) (by decide +kernel)
theorem tw300 : (Jvm.Cond.methodLink "RoadTrace$Trace" (89 : Nat) ({ cls := "RoadTrace$Net", name := "apartFromRoad", desc := "(III)I" } : Jvm.MethodName)) ∈ gw_tbl := mg (i := 347) (by decide +kernel) (by decide +kernel)
theorem tw301 : (Jvm.Cond.instanceMethod ({ cls := "RoadTrace$Net", name := "apartFromRoad", desc := "(III)I" } : Jvm.MethodName)) ∈ gw_tbl := mg (i := 348) (by decide +kernel) (by decide +kernel)
theorem tw302 : (Jvm.Cond.selects "RoadTrace$Net" ({ cls := "RoadTrace$Net", name := "apartFromRoad", desc := "(III)I" } : Jvm.MethodName) ({ cls := "RoadTrace$Net", name := "apartFromRoad", desc := "(III)I" } : Jvm.MethodName)) ∈ gw_tbl := mg (i := 349) (by decide +kernel) (by decide +kernel)
theorem tw303 : (Jvm.Cond.code ({ cls := "RoadTrace$Net", name := "apartFromRoad", desc := "(III)I" } : Jvm.MethodName) prog_2_method_15_code (4 : Nat) (Option.some Jvm.ClassFile.FieldType.int)) ∈ gw_tbl := mg (i := 350) (by decide +kernel) (by decide +kernel)
theorem tw304 : (Jvm.Cond.methodLink "RoadTrace$Net" (68 : Nat) ({ cls := "RoadTrace$Net", name := "hasRoad", desc := "(I)Z" } : Jvm.MethodName)) ∈ gw_tbl := mg (i := 351) (by decide +kernel) (by decide +kernel)
theorem tw305 : (Jvm.Cond.instanceMethod ({ cls := "RoadTrace$Net", name := "hasRoad", desc := "(I)Z" } : Jvm.MethodName)) ∈ gw_tbl := mg (i := 352) (by decide +kernel) (by decide +kernel)
theorem tw306 : (Jvm.Cond.selects "RoadTrace$Net" ({ cls := "RoadTrace$Net", name := "hasRoad", desc := "(I)Z" } : Jvm.MethodName) ({ cls := "RoadTrace$Net", name := "hasRoad", desc := "(I)Z" } : Jvm.MethodName)) ∈ gw_tbl := mg (i := 353) (by decide +kernel) (by decide +kernel)
theorem tw307 : (Jvm.Cond.code ({ cls := "RoadTrace$Net", name := "hasRoad", desc := "(I)Z" } : Jvm.MethodName) prog_2_method_3_code (2 : Nat) (Option.some Jvm.ClassFile.FieldType.boolean)) ∈ gw_tbl := mg (i := 354) (by decide +kernel) (by decide +kernel)
theorem tw308 : (Jvm.Cond.methodLink "RoadTrace$Net" (71 : Nat) ({ cls := "RoadTrace$Net", name := "nearestX", desc := "(II)I" } : Jvm.MethodName)) ∈ gw_tbl := mg (i := 355) (by decide +kernel) (by decide +kernel)
theorem tw310 : (Jvm.Cond.instanceMethod ({ cls := "RoadTrace$Net", name := "nearestX", desc := "(II)I" } : Jvm.MethodName)) ∈ gw_tbl := mg (i := 357) (by decide +kernel) (by decide +kernel)
theorem tw311 : (Jvm.Cond.code ({ cls := "RoadTrace$Net", name := "nearestX", desc := "(II)I" } : Jvm.MethodName) prog_2_method_17_code (3 : Nat) (Option.some Jvm.ClassFile.FieldType.int)) ∈ gw_tbl := mg (i := 358) (by decide +kernel) (by decide +kernel)
theorem tw312 : (Jvm.Cond.methodLink "RoadTrace$Net" (77 : Nat) ({ cls := "RoadTrace$Net", name := "held", desc := "(III)I" } : Jvm.MethodName)) ∈ gw_tbl := mg (i := 359) (by decide +kernel) (by decide +kernel)
theorem tw313 : (Jvm.Cond.static ({ cls := "RoadTrace$Net", name := "held", desc := "(III)I" } : Jvm.MethodName)) ∈ gw_tbl := mg (i := 360) (by decide +kernel) (by decide +kernel)
theorem tw314 : (Jvm.Cond.code ({ cls := "RoadTrace$Net", name := "held", desc := "(III)I" } : Jvm.MethodName) prog_2_method_19_code (3 : Nat) (Option.some Jvm.ClassFile.FieldType.int)) ∈ gw_tbl := mg (i := 361) (by decide +kernel) (by decide +kernel)
theorem tw315 : (Jvm.Cond.methodLink "RoadTrace$Net" (74 : Nat) ({ cls := "RoadTrace$Net", name := "nearestY", desc := "(II)I" } : Jvm.MethodName)) ∈ gw_tbl := mg (i := 362) (by decide +kernel) (by decide +kernel)
theorem tw317 : (Jvm.Cond.instanceMethod ({ cls := "RoadTrace$Net", name := "nearestY", desc := "(II)I" } : Jvm.MethodName)) ∈ gw_tbl := mg (i := 364) (by decide +kernel) (by decide +kernel)
theorem tw318 : (Jvm.Cond.code ({ cls := "RoadTrace$Net", name := "nearestY", desc := "(II)I" } : Jvm.MethodName) prog_2_method_18_code (3 : Nat) (Option.some Jvm.ClassFile.FieldType.int)) ∈ gw_tbl := mg (i := 365) (by decide +kernel) (by decide +kernel)
theorem tw319 : (Jvm.Cond.methodLink "RoadTrace$Trace" (98 : Nat) ({ cls := "RoadTrace$Trace", name := "slot", desc := "(II)I" } : Jvm.MethodName)) ∈ gw_tbl := mg (i := 366) (by decide +kernel) (by decide +kernel)
theorem tw320 : (Jvm.Cond.static ({ cls := "RoadTrace$Trace", name := "slot", desc := "(II)I" } : Jvm.MethodName)) ∈ gw_tbl := mg (i := 367) (by decide +kernel) (by decide +kernel)
theorem tw321 : (Jvm.Cond.code ({ cls := "RoadTrace$Trace", name := "slot", desc := "(II)I" } : Jvm.MethodName) prog_5_method_5_code (2 : Nat) (Option.some Jvm.ClassFile.FieldType.int)) ∈ gw_tbl := mg (i := 368) (by decide +kernel) (by decide +kernel)
theorem tw322 : (Jvm.Cond.methodLink "RoadTrace$Trace" (102 : Nat) ({ cls := "RoadTrace$Net", name := "nearestSpot", desc := "(III)I" } : Jvm.MethodName)) ∈ gw_tbl := mg (i := 369) (by decide +kernel) (by decide +kernel)
theorem tw323 : (Jvm.Cond.instanceMethod ({ cls := "RoadTrace$Net", name := "nearestSpot", desc := "(III)I" } : Jvm.MethodName)) ∈ gw_tbl := mg (i := 370) (by decide +kernel) (by decide +kernel)
theorem tw324 : (Jvm.Cond.selects "RoadTrace$Net" ({ cls := "RoadTrace$Net", name := "nearestSpot", desc := "(III)I" } : Jvm.MethodName) ({ cls := "RoadTrace$Net", name := "nearestSpot", desc := "(III)I" } : Jvm.MethodName)) ∈ gw_tbl := mg (i := 371) (by decide +kernel) (by decide +kernel)
theorem tw325 : (Jvm.Cond.code ({ cls := "RoadTrace$Net", name := "nearestSpot", desc := "(III)I" } : Jvm.MethodName) prog_2_method_16_code (6 : Nat) (Option.some Jvm.ClassFile.FieldType.int)) ∈ gw_tbl := mg (i := 372) (by decide +kernel) (by decide +kernel)
theorem tw326 : (Jvm.Cond.methodLink "RoadTrace$Trace" (70 : Nat) ({ cls := "RoadTrace$Trace", name := "beginPiece", desc := "(II)V" } : Jvm.MethodName)) ∈ gw_tbl := mg (i := 373) (by decide +kernel) (by decide +kernel)
theorem tw328 : (Jvm.Cond.instanceMethod ({ cls := "RoadTrace$Trace", name := "beginPiece", desc := "(II)V" } : Jvm.MethodName)) ∈ gw_tbl := mg (i := 375) (by decide +kernel) (by decide +kernel)
theorem tw329 : (Jvm.Cond.code ({ cls := "RoadTrace$Trace", name := "beginPiece", desc := "(II)V" } : Jvm.MethodName) prog_5_method_10_code (4 : Nat) (Option.none : Option Jvm.ClassFile.FieldType)) ∈ gw_tbl := mg (i := 376) (by decide +kernel) (by decide +kernel)
theorem tw330 : (Jvm.Cond.methodLink "RoadTrace$Trace" (74 : Nat) ({ cls := "RoadTrace$Trace", name := "goesOn", desc := "(II)Z" } : Jvm.MethodName)) ∈ gw_tbl := mg (i := 377) (by decide +kernel) (by decide +kernel)
theorem tw332 : (Jvm.Cond.instanceMethod ({ cls := "RoadTrace$Trace", name := "goesOn", desc := "(II)Z" } : Jvm.MethodName)) ∈ gw_tbl := mg (i := 379) (by decide +kernel) (by decide +kernel)
theorem tw333 : (Jvm.Cond.code ({ cls := "RoadTrace$Trace", name := "goesOn", desc := "(II)Z" } : Jvm.MethodName) prog_5_method_11_code (5 : Nat) (Option.some Jvm.ClassFile.FieldType.boolean)) ∈ gw_tbl := mg (i := 380) (by decide +kernel) (by decide +kernel)
theorem tw334 : (Jvm.Cond.methodLink "RoadTrace$Trace" (105 : Nat) ({ cls := "RoadTrace$Trace", name := "joinCandidate", desc := "(III)V" } : Jvm.MethodName)) ∈ gw_tbl := mg (i := 381) (by decide +kernel) (by decide +kernel)
theorem tw336 : (Jvm.Cond.instanceMethod ({ cls := "RoadTrace$Trace", name := "joinCandidate", desc := "(III)V" } : Jvm.MethodName)) ∈ gw_tbl := mg (i := 383) (by decide +kernel) (by decide +kernel)
theorem tw337 : (Jvm.Cond.code ({ cls := "RoadTrace$Trace", name := "joinCandidate", desc := "(III)V" } : Jvm.MethodName) prog_5_method_12_code (11 : Nat) (Option.none : Option Jvm.ClassFile.FieldType)) ∈ gw_tbl := mg (i := 384) (by decide +kernel) (by decide +kernel)
theorem tw338 : (Jvm.Cond.methodLink "RoadTrace$Trace" (109 : Nat) ({ cls := "java/lang/Math", name := "abs", desc := "(I)I" } : Jvm.MethodName)) ∈ gw_tbl := mg (i := 385) (by decide +kernel) (by decide +kernel)
theorem tw339 : (Jvm.Cond.methodLink "RoadTrace$Trace" (115 : Nat) ({ cls := "RoadTrace$Net", name := "wayLength", desc := "(II)I" } : Jvm.MethodName)) ∈ gw_tbl := mg (i := 386) (by decide +kernel) (by decide +kernel)
theorem tw340 : (Jvm.Cond.methodLink "RoadTrace$Trace" (78 : Nat) ({ cls := "RoadTrace$Trace", name := "settle", desc := "()V" } : Jvm.MethodName)) ∈ gw_tbl := mg (i := 387) (by decide +kernel) (by decide +kernel)
theorem tw342 : (Jvm.Cond.instanceMethod ({ cls := "RoadTrace$Trace", name := "settle", desc := "()V" } : Jvm.MethodName)) ∈ gw_tbl := mg (i := 389) (by decide +kernel) (by decide +kernel)
theorem tw343 : (Jvm.Cond.code ({ cls := "RoadTrace$Trace", name := "settle", desc := "()V" } : Jvm.MethodName) prog_5_method_14_code (5 : Nat) (Option.none : Option Jvm.ClassFile.FieldType)) ∈ gw_tbl := mg (i := 390) (by decide +kernel) (by decide +kernel)
theorem tw344 : (Jvm.Cond.methodLink "RoadTrace$Trace" (121 : Nat) ({ cls := "RoadTrace$Trace", name := "backOf", desc := "(II)I" } : Jvm.MethodName)) ∈ gw_tbl := mg (i := 391) (by decide +kernel) (by decide +kernel)
theorem tw346 : (Jvm.Cond.instanceMethod ({ cls := "RoadTrace$Trace", name := "backOf", desc := "(II)I" } : Jvm.MethodName)) ∈ gw_tbl := mg (i := 393) (by decide +kernel) (by decide +kernel)
theorem tw347 : (Jvm.Cond.code ({ cls := "RoadTrace$Trace", name := "backOf", desc := "(II)I" } : Jvm.MethodName) prog_5_method_16_code (3 : Nat) (Option.some Jvm.ClassFile.FieldType.int)) ∈ gw_tbl := mg (i := 394) (by decide +kernel) (by decide +kernel)
theorem tw348 : (Jvm.Cond.methodLink "RoadTrace$Trace" (118 : Nat) ({ cls := "RoadTrace$Trace", name := "hasCandidate", desc := "(II)Z" } : Jvm.MethodName)) ∈ gw_tbl := mg (i := 395) (by decide +kernel) (by decide +kernel)
theorem tw350 : (Jvm.Cond.instanceMethod ({ cls := "RoadTrace$Trace", name := "hasCandidate", desc := "(II)Z" } : Jvm.MethodName)) ∈ gw_tbl := mg (i := 397) (by decide +kernel) (by decide +kernel)
theorem tw351 : (Jvm.Cond.code ({ cls := "RoadTrace$Trace", name := "hasCandidate", desc := "(II)Z" } : Jvm.MethodName) prog_5_method_3_code (3 : Nat) (Option.some Jvm.ClassFile.FieldType.boolean)) ∈ gw_tbl := mg (i := 398) (by decide +kernel) (by decide +kernel)
theorem tw352 : (Jvm.Cond.methodLink "RoadTrace$Trace" (124 : Nat) ({ cls := "RoadTrace$Trace", name := "backsOf", desc := "(II)I" } : Jvm.MethodName)) ∈ gw_tbl := mg (i := 399) (by decide +kernel) (by decide +kernel)
theorem tw354 : (Jvm.Cond.instanceMethod ({ cls := "RoadTrace$Trace", name := "backsOf", desc := "(II)I" } : Jvm.MethodName)) ∈ gw_tbl := mg (i := 401) (by decide +kernel) (by decide +kernel)
theorem tw355 : (Jvm.Cond.code ({ cls := "RoadTrace$Trace", name := "backsOf", desc := "(II)I" } : Jvm.MethodName) prog_5_method_18_code (5 : Nat) (Option.some Jvm.ClassFile.FieldType.int)) ∈ gw_tbl := mg (i := 402) (by decide +kernel) (by decide +kernel)
theorem tw356 : (Jvm.Cond.methodLink "RoadTrace$Trace" (127 : Nat) ({ cls := "RoadTrace$Trace", name := "cheapest", desc := "(I)I" } : Jvm.MethodName)) ∈ gw_tbl := mg (i := 403) (by decide +kernel) (by decide +kernel)
theorem tw358 : (Jvm.Cond.instanceMethod ({ cls := "RoadTrace$Trace", name := "cheapest", desc := "(I)I" } : Jvm.MethodName)) ∈ gw_tbl := mg (i := 405) (by decide +kernel) (by decide +kernel)
theorem tw359 : (Jvm.Cond.code ({ cls := "RoadTrace$Trace", name := "cheapest", desc := "(I)I" } : Jvm.MethodName) prog_5_method_15_code (6 : Nat) (Option.some Jvm.ClassFile.FieldType.int)) ∈ gw_tbl := mg (i := 406) (by decide +kernel) (by decide +kernel)
theorem tw360 : (Jvm.Cond.methodLink "RoadTrace$Trace" (130 : Nat) ({ cls := "RoadTrace$Trace", name := "alive", desc := "(I)I" } : Jvm.MethodName)) ∈ gw_tbl := mg (i := 407) (by decide +kernel) (by decide +kernel)
theorem tw362 : (Jvm.Cond.instanceMethod ({ cls := "RoadTrace$Trace", name := "alive", desc := "(I)I" } : Jvm.MethodName)) ∈ gw_tbl := mg (i := 409) (by decide +kernel) (by decide +kernel)
theorem tw363 : (Jvm.Cond.code ({ cls := "RoadTrace$Trace", name := "alive", desc := "(I)I" } : Jvm.MethodName) prog_5_method_17_code (4 : Nat) (Option.some Jvm.ClassFile.FieldType.int)) ∈ gw_tbl := mg (i := 410) (by decide +kernel) (by decide +kernel)
theorem tw364 : (Jvm.Cond.methodLink "RoadTrace$Trace" (133 : Nat) ({ cls := "java/lang/Integer", name := "bitCount", desc := "(I)I" } : Jvm.MethodName)) ∈ gw_tbl := mg (i := 411) (by decide +kernel) (by decide +kernel)
theorem tw365 : (Jvm.Cond.static ({ cls := "java/lang/Integer", name := "bitCount", desc := "(I)I" } : Jvm.MethodName)) ∈ gw_tbl := mg (i := 412) (by decide +kernel) (by decide +kernel)
theorem tw366 : (Jvm.Cond.code ({ cls := "java/lang/Integer", name := "bitCount", desc := "(I)I" } : Jvm.MethodName) prog_8_method_49_code (1 : Nat) (Option.some Jvm.ClassFile.FieldType.int)) ∈ gw_tbl := mg (i := 413) (by decide +kernel) (by decide +kernel)
theorem tw367 : (Jvm.Cond.constant "java/lang/Integer" (265 : Nat) (1431655765 : Int32)) ∈ gw_tbl := mg (i := 414) (by decide +kernel) (by decide +kernel)
theorem tw368 : (Jvm.Cond.constant "java/lang/Integer" (266 : Nat) (858993459 : Int32)) ∈ gw_tbl := mg (i := 415) (by decide +kernel) (by decide +kernel)
theorem tw369 : (Jvm.Cond.constant "java/lang/Integer" (267 : Nat) (252645135 : Int32)) ∈ gw_tbl := mg (i := 416) (by decide +kernel) (by decide +kernel)
theorem tw370 : (Jvm.Cond.methodLink "RoadTraceLaw" (43 : Nat) ({ cls := "RoadTrace", name := "drop", desc := "()I" } : Jvm.MethodName)) ∈ gw_tbl := mg (i := 417) (by decide +kernel) (by decide +kernel)
theorem tw371 : (Jvm.Cond.instanceMethod ({ cls := "RoadTrace", name := "drop", desc := "()I" } : Jvm.MethodName)) ∈ gw_tbl := mg (i := 418) (by decide +kernel) (by decide +kernel)
theorem tw372 : (Jvm.Cond.selects "RoadTrace" ({ cls := "RoadTrace", name := "drop", desc := "()I" } : Jvm.MethodName) ({ cls := "RoadTrace", name := "drop", desc := "()I" } : Jvm.MethodName)) ∈ gw_tbl := mg (i := 419) (by decide +kernel) (by decide +kernel)
theorem tw373 : (Jvm.Cond.code ({ cls := "RoadTrace", name := "drop", desc := "()I" } : Jvm.MethodName) prog_1_method_9_code (1 : Nat) (Option.some Jvm.ClassFile.FieldType.int)) ∈ gw_tbl := mg (i := 420) (by decide +kernel) (by decide +kernel)
theorem tw374 : (Jvm.Cond.methodLink "RoadTrace" (95 : Nat) ({ cls := "RoadTrace$Trace", name := "dropFix", desc := "()V" } : Jvm.MethodName)) ∈ gw_tbl := mg (i := 421) (by decide +kernel) (by decide +kernel)
theorem tw375 : (Jvm.Cond.instanceMethod ({ cls := "RoadTrace$Trace", name := "dropFix", desc := "()V" } : Jvm.MethodName)) ∈ gw_tbl := mg (i := 422) (by decide +kernel) (by decide +kernel)
theorem tw376 : (Jvm.Cond.selects "RoadTrace$Trace" ({ cls := "RoadTrace$Trace", name := "dropFix", desc := "()V" } : Jvm.MethodName) ({ cls := "RoadTrace$Trace", name := "dropFix", desc := "()V" } : Jvm.MethodName)) ∈ gw_tbl := mg (i := 423) (by decide +kernel) (by decide +kernel)
theorem tw377 : (Jvm.Cond.code ({ cls := "RoadTrace$Trace", name := "dropFix", desc := "()V" } : Jvm.MethodName) prog_5_method_7_code (1 : Nat) (Option.none : Option Jvm.ClassFile.FieldType)) ∈ gw_tbl := mg (i := 424) (by decide +kernel) (by decide +kernel)
theorem tw378 : (Jvm.Cond.methodLink "RoadTraceLaw" (48 : Nat) ({ cls := "RoadTrace", name := "candidate", desc := "(III)I" } : Jvm.MethodName)) ∈ gw_tbl := mg (i := 425) (by decide +kernel) (by decide +kernel)
theorem tw379 : (Jvm.Cond.instanceMethod ({ cls := "RoadTrace", name := "candidate", desc := "(III)I" } : Jvm.MethodName)) ∈ gw_tbl := mg (i := 426) (by decide +kernel) (by decide +kernel)
theorem tw380 : (Jvm.Cond.selects "RoadTrace" ({ cls := "RoadTrace", name := "candidate", desc := "(III)I" } : Jvm.MethodName) ({ cls := "RoadTrace", name := "candidate", desc := "(III)I" } : Jvm.MethodName)) ∈ gw_tbl := mg (i := 427) (by decide +kernel) (by decide +kernel)
theorem tw381 : (Jvm.Cond.code ({ cls := "RoadTrace", name := "candidate", desc := "(III)I" } : Jvm.MethodName) prog_1_method_10_code (4 : Nat) (Option.some Jvm.ClassFile.FieldType.int)) ∈ gw_tbl := mg (i := 428) (by decide +kernel) (by decide +kernel)
theorem tw382 : (Jvm.Cond.methodLink "RoadTrace" (98 : Nat) ({ cls := "RoadTrace$Trace", name := "hasFix", desc := "(I)Z" } : Jvm.MethodName)) ∈ gw_tbl := mg (i := 429) (by decide +kernel) (by decide +kernel)
theorem tw383 : (Jvm.Cond.methodLink "RoadTrace" (105 : Nat) ({ cls := "RoadTrace$Trace", name := "tellCandidate", desc := "(III)I" } : Jvm.MethodName)) ∈ gw_tbl := mg (i := 430) (by decide +kernel) (by decide +kernel)
theorem tw384 : (Jvm.Cond.instanceMethod ({ cls := "RoadTrace$Trace", name := "tellCandidate", desc := "(III)I" } : Jvm.MethodName)) ∈ gw_tbl := mg (i := 431) (by decide +kernel) (by decide +kernel)
theorem tw385 : (Jvm.Cond.selects "RoadTrace$Trace" ({ cls := "RoadTrace$Trace", name := "tellCandidate", desc := "(III)I" } : Jvm.MethodName) ({ cls := "RoadTrace$Trace", name := "tellCandidate", desc := "(III)I" } : Jvm.MethodName)) ∈ gw_tbl := mg (i := 432) (by decide +kernel) (by decide +kernel)
theorem tw386 : (Jvm.Cond.code ({ cls := "RoadTrace$Trace", name := "tellCandidate", desc := "(III)I" } : Jvm.MethodName) prog_5_method_13_code (4 : Nat) (Option.some Jvm.ClassFile.FieldType.int)) ∈ gw_tbl := mg (i := 433) (by decide +kernel) (by decide +kernel)
theorem tw387 : (Jvm.Cond.methodLink "RoadTraceLaw" (52 : Nat) ({ cls := "RoadTrace", name := "best", desc := "(I)I" } : Jvm.MethodName)) ∈ gw_tbl := mg (i := 434) (by decide +kernel) (by decide +kernel)
theorem tw388 : (Jvm.Cond.instanceMethod ({ cls := "RoadTrace", name := "best", desc := "(I)I" } : Jvm.MethodName)) ∈ gw_tbl := mg (i := 435) (by decide +kernel) (by decide +kernel)
theorem tw389 : (Jvm.Cond.selects "RoadTrace" ({ cls := "RoadTrace", name := "best", desc := "(I)I" } : Jvm.MethodName) ({ cls := "RoadTrace", name := "best", desc := "(I)I" } : Jvm.MethodName)) ∈ gw_tbl := mg (i := 436) (by decide +kernel) (by decide +kernel)
theorem tw390 : (Jvm.Cond.code ({ cls := "RoadTrace", name := "best", desc := "(I)I" } : Jvm.MethodName) prog_1_method_11_code (2 : Nat) (Option.some Jvm.ClassFile.FieldType.int)) ∈ gw_tbl := mg (i := 437) (by decide +kernel) (by decide +kernel)
theorem tw391 : (Jvm.Cond.methodLink "RoadTrace" (109 : Nat) ({ cls := "RoadTrace$Trace", name := "chosenSpot", desc := "(I)I" } : Jvm.MethodName)) ∈ gw_tbl := mg (i := 438) (by decide +kernel) (by decide +kernel)
theorem tw392 : (Jvm.Cond.instanceMethod ({ cls := "RoadTrace$Trace", name := "chosenSpot", desc := "(I)I" } : Jvm.MethodName)) ∈ gw_tbl := mg (i := 439) (by decide +kernel) (by decide +kernel)
theorem tw393 : (Jvm.Cond.selects "RoadTrace$Trace" ({ cls := "RoadTrace$Trace", name := "chosenSpot", desc := "(I)I" } : Jvm.MethodName) ({ cls := "RoadTrace$Trace", name := "chosenSpot", desc := "(I)I" } : Jvm.MethodName)) ∈ gw_tbl := mg (i := 440) (by decide +kernel) (by decide +kernel)
theorem tw394 : (Jvm.Cond.code ({ cls := "RoadTrace$Trace", name := "chosenSpot", desc := "(I)I" } : Jvm.MethodName) prog_5_method_19_code (3 : Nat) (Option.some Jvm.ClassFile.FieldType.int)) ∈ gw_tbl := mg (i := 441) (by decide +kernel) (by decide +kernel)
theorem tw395 : (Jvm.Cond.methodLink "RoadTraceLaw" (57 : Nat) ({ cls := "RoadTrace", name := "decided", desc := "(I)I" } : Jvm.MethodName)) ∈ gw_tbl := mg (i := 442) (by decide +kernel) (by decide +kernel)
theorem tw396 : (Jvm.Cond.instanceMethod ({ cls := "RoadTrace", name := "decided", desc := "(I)I" } : Jvm.MethodName)) ∈ gw_tbl := mg (i := 443) (by decide +kernel) (by decide +kernel)
theorem tw397 : (Jvm.Cond.selects "RoadTrace" ({ cls := "RoadTrace", name := "decided", desc := "(I)I" } : Jvm.MethodName) ({ cls := "RoadTrace", name := "decided", desc := "(I)I" } : Jvm.MethodName)) ∈ gw_tbl := mg (i := 444) (by decide +kernel) (by decide +kernel)
theorem tw398 : (Jvm.Cond.code ({ cls := "RoadTrace", name := "decided", desc := "(I)I" } : Jvm.MethodName) prog_1_method_12_code (2 : Nat) (Option.some Jvm.ClassFile.FieldType.int)) ∈ gw_tbl := mg (i := 445) (by decide +kernel) (by decide +kernel)
theorem tw399 : (Jvm.Cond.methodLink "RoadTraceLaw" (61 : Nat) ({ cls := "RoadTrace", name := "piece", desc := "(I)I" } : Jvm.MethodName)) ∈ gw_tbl := mg (i := 446) (by decide +kernel) (by decide +kernel)
theorem tw400 : (Jvm.Cond.instanceMethod ({ cls := "RoadTrace", name := "piece", desc := "(I)I" } : Jvm.MethodName)) ∈ gw_tbl := mg (i := 447) (by decide +kernel) (by decide +kernel)
theorem tw401 : (Jvm.Cond.selects "RoadTrace" ({ cls := "RoadTrace", name := "piece", desc := "(I)I" } : Jvm.MethodName) ({ cls := "RoadTrace", name := "piece", desc := "(I)I" } : Jvm.MethodName)) ∈ gw_tbl := mg (i := 448) (by decide +kernel) (by decide +kernel)
theorem tw402 : (Jvm.Cond.code ({ cls := "RoadTrace", name := "piece", desc := "(I)I" } : Jvm.MethodName) prog_1_method_13_code (2 : Nat) (Option.some Jvm.ClassFile.FieldType.int)) ∈ gw_tbl := mg (i := 449) (by decide +kernel) (by decide +kernel)
theorem tw403 : (Jvm.Cond.methodLink "RoadTraceLaw" (65 : Nat) ({ cls := "RoadTrace", name := "step", desc := "(I)I" } : Jvm.MethodName)) ∈ gw_tbl := mg (i := 450) (by decide +kernel) (by decide +kernel)
theorem tw404 : (Jvm.Cond.instanceMethod ({ cls := "RoadTrace", name := "step", desc := "(I)I" } : Jvm.MethodName)) ∈ gw_tbl := mg (i := 451) (by decide +kernel) (by decide +kernel)
theorem tw405 : (Jvm.Cond.selects "RoadTrace" ({ cls := "RoadTrace", name := "step", desc := "(I)I" } : Jvm.MethodName) ({ cls := "RoadTrace", name := "step", desc := "(I)I" } : Jvm.MethodName)) ∈ gw_tbl := mg (i := 452) (by decide +kernel) (by decide +kernel)
theorem tw406 : (Jvm.Cond.code ({ cls := "RoadTrace", name := "step", desc := "(I)I" } : Jvm.MethodName) prog_1_method_14_code (2 : Nat) (Option.some Jvm.ClassFile.FieldType.int)) ∈ gw_tbl := mg (i := 453) (by decide +kernel) (by decide +kernel)
theorem tw407 : (Jvm.Cond.methodLink "RoadTrace" (120 : Nat) ({ cls := "RoadTrace$Trace", name := "stepLength", desc := "(I)I" } : Jvm.MethodName)) ∈ gw_tbl := mg (i := 454) (by decide +kernel) (by decide +kernel)
theorem tw408 : (Jvm.Cond.instanceMethod ({ cls := "RoadTrace$Trace", name := "stepLength", desc := "(I)I" } : Jvm.MethodName)) ∈ gw_tbl := mg (i := 455) (by decide +kernel) (by decide +kernel)
theorem tw409 : (Jvm.Cond.selects "RoadTrace$Trace" ({ cls := "RoadTrace$Trace", name := "stepLength", desc := "(I)I" } : Jvm.MethodName) ({ cls := "RoadTrace$Trace", name := "stepLength", desc := "(I)I" } : Jvm.MethodName)) ∈ gw_tbl := mg (i := 456) (by decide +kernel) (by decide +kernel)
theorem tw410 : (Jvm.Cond.code ({ cls := "RoadTrace$Trace", name := "stepLength", desc := "(I)I" } : Jvm.MethodName) prog_5_method_20_code (3 : Nat) (Option.some Jvm.ClassFile.FieldType.int)) ∈ gw_tbl := mg (i := 457) (by decide +kernel) (by decide +kernel)
theorem tw411 : (Jvm.Cond.methodLink "RoadTrace$Trace" (138 : Nat) ({ cls := "RoadTrace$Trace", name := "stepStart", desc := "(I)I" } : Jvm.MethodName)) ∈ gw_tbl := mg (i := 458) (by decide +kernel) (by decide +kernel)
theorem tw413 : (Jvm.Cond.instanceMethod ({ cls := "RoadTrace$Trace", name := "stepStart", desc := "(I)I" } : Jvm.MethodName)) ∈ gw_tbl := mg (i := 460) (by decide +kernel) (by decide +kernel)
theorem tw414 : (Jvm.Cond.code ({ cls := "RoadTrace$Trace", name := "stepStart", desc := "(I)I" } : Jvm.MethodName) prog_5_method_22_code (2 : Nat) (Option.some Jvm.ClassFile.FieldType.int)) ∈ gw_tbl := mg (i := 461) (by decide +kernel) (by decide +kernel)
theorem tw415 : (Jvm.Cond.methodLink "RoadTrace$Trace" (141 : Nat) ({ cls := "RoadTrace$Trace", name := "chosenSpot", desc := "(I)I" } : Jvm.MethodName)) ∈ gw_tbl := mg (i := 462) (by decide +kernel) (by decide +kernel)
theorem tw416 : (Jvm.Cond.methodLink "RoadTraceLaw" (69 : Nat) ({ cls := "RoadTrace", name := "through", desc := "(II)I" } : Jvm.MethodName)) ∈ gw_tbl := mg (i := 463) (by decide +kernel) (by decide +kernel)
theorem tw417 : (Jvm.Cond.instanceMethod ({ cls := "RoadTrace", name := "through", desc := "(II)I" } : Jvm.MethodName)) ∈ gw_tbl := mg (i := 464) (by decide +kernel) (by decide +kernel)
theorem tw418 : (Jvm.Cond.selects "RoadTrace" ({ cls := "RoadTrace", name := "through", desc := "(II)I" } : Jvm.MethodName) ({ cls := "RoadTrace", name := "through", desc := "(II)I" } : Jvm.MethodName)) ∈ gw_tbl := mg (i := 465) (by decide +kernel) (by decide +kernel)
theorem tw419 : (Jvm.Cond.code ({ cls := "RoadTrace", name := "through", desc := "(II)I" } : Jvm.MethodName) prog_1_method_15_code (3 : Nat) (Option.some Jvm.ClassFile.FieldType.int)) ∈ gw_tbl := mg (i := 466) (by decide +kernel) (by decide +kernel)
theorem tw420 : (Jvm.Cond.methodLink "RoadTrace" (123 : Nat) ({ cls := "RoadTrace$Trace", name := "stepCrossing", desc := "(II)I" } : Jvm.MethodName)) ∈ gw_tbl := mg (i := 467) (by decide +kernel) (by decide +kernel)
theorem tw421 : (Jvm.Cond.instanceMethod ({ cls := "RoadTrace$Trace", name := "stepCrossing", desc := "(II)I" } : Jvm.MethodName)) ∈ gw_tbl := mg (i := 468) (by decide +kernel) (by decide +kernel)
theorem tw422 : (Jvm.Cond.selects "RoadTrace$Trace" ({ cls := "RoadTrace$Trace", name := "stepCrossing", desc := "(II)I" } : Jvm.MethodName) ({ cls := "RoadTrace$Trace", name := "stepCrossing", desc := "(II)I" } : Jvm.MethodName)) ∈ gw_tbl := mg (i := 469) (by decide +kernel) (by decide +kernel)
theorem tw423 : (Jvm.Cond.code ({ cls := "RoadTrace$Trace", name := "stepCrossing", desc := "(II)I" } : Jvm.MethodName) prog_5_method_21_code (4 : Nat) (Option.some Jvm.ClassFile.FieldType.int)) ∈ gw_tbl := mg (i := 470) (by decide +kernel) (by decide +kernel)
theorem tw424 : (Jvm.Cond.methodLink "RoadTrace$Trace" (144 : Nat) ({ cls := "RoadTrace$Net", name := "crossingOnWay", desc := "(III)I" } : Jvm.MethodName)) ∈ gw_tbl := mg (i := 471) (by decide +kernel) (by decide +kernel)
theorem tw425 : (Jvm.Cond.instanceMethod ({ cls := "RoadTrace$Net", name := "crossingOnWay", desc := "(III)I" } : Jvm.MethodName)) ∈ gw_tbl := mg (i := 472) (by decide +kernel) (by decide +kernel)
theorem tw426 : (Jvm.Cond.selects "RoadTrace$Net" ({ cls := "RoadTrace$Net", name := "crossingOnWay", desc := "(III)I" } : Jvm.MethodName) ({ cls := "RoadTrace$Net", name := "crossingOnWay", desc := "(III)I" } : Jvm.MethodName)) ∈ gw_tbl := mg (i := 473) (by decide +kernel) (by decide +kernel)
theorem tw427 : (Jvm.Cond.code ({ cls := "RoadTrace$Net", name := "crossingOnWay", desc := "(III)I" } : Jvm.MethodName) prog_2_method_29_code (8 : Nat) (Option.some Jvm.ClassFile.FieldType.int)) ∈ gw_tbl := mg (i := 474) (by decide +kernel) (by decide +kernel)
theorem tw428 : (Jvm.Cond.methodLink "RoadTrace$Net" (109 : Nat) ({ cls := "RoadTrace$Net", name := "wayOut", desc := "(II)I" } : Jvm.MethodName)) ∈ gw_tbl := mg (i := 475) (by decide +kernel) (by decide +kernel)
theorem tw430 : (Jvm.Cond.instanceMethod ({ cls := "RoadTrace$Net", name := "wayOut", desc := "(II)I" } : Jvm.MethodName)) ∈ gw_tbl := mg (i := 477) (by decide +kernel) (by decide +kernel)
theorem tw431 : (Jvm.Cond.code ({ cls := "RoadTrace$Net", name := "wayOut", desc := "(II)I" } : Jvm.MethodName) prog_2_method_21_code (5 : Nat) (Option.some Jvm.ClassFile.FieldType.int)) ∈ gw_tbl := mg (i := 478) (by decide +kernel) (by decide +kernel)
theorem tw432 : (Jvm.Cond.methodLink "RoadTrace$Net" (87 : Nat) ({ cls := "RoadTrace$Net", name := "wayLength", desc := "(II)I" } : Jvm.MethodName)) ∈ gw_tbl := mg (i := 479) (by decide +kernel) (by decide +kernel)
theorem tw433 : (Jvm.Cond.methodLink "RoadTrace$Net" (112 : Nat) ({ cls := "RoadTrace$Net", name := "nextCrossing", desc := "(II)I" } : Jvm.MethodName)) ∈ gw_tbl := mg (i := 480) (by decide +kernel) (by decide +kernel)
theorem tw435 : (Jvm.Cond.instanceMethod ({ cls := "RoadTrace$Net", name := "nextCrossing", desc := "(II)I" } : Jvm.MethodName)) ∈ gw_tbl := mg (i := 482) (by decide +kernel) (by decide +kernel)
theorem tw436 : (Jvm.Cond.code ({ cls := "RoadTrace$Net", name := "nextCrossing", desc := "(II)I" } : Jvm.MethodName) prog_2_method_30_code (8 : Nat) (Option.some Jvm.ClassFile.FieldType.int)) ∈ gw_tbl := mg (i := 483) (by decide +kernel) (by decide +kernel)
theorem tw437 : (Jvm.Cond.methodLink "RoadTrace$Net" (115 : Nat) ({ cls := "RoadTrace$Net", name := "leastBetween", desc := "(II)I" } : Jvm.MethodName)) ∈ gw_tbl := mg (i := 484) (by decide +kernel) (by decide +kernel)
theorem tw438 : (Jvm.Cond.methodLink "RoadTrace$Net" (118 : Nat) ({ cls := "RoadTrace$Net", name := "leadsFrom", desc := "(II)I" } : Jvm.MethodName)) ∈ gw_tbl := mg (i := 485) (by decide +kernel) (by decide +kernel)
theorem tw440 : (Jvm.Cond.instanceMethod ({ cls := "RoadTrace$Net", name := "leadsFrom", desc := "(II)I" } : Jvm.MethodName)) ∈ gw_tbl := mg (i := 487) (by decide +kernel) (by decide +kernel)
theorem tw441 : (Jvm.Cond.code ({ cls := "RoadTrace$Net", name := "leadsFrom", desc := "(II)I" } : Jvm.MethodName) prog_2_method_31_code (3 : Nat) (Option.some Jvm.ClassFile.FieldType.int)) ∈ gw_tbl := mg (i := 488) (by decide +kernel) (by decide +kernel)
theorem tw442 : (Jvm.Cond.methodLink "RoadTraceLaw" (73 : Nat) ({ cls := "RoadTrace", name := "total", desc := "(I)I" } : Jvm.MethodName)) ∈ gw_tbl := mg (i := 489) (by decide +kernel) (by decide +kernel)
theorem tw443 : (Jvm.Cond.instanceMethod ({ cls := "RoadTrace", name := "total", desc := "(I)I" } : Jvm.MethodName)) ∈ gw_tbl := mg (i := 490) (by decide +kernel) (by decide +kernel)
theorem tw444 : (Jvm.Cond.selects "RoadTrace" ({ cls := "RoadTrace", name := "total", desc := "(I)I" } : Jvm.MethodName) ({ cls := "RoadTrace", name := "total", desc := "(I)I" } : Jvm.MethodName)) ∈ gw_tbl := mg (i := 491) (by decide +kernel) (by decide +kernel)
theorem tw445 : (Jvm.Cond.code ({ cls := "RoadTrace", name := "total", desc := "(I)I" } : Jvm.MethodName) prog_1_method_16_code (2 : Nat) (Option.some Jvm.ClassFile.FieldType.int)) ∈ gw_tbl := mg (i := 492) (by decide +kernel) (by decide +kernel)
theorem tw446 : (Jvm.Cond.methodLink "RoadTrace" (126 : Nat) ({ cls := "RoadTrace$Trace", name := "sumOfCosts", desc := "()I" } : Jvm.MethodName)) ∈ gw_tbl := mg (i := 493) (by decide +kernel) (by decide +kernel)
theorem tw447 : (Jvm.Cond.instanceMethod ({ cls := "RoadTrace$Trace", name := "sumOfCosts", desc := "()I" } : Jvm.MethodName)) ∈ gw_tbl := mg (i := 494) (by decide +kernel) (by decide +kernel)
theorem tw448 : (Jvm.Cond.selects "RoadTrace$Trace" ({ cls := "RoadTrace$Trace", name := "sumOfCosts", desc := "()I" } : Jvm.MethodName) ({ cls := "RoadTrace$Trace", name := "sumOfCosts", desc := "()I" } : Jvm.MethodName)) ∈ gw_tbl := mg (i := 495) (by decide +kernel) (by decide +kernel)
theorem tw449 : (Jvm.Cond.code ({ cls := "RoadTrace$Trace", name := "sumOfCosts", desc := "()I" } : Jvm.MethodName) prog_5_method_23_code (4 : Nat) (Option.some Jvm.ClassFile.FieldType.int)) ∈ gw_tbl := mg (i := 496) (by decide +kernel) (by decide +kernel)
theorem tw450 : (Jvm.Cond.methodLink "RoadTrace$Trace" (147 : Nat) ({ cls := "RoadTrace$Trace", name := "endsPiece", desc := "(I)Z" } : Jvm.MethodName)) ∈ gw_tbl := mg (i := 497) (by decide +kernel) (by decide +kernel)
theorem tw452 : (Jvm.Cond.instanceMethod ({ cls := "RoadTrace$Trace", name := "endsPiece", desc := "(I)Z" } : Jvm.MethodName)) ∈ gw_tbl := mg (i := 499) (by decide +kernel) (by decide +kernel)
theorem tw453 : (Jvm.Cond.code ({ cls := "RoadTrace$Trace", name := "endsPiece", desc := "(I)Z" } : Jvm.MethodName) prog_5_method_24_code (3 : Nat) (Option.some Jvm.ClassFile.FieldType.boolean)) ∈ gw_tbl := mg (i := 500) (by decide +kernel) (by decide +kernel)
theorem tw454 : (Jvm.Cond.methodLink "RoadTrace" (130 : Nat) ({ cls := "RoadTrace$Trace", name := "countPieces", desc := "()I" } : Jvm.MethodName)) ∈ gw_tbl := mg (i := 501) (by decide +kernel) (by decide +kernel)
theorem tw455 : (Jvm.Cond.instanceMethod ({ cls := "RoadTrace$Trace", name := "countPieces", desc := "()I" } : Jvm.MethodName)) ∈ gw_tbl := mg (i := 502) (by decide +kernel) (by decide +kernel)
theorem tw456 : (Jvm.Cond.selects "RoadTrace$Trace" ({ cls := "RoadTrace$Trace", name := "countPieces", desc := "()I" } : Jvm.MethodName) ({ cls := "RoadTrace$Trace", name := "countPieces", desc := "()I" } : Jvm.MethodName)) ∈ gw_tbl := mg (i := 503) (by decide +kernel) (by decide +kernel)
theorem tw457 : (Jvm.Cond.code ({ cls := "RoadTrace$Trace", name := "countPieces", desc := "()I" } : Jvm.MethodName) prog_5_method_25_code (2 : Nat) (Option.some Jvm.ClassFile.FieldType.int)) ∈ gw_tbl := mg (i := 504) (by decide +kernel) (by decide +kernel)
theorem tw458 : (Jvm.Cond.methodLink "RoadTrace" (133 : Nat) ({ cls := "RoadTrace$Trace", name := "countGaps", desc := "()I" } : Jvm.MethodName)) ∈ gw_tbl := mg (i := 505) (by decide +kernel) (by decide +kernel)
theorem tw459 : (Jvm.Cond.instanceMethod ({ cls := "RoadTrace$Trace", name := "countGaps", desc := "()I" } : Jvm.MethodName)) ∈ gw_tbl := mg (i := 506) (by decide +kernel) (by decide +kernel)
theorem tw460 : (Jvm.Cond.selects "RoadTrace$Trace" ({ cls := "RoadTrace$Trace", name := "countGaps", desc := "()I" } : Jvm.MethodName) ({ cls := "RoadTrace$Trace", name := "countGaps", desc := "()I" } : Jvm.MethodName)) ∈ gw_tbl := mg (i := 507) (by decide +kernel) (by decide +kernel)
theorem tw461 : (Jvm.Cond.code ({ cls := "RoadTrace$Trace", name := "countGaps", desc := "()I" } : Jvm.MethodName) prog_5_method_26_code (3 : Nat) (Option.some Jvm.ClassFile.FieldType.int)) ∈ gw_tbl := mg (i := 508) (by decide +kernel) (by decide +kernel)
theorem tw462 : (Jvm.Cond.methodLink "RoadTrace" (136 : Nat) ({ cls := "RoadTrace$Trace", name := "countDecided", desc := "()I" } : Jvm.MethodName)) ∈ gw_tbl := mg (i := 509) (by decide +kernel) (by decide +kernel)
theorem tw463 : (Jvm.Cond.instanceMethod ({ cls := "RoadTrace$Trace", name := "countDecided", desc := "()I" } : Jvm.MethodName)) ∈ gw_tbl := mg (i := 510) (by decide +kernel) (by decide +kernel)
theorem tw464 : (Jvm.Cond.selects "RoadTrace$Trace" ({ cls := "RoadTrace$Trace", name := "countDecided", desc := "()I" } : Jvm.MethodName) ({ cls := "RoadTrace$Trace", name := "countDecided", desc := "()I" } : Jvm.MethodName)) ∈ gw_tbl := mg (i := 511) (by decide +kernel) (by decide +kernel)
theorem tw465 : (Jvm.Cond.code ({ cls := "RoadTrace$Trace", name := "countDecided", desc := "()I" } : Jvm.MethodName) prog_5_method_27_code (3 : Nat) (Option.some Jvm.ClassFile.FieldType.int)) ∈ gw_tbl := mg (i := 512) (by decide +kernel) (by decide +kernel)
theorem tw466 : (Jvm.Cond.methodLink "RoadTrace" (139 : Nat) ({ cls := "RoadTrace$Trace", name := "sumOfSteps", desc := "()I" } : Jvm.MethodName)) ∈ gw_tbl := mg (i := 513) (by decide +kernel) (by decide +kernel)
theorem tw467 : (Jvm.Cond.instanceMethod ({ cls := "RoadTrace$Trace", name := "sumOfSteps", desc := "()I" } : Jvm.MethodName)) ∈ gw_tbl := mg (i := 514) (by decide +kernel) (by decide +kernel)
theorem tw468 : (Jvm.Cond.selects "RoadTrace$Trace" ({ cls := "RoadTrace$Trace", name := "sumOfSteps", desc := "()I" } : Jvm.MethodName) ({ cls := "RoadTrace$Trace", name := "sumOfSteps", desc := "()I" } : Jvm.MethodName)) ∈ gw_tbl := mg (i := 515) (by decide +kernel) (by decide +kernel)
theorem tw469 : (Jvm.Cond.code ({ cls := "RoadTrace$Trace", name := "sumOfSteps", desc := "()I" } : Jvm.MethodName) prog_5_method_28_code (4 : Nat) (Option.some Jvm.ClassFile.FieldType.int)) ∈ gw_tbl := mg (i := 516) (by decide +kernel) (by decide +kernel)
theorem tw470 : (Jvm.Cond.methodLink "RoadTrace$Trace" (150 : Nat) ({ cls := "RoadTrace$Trace", name := "stepLength", desc := "(I)I" } : Jvm.MethodName)) ∈ gw_tbl := mg (i := 517) (by decide +kernel) (by decide +kernel)
theorem tw471 : (Jvm.Cond.methodLink "RoadTraceLaw" (77 : Nat) ({ cls := "RoadTrace", name := "image", desc := "(I)I" } : Jvm.MethodName)) ∈ gw_tbl := mg (i := 518) (by decide +kernel) (by decide +kernel)
theorem tw472 : (Jvm.Cond.instanceMethod ({ cls := "RoadTrace", name := "image", desc := "(I)I" } : Jvm.MethodName)) ∈ gw_tbl := mg (i := 519) (by decide +kernel) (by decide +kernel)
theorem tw473 : (Jvm.Cond.selects "RoadTrace" ({ cls := "RoadTrace", name := "image", desc := "(I)I" } : Jvm.MethodName) ({ cls := "RoadTrace", name := "image", desc := "(I)I" } : Jvm.MethodName)) ∈ gw_tbl := mg (i := 520) (by decide +kernel) (by decide +kernel)
theorem tw474 : (Jvm.Cond.code ({ cls := "RoadTrace", name := "image", desc := "(I)I" } : Jvm.MethodName) prog_1_method_17_code (2 : Nat) (Option.some Jvm.ClassFile.FieldType.int)) ∈ gw_tbl := mg (i := 521) (by decide +kernel) (by decide +kernel)
theorem tw475 : (Jvm.Cond.methodLink "RoadTrace" (142 : Nat) ({ cls := "RoadTrace$State", name := "copyFrom", desc := "(LRoadTrace$State;)V" } : Jvm.MethodName)) ∈ gw_tbl := mg (i := 522) (by decide +kernel) (by decide +kernel)
theorem tw476 : (Jvm.Cond.instanceMethod ({ cls := "RoadTrace$State", name := "copyFrom", desc := "(LRoadTrace$State;)V" } : Jvm.MethodName)) ∈ gw_tbl := mg (i := 523) (by decide +kernel) (by decide +kernel)
theorem tw477 : (Jvm.Cond.selects "RoadTrace$State" ({ cls := "RoadTrace$State", name := "copyFrom", desc := "(LRoadTrace$State;)V" } : Jvm.MethodName) ({ cls := "RoadTrace$State", name := "copyFrom", desc := "(LRoadTrace$State;)V" } : Jvm.MethodName)) ∈ gw_tbl := mg (i := 524) (by decide +kernel) (by decide +kernel)
theorem tw478 : (Jvm.Cond.code ({ cls := "RoadTrace$State", name := "copyFrom", desc := "(LRoadTrace$State;)V" } : Jvm.MethodName) prog_4_method_2_code (2 : Nat) (Option.none : Option Jvm.ClassFile.FieldType)) ∈ gw_tbl := mg (i := 525) (by decide +kernel) (by decide +kernel)
theorem tw479 : (Jvm.Cond.methodLink "RoadTrace$State" (36 : Nat) ({ cls := "RoadTrace$Net", name := "copyFrom", desc := "(LRoadTrace$Net;)V" } : Jvm.MethodName)) ∈ gw_tbl := mg (i := 526) (by decide +kernel) (by decide +kernel)
theorem tw480 : (Jvm.Cond.instanceMethod ({ cls := "RoadTrace$Net", name := "copyFrom", desc := "(LRoadTrace$Net;)V" } : Jvm.MethodName)) ∈ gw_tbl := mg (i := 527) (by decide +kernel) (by decide +kernel)
theorem tw481 : (Jvm.Cond.selects "RoadTrace$Net" ({ cls := "RoadTrace$Net", name := "copyFrom", desc := "(LRoadTrace$Net;)V" } : Jvm.MethodName) ({ cls := "RoadTrace$Net", name := "copyFrom", desc := "(LRoadTrace$Net;)V" } : Jvm.MethodName)) ∈ gw_tbl := mg (i := 528) (by decide +kernel) (by decide +kernel)
theorem tw482 : (Jvm.Cond.code ({ cls := "RoadTrace$Net", name := "copyFrom", desc := "(LRoadTrace$Net;)V" } : Jvm.MethodName) prog_2_method_34_code (2 : Nat) (Option.none : Option Jvm.ClassFile.FieldType)) ∈ gw_tbl := mg (i := 529) (by decide +kernel) (by decide +kernel)
theorem tw483 : (Jvm.Cond.methodLink "RoadTrace$Net" (121 : Nat) ({ cls := "java/lang/System", name := "arraycopy", desc := "(Ljava/lang/Object;ILjava/lang/Object;II)V" } : Jvm.MethodName)) ∈ gw_tbl := mg (i := 530) (by decide +kernel) (by decide +kernel)
theorem tw484 : (Jvm.Cond.static ({ cls := "java/lang/System", name := "arraycopy", desc := "(Ljava/lang/Object;ILjava/lang/Object;II)V" } : Jvm.MethodName)) ∈ gw_tbl := mg (i := 531) (by decide +kernel) (by decide +kernel)
theorem tw485 : (Jvm.Cond.native ({ cls := "java/lang/System", name := "arraycopy", desc := "(Ljava/lang/Object;ILjava/lang/Object;II)V" } : Jvm.MethodName)) ∈ gw_tbl := mg (i := 532) (by decide +kernel) (by decide +kernel)
theorem tw486 : (Jvm.Cond.methodLink "RoadTrace$State" (40 : Nat) ({ cls := "RoadTrace$Rules", name := "copyFrom", desc := "(LRoadTrace$Rules;)V" } : Jvm.MethodName)) ∈ gw_tbl := mg (i := 533) (by decide +kernel) (by decide +kernel)
theorem tw487 : (Jvm.Cond.instanceMethod ({ cls := "RoadTrace$Rules", name := "copyFrom", desc := "(LRoadTrace$Rules;)V" } : Jvm.MethodName)) ∈ gw_tbl := mg (i := 534) (by decide +kernel) (by decide +kernel)
theorem tw488 : (Jvm.Cond.selects "RoadTrace$Rules" ({ cls := "RoadTrace$Rules", name := "copyFrom", desc := "(LRoadTrace$Rules;)V" } : Jvm.MethodName) ({ cls := "RoadTrace$Rules", name := "copyFrom", desc := "(LRoadTrace$Rules;)V" } : Jvm.MethodName)) ∈ gw_tbl := mg (i := 535) (by decide +kernel) (by decide +kernel)
theorem tw489 : (Jvm.Cond.code ({ cls := "RoadTrace$Rules", name := "copyFrom", desc := "(LRoadTrace$Rules;)V" } : Jvm.MethodName) prog_3_method_5_code (2 : Nat) (Option.none : Option Jvm.ClassFile.FieldType)) ∈ gw_tbl := mg (i := 536) (by decide +kernel) (by decide +kernel)
theorem tw490 : (Jvm.Cond.methodLink "RoadTrace$Rules" (18 : Nat) ({ cls := "java/lang/System", name := "arraycopy", desc := "(Ljava/lang/Object;ILjava/lang/Object;II)V" } : Jvm.MethodName)) ∈ gw_tbl := mg (i := 537) (by decide +kernel) (by decide +kernel)
theorem tw491 : (Jvm.Cond.methodLink "RoadTrace$State" (43 : Nat) ({ cls := "RoadTrace$Trace", name := "copyFrom", desc := "(LRoadTrace$Trace;)V" } : Jvm.MethodName)) ∈ gw_tbl := mg (i := 538) (by decide +kernel) (by decide +kernel)
theorem tw492 : (Jvm.Cond.instanceMethod ({ cls := "RoadTrace$Trace", name := "copyFrom", desc := "(LRoadTrace$Trace;)V" } : Jvm.MethodName)) ∈ gw_tbl := mg (i := 539) (by decide +kernel) (by decide +kernel)
theorem tw493 : (Jvm.Cond.selects "RoadTrace$Trace" ({ cls := "RoadTrace$Trace", name := "copyFrom", desc := "(LRoadTrace$Trace;)V" } : Jvm.MethodName) ({ cls := "RoadTrace$Trace", name := "copyFrom", desc := "(LRoadTrace$Trace;)V" } : Jvm.MethodName)) ∈ gw_tbl := mg (i := 540) (by decide +kernel) (by decide +kernel)
theorem tw494 : (Jvm.Cond.code ({ cls := "RoadTrace$Trace", name := "copyFrom", desc := "(LRoadTrace$Trace;)V" } : Jvm.MethodName) prog_5_method_30_code (2 : Nat) (Option.none : Option Jvm.ClassFile.FieldType)) ∈ gw_tbl := mg (i := 541) (by decide +kernel) (by decide +kernel)
theorem tw495 : (Jvm.Cond.methodLink "RoadTrace$Trace" (153 : Nat) ({ cls := "java/lang/System", name := "arraycopy", desc := "(Ljava/lang/Object;ILjava/lang/Object;II)V" } : Jvm.MethodName)) ∈ gw_tbl := mg (i := 542) (by decide +kernel) (by decide +kernel)
theorem tw496 : (Jvm.Cond.methodLink "RoadTraceLaw" (81 : Nat) ({ cls := "RoadTrace", name := "restore", desc := "(I)I" } : Jvm.MethodName)) ∈ gw_tbl := mg (i := 543) (by decide +kernel) (by decide +kernel)
theorem tw497 : (Jvm.Cond.instanceMethod ({ cls := "RoadTrace", name := "restore", desc := "(I)I" } : Jvm.MethodName)) ∈ gw_tbl := mg (i := 544) (by decide +kernel) (by decide +kernel)
theorem tw498 : (Jvm.Cond.selects "RoadTrace" ({ cls := "RoadTrace", name := "restore", desc := "(I)I" } : Jvm.MethodName) ({ cls := "RoadTrace", name := "restore", desc := "(I)I" } : Jvm.MethodName)) ∈ gw_tbl := mg (i := 545) (by decide +kernel) (by decide +kernel)
theorem tw499 : (Jvm.Cond.code ({ cls := "RoadTrace", name := "restore", desc := "(I)I" } : Jvm.MethodName) prog_1_method_18_code (2 : Nat) (Option.some Jvm.ClassFile.FieldType.int)) ∈ gw_tbl := mg (i := 546) (by decide +kernel) (by decide +kernel)
theorem tw500 : (Jvm.Cond.methodLink "RoadTraceLaw" (85 : Nat) ({ cls := "RoadTrace", name := "told", desc := "(I)I" } : Jvm.MethodName)) ∈ gw_tbl := mg (i := 547) (by decide +kernel) (by decide +kernel)
theorem tw501 : (Jvm.Cond.instanceMethod ({ cls := "RoadTrace", name := "told", desc := "(I)I" } : Jvm.MethodName)) ∈ gw_tbl := mg (i := 548) (by decide +kernel) (by decide +kernel)
theorem tw502 : (Jvm.Cond.selects "RoadTrace" ({ cls := "RoadTrace", name := "told", desc := "(I)I" } : Jvm.MethodName) ({ cls := "RoadTrace", name := "told", desc := "(I)I" } : Jvm.MethodName)) ∈ gw_tbl := mg (i := 549) (by decide +kernel) (by decide +kernel)
theorem tw503 : (Jvm.Cond.code ({ cls := "RoadTrace", name := "told", desc := "(I)I" } : Jvm.MethodName) prog_1_method_19_code (3 : Nat) (Option.some Jvm.ClassFile.FieldType.int)) ∈ gw_tbl := mg (i := 550) (by decide +kernel) (by decide +kernel)
theorem tw504 : (Jvm.Cond.methodLink "RoadTrace" (150 : Nat) ({ cls := "RoadTrace", name := "tellCount", desc := "(I)I" } : Jvm.MethodName)) ∈ gw_tbl := mg (i := 551) (by decide +kernel) (by decide +kernel)
theorem tw506 : (Jvm.Cond.instanceMethod ({ cls := "RoadTrace", name := "tellCount", desc := "(I)I" } : Jvm.MethodName)) ∈ gw_tbl := mg (i := 553) (by decide +kernel) (by decide +kernel)
theorem tw507 : (Jvm.Cond.code ({ cls := "RoadTrace", name := "tellCount", desc := "(I)I" } : Jvm.MethodName) prog_1_method_20_code (2 : Nat) (Option.some Jvm.ClassFile.FieldType.int)) ∈ gw_tbl := mg (i := 554) (by decide +kernel) (by decide +kernel)
theorem tw508 : (Jvm.Cond.methodLink "RoadTrace" (162 : Nat) ({ cls := "RoadTrace$Rules", name := "tellRule", desc := "(I)I" } : Jvm.MethodName)) ∈ gw_tbl := mg (i := 555) (by decide +kernel) (by decide +kernel)
theorem tw509 : (Jvm.Cond.instanceMethod ({ cls := "RoadTrace$Rules", name := "tellRule", desc := "(I)I" } : Jvm.MethodName)) ∈ gw_tbl := mg (i := 556) (by decide +kernel) (by decide +kernel)
theorem tw510 : (Jvm.Cond.selects "RoadTrace$Rules" ({ cls := "RoadTrace$Rules", name := "tellRule", desc := "(I)I" } : Jvm.MethodName) ({ cls := "RoadTrace$Rules", name := "tellRule", desc := "(I)I" } : Jvm.MethodName)) ∈ gw_tbl := mg (i := 557) (by decide +kernel) (by decide +kernel)
theorem tw511 : (Jvm.Cond.code ({ cls := "RoadTrace$Rules", name := "tellRule", desc := "(I)I" } : Jvm.MethodName) prog_3_method_4_code (2 : Nat) (Option.some Jvm.ClassFile.FieldType.int)) ∈ gw_tbl := mg (i := 558) (by decide +kernel) (by decide +kernel)
theorem tw512 : (Jvm.Cond.methodLink "RoadTrace" (153 : Nat) ({ cls := "RoadTrace$Net", name := "tellCrossing", desc := "(I)I" } : Jvm.MethodName)) ∈ gw_tbl := mg (i := 559) (by decide +kernel) (by decide +kernel)
theorem tw513 : (Jvm.Cond.instanceMethod ({ cls := "RoadTrace$Net", name := "tellCrossing", desc := "(I)I" } : Jvm.MethodName)) ∈ gw_tbl := mg (i := 560) (by decide +kernel) (by decide +kernel)
theorem tw514 : (Jvm.Cond.selects "RoadTrace$Net" ({ cls := "RoadTrace$Net", name := "tellCrossing", desc := "(I)I" } : Jvm.MethodName) ({ cls := "RoadTrace$Net", name := "tellCrossing", desc := "(I)I" } : Jvm.MethodName)) ∈ gw_tbl := mg (i := 561) (by decide +kernel) (by decide +kernel)
theorem tw515 : (Jvm.Cond.code ({ cls := "RoadTrace$Net", name := "tellCrossing", desc := "(I)I" } : Jvm.MethodName) prog_2_method_32_code (2 : Nat) (Option.some Jvm.ClassFile.FieldType.int)) ∈ gw_tbl := mg (i := 562) (by decide +kernel) (by decide +kernel)
theorem tw516 : (Jvm.Cond.methodLink "RoadTrace" (156 : Nat) ({ cls := "RoadTrace$Net", name := "tellRoad", desc := "(I)I" } : Jvm.MethodName)) ∈ gw_tbl := mg (i := 563) (by decide +kernel) (by decide +kernel)
theorem tw517 : (Jvm.Cond.instanceMethod ({ cls := "RoadTrace$Net", name := "tellRoad", desc := "(I)I" } : Jvm.MethodName)) ∈ gw_tbl := mg (i := 564) (by decide +kernel) (by decide +kernel)
theorem tw518 : (Jvm.Cond.selects "RoadTrace$Net" ({ cls := "RoadTrace$Net", name := "tellRoad", desc := "(I)I" } : Jvm.MethodName) ({ cls := "RoadTrace$Net", name := "tellRoad", desc := "(I)I" } : Jvm.MethodName)) ∈ gw_tbl := mg (i := 565) (by decide +kernel) (by decide +kernel)
theorem tw519 : (Jvm.Cond.code ({ cls := "RoadTrace$Net", name := "tellRoad", desc := "(I)I" } : Jvm.MethodName) prog_2_method_33_code (2 : Nat) (Option.some Jvm.ClassFile.FieldType.int)) ∈ gw_tbl := mg (i := 566) (by decide +kernel) (by decide +kernel)
theorem tw520 : (Jvm.Cond.methodLink "RoadTrace" (159 : Nat) ({ cls := "RoadTrace$Trace", name := "tellFix", desc := "(I)I" } : Jvm.MethodName)) ∈ gw_tbl := mg (i := 567) (by decide +kernel) (by decide +kernel)
theorem tw521 : (Jvm.Cond.instanceMethod ({ cls := "RoadTrace$Trace", name := "tellFix", desc := "(I)I" } : Jvm.MethodName)) ∈ gw_tbl := mg (i := 568) (by decide +kernel) (by decide +kernel)
theorem tw522 : (Jvm.Cond.selects "RoadTrace$Trace" ({ cls := "RoadTrace$Trace", name := "tellFix", desc := "(I)I" } : Jvm.MethodName) ({ cls := "RoadTrace$Trace", name := "tellFix", desc := "(I)I" } : Jvm.MethodName)) ∈ gw_tbl := mg (i := 569) (by decide +kernel) (by decide +kernel)
theorem tw523 : (Jvm.Cond.code ({ cls := "RoadTrace$Trace", name := "tellFix", desc := "(I)I" } : Jvm.MethodName) prog_5_method_29_code (2 : Nat) (Option.some Jvm.ClassFile.FieldType.int)) ∈ gw_tbl := mg (i := 570) (by decide +kernel) (by decide +kernel)
theorem tw530 : (Jvm.Cond.fieldLink "RoadTraceModel" (7 : Nat) "RoadTraceModel" "crossX" "[I") ∈ gw_tbl := mg (i := 577) (by decide +kernel) (by decide +kernel)
theorem tw531 : (Jvm.Cond.fieldLink "RoadTraceModel" (13 : Nat) "RoadTraceModel" "crossY" "[I") ∈ gw_tbl := mg (i := 578) (by decide +kernel) (by decide +kernel)
theorem tw532 : (Jvm.Cond.fieldLink "RoadTraceModel" (72 : Nat) "RoadTraceModel" "crossings" "I") ∈ gw_tbl := mg (i := 579) (by decide +kernel) (by decide +kernel)
theorem tw533 : (Jvm.Cond.fieldLink "RoadTraceModel" (16 : Nat) "RoadTraceModel" "first" "[I") ∈ gw_tbl := mg (i := 580) (by decide +kernel) (by decide +kernel)
theorem tw534 : (Jvm.Cond.fieldLink "RoadTraceModel" (19 : Nat) "RoadTraceModel" "last" "[I") ∈ gw_tbl := mg (i := 581) (by decide +kernel) (by decide +kernel)
theorem tw535 : (Jvm.Cond.fieldLink "RoadTraceModel" (22 : Nat) "RoadTraceModel" "ways" "[I") ∈ gw_tbl := mg (i := 582) (by decide +kernel) (by decide +kernel)
theorem tw536 : (Jvm.Cond.fieldLink "RoadTraceModel" (87 : Nat) "RoadTraceModel" "roads" "I") ∈ gw_tbl := mg (i := 583) (by decide +kernel) (by decide +kernel)
theorem tw537 : (Jvm.Cond.fieldLink "RoadTraceModel" (25 : Nat) "RoadTraceModel" "rules" "[I") ∈ gw_tbl := mg (i := 584) (by decide +kernel) (by decide +kernel)
theorem tw538 : (Jvm.Cond.fieldLink "RoadTraceModel" (28 : Nat) "RoadTraceModel" "fixX" "[I") ∈ gw_tbl := mg (i := 585) (by decide +kernel) (by decide +kernel)
theorem tw539 : (Jvm.Cond.fieldLink "RoadTraceModel" (31 : Nat) "RoadTraceModel" "fixY" "[I") ∈ gw_tbl := mg (i := 586) (by decide +kernel) (by decide +kernel)
theorem tw540 : (Jvm.Cond.fieldLink "RoadTraceModel" (80 : Nat) "RoadTraceModel" "fixes" "I") ∈ gw_tbl := mg (i := 587) (by decide +kernel) (by decide +kernel)
theorem tw541 : (Jvm.Cond.fieldLink "RoadTraceModel" (34 : Nat) "RoadTraceModel" "far" "[I") ∈ gw_tbl := mg (i := 588) (by decide +kernel) (by decide +kernel)
theorem tw542 : (Jvm.Cond.fieldLink "RoadTraceModel" (37 : Nat) "RoadTraceModel" "spot" "[I") ∈ gw_tbl := mg (i := 589) (by decide +kernel) (by decide +kernel)
theorem tw543 : (Jvm.Cond.fieldLink "RoadTraceModel" (40 : Nat) "RoadTraceModel" "side" "[I") ∈ gw_tbl := mg (i := 590) (by decide +kernel) (by decide +kernel)
theorem tw544 : (Jvm.Cond.fieldLink "RoadTraceModel" (43 : Nat) "RoadTraceModel" "cost" "[I") ∈ gw_tbl := mg (i := 591) (by decide +kernel) (by decide +kernel)
theorem tw545 : (Jvm.Cond.fieldLink "RoadTraceModel" (46 : Nat) "RoadTraceModel" "back" "[I") ∈ gw_tbl := mg (i := 592) (by decide +kernel) (by decide +kernel)
theorem tw546 : (Jvm.Cond.fieldLink "RoadTraceModel" (49 : Nat) "RoadTraceModel" "many" "[I") ∈ gw_tbl := mg (i := 593) (by decide +kernel) (by decide +kernel)
theorem tw547 : (Jvm.Cond.fieldLink "RoadTraceModel" (52 : Nat) "RoadTraceModel" "piece" "[I") ∈ gw_tbl := mg (i := 594) (by decide +kernel) (by decide +kernel)
theorem tw548 : (Jvm.Cond.fieldLink "RoadTraceModel" (55 : Nat) "RoadTraceModel" "ahead" "[I") ∈ gw_tbl := mg (i := 595) (by decide +kernel) (by decide +kernel)
theorem tw549 : (Jvm.Cond.fieldLink "RoadTraceModel" (58 : Nat) "RoadTraceModel" "best" "[I") ∈ gw_tbl := mg (i := 596) (by decide +kernel) (by decide +kernel)
theorem tw550 : (Jvm.Cond.fieldLink "RoadTraceModel" (127 : Nat) "RoadTraceModel" "pieces" "I") ∈ gw_tbl := mg (i := 597) (by decide +kernel) (by decide +kernel)
theorem tw551 : (Jvm.Cond.fieldLink "RoadTraceModel" (61 : Nat) "RoadTraceModel" "image" "[I") ∈ gw_tbl := mg (i := 598) (by decide +kernel) (by decide +kernel)
theorem tw552 : (Jvm.Cond.fieldLink "RoadTraceModel" (64 : Nat) "RoadTraceModel" "isKept" "[Z") ∈ gw_tbl := mg (i := 599) (by decide +kernel) (by decide +kernel)
theorem tw600 : (Jvm.Cond.methodLink "RoadTraceLaw" (17 : Nat) ({ cls := "RoadTraceModel", name := "crossing", desc := "(II)I" } : Jvm.MethodName)) ∈ gw_tbl := mg (i := 647) (by decide +kernel) (by decide +kernel)
theorem tw601 : (Jvm.Cond.instanceMethod ({ cls := "RoadTraceModel", name := "crossing", desc := "(II)I" } : Jvm.MethodName)) ∈ gw_tbl := mg (i := 648) (by decide +kernel) (by decide +kernel)
theorem tw602 : (Jvm.Cond.selects "RoadTraceModel" ({ cls := "RoadTraceModel", name := "crossing", desc := "(II)I" } : Jvm.MethodName) ({ cls := "RoadTraceModel", name := "crossing", desc := "(II)I" } : Jvm.MethodName)) ∈ gw_tbl := mg (i := 649) (by decide +kernel) (by decide +kernel)
theorem tw603 : (Jvm.Cond.code ({ cls := "RoadTraceModel", name := "crossing", desc := "(II)I" } : Jvm.MethodName) prog_7_method_6_code (4 : Nat) (Option.some Jvm.ClassFile.FieldType.int)) ∈ gw_tbl := mg (i := 650) (by decide +kernel) (by decide +kernel)
theorem tw604 : (Jvm.Cond.methodLink "RoadTraceModel" (76 : Nat) ({ cls := "RoadTraceModel", name := "in", desc := "(III)Z" } : Jvm.MethodName)) ∈ gw_tbl := mg (i := 651) (by decide +kernel) (by decide +kernel)
theorem tw605 : (Jvm.Cond.static ({ cls := "RoadTraceModel", name := "in", desc := "(III)Z" } : Jvm.MethodName)) ∈ gw_tbl := mg (i := 652) (by decide +kernel) (by decide +kernel)
theorem tw606 : (Jvm.Cond.code ({ cls := "RoadTraceModel", name := "in", desc := "(III)Z" } : Jvm.MethodName) prog_7_method_2_code (3 : Nat) (Option.some Jvm.ClassFile.FieldType.boolean)) ∈ gw_tbl := mg (i := 653) (by decide +kernel) (by decide +kernel)
theorem tw607 : (Jvm.Cond.methodLink "RoadTraceLaw" (22 : Nat) ({ cls := "RoadTraceModel", name := "road", desc := "(III)I" } : Jvm.MethodName)) ∈ gw_tbl := mg (i := 654) (by decide +kernel) (by decide +kernel)
theorem tw608 : (Jvm.Cond.instanceMethod ({ cls := "RoadTraceModel", name := "road", desc := "(III)I" } : Jvm.MethodName)) ∈ gw_tbl := mg (i := 655) (by decide +kernel) (by decide +kernel)
theorem tw609 : (Jvm.Cond.selects "RoadTraceModel" ({ cls := "RoadTraceModel", name := "road", desc := "(III)I" } : Jvm.MethodName) ({ cls := "RoadTraceModel", name := "road", desc := "(III)I" } : Jvm.MethodName)) ∈ gw_tbl := mg (i := 656) (by decide +kernel) (by decide +kernel)
theorem tw610 : (Jvm.Cond.code ({ cls := "RoadTraceModel", name := "road", desc := "(III)I" } : Jvm.MethodName) prog_7_method_7_code (6 : Nat) (Option.some Jvm.ClassFile.FieldType.int)) ∈ gw_tbl := mg (i := 657) (by decide +kernel) (by decide +kernel)
theorem tw611 : (Jvm.Cond.methodLink "RoadTraceModel" (83 : Nat) ({ cls := "RoadTraceModel", name := "isCrossing", desc := "(I)Z" } : Jvm.MethodName)) ∈ gw_tbl := mg (i := 658) (by decide +kernel) (by decide +kernel)
theorem tw613 : (Jvm.Cond.instanceMethod ({ cls := "RoadTraceModel", name := "isCrossing", desc := "(I)Z" } : Jvm.MethodName)) ∈ gw_tbl := mg (i := 660) (by decide +kernel) (by decide +kernel)
theorem tw614 : (Jvm.Cond.code ({ cls := "RoadTraceModel", name := "isCrossing", desc := "(I)Z" } : Jvm.MethodName) prog_7_method_5_code (2 : Nat) (Option.some Jvm.ClassFile.FieldType.boolean)) ∈ gw_tbl := mg (i := 661) (by decide +kernel) (by decide +kernel)
theorem tw615 : (Jvm.Cond.methodLink "RoadTraceLaw" (26 : Nat) ({ cls := "RoadTraceModel", name := "rule", desc := "(II)I" } : Jvm.MethodName)) ∈ gw_tbl := mg (i := 662) (by decide +kernel) (by decide +kernel)
theorem tw616 : (Jvm.Cond.instanceMethod ({ cls := "RoadTraceModel", name := "rule", desc := "(II)I" } : Jvm.MethodName)) ∈ gw_tbl := mg (i := 663) (by decide +kernel) (by decide +kernel)
theorem tw617 : (Jvm.Cond.selects "RoadTraceModel" ({ cls := "RoadTraceModel", name := "rule", desc := "(II)I" } : Jvm.MethodName) ({ cls := "RoadTraceModel", name := "rule", desc := "(II)I" } : Jvm.MethodName)) ∈ gw_tbl := mg (i := 664) (by decide +kernel) (by decide +kernel)
theorem tw618 : (Jvm.Cond.code ({ cls := "RoadTraceModel", name := "rule", desc := "(II)I" } : Jvm.MethodName) prog_7_method_8_code (4 : Nat) (Option.some Jvm.ClassFile.FieldType.int)) ∈ gw_tbl := mg (i := 665) (by decide +kernel) (by decide +kernel)
theorem tw619 : (Jvm.Cond.methodLink "RoadTraceLaw" (30 : Nat) ({ cls := "RoadTraceModel", name := "cell", desc := "(II)I" } : Jvm.MethodName)) ∈ gw_tbl := mg (i := 666) (by decide +kernel) (by decide +kernel)
theorem tw620 : (Jvm.Cond.instanceMethod ({ cls := "RoadTraceModel", name := "cell", desc := "(II)I" } : Jvm.MethodName)) ∈ gw_tbl := mg (i := 667) (by decide +kernel) (by decide +kernel)
theorem tw621 : (Jvm.Cond.selects "RoadTraceModel" ({ cls := "RoadTraceModel", name := "cell", desc := "(II)I" } : Jvm.MethodName) ({ cls := "RoadTraceModel", name := "cell", desc := "(II)I" } : Jvm.MethodName)) ∈ gw_tbl := mg (i := 668) (by decide +kernel) (by decide +kernel)
theorem tw622 : (Jvm.Cond.code ({ cls := "RoadTraceModel", name := "cell", desc := "(II)I" } : Jvm.MethodName) prog_7_method_13_code (7 : Nat) (Option.some Jvm.ClassFile.FieldType.int)) ∈ gw_tbl := mg (i := 669) (by decide +kernel) (by decide +kernel)
theorem tw623 : (Jvm.Cond.methodLink "RoadTraceModel" (98 : Nat) ({ cls := "RoadTraceModel", name := "length", desc := "(I)I" } : Jvm.MethodName)) ∈ gw_tbl := mg (i := 670) (by decide +kernel) (by decide +kernel)
theorem tw625 : (Jvm.Cond.instanceMethod ({ cls := "RoadTraceModel", name := "length", desc := "(I)I" } : Jvm.MethodName)) ∈ gw_tbl := mg (i := 672) (by decide +kernel) (by decide +kernel)
theorem tw626 : (Jvm.Cond.code ({ cls := "RoadTraceModel", name := "length", desc := "(I)I" } : Jvm.MethodName) prog_7_method_9_code (2 : Nat) (Option.some Jvm.ClassFile.FieldType.int)) ∈ gw_tbl := mg (i := 673) (by decide +kernel) (by decide +kernel)
theorem tw627 : (Jvm.Cond.methodLink "RoadTraceModel" (90 : Nat) ({ cls := "RoadTraceModel", name := "apart", desc := "(IIII)I" } : Jvm.MethodName)) ∈ gw_tbl := mg (i := 674) (by decide +kernel) (by decide +kernel)
theorem tw628 : (Jvm.Cond.static ({ cls := "RoadTraceModel", name := "apart", desc := "(IIII)I" } : Jvm.MethodName)) ∈ gw_tbl := mg (i := 675) (by decide +kernel) (by decide +kernel)
theorem tw629 : (Jvm.Cond.code ({ cls := "RoadTraceModel", name := "apart", desc := "(IIII)I" } : Jvm.MethodName) prog_7_method_4_code (4 : Nat) (Option.some Jvm.ClassFile.FieldType.int)) ∈ gw_tbl := mg (i := 676) (by decide +kernel) (by decide +kernel)
theorem tw630 : (Jvm.Cond.methodLink "RoadTraceModel" (68 : Nat) ({ cls := "RoadTraceModel", name := "off", desc := "(II)I" } : Jvm.MethodName)) ∈ gw_tbl := mg (i := 677) (by decide +kernel) (by decide +kernel)
theorem tw631 : (Jvm.Cond.static ({ cls := "RoadTraceModel", name := "off", desc := "(II)I" } : Jvm.MethodName)) ∈ gw_tbl := mg (i := 678) (by decide +kernel) (by decide +kernel)
theorem tw632 : (Jvm.Cond.code ({ cls := "RoadTraceModel", name := "off", desc := "(II)I" } : Jvm.MethodName) prog_7_method_3_code (2 : Nat) (Option.some Jvm.ClassFile.FieldType.int)) ∈ gw_tbl := mg (i := 679) (by decide +kernel) (by decide +kernel)
theorem tw633 : (Jvm.Cond.methodLink "RoadTraceModel" (102 : Nat) ({ cls := "RoadTraceModel", name := "spotX", desc := "(II)I" } : Jvm.MethodName)) ∈ gw_tbl := mg (i := 680) (by decide +kernel) (by decide +kernel)
theorem tw635 : (Jvm.Cond.instanceMethod ({ cls := "RoadTraceModel", name := "spotX", desc := "(II)I" } : Jvm.MethodName)) ∈ gw_tbl := mg (i := 682) (by decide +kernel) (by decide +kernel)
theorem tw636 : (Jvm.Cond.code ({ cls := "RoadTraceModel", name := "spotX", desc := "(II)I" } : Jvm.MethodName) prog_7_method_11_code (3 : Nat) (Option.some Jvm.ClassFile.FieldType.int)) ∈ gw_tbl := mg (i := 683) (by decide +kernel) (by decide +kernel)
theorem tw637 : (Jvm.Cond.methodLink "RoadTraceModel" (94 : Nat) ({ cls := "RoadTraceModel", name := "towards", desc := "(III)I" } : Jvm.MethodName)) ∈ gw_tbl := mg (i := 684) (by decide +kernel) (by decide +kernel)
theorem tw638 : (Jvm.Cond.static ({ cls := "RoadTraceModel", name := "towards", desc := "(III)I" } : Jvm.MethodName)) ∈ gw_tbl := mg (i := 685) (by decide +kernel) (by decide +kernel)
theorem tw639 : (Jvm.Cond.code ({ cls := "RoadTraceModel", name := "towards", desc := "(III)I" } : Jvm.MethodName) prog_7_method_10_code (3 : Nat) (Option.some Jvm.ClassFile.FieldType.int)) ∈ gw_tbl := mg (i := 686) (by decide +kernel) (by decide +kernel)
theorem tw640 : (Jvm.Cond.methodLink "RoadTraceModel" (105 : Nat) ({ cls := "RoadTraceModel", name := "spotY", desc := "(II)I" } : Jvm.MethodName)) ∈ gw_tbl := mg (i := 687) (by decide +kernel) (by decide +kernel)
theorem tw642 : (Jvm.Cond.instanceMethod ({ cls := "RoadTraceModel", name := "spotY", desc := "(II)I" } : Jvm.MethodName)) ∈ gw_tbl := mg (i := 689) (by decide +kernel) (by decide +kernel)
theorem tw643 : (Jvm.Cond.code ({ cls := "RoadTraceModel", name := "spotY", desc := "(II)I" } : Jvm.MethodName) prog_7_method_12_code (3 : Nat) (Option.some Jvm.ClassFile.FieldType.int)) ∈ gw_tbl := mg (i := 690) (by decide +kernel) (by decide +kernel)
theorem tw644 : (Jvm.Cond.methodLink "RoadTraceLaw" (34 : Nat) ({ cls := "RoadTraceModel", name := "between", desc := "(II)I" } : Jvm.MethodName)) ∈ gw_tbl := mg (i := 691) (by decide +kernel) (by decide +kernel)
theorem tw645 : (Jvm.Cond.instanceMethod ({ cls := "RoadTraceModel", name := "between", desc := "(II)I" } : Jvm.MethodName)) ∈ gw_tbl := mg (i := 692) (by decide +kernel) (by decide +kernel)
theorem tw646 : (Jvm.Cond.selects "RoadTraceModel" ({ cls := "RoadTraceModel", name := "between", desc := "(II)I" } : Jvm.MethodName) ({ cls := "RoadTraceModel", name := "between", desc := "(II)I" } : Jvm.MethodName)) ∈ gw_tbl := mg (i := 693) (by decide +kernel) (by decide +kernel)
theorem tw647 : (Jvm.Cond.code ({ cls := "RoadTraceModel", name := "between", desc := "(II)I" } : Jvm.MethodName) prog_7_method_15_code (3 : Nat) (Option.some Jvm.ClassFile.FieldType.int)) ∈ gw_tbl := mg (i := 694) (by decide +kernel) (by decide +kernel)
theorem tw648 : (Jvm.Cond.methodLink "RoadTraceModel" (109 : Nat) ({ cls := "RoadTraceModel", name := "layFar", desc := "()V" } : Jvm.MethodName)) ∈ gw_tbl := mg (i := 695) (by decide +kernel) (by decide +kernel)
theorem tw650 : (Jvm.Cond.instanceMethod ({ cls := "RoadTraceModel", name := "layFar", desc := "()V" } : Jvm.MethodName)) ∈ gw_tbl := mg (i := 697) (by decide +kernel) (by decide +kernel)
theorem tw651 : (Jvm.Cond.code ({ cls := "RoadTraceModel", name := "layFar", desc := "()V" } : Jvm.MethodName) prog_7_method_14_code (5 : Nat) (Option.none : Option Jvm.ClassFile.FieldType)) ∈ gw_tbl := mg (i := 698) (by decide +kernel) (by decide +kernel)
theorem tw652 : (Jvm.Cond.constant "RoadTraceModel" (108 : Nat) (1000000 : Int32)) ∈ gw_tbl := mg (i := 699) (by decide +kernel) (by decide +kernel)
theorem tw653 : (Jvm.Cond.methodLink "RoadTraceLaw" (38 : Nat) ({ cls := "RoadTraceModel", name := "way", desc := "(II)I" } : Jvm.MethodName)) ∈ gw_tbl := mg (i := 700) (by decide +kernel) (by decide +kernel)
theorem tw654 : (Jvm.Cond.instanceMethod ({ cls := "RoadTraceModel", name := "way", desc := "(II)I" } : Jvm.MethodName)) ∈ gw_tbl := mg (i := 701) (by decide +kernel) (by decide +kernel)
theorem tw655 : (Jvm.Cond.selects "RoadTraceModel" ({ cls := "RoadTraceModel", name := "way", desc := "(II)I" } : Jvm.MethodName) ({ cls := "RoadTraceModel", name := "way", desc := "(II)I" } : Jvm.MethodName)) ∈ gw_tbl := mg (i := 702) (by decide +kernel) (by decide +kernel)
theorem tw656 : (Jvm.Cond.code ({ cls := "RoadTraceModel", name := "way", desc := "(II)I" } : Jvm.MethodName) prog_7_method_20_code (3 : Nat) (Option.some Jvm.ClassFile.FieldType.int)) ∈ gw_tbl := mg (i := 703) (by decide +kernel) (by decide +kernel)
theorem tw657 : (Jvm.Cond.methodLink "RoadTraceModel" (118 : Nat) ({ cls := "RoadTraceModel", name := "isSpot", desc := "(I)Z" } : Jvm.MethodName)) ∈ gw_tbl := mg (i := 704) (by decide +kernel) (by decide +kernel)
theorem tw659 : (Jvm.Cond.instanceMethod ({ cls := "RoadTraceModel", name := "isSpot", desc := "(I)Z" } : Jvm.MethodName)) ∈ gw_tbl := mg (i := 706) (by decide +kernel) (by decide +kernel)
theorem tw660 : (Jvm.Cond.code ({ cls := "RoadTraceModel", name := "isSpot", desc := "(I)Z" } : Jvm.MethodName) prog_7_method_16_code (2 : Nat) (Option.some Jvm.ClassFile.FieldType.boolean)) ∈ gw_tbl := mg (i := 707) (by decide +kernel) (by decide +kernel)
theorem tw661 : (Jvm.Cond.methodLink "RoadTraceModel" (121 : Nat) ({ cls := "RoadTraceModel", name := "wayOf", desc := "(II)I" } : Jvm.MethodName)) ∈ gw_tbl := mg (i := 708) (by decide +kernel) (by decide +kernel)
theorem tw663 : (Jvm.Cond.instanceMethod ({ cls := "RoadTraceModel", name := "wayOf", desc := "(II)I" } : Jvm.MethodName)) ∈ gw_tbl := mg (i := 710) (by decide +kernel) (by decide +kernel)
theorem tw664 : (Jvm.Cond.code ({ cls := "RoadTraceModel", name := "wayOf", desc := "(II)I" } : Jvm.MethodName) prog_7_method_19_code (4 : Nat) (Option.some Jvm.ClassFile.FieldType.int)) ∈ gw_tbl := mg (i := 711) (by decide +kernel) (by decide +kernel)
theorem tw665 : (Jvm.Cond.methodLink "RoadTraceModel" (115 : Nat) ({ cls := "RoadTraceModel", name := "leastOut", desc := "(II)I" } : Jvm.MethodName)) ∈ gw_tbl := mg (i := 712) (by decide +kernel) (by decide +kernel)
theorem tw667 : (Jvm.Cond.instanceMethod ({ cls := "RoadTraceModel", name := "leastOut", desc := "(II)I" } : Jvm.MethodName)) ∈ gw_tbl := mg (i := 714) (by decide +kernel) (by decide +kernel)
theorem tw668 : (Jvm.Cond.code ({ cls := "RoadTraceModel", name := "leastOut", desc := "(II)I" } : Jvm.MethodName) prog_7_method_18_code (6 : Nat) (Option.some Jvm.ClassFile.FieldType.int)) ∈ gw_tbl := mg (i := 715) (by decide +kernel) (by decide +kernel)
theorem tw669 : (Jvm.Cond.methodLink "RoadTraceModel" (112 : Nat) ({ cls := "RoadTraceModel", name := "out", desc := "(III)I" } : Jvm.MethodName)) ∈ gw_tbl := mg (i := 716) (by decide +kernel) (by decide +kernel)
theorem tw671 : (Jvm.Cond.instanceMethod ({ cls := "RoadTraceModel", name := "out", desc := "(III)I" } : Jvm.MethodName)) ∈ gw_tbl := mg (i := 718) (by decide +kernel) (by decide +kernel)
theorem tw672 : (Jvm.Cond.code ({ cls := "RoadTraceModel", name := "out", desc := "(III)I" } : Jvm.MethodName) prog_7_method_17_code (13 : Nat) (Option.some Jvm.ClassFile.FieldType.int)) ∈ gw_tbl := mg (i := 719) (by decide +kernel) (by decide +kernel)
theorem tw673 : (Jvm.Cond.methodLink "RoadTraceLaw" (42 : Nat) ({ cls := "RoadTraceModel", name := "fix", desc := "(II)I" } : Jvm.MethodName)) ∈ gw_tbl := mg (i := 720) (by decide +kernel) (by decide +kernel)
theorem tw674 : (Jvm.Cond.instanceMethod ({ cls := "RoadTraceModel", name := "fix", desc := "(II)I" } : Jvm.MethodName)) ∈ gw_tbl := mg (i := 721) (by decide +kernel) (by decide +kernel)
theorem tw675 : (Jvm.Cond.selects "RoadTraceModel" ({ cls := "RoadTraceModel", name := "fix", desc := "(II)I" } : Jvm.MethodName) ({ cls := "RoadTraceModel", name := "fix", desc := "(II)I" } : Jvm.MethodName)) ∈ gw_tbl := mg (i := 722) (by decide +kernel) (by decide +kernel)
theorem tw676 : (Jvm.Cond.code ({ cls := "RoadTraceModel", name := "fix", desc := "(II)I" } : Jvm.MethodName) prog_7_method_21_code (3 : Nat) (Option.some Jvm.ClassFile.FieldType.int)) ∈ gw_tbl := mg (i := 723) (by decide +kernel) (by decide +kernel)
theorem tw677 : (Jvm.Cond.methodLink "RoadTraceLaw" (47 : Nat) ({ cls := "RoadTraceModel", name := "drop", desc := "()I" } : Jvm.MethodName)) ∈ gw_tbl := mg (i := 724) (by decide +kernel) (by decide +kernel)
theorem tw678 : (Jvm.Cond.instanceMethod ({ cls := "RoadTraceModel", name := "drop", desc := "()I" } : Jvm.MethodName)) ∈ gw_tbl := mg (i := 725) (by decide +kernel) (by decide +kernel)
theorem tw679 : (Jvm.Cond.selects "RoadTraceModel" ({ cls := "RoadTraceModel", name := "drop", desc := "()I" } : Jvm.MethodName) ({ cls := "RoadTraceModel", name := "drop", desc := "()I" } : Jvm.MethodName)) ∈ gw_tbl := mg (i := 726) (by decide +kernel) (by decide +kernel)
theorem tw680 : (Jvm.Cond.code ({ cls := "RoadTraceModel", name := "drop", desc := "()I" } : Jvm.MethodName) prog_7_method_22_code (1 : Nat) (Option.some Jvm.ClassFile.FieldType.int)) ∈ gw_tbl := mg (i := 727) (by decide +kernel) (by decide +kernel)
theorem tw681 : (Jvm.Cond.methodLink "RoadTraceLaw" (51 : Nat) ({ cls := "RoadTraceModel", name := "candidate", desc := "(III)I" } : Jvm.MethodName)) ∈ gw_tbl := mg (i := 728) (by decide +kernel) (by decide +kernel)
theorem tw682 : (Jvm.Cond.instanceMethod ({ cls := "RoadTraceModel", name := "candidate", desc := "(III)I" } : Jvm.MethodName)) ∈ gw_tbl := mg (i := 729) (by decide +kernel) (by decide +kernel)
theorem tw683 : (Jvm.Cond.selects "RoadTraceModel" ({ cls := "RoadTraceModel", name := "candidate", desc := "(III)I" } : Jvm.MethodName) ({ cls := "RoadTraceModel", name := "candidate", desc := "(III)I" } : Jvm.MethodName)) ∈ gw_tbl := mg (i := 730) (by decide +kernel) (by decide +kernel)
theorem tw684 : (Jvm.Cond.code ({ cls := "RoadTraceModel", name := "candidate", desc := "(III)I" } : Jvm.MethodName) prog_7_method_31_code (5 : Nat) (Option.some Jvm.ClassFile.FieldType.int)) ∈ gw_tbl := mg (i := 731) (by decide +kernel) (by decide +kernel)
theorem tw685 : (Jvm.Cond.methodLink "RoadTraceModel" (147 : Nat) ({ cls := "RoadTraceModel", name := "isFix", desc := "(I)Z" } : Jvm.MethodName)) ∈ gw_tbl := mg (i := 732) (by decide +kernel) (by decide +kernel)
theorem tw687 : (Jvm.Cond.instanceMethod ({ cls := "RoadTraceModel", name := "isFix", desc := "(I)Z" } : Jvm.MethodName)) ∈ gw_tbl := mg (i := 734) (by decide +kernel) (by decide +kernel)
theorem tw688 : (Jvm.Cond.code ({ cls := "RoadTraceModel", name := "isFix", desc := "(I)Z" } : Jvm.MethodName) prog_7_method_30_code (2 : Nat) (Option.some Jvm.ClassFile.FieldType.boolean)) ∈ gw_tbl := mg (i := 735) (by decide +kernel) (by decide +kernel)
theorem tw689 : (Jvm.Cond.methodLink "RoadTraceModel" (150 : Nat) ({ cls := "RoadTraceModel", name := "layAll", desc := "()V" } : Jvm.MethodName)) ∈ gw_tbl := mg (i := 736) (by decide +kernel) (by decide +kernel)
theorem tw691 : (Jvm.Cond.instanceMethod ({ cls := "RoadTraceModel", name := "layAll", desc := "()V" } : Jvm.MethodName)) ∈ gw_tbl := mg (i := 738) (by decide +kernel) (by decide +kernel)
theorem tw692 : (Jvm.Cond.code ({ cls := "RoadTraceModel", name := "layAll", desc := "()V" } : Jvm.MethodName) prog_7_method_27_code (4 : Nat) (Option.none : Option Jvm.ClassFile.FieldType)) ∈ gw_tbl := mg (i := 739) (by decide +kernel) (by decide +kernel)
theorem tw693 : (Jvm.Cond.methodLink "RoadTraceModel" (130 : Nat) ({ cls := "RoadTraceModel", name := "layCandidates", desc := "(I)V" } : Jvm.MethodName)) ∈ gw_tbl := mg (i := 740) (by decide +kernel) (by decide +kernel)
theorem tw695 : (Jvm.Cond.instanceMethod ({ cls := "RoadTraceModel", name := "layCandidates", desc := "(I)V" } : Jvm.MethodName)) ∈ gw_tbl := mg (i := 742) (by decide +kernel) (by decide +kernel)
theorem tw696 : (Jvm.Cond.code ({ cls := "RoadTraceModel", name := "layCandidates", desc := "(I)V" } : Jvm.MethodName) prog_7_method_24_code (5 : Nat) (Option.none : Option Jvm.ClassFile.FieldType)) ∈ gw_tbl := mg (i := 743) (by decide +kernel) (by decide +kernel)
theorem tw697 : (Jvm.Cond.methodLink "RoadTraceModel" (124 : Nat) ({ cls := "RoadTraceModel", name := "nearest", desc := "(III)I" } : Jvm.MethodName)) ∈ gw_tbl := mg (i := 744) (by decide +kernel) (by decide +kernel)
theorem tw699 : (Jvm.Cond.instanceMethod ({ cls := "RoadTraceModel", name := "nearest", desc := "(III)I" } : Jvm.MethodName)) ∈ gw_tbl := mg (i := 746) (by decide +kernel) (by decide +kernel)
theorem tw700 : (Jvm.Cond.code ({ cls := "RoadTraceModel", name := "nearest", desc := "(III)I" } : Jvm.MethodName) prog_7_method_23_code (6 : Nat) (Option.some Jvm.ClassFile.FieldType.int)) ∈ gw_tbl := mg (i := 747) (by decide +kernel) (by decide +kernel)
theorem tw701 : (Jvm.Cond.methodLink "RoadTraceModel" (134 : Nat) ({ cls := "RoadTraceModel", name := "goOn", desc := "(II)Z" } : Jvm.MethodName)) ∈ gw_tbl := mg (i := 748) (by decide +kernel) (by decide +kernel)
theorem tw703 : (Jvm.Cond.instanceMethod ({ cls := "RoadTraceModel", name := "goOn", desc := "(II)Z" } : Jvm.MethodName)) ∈ gw_tbl := mg (i := 750) (by decide +kernel) (by decide +kernel)
theorem tw704 : (Jvm.Cond.code ({ cls := "RoadTraceModel", name := "goOn", desc := "(II)Z" } : Jvm.MethodName) prog_7_method_25_code (9 : Nat) (Option.some Jvm.ClassFile.FieldType.boolean)) ∈ gw_tbl := mg (i := 751) (by decide +kernel) (by decide +kernel)
theorem tw705 : (Jvm.Cond.methodLink "RoadTraceModel" (138 : Nat) ({ cls := "RoadTraceModel", name := "begin", desc := "(I)V" } : Jvm.MethodName)) ∈ gw_tbl := mg (i := 752) (by decide +kernel) (by decide +kernel)
theorem tw707 : (Jvm.Cond.instanceMethod ({ cls := "RoadTraceModel", name := "begin", desc := "(I)V" } : Jvm.MethodName)) ∈ gw_tbl := mg (i := 754) (by decide +kernel) (by decide +kernel)
theorem tw708 : (Jvm.Cond.code ({ cls := "RoadTraceModel", name := "begin", desc := "(I)V" } : Jvm.MethodName) prog_7_method_26_code (3 : Nat) (Option.none : Option Jvm.ClassFile.FieldType)) ∈ gw_tbl := mg (i := 755) (by decide +kernel) (by decide +kernel)
theorem tw709 : (Jvm.Cond.methodLink "RoadTraceModel" (141 : Nat) ({ cls := "RoadTraceModel", name := "next", desc := "(I)I" } : Jvm.MethodName)) ∈ gw_tbl := mg (i := 756) (by decide +kernel) (by decide +kernel)
theorem tw711 : (Jvm.Cond.instanceMethod ({ cls := "RoadTraceModel", name := "next", desc := "(I)I" } : Jvm.MethodName)) ∈ gw_tbl := mg (i := 758) (by decide +kernel) (by decide +kernel)
theorem tw712 : (Jvm.Cond.code ({ cls := "RoadTraceModel", name := "next", desc := "(I)I" } : Jvm.MethodName) prog_7_method_28_code (3 : Nat) (Option.some Jvm.ClassFile.FieldType.int)) ∈ gw_tbl := mg (i := 759) (by decide +kernel) (by decide +kernel)
theorem tw713 : (Jvm.Cond.methodLink "RoadTraceModel" (144 : Nat) ({ cls := "RoadTraceModel", name := "leastAt", desc := "(I)I" } : Jvm.MethodName)) ∈ gw_tbl := mg (i := 760) (by decide +kernel) (by decide +kernel)
theorem tw715 : (Jvm.Cond.instanceMethod ({ cls := "RoadTraceModel", name := "leastAt", desc := "(I)I" } : Jvm.MethodName)) ∈ gw_tbl := mg (i := 762) (by decide +kernel) (by decide +kernel)
theorem tw716 : (Jvm.Cond.code ({ cls := "RoadTraceModel", name := "leastAt", desc := "(I)I" } : Jvm.MethodName) prog_7_method_29_code (5 : Nat) (Option.some Jvm.ClassFile.FieldType.int)) ∈ gw_tbl := mg (i := 763) (by decide +kernel) (by decide +kernel)
theorem tw717 : (Jvm.Cond.methodLink "RoadTraceLaw" (56 : Nat) ({ cls := "RoadTraceModel", name := "best", desc := "(I)I" } : Jvm.MethodName)) ∈ gw_tbl := mg (i := 764) (by decide +kernel) (by decide +kernel)
theorem tw718 : (Jvm.Cond.instanceMethod ({ cls := "RoadTraceModel", name := "best", desc := "(I)I" } : Jvm.MethodName)) ∈ gw_tbl := mg (i := 765) (by decide +kernel) (by decide +kernel)
theorem tw719 : (Jvm.Cond.selects "RoadTraceModel" ({ cls := "RoadTraceModel", name := "best", desc := "(I)I" } : Jvm.MethodName) ({ cls := "RoadTraceModel", name := "best", desc := "(I)I" } : Jvm.MethodName)) ∈ gw_tbl := mg (i := 766) (by decide +kernel) (by decide +kernel)
theorem tw720 : (Jvm.Cond.code ({ cls := "RoadTraceModel", name := "best", desc := "(I)I" } : Jvm.MethodName) prog_7_method_32_code (2 : Nat) (Option.some Jvm.ClassFile.FieldType.int)) ∈ gw_tbl := mg (i := 767) (by decide +kernel) (by decide +kernel)
theorem tw721 : (Jvm.Cond.methodLink "RoadTraceLaw" (60 : Nat) ({ cls := "RoadTraceModel", name := "decided", desc := "(I)I" } : Jvm.MethodName)) ∈ gw_tbl := mg (i := 768) (by decide +kernel) (by decide +kernel)
theorem tw722 : (Jvm.Cond.instanceMethod ({ cls := "RoadTraceModel", name := "decided", desc := "(I)I" } : Jvm.MethodName)) ∈ gw_tbl := mg (i := 769) (by decide +kernel) (by decide +kernel)
theorem tw723 : (Jvm.Cond.selects "RoadTraceModel" ({ cls := "RoadTraceModel", name := "decided", desc := "(I)I" } : Jvm.MethodName) ({ cls := "RoadTraceModel", name := "decided", desc := "(I)I" } : Jvm.MethodName)) ∈ gw_tbl := mg (i := 770) (by decide +kernel) (by decide +kernel)
theorem tw724 : (Jvm.Cond.code ({ cls := "RoadTraceModel", name := "decided", desc := "(I)I" } : Jvm.MethodName) prog_7_method_35_code (2 : Nat) (Option.some Jvm.ClassFile.FieldType.int)) ∈ gw_tbl := mg (i := 771) (by decide +kernel) (by decide +kernel)
theorem tw725 : (Jvm.Cond.methodLink "RoadTraceModel" (156 : Nat) ({ cls := "RoadTraceModel", name := "isDecided", desc := "(I)Z" } : Jvm.MethodName)) ∈ gw_tbl := mg (i := 772) (by decide +kernel) (by decide +kernel)
theorem tw727 : (Jvm.Cond.instanceMethod ({ cls := "RoadTraceModel", name := "isDecided", desc := "(I)Z" } : Jvm.MethodName)) ∈ gw_tbl := mg (i := 774) (by decide +kernel) (by decide +kernel)
theorem tw728 : (Jvm.Cond.code ({ cls := "RoadTraceModel", name := "isDecided", desc := "(I)Z" } : Jvm.MethodName) prog_7_method_34_code (6 : Nat) (Option.some Jvm.ClassFile.FieldType.boolean)) ∈ gw_tbl := mg (i := 775) (by decide +kernel) (by decide +kernel)
theorem tw729 : (Jvm.Cond.methodLink "RoadTraceModel" (153 : Nat) ({ cls := "RoadTraceModel", name := "origin", desc := "(III)I" } : Jvm.MethodName)) ∈ gw_tbl := mg (i := 776) (by decide +kernel) (by decide +kernel)
theorem tw731 : (Jvm.Cond.instanceMethod ({ cls := "RoadTraceModel", name := "origin", desc := "(III)I" } : Jvm.MethodName)) ∈ gw_tbl := mg (i := 778) (by decide +kernel) (by decide +kernel)
theorem tw732 : (Jvm.Cond.code ({ cls := "RoadTraceModel", name := "origin", desc := "(III)I" } : Jvm.MethodName) prog_7_method_33_code (6 : Nat) (Option.some Jvm.ClassFile.FieldType.int)) ∈ gw_tbl := mg (i := 779) (by decide +kernel) (by decide +kernel)
theorem tw733 : (Jvm.Cond.methodLink "RoadTraceLaw" (64 : Nat) ({ cls := "RoadTraceModel", name := "piece", desc := "(I)I" } : Jvm.MethodName)) ∈ gw_tbl := mg (i := 780) (by decide +kernel) (by decide +kernel)
theorem tw734 : (Jvm.Cond.instanceMethod ({ cls := "RoadTraceModel", name := "piece", desc := "(I)I" } : Jvm.MethodName)) ∈ gw_tbl := mg (i := 781) (by decide +kernel) (by decide +kernel)
theorem tw735 : (Jvm.Cond.selects "RoadTraceModel" ({ cls := "RoadTraceModel", name := "piece", desc := "(I)I" } : Jvm.MethodName) ({ cls := "RoadTraceModel", name := "piece", desc := "(I)I" } : Jvm.MethodName)) ∈ gw_tbl := mg (i := 782) (by decide +kernel) (by decide +kernel)
theorem tw736 : (Jvm.Cond.code ({ cls := "RoadTraceModel", name := "piece", desc := "(I)I" } : Jvm.MethodName) prog_7_method_36_code (2 : Nat) (Option.some Jvm.ClassFile.FieldType.int)) ∈ gw_tbl := mg (i := 783) (by decide +kernel) (by decide +kernel)
theorem tw737 : (Jvm.Cond.methodLink "RoadTraceLaw" (68 : Nat) ({ cls := "RoadTraceModel", name := "step", desc := "(I)I" } : Jvm.MethodName)) ∈ gw_tbl := mg (i := 784) (by decide +kernel) (by decide +kernel)
theorem tw738 : (Jvm.Cond.instanceMethod ({ cls := "RoadTraceModel", name := "step", desc := "(I)I" } : Jvm.MethodName)) ∈ gw_tbl := mg (i := 785) (by decide +kernel) (by decide +kernel)
theorem tw739 : (Jvm.Cond.selects "RoadTraceModel" ({ cls := "RoadTraceModel", name := "step", desc := "(I)I" } : Jvm.MethodName) ({ cls := "RoadTraceModel", name := "step", desc := "(I)I" } : Jvm.MethodName)) ∈ gw_tbl := mg (i := 786) (by decide +kernel) (by decide +kernel)
theorem tw740 : (Jvm.Cond.code ({ cls := "RoadTraceModel", name := "step", desc := "(I)I" } : Jvm.MethodName) prog_7_method_38_code (2 : Nat) (Option.some Jvm.ClassFile.FieldType.int)) ∈ gw_tbl := mg (i := 787) (by decide +kernel) (by decide +kernel)
theorem tw741 : (Jvm.Cond.methodLink "RoadTraceModel" (159 : Nat) ({ cls := "RoadTraceModel", name := "stepOf", desc := "(I)I" } : Jvm.MethodName)) ∈ gw_tbl := mg (i := 788) (by decide +kernel) (by decide +kernel)
theorem tw743 : (Jvm.Cond.instanceMethod ({ cls := "RoadTraceModel", name := "stepOf", desc := "(I)I" } : Jvm.MethodName)) ∈ gw_tbl := mg (i := 790) (by decide +kernel) (by decide +kernel)
theorem tw744 : (Jvm.Cond.code ({ cls := "RoadTraceModel", name := "stepOf", desc := "(I)I" } : Jvm.MethodName) prog_7_method_37_code (2 : Nat) (Option.some Jvm.ClassFile.FieldType.int)) ∈ gw_tbl := mg (i := 791) (by decide +kernel) (by decide +kernel)
theorem tw745 : (Jvm.Cond.methodLink "RoadTraceLaw" (72 : Nat) ({ cls := "RoadTraceModel", name := "through", desc := "(II)I" } : Jvm.MethodName)) ∈ gw_tbl := mg (i := 792) (by decide +kernel) (by decide +kernel)
theorem tw746 : (Jvm.Cond.instanceMethod ({ cls := "RoadTraceModel", name := "through", desc := "(II)I" } : Jvm.MethodName)) ∈ gw_tbl := mg (i := 793) (by decide +kernel) (by decide +kernel)
theorem tw747 : (Jvm.Cond.selects "RoadTraceModel" ({ cls := "RoadTraceModel", name := "through", desc := "(II)I" } : Jvm.MethodName) ({ cls := "RoadTraceModel", name := "through", desc := "(II)I" } : Jvm.MethodName)) ∈ gw_tbl := mg (i := 794) (by decide +kernel) (by decide +kernel)
theorem tw748 : (Jvm.Cond.code ({ cls := "RoadTraceModel", name := "through", desc := "(II)I" } : Jvm.MethodName) prog_7_method_40_code (9 : Nat) (Option.some Jvm.ClassFile.FieldType.int)) ∈ gw_tbl := mg (i := 795) (by decide +kernel) (by decide +kernel)
theorem tw749 : (Jvm.Cond.methodLink "RoadTraceModel" (162 : Nat) ({ cls := "RoadTraceModel", name := "onward", desc := "(II)I" } : Jvm.MethodName)) ∈ gw_tbl := mg (i := 796) (by decide +kernel) (by decide +kernel)
theorem tw751 : (Jvm.Cond.instanceMethod ({ cls := "RoadTraceModel", name := "onward", desc := "(II)I" } : Jvm.MethodName)) ∈ gw_tbl := mg (i := 798) (by decide +kernel) (by decide +kernel)
theorem tw752 : (Jvm.Cond.code ({ cls := "RoadTraceModel", name := "onward", desc := "(II)I" } : Jvm.MethodName) prog_7_method_39_code (6 : Nat) (Option.some Jvm.ClassFile.FieldType.int)) ∈ gw_tbl := mg (i := 799) (by decide +kernel) (by decide +kernel)
theorem tw753 : (Jvm.Cond.methodLink "RoadTraceLaw" (76 : Nat) ({ cls := "RoadTraceModel", name := "total", desc := "(I)I" } : Jvm.MethodName)) ∈ gw_tbl := mg (i := 800) (by decide +kernel) (by decide +kernel)
theorem tw754 : (Jvm.Cond.instanceMethod ({ cls := "RoadTraceModel", name := "total", desc := "(I)I" } : Jvm.MethodName)) ∈ gw_tbl := mg (i := 801) (by decide +kernel) (by decide +kernel)
theorem tw755 : (Jvm.Cond.selects "RoadTraceModel" ({ cls := "RoadTraceModel", name := "total", desc := "(I)I" } : Jvm.MethodName) ({ cls := "RoadTraceModel", name := "total", desc := "(I)I" } : Jvm.MethodName)) ∈ gw_tbl := mg (i := 802) (by decide +kernel) (by decide +kernel)
theorem tw756 : (Jvm.Cond.code ({ cls := "RoadTraceModel", name := "total", desc := "(I)I" } : Jvm.MethodName) prog_7_method_41_code (4 : Nat) (Option.some Jvm.ClassFile.FieldType.int)) ∈ gw_tbl := mg (i := 803) (by decide +kernel) (by decide +kernel)
theorem tw757 : (Jvm.Cond.methodLink "RoadTraceLaw" (80 : Nat) ({ cls := "RoadTraceModel", name := "image", desc := "(I)I" } : Jvm.MethodName)) ∈ gw_tbl := mg (i := 804) (by decide +kernel) (by decide +kernel)
theorem tw758 : (Jvm.Cond.instanceMethod ({ cls := "RoadTraceModel", name := "image", desc := "(I)I" } : Jvm.MethodName)) ∈ gw_tbl := mg (i := 805) (by decide +kernel) (by decide +kernel)
theorem tw759 : (Jvm.Cond.selects "RoadTraceModel" ({ cls := "RoadTraceModel", name := "image", desc := "(I)I" } : Jvm.MethodName) ({ cls := "RoadTraceModel", name := "image", desc := "(I)I" } : Jvm.MethodName)) ∈ gw_tbl := mg (i := 806) (by decide +kernel) (by decide +kernel)
theorem tw760 : (Jvm.Cond.code ({ cls := "RoadTraceModel", name := "image", desc := "(I)I" } : Jvm.MethodName) prog_7_method_42_code (4 : Nat) (Option.some Jvm.ClassFile.FieldType.int)) ∈ gw_tbl := mg (i := 807) (by decide +kernel) (by decide +kernel)
theorem tw761 : (Jvm.Cond.methodLink "RoadTraceLaw" (84 : Nat) ({ cls := "RoadTraceModel", name := "restore", desc := "(I)I" } : Jvm.MethodName)) ∈ gw_tbl := mg (i := 808) (by decide +kernel) (by decide +kernel)
theorem tw762 : (Jvm.Cond.instanceMethod ({ cls := "RoadTraceModel", name := "restore", desc := "(I)I" } : Jvm.MethodName)) ∈ gw_tbl := mg (i := 809) (by decide +kernel) (by decide +kernel)
theorem tw763 : (Jvm.Cond.selects "RoadTraceModel" ({ cls := "RoadTraceModel", name := "restore", desc := "(I)I" } : Jvm.MethodName) ({ cls := "RoadTraceModel", name := "restore", desc := "(I)I" } : Jvm.MethodName)) ∈ gw_tbl := mg (i := 810) (by decide +kernel) (by decide +kernel)
theorem tw764 : (Jvm.Cond.code ({ cls := "RoadTraceModel", name := "restore", desc := "(I)I" } : Jvm.MethodName) prog_7_method_43_code (4 : Nat) (Option.some Jvm.ClassFile.FieldType.int)) ∈ gw_tbl := mg (i := 811) (by decide +kernel) (by decide +kernel)
theorem tw765 : (Jvm.Cond.methodLink "RoadTraceLaw" (88 : Nat) ({ cls := "RoadTraceModel", name := "told", desc := "(I)I" } : Jvm.MethodName)) ∈ gw_tbl := mg (i := 812) (by decide +kernel) (by decide +kernel)
theorem tw766 : (Jvm.Cond.instanceMethod ({ cls := "RoadTraceModel", name := "told", desc := "(I)I" } : Jvm.MethodName)) ∈ gw_tbl := mg (i := 813) (by decide +kernel) (by decide +kernel)
theorem tw767 : (Jvm.Cond.selects "RoadTraceModel" ({ cls := "RoadTraceModel", name := "told", desc := "(I)I" } : Jvm.MethodName) ({ cls := "RoadTraceModel", name := "told", desc := "(I)I" } : Jvm.MethodName)) ∈ gw_tbl := mg (i := 814) (by decide +kernel) (by decide +kernel)
theorem tw768 : (Jvm.Cond.code ({ cls := "RoadTraceModel", name := "told", desc := "(I)I" } : Jvm.MethodName) prog_7_method_44_code (3 : Nat) (Option.some Jvm.ClassFile.FieldType.int)) ∈ gw_tbl := mg (i := 815) (by decide +kernel) (by decide +kernel)
