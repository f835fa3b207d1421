section
-- ===== PART A: goes FIRST, ahead of the names: the tables' words, and 'selects' of the private methods out of them =====
/-- a private method of a class that the tables say can be made, by its rows of tables_1 -/
def lw_okq (q : MethodName × Nat) : Prop := (q.1.cls ≠ "java/lang/invoke/MethodHandle" ∧ q.1.cls ≠ "java/lang/invoke/VarHandle") ∧ Cond.instantiable q.1.cls q.2 ∈ tables_1 ∧ Cond.privateMethod q.1 ∈ tables_1 ∧ Cond.instanceMethod q.1 ∈ tables_1
theorem lw_p0 : lw_okq (⟨"CircusRoad$Show", "add", "(III)I"⟩, 9) := ⟨⟨by decide +kernel, by decide +kernel⟩, List.mem_of_getElem? (i := 22) (by decide +kernel), List.mem_of_getElem? (i := 304) (by decide +kernel), List.mem_of_getElem? (i := 305) (by decide +kernel)⟩
theorem lw_p1 : lw_okq (⟨"CircusRoad$Show", "setRest", "(II)Z"⟩, 9) := ⟨⟨by decide +kernel, by decide +kernel⟩, List.mem_of_getElem? (i := 22) (by decide +kernel), List.mem_of_getElem? (i := 315) (by decide +kernel), List.mem_of_getElem? (i := 316) (by decide +kernel)⟩
theorem lw_p2 : lw_okq (⟨"CircusRoad$Show", "setBan", "(IIZ)Z"⟩, 9) := ⟨⟨by decide +kernel, by decide +kernel⟩, List.mem_of_getElem? (i := 22) (by decide +kernel), List.mem_of_getElem? (i := 326) (by decide +kernel), List.mem_of_getElem? (i := 327) (by decide +kernel)⟩
theorem lw_p3 : lw_okq (⟨"CircusRoad$Show", "isBanned", "(II)Z"⟩, 9) := ⟨⟨by decide +kernel, by decide +kernel⟩, List.mem_of_getElem? (i := 22) (by decide +kernel), List.mem_of_getElem? (i := 330) (by decide +kernel), List.mem_of_getElem? (i := 331) (by decide +kernel)⟩
theorem lw_p4 : lw_okq (⟨"CircusRoad$Order", "read", "(II)I"⟩, 8) := ⟨⟨by decide +kernel, by decide +kernel⟩, List.mem_of_getElem? (i := 71) (by decide +kernel), List.mem_of_getElem? (i := 341) (by decide +kernel), List.mem_of_getElem? (i := 342) (by decide +kernel)⟩
theorem lw_p5 : lw_okq (⟨"CircusRoad$Order", "put", "(II)I"⟩, 8) := ⟨⟨by decide +kernel, by decide +kernel⟩, List.mem_of_getElem? (i := 71) (by decide +kernel), List.mem_of_getElem? (i := 345) (by decide +kernel), List.mem_of_getElem? (i := 346) (by decide +kernel)⟩
theorem lw_p6 : lw_okq (⟨"CircusRoad$Order", "breakAt", "(II)I"⟩, 8) := ⟨⟨by decide +kernel, by decide +kernel⟩, List.mem_of_getElem? (i := 71) (by decide +kernel), List.mem_of_getElem? (i := 349) (by decide +kernel), List.mem_of_getElem? (i := 350) (by decide +kernel)⟩
theorem lw_p7 : lw_okq (⟨"CircusRoad$Order", "set", "(II)V"⟩, 8) := ⟨⟨by decide +kernel, by decide +kernel⟩, List.mem_of_getElem? (i := 71) (by decide +kernel), List.mem_of_getElem? (i := 355) (by decide +kernel), List.mem_of_getElem? (i := 356) (by decide +kernel)⟩
theorem lw_p8 : lw_okq (⟨"CircusRoad$Show", "isClowns", "(I)Z"⟩, 9) := ⟨⟨by decide +kernel, by decide +kernel⟩, List.mem_of_getElem? (i := 22) (by decide +kernel), List.mem_of_getElem? (i := 359) (by decide +kernel), List.mem_of_getElem? (i := 360) (by decide +kernel)⟩
theorem lw_p9 : lw_okq (⟨"CircusRoad$BestOrder", "refresh", "()V"⟩, 9) := ⟨⟨by decide +kernel, by decide +kernel⟩, List.mem_of_getElem? (i := 109) (by decide +kernel), List.mem_of_getElem? (i := 380) (by decide +kernel), List.mem_of_getElem? (i := 381) (by decide +kernel)⟩
theorem lw_p10 : lw_okq (⟨"CircusRoad$BestOrder", "readLeastChanges", "()V"⟩, 9) := ⟨⟨by decide +kernel, by decide +kernel⟩, List.mem_of_getElem? (i := 109) (by decide +kernel), List.mem_of_getElem? (i := 384) (by decide +kernel), List.mem_of_getElem? (i := 385) (by decide +kernel)⟩
theorem lw_p11 : lw_okq (⟨"CircusRoad$BestOrder", "sortByWorth", "()V"⟩, 9) := ⟨⟨by decide +kernel, by decide +kernel⟩, List.mem_of_getElem? (i := 109) (by decide +kernel), List.mem_of_getElem? (i := 393) (by decide +kernel), List.mem_of_getElem? (i := 394) (by decide +kernel)⟩
theorem lw_p12 : lw_okq (⟨"CircusRoad$BestOrder", "keep", "()V"⟩, 9) := ⟨⟨by decide +kernel, by decide +kernel⟩, List.mem_of_getElem? (i := 109) (by decide +kernel), List.mem_of_getElem? (i := 400) (by decide +kernel), List.mem_of_getElem? (i := 401) (by decide +kernel)⟩
theorem lw_p13 : lw_okq (⟨"CircusRoad$BestOrder", "canWin", "(I)Z"⟩, 9) := ⟨⟨by decide +kernel, by decide +kernel⟩, List.mem_of_getElem? (i := 109) (by decide +kernel), List.mem_of_getElem? (i := 408) (by decide +kernel), List.mem_of_getElem? (i := 409) (by decide +kernel)⟩
theorem lw_p14 : lw_okq (⟨"CircusRoad$BestOrder", "leastGapsBehind", "(I)I"⟩, 9) := ⟨⟨by decide +kernel, by decide +kernel⟩, List.mem_of_getElem? (i := 109) (by decide +kernel), List.mem_of_getElem? (i := 412) (by decide +kernel), List.mem_of_getElem? (i := 413) (by decide +kernel)⟩
theorem lw_p15 : lw_okq (⟨"CircusRoad$BestOrder", "mostWorthBehind", "(I)I"⟩, 9) := ⟨⟨by decide +kernel, by decide +kernel⟩, List.mem_of_getElem? (i := 109) (by decide +kernel), List.mem_of_getElem? (i := 417) (by decide +kernel), List.mem_of_getElem? (i := 418) (by decide +kernel)⟩
def lw_privs_1 : List (MethodName × Nat) := [(⟨"CircusRoad$Show", "add", "(III)I"⟩, 9), (⟨"CircusRoad$Show", "setRest", "(II)Z"⟩, 9), (⟨"CircusRoad$Show", "setBan", "(IIZ)Z"⟩, 9), (⟨"CircusRoad$Show", "isBanned", "(II)Z"⟩, 9), (⟨"CircusRoad$Order", "read", "(II)I"⟩, 8), (⟨"CircusRoad$Order", "put", "(II)I"⟩, 8), (⟨"CircusRoad$Order", "breakAt", "(II)I"⟩, 8), (⟨"CircusRoad$Order", "set", "(II)V"⟩, 8), (⟨"CircusRoad$Show", "isClowns", "(I)Z"⟩, 9), (⟨"CircusRoad$BestOrder", "refresh", "()V"⟩, 9), (⟨"CircusRoad$BestOrder", "readLeastChanges", "()V"⟩, 9), (⟨"CircusRoad$BestOrder", "sortByWorth", "()V"⟩, 9), (⟨"CircusRoad$BestOrder", "keep", "()V"⟩, 9), (⟨"CircusRoad$BestOrder", "canWin", "(I)Z"⟩, 9), (⟨"CircusRoad$BestOrder", "leastGapsBehind", "(I)I"⟩, 9), (⟨"CircusRoad$BestOrder", "mostWorthBehind", "(I)I"⟩, 9)]
theorem lw_r1 : ∀ q ∈ lw_privs_1, lw_okq q := List.forall_mem_cons.mpr ⟨lw_p0, List.forall_mem_cons.mpr ⟨lw_p1, List.forall_mem_cons.mpr ⟨lw_p2, List.forall_mem_cons.mpr ⟨lw_p3, List.forall_mem_cons.mpr ⟨lw_p4, List.forall_mem_cons.mpr ⟨lw_p5, List.forall_mem_cons.mpr ⟨lw_p6, List.forall_mem_cons.mpr ⟨lw_p7, List.forall_mem_cons.mpr ⟨lw_p8, List.forall_mem_cons.mpr ⟨lw_p9, List.forall_mem_cons.mpr ⟨lw_p10, List.forall_mem_cons.mpr ⟨lw_p11, List.forall_mem_cons.mpr ⟨lw_p12, List.forall_mem_cons.mpr ⟨lw_p13, List.forall_mem_cons.mpr ⟨lw_p14, List.forall_mem_cons.mpr ⟨lw_p15, fun _ h => absurd h List.not_mem_nil⟩⟩⟩⟩⟩⟩⟩⟩⟩⟩⟩⟩⟩⟩⟩⟩
theorem lw_p16 : lw_okq (⟨"CircusRoad$Tent", "setLoad", "(II)Z"⟩, 7) := ⟨⟨by decide +kernel, by decide +kernel⟩, List.mem_of_getElem? (i := 148) (by decide +kernel), List.mem_of_getElem? (i := 429) (by decide +kernel), List.mem_of_getElem? (i := 430) (by decide +kernel)⟩
theorem lw_p17 : lw_okq (⟨"CircusRoad$Tent", "setShare", "(III)Z"⟩, 7) := ⟨⟨by decide +kernel, by decide +kernel⟩, List.mem_of_getElem? (i := 148) (by decide +kernel), List.mem_of_getElem? (i := 438) (by decide +kernel), List.mem_of_getElem? (i := 439) (by decide +kernel)⟩
theorem lw_p18 : lw_okq (⟨"CircusRoad$Tent", "sharesBeside", "(II)I"⟩, 7) := ⟨⟨by decide +kernel, by decide +kernel⟩, List.mem_of_getElem? (i := 148) (by decide +kernel), List.mem_of_getElem? (i := 442) (by decide +kernel), List.mem_of_getElem? (i := 443) (by decide +kernel)⟩
theorem lw_p19 : lw_okq (⟨"CircusRoad$Tent", "setExposed", "(II)Z"⟩, 7) := ⟨⟨by decide +kernel, by decide +kernel⟩, List.mem_of_getElem? (i := 148) (by decide +kernel), List.mem_of_getElem? (i := 450) (by decide +kernel), List.mem_of_getElem? (i := 451) (by decide +kernel)⟩
theorem lw_p20 : lw_okq (⟨"CircusRoad$Tent", "settle", "(I)V"⟩, 7) := ⟨⟨by decide +kernel, by decide +kernel⟩, List.mem_of_getElem? (i := 148) (by decide +kernel), List.mem_of_getElem? (i := 462) (by decide +kernel), List.mem_of_getElem? (i := 463) (by decide +kernel)⟩
theorem lw_p21 : lw_okq (⟨"CircusRoad$Tent", "hang", "(I)V"⟩, 7) := ⟨⟨by decide +kernel, by decide +kernel⟩, List.mem_of_getElem? (i := 148) (by decide +kernel), List.mem_of_getElem? (i := 466) (by decide +kernel), List.mem_of_getElem? (i := 467) (by decide +kernel)⟩
theorem lw_p22 : lw_okq (⟨"CircusRoad$Tent", "isUp", "(I)Z"⟩, 7) := ⟨⟨by decide +kernel, by decide +kernel⟩, List.mem_of_getElem? (i := 148) (by decide +kernel), List.mem_of_getElem? (i := 470) (by decide +kernel), List.mem_of_getElem? (i := 471) (by decide +kernel)⟩
theorem lw_p23 : lw_okq (⟨"CircusRoad$Tent", "firstThatPushes", "()I"⟩, 7) := ⟨⟨by decide +kernel, by decide +kernel⟩, List.mem_of_getElem? (i := 148) (by decide +kernel), List.mem_of_getElem? (i := 474) (by decide +kernel), List.mem_of_getElem? (i := 475) (by decide +kernel)⟩
theorem lw_p24 : lw_okq (⟨"CircusRoad$Tent", "slacken", "(I)V"⟩, 7) := ⟨⟨by decide +kernel, by decide +kernel⟩, List.mem_of_getElem? (i := 148) (by decide +kernel), List.mem_of_getElem? (i := 478) (by decide +kernel), List.mem_of_getElem? (i := 479) (by decide +kernel)⟩
theorem lw_p25 : lw_okq (⟨"CircusRoad$Tent", "ropesThatBear", "()I"⟩, 7) := ⟨⟨by decide +kernel, by decide +kernel⟩, List.mem_of_getElem? (i := 148) (by decide +kernel), List.mem_of_getElem? (i := 482) (by decide +kernel), List.mem_of_getElem? (i := 483) (by decide +kernel)⟩
theorem lw_p26 : lw_okq (⟨"CircusRoad$Tent", "spread", "(II)V"⟩, 7) := ⟨⟨by decide +kernel, by decide +kernel⟩, List.mem_of_getElem? (i := 148) (by decide +kernel), List.mem_of_getElem? (i := 486) (by decide +kernel), List.mem_of_getElem? (i := 487) (by decide +kernel)⟩
theorem lw_p27 : lw_okq (⟨"CircusRoad$Road", "add", "(III)I"⟩, 7) := ⟨⟨by decide +kernel, by decide +kernel⟩, List.mem_of_getElem? (i := 180) (by decide +kernel), List.mem_of_getElem? (i := 502) (by decide +kernel), List.mem_of_getElem? (i := 503) (by decide +kernel)⟩
theorem lw_p28 : lw_okq (⟨"CircusRoad$Road", "join", "(III)Z"⟩, 7) := ⟨⟨by decide +kernel, by decide +kernel⟩, List.mem_of_getElem? (i := 180) (by decide +kernel), List.mem_of_getElem? (i := 511) (by decide +kernel), List.mem_of_getElem? (i := 512) (by decide +kernel)⟩
theorem lw_p29 : lw_okq (⟨"CircusRoad$Road", "has", "(I)Z"⟩, 7) := ⟨⟨by decide +kernel, by decide +kernel⟩, List.mem_of_getElem? (i := 180) (by decide +kernel), List.mem_of_getElem? (i := 515) (by decide +kernel), List.mem_of_getElem? (i := 516) (by decide +kernel)⟩
theorem lw_p30 : lw_okq (⟨"CircusRoad$Road", "measure", "()V"⟩, 7) := ⟨⟨by decide +kernel, by decide +kernel⟩, List.mem_of_getElem? (i := 180) (by decide +kernel), List.mem_of_getElem? (i := 519) (by decide +kernel), List.mem_of_getElem? (i := 520) (by decide +kernel)⟩
theorem lw_p31 : lw_okq (⟨"CircusRoad$Road", "goBy", "(III)V"⟩, 7) := ⟨⟨by decide +kernel, by decide +kernel⟩, List.mem_of_getElem? (i := 180) (by decide +kernel), List.mem_of_getElem? (i := 524) (by decide +kernel), List.mem_of_getElem? (i := 525) (by decide +kernel)⟩
def lw_privs_2 : List (MethodName × Nat) := [(⟨"CircusRoad$Tent", "setLoad", "(II)Z"⟩, 7), (⟨"CircusRoad$Tent", "setShare", "(III)Z"⟩, 7), (⟨"CircusRoad$Tent", "sharesBeside", "(II)I"⟩, 7), (⟨"CircusRoad$Tent", "setExposed", "(II)Z"⟩, 7), (⟨"CircusRoad$Tent", "settle", "(I)V"⟩, 7), (⟨"CircusRoad$Tent", "hang", "(I)V"⟩, 7), (⟨"CircusRoad$Tent", "isUp", "(I)Z"⟩, 7), (⟨"CircusRoad$Tent", "firstThatPushes", "()I"⟩, 7), (⟨"CircusRoad$Tent", "slacken", "(I)V"⟩, 7), (⟨"CircusRoad$Tent", "ropesThatBear", "()I"⟩, 7), (⟨"CircusRoad$Tent", "spread", "(II)V"⟩, 7), (⟨"CircusRoad$Road", "add", "(III)I"⟩, 7), (⟨"CircusRoad$Road", "join", "(III)Z"⟩, 7), (⟨"CircusRoad$Road", "has", "(I)Z"⟩, 7), (⟨"CircusRoad$Road", "measure", "()V"⟩, 7), (⟨"CircusRoad$Road", "goBy", "(III)V"⟩, 7)]
theorem lw_r2 : ∀ q ∈ lw_privs_2, lw_okq q := List.forall_mem_cons.mpr ⟨lw_p16, List.forall_mem_cons.mpr ⟨lw_p17, List.forall_mem_cons.mpr ⟨lw_p18, List.forall_mem_cons.mpr ⟨lw_p19, List.forall_mem_cons.mpr ⟨lw_p20, List.forall_mem_cons.mpr ⟨lw_p21, List.forall_mem_cons.mpr ⟨lw_p22, List.forall_mem_cons.mpr ⟨lw_p23, List.forall_mem_cons.mpr ⟨lw_p24, List.forall_mem_cons.mpr ⟨lw_p25, List.forall_mem_cons.mpr ⟨lw_p26, List.forall_mem_cons.mpr ⟨lw_p27, List.forall_mem_cons.mpr ⟨lw_p28, List.forall_mem_cons.mpr ⟨lw_p29, List.forall_mem_cons.mpr ⟨lw_p30, List.forall_mem_cons.mpr ⟨lw_p31, fun _ h => absurd h List.not_mem_nil⟩⟩⟩⟩⟩⟩⟩⟩⟩⟩⟩⟩⟩⟩⟩⟩
theorem lw_p32 : lw_okq (⟨"CircusRoad$Road", "leastHours", "(II)I"⟩, 7) := ⟨⟨by decide +kernel, by decide +kernel⟩, List.mem_of_getElem? (i := 180) (by decide +kernel), List.mem_of_getElem? (i := 533) (by decide +kernel), List.mem_of_getElem? (i := 534) (by decide +kernel)⟩
theorem lw_p33 : lw_okq (⟨"CircusRoad$BestRoute", "refresh", "()V"⟩, 10) := ⟨⟨by decide +kernel, by decide +kernel⟩, List.mem_of_getElem? (i := 213) (by decide +kernel), List.mem_of_getElem? (i := 541) (by decide +kernel), List.mem_of_getElem? (i := 542) (by decide +kernel)⟩
theorem lw_p34 : lw_okq (⟨"CircusRoad$BestRoute", "keepIfBetter", "(I)V"⟩, 10) := ⟨⟨by decide +kernel, by decide +kernel⟩, List.mem_of_getElem? (i := 213) (by decide +kernel), List.mem_of_getElem? (i := 548) (by decide +kernel), List.mem_of_getElem? (i := 549) (by decide +kernel)⟩
theorem lw_p35 : lw_okq (⟨"CircusRoad$BestRoute", "isBetter", "(II)Z"⟩, 10) := ⟨⟨by decide +kernel, by decide +kernel⟩, List.mem_of_getElem? (i := 213) (by decide +kernel), List.mem_of_getElem? (i := 552) (by decide +kernel), List.mem_of_getElem? (i := 553) (by decide +kernel)⟩
theorem lw_p36 : lw_okq (⟨"CircusRoad$BestRoute", "put", "(II)Z"⟩, 10) := ⟨⟨by decide +kernel, by decide +kernel⟩, List.mem_of_getElem? (i := 213) (by decide +kernel), List.mem_of_getElem? (i := 557) (by decide +kernel), List.mem_of_getElem? (i := 558) (by decide +kernel)⟩
theorem lw_p37 : lw_okq (⟨"CircusRoad$BestRoute", "nightAt", "(II)I"⟩, 10) := ⟨⟨by decide +kernel, by decide +kernel⟩, List.mem_of_getElem? (i := 213) (by decide +kernel), List.mem_of_getElem? (i := 561) (by decide +kernel), List.mem_of_getElem? (i := 562) (by decide +kernel)⟩
theorem lw_p38 : lw_okq (⟨"CircusRoad$Road", "nightBehind", "(III)I"⟩, 7) := ⟨⟨by decide +kernel, by decide +kernel⟩, List.mem_of_getElem? (i := 180) (by decide +kernel), List.mem_of_getElem? (i := 565) (by decide +kernel), List.mem_of_getElem? (i := 566) (by decide +kernel)⟩
theorem lw_p39 : lw_okq (⟨"CircusRoad$BestRoute", "canWin", "(I)Z"⟩, 10) := ⟨⟨by decide +kernel, by decide +kernel⟩, List.mem_of_getElem? (i := 213) (by decide +kernel), List.mem_of_getElem? (i := 571) (by decide +kernel), List.mem_of_getElem? (i := 572) (by decide +kernel)⟩
theorem lw_p40 : lw_okq (⟨"CircusRoad$Till", "add", "(III)I"⟩, 5) := ⟨⟨by decide +kernel, by decide +kernel⟩, List.mem_of_getElem? (i := 253) (by decide +kernel), List.mem_of_getElem? (i := 583) (by decide +kernel), List.mem_of_getElem? (i := 584) (by decide +kernel)⟩
theorem lw_p41 : lw_okq (⟨"CircusRoad$Till", "foretell", "(II)V"⟩, 5) := ⟨⟨by decide +kernel, by decide +kernel⟩, List.mem_of_getElem? (i := 253) (by decide +kernel), List.mem_of_getElem? (i := 593) (by decide +kernel), List.mem_of_getElem? (i := 594) (by decide +kernel)⟩
theorem lw_p42 : lw_okq (⟨"CircusRoad$Till", "gather", "(IIII)V"⟩, 5) := ⟨⟨by decide +kernel, by decide +kernel⟩, List.mem_of_getElem? (i := 253) (by decide +kernel), List.mem_of_getElem? (i := 597) (by decide +kernel), List.mem_of_getElem? (i := 598) (by decide +kernel)⟩
theorem lw_p43 : lw_okq (⟨"CircusRoad$Till", "reduce", "()V"⟩, 5) := ⟨⟨by decide +kernel, by decide +kernel⟩, List.mem_of_getElem? (i := 253) (by decide +kernel), List.mem_of_getElem? (i := 601) (by decide +kernel), List.mem_of_getElem? (i := 602) (by decide +kernel)⟩
theorem lw_p44 : lw_okq (⟨"CircusRoad$Tent", "ropesUp", "()I"⟩, 7) := ⟨⟨by decide +kernel, by decide +kernel⟩, List.mem_of_getElem? (i := 148) (by decide +kernel), List.mem_of_getElem? (i := 613) (by decide +kernel), List.mem_of_getElem? (i := 614) (by decide +kernel)⟩
theorem lw_p45 : lw_okq (⟨"CircusRoadModel", "reads", "(II)Z"⟩, 30) := ⟨⟨by decide +kernel, by decide +kernel⟩, List.mem_of_getElem? (i := 617) (by decide +kernel), List.mem_of_getElem? (i := 733) (by decide +kernel), List.mem_of_getElem? (i := 734) (by decide +kernel)⟩
theorem lw_p46 : lw_okq (⟨"CircusRoadModel", "breaksAt", "(I)I"⟩, 30) := ⟨⟨by decide +kernel, by decide +kernel⟩, List.mem_of_getElem? (i := 617) (by decide +kernel), List.mem_of_getElem? (i := 737) (by decide +kernel), List.mem_of_getElem? (i := 738) (by decide +kernel)⟩
theorem lw_p47 : lw_okq (⟨"CircusRoadModel", "gapsOf", "(I)I"⟩, 30) := ⟨⟨by decide +kernel, by decide +kernel⟩, List.mem_of_getElem? (i := 617) (by decide +kernel), List.mem_of_getElem? (i := 746) (by decide +kernel), List.mem_of_getElem? (i := 747) (by decide +kernel)⟩
def lw_privs_3 : List (MethodName × Nat) := [(⟨"CircusRoad$Road", "leastHours", "(II)I"⟩, 7), (⟨"CircusRoad$BestRoute", "refresh", "()V"⟩, 10), (⟨"CircusRoad$BestRoute", "keepIfBetter", "(I)V"⟩, 10), (⟨"CircusRoad$BestRoute", "isBetter", "(II)Z"⟩, 10), (⟨"CircusRoad$BestRoute", "put", "(II)Z"⟩, 10), (⟨"CircusRoad$BestRoute", "nightAt", "(II)I"⟩, 10), (⟨"CircusRoad$Road", "nightBehind", "(III)I"⟩, 7), (⟨"CircusRoad$BestRoute", "canWin", "(I)Z"⟩, 10), (⟨"CircusRoad$Till", "add", "(III)I"⟩, 5), (⟨"CircusRoad$Till", "foretell", "(II)V"⟩, 5), (⟨"CircusRoad$Till", "gather", "(IIII)V"⟩, 5), (⟨"CircusRoad$Till", "reduce", "()V"⟩, 5), (⟨"CircusRoad$Tent", "ropesUp", "()I"⟩, 7), (⟨"CircusRoadModel", "reads", "(II)Z"⟩, 30), (⟨"CircusRoadModel", "breaksAt", "(I)I"⟩, 30), (⟨"CircusRoadModel", "gapsOf", "(I)I"⟩, 30)]
theorem lw_r3 : ∀ q ∈ lw_privs_3, lw_okq q := List.forall_mem_cons.mpr ⟨lw_p32, List.forall_mem_cons.mpr ⟨lw_p33, List.forall_mem_cons.mpr ⟨lw_p34, List.forall_mem_cons.mpr ⟨lw_p35, List.forall_mem_cons.mpr ⟨lw_p36, List.forall_mem_cons.mpr ⟨lw_p37, List.forall_mem_cons.mpr ⟨lw_p38, List.forall_mem_cons.mpr ⟨lw_p39, List.forall_mem_cons.mpr ⟨lw_p40, List.forall_mem_cons.mpr ⟨lw_p41, List.forall_mem_cons.mpr ⟨lw_p42, List.forall_mem_cons.mpr ⟨lw_p43, List.forall_mem_cons.mpr ⟨lw_p44, List.forall_mem_cons.mpr ⟨lw_p45, List.forall_mem_cons.mpr ⟨lw_p46, List.forall_mem_cons.mpr ⟨lw_p47, fun _ h => absurd h List.not_mem_nil⟩⟩⟩⟩⟩⟩⟩⟩⟩⟩⟩⟩⟩⟩⟩⟩
theorem lw_p48 : lw_okq (⟨"CircusRoadModel", "seeks", "()Z"⟩, 30) := ⟨⟨by decide +kernel, by decide +kernel⟩, List.mem_of_getElem? (i := 617) (by decide +kernel), List.mem_of_getElem? (i := 757) (by decide +kernel), List.mem_of_getElem? (i := 758) (by decide +kernel)⟩
theorem lw_p49 : lw_okq (⟨"CircusRoadModel", "hangs", "(I)V"⟩, 30) := ⟨⟨by decide +kernel, by decide +kernel⟩, List.mem_of_getElem? (i := 617) (by decide +kernel), List.mem_of_getElem? (i := 784) (by decide +kernel), List.mem_of_getElem? (i := 785) (by decide +kernel)⟩
theorem lw_p50 : lw_okq (⟨"CircusRoadModel", "isUp", "(I)Z"⟩, 30) := ⟨⟨by decide +kernel, by decide +kernel⟩, List.mem_of_getElem? (i := 617) (by decide +kernel), List.mem_of_getElem? (i := 788) (by decide +kernel), List.mem_of_getElem? (i := 789) (by decide +kernel)⟩
theorem lw_p51 : lw_okq (⟨"CircusRoadModel", "slackens", "(I)V"⟩, 30) := ⟨⟨by decide +kernel, by decide +kernel⟩, List.mem_of_getElem? (i := 617) (by decide +kernel), List.mem_of_getElem? (i := 792) (by decide +kernel), List.mem_of_getElem? (i := 793) (by decide +kernel)⟩
theorem lw_p52 : lw_okq (⟨"CircusRoadModel", "isTown", "(I)Z"⟩, 30) := ⟨⟨by decide +kernel, by decide +kernel⟩, List.mem_of_getElem? (i := 617) (by decide +kernel), List.mem_of_getElem? (i := 812) (by decide +kernel), List.mem_of_getElem? (i := 813) (by decide +kernel)⟩
theorem lw_p53 : lw_okq (⟨"CircusRoadModel", "reckons", "()V"⟩, 30) := ⟨⟨by decide +kernel, by decide +kernel⟩, List.mem_of_getElem? (i := 617) (by decide +kernel), List.mem_of_getElem? (i := 820) (by decide +kernel), List.mem_of_getElem? (i := 821) (by decide +kernel)⟩
theorem lw_p54 : lw_okq (⟨"CircusRoadModel", "goes", "()I"⟩, 30) := ⟨⟨by decide +kernel, by decide +kernel⟩, List.mem_of_getElem? (i := 617) (by decide +kernel), List.mem_of_getElem? (i := 829) (by decide +kernel), List.mem_of_getElem? (i := 830) (by decide +kernel)⟩
theorem lw_p55 : lw_okq (⟨"CircusRoadModel", "nightOf", "(II)I"⟩, 30) := ⟨⟨by decide +kernel, by decide +kernel⟩, List.mem_of_getElem? (i := 617) (by decide +kernel), List.mem_of_getElem? (i := 833) (by decide +kernel), List.mem_of_getElem? (i := 834) (by decide +kernel)⟩
def lw_privs_4 : List (MethodName × Nat) := [(⟨"CircusRoadModel", "seeks", "()Z"⟩, 30), (⟨"CircusRoadModel", "hangs", "(I)V"⟩, 30), (⟨"CircusRoadModel", "isUp", "(I)Z"⟩, 30), (⟨"CircusRoadModel", "slackens", "(I)V"⟩, 30), (⟨"CircusRoadModel", "isTown", "(I)Z"⟩, 30), (⟨"CircusRoadModel", "reckons", "()V"⟩, 30), (⟨"CircusRoadModel", "goes", "()I"⟩, 30), (⟨"CircusRoadModel", "nightOf", "(II)I"⟩, 30)]
theorem lw_r4 : ∀ q ∈ lw_privs_4, lw_okq q := List.forall_mem_cons.mpr ⟨lw_p48, List.forall_mem_cons.mpr ⟨lw_p49, List.forall_mem_cons.mpr ⟨lw_p50, List.forall_mem_cons.mpr ⟨lw_p51, List.forall_mem_cons.mpr ⟨lw_p52, List.forall_mem_cons.mpr ⟨lw_p53, List.forall_mem_cons.mpr ⟨lw_p54, List.forall_mem_cons.mpr ⟨lw_p55, fun _ h => absurd h List.not_mem_nil⟩⟩⟩⟩⟩⟩⟩⟩
def lw_privs : List (MethodName × Nat) := lw_privs_1 ++ (lw_privs_2 ++ (lw_privs_3 ++ (lw_privs_4)))
def lw_tbl : List Cond := k2_sels lw_privs ++ tables_1
theorem lw_privs_ok : ∀ q ∈ lw_privs, lw_okq q := by
  show ∀ q ∈ lw_privs_1 ++ (lw_privs_2 ++ (lw_privs_3 ++ (lw_privs_4))), lw_okq q
  exact List.forall_mem_append.mpr ⟨lw_r1, List.forall_mem_append.mpr ⟨lw_r2, List.forall_mem_append.mpr ⟨lw_r3, lw_r4⟩⟩⟩

def RX0 : String := "CircusRoad$BestOrder"
def TX0 : u_T := fun k => match k with
  | 0 => ("CircusRoad$BestOrder", "show", "LCircusRoad$Show;", true)
  | 1 => ("CircusRoad$BestOrder", "row", "LCircusRoad$Order;", true)
  | 2 => ("CircusRoad$BestOrder", "seen", "I", false)
  | 3 => ("CircusRoad$BestOrder", "found", "Z", false)
  | 4 => ("CircusRoad$BestOrder", "leastGaps", "I", false)
  | 5 => ("CircusRoad$BestOrder", "mostWorth", "I", false)
  | 6 => ("CircusRoad$BestOrder", "acts", "[I", true)
  | 7 => ("CircusRoad$BestOrder", "leastChange", "[I", true)
  | _ => ("CircusRoad$BestOrder", "byWorth", "[I", true)
def tyX0 : Nat → FieldType := fun k => match k with
  | 0 => .object "CircusRoad$Show"
  | 1 => .object "CircusRoad$Order"
  | 2 => .int
  | 3 => .boolean
  | 4 => .int
  | 5 => .int
  | 6 => .array .int
  | 7 => .array .int
  | _ => .array .int
abbrev wsX00 : List Cond := u_ws RX0 TX0 9
theorem nmX0 : ∀ a, a < 9 → ∀ b, b < 9 → a ≠ b → (TX0 a).2.1 ≠ (TX0 b).2.1 := by decide +kernel
theorem tyX0_ok : ∀ k, k < 9 → parseFieldDescriptor (TX0 k).2.2.1 = some (tyX0 k) := by decide +kernel
abbrev cX0_init : ByteArray := prog_2_method_1_code
def yX0_init : MethodName := ⟨RX0, "<init>", "(LCircusRoad$Show;)V"⟩
abbrev cX0_refresh : ByteArray := prog_2_method_2_code
def yX0_refresh : MethodName := ⟨RX0, "refresh", "()V"⟩
abbrev cX0_extend : ByteArray := prog_2_method_3_code
def yX0_extend : MethodName := ⟨RX0, "extend", "(LCircusRoad$BestOrder;I)V"⟩
abbrev cX0_keep : ByteArray := prog_2_method_4_code
def yX0_keep : MethodName := ⟨RX0, "keep", "()V"⟩
abbrev cX0_canWin : ByteArray := prog_2_method_5_code
def yX0_canWin : MethodName := ⟨RX0, "canWin", "(I)Z"⟩
abbrev cX0_leastGapsBehind : ByteArray := prog_2_method_6_code
def yX0_leastGapsBehind : MethodName := ⟨RX0, "leastGapsBehind", "(I)I"⟩
abbrev cX0_mostWorthBehind : ByteArray := prog_2_method_7_code
def yX0_mostWorthBehind : MethodName := ⟨RX0, "mostWorthBehind", "(I)I"⟩
abbrev cX0_readLeastChanges : ByteArray := prog_2_method_8_code
def yX0_readLeastChanges : MethodName := ⟨RX0, "readLeastChanges", "()V"⟩
abbrev cX0_sortByWorth : ByteArray := prog_2_method_9_code
def yX0_sortByWorth : MethodName := ⟨RX0, "sortByWorth", "()V"⟩
def RX1 : String := "CircusRoad$BestRoute"
def TX1 : u_T := fun k => match k with
  | 0 => ("CircusRoad$BestRoute", "road", "LCircusRoad$Road;", true)
  | 1 => ("CircusRoad$BestRoute", "seen", "I", false)
  | 2 => ("CircusRoad$BestRoute", "length", "I", false)
  | 3 => ("CircusRoad$BestRoute", "take", "I", false)
  | 4 => ("CircusRoad$BestRoute", "towns", "[I", true)
  | 5 => ("CircusRoad$BestRoute", "nights", "[I", true)
  | 6 => ("CircusRoad$BestRoute", "row", "[I", true)
  | 7 => ("CircusRoad$BestRoute", "rowNights", "[I", true)
  | 8 => ("CircusRoad$BestRoute", "used", "[I", true)
  | _ => ("CircusRoad$BestRoute", "takeSum", "[I", true)
def tyX1 : Nat → FieldType := fun k => match k with
  | 0 => .object "CircusRoad$Road"
  | 1 => .int
  | 2 => .int
  | 3 => .int
  | 4 => .array .int
  | 5 => .array .int
  | 6 => .array .int
  | 7 => .array .int
  | 8 => .array .int
  | _ => .array .int
abbrev wsX10 : List Cond := u_ws RX1 TX1 10
theorem nmX1 : ∀ a, a < 10 → ∀ b, b < 10 → a ≠ b → (TX1 a).2.1 ≠ (TX1 b).2.1 := by decide +kernel
theorem tyX1_ok : ∀ k, k < 10 → parseFieldDescriptor (TX1 k).2.2.1 = some (tyX1 k) := by decide +kernel
abbrev cX1_init : ByteArray := prog_3_method_1_code
def yX1_init : MethodName := ⟨RX1, "<init>", "(LCircusRoad$Road;)V"⟩
abbrev cX1_refresh : ByteArray := prog_3_method_2_code
def yX1_refresh : MethodName := ⟨RX1, "refresh", "()V"⟩
abbrev cX1_extend : ByteArray := prog_3_method_3_code
def yX1_extend : MethodName := ⟨RX1, "extend", "(LCircusRoad$BestRoute;I)V"⟩
abbrev cX1_put : ByteArray := prog_3_method_4_code
def yX1_put : MethodName := ⟨RX1, "put", "(II)Z"⟩
abbrev cX1_nightAt : ByteArray := prog_3_method_5_code
def yX1_nightAt : MethodName := ⟨RX1, "nightAt", "(II)I"⟩
abbrev cX1_keepIfBetter : ByteArray := prog_3_method_6_code
def yX1_keepIfBetter : MethodName := ⟨RX1, "keepIfBetter", "(I)V"⟩
abbrev cX1_isBetter : ByteArray := prog_3_method_7_code
def yX1_isBetter : MethodName := ⟨RX1, "isBetter", "(II)Z"⟩
abbrev cX1_canWin : ByteArray := prog_3_method_8_code
def yX1_canWin : MethodName := ⟨RX1, "canWin", "(I)Z"⟩
def RX2 : String := "CircusRoad$Order"
def TX2 : u_T := fun k => match k with
  | 0 => ("CircusRoad$Order", "show", "LCircusRoad$Show;", true)
  | 1 => ("CircusRoad$Order", "acts", "[I", true)
  | 2 => ("CircusRoad$Order", "used", "[I", true)
  | 3 => ("CircusRoad$Order", "ring", "[I", true)
  | 4 => ("CircusRoad$Order", "pause", "[I", true)
  | 5 => ("CircusRoad$Order", "gapSum", "[I", true)
  | 6 => ("CircusRoad$Order", "worthSum", "[I", true)
  | _ => ("CircusRoad$Order", "breakPlace", "I", false)
def tyX2 : Nat → FieldType := fun k => match k with
  | 0 => .object "CircusRoad$Show"
  | 1 => .array .int
  | 2 => .array .int
  | 3 => .array .int
  | 4 => .array .int
  | 5 => .array .int
  | 6 => .array .int
  | _ => .int
abbrev wsX20 : List Cond := u_ws RX2 TX2 8
theorem nmX2 : ∀ a, a < 8 → ∀ b, b < 8 → a ≠ b → (TX2 a).2.1 ≠ (TX2 b).2.1 := by decide +kernel
theorem tyX2_ok : ∀ k, k < 8 → parseFieldDescriptor (TX2 k).2.2.1 = some (tyX2 k) := by decide +kernel
abbrev cX2_init : ByteArray := prog_4_method_1_code
def yX2_init : MethodName := ⟨RX2, "<init>", "(LCircusRoad$Show;)V"⟩
abbrev cX2_canBeTold : ByteArray := prog_4_method_2_code
def yX2_canBeTold : MethodName := ⟨RX2, "canBeTold", "(II)Z"⟩
abbrev cX2_read : ByteArray := prog_4_method_3_code
def yX2_read : MethodName := ⟨RX2, "read", "(II)I"⟩
abbrev cX2_put : ByteArray := prog_4_method_4_code
def yX2_put : MethodName := ⟨RX2, "put", "(II)I"⟩
abbrev cX2_breakAt : ByteArray := prog_4_method_5_code
def yX2_breakAt : MethodName := ⟨RX2, "breakAt", "(II)I"⟩
abbrev cX2_set : ByteArray := prog_4_method_6_code
def yX2_set : MethodName := ⟨RX2, "set", "(II)V"⟩
def RX3 : String := "CircusRoad$Road"
def TX3 : u_T := fun k => match k with
  | 0 => ("CircusRoad$Road", "size", "I", false)
  | 1 => ("CircusRoad$Road", "takes", "[I", true)
  | 2 => ("CircusRoad$Road", "firsts", "[I", true)
  | 3 => ("CircusRoad$Road", "lasts", "[I", true)
  | 4 => ("CircusRoad$Road", "ways", "[I", true)
  | 5 => ("CircusRoad$Road", "least", "[I", true)
  | _ => ("CircusRoad$Road", "changes", "I", false)
def tyX3 : Nat → FieldType := fun k => match k with
  | 0 => .int
  | 1 => .array .int
  | 2 => .array .int
  | 3 => .array .int
  | 4 => .array .int
  | 5 => .array .int
  | _ => .int
abbrev wsX30 : List Cond := u_ws RX3 TX3 7
theorem nmX3 : ∀ a, a < 7 → ∀ b, b < 7 → a ≠ b → (TX3 a).2.1 ≠ (TX3 b).2.1 := by decide +kernel
theorem tyX3_ok : ∀ k, k < 7 → parseFieldDescriptor (TX3 k).2.2.1 = some (tyX3 k) := by decide +kernel
abbrev cX3_init : ByteArray := prog_5_method_1_code
def yX3_init : MethodName := ⟨RX3, "<init>", "()V"⟩
abbrev cX3_has : ByteArray := prog_5_method_2_code
def yX3_has : MethodName := ⟨RX3, "has", "(I)Z"⟩
abbrev cX3_add : ByteArray := prog_5_method_3_code
def yX3_add : MethodName := ⟨RX3, "add", "(III)I"⟩
abbrev cX3_join : ByteArray := prog_5_method_4_code
def yX3_join : MethodName := ⟨RX3, "join", "(III)Z"⟩
abbrev cX3_measure : ByteArray := prog_5_method_5_code
def yX3_measure : MethodName := ⟨RX3, "measure", "()V"⟩
abbrev cX3_goBy : ByteArray := prog_5_method_6_code
def yX3_goBy : MethodName := ⟨RX3, "goBy", "(III)V"⟩
abbrev cX3_leastHours : ByteArray := prog_5_method_7_code
def yX3_leastHours : MethodName := ⟨RX3, "leastHours", "(II)I"⟩
abbrev cX3_nightBehind : ByteArray := prog_5_method_8_code
def yX3_nightBehind : MethodName := ⟨RX3, "nightBehind", "(III)I"⟩
def RX4 : String := "CircusRoad$Show"
def TX4 : u_T := fun k => match k with
  | 0 => ("CircusRoad$Show", "size", "I", false)
  | 1 => ("CircusRoad$Show", "minutes", "[I", true)
  | 2 => ("CircusRoad$Show", "kinds", "[I", true)
  | 3 => ("CircusRoad$Show", "worths", "[I", true)
  | 4 => ("CircusRoad$Show", "people", "[I", true)
  | 5 => ("CircusRoad$Show", "props", "[I", true)
  | 6 => ("CircusRoad$Show", "resters", "[I", true)
  | 7 => ("CircusRoad$Show", "bans", "I", false)
  | _ => ("CircusRoad$Show", "changes", "I", false)
def tyX4 : Nat → FieldType := fun k => match k with
  | 0 => .int
  | 1 => .array .int
  | 2 => .array .int
  | 3 => .array .int
  | 4 => .array .int
  | 5 => .array .int
  | 6 => .array .int
  | 7 => .int
  | _ => .int
abbrev wsX40 : List Cond := u_ws RX4 TX4 9
theorem nmX4 : ∀ a, a < 9 → ∀ b, b < 9 → a ≠ b → (TX4 a).2.1 ≠ (TX4 b).2.1 := by decide +kernel
theorem tyX4_ok : ∀ k, k < 9 → parseFieldDescriptor (TX4 k).2.2.1 = some (tyX4 k) := by decide +kernel
abbrev cX4_init : ByteArray := prog_6_method_1_code
def yX4_init : MethodName := ⟨RX4, "<init>", "()V"⟩
abbrev cX4_add : ByteArray := prog_6_method_2_code
def yX4_add : MethodName := ⟨RX4, "add", "(III)I"⟩
abbrev cX4_canBe : ByteArray := prog_6_method_3_code
def yX4_canBe : MethodName := ⟨RX4, "canBe", "(III)Z"⟩
abbrev cX4_setRest : ByteArray := prog_6_method_4_code
def yX4_setRest : MethodName := ⟨RX4, "setRest", "(II)Z"⟩
abbrev cX4_setBan : ByteArray := prog_6_method_5_code
def yX4_setBan : MethodName := ⟨RX4, "setBan", "(IIZ)Z"⟩
abbrev cX4_isBanned : ByteArray := prog_6_method_6_code
def yX4_isBanned : MethodName := ⟨RX4, "isBanned", "(II)Z"⟩
abbrev cX4_isClowns : ByteArray := prog_6_method_7_code
def yX4_isClowns : MethodName := ⟨RX4, "isClowns", "(I)Z"⟩
def RX5 : String := "CircusRoad$Tent"
def TX5 : u_T := fun k => match k with
  | 0 => ("CircusRoad$Tent", "loads", "[I", true)
  | 1 => ("CircusRoad$Tent", "shares", "[I", true)
  | 2 => ("CircusRoad$Tent", "exposures", "[I", true)
  | 3 => ("CircusRoad$Tent", "parts", "[I", true)
  | 4 => ("CircusRoad$Tent", "bears", "[Z", true)
  | 5 => ("CircusRoad$Tent", "slackened", "[Z", true)
  | _ => ("CircusRoad$Tent", "lost", "I", false)
def tyX5 : Nat → FieldType := fun k => match k with
  | 0 => .array .int
  | 1 => .array .int
  | 2 => .array .int
  | 3 => .array .int
  | 4 => .array .boolean
  | 5 => .array .boolean
  | _ => .int
abbrev wsX50 : List Cond := u_ws RX5 TX5 7
theorem nmX5 : ∀ a, a < 7 → ∀ b, b < 7 → a ≠ b → (TX5 a).2.1 ≠ (TX5 b).2.1 := by decide +kernel
theorem tyX5_ok : ∀ k, k < 7 → parseFieldDescriptor (TX5 k).2.2.1 = some (tyX5 k) := by decide +kernel
abbrev cX5_init : ByteArray := prog_7_method_1_code
def yX5_init : MethodName := ⟨RX5, "<init>", "()V"⟩
abbrev cX5_isWind : ByteArray := prog_7_method_2_code
def yX5_isWind : MethodName := ⟨RX5, "isWind", "(I)Z"⟩
abbrev cX5_setLoad : ByteArray := prog_7_method_3_code
def yX5_setLoad : MethodName := ⟨RX5, "setLoad", "(II)Z"⟩
abbrev cX5_setShare : ByteArray := prog_7_method_4_code
def yX5_setShare : MethodName := ⟨RX5, "setShare", "(III)Z"⟩
abbrev cX5_sharesBeside : ByteArray := prog_7_method_5_code
def yX5_sharesBeside : MethodName := ⟨RX5, "sharesBeside", "(II)I"⟩
abbrev cX5_setExposed : ByteArray := prog_7_method_6_code
def yX5_setExposed : MethodName := ⟨RX5, "setExposed", "(II)Z"⟩
abbrev cX5_isUp : ByteArray := prog_7_method_7_code
def yX5_isUp : MethodName := ⟨RX5, "isUp", "(I)Z"⟩
abbrev cX5_ropesUp : ByteArray := prog_7_method_8_code
def yX5_ropesUp : MethodName := ⟨RX5, "ropesUp", "()I"⟩
abbrev cX5_settle : ByteArray := prog_7_method_9_code
def yX5_settle : MethodName := ⟨RX5, "settle", "(I)V"⟩
abbrev cX5_hang : ByteArray := prog_7_method_10_code
def yX5_hang : MethodName := ⟨RX5, "hang", "(I)V"⟩
abbrev cX5_firstThatPushes : ByteArray := prog_7_method_11_code
def yX5_firstThatPushes : MethodName := ⟨RX5, "firstThatPushes", "()I"⟩
abbrev cX5_slacken : ByteArray := prog_7_method_12_code
def yX5_slacken : MethodName := ⟨RX5, "slacken", "(I)V"⟩
abbrev cX5_ropesThatBear : ByteArray := prog_7_method_13_code
def yX5_ropesThatBear : MethodName := ⟨RX5, "ropesThatBear", "()I"⟩
abbrev cX5_spread : ByteArray := prog_7_method_14_code
def yX5_spread : MethodName := ⟨RX5, "spread", "(II)V"⟩
def RX6 : String := "CircusRoad$Till"
def TX6 : u_T := fun k => match k with
  | 0 => ("CircusRoad$Till", "told", "I", false)
  | 1 => ("CircusRoad$Till", "sums", "[I", true)
  | 2 => ("CircusRoad$Till", "times", "[I", true)
  | 3 => ("CircusRoad$Till", "above", "I", false)
  | _ => ("CircusRoad$Till", "below", "I", false)
def tyX6 : Nat → FieldType := fun k => match k with
  | 0 => .int
  | 1 => .array .int
  | 2 => .array .int
  | 3 => .int
  | _ => .int
abbrev wsX60 : List Cond := u_ws RX6 TX6 5
theorem nmX6 : ∀ a, a < 5 → ∀ b, b < 5 → a ≠ b → (TX6 a).2.1 ≠ (TX6 b).2.1 := by decide +kernel
theorem tyX6_ok : ∀ k, k < 5 → parseFieldDescriptor (TX6 k).2.2.1 = some (tyX6 k) := by decide +kernel
abbrev cX6_init : ByteArray := prog_8_method_1_code
def yX6_init : MethodName := ⟨RX6, "<init>", "()V"⟩
abbrev cX6_add : ByteArray := prog_8_method_2_code
def yX6_add : MethodName := ⟨RX6, "add", "(III)I"⟩
abbrev cX6_foretell : ByteArray := prog_8_method_3_code
def yX6_foretell : MethodName := ⟨RX6, "foretell", "(II)V"⟩
abbrev cX6_gather : ByteArray := prog_8_method_4_code
def yX6_gather : MethodName := ⟨RX6, "gather", "(IIII)V"⟩
abbrev cX6_reduce : ByteArray := prog_8_method_5_code
def yX6_reduce : MethodName := ⟨RX6, "reduce", "()V"⟩
abbrev cX6_commonDivisor : ByteArray := prog_8_method_6_code
def yX6_commonDivisor : MethodName := ⟨RX6, "commonDivisor", "(II)I"⟩
def RX7 : String := "CircusRoad"
def TX7 : u_T := fun k => match k with
  | 0 => ("CircusRoad", "show", "LCircusRoad$Show;", true)
  | 1 => ("CircusRoad", "told", "LCircusRoad$Order;", true)
  | 2 => ("CircusRoad", "bestOrder", "LCircusRoad$BestOrder;", true)
  | 3 => ("CircusRoad", "tent", "LCircusRoad$Tent;", true)
  | 4 => ("CircusRoad", "road", "LCircusRoad$Road;", true)
  | 5 => ("CircusRoad", "bestRoute", "LCircusRoad$BestRoute;", true)
  | _ => ("CircusRoad", "till", "LCircusRoad$Till;", true)
def tyX7 : Nat → FieldType := fun k => match k with
  | 0 => .object "CircusRoad$Show"
  | 1 => .object "CircusRoad$Order"
  | 2 => .object "CircusRoad$BestOrder"
  | 3 => .object "CircusRoad$Tent"
  | 4 => .object "CircusRoad$Road"
  | 5 => .object "CircusRoad$BestRoute"
  | _ => .object "CircusRoad$Till"
abbrev wsX70 : List Cond := u_ws RX7 TX7 7
theorem nmX7 : ∀ a, a < 7 → ∀ b, b < 7 → a ≠ b → (TX7 a).2.1 ≠ (TX7 b).2.1 := by decide +kernel
theorem tyX7_ok : ∀ k, k < 7 → parseFieldDescriptor (TX7 k).2.2.1 = some (tyX7 k) := by decide +kernel
abbrev cX7_init : ByteArray := prog_1_method_1_code
def yX7_init : MethodName := ⟨RX7, "<init>", "()V"⟩
abbrev cX7_act : ByteArray := prog_1_method_2_code
def yX7_act : MethodName := ⟨RX7, "act", "(III)I"⟩
abbrev cX7_rests : ByteArray := prog_1_method_3_code
def yX7_rests : MethodName := ⟨RX7, "rests", "(II)Z"⟩
abbrev cX7_ban : ByteArray := prog_1_method_4_code
def yX7_ban : MethodName := ⟨RX7, "ban", "(IIZ)Z"⟩
abbrev cX7_judge : ByteArray := prog_1_method_5_code
def yX7_judge : MethodName := ⟨RX7, "judge", "(III)I"⟩
abbrev cX7_gaps : ByteArray := prog_1_method_6_code
def yX7_gaps : MethodName := ⟨RX7, "gaps", "(II)I"⟩
abbrev cX7_best : ByteArray := prog_1_method_7_code
def yX7_best : MethodName := ⟨RX7, "best", "()I"⟩
abbrev cX7_bestAt : ByteArray := prog_1_method_8_code
def yX7_bestAt : MethodName := ⟨RX7, "bestAt", "(I)I"⟩
abbrev cX7_load : ByteArray := prog_1_method_9_code
def yX7_load : MethodName := ⟨RX7, "load", "(II)Z"⟩
abbrev cX7_share : ByteArray := prog_1_method_10_code
def yX7_share : MethodName := ⟨RX7, "share", "(III)Z"⟩
abbrev cX7_exposed : ByteArray := prog_1_method_11_code
def yX7_exposed : MethodName := ⟨RX7, "exposed", "(II)Z"⟩
abbrev cX7_part : ByteArray := prog_1_method_12_code
def yX7_part : MethodName := ⟨RX7, "part", "(II)I"⟩
abbrev cX7_slack : ByteArray := prog_1_method_13_code
def yX7_slack : MethodName := ⟨RX7, "slack", "(II)Z"⟩
abbrev cX7_gone : ByteArray := prog_1_method_14_code
def yX7_gone : MethodName := ⟨RX7, "gone", "(I)I"⟩
abbrev cX7_town : ByteArray := prog_1_method_15_code
def yX7_town : MethodName := ⟨RX7, "town", "(III)I"⟩
abbrev cX7_way : ByteArray := prog_1_method_16_code
def yX7_way : MethodName := ⟨RX7, "way", "(III)Z"⟩
abbrev cX7_hours : ByteArray := prog_1_method_17_code
def yX7_hours : MethodName := ⟨RX7, "hours", "(II)I"⟩
abbrev cX7_route : ByteArray := prog_1_method_18_code
def yX7_route : MethodName := ⟨RX7, "route", "()I"⟩
abbrev cX7_routeAt : ByteArray := prog_1_method_19_code
def yX7_routeAt : MethodName := ⟨RX7, "routeAt", "(II)I"⟩
abbrev cX7_took : ByteArray := prog_1_method_20_code
def yX7_took : MethodName := ⟨RX7, "took", "(III)I"⟩
abbrev cX7_foretold : ByteArray := prog_1_method_21_code
def yX7_foretold : MethodName := ⟨RX7, "foretold", "(III)I"⟩
abbrev cX7_count : ByteArray := prog_1_method_22_code
def yX7_count : MethodName := ⟨RX7, "count", "(I)I"⟩
abbrev cX7_isIn : ByteArray := prog_1_method_23_code
def yX7_isIn : MethodName := ⟨RX7, "isIn", "(II)Z"⟩
def RX8 : String := "CircusRoadModel"
def TX8 : u_T := fun k => match k with
  | 0 => ("CircusRoadModel", "acts", "I", false)
  | 1 => ("CircusRoadModel", "minutes", "[I", true)
  | 2 => ("CircusRoadModel", "kind", "[I", true)
  | 3 => ("CircusRoadModel", "worth", "[I", true)
  | 4 => ("CircusRoadModel", "who", "[I", true)
  | 5 => ("CircusRoadModel", "props", "[I", true)
  | 6 => ("CircusRoadModel", "rest", "[I", true)
  | 7 => ("CircusRoadModel", "isBanned", "[Z", true)
  | 8 => ("CircusRoadModel", "loads", "[I", true)
  | 9 => ("CircusRoadModel", "shares", "[I", true)
  | 10 => ("CircusRoadModel", "exposed", "[I", true)
  | 11 => ("CircusRoadModel", "towns", "I", false)
  | 12 => ("CircusRoadModel", "take", "[I", true)
  | 13 => ("CircusRoadModel", "first", "[I", true)
  | 14 => ("CircusRoadModel", "last", "[I", true)
  | 15 => ("CircusRoadModel", "hours", "[I", true)
  | 16 => ("CircusRoadModel", "least", "[I", true)
  | 17 => ("CircusRoadModel", "takings", "I", false)
  | 18 => ("CircusRoadModel", "takenTown", "[I", true)
  | 19 => ("CircusRoadModel", "takenDay", "[I", true)
  | 20 => ("CircusRoadModel", "takenSum", "[I", true)
  | 21 => ("CircusRoadModel", "row", "[I", true)
  | 22 => ("CircusRoadModel", "choice", "[I", true)
  | 23 => ("CircusRoadModel", "found", "[I", true)
  | 24 => ("CircusRoadModel", "foundAt", "[I", true)
  | 25 => ("CircusRoadModel", "night", "[I", true)
  | 26 => ("CircusRoadModel", "bestGaps", "I", false)
  | 27 => ("CircusRoadModel", "parts", "[I", true)
  | 28 => ("CircusRoadModel", "isSlack", "[Z", true)
  | _ => ("CircusRoadModel", "gone", "I", false)
def tyX8 : Nat → FieldType := fun k => match k with
  | 0 => .int
  | 1 => .array .int
  | 2 => .array .int
  | 3 => .array .int
  | 4 => .array .int
  | 5 => .array .int
  | 6 => .array .int
  | 7 => .array .boolean
  | 8 => .array .int
  | 9 => .array .int
  | 10 => .array .int
  | 11 => .int
  | 12 => .array .int
  | 13 => .array .int
  | 14 => .array .int
  | 15 => .array .int
  | 16 => .array .int
  | 17 => .int
  | 18 => .array .int
  | 19 => .array .int
  | 20 => .array .int
  | 21 => .array .int
  | 22 => .array .int
  | 23 => .array .int
  | 24 => .array .int
  | 25 => .array .int
  | 26 => .int
  | 27 => .array .int
  | 28 => .array .boolean
  | _ => .int
abbrev wsX80 : List Cond := u_ws RX8 TX8 30
theorem nmX8 : ∀ a, a < 30 → ∀ b, b < 30 → a ≠ b → (TX8 a).2.1 ≠ (TX8 b).2.1 := by decide +kernel
theorem tyX8_ok : ∀ k, k < 30 → parseFieldDescriptor (TX8 k).2.2.1 = some (tyX8 k) := by decide +kernel
abbrev cX8_init : ByteArray := prog_10_method_1_code
def yX8_init : MethodName := ⟨RX8, "<init>", "()V"⟩
abbrev cX8_in : ByteArray := prog_10_method_2_code
def yX8_in : MethodName := ⟨RX8, "in", "(III)Z"⟩
abbrev cX8_bits : ByteArray := prog_10_method_3_code
def yX8_bits : MethodName := ⟨RX8, "bits", "(I)I"⟩
abbrev cX8_act : ByteArray := prog_10_method_4_code
def yX8_act : MethodName := ⟨RX8, "act", "(III)I"⟩
abbrev cX8_rests : ByteArray := prog_10_method_5_code
def yX8_rests : MethodName := ⟨RX8, "rests", "(II)Z"⟩
abbrev cX8_ban : ByteArray := prog_10_method_6_code
def yX8_ban : MethodName := ⟨RX8, "ban", "(IIZ)Z"⟩
abbrev cX8_breaksAt : ByteArray := prog_10_method_7_code
def yX8_breaksAt : MethodName := ⟨RX8, "breaksAt", "(I)I"⟩
abbrev cX8_reads : ByteArray := prog_10_method_8_code
def yX8_reads : MethodName := ⟨RX8, "reads", "(II)Z"⟩
abbrev cX8_judge : ByteArray := prog_10_method_9_code
def yX8_judge : MethodName := ⟨RX8, "judge", "(III)I"⟩
abbrev cX8_gapsOf : ByteArray := prog_10_method_10_code
def yX8_gapsOf : MethodName := ⟨RX8, "gapsOf", "(I)I"⟩
abbrev cX8_gaps : ByteArray := prog_10_method_11_code
def yX8_gaps : MethodName := ⟨RX8, "gaps", "(II)I"⟩
abbrev cX8_seeks : ByteArray := prog_10_method_12_code
def yX8_seeks : MethodName := ⟨RX8, "seeks", "()Z"⟩
abbrev cX8_best : ByteArray := prog_10_method_13_code
def yX8_best : MethodName := ⟨RX8, "best", "()I"⟩
abbrev cX8_bestAt : ByteArray := prog_10_method_14_code
def yX8_bestAt : MethodName := ⟨RX8, "bestAt", "(I)I"⟩
abbrev cX8_load : ByteArray := prog_10_method_15_code
def yX8_load : MethodName := ⟨RX8, "load", "(II)Z"⟩
abbrev cX8_share : ByteArray := prog_10_method_16_code
def yX8_share : MethodName := ⟨RX8, "share", "(III)Z"⟩
abbrev cX8_exposed : ByteArray := prog_10_method_17_code
def yX8_exposed : MethodName := ⟨RX8, "exposed", "(II)Z"⟩
abbrev cX8_isUp : ByteArray := prog_10_method_18_code
def yX8_isUp : MethodName := ⟨RX8, "isUp", "(I)Z"⟩
abbrev cX8_hangs : ByteArray := prog_10_method_19_code
def yX8_hangs : MethodName := ⟨RX8, "hangs", "(I)V"⟩
abbrev cX8_slackens : ByteArray := prog_10_method_20_code
def yX8_slackens : MethodName := ⟨RX8, "slackens", "(I)V"⟩
abbrev cX8_isWind : ByteArray := prog_10_method_21_code
def yX8_isWind : MethodName := ⟨RX8, "isWind", "(I)Z"⟩
abbrev cX8_part : ByteArray := prog_10_method_22_code
def yX8_part : MethodName := ⟨RX8, "part", "(II)I"⟩
abbrev cX8_slack : ByteArray := prog_10_method_23_code
def yX8_slack : MethodName := ⟨RX8, "slack", "(II)Z"⟩
abbrev cX8_gone : ByteArray := prog_10_method_24_code
def yX8_gone : MethodName := ⟨RX8, "gone", "(I)I"⟩
abbrev cX8_isTown : ByteArray := prog_10_method_25_code
def yX8_isTown : MethodName := ⟨RX8, "isTown", "(I)Z"⟩
abbrev cX8_town : ByteArray := prog_10_method_26_code
def yX8_town : MethodName := ⟨RX8, "town", "(III)I"⟩
abbrev cX8_way : ByteArray := prog_10_method_27_code
def yX8_way : MethodName := ⟨RX8, "way", "(III)Z"⟩
abbrev cX8_reckons : ByteArray := prog_10_method_28_code
def yX8_reckons : MethodName := ⟨RX8, "reckons", "()V"⟩
abbrev cX8_hours : ByteArray := prog_10_method_29_code
def yX8_hours : MethodName := ⟨RX8, "hours", "(II)I"⟩
abbrev cX8_nightOf : ByteArray := prog_10_method_30_code
def yX8_nightOf : MethodName := ⟨RX8, "nightOf", "(II)I"⟩
abbrev cX8_goes : ByteArray := prog_10_method_31_code
def yX8_goes : MethodName := ⟨RX8, "goes", "()I"⟩
abbrev cX8_route : ByteArray := prog_10_method_32_code
def yX8_route : MethodName := ⟨RX8, "route", "()I"⟩
abbrev cX8_routeAt : ByteArray := prog_10_method_33_code
def yX8_routeAt : MethodName := ⟨RX8, "routeAt", "(II)I"⟩
abbrev cX8_took : ByteArray := prog_10_method_34_code
def yX8_took : MethodName := ⟨RX8, "took", "(III)I"⟩
abbrev cX8_foretold : ByteArray := prog_10_method_35_code
def yX8_foretold : MethodName := ⟨RX8, "foretold", "(III)I"⟩
abbrev cX8_count : ByteArray := prog_10_method_36_code
def yX8_count : MethodName := ⟨RX8, "count", "(I)I"⟩
def RJ6 : String := "java/lang/Integer"
def TJ6 : u_T := fun k => match k with
  | _ => ("", "", "", false)
def tyJ6 : Nat → FieldType := fun k => match k with
  | _ => .int
abbrev wsJ60 : List Cond := u_ws RJ6 TJ6 0
theorem nmJ6 : ∀ a, a < 0 → ∀ b, b < 0 → a ≠ b → (TJ6 a).2.1 ≠ (TJ6 b).2.1 := by decide +kernel
theorem tyJ6_ok : ∀ k, k < 0 → parseFieldDescriptor (TJ6 k).2.2.1 = some (tyJ6 k) := by decide +kernel
abbrev cJ6_bitCount_0f7a4 : ByteArray := prog_11_method_49_code
def yJ6_bitCount_0f7a4 : MethodName := ⟨RJ6, "bitCount", "(I)I"⟩
def RJ9 : String := "java/lang/Math"
def TJ9 : u_T := fun k => match k with
  | _ => ("", "", "", false)
def tyJ9 : Nat → FieldType := fun k => match k with
  | _ => .int
abbrev wsJ90 : List Cond := u_ws RJ9 TJ9 0
theorem nmJ9 : ∀ a, a < 0 → ∀ b, b < 0 → a ≠ b → (TJ9 a).2.1 ≠ (TJ9 b).2.1 := by decide +kernel
theorem tyJ9_ok : ∀ k, k < 0 → parseFieldDescriptor (TJ9 k).2.2.1 = some (tyJ9 k) := by decide +kernel
abbrev cJ9_max_7cf53 : ByteArray := prog_12_method_65_code
def yJ9_max_7cf53 : MethodName := ⟨RJ9, "max", "(II)I"⟩
abbrev cJ9_min_7cf53 : ByteArray := prog_12_method_69_code
def yJ9_min_7cf53 : MethodName := ⟨RJ9, "min", "(II)I"⟩
def RJ10 : String := "java/lang/System"
def TJ10 : u_T := fun k => match k with
  | _ => ("", "", "", false)
def tyJ10 : Nat → FieldType := fun k => match k with
  | _ => .int
abbrev wsJ100 : List Cond := u_ws RJ10 TJ10 0
theorem nmJ10 : ∀ a, a < 0 → ∀ b, b < 0 → a ≠ b → (TJ10 a).2.1 ≠ (TJ10 b).2.1 := by decide +kernel
theorem tyJ10_ok : ∀ k, k < 0 → parseFieldDescriptor (TJ10 k).2.2.1 = some (tyJ10 k) := by decide +kernel
abbrev vwCl : List vw_C := [(RX0, TX0, 9), (RX1, TX1, 10), (RX2, TX2, 8), (RX3, TX3, 7), (RX4, TX4, 9), (RX5, TX5, 7), (RX6, TX6, 5), (RX7, TX7, 7), (RX8, TX8, 30)]
end
section
/-- the cells: arrays (0 int, 1 boolean; length), objects (class; a field is a number or a cell): 0 cr, 1 show, 2 show.minutes, 3 show.kinds, 4 show.worths, 5 show.people, 6 show.props, 7 show.resters, 8 told, 9 told.acts, 10 told.used, 11 told.ring, 12 told.pause, 13 told.gapSum, 14 told.worthSum, 15 bo, 16 row, 17 row.acts, 18 row.used, 19 row.ring, 20 row.pause, 21 row.gapSum, 22 row.worthSum, 23 bo.acts, 24 bo.leastChange, 25 bo.byWorth, 26 tent, 27 tent.loads, 28 tent.shares, 29 tent.exposures, 30 tent.parts, 31 tent.bears, 32 tent.slackened, 33 road, 34 road.takes, 35 road.firsts, 36 road.lasts, 37 road.ways, 38 road.least, 39 br, 40 br.towns, 41 br.nights, 42 br.row, 43 br.rowNights, 44 br.used, 45 br.takeSum, 46 till, 47 till.sums, 48 till.times, 49 md, 50 md.minutes, 51 md.kind, 52 md.worth, 53 md.who, 54 md.props, 55 md.rest, 56 md.isBanned, 57 md.loads, 58 md.shares, 59 md.exposed, 60 md.take, 61 md.first, 62 md.last, 63 md.hours, 64 md.least, 65 md.takenTown, 66 md.takenDay, 67 md.takenSum, 68 md.row, 69 md.choice, 70 md.found, 71 md.foundAt, 72 md.night, 73 md.parts, 74 md.isSlack -/
abbrev SHl : List ((Nat × Nat) ⊕ (Nat × List (Option Nat))) := [.inr (7, [some 1, some 8, some 15, some 26, some 33, some 39, some 46]), .inr (4, [none, some 2, some 3, some 4, some 5, some 6, some 7, none, none]), .inl (0, 8), .inl (0, 8), .inl (0, 8), .inl (0, 8), .inl (0, 8), .inl (0, 4), .inr (2, [some 1, some 9, some 10, some 11, some 12, some 13, some 14, none]), .inl (0, 8), .inl (0, 9), .inl (0, 9), .inl (0, 9), .inl (0, 9), .inl (0, 9), .inr (0, [some 1, some 16, none, none, none, none, some 23, some 24, some 25]), .inr (2, [some 1, some 17, some 18, some 19, some 20, some 21, some 22, none]), .inl (0, 8), .inl (0, 9), .inl (0, 9), .inl (0, 9), .inl (0, 9), .inl (0, 9), .inl (0, 8), .inl (0, 8), .inl (0, 8), .inr (5, [some 27, some 28, some 29, some 30, some 31, some 32, none]), .inl (0, 8), .inl (0, 64), .inl (0, 8), .inl (0, 8), .inl (1, 8), .inl (1, 8), .inr (3, [none, some 34, some 35, some 36, some 37, some 38, none]), .inl (0, 8), .inl (0, 8), .inl (0, 8), .inl (0, 64), .inl (0, 64), .inr (1, [some 33, none, none, none, some 40, some 41, some 42, some 43, some 44, some 45]), .inl (0, 8), .inl (0, 8), .inl (0, 8), .inl (0, 8), .inl (0, 9), .inl (0, 9), .inr (6, [none, some 47, some 48, none, none]), .inl (0, 56), .inl (0, 56), .inr (8, [none, some 50, some 51, some 52, some 53, some 54, some 55, some 56, some 57, some 58, some 59, none, some 60, some 61, some 62, some 63, some 64, none, some 65, some 66, some 67, some 68, some 69, some 70, some 71, some 72, none, some 73, some 74, none]), .inl (0, 8), .inl (0, 8), .inl (0, 8), .inl (0, 8), .inl (0, 8), .inl (0, 10), .inl (1, 16), .inl (0, 8), .inl (0, 64), .inl (0, 8), .inl (0, 8), .inl (0, 8), .inl (0, 8), .inl (0, 64), .inl (0, 64), .inl (0, 500), .inl (0, 500), .inl (0, 500), .inl (0, 9), .inl (0, 10), .inl (0, 8), .inl (0, 8), .inl (0, 9), .inl (0, 8), .inl (1, 8)]
theorem lay_all : ∀ q ∈ vwCl, ∀ w ∈ u_ws q.1 q.2.1 q.2.2, w ∈ lw_tbl := by decide +kernel
theorem cls_ok {ci N : Nat} {C : String} {T : u_T} (h : vwCl[ci]? = some (C, T, N)) : ∃ ty0 : Nat → FieldType, (∀ k, k < N → parseFieldDescriptor (T k).2.2.1 = some (ty0 k)) ∧ ∀ a, a < N → ∀ b, b < N → a ≠ b → (T a).2.1 ≠ (T b).2.1 := by
  match ci, h with
  | 0, h => cases h; exact ⟨tyX0, tyX0_ok, nmX0⟩
  | 1, h => cases h; exact ⟨tyX1, tyX1_ok, nmX1⟩
  | 2, h => cases h; exact ⟨tyX2, tyX2_ok, nmX2⟩
  | 3, h => cases h; exact ⟨tyX3, tyX3_ok, nmX3⟩
  | 4, h => cases h; exact ⟨tyX4, tyX4_ok, nmX4⟩
  | 5, h => cases h; exact ⟨tyX5, tyX5_ok, nmX5⟩
  | 6, h => cases h; exact ⟨tyX6, tyX6_ok, nmX6⟩
  | 7, h => cases h; exact ⟨tyX7, tyX7_ok, nmX7⟩
  | 8, h => cases h; exact ⟨tyX8, tyX8_ok, nmX8⟩
  | ci + 9, h => simp [vwCl] at h
/-! ===== the machine, made small: a memory of numbers, a judgement AW over it, a rule an instruction ===== -/
abbrev HD : Type := MethodName × ByteArray × Nat × Option FieldType
abbrev Vl : Type := Int32 ⊕ Nat
abbrev LL : Type := List (Option Vl)
abbrev Mem : Type := Nat → Nat → Int32
abbrev CD : Type := (Nat × Nat) ⊕ (Nat × List (Option Nat))
abbrev GG : Type := va_G × ClassId × ClassId × (Nat → Nat)
abbrev En : Type := Instr × Nat × Nat × Nat × Int32 × HD × List Nat
def stM (s : Mem) (k : Nat) (f : Nat → Int32) : Mem := fun q => if q = k then f else s q
abbrev wrM (s : Mem) (k i : Nat) (v : Int32) : Mem := stM s k (upd (s k) i v)
def vv (G : GG) : Vl → Value
  | .inl x => .int x
  | .inr k => .ref (G.2.2.2 k)
def fld (G : GG) (f : Nat → Int32) (j : Nat) : Option Nat → Value
  | none => .int (f j)
  | some q => .ref (G.2.2.2 q)
def ent (G : GG) (s : Mem) (k : Nat) : CD → va_E
  | .inl (t, n) => .inl (if t = 0 then G.2.1 else G.2.2.1, n, .inl (s k))
  | .inr (ci, fs) => .inr (ci, fs.mapIdx (fld G (s k)))
def wd (G : GG) (s : Mem) : va_W := SHl.mapIdx (fun k c => (G.2.2.2 k, ent G s k c))
def adI (G : GG) : Prop := ∀ i j, i < SHl.length → j < SHl.length → G.2.2.2 i = G.2.2.2 j → i = j
def AA (G : GG) : Nat → Prop := fun q => ∃ k, k < SHl.length ∧ q = G.2.2.2 k
theorem stM_self {s : Mem} {k : Nat} {f : Nat → Int32} : stM s k f k = f := by simp [stM]
theorem stM_ne {s : Mem} {k q : Nat} {f : Nat → Int32} (h : q ≠ k) : stM s k f q = s q := by simp [stM, h]
theorem wd_get {G : GG} {s : Mem} {k : Nat} {c : CD} (h : SHl[k]? = some c) : (wd G s)[k]? = some (G.2.2.2 k, ent G s k c) := by
  simp only [wd, List.getElem?_mapIdx, h, Option.map_some]
theorem ent_ne {G : GG} {s : Mem} {k q : Nat} {f : Nat → Int32} (h : q ≠ k) (c : CD) : ent G (stM s k f) q c = ent G s q c := by
  rcases c with ⟨t, n⟩ | ⟨ci, fs⟩ <;> simp [ent, stM_ne h]
theorem wd_set {G : GG} {s : Mem} {k : Nat} {f : Nat → Int32} {c : CD} (h : SHl[k]? = some c) : (wd G s).set k (G.2.2.2 k, ent G (stM s k f) k c) = wd G (stM s k f) := by
  apply List.ext_getElem?
  intro i
  by_cases hi : i = k
  · subst hi
    have hl : i < (wd G s).length := by
      have := (List.getElem?_eq_some_iff.mp h).1
      simpa [wd] using this
    rw [List.getElem?_set_self hl, wd_get h]
  · rw [List.getElem?_set_ne (Ne.symm hi)]
    simp only [wd, List.getElem?_mapIdx]
    cases SHl[i]? with
    | none => rfl
    | some c' => simp only [Option.map_some, ent_ne hi]
theorem wd_D {G : GG} (h : adI G) (s : Mem) : va_D (AA G) (wd G s) := by
  have key : ∀ (k : Nat) (q : Nat × va_E), (wd G s)[k]? = some q → k < SHl.length ∧ q.1 = G.2.2.2 k := by
    intro k q hk
    simp only [wd, List.getElem?_mapIdx] at hk
    cases hc : SHl[k]? with
    | none => rw [hc] at hk; cases hk
    | some c =>
      rw [hc] at hk
      cases hk
      exact ⟨(List.getElem?_eq_some_iff.mp hc).1, rfl⟩
  refine ⟨fun i j p q hi hj hpq => ?_, fun k q hk => ⟨k, key k q hk⟩⟩
  obtain ⟨h1, h2⟩ := key i p hi
  obtain ⟨h3, h4⟩ := key j q hj
  exact h i j h1 h3 (by rw [← h2, ← h4]; exact hpq)
theorem ent_arr {G : GG} {s : Mem} {k t n : Nat} {f : Nat → Int32} : ent G (stM s k f) k (.inl (t, n)) = .inl (if t = 0 then G.2.1 else G.2.2.1, n, .inl f) := by simp [ent, stM_self]
theorem ent_obj {G : GG} {s : Mem} {k ci j : Nat} {fs : List (Option Nat)} {v : Int32} (h : fs[j]? = some none) : ent G (stM s k (upd (s k) j v)) k (.inr (ci, fs)) = .inr (ci, (fs.mapIdx (fld G (s k))).set j (.int v)) := by
  have e : fs.mapIdx (fld G (upd (s k) j v)) = (fs.mapIdx (fld G (s k))).set j (.int v) := by
    apply List.ext_getElem?
    intro i
    by_cases hi : i = j
    · subst hi
      have hl : i < (fs.mapIdx (fld G (s k))).length := by
        have := (List.getElem?_eq_some_iff.mp h).1
        simpa using this
      rw [List.getElem?_set_self hl, List.getElem?_mapIdx, h]
      simp [fld, upd]
    · rw [List.getElem?_set_ne (Ne.symm hi), List.getElem?_mapIdx, List.getElem?_mapIdx]
      cases fs[i]? with
      | none => rfl
      | some o => cases o <;> simp [fld, upd, hi]
  simp only [ent, stM_self, e]
def rm (d : Nat) : Room := { frames := d, cells := 0, slots := 0, locals := 60 * d }
def isNest : Cond → Bool
  | .fieldLinkNest .. => true
  | .methodLinkNest .. => true
  | _ => false
def NWS (U : State) : Prop := ∀ w ∈ lw_tbl, isNest w = true → va_Nw w U
theorem NWS.warm {s U : State} (hW : s.WarmedH U.vm) (h : NWS s) : NWS U := by
  intro w hw hn
  have h1 := h w hw hn
  cases w <;> first | (simp [isNest] at hn; done) | exact va_Nw.warmF hW h1 | exact va_Nw.warmM hW h1
theorem NWS.same {s U : State} (e : s.vm = U.vm) (h : NWS s) : NWS U := by
  intro w hw hn
  have h1 := h w hw hn
  cases w <;> first | (simp [isNest] at hn; done) | exact va_Nw.same rfl e h1
abbrev tysL (G : GG) : List (ClassId × FieldType) := [(G.2.1, .int), (G.2.2.1, .boolean)]
def PK (G : GG) (U : State) : Prop := va_K G.1 vwCl (tysL G) U
def rv (h : HD) (r : Int32) : Option Value := match h.2.2.2 with
  | none => none
  | some _ => some (.int r)
def pv (h : HD) (r : Int32) (st : List Vl) : List Vl := match h.2.2.2 with
  | none => st
  | some _ => .inl r :: st
def QQ (G : GG) (h : HD) (post : Int32 → Mem → Prop) : Array Value → State → Outcome → State → Prop := fun _ st oc t =>
  (∃ (r : Int32) (τ : Mem), oc = .returned (rv h r) ∧ post r τ ∧ va_P G.1 vwCl (wd G τ) t.heap) ∧ va_F (AA G) st t
def CX (p : Program) (S : State) (m : MethodId) (args : Array Value) (meth : Method) (c : Code) (h : HD) : Prop :=
  p.tables.exec = Jvm.exec ∧ c.code = h.2.1 ∧ meth.sig.returnType = h.2.2.2 ∧ c.maxLocals = h.2.2.1 ∧ S.vm.findClass h.1.cls = some m.cls ∧ (∀ w ∈ lw_tbl, goodWord w = true → w.before args S = true) ∧ NWS S ∧ meth.locks = false
def lvh (G : GG) (ls : Array Slot) (n : Nat) (L : LL) : Prop := ls.size = n ∧ lv_wf ls ∧ ∀ (i : Nat) (v : Vl), L[i]? = some (some v) → ls[i]? = some (Slot.val (vv G v))
def lvl (G : GG) (L : LL) : List (Nat × Value) := (L.mapIdx (fun i o => (o.map (fun v => (i, vv G v))))).filterMap id
theorem lvl_mem {G : GG} {L : LL} {q : Nat × Value} : q ∈ lvl G L ↔ ∃ i v, L[i]? = some (some v) ∧ q = (i, vv G v) := by
  simp only [lvl, List.mem_filterMap, id]
  constructor
  · rintro ⟨a, ha, rfl⟩
    obtain ⟨i, hi⟩ := List.getElem?_of_mem ha
    rw [List.getElem?_mapIdx] at hi
    cases hL : L[i]? with
    | none => rw [hL] at hi; cases hi
    | some o =>
      rw [hL] at hi
      cases o with
      | none => cases hi
      | some v => cases hi; exact ⟨i, v, hL, rfl⟩
  · rintro ⟨i, v, hL, rfl⟩
    refine ⟨some (i, vv G v), List.mem_of_getElem? (i := i) ?_, rfl⟩
    rw [List.getElem?_mapIdx, hL]
    rfl
theorem lvh_has {G : GG} {ls : Array Slot} {n : Nat} {L : LL} (h : lvh G ls n L) : lv_has ls n (lvl G L) := by
  refine ⟨h.1, h.2.1, fun q hq => ?_⟩
  obtain ⟨i, v, hL, rfl⟩ := lvl_mem.mp hq
  exact h.2.2 i v hL
theorem vv_cat (G : GG) (v : Vl) : (vv G v).category = 1 := by cases v <;> rfl
theorem lvh_set {G : GG} {ls : Array Slot} {n i : Nat} {L : LL} {x : Vl} (h : lv_has ls n ((i, vv G x) :: (lvl G L).filter (fun q => !(q.1 == i) && !(q.1 + 1 == i && q.2.category == 2)))) : lvh G ls n (L.set i (some x)) := by
  refine ⟨h.1, h.2.1, fun j v hj => ?_⟩
  by_cases hji : j = i
  · subst hji
    by_cases hl : j < L.length
    · rw [List.getElem?_set_self hl] at hj
      cases hj
      exact h.2.2 (j, vv G x) List.mem_cons_self
    · rw [List.getElem?_eq_none (by simpa using hl)] at hj
      cases hj
  · rw [List.getElem?_set_ne (Ne.symm hji)] at hj
    refine h.2.2 (j, vv G v) (List.mem_cons_of_mem _ (List.mem_filter.mpr ⟨lvl_mem.mpr ⟨j, v, hj, rfl⟩, ?_⟩))
    simp [hji, vv_cat]
def AW (l : Launch) (G : GG) (d : Nat) (h : HD) (pc : Nat) (L : LL) (st : List Vl) (s : Mem) (post : Int32 → Mem → Prop) : Prop :=
  ∀ (p : Program) (e : Env) (S : State) (m : MethodId) (args : Array Value) (below : List Frame) (meth : Method) (c : Code) (H : Heap) (locs : List Loc) (ls : Array Slot),
    CX p S m args meth c h → PK G S → va_P G.1 vwCl (wd G s) H → adI G → va_S (AA G) S.heap H locs → lvh G ls h.2.2.1 L →
    W p l e (rm d) S m args below meth c H locs 0 0 (MQ below (QQ G h post) args S 0 0 (AA G)) (F0 m pc ls (st.map (vv G)))
def WSg : List Cond := lw_tbl.filter goodWord
def PIC (G : GG) (s : Mem) (U : State) : Prop := va_P G.1 vwCl (wd G s) U.heap ∧ PK G U ∧ adI G ∧ NWS U
def Spec (l : Launch) (G : GG) (d : Nat) (h : HD) (As : List Vl) (s : Mem) (post : Int32 → Mem → Prop) : Prop :=
  Cond.code h.1 h.2.1 h.2.2.1 h.2.2.2 ∈ lw_tbl ∧ Met l h.1 (Cond.code h.1 h.2.1 h.2.2.1 h.2.2.2 :: WSg) (rm d) (va_Pc (As.map (vv G)) (PIC G s)) (QQ G h post) 0 0 (AA G)
section MA
variable {l : Launch} {G : GG} {d : Nat} {h : HD} {pc : Nat} {L : LL} {st : List Vl} {s : Mem} {post : Int32 → Mem → Prop} {x y v : Int32}
theorem as_iconst {n : Int} (hd : decode h.2.1 pc = .ok (.iconst n, 1)) (hv : Int32.ofInt n = v) (k : AW l G d h (pc + 1) L (.inl v :: st) s post) : AW l G d h pc L st s post := by
  intro p e S m args below meth c H locs ls X K P I Z N
  exact lv_iconst X.1 X.2.1 hd hv (k p e S m args below meth c H locs ls X K P I Z N)
theorem as_bipush {n : Int} (hd : decode h.2.1 pc = .ok (.bipush n, 2)) (hv : (Int8.ofInt n).toInt32 = v) (k : AW l G d h (pc + 2) L (.inl v :: st) s post) : AW l G d h pc L st s post := by
  intro p e S m args below meth c H locs ls X K P I Z N
  exact lv_bipush X.1 X.2.1 hd hv (k p e S m args below meth c H locs ls X K P I Z N)
theorem as_sipush {n : Int} (hd : decode h.2.1 pc = .ok (.sipush n, 3)) (hv : (Int16.ofInt n).toInt32 = v) (k : AW l G d h (pc + 3) L (.inl v :: st) s post) : AW l G d h pc L st s post := by
  intro p e S m args below meth c H locs ls X K P I Z N
  exact lv_sipush X.1 X.2.1 hd hv (k p e S m args below meth c H locs ls X K P I Z N)
theorem as_ldc {n : Nat} (hd : decode h.2.1 pc = .ok (.ldc n, 2)) (hv : Cond.constant h.1.cls n v ∈ lw_tbl) (k : AW l G d h (pc + 2) L (.inl v :: st) s post) : AW l G d h pc L st s post := by
  intro p e S m args below meth c H locs ls X K P I Z N
  exact lv_ldc X.1 X.2.1 X.2.2.2.2.1 (X.2.2.2.2.2.1 _ hv rfl) hd (k p e S m args below meth c H locs ls X K P I Z N)
theorem as_ldcw {n : Nat} (hd : decode h.2.1 pc = .ok (.ldc_w n, 3)) (hv : Cond.constant h.1.cls n v ∈ lw_tbl) (k : AW l G d h (pc + 3) L (.inl v :: st) s post) : AW l G d h pc L st s post := by
  intro p e S m args below meth c H locs ls X K P I Z N
  exact lv_ldcw X.1 X.2.1 X.2.2.2.2.1 (X.2.2.2.2.2.1 _ hv rfl) hd (k p e S m args below meth c H locs ls X K P I Z N)
theorem as_iload {i : Nat} (hd : decode h.2.1 pc = .ok (.iload i, 2)) (hL : L[i]? = some (some (.inl x))) (k : AW l G d h (pc + 2) L (.inl x :: st) s post) : AW l G d h pc L st s post := by
  intro p e S m args below meth c H locs ls X K P I Z N
  exact lv_iload X.1 X.2.1 hd (N.2.2 i _ hL) (k p e S m args below meth c H locs ls X K P I Z N)
theorem as_iload_n {i : Fin 4} (hd : decode h.2.1 pc = .ok (.iload_n i, 1)) (hL : L[(i : Nat)]? = some (some (.inl x))) (k : AW l G d h (pc + 1) L (.inl x :: st) s post) : AW l G d h pc L st s post := by
  intro p e S m args below meth c H locs ls X K P I Z N
  exact lv_iload_n X.1 X.2.1 hd rfl (N.2.2 i _ hL) (k p e S m args below meth c H locs ls X K P I Z N)
theorem as_aload_n {i : Fin 4} {o : Nat} (hd : decode h.2.1 pc = .ok (.aload_n i, 1)) (hL : L[(i : Nat)]? = some (some (.inr o))) (k : AW l G d h (pc + 1) L (.inr o :: st) s post) : AW l G d h pc L st s post := by
  intro p e S m args below meth c H locs ls X K P I Z N
  exact lv_aload_n X.1 X.2.1 hd rfl (N.2.2 i _ hL) (k p e S m args below meth c H locs ls X K P I Z N)
theorem as_istore {i : Nat} (hd : decode h.2.1 pc = .ok (.istore i, 2)) (hi : i < h.2.2.1) (k : AW l G d h (pc + 2) (L.set i (some (.inl x))) st s post) : AW l G d h pc L (.inl x :: st) s post := by
  intro p e S m args below meth c H locs ls X K P I Z N
  exact lv_istore X.1 X.2.1 hd (lvh_has N) hi rfl (fun ls' hl => k p e S m args below meth c H locs ls' X K P I Z (lvh_set hl))
theorem as_istore_n {i : Fin 4} (hd : decode h.2.1 pc = .ok (.istore_n i, 1)) (hi : (i : Nat) < h.2.2.1) (k : AW l G d h (pc + 1) (L.set i (some (.inl x))) st s post) : AW l G d h pc L (.inl x :: st) s post := by
  intro p e S m args below meth c H locs ls X K P I Z N
  exact lv_istore_n X.1 X.2.1 hd rfl (lvh_has N) hi rfl (fun ls' hl => k p e S m args below meth c H locs ls' X K P I Z (lvh_set hl))
theorem as_iinc {i : Nat} {n : Int} (hd : decode h.2.1 pc = .ok (.iinc i n, 3)) (hL : L[i]? = some (some (.inl x))) (hv : Int32.ofInt n = v) (hi : i < h.2.2.1) (k : AW l G d h (pc + 3) (L.set i (some (.inl (x + v)))) st s post) : AW l G d h pc L st s post := by
  intro p e S m args below meth c H locs ls X K P I Z N
  subst hv
  obtain ⟨kk, hk⟩ := List.getElem?_of_mem (lvl_mem.mpr ⟨i, _, hL, rfl⟩ : (i, vv G (.inl x)) ∈ lvl G L)
  exact lv_iinc X.1 X.2.1 hd (lvh_has N) hk rfl hi rfl (fun ls' hl => k p e S m args below meth c H locs ls' X K P I Z (lvh_set hl))
theorem as_iadd (hd : decode h.2.1 pc = .ok (.iadd, 1)) (k : AW l G d h (pc + 1) L (.inl (x + y) :: st) s post) : AW l G d h pc L (.inl y :: .inl x :: st) s post := by
  intro p e S m args below meth c H locs ls X K P I Z N
  exact lv_iadd X.1 X.2.1 hd (k p e S m args below meth c H locs ls X K P I Z N)
theorem as_isub (hd : decode h.2.1 pc = .ok (.isub, 1)) (k : AW l G d h (pc + 1) L (.inl (x - y) :: st) s post) : AW l G d h pc L (.inl y :: .inl x :: st) s post := by
  intro p e S m args below meth c H locs ls X K P I Z N
  exact lv_isub X.1 X.2.1 hd (k p e S m args below meth c H locs ls X K P I Z N)
theorem as_imul (hd : decode h.2.1 pc = .ok (.imul, 1)) (k : AW l G d h (pc + 1) L (.inl (x * y) :: st) s post) : AW l G d h pc L (.inl y :: .inl x :: st) s post := by
  intro p e S m args below meth c H locs ls X K P I Z N
  exact lv_imul X.1 X.2.1 hd (k p e S m args below meth c H locs ls X K P I Z N)
theorem as_iand (hd : decode h.2.1 pc = .ok (.iand, 1)) (k : AW l G d h (pc + 1) L (.inl (x &&& y) :: st) s post) : AW l G d h pc L (.inl y :: .inl x :: st) s post := by
  intro p e S m args below meth c H locs ls X K P I Z N
  exact lv_iand X.1 X.2.1 hd (k p e S m args below meth c H locs ls X K P I Z N)
theorem as_ior (hd : decode h.2.1 pc = .ok (.ior, 1)) (k : AW l G d h (pc + 1) L (.inl (x ||| y) :: st) s post) : AW l G d h pc L (.inl y :: .inl x :: st) s post := by
  intro p e S m args below meth c H locs ls X K P I Z N
  exact lv_ior X.1 X.2.1 hd (k p e S m args below meth c H locs ls X K P I Z N)
theorem as_ixor (hd : decode h.2.1 pc = .ok (.ixor, 1)) (k : AW l G d h (pc + 1) L (.inl (x ^^^ y) :: st) s post) : AW l G d h pc L (.inl y :: .inl x :: st) s post := by
  intro p e S m args below meth c H locs ls X K P I Z N
  exact lv_ixor X.1 X.2.1 hd (k p e S m args below meth c H locs ls X K P I Z N)
theorem as_ishl (hd : decode h.2.1 pc = .ok (.ishl, 1)) (k : AW l G d h (pc + 1) L (.inl (x <<< (y &&& 31)) :: st) s post) : AW l G d h pc L (.inl y :: .inl x :: st) s post := by
  intro p e S m args below meth c H locs ls X K P I Z N
  exact lv_ishl X.1 X.2.1 hd (k p e S m args below meth c H locs ls X K P I Z N)
theorem as_ishr (hd : decode h.2.1 pc = .ok (.ishr, 1)) (k : AW l G d h (pc + 1) L (.inl (x >>> (y &&& 31)) :: st) s post) : AW l G d h pc L (.inl y :: .inl x :: st) s post := by
  intro p e S m args below meth c H locs ls X K P I Z N
  exact lv_ishr X.1 X.2.1 hd (k p e S m args below meth c H locs ls X K P I Z N)
theorem as_idiv (hd : decode h.2.1 pc = .ok (.idiv, 1)) (hy : ¬ y = 0) (k : AW l G d h (pc + 1) L (.inl (x / y) :: st) s post) : AW l G d h pc L (.inl y :: .inl x :: st) s post := by
  intro p e S m args below meth c H locs ls X K P I Z N
  exact lv_idiv X.1 X.2.1 hd hy (k p e S m args below meth c H locs ls X K P I Z N)
theorem as_irem (hd : decode h.2.1 pc = .ok (.irem, 1)) (hy : ¬ y = 0) (k : AW l G d h (pc + 1) L (.inl (x - x / y * y) :: st) s post) : AW l G d h pc L (.inl y :: .inl x :: st) s post := by
  intro p e S m args below meth c H locs ls X K P I Z N
  exact lv_irem X.1 X.2.1 hd hy (k p e S m args below meth c H locs ls X K P I Z N)
theorem as_if_eq {off : Int} {tgt : Nat} (hd : decode h.2.1 pc = .ok (.ifCond .eq off, 3)) (ht : (pc : Int) + off = (tgt : Int)) (kt : x = 0 → AW l G d h tgt L st s post) (kf : ¬ x = 0 → AW l G d h (pc + 3) L st s post) : AW l G d h pc L (.inl x :: st) s post := by
  intro p e S m args below meth c H locs ls X K P I Z N
  exact lv_if_eq X.1 X.2.1 hd ht (fun q => kt q p e S m args below meth c H locs ls X K P I Z N) (fun q => kf q p e S m args below meth c H locs ls X K P I Z N)
theorem as_icmp_eq {off : Int} {tgt : Nat} (hd : decode h.2.1 pc = .ok (.if_icmp .eq off, 3)) (ht : (pc : Int) + off = (tgt : Int)) (kt : x = y → AW l G d h tgt L st s post) (kf : ¬ x = y → AW l G d h (pc + 3) L st s post) : AW l G d h pc L (.inl y :: .inl x :: st) s post := by
  intro p e S m args below meth c H locs ls X K P I Z N
  exact lv_icmp_eq X.1 X.2.1 hd ht (fun q => kt q p e S m args below meth c H locs ls X K P I Z N) (fun q => kf q p e S m args below meth c H locs ls X K P I Z N)
theorem as_if_ne {off : Int} {tgt : Nat} (hd : decode h.2.1 pc = .ok (.ifCond .ne off, 3)) (ht : (pc : Int) + off = (tgt : Int)) (kt : ¬ x = 0 → AW l G d h tgt L st s post) (kf : x = 0 → AW l G d h (pc + 3) L st s post) : AW l G d h pc L (.inl x :: st) s post := by
  intro p e S m args below meth c H locs ls X K P I Z N
  exact lv_if_ne X.1 X.2.1 hd ht (fun q => kt q p e S m args below meth c H locs ls X K P I Z N) (fun q => kf q p e S m args below meth c H locs ls X K P I Z N)
theorem as_icmp_ne {off : Int} {tgt : Nat} (hd : decode h.2.1 pc = .ok (.if_icmp .ne off, 3)) (ht : (pc : Int) + off = (tgt : Int)) (kt : ¬ x = y → AW l G d h tgt L st s post) (kf : x = y → AW l G d h (pc + 3) L st s post) : AW l G d h pc L (.inl y :: .inl x :: st) s post := by
  intro p e S m args below meth c H locs ls X K P I Z N
  exact lv_icmp_ne X.1 X.2.1 hd ht (fun q => kt q p e S m args below meth c H locs ls X K P I Z N) (fun q => kf q p e S m args below meth c H locs ls X K P I Z N)
theorem as_if_lt {off : Int} {tgt : Nat} (hd : decode h.2.1 pc = .ok (.ifCond .lt off, 3)) (ht : (pc : Int) + off = (tgt : Int)) (kt : x < 0 → AW l G d h tgt L st s post) (kf : ¬ x < 0 → AW l G d h (pc + 3) L st s post) : AW l G d h pc L (.inl x :: st) s post := by
  intro p e S m args below meth c H locs ls X K P I Z N
  exact lv_if_lt X.1 X.2.1 hd ht (fun q => kt q p e S m args below meth c H locs ls X K P I Z N) (fun q => kf q p e S m args below meth c H locs ls X K P I Z N)
theorem as_icmp_lt {off : Int} {tgt : Nat} (hd : decode h.2.1 pc = .ok (.if_icmp .lt off, 3)) (ht : (pc : Int) + off = (tgt : Int)) (kt : x < y → AW l G d h tgt L st s post) (kf : ¬ x < y → AW l G d h (pc + 3) L st s post) : AW l G d h pc L (.inl y :: .inl x :: st) s post := by
  intro p e S m args below meth c H locs ls X K P I Z N
  exact lv_icmp_lt X.1 X.2.1 hd ht (fun q => kt q p e S m args below meth c H locs ls X K P I Z N) (fun q => kf q p e S m args below meth c H locs ls X K P I Z N)
theorem as_if_ge {off : Int} {tgt : Nat} (hd : decode h.2.1 pc = .ok (.ifCond .ge off, 3)) (ht : (pc : Int) + off = (tgt : Int)) (kt : 0 ≤ x → AW l G d h tgt L st s post) (kf : ¬ 0 ≤ x → AW l G d h (pc + 3) L st s post) : AW l G d h pc L (.inl x :: st) s post := by
  intro p e S m args below meth c H locs ls X K P I Z N
  exact lv_if_ge X.1 X.2.1 hd ht (fun q => kt q p e S m args below meth c H locs ls X K P I Z N) (fun q => kf q p e S m args below meth c H locs ls X K P I Z N)
theorem as_icmp_ge {off : Int} {tgt : Nat} (hd : decode h.2.1 pc = .ok (.if_icmp .ge off, 3)) (ht : (pc : Int) + off = (tgt : Int)) (kt : y ≤ x → AW l G d h tgt L st s post) (kf : ¬ y ≤ x → AW l G d h (pc + 3) L st s post) : AW l G d h pc L (.inl y :: .inl x :: st) s post := by
  intro p e S m args below meth c H locs ls X K P I Z N
  exact lv_icmp_ge X.1 X.2.1 hd ht (fun q => kt q p e S m args below meth c H locs ls X K P I Z N) (fun q => kf q p e S m args below meth c H locs ls X K P I Z N)
theorem as_if_gt {off : Int} {tgt : Nat} (hd : decode h.2.1 pc = .ok (.ifCond .gt off, 3)) (ht : (pc : Int) + off = (tgt : Int)) (kt : 0 < x → AW l G d h tgt L st s post) (kf : ¬ 0 < x → AW l G d h (pc + 3) L st s post) : AW l G d h pc L (.inl x :: st) s post := by
  intro p e S m args below meth c H locs ls X K P I Z N
  exact lv_if_gt X.1 X.2.1 hd ht (fun q => kt q p e S m args below meth c H locs ls X K P I Z N) (fun q => kf q p e S m args below meth c H locs ls X K P I Z N)
theorem as_icmp_gt {off : Int} {tgt : Nat} (hd : decode h.2.1 pc = .ok (.if_icmp .gt off, 3)) (ht : (pc : Int) + off = (tgt : Int)) (kt : y < x → AW l G d h tgt L st s post) (kf : ¬ y < x → AW l G d h (pc + 3) L st s post) : AW l G d h pc L (.inl y :: .inl x :: st) s post := by
  intro p e S m args below meth c H locs ls X K P I Z N
  exact lv_icmp_gt X.1 X.2.1 hd ht (fun q => kt q p e S m args below meth c H locs ls X K P I Z N) (fun q => kf q p e S m args below meth c H locs ls X K P I Z N)
theorem as_if_le {off : Int} {tgt : Nat} (hd : decode h.2.1 pc = .ok (.ifCond .le off, 3)) (ht : (pc : Int) + off = (tgt : Int)) (kt : x ≤ 0 → AW l G d h tgt L st s post) (kf : ¬ x ≤ 0 → AW l G d h (pc + 3) L st s post) : AW l G d h pc L (.inl x :: st) s post := by
  intro p e S m args below meth c H locs ls X K P I Z N
  exact lv_if_le X.1 X.2.1 hd ht (fun q => kt q p e S m args below meth c H locs ls X K P I Z N) (fun q => kf q p e S m args below meth c H locs ls X K P I Z N)
theorem as_icmp_le {off : Int} {tgt : Nat} (hd : decode h.2.1 pc = .ok (.if_icmp .le off, 3)) (ht : (pc : Int) + off = (tgt : Int)) (kt : x ≤ y → AW l G d h tgt L st s post) (kf : ¬ x ≤ y → AW l G d h (pc + 3) L st s post) : AW l G d h pc L (.inl y :: .inl x :: st) s post := by
  intro p e S m args below meth c H locs ls X K P I Z N
  exact lv_icmp_le X.1 X.2.1 hd ht (fun q => kt q p e S m args below meth c H locs ls X K P I Z N) (fun q => kf q p e S m args below meth c H locs ls X K P I Z N)
theorem as_ineg (hd : decode h.2.1 pc = .ok (.ineg, 1)) (k : AW l G d h (pc + 1) L (.inl (-x) :: st) s post) : AW l G d h pc L (.inl x :: st) s post := by
  intro p e S m args below meth c H locs ls X K P I Z N
  exact lv_ineg X.1 X.2.1 hd (k p e S m args below meth c H locs ls X K P I Z N)
theorem as_iushr (hd : decode h.2.1 pc = .ok (.iushr, 1)) (k : AW l G d h (pc + 1) L (.inl ((x.toUInt32 >>> (y.toUInt32 &&& Int32.toUInt32 31)).toInt32) :: st) s post) : AW l G d h pc L (.inl y :: .inl x :: st) s post := by
  intro p e S m args below meth c H locs ls X K P I Z N
  exact lv_iushr X.1 X.2.1 hd rfl (k p e S m args below meth c H locs ls X K P I Z N)
theorem as_goto {off : Int} {tgt : Nat} (hd : decode h.2.1 pc = .ok (.goto off, 3)) (ht : (pc : Int) + off = (tgt : Int)) (k : AW l G d h tgt L st s post) : AW l G d h pc L st s post := by
  intro p e S m args below meth c H locs ls X K P I Z N
  exact lv_goto X.1 X.2.1 hd ht (k p e S m args below meth c H locs ls X K P I Z N)
theorem as_dup {a : Vl} (hd : decode h.2.1 pc = .ok (.dup, 1)) (k : AW l G d h (pc + 1) L (a :: a :: st) s post) : AW l G d h pc L (a :: st) s post := by
  intro p e S m args below meth c H locs ls X K P I Z N
  exact lv_dup X.1 X.2.1 hd (vv_cat G a) (k p e S m args below meth c H locs ls X K P I Z N)
theorem as_dup2 {a b : Vl} (hd : decode h.2.1 pc = .ok (.dup2, 1)) (k : AW l G d h (pc + 1) L (a :: b :: a :: b :: st) s post) : AW l G d h pc L (a :: b :: st) s post := by
  intro p e S m args below meth c H locs ls X K P I Z N
  exact lv_dup2_11 X.1 X.2.1 hd (vv_cat G a) (vv_cat G b) (k p e S m args below meth c H locs ls X K P I Z N)
theorem as_iaload {o n : Nat} (hd : decode h.2.1 pc = .ok (.iaload, 1)) (ho : SHl[o]? = some (.inl (0, n))) (hi : vp_in x n) (k : AW l G d h (pc + 1) L (.inl (s o x.toNatClampNeg) :: st) s post) : AW l G d h pc L (.inl x :: .inr o :: st) s post := by
  intro p e S m args below meth c H locs ls X K P I Z N
  exact va_iald X.1 X.2.1 K P o 0 (wd_get ho) rfl hi hd (k p e S m args below meth c H locs ls X K P I Z N)
theorem as_baload {o n : Nat} (hd : decode h.2.1 pc = .ok (.baload, 1)) (ho : SHl[o]? = some (.inl (1, n))) (hi : vp_in x n) (k : AW l G d h (pc + 1) L (.inl (s o x.toNatClampNeg) :: st) s post) : AW l G d h pc L (.inl x :: .inr o :: st) s post := by
  intro p e S m args below meth c H locs ls X K P I Z N
  exact va_zald X.1 X.2.1 K P o 1 (wd_get ho) rfl hi hd (k p e S m args below meth c H locs ls X K P I Z N)
theorem as_iastore {o n : Nat} (hd : decode h.2.1 pc = .ok (.iastore, 1)) (ho : SHl[o]? = some (.inl (0, n))) (hi : vp_in y n) (k : AW l G d h (pc + 1) L st (wrM s o y.toNatClampNeg x) post) : AW l G d h pc L (.inl x :: .inl y :: .inr o :: st) s post := by
  intro p e S m args below meth c H locs ls X K P I Z N
  refine va_iast X.1 X.2.1 K P (wd_D I s) Z o 0 (wd_get ho) rfl hi hd (fun H1 locs1 P1 _ Z1 => ?_)
  refine k p e S m args below meth c H1 locs1 ls X K ?_ I Z1 N
  rw [← wd_set ho, ent_arr]
  exact P1
theorem as_bastore {o n : Nat} (hd : decode h.2.1 pc = .ok (.bastore, 1)) (ho : SHl[o]? = some (.inl (1, n))) (hi : vp_in y n) (k : AW l G d h (pc + 1) L st (wrM s o y.toNatClampNeg (vp_nar .boolean x)) post) : AW l G d h pc L (.inl x :: .inl y :: .inr o :: st) s post := by
  intro p e S m args below meth c H locs ls X K P I Z N
  refine va_zast X.1 X.2.1 K P (wd_D I s) Z o 1 (wd_get ho) rfl hi hd (fun H1 locs1 P1 _ Z1 => ?_)
  refine k p e S m args below meth c H1 locs1 ls X K ?_ I Z1 N
  rw [← wd_set ho, ent_arr]
  exact P1
/-- the words of a class that the worlds hold stand among the tables' words -/
theorem lay_in {ci N : Nat} {C : String} {T : u_T} (hc : vwCl[ci]? = some (C, T, N)) : ∀ w ∈ u_ws C T N, w ∈ WSg := by
  have key : ∀ q ∈ vwCl, ∀ w ∈ u_ws q.1 q.2.1 q.2.2, w ∈ lw_tbl := lay_all
  intro w hw
  refine List.mem_filter.mpr ⟨key (C, T, N) (List.mem_of_getElem? hc) w hw, ?_⟩
  obtain ⟨j, -, rfl⟩ := List.mem_map.mp hw
  unfold u_lay
  split <;> rfl
theorem cx_ws {p : Program} {S : State} {m : MethodId} {args : Array Value} {meth : Method} {c : Code} (X : CX p S m args meth c h) : ∀ w ∈ WSg, w.before args S = true := fun w hw => X.2.2.2.2.2.1 w (List.mem_filter.mp hw).1 (List.mem_filter.mp hw).2
def lnkF (h : HD) (i : Nat) (C : String) (nm ds : String) : Prop := Cond.fieldLink h.1.cls i C nm ds ∈ lw_tbl ∨ Cond.fieldLinkNest h.1.cls i C nm ds "CircusRoad" ∈ lw_tbl
theorem as_get {i o ci j N : Nat} {C : String} {T : u_T} {fs : List (Option Nat)} {f : Option Nat} (hd : decode h.2.1 pc = .ok (.getfield i, 3)) (ho : SHl[o]? = some (.inr (ci, fs))) (hc : vwCl[ci]? = some (C, T, N)) (hj : j < N) (hl : lnkF h i (T j).1 (T j).2.1 (T j).2.2.1) (hf : fs[j]? = some f) (w : Vl) (hw : fld G (s o) j f = vv G w)
    (k : AW l G d h (pc + 3) L (w :: st) s post) : AW l G d h pc L (.inr o :: st) s post := by
  intro p e S m args below meth c H locs ls X K P I Z N
  have hv : (fs.mapIdx (fld G (s o)))[j]? = some (vv G w) := by rw [List.getElem?_mapIdx, hf, ← hw]; rfl
  rcases hl with hl | hl
  · exact va_get X.1 X.2.1 (cx_ws X) (lay_in hc) X.2.2.2.2.1 K P o (wd_get ho) hc j hj (X.2.2.2.2.2.1 _ hl rfl) (fun _ q => q) hv hd (k p e S m args below meth c H locs ls X K P I Z N)
  · exact va_getN X.1 X.2.1 (cx_ws X) (lay_in hc) X.2.2.2.2.1 K P o (wd_get ho) hc j hj (va_Nw.use rfl (X.2.2.2.2.2.2.1 _ hl rfl)) (fun _ q => q) hv hd (k p e S m args below meth c H locs ls X K P I Z N)
theorem as_put {i o ci j N : Nat} {C : String} {T : u_T} {fs : List (Option Nat)} {ty : FieldType} (hd : decode h.2.1 pc = .ok (.putfield i, 3)) (ho : SHl[o]? = some (.inr (ci, fs))) (hc : vwCl[ci]? = some (C, T, N)) (hj : j < N) (hl : lnkF h i (T j).1 (T j).2.1 (T j).2.2.1) (hf : fs[j]? = some none) (hfin : (T j).2.2.2 = false) (hty : parseFieldDescriptor (T j).2.2.1 = some ty) (hn : narrow ty (.int x) = .int x) (hfit : fits ty (.int x) = true)
    (k : AW l G d h (pc + 3) L st (wrM s o j x) post) : AW l G d h pc L (.inl x :: .inr o :: st) s post := by
  intro p e S m args below meth c H locs ls X K P I Z N
  obtain ⟨ty0, ht0, hnm0⟩ := cls_ok hc
  have hjl : j < (fs.mapIdx (fld G (s o))).length := by
    have := (List.getElem?_eq_some_iff.mp hf).1
    simpa using this
  have fin : ∀ (H1 : Heap) (locs1 : List Loc), va_P G.1 vwCl ((wd G s).set o (G.2.2.2 o, .inr (ci, (fs.mapIdx (fld G (s o))).set j (.int x)))) H1 → va_D (AA G) ((wd G s).set o (G.2.2.2 o, .inr (ci, (fs.mapIdx (fld G (s o))).set j (.int x)))) → va_S (AA G) S.heap H1 locs1 → W p l e (rm d) S m args below meth c H1 locs1 0 0 (MQ below (QQ G h post) args S 0 0 (AA G)) (F0 m (pc + 3) ls (st.map (vv G))) := by
    intro H1 locs1 P1 _ Z1
    refine k p e S m args below meth c H1 locs1 ls X K ?_ I Z1 N
    rw [← wd_set ho, ent_obj hf]
    exact P1
  rcases hl with hl | hl
  · exact va_put X.1 X.2.1 (cx_ws X) (lay_in hc) ty0 ht0 hnm0 X.2.2.2.2.1 K P (wd_D I s) Z o (wd_get ho) hc j hj (X.2.2.2.2.2.1 _ hl rfl) (fun _ q => q) hfin hty hn hfit hjl hd fin
  · exact va_putN X.1 X.2.1 (cx_ws X) (lay_in hc) ty0 ht0 hnm0 X.2.2.2.2.1 K P (wd_D I s) Z o (wd_get ho) hc j hj (va_Nw.use rfl (X.2.2.2.2.2.2.1 _ hl rfl)) (fun _ q => q) hfin hty hn hfit hjl hd fin
theorem as_iret {ty : FieldType} (hd : decode h.2.1 pc = .ok (.ireturn, 1)) (hr : h.2.2.2 = some ty) (hn : narrow ty (.int x) = .int x) (hp : post x s) : AW l G d h pc L [.inl x] s post := by
  intro p e S m args below meth c H locs ls X K P I Z N
  refine W.zret X.1 X.2.1 (X.2.2.1.trans hr) hn (fun t ht hW => ⟨⟨x, s, ?_, hp, by rw [ht]; exact P⟩, Z.F ht⟩) Z.2.2 hd X.2.2.2.2.2.2.2
  simp [rv, hr]
theorem as_vret (hd : decode h.2.1 pc = .ok (.return_, 1)) (hr : h.2.2.2 = none) (hp : post 0 s) : AW l G d h pc L [] s post := by
  intro p e S m args below meth c H locs ls X K P I Z N
  refine W.vret X.1 X.2.1 (X.2.2.1.trans hr) (fun t ht hW => ⟨⟨0, s, ?_, hp, by rw [ht]; exact P⟩, Z.F ht⟩) Z.2.2 hd X.2.2.2.2.2.2.2
  simp [rv, hr]
theorem st_cat : ∀ st : List Vl, ((st.map (vv G)).map fun v => v.category).sum = st.length
  | [] => rfl
  | a :: r => by simp only [List.map_cons, List.sum_cons, vv_cat, st_cat r, List.length_cons]; omega
theorem pic_blind {As : List Vl} : FrameBlind (va_Pc (As.map (vv G)) (PIC G s)) := by
  rintro a U g mk ⟨q0, qP, qK, qI, qN⟩
  exact ⟨q0, qP, va_K.moved (u := U) (U := U.calling g mk a) (Vm.Alike.refl U.vm) qK, qI, NWS.same (s := U) (U := U.calling g mk a) rfl qN⟩
theorem pic_at {S U : State} {H : Heap} (hU : U.heap = H) (hW : S.WarmedH U.vm) (K : PK G S) (P : va_P G.1 vwCl (wd G s) H) (I : adI G) (N : NWS S) : PIC G s U := ⟨by rw [hU]; exact P, va_K.moved hW.alike K, I, NWS.warm hW N⟩
theorem ws_good {hc h : HD} (hin : Cond.code hc.1 hc.2.1 hc.2.2.1 hc.2.2.2 ∈ lw_tbl) : GoodIn WSg (Cond.code hc.1 hc.2.1 hc.2.2.1 hc.2.2.2 :: WSg) := by
  intro w hw
  rcases List.mem_cons.mp hw with rfl | hw
  · exact ⟨List.mem_filter.mpr ⟨hin, rfl⟩, Or.inl rfl⟩
  · exact ⟨hw, good_of_word (List.mem_filter.mp hw).2⟩
theorem as_back {hc : HD} {Q : Int32 → Mem → Prop} {p : Program} {e : Env} {S : State} {m : MethodId} {args : Array Value} {below : List Frame} {meth : Method} {c : Code} {H : Heap} {locs : List Loc} {ls : Array Slot} {st0 : List Value} {ar : Array Value}
    (X : CX p S m args meth c h) (K : PK G S) (I : adI G) (Z : va_S (AA G) S.heap H locs) (N : lvh G ls h.2.2.1 L)
    (hr : va_Run p l e (rm d) S m args below meth c H locs 0 0 0 0 (F0 m pc ls st0) (st.map (vv G)) (QQ G hc Q ar) (AA G))
    (k : ∀ (r : Int32) (τ : Mem), Q r τ → AW l G d h (pc + 3) L (pv hc r st) τ post) : W p l e (rm d) S m args below meth c H locs 0 0 (MQ below (QQ G h post) args S 0 0 (AA G)) (F0 m pc ls st0) := by
  intro T hT XS
  obtain ⟨v, st₀, t, T', L', h0, X', hL, e1, e2, ⟨⟨r, τ, hv, hp, hb⟩, hz, hk⟩, stp⟩ := hr T hT XS
  rw [h0] at hz hk
  have Z1 : va_S (AA G) S.heap T'.heap (locs ++ L') := ⟨Nat.le_trans Z.1 (by rw [e1]; exact hz), fun q h1 h2 => by rw [e1, hk q (Nat.lt_of_lt_of_le h1 Z.1) h2]; exact Z.2.1 q h1 h2, fun q hq => by
    rcases List.mem_append.mp hq with h | h
    · exact Z.2.2 q h
    · exact hL q h⟩
  obtain ⟨t2, a1, b1⟩ := k r τ hp p e S m args below meth c T'.heap (locs ++ L') ls X K (by rw [e1]; exact hb) I Z1 N T' rfl X'
  refine ⟨t2, stp t2 ?_, b1⟩
  have hv' : v = rv hc r := Outcome.returned.inj hv
  have e3 : v.toList ++ st.map (vv G) = (pv hc r st).map (vv G) := by
    rw [hv']
    unfold rv pv
    cases hc.2.2.2 <;> rfl
  show Steps p.tables e below (T'.setTop (F0 m (pc + 3) ls (v.toList ++ st.map (vv G)))) t2
  rw [e3]
  exact a1
def lnkM (h : HD) (i : Nat) (y : MethodName) : Prop := Cond.methodLink h.1.cls i y ∈ lw_tbl ∨ Cond.methodLinkNest h.1.cls i y "CircusRoad" ∈ lw_tbl
def nameOk (hc : HD) (n : Nat) : Prop := hc.1.cls ≠ "java/lang/invoke/MethodHandle" ∧ hc.1.cls ≠ "java/lang/invoke/VarHandle" ∧ (parseMethodDescriptor hc.1.desc).map (fun d => d.parameters.length) = some n
theorem as_callS {hc : HD} {As : List Vl} {Q : Int32 → Mem → Prop} {i d' : Nat} (hd : decode h.2.1 pc = .ok (.invokestatic i, 3)) (hlt : d' < d) (hl : lnkM h i hc.1) (hs : Cond.static hc.1 ∈ lw_tbl) (hini : Cond.initialized hc.1.cls ∈ lw_tbl) (hno : nameOk hc As.length) (hmx : hc.2.2.1 ≤ 41) (hst : st.length ≤ 8)
    (M : Spec l G d' hc As s Q) (k : ∀ (r : Int32) (τ : Mem), Q r τ → AW l G d h (pc + 3) L (pv hc r st) τ post) : AW l G d h pc L (As.reverse ++ st) s post := by
  intro p e S m args below meth c H locs ls X K P I Z N
  have hroom : (rm d').frames + 1 ≤ (rm d).frames ∧ 8 + (hc.2.2.1 + 11) + (rm d').locals ≤ (rm d).locals := ⟨hlt, by show 8 + (hc.2.2.1 + 11) + 60 * d' ≤ 60 * d; omega⟩
  have hpre : PreS S H (va_Pc (As.map (vv G)) (PIC G s)) (As.map (vv G)) := ⟨pic_blind, fun U hU hW => ⟨rfl, pic_at hU hW K P I X.2.2.2.2.2.2.1⟩⟩
  have hfix : CallFix p m c h.2.1 h.2.2.1 S args WSg h.1.cls := ⟨X.1, X.2.1, X.2.2.2.1, X.2.2.2.2.1, cx_ws X⟩
  have hstk : (F0 m pc ls ((As.reverse ++ st).map (vv G))).stack = (As.map (vv G)).reverse ++ st.map (vv G) := by simp
  have hwd : 2 * (F0 m pc ls ((As.reverse ++ st).map (vv G))).monitorRoom + ((st.map (vv G)).map fun v => v.category).sum ≤ 8 := lv_room (by rw [st_cat]; exact hst)
  refine as_back (ar := (As.map (vv G)).toArray) X K I Z N ?_ k
  rcases hl with hl | hl
  · exact va_runS hfix M.2 ⟨callB_of As.length (cx_ws X) (ws_good (h := h) M.1) rfl rfl rfl (X.2.2.2.2.2.1 _ hini rfl) (X.2.2.2.2.2.1 _ hl rfl) hno hroom, X.2.2.2.2.2.1 _ hs rfl⟩ hpre rfl (by simp) N.1 hstk hwd hd ⟨Nat.le_refl _, Nat.le_refl _⟩
  · exact va_runSN hfix M.2 ⟨va_cnB As.length (cx_ws X) (ws_good (h := h) M.1) rfl rfl rfl (X.2.2.2.2.2.2.1 _ hl rfl) (X.2.2.2.2.2.1 _ hini rfl) hno hroom, X.2.2.2.2.2.1 _ hs rfl, trivial⟩ hpre rfl (by simp) N.1 hstk hwd hd ⟨Nat.le_refl _, Nat.le_refl _⟩
theorem as_callV {hc : HD} {As : List Vl} {Q : Int32 → Mem → Prop} {i d' o ci : Nat} {T : u_T} {nF : Nat} {fs : List (Option Nat)} (hd : decode h.2.1 pc = .ok (.invokevirtual i, 3)) (hlt : d' < d) (ho : SHl[o]? = some (.inr (ci, fs))) (hcl : vwCl[ci]? = some (hc.1.cls, T, nF)) (hl : lnkM h i hc.1) (hs : Cond.instanceMethod hc.1 ∈ lw_tbl) (hse : Cond.selects hc.1.cls hc.1 hc.1 ∈ lw_tbl) (hini : Cond.initialized hc.1.cls ∈ lw_tbl) (hno : nameOk hc As.length) (hmx : hc.2.2.1 ≤ 41) (hst : st.length ≤ 8)
    (M : Spec l G d' hc (.inr o :: As) s Q) (k : ∀ (r : Int32) (τ : Mem), Q r τ → AW l G d h (pc + 3) L (pv hc r st) τ post) : AW l G d h pc L (As.reverse ++ .inr o :: st) s post := by
  intro p e S m args below meth c H locs ls X K P I Z N
  have hroom : (rm d').frames + 1 ≤ (rm d).frames ∧ 8 + (hc.2.2.1 + 11) + (rm d').locals ≤ (rm d).locals := ⟨hlt, by show 8 + (hc.2.2.1 + 11) + 60 * d' ≤ 60 * d; omega⟩
  have hpre : PreV S H hc.1.cls (G.2.2.2 o) (va_Pc ((.inr o :: As : List Vl).map (vv G)) (PIC G s)) (As.map (vv G)) := ⟨pic_blind, va_recv K P hcl (wd_get ho), fun U hU hW => ⟨rfl, pic_at hU hW K P I X.2.2.2.2.2.2.1⟩⟩
  have hfix : CallFix p m c h.2.1 h.2.2.1 S args WSg h.1.cls := ⟨X.1, X.2.1, X.2.2.2.1, X.2.2.2.2.1, cx_ws X⟩
  have hstk : (F0 m pc ls ((As.reverse ++ .inr o :: st).map (vv G))).stack = (As.map (vv G)).reverse ++ .ref (G.2.2.2 o) :: st.map (vv G) := by simp [vv]
  have hwd : 2 * (F0 m pc ls ((As.reverse ++ .inr o :: st).map (vv G))).monitorRoom + ((st.map (vv G)).map fun v => v.category).sum ≤ 8 := lv_room (by rw [st_cat]; exact hst)
  refine as_back (ar := (Value.ref (G.2.2.2 o) :: As.map (vv G)).toArray) X K I Z N ?_ k
  rcases hl with hl | hl
  · exact va_runV hfix M.2 ⟨callB_of As.length (cx_ws X) (ws_good (h := h) M.1) rfl rfl rfl (X.2.2.2.2.2.1 _ hini rfl) (X.2.2.2.2.2.1 _ hl rfl) hno hroom, X.2.2.2.2.2.1 _ hs rfl, X.2.2.2.2.2.1 _ hse rfl⟩ hpre rfl (by simp) N.1 hstk hwd hd ⟨Nat.le_refl _, Nat.le_refl _⟩
  · exact va_runVN hfix M.2 ⟨va_cnB As.length (cx_ws X) (ws_good (h := h) M.1) rfl rfl rfl (X.2.2.2.2.2.2.1 _ hl rfl) (X.2.2.2.2.2.1 _ hini rfl) hno hroom, X.2.2.2.2.2.1 _ hs rfl, X.2.2.2.2.2.1 _ hse rfl⟩ hpre rfl (by simp) N.1 hstk hwd hd ⟨Nat.le_refl _, Nat.le_refl _⟩
theorem as_copy {i a0 a n0 n1 : Nat} {sp dp n : Int32} (hd : decode h.2.1 pc = .ok (.invokestatic i, 3)) (hl : Cond.methodLink h.1.cls i arraycopyName ∈ lw_tbl) (hnat : Cond.native arraycopyName ∈ lw_tbl) (hsta : Cond.static arraycopyName ∈ lw_tbl) (hini : Cond.initialized "java/lang/System" ∈ lw_tbl)
    (h0 : SHl[a0]? = some (.inl (0, n0))) (h1 : SHl[a]? = some (.inl (0, n1))) (p1 : ¬ sp < 0) (p2 : ¬ dp < 0) (p3 : ¬ n < 0) (p4 : sp.toNatClampNeg + n.toNatClampNeg ≤ n0) (p5 : dp.toNatClampNeg + n.toNatClampNeg ≤ n1) (hst : st.length ≤ 8) (hd1 : 1 ≤ d)
    (k : AW l G d h (pc + 3) L st (stM s a (va_cpy (s a0) (s a) sp.toNatClampNeg dp.toNatClampNeg n.toNatClampNeg)) post) : AW l G d h pc L (.inl n :: .inl dp :: .inr a :: .inl sp :: .inr a0 :: st) s post := by
  intro p e S m args below meth c H locs ls X K P I Z N
  refine va_copyi X.1 X.2.1 (X.2.2.2.1.trans N.1.symm) X.2.2.2.2.1 (X.2.2.2.2.2.1 _ hl rfl) (X.2.2.2.2.2.1 _ hnat rfl) (X.2.2.2.2.2.1 _ hsta rfl) (X.2.2.2.2.2.1 _ hini rfl) K P (wd_D I s) Z a0 a 0 0 (wd_get h0) (wd_get h1) rfl rfl rfl p1 p2 p3 p4 p5 (fun _ _ => rfl) hd1 ?_ hd (fun H1 locs1 P1 _ Z1 => ?_)
  · rw [st_cat]
    have e1 : nativeFrameWords "java/lang/System" "arraycopy" 5 ≤ 40 := by decide +kernel
    show st.length + (nativeFrameWords "java/lang/System" "arraycopy" 5 + 11) ≤ 60 * d
    omega
  · refine k p e S m args below meth c H1 locs1 ls X K ?_ I Z1 N
    rw [← wd_set h1, ent_arr]
    exact P1
theorem as_max {i : Nat} (hd : decode h.2.1 pc = .ok (.invokestatic i, 3)) (hl : Cond.methodLink h.1.cls i Lib.Math.max.name ∈ lw_tbl) (hsta : Cond.static Lib.Math.max.name ∈ lw_tbl) (hini : Cond.initialized "java/lang/Math" ∈ lw_tbl) (hco : Cond.code Lib.Math.max.name Lib.Math.max.code 2 (some .int) ∈ lw_tbl) (hst : st.length ≤ 8) (hd1 : 1 ≤ d)
    (k : AW l G d h (pc + 3) L (.inl (if x < y then y else x) :: st) s post) : AW l G d h pc L (.inl y :: .inl x :: st) s post := by
  intro p e S m args below meth c H locs ls X K P I Z N
  refine va_mmax X.1 X.2.1 (X.2.2.2.1.trans N.1.symm) X.2.2.2.2.1 (X.2.2.2.2.2.1 _ hl rfl) (X.2.2.2.2.2.1 _ hsta rfl) (X.2.2.2.2.2.1 _ hini rfl) (X.2.2.2.2.2.1 _ hco rfl) hd1 ?_ (Nat.le_refl _) (Nat.le_refl _) hd (k p e S m args below meth c H locs ls X K P I Z N)
  rw [st_cat]
  show st.length + 13 ≤ 60 * d
  omega
theorem as_min {i : Nat} (hd : decode h.2.1 pc = .ok (.invokestatic i, 3)) (hl : Cond.methodLink h.1.cls i Lib.Math.min.name ∈ lw_tbl) (hsta : Cond.static Lib.Math.min.name ∈ lw_tbl) (hini : Cond.initialized "java/lang/Math" ∈ lw_tbl) (hco : Cond.code Lib.Math.min.name Lib.Math.min.code 2 (some .int) ∈ lw_tbl) (hst : st.length ≤ 8) (hd1 : 1 ≤ d)
    (k : AW l G d h (pc + 3) L (.inl (if y < x then y else x) :: st) s post) : AW l G d h pc L (.inl y :: .inl x :: st) s post := by
  intro p e S m args below meth c H locs ls X K P I Z N
  refine va_mmin X.1 X.2.1 (X.2.2.2.1.trans N.1.symm) X.2.2.2.2.1 (X.2.2.2.2.2.1 _ hl rfl) (X.2.2.2.2.2.1 _ hsta rfl) (X.2.2.2.2.2.1 _ hini rfl) (X.2.2.2.2.2.1 _ hco rfl) hd1 ?_ (Nat.le_refl _) (Nat.le_refl _) hd (k p e S m args below meth c H locs ls X K P I Z N)
  rw [st_cat]
  show st.length + 13 ≤ 60 * d
  omega
def swt (x : Int32) (K : Nat → Prop) (pc : Nat) : Int → List Int → Prop
  | _, [] => True
  | lo, o :: r => (x.toInt = lo → K ((pc : Int) + o).toNat) ∧ swt x K pc (lo + 1) r
theorem swt_at {x : Int32} {K : Nat → Prop} {pc : Nat} : ∀ {lo : Int} {os : List Int} {j : Nat} {o : Int}, swt x K pc lo os → os[j]? = some o → x.toInt = lo + j → K ((pc : Int) + o).toNat
  | lo, [], j, o, _, h1, _ => by simp at h1
  | lo, a :: r, 0, o, h, h1, h2 => by
    simp at h1
    subst h1
    exact h.1 (by simpa using h2)
  | lo, a :: r, j + 1, o, h, h1, h2 => swt_at (lo := lo + 1) (os := r) (j := j) h.2 (by simpa using h1) (by rw [h2]; push_cast; omega)
theorem as_tsw {dflt lo hi : Int} {offs : Array Int} {len tgt : Nat} (hd : decode h.2.1 pc = .ok (.tableswitch dflt lo hi offs, len)) (ht : (pc : Int) + dflt = (tgt : Int)) (hlen : hi + 1 = lo + offs.size) (hpos : ∀ o ∈ offs.toList, 0 ≤ (pc : Int) + o)
    (k1 : (x.toInt < lo ∨ hi < x.toInt) → AW l G d h tgt L st s post) (k2 : swt x (fun t => AW l G d h t L st s post) pc lo offs.toList) : AW l G d h pc L (.inl x :: st) s post := by
  intro p e S m args below meth c H locs ls X K P I Z N
  by_cases hx : x.toInt < lo ∨ hi < x.toInt
  · exact lv_tableOut X.1 X.2.1 hd hx ht (k1 hx p e S m args below meth c H locs ls X K P I Z N)
  · have hj : (x.toInt - lo).toNat < offs.size := by omega
    have ho : offs[(x.toInt - lo).toNat]? = some offs[(x.toInt - lo).toNat] := Array.getElem?_eq_getElem hj
    have h2 := hpos _ (Array.getElem_mem_toList hj)
    refine lv_tableIn X.1 X.2.1 hd (fun q => hx (Or.inl q)) (fun q => hx (Or.inr q)) ho (tgt := ((pc : Int) + offs[(x.toInt - lo).toNat]).toNat) (by omega) ?_
    exact swt_at k2 (by rw [Array.getElem?_toList]; exact ho) (by omega) p e S m args below meth c H locs ls X K P I Z N
end MA
theorem spec_of {l : Launch} {G : GG} {d : Nat} {h : HD} {As : List Vl} {s : Mem} {post : Int32 → Mem → Prop} (hin : Cond.code h.1 h.2.1 h.2.2.1 h.2.2.2 ∈ lw_tbl) (hp : plainName h.1.cls = true) (hl : As.length ≤ h.2.2.1) (k : AW l G d h 0 (As.map some ++ List.replicate (h.2.2.1 - As.length) none) [] s post) : Spec l G d h As s post := by
  refine ⟨hin, Met.ofW (cc := h.2.1) (maxL := h.2.2.1) (ret := h.2.2.2) hp rfl ?_⟩
  intro p e S m args below meth c s₁ B hml hv
  obtain ⟨rfl, hP, hK, hI, hN⟩ := hv
  have hts := atoms_spec (ws := Cond.code h.1 h.2.1 h.2.2.1 h.2.2.2 :: WSg) B.pre
  have X : CX p S m (As.map (vv G)).toArray meth c h := ⟨B.exec, B.bytes, B.returns, hml, findClass_of_methodNamed B.named, fun w hw hg => hts w (List.mem_cons_of_mem _ (List.mem_filter.mpr ⟨hw, hg⟩)), hN, B.notSynchronized⟩
  have lsl : ∀ A : List Vl, (lg_sl (A.map (vv G))).length = A.length := by
    intro A
    induction A with
    | nil => rfl
    | cons a r ih =>
      simp only [lg_sl, List.map_cons, List.flatMap_cons, vv_cat, List.length_append, List.length_cons] at ih ⊢
      simp [ih]
      omega
  have hle := lv_entry (As.map (vv G)) (n := h.2.2.1) (by rw [lsl]; exact hl)
  rw [lg_entry_eq]
  have arg : ∀ (A : List Vl) (n i : Nat) (v : Vl), A[i]? = some v → (n + i, vv G v) ∈ lv_args n (A.map (vv G)) := by
    intro A
    induction A with
    | nil => intro n i v hi; simp at hi
    | cons a r ih =>
      intro n i v hi
      cases i with
      | zero => simp at hi; subst hi; simp [lv_args]
      | succ i =>
        simp at hi
        have := ih (n + 1) i v hi
        simp only [List.map_cons, lv_args, vv_cat]
        refine List.mem_cons_of_mem _ ?_
        rw [show n + (i + 1) = n + 1 + i by omega]
        exact this
  refine k p e S m _ below meth c S.heap [] _ X hK hP hI va_S.rf ⟨hle.1, hle.2.1, fun i v hi => ?_⟩
  by_cases hil : i < (As.map some).length
  · rw [List.getElem?_append_left hil, List.getElem?_map] at hi
    cases ha : As[i]? with
    | none => rw [ha] at hi; cases hi
    | some w =>
      rw [ha] at hi
      cases hi
      have := hle.2.2 (0 + i, vv G v) (arg As 0 i v ha)
      simpa using this
  · rw [List.getElem?_append_right (by omega), List.getElem?_replicate] at hi
    split at hi <;> cases hi
end
section
/-! ===== what an instruction asks of what comes behind it; a run of instructions by one row ===== -/
def un1 (st : List Vl) (f : Int32 → List Vl → Prop) : Prop := match st with
  | .inl x :: r => f x r
  | _ => False
def bi2 (st : List Vl) (f : Int32 → Int32 → List Vl → Prop) : Prop := match st with
  | .inl y :: .inl x :: r => f x y r
  | _ => False
def ldI (L : LL) (i : Nat) (f : Int32 → Prop) : Prop := match L[i]? with
  | some (some (.inl x)) => f x
  | _ => False
def ldA (L : LL) (i : Nat) (f : Nat → Prop) : Prop := match L[i]? with
  | some (some (.inr x)) => f x
  | _ => False
def ob1 (st : List Vl) (f : Nat → List Vl → Prop) : Prop := match st with
  | .inr o :: r => f o r
  | _ => False
def obj (o : Nat) (f : Nat → List (Option Nat) → Prop) : Prop := match SHl[o]? with
  | some (.inr (ci, fs)) => f ci fs
  | _ => False
def arr (o t : Nat) (f : Nat → Prop) : Prop := match SHl[o]? with
  | some (.inl (t', n)) => match Nat.beq t t' with
    | true => f n
    | false => False
  | _ => False
def bt1 (b : Bool) (P : Prop) : Prop := match b with
  | true => P
  | false => False
def bool01 (x : Int32) : Prop := x = 0 ∨ x = 1
def sem (l : Launch) (G : GG) (d : Nat) (h : HD) (e : En) (pc : Nat) (L : LL) (st : List Vl) (s : Mem) (post : Int32 → Mem → Prop) (K : Nat → LL → List Vl → Mem → Prop) : Prop :=
  match e.1 with
  | .iconst _ => K (pc + 1) L (.inl e.2.2.2.2.1 :: st) s
  | .bipush _ => K (pc + 2) L (.inl e.2.2.2.2.1 :: st) s
  | .sipush _ => K (pc + 3) L (.inl e.2.2.2.2.1 :: st) s
  | .ldc _ => K (pc + 2) L (.inl e.2.2.2.2.1 :: st) s
  | .ldc_w _ => K (pc + 3) L (.inl e.2.2.2.2.1 :: st) s
  | .iload i => ldI L i (fun x => K (pc + 2) L (.inl x :: st) s)
  | .iload_n i => ldI L i (fun x => K (pc + 1) L (.inl x :: st) s)
  | .aload_n i => ldA L i (fun o => K (pc + 1) L (.inr o :: st) s)
  | .istore i => un1 st (fun x r => K (pc + 2) (L.set i (some (.inl x))) r s)
  | .istore_n i => un1 st (fun x r => K (pc + 1) (L.set i (some (.inl x))) r s)
  | .iinc i _ => ldI L i (fun x => K (pc + 3) (L.set i (some (.inl (x + e.2.2.2.2.1)))) st s)
  | .iadd => bi2 st (fun x y r => K (pc + 1) L (.inl (x + y) :: r) s)
  | .isub => bi2 st (fun x y r => K (pc + 1) L (.inl (x - y) :: r) s)
  | .imul => bi2 st (fun x y r => K (pc + 1) L (.inl (x * y) :: r) s)
  | .iand => bi2 st (fun x y r => K (pc + 1) L (.inl (x &&& y) :: r) s)
  | .ior => bi2 st (fun x y r => K (pc + 1) L (.inl (x ||| y) :: r) s)
  | .ixor => bi2 st (fun x y r => K (pc + 1) L (.inl (x ^^^ y) :: r) s)
  | .ishl => bi2 st (fun x y r => K (pc + 1) L (.inl (x <<< (y &&& 31)) :: r) s)
  | .ishr => bi2 st (fun x y r => K (pc + 1) L (.inl (x >>> (y &&& 31)) :: r) s)
  | .iushr => bi2 st (fun x y r => K (pc + 1) L (.inl ((x.toUInt32 >>> (y.toUInt32 &&& Int32.toUInt32 31)).toInt32) :: r) s)
  | .idiv => bi2 st (fun x y r => ¬ y = 0 ∧ K (pc + 1) L (.inl (x / y) :: r) s)
  | .irem => bi2 st (fun x y r => ¬ y = 0 ∧ K (pc + 1) L (.inl (x - x / y * y) :: r) s)
  | .ineg => un1 st (fun x r => K (pc + 1) L (.inl (-x) :: r) s)
  | .goto _ => K e.2.2.1 L st s
  | .dup => match st with
    | a :: r => K (pc + 1) L (a :: a :: r) s
    | _ => False
  | .dup2 => match st with
    | a :: b :: r => K (pc + 1) L (a :: b :: a :: b :: r) s
    | _ => False
  | .iaload => un1 st (fun x r => ob1 r (fun o r => arr o 0 (fun n => vp_in x n ∧ K (pc + 1) L (.inl (s o x.toNatClampNeg) :: r) s)))
  | .baload => un1 st (fun x r => ob1 r (fun o r => arr o 1 (fun n => vp_in x n ∧ K (pc + 1) L (.inl (s o x.toNatClampNeg) :: r) s)))
  | .iastore => bi2 st (fun y x r => ob1 r (fun o r => arr o 0 (fun n => vp_in y n ∧ K (pc + 1) L r (wrM s o y.toNatClampNeg x))))
  | .bastore => bi2 st (fun y x r => ob1 r (fun o r => arr o 1 (fun n => vp_in y n ∧ K (pc + 1) L r (wrM s o y.toNatClampNeg (vp_nar .boolean x)))))
  | .getfield _ => ob1 st (fun o r => obj o (fun ci fs => bt1 (Nat.beq ci e.2.2.1) (match fs[e.2.2.2.1]? with
    | some none => K (pc + 3) L (.inl (s o e.2.2.2.1) :: r) s
    | some (some q) => K (pc + 3) L (.inr q :: r) s
    | none => False)))
  | .putfield _ => un1 st (fun x r => ob1 r (fun o r => obj o (fun ci fs => bt1 (Nat.beq ci e.2.2.1) (match fs[e.2.2.2.1]? with
    | some none => match e.2.2.2.2.1 == 0 with
      | true => K (pc + 3) L r (wrM s o e.2.2.2.1 x)
      | false => bool01 x ∧ K (pc + 3) L r (wrM s o e.2.2.2.1 x)
    | _ => False))))
  | .ifCond .eq _ => un1 st (fun x r => (x = 0 → K e.2.2.1 L r s) ∧ (¬ x = 0 → K (pc + 3) L r s))
  | .ifCond .ne _ => un1 st (fun x r => (¬ x = 0 → K e.2.2.1 L r s) ∧ (x = 0 → K (pc + 3) L r s))
  | .ifCond .lt _ => un1 st (fun x r => (x < 0 → K e.2.2.1 L r s) ∧ (¬ x < 0 → K (pc + 3) L r s))
  | .ifCond .ge _ => un1 st (fun x r => (0 ≤ x → K e.2.2.1 L r s) ∧ (¬ 0 ≤ x → K (pc + 3) L r s))
  | .ifCond .gt _ => un1 st (fun x r => (0 < x → K e.2.2.1 L r s) ∧ (¬ 0 < x → K (pc + 3) L r s))
  | .ifCond .le _ => un1 st (fun x r => (x ≤ 0 → K e.2.2.1 L r s) ∧ (¬ x ≤ 0 → K (pc + 3) L r s))
  | .if_icmp .eq _ => bi2 st (fun x y r => (x = y → K e.2.2.1 L r s) ∧ (¬ x = y → K (pc + 3) L r s))
  | .if_icmp .ne _ => bi2 st (fun x y r => (¬ x = y → K e.2.2.1 L r s) ∧ (x = y → K (pc + 3) L r s))
  | .if_icmp .lt _ => bi2 st (fun x y r => (x < y → K e.2.2.1 L r s) ∧ (¬ x < y → K (pc + 3) L r s))
  | .if_icmp .ge _ => bi2 st (fun x y r => (y ≤ x → K e.2.2.1 L r s) ∧ (¬ y ≤ x → K (pc + 3) L r s))
  | .if_icmp .gt _ => bi2 st (fun x y r => (y < x → K e.2.2.1 L r s) ∧ (¬ y < x → K (pc + 3) L r s))
  | .if_icmp .le _ => bi2 st (fun x y r => (x ≤ y → K e.2.2.1 L r s) ∧ (¬ x ≤ y → K (pc + 3) L r s))
  | .tableswitch _ lo hi offs => un1 st (fun x r => ((x.toInt < lo ∨ hi < x.toInt) → K e.2.2.1 L r s) ∧ swt x (fun t => K t L r s) pc lo offs.toList)
  | .ireturn => match st with
    | [.inl x] => match h.2.2.2 with
      | some .int => post x s
      | some .boolean => bool01 x ∧ post x s
      | _ => False
    | _ => False
  | .return_ => match st, h.2.2.2 with
    | [], none => post 0 s
    | _, _ => False
  | .invokestatic _ => match Nat.beq e.2.2.1 9 with
    | true => match st with
      | .inl n :: .inl dp :: .inr a :: .inl sp :: .inr a0 :: r => bt1 (Nat.ble r.length 8) (arr a0 0 (fun n0 => arr a 0 (fun n1 => (1 ≤ d ∧ ¬ sp < 0 ∧ ¬ dp < 0 ∧ ¬ n < 0 ∧ sp.toNatClampNeg + n.toNatClampNeg ≤ n0 ∧ dp.toNatClampNeg + n.toNatClampNeg ≤ n1) ∧ K (pc + 3) L r (stM s a (va_cpy (s a0) (s a) sp.toNatClampNeg dp.toNatClampNeg n.toNatClampNeg)))))
      | _ => False
    | false => match Nat.beq e.2.2.1 8 with
      | true => bi2 st (fun x y r => bt1 (Nat.ble r.length 8) (1 ≤ d ∧ K (pc + 3) L (.inl (if x < y then y else x) :: r) s))
      | false => match Nat.beq e.2.2.1 7 with
        | true => bi2 st (fun x y r => bt1 (Nat.ble r.length 8) (1 ≤ d ∧ K (pc + 3) L (.inl (if y < x then y else x) :: r) s))
        | false => bt1 (Nat.ble e.2.2.2.1 st.length && Nat.ble (st.drop e.2.2.2.1).length 8) (∃ (d' : Nat) (Q : Int32 → Mem → Prop), d' < d ∧ Spec l G d' e.2.2.2.2.2.1 (st.take e.2.2.2.1).reverse s Q ∧ ∀ (r : Int32) (τ : Mem), Q r τ → K (pc + 3) L (pv e.2.2.2.2.2.1 r (st.drop e.2.2.2.1)) τ)
  | .invokevirtual _ => bt1 (Nat.ble e.2.2.2.1 st.length) (ob1 (st.drop e.2.2.2.1) (fun o r => obj o (fun ci _ => bt1 (Nat.beq ci e.2.2.1 && Nat.ble r.length 8) (∃ (d' : Nat) (Q : Int32 → Mem → Prop), d' < d ∧ Spec l G d' e.2.2.2.2.2.1 (.inr o :: (st.take e.2.2.2.1).reverse) s Q ∧ ∀ (r1 : Int32) (τ : Mem), Q r1 τ → K (pc + 3) L (pv e.2.2.2.2.2.1 r1 r) τ))))
  | _ => False
def bIn (i : Nat) (w : Cond) : Bool := decide (lw_tbl[i]? = some w)
def okF (hs : List Nat) (h : HD) (i ci j : Nat) : Bool := match vwCl[ci]? with
  | some q => decide (j < q.2.2) && (bIn (hs.getD 0 0) (.fieldLink h.1.cls i (q.2.1 j).1 (q.2.1 j).2.1 (q.2.1 j).2.2.1) || bIn (hs.getD 0 0) (.fieldLinkNest h.1.cls i (q.2.1 j).1 (q.2.1 j).2.1 (q.2.1 j).2.2.1 "CircusRoad"))
  | none => false
def okP (ci j : Nat) (v : Int32) : Bool := match vwCl[ci]? with
  | some q => !(q.2.1 j).2.2.2 && decide (parseFieldDescriptor (q.2.1 j).2.2.1 = some (if v = 0 then .int else .boolean))
  | none => false
def okM (hs : List Nat) (h hc : HD) (i n : Nat) : Bool := (bIn (hs.getD 0 0) (.methodLink h.1.cls i hc.1) || bIn (hs.getD 0 0) (.methodLinkNest h.1.cls i hc.1 "CircusRoad")) && bIn (hs.getD 1 0) (.initialized hc.1.cls) && decide (hc.1.cls ≠ "java/lang/invoke/MethodHandle" ∧ hc.1.cls ≠ "java/lang/invoke/VarHandle" ∧ (parseMethodDescriptor hc.1.desc).map (fun d => d.parameters.length) = some n) && Nat.ble hc.2.2.1 41
/-- an entry says what the bytes are, and its links stand among the tables' words -/
def okE (h : HD) (pc : Nat) (e : En) : Bool := decide (decode h.2.1 pc = .ok (e.1, e.2.1)) && match e.1 with
  | .iconst n => decide (Int32.ofInt n = e.2.2.2.2.1) && Nat.beq e.2.1 1
  | .bipush n => decide ((Int8.ofInt n).toInt32 = e.2.2.2.2.1) && Nat.beq e.2.1 2
  | .sipush n => decide ((Int16.ofInt n).toInt32 = e.2.2.2.2.1) && Nat.beq e.2.1 3
  | .ldc i => bIn (e.2.2.2.2.2.2.getD 0 0) (.constant h.1.cls i e.2.2.2.2.1) && Nat.beq e.2.1 2
  | .ldc_w i => bIn (e.2.2.2.2.2.2.getD 0 0) (.constant h.1.cls i e.2.2.2.2.1) && Nat.beq e.2.1 3
  | .iload _ => Nat.beq e.2.1 2
  | .istore i => decide (i < h.2.2.1) && Nat.beq e.2.1 2
  | .istore_n i => decide ((i : Nat) < h.2.2.1) && Nat.beq e.2.1 1
  | .iinc i n => decide (Int32.ofInt n = e.2.2.2.2.1) && decide (i < h.2.2.1) && Nat.beq e.2.1 3
  | .goto off => decide ((pc : Int) + off = (e.2.2.1 : Int)) && Nat.beq e.2.1 3
  | .ifCond _ off => decide ((pc : Int) + off = (e.2.2.1 : Int)) && Nat.beq e.2.1 3
  | .if_icmp _ off => decide ((pc : Int) + off = (e.2.2.1 : Int)) && Nat.beq e.2.1 3
  | .getfield i => okF e.2.2.2.2.2.2 h i e.2.2.1 e.2.2.2.1 && Nat.beq e.2.1 3
  | .putfield i => okF e.2.2.2.2.2.2 h i e.2.2.1 e.2.2.2.1 && okP e.2.2.1 e.2.2.2.1 e.2.2.2.2.1 && Nat.beq e.2.1 3
  | .tableswitch dflt lo hi offs => decide ((pc : Int) + dflt = (e.2.2.1 : Int)) && decide (hi + 1 = lo + offs.size) && offs.toList.all (fun o => decide (0 ≤ (pc : Int) + o))
  | .invokestatic i => Nat.beq e.2.1 3 && match Nat.beq e.2.2.1 9 with
    | true => bIn (e.2.2.2.2.2.2.getD 0 0) (.methodLink h.1.cls i arraycopyName) && bIn (e.2.2.2.2.2.2.getD 1 0) (.native arraycopyName) && bIn (e.2.2.2.2.2.2.getD 2 0) (.static arraycopyName) && bIn (e.2.2.2.2.2.2.getD 3 0) (.initialized "java/lang/System")
    | false => match Nat.beq e.2.2.1 8 with
      | true => bIn (e.2.2.2.2.2.2.getD 0 0) (.methodLink h.1.cls i Lib.Math.max.name) && bIn (e.2.2.2.2.2.2.getD 1 0) (.static Lib.Math.max.name) && bIn (e.2.2.2.2.2.2.getD 2 0) (.initialized "java/lang/Math") && bIn (e.2.2.2.2.2.2.getD 3 0) (.code Lib.Math.max.name Lib.Math.max.code 2 (some .int))
      | false => match Nat.beq e.2.2.1 7 with
        | true => bIn (e.2.2.2.2.2.2.getD 0 0) (.methodLink h.1.cls i Lib.Math.min.name) && bIn (e.2.2.2.2.2.2.getD 1 0) (.static Lib.Math.min.name) && bIn (e.2.2.2.2.2.2.getD 2 0) (.initialized "java/lang/Math") && bIn (e.2.2.2.2.2.2.getD 3 0) (.code Lib.Math.min.name Lib.Math.min.code 2 (some .int))
        | false => okM e.2.2.2.2.2.2 h e.2.2.2.2.2.1 i e.2.2.2.1 && bIn (e.2.2.2.2.2.2.getD 2 0) (.static e.2.2.2.2.2.1.1)
  | .invokevirtual i => Nat.beq e.2.1 3 && okM e.2.2.2.2.2.2 h e.2.2.2.2.2.1 i e.2.2.2.1 && bIn (e.2.2.2.2.2.2.getD 2 0) (.instanceMethod e.2.2.2.2.2.1.1) && bIn (e.2.2.2.2.2.2.getD 3 0) (.selects e.2.2.2.2.2.1.1.cls e.2.2.2.2.2.1.1 e.2.2.2.2.2.1.1) && (match vwCl[e.2.2.1]? with
    | some q => decide (q.1 = e.2.2.2.2.2.1.1.cls)
    | none => false)
  | _ => Nat.beq e.2.1 1
theorem un1_e {st : List Vl} {f : Int32 → List Vl → Prop} (h : un1 st f) : ∃ x r, st = .inl x :: r ∧ f x r := by
  match st, h with
  | .inl x :: r, h => exact ⟨x, r, rfl, h⟩
theorem bi2_e {st : List Vl} {f : Int32 → Int32 → List Vl → Prop} (h : bi2 st f) : ∃ x y r, st = .inl y :: .inl x :: r ∧ f x y r := by
  match st, h with
  | .inl y :: .inl x :: r, h => exact ⟨x, y, r, rfl, h⟩
theorem ob1_e {st : List Vl} {f : Nat → List Vl → Prop} (h : ob1 st f) : ∃ x r, st = .inr x :: r ∧ f x r := by
  match st, h with
  | .inr x :: r, h => exact ⟨x, r, rfl, h⟩
theorem ldI_e {L : LL} {i : Nat} {f : Int32 → Prop} (h : ldI L i f) : ∃ x, L[i]? = some (some (.inl x)) ∧ f x := by
  unfold ldI at h
  split at h
  · rename_i x hx; exact ⟨x, hx, h⟩
  · exact h.elim
theorem ldA_e {L : LL} {i : Nat} {f : Nat → Prop} (h : ldA L i f) : ∃ x, L[i]? = some (some (.inr x)) ∧ f x := by
  unfold ldA at h
  split at h
  · rename_i x hx; exact ⟨x, hx, h⟩
  · exact h.elim
theorem obj_e {o : Nat} {f : Nat → List (Option Nat) → Prop} (h : obj o f) : ∃ ci fs, SHl[o]? = some (.inr (ci, fs)) ∧ f ci fs := by
  unfold obj at h
  split at h
  · rename_i ci fs hx; exact ⟨ci, fs, hx, h⟩
  · exact h.elim
theorem arr_e {o t : Nat} {f : Nat → Prop} (h : arr o t f) : ∃ n, SHl[o]? = some (.inl (t, n)) ∧ f n := by
  unfold arr at h
  split at h
  · rename_i t' n hx
    split at h
    · rename_i ht
      have : t = t' := Nat.eq_of_beq_eq_true ht
      subst this
      exact ⟨n, hx, h⟩
    · exact h.elim
  · exact h.elim
theorem bt1_e {b : Bool} {P : Prop} (h : bt1 b P) : b = true ∧ P := by
  cases b
  · exact h.elim
  · exact ⟨rfl, h⟩
theorem b01_n {x : Int32} (h : bool01 x) : narrow .boolean (.int x) = .int x ∧ fits .boolean (.int x) = true := by
  rcases h with rfl | rfl <;> exact ⟨rfl, rfl⟩
theorem bIn_e {i : Nat} {w : Cond} (h : bIn i w = true) : w ∈ lw_tbl := List.mem_of_getElem? (of_decide_eq_true h)
theorem okF_e {hs : List Nat} {h : HD} {i ci j : Nat} (ho : okF hs h i ci j = true) : ∃ C T N, vwCl[ci]? = some (C, T, N) ∧ j < N ∧ lnkF h i (T j).1 (T j).2.1 (T j).2.2.1 := by
  unfold okF at ho
  split at ho
  · rename_i q hq
    simp only [Bool.and_eq_true, Bool.or_eq_true, decide_eq_true_eq] at ho
    exact ⟨q.1, q.2.1, q.2.2, hq, ho.1, ho.2.imp bIn_e bIn_e⟩
  · cases ho
theorem okP_e {ci j N : Nat} {v : Int32} {C : String} {T : u_T} (ho : okP ci j v = true) (hc : vwCl[ci]? = some (C, T, N)) : (T j).2.2.2 = false ∧ parseFieldDescriptor (T j).2.2.1 = some (if v = 0 then .int else .boolean) := by
  unfold okP at ho
  rw [hc] at ho
  simp only [Bool.and_eq_true, Bool.not_eq_true', decide_eq_true_eq] at ho
  exact ho
theorem okM_e {hs : List Nat} {h hc : HD} {i n : Nat} (ho : okM hs h hc i n = true) : lnkM h i hc.1 ∧ Cond.initialized hc.1.cls ∈ lw_tbl ∧ nameOk hc n ∧ hc.2.2.1 ≤ 41 := by
  simp only [okM, Bool.and_eq_true, Bool.or_eq_true, decide_eq_true_eq] at ho
  exact ⟨ho.1.1.1.imp bIn_e bIn_e, bIn_e ho.1.1.2, ho.1.2, Nat.le_of_ble_eq_true ho.2⟩
theorem swt_mono {x : Int32} {K K' : Nat → Prop} {pc : Nat} (hk : ∀ t, K t → K' t) : ∀ {lo : Int} {os : List Int}, swt x K pc lo os → swt x K' pc lo os
  | _, [], _ => trivial
  | lo, o :: r, h => ⟨fun q => hk _ (h.1 q), swt_mono hk h.2⟩
set_option maxHeartbeats 4000000 in
theorem sem_ok {l : Launch} {G : GG} {d : Nat} {h : HD} {e : En} {pc : Nat} {L : LL} {st : List Vl} {s : Mem} {post : Int32 → Mem → Prop} {K : Nat → LL → List Vl → Mem → Prop}
    (ho : okE h pc e = true) (hK : ∀ pc L st s, K pc L st s → AW l G d h pc L st s post) (hs : sem l G d h e pc L st s post K) : AW l G d h pc L st s post := by
  obtain ⟨ins, len, a, b, v, hc, hnt⟩ := e
  have hd : decode h.2.1 pc = .ok (ins, len) := by
    simp only [okE, Bool.and_eq_true, decide_eq_true_eq] at ho
    exact ho.1
  cases ins
  case iconst n =>
    simp only [okE, Bool.and_eq_true, decide_eq_true_eq] at ho
    obtain rfl : len = 1 := Nat.eq_of_beq_eq_true ho.2.2
    exact as_iconst hd ho.2.1 (hK _ _ _ _ hs)
  case bipush n =>
    simp only [okE, Bool.and_eq_true, decide_eq_true_eq] at ho
    obtain rfl : len = 2 := Nat.eq_of_beq_eq_true ho.2.2
    exact as_bipush hd ho.2.1 (hK _ _ _ _ hs)
  case sipush n =>
    simp only [okE, Bool.and_eq_true, decide_eq_true_eq] at ho
    obtain rfl : len = 3 := Nat.eq_of_beq_eq_true ho.2.2
    exact as_sipush hd ho.2.1 (hK _ _ _ _ hs)
  case ldc n =>
    simp only [okE, Bool.and_eq_true, decide_eq_true_eq] at ho
    obtain rfl : len = 2 := Nat.eq_of_beq_eq_true ho.2.2
    exact as_ldc hd (bIn_e ho.2.1) (hK _ _ _ _ hs)
  case ldc_w n =>
    simp only [okE, Bool.and_eq_true, decide_eq_true_eq] at ho
    obtain rfl : len = 3 := Nat.eq_of_beq_eq_true ho.2.2
    exact as_ldcw hd (bIn_e ho.2.1) (hK _ _ _ _ hs)
  case iload i =>
    simp only [okE, Bool.and_eq_true, decide_eq_true_eq] at ho
    obtain rfl : len = 2 := Nat.eq_of_beq_eq_true ho.2
    obtain ⟨x, hx, hs⟩ := ldI_e hs
    exact as_iload hd hx (hK _ _ _ _ hs)
  case iload_n i =>
    simp only [okE, Bool.and_eq_true, decide_eq_true_eq] at ho
    obtain rfl : len = 1 := Nat.eq_of_beq_eq_true ho.2
    obtain ⟨x, hx, hs⟩ := ldI_e hs
    exact as_iload_n hd hx (hK _ _ _ _ hs)
  case aload_n i =>
    simp only [okE, Bool.and_eq_true, decide_eq_true_eq] at ho
    obtain rfl : len = 1 := Nat.eq_of_beq_eq_true ho.2
    obtain ⟨x, hx, hs⟩ := ldA_e hs
    exact as_aload_n hd hx (hK _ _ _ _ hs)
  case istore i =>
    simp only [okE, Bool.and_eq_true, decide_eq_true_eq] at ho
    obtain rfl : len = 2 := Nat.eq_of_beq_eq_true ho.2.2
    obtain ⟨x, r, rfl, hs⟩ := un1_e hs
    exact as_istore hd ho.2.1 (hK _ _ _ _ hs)
  case istore_n i =>
    simp only [okE, Bool.and_eq_true, decide_eq_true_eq] at ho
    obtain rfl : len = 1 := Nat.eq_of_beq_eq_true ho.2.2
    obtain ⟨x, r, rfl, hs⟩ := un1_e hs
    exact as_istore_n hd ho.2.1 (hK _ _ _ _ hs)
  case iinc i n =>
    simp only [okE, Bool.and_eq_true, decide_eq_true_eq] at ho
    obtain rfl : len = 3 := Nat.eq_of_beq_eq_true ho.2.2
    obtain ⟨x, hx, hs⟩ := ldI_e hs
    exact as_iinc hd hx ho.2.1.1 ho.2.1.2 (hK _ _ _ _ hs)
  case iadd =>
    simp only [okE, Bool.and_eq_true, decide_eq_true_eq] at ho
    obtain rfl : len = 1 := Nat.eq_of_beq_eq_true ho.2
    obtain ⟨x, y, r, rfl, hs⟩ := bi2_e hs
    exact as_iadd hd (hK _ _ _ _ hs)
  case isub =>
    simp only [okE, Bool.and_eq_true, decide_eq_true_eq] at ho
    obtain rfl : len = 1 := Nat.eq_of_beq_eq_true ho.2
    obtain ⟨x, y, r, rfl, hs⟩ := bi2_e hs
    exact as_isub hd (hK _ _ _ _ hs)
  case imul =>
    simp only [okE, Bool.and_eq_true, decide_eq_true_eq] at ho
    obtain rfl : len = 1 := Nat.eq_of_beq_eq_true ho.2
    obtain ⟨x, y, r, rfl, hs⟩ := bi2_e hs
    exact as_imul hd (hK _ _ _ _ hs)
  case iand =>
    simp only [okE, Bool.and_eq_true, decide_eq_true_eq] at ho
    obtain rfl : len = 1 := Nat.eq_of_beq_eq_true ho.2
    obtain ⟨x, y, r, rfl, hs⟩ := bi2_e hs
    exact as_iand hd (hK _ _ _ _ hs)
  case ior =>
    simp only [okE, Bool.and_eq_true, decide_eq_true_eq] at ho
    obtain rfl : len = 1 := Nat.eq_of_beq_eq_true ho.2
    obtain ⟨x, y, r, rfl, hs⟩ := bi2_e hs
    exact as_ior hd (hK _ _ _ _ hs)
  case ixor =>
    simp only [okE, Bool.and_eq_true, decide_eq_true_eq] at ho
    obtain rfl : len = 1 := Nat.eq_of_beq_eq_true ho.2
    obtain ⟨x, y, r, rfl, hs⟩ := bi2_e hs
    exact as_ixor hd (hK _ _ _ _ hs)
  case ishl =>
    simp only [okE, Bool.and_eq_true, decide_eq_true_eq] at ho
    obtain rfl : len = 1 := Nat.eq_of_beq_eq_true ho.2
    obtain ⟨x, y, r, rfl, hs⟩ := bi2_e hs
    exact as_ishl hd (hK _ _ _ _ hs)
  case ishr =>
    simp only [okE, Bool.and_eq_true, decide_eq_true_eq] at ho
    obtain rfl : len = 1 := Nat.eq_of_beq_eq_true ho.2
    obtain ⟨x, y, r, rfl, hs⟩ := bi2_e hs
    exact as_ishr hd (hK _ _ _ _ hs)
  case iushr =>
    simp only [okE, Bool.and_eq_true, decide_eq_true_eq] at ho
    obtain rfl : len = 1 := Nat.eq_of_beq_eq_true ho.2
    obtain ⟨x, y, r, rfl, hs⟩ := bi2_e hs
    exact as_iushr hd (hK _ _ _ _ hs)
  case idiv =>
    simp only [okE, Bool.and_eq_true, decide_eq_true_eq] at ho
    obtain rfl : len = 1 := Nat.eq_of_beq_eq_true ho.2
    obtain ⟨x, y, r, rfl, h0, hs⟩ := bi2_e hs
    exact as_idiv hd h0 (hK _ _ _ _ hs)
  case irem =>
    simp only [okE, Bool.and_eq_true, decide_eq_true_eq] at ho
    obtain rfl : len = 1 := Nat.eq_of_beq_eq_true ho.2
    obtain ⟨x, y, r, rfl, h0, hs⟩ := bi2_e hs
    exact as_irem hd h0 (hK _ _ _ _ hs)
  case ineg =>
    simp only [okE, Bool.and_eq_true, decide_eq_true_eq] at ho
    obtain rfl : len = 1 := Nat.eq_of_beq_eq_true ho.2
    obtain ⟨x, r, rfl, hs⟩ := un1_e hs
    exact as_ineg hd (hK _ _ _ _ hs)
  case goto off =>
    simp only [okE, Bool.and_eq_true, decide_eq_true_eq] at ho
    obtain rfl : len = 3 := Nat.eq_of_beq_eq_true ho.2.2
    exact as_goto hd ho.2.1 (hK _ _ _ _ hs)
  case dup =>
    simp only [okE, Bool.and_eq_true, decide_eq_true_eq] at ho
    obtain rfl : len = 1 := Nat.eq_of_beq_eq_true ho.2
    match st, hs with
    | a :: r, hs => exact as_dup hd (hK _ _ _ _ hs)
  case dup2 =>
    simp only [okE, Bool.and_eq_true, decide_eq_true_eq] at ho
    obtain rfl : len = 1 := Nat.eq_of_beq_eq_true ho.2
    match st, hs with
    | a :: b :: r, hs => exact as_dup2 hd (hK _ _ _ _ hs)
  case iaload =>
    simp only [okE, Bool.and_eq_true, decide_eq_true_eq] at ho
    obtain rfl : len = 1 := Nat.eq_of_beq_eq_true ho.2
    obtain ⟨x, r, rfl, hs⟩ := un1_e hs
    obtain ⟨o, r, rfl, hs⟩ := ob1_e hs
    obtain ⟨n, hn, hi, hs⟩ := arr_e hs
    exact as_iaload hd hn hi (hK _ _ _ _ hs)
  case baload =>
    simp only [okE, Bool.and_eq_true, decide_eq_true_eq] at ho
    obtain rfl : len = 1 := Nat.eq_of_beq_eq_true ho.2
    obtain ⟨x, r, rfl, hs⟩ := un1_e hs
    obtain ⟨o, r, rfl, hs⟩ := ob1_e hs
    obtain ⟨n, hn, hi, hs⟩ := arr_e hs
    exact as_baload hd hn hi (hK _ _ _ _ hs)
  case iastore =>
    simp only [okE, Bool.and_eq_true, decide_eq_true_eq] at ho
    obtain rfl : len = 1 := Nat.eq_of_beq_eq_true ho.2
    obtain ⟨y, x, r, rfl, hs⟩ := bi2_e hs
    obtain ⟨o, r, rfl, hs⟩ := ob1_e hs
    obtain ⟨n, hn, hi, hs⟩ := arr_e hs
    exact as_iastore hd hn hi (hK _ _ _ _ hs)
  case bastore =>
    simp only [okE, Bool.and_eq_true, decide_eq_true_eq] at ho
    obtain rfl : len = 1 := Nat.eq_of_beq_eq_true ho.2
    obtain ⟨y, x, r, rfl, hs⟩ := bi2_e hs
    obtain ⟨o, r, rfl, hs⟩ := ob1_e hs
    obtain ⟨n, hn, hi, hs⟩ := arr_e hs
    exact as_bastore hd hn hi (hK _ _ _ _ hs)
  case getfield i =>
    simp only [okE, Bool.and_eq_true, decide_eq_true_eq] at ho
    obtain rfl : len = 3 := Nat.eq_of_beq_eq_true ho.2.2
    obtain ⟨C, T, N, hcl, hj, hl⟩ := okF_e ho.2.1
    obtain ⟨o, r, rfl, hs⟩ := ob1_e hs
    obtain ⟨ci, fs, hob, hs⟩ := obj_e hs
    obtain ⟨hci, hs⟩ := bt1_e hs
    have hci : ci = a := Nat.eq_of_beq_eq_true hci
    subst hci
    dsimp only at hs hcl hj hl
    split at hs
    · rename_i hf
      exact as_get hd hob hcl hj hl hf (.inl (s o b)) rfl (hK _ _ _ _ hs)
    · rename_i q hf
      exact as_get hd hob hcl hj hl hf (.inr q) rfl (hK _ _ _ _ hs)
    · exact hs.elim
  case putfield i =>
    simp only [okE, Bool.and_eq_true, decide_eq_true_eq] at ho
    obtain rfl : len = 3 := Nat.eq_of_beq_eq_true ho.2.2
    obtain ⟨C, T, N, hcl, hj, hl⟩ := okF_e ho.2.1.1
    obtain ⟨hfin, hty⟩ := okP_e ho.2.1.2 hcl
    obtain ⟨x, r, rfl, hs⟩ := un1_e hs
    obtain ⟨o, r, rfl, hs⟩ := ob1_e hs
    obtain ⟨ci, fs, hob, hs⟩ := obj_e hs
    obtain ⟨hci, hs⟩ := bt1_e hs
    have hci : ci = a := Nat.eq_of_beq_eq_true hci
    subst hci
    dsimp only at hs hcl hj hl hfin hty
    split at hs
    · rename_i hf
      by_cases hv : v = 0
      · rw [if_pos hv] at hty
        have hvb : (v == 0) = true := by simp [hv]
        rw [hvb] at hs
        exact as_put hd hob hcl hj hl hf hfin hty rfl rfl (hK _ _ _ _ hs)
      · rw [if_neg hv] at hty
        have hvb : (v == 0) = false := by simp [hv]
        rw [hvb] at hs
        obtain ⟨h01, hs⟩ := hs
        exact as_put hd hob hcl hj hl hf hfin hty (b01_n h01).1 (b01_n h01).2 (hK _ _ _ _ hs)
    · exact hs.elim
  case ifCond cnd off =>
    simp only [okE, Bool.and_eq_true, decide_eq_true_eq] at ho
    obtain rfl : len = 3 := Nat.eq_of_beq_eq_true ho.2.2
    cases cnd
    all_goals
      obtain ⟨x, r, rfl, h1, h2⟩ := un1_e hs
      first
        | exact as_if_eq hd ho.2.1 (fun q => hK _ _ _ _ (h1 q)) (fun q => hK _ _ _ _ (h2 q))
        | exact as_if_ne hd ho.2.1 (fun q => hK _ _ _ _ (h1 q)) (fun q => hK _ _ _ _ (h2 q))
        | exact as_if_lt hd ho.2.1 (fun q => hK _ _ _ _ (h1 q)) (fun q => hK _ _ _ _ (h2 q))
        | exact as_if_ge hd ho.2.1 (fun q => hK _ _ _ _ (h1 q)) (fun q => hK _ _ _ _ (h2 q))
        | exact as_if_gt hd ho.2.1 (fun q => hK _ _ _ _ (h1 q)) (fun q => hK _ _ _ _ (h2 q))
        | exact as_if_le hd ho.2.1 (fun q => hK _ _ _ _ (h1 q)) (fun q => hK _ _ _ _ (h2 q))
  case if_icmp cnd off =>
    simp only [okE, Bool.and_eq_true, decide_eq_true_eq] at ho
    obtain rfl : len = 3 := Nat.eq_of_beq_eq_true ho.2.2
    cases cnd
    all_goals
      obtain ⟨x, y, r, rfl, h1, h2⟩ := bi2_e hs
      first
        | exact as_icmp_eq hd ho.2.1 (fun q => hK _ _ _ _ (h1 q)) (fun q => hK _ _ _ _ (h2 q))
        | exact as_icmp_ne hd ho.2.1 (fun q => hK _ _ _ _ (h1 q)) (fun q => hK _ _ _ _ (h2 q))
        | exact as_icmp_lt hd ho.2.1 (fun q => hK _ _ _ _ (h1 q)) (fun q => hK _ _ _ _ (h2 q))
        | exact as_icmp_ge hd ho.2.1 (fun q => hK _ _ _ _ (h1 q)) (fun q => hK _ _ _ _ (h2 q))
        | exact as_icmp_gt hd ho.2.1 (fun q => hK _ _ _ _ (h1 q)) (fun q => hK _ _ _ _ (h2 q))
        | exact as_icmp_le hd ho.2.1 (fun q => hK _ _ _ _ (h1 q)) (fun q => hK _ _ _ _ (h2 q))
  case tableswitch dflt lo hi offs =>
    simp only [okE, Bool.and_eq_true, decide_eq_true_eq, List.all_eq_true] at ho
    obtain ⟨x, r, rfl, h1, h2⟩ := un1_e hs
    exact as_tsw hd ho.2.1.1 ho.2.1.2 ho.2.2 (fun q => hK _ _ _ _ (h1 q)) (swt_mono (fun t q => hK _ _ _ _ q) h2)
  case ireturn =>
    simp only [okE, Bool.and_eq_true, decide_eq_true_eq] at ho
    obtain rfl : len = 1 := Nat.eq_of_beq_eq_true ho.2
    match st, hs with
    | [.inl x], hs =>
      dsimp only [sem] at hs
      split at hs
      · rename_i hr
        exact as_iret hd hr rfl hs
      · rename_i hr
        exact as_iret hd hr (b01_n hs.1).1 hs.2
      · exact hs.elim
  case return_ =>
    simp only [okE, Bool.and_eq_true, decide_eq_true_eq] at ho
    obtain rfl : len = 1 := Nat.eq_of_beq_eq_true ho.2
    dsimp only [sem] at hs
    split at hs
    · rename_i hr
      exact as_vret hd hr hs
    · exact hs.elim
  case invokestatic i =>
    dsimp only [okE] at ho
    simp only [Bool.and_eq_true, decide_eq_true_eq] at ho
    obtain rfl : len = 3 := Nat.eq_of_beq_eq_true ho.2.1
    have ho2 := ho.2.2
    dsimp only [sem] at hs
    cases ha : Nat.beq a 9 with
    | true =>
      rw [ha] at ho2 hs
      simp only [Bool.and_eq_true, decide_eq_true_eq] at ho2
      dsimp only at hs
      split at hs
      · obtain ⟨hb1, hs⟩ := bt1_e hs
        obtain ⟨n0, hn0, hs⟩ := arr_e hs
        obtain ⟨n1, hn1, ⟨p0, p1, p2, p3, p4, p5⟩, hs⟩ := arr_e hs
        exact as_copy hd (bIn_e ho2.1.1.1) (bIn_e ho2.1.1.2) (bIn_e ho2.1.2) (bIn_e ho2.2) hn0 hn1 p1 p2 p3 p4 p5 (Nat.le_of_ble_eq_true hb1) p0 (hK _ _ _ _ hs)
      · exact hs.elim
    | false =>
      rw [ha] at ho2 hs
      dsimp only at hs ho2
      cases hb8 : Nat.beq a 8 with
      | true =>
        rw [hb8] at ho2 hs
        dsimp only at hs ho2
        simp only [Bool.and_eq_true] at ho2
        obtain ⟨x, y, r, rfl, hs1⟩ := bi2_e hs
        obtain ⟨hb1, h1d, hs2⟩ := bt1_e hs1
        exact as_max hd (bIn_e ho2.1.1.1) (bIn_e ho2.1.1.2) (bIn_e ho2.1.2) (bIn_e ho2.2) (Nat.le_of_ble_eq_true hb1) h1d (hK _ _ _ _ hs2)
      | false =>
        rw [hb8] at ho2 hs
        dsimp only at hs ho2
        cases hb7 : Nat.beq a 7 with
        | true =>
          rw [hb7] at ho2 hs
          dsimp only at hs ho2
          simp only [Bool.and_eq_true] at ho2
          obtain ⟨x, y, r, rfl, hs1⟩ := bi2_e hs
          obtain ⟨hb1, h1d, hs2⟩ := bt1_e hs1
          exact as_min hd (bIn_e ho2.1.1.1) (bIn_e ho2.1.1.2) (bIn_e ho2.1.2) (bIn_e ho2.2) (Nat.le_of_ble_eq_true hb1) h1d (hK _ _ _ _ hs2)
        | false =>
          rw [hb7] at ho2 hs
          simp only [Bool.and_eq_true, decide_eq_true_eq] at ho2
          dsimp only at hs ho2
          obtain ⟨hm1, hm2, hm3, hm4⟩ := okM_e ho2.1
          obtain ⟨hb1, d', Q, hlt, M, hs⟩ := bt1_e hs
          simp only [Bool.and_eq_true] at hb1
          have h1 := Nat.le_of_ble_eq_true hb1.1
          have h2 := Nat.le_of_ble_eq_true hb1.2
          have e1 : (st.take b).reverse.reverse ++ st.drop b = st := by rw [List.reverse_reverse, List.take_append_drop]
          have hlen : (st.take b).reverse.length = b := by simp; omega
          have := as_callS (st := st.drop b) hd hlt hm1 (bIn_e ho2.2) hm2 (by rw [hlen]; exact hm3) hm4 h2 M (fun r τ q => hK _ _ _ _ (hs r τ q))
          rw [e1] at this
          exact this
  case invokevirtual i =>
    dsimp only [okE] at ho
    simp only [Bool.and_eq_true, decide_eq_true_eq] at ho
    obtain rfl : len = 3 := Nat.eq_of_beq_eq_true ho.2.1.1.1.1
    obtain ⟨hm1, hm2, hm3, hm4⟩ := okM_e ho.2.1.1.1.2
    dsimp only [sem] at hs
    obtain ⟨hb0, hs⟩ := bt1_e hs
    obtain ⟨o, r, hdr, hs⟩ := ob1_e hs
    obtain ⟨ci, fs, hob, hs⟩ := obj_e hs
    obtain ⟨hb1, d', Q, hlt, M, hs2⟩ := bt1_e hs
    simp only [Bool.and_eq_true] at hb1
    have hci : ci = a := Nat.eq_of_beq_eq_true hb1.1
    subst hci
    have h2 := Nat.le_of_ble_eq_true hb1.2
    have h1 := Nat.le_of_ble_eq_true hb0
    have hcl := ho.2.2
    split at hcl
    · rename_i q hq
      have hq1 : q.1 = hc.1.cls := of_decide_eq_true hcl
      have hq2 : vwCl[ci]? = some (hc.1.cls, q.2.1, q.2.2) := by rw [hq, ← hq1]
      have e1 : (st.take b).reverse.reverse ++ .inr o :: r = st := by rw [List.reverse_reverse, ← hdr, List.take_append_drop]
      have hlen : (st.take b).reverse.length = b := by simp; omega
      have := as_callV (st := r) hd hlt hob hq2 hm1 (bIn_e ho.2.1.1.2) (bIn_e ho.2.1.2) hm2 (by rw [hlen]; exact hm3) hm4 h2 M (fun r τ q => hK _ _ _ _ (hs2 r τ q))
      rw [e1] at this
      exact this
    · cases hcl
  all_goals exact hs.elim
def tbOk (h : HD) (tb : List (Option En)) : Prop := ∀ pc e, tb[pc]? = some (some e) → okE h pc e = true
def wps (l : Launch) (G : GG) (d : Nat) (h : HD) (tb : List (Option En)) (cut : List Nat) (post : Int32 → Mem → Prop) : Nat → Nat → LL → List Vl → Mem → Prop
  | 0, pc, L, st, s => AW l G d h pc L st s post
  | n + 1, pc, L, st, s => match tb[pc]? with
    | some (some e) => sem l G d h e pc L st s post (fun pc L st s => match cut.elem pc with
      | true => AW l G d h pc L st s post
      | false => wps l G d h tb cut post n pc L st s)
    | _ => False
theorem wps_ok {l : Launch} {G : GG} {d : Nat} {h : HD} {tb : List (Option En)} {cut : List Nat} {post : Int32 → Mem → Prop} (ho : tbOk h tb) : ∀ (n pc : Nat) (L : LL) (st : List Vl) (s : Mem), wps l G d h tb cut post n pc L st s → AW l G d h pc L st s post
  | 0, _, _, _, _, q => q
  | n + 1, pc, L, st, s, q => by
    unfold wps at q
    split at q
    · rename_i e he
      refine sem_ok (ho pc e he) ?_ q
      intro pc L st s q
      split at q
      · exact q
      · exact wps_ok ho n pc L st s q
    · exact q.elim
theorem tbOk_of {h : HD} {tb : List (Option En)} (q : (tb.mapIdx (fun pc o => match o with
    | some e => okE h pc e
    | none => true)).all id = true) : tbOk h tb := by
  intro pc e he
  have := List.all_eq_true.mp q _ (List.mem_of_getElem? (i := pc) (by rw [List.getElem?_mapIdx, he]; rfl))
  exact this
end
section
def hNone : HD := (⟨"", "", ""⟩, ⟨#[]⟩, 0, none)
def hX0_refresh : HD := (yX0_refresh, cX0_refresh, 1, none)
def hX0_extend : HD := (yX0_extend, cX0_extend, 3, none)
def hX0_keep : HD := (yX0_keep, cX0_keep, 1, none)
def hX0_canWin : HD := (yX0_canWin, cX0_canWin, 3, (some .boolean))
def hX0_leastGapsBehind : HD := (yX0_leastGapsBehind, cX0_leastGapsBehind, 4, (some .int))
def hX0_mostWorthBehind : HD := (yX0_mostWorthBehind, cX0_mostWorthBehind, 6, (some .int))
def hX0_readLeastChanges : HD := (yX0_readLeastChanges, cX0_readLeastChanges, 4, none)
def hX0_sortByWorth : HD := (yX0_sortByWorth, cX0_sortByWorth, 3, none)
def hX1_refresh : HD := (yX1_refresh, cX1_refresh, 1, none)
def hX1_extend : HD := (yX1_extend, cX1_extend, 3, none)
def hX1_put : HD := (yX1_put, cX1_put, 4, (some .boolean))
def hX1_nightAt : HD := (yX1_nightAt, cX1_nightAt, 3, (some .int))
def hX1_keepIfBetter : HD := (yX1_keepIfBetter, cX1_keepIfBetter, 2, none)
def hX1_isBetter : HD := (yX1_isBetter, cX1_isBetter, 3, (some .boolean))
def hX1_canWin : HD := (yX1_canWin, cX1_canWin, 5, (some .boolean))
def hX2_canBeTold : HD := (yX2_canBeTold, cX2_canBeTold, 4, (some .boolean))
def hX2_read : HD := (yX2_read, cX2_read, 6, (some .int))
def hX2_put : HD := (yX2_put, cX2_put, 4, (some .int))
def hX2_breakAt : HD := (yX2_breakAt, cX2_breakAt, 5, (some .int))
def hX2_set : HD := (yX2_set, cX2_set, 5, none)
def hX3_has : HD := (yX3_has, cX3_has, 2, (some .boolean))
def hX3_add : HD := (yX3_add, cX3_add, 5, (some .int))
def hX3_join : HD := (yX3_join, cX3_join, 4, (some .boolean))
def hX3_measure : HD := (yX3_measure, cX3_measure, 4, none)
def hX3_goBy : HD := (yX3_goBy, cX3_goBy, 7, none)
def hX3_leastHours : HD := (yX3_leastHours, cX3_leastHours, 3, (some .int))
def hX3_nightBehind : HD := (yX3_nightBehind, cX3_nightBehind, 7, (some .int))
def hX4_add : HD := (yX4_add, cX4_add, 5, (some .int))
def hX4_canBe : HD := (yX4_canBe, cX4_canBe, 4, (some .boolean))
def hX4_setRest : HD := (yX4_setRest, cX4_setRest, 4, (some .boolean))
def hX4_setBan : HD := (yX4_setBan, cX4_setBan, 4, (some .boolean))
def hX4_isBanned : HD := (yX4_isBanned, cX4_isBanned, 3, (some .boolean))
def hX4_isClowns : HD := (yX4_isClowns, cX4_isClowns, 2, (some .boolean))
def hX5_isWind : HD := (yX5_isWind, cX5_isWind, 1, (some .boolean))
def hX5_setLoad : HD := (yX5_setLoad, cX5_setLoad, 3, (some .boolean))
def hX5_setShare : HD := (yX5_setShare, cX5_setShare, 4, (some .boolean))
def hX5_sharesBeside : HD := (yX5_sharesBeside, cX5_sharesBeside, 5, (some .int))
def hX5_setExposed : HD := (yX5_setExposed, cX5_setExposed, 3, (some .boolean))
def hX5_isUp : HD := (yX5_isUp, cX5_isUp, 3, (some .boolean))
def hX5_ropesUp : HD := (yX5_ropesUp, cX5_ropesUp, 3, (some .int))
def hX5_settle : HD := (yX5_settle, cX5_settle, 4, none)
def hX5_hang : HD := (yX5_hang, cX5_hang, 5, none)
def hX5_firstThatPushes : HD := (yX5_firstThatPushes, cX5_firstThatPushes, 2, (some .int))
def hX5_slacken : HD := (yX5_slacken, cX5_slacken, 4, none)
def hX5_ropesThatBear : HD := (yX5_ropesThatBear, cX5_ropesThatBear, 3, (some .int))
def hX5_spread : HD := (yX5_spread, cX5_spread, 5, none)
def hX6_add : HD := (yX6_add, cX6_add, 4, (some .int))
def hX6_foretell : HD := (yX6_foretell, cX6_foretell, 3, none)
def hX6_gather : HD := (yX6_gather, cX6_gather, 7, none)
def hX6_reduce : HD := (yX6_reduce, cX6_reduce, 2, none)
def hX6_commonDivisor : HD := (yX6_commonDivisor, cX6_commonDivisor, 6, (some .int))
def hX7_act : HD := (yX7_act, cX7_act, 4, (some .int))
def hX7_rests : HD := (yX7_rests, cX7_rests, 3, (some .boolean))
def hX7_ban : HD := (yX7_ban, cX7_ban, 4, (some .boolean))
def hX7_judge : HD := (yX7_judge, cX7_judge, 5, (some .int))
def hX7_gaps : HD := (yX7_gaps, cX7_gaps, 3, (some .int))
def hX7_best : HD := (yX7_best, cX7_best, 1, (some .int))
def hX7_bestAt : HD := (yX7_bestAt, cX7_bestAt, 2, (some .int))
def hX7_load : HD := (yX7_load, cX7_load, 3, (some .boolean))
def hX7_share : HD := (yX7_share, cX7_share, 4, (some .boolean))
def hX7_exposed : HD := (yX7_exposed, cX7_exposed, 3, (some .boolean))
def hX7_part : HD := (yX7_part, cX7_part, 3, (some .int))
def hX7_slack : HD := (yX7_slack, cX7_slack, 3, (some .boolean))
def hX7_gone : HD := (yX7_gone, cX7_gone, 2, (some .int))
def hX7_town : HD := (yX7_town, cX7_town, 4, (some .int))
def hX7_way : HD := (yX7_way, cX7_way, 4, (some .boolean))
def hX7_hours : HD := (yX7_hours, cX7_hours, 3, (some .int))
def hX7_route : HD := (yX7_route, cX7_route, 1, (some .int))
def hX7_routeAt : HD := (yX7_routeAt, cX7_routeAt, 3, (some .int))
def hX7_took : HD := (yX7_took, cX7_took, 4, (some .int))
def hX7_foretold : HD := (yX7_foretold, cX7_foretold, 4, (some .int))
def hX7_count : HD := (yX7_count, cX7_count, 2, (some .int))
def hX7_isIn : HD := (yX7_isIn, cX7_isIn, 2, (some .boolean))
def hX8_in : HD := (yX8_in, cX8_in, 3, (some .boolean))
def hX8_bits : HD := (yX8_bits, cX8_bits, 3, (some .int))
def hX8_act : HD := (yX8_act, cX8_act, 6, (some .int))
def hX8_rests : HD := (yX8_rests, cX8_rests, 3, (some .boolean))
def hX8_ban : HD := (yX8_ban, cX8_ban, 4, (some .boolean))
def hX8_breaksAt : HD := (yX8_breaksAt, cX8_breaksAt, 5, (some .int))
def hX8_reads : HD := (yX8_reads, cX8_reads, 5, (some .boolean))
def hX8_judge : HD := (yX8_judge, cX8_judge, 6, (some .int))
def hX8_gapsOf : HD := (yX8_gapsOf, cX8_gapsOf, 8, (some .int))
def hX8_gaps : HD := (yX8_gaps, cX8_gaps, 3, (some .int))
def hX8_seeks : HD := (yX8_seeks, cX8_seeks, 6, (some .boolean))
def hX8_best : HD := (yX8_best, cX8_best, 1, (some .int))
def hX8_bestAt : HD := (yX8_bestAt, cX8_bestAt, 2, (some .int))
def hX8_load : HD := (yX8_load, cX8_load, 3, (some .boolean))
def hX8_share : HD := (yX8_share, cX8_share, 6, (some .boolean))
def hX8_exposed : HD := (yX8_exposed, cX8_exposed, 3, (some .boolean))
def hX8_isUp : HD := (yX8_isUp, cX8_isUp, 4, (some .boolean))
def hX8_hangs : HD := (yX8_hangs, cX8_hangs, 4, none)
def hX8_slackens : HD := (yX8_slackens, cX8_slackens, 6, none)
def hX8_isWind : HD := (yX8_isWind, cX8_isWind, 1, (some .boolean))
def hX8_part : HD := (yX8_part, cX8_part, 3, (some .int))
def hX8_slack : HD := (yX8_slack, cX8_slack, 3, (some .boolean))
def hX8_gone : HD := (yX8_gone, cX8_gone, 2, (some .int))
def hX8_isTown : HD := (yX8_isTown, cX8_isTown, 2, (some .boolean))
def hX8_town : HD := (yX8_town, cX8_town, 4, (some .int))
def hX8_way : HD := (yX8_way, cX8_way, 4, (some .boolean))
def hX8_reckons : HD := (yX8_reckons, cX8_reckons, 5, none)
def hX8_hours : HD := (yX8_hours, cX8_hours, 3, (some .int))
def hX8_nightOf : HD := (yX8_nightOf, cX8_nightOf, 5, (some .int))
def hX8_goes : HD := (yX8_goes, cX8_goes, 8, (some .int))
def hX8_route : HD := (yX8_route, cX8_route, 1, (some .int))
def hX8_routeAt : HD := (yX8_routeAt, cX8_routeAt, 3, (some .int))
def hX8_took : HD := (yX8_took, cX8_took, 4, (some .int))
def hX8_foretold : HD := (yX8_foretold, cX8_foretold, 9, (some .int))
def hX8_count : HD := (yX8_count, cX8_count, 4, (some .int))
def hJ6_bitCount_0f7a4 : HD := (yJ6_bitCount_0f7a4, cJ6_bitCount_0f7a4, 1, (some .int))
def tX0_refresh : List (Option En) := [some (.aload_n 0, 1, 0, 0, 0, hNone, []), some (.getfield 34, 3, 0, 2, 0, hNone, [174]), none, none, some (.aload_n 0, 1, 0, 0, 0, hNone, []), some (.getfield 9, 3, 0, 0, 0, hNone, [172]), none, none, some (.getfield 38, 3, 4, 8, 0, hNone, [104]), none, none, some (.if_icmp .ne 4, 3, 15, 0, 0, hNone, []), none, none, some (.return_, 1, 0, 0, 0, hNone, []), some (.aload_n 0, 1, 0, 0, 0, hNone, []), some (.aload_n 0, 1, 0, 0, 0, hNone, []), some (.getfield 9, 3, 0, 0, 0, hNone, [172]), none, none, some (.getfield 38, 3, 4, 8, 0, hNone, [104]), none, none, some (.putfield 34, 3, 0, 2, 0, hNone, [174]), none, none, some (.aload_n 0, 1, 0, 0, 0, hNone, []), some (.iconst 0, 1, 0, 0, 0, hNone, []), some (.putfield 43, 3, 0, 3, 1, hNone, [175]), none, none, some (.aload_n 0, 1, 0, 0, 0, hNone, []), some (.invokevirtual 47, 3, 0, 0, 0, hX0_readLeastChanges, [439, 60, 441, 10]), none, none, some (.aload_n 0, 1, 0, 0, 0, hNone, []), some (.invokevirtual 50, 3, 0, 0, 0, hX0_sortByWorth, [448, 60, 450, 11]), none, none, some (.aload_n 0, 1, 0, 0, 0, hNone, []), some (.getfield 9, 3, 0, 0, 0, hNone, [172]), none, none, some (.getfield 53, 3, 4, 0, 0, hNone, [84]), none, none, some (.ifCond .le 8, 3, 54, 0, 0, hNone, []), none, none, some (.aload_n 0, 1, 0, 0, 0, hNone, []), some (.iconst 0, 1, 0, 0, 0, hNone, []), some (.invokestatic 56, 3, 0, 2, 0, hX0_extend, [452, 60, 453]), none, none, some (.return_, 1, 0, 0, 0, hNone, [])]
set_option maxRecDepth 100000 in
theorem oX0_refresh : tbOk hX0_refresh tX0_refresh := tbOk_of (by decide +kernel)
theorem iX0_refresh : Cond.code hX0_refresh.1 hX0_refresh.2.1 hX0_refresh.2.2.1 hX0_refresh.2.2.2 ∈ lw_tbl := List.mem_of_getElem? (i := 438) (by decide +kernel)
def tX0_extend : List (Option En) := [some (.iload_n 1, 1, 0, 0, 0, hNone, []), some (.bipush 8, 2, 0, 0, 8, hNone, []), none, some (.if_icmp .ge 14, 3, 17, 0, 0, hNone, []), none, none, some (.iload_n 1, 1, 0, 0, 0, hNone, []), some (.aload_n 0, 1, 0, 0, 0, hNone, []), some (.getfield 9, 3, 0, 0, 0, hNone, [172]), none, none, some (.getfield 53, 3, 4, 0, 0, hNone, [84]), none, none, some (.if_icmp .lt 8, 3, 22, 0, 0, hNone, []), none, none, some (.aload_n 0, 1, 0, 0, 0, hNone, []), some (.invokevirtual 60, 3, 0, 0, 0, hX0_keep, [455, 60, 457, 12]), none, none, some (.return_, 1, 0, 0, 0, hNone, []), some (.iconst 0, 1, 0, 0, 0, hNone, []), some (.istore_n 2, 1, 0, 0, 0, hNone, []), some (.iload_n 2, 1, 0, 0, 0, hNone, []), some (.aload_n 0, 1, 0, 0, 0, hNone, []), some (.getfield 9, 3, 0, 0, 0, hNone, [172]), none, none, some (.getfield 53, 3, 4, 0, 0, hNone, [84]), none, none, some (.if_icmp .ge 38, 3, 70, 0, 0, hNone, []), none, none, some (.aload_n 0, 1, 0, 0, 0, hNone, []), some (.getfield 20, 3, 0, 1, 0, hNone, [173]), none, none, some (.iload_n 1, 1, 0, 0, 0, hNone, []), some (.iload_n 2, 1, 0, 0, 0, hNone, []), some (.invokevirtual 63, 3, 2, 2, 0, hX2_put, [462, 59, 402, 5]), none, none, some (.ifCond .ne 20, 3, 64, 0, 0, hNone, []), none, none, some (.aload_n 0, 1, 0, 0, 0, hNone, []), some (.iload_n 1, 1, 0, 0, 0, hNone, []), some (.iconst 1, 1, 0, 0, 1, hNone, []), some (.iadd, 1, 0, 0, 0, hNone, []), some (.invokevirtual 67, 3, 0, 1, 0, hX0_canWin, [463, 60, 465, 13]), none, none, some (.ifCond .eq 10, 3, 64, 0, 0, hNone, []), none, none, some (.aload_n 0, 1, 0, 0, 0, hNone, []), some (.iload_n 1, 1, 0, 0, 0, hNone, []), some (.iconst 1, 1, 0, 0, 1, hNone, []), some (.iadd, 1, 0, 0, 0, hNone, []), some (.invokestatic 56, 3, 0, 2, 0, hX0_extend, [452, 60, 453]), none, none, some (.iinc 2 1, 3, 0, 0, 1, hNone, []), none, none, some (.goto (-43), 3, 24, 0, 0, hNone, []), none, none, some (.return_, 1, 0, 0, 0, hNone, [])]
set_option maxRecDepth 100000 in
theorem oX0_extend : tbOk hX0_extend tX0_extend := tbOk_of (by decide +kernel)
theorem iX0_extend : Cond.code hX0_extend.1 hX0_extend.2.1 hX0_extend.2.2.1 hX0_extend.2.2.2 ∈ lw_tbl := List.mem_of_getElem? (i := 454) (by decide +kernel)
def tX0_keep : List (Option En) := [some (.aload_n 0, 1, 0, 0, 0, hNone, []), some (.iconst 1, 1, 0, 0, 1, hNone, []), some (.putfield 43, 3, 0, 3, 1, hNone, [175]), none, none, some (.aload_n 0, 1, 0, 0, 0, hNone, []), some (.aload_n 0, 1, 0, 0, 0, hNone, []), some (.getfield 20, 3, 0, 1, 0, hNone, [173]), none, none, some (.getfield 71, 3, 2, 5, 0, hNone, [141]), none, none, some (.aload_n 0, 1, 0, 0, 0, hNone, []), some (.getfield 9, 3, 0, 0, 0, hNone, [172]), none, none, some (.getfield 53, 3, 4, 0, 0, hNone, [84]), none, none, some (.iaload, 1, 0, 0, 0, hNone, []), some (.putfield 74, 3, 0, 4, 0, hNone, [177]), none, none, some (.aload_n 0, 1, 0, 0, 0, hNone, []), some (.aload_n 0, 1, 0, 0, 0, hNone, []), some (.getfield 20, 3, 0, 1, 0, hNone, [173]), none, none, some (.getfield 77, 3, 2, 6, 0, hNone, [144]), none, none, some (.aload_n 0, 1, 0, 0, 0, hNone, []), some (.getfield 9, 3, 0, 0, 0, hNone, [172]), none, none, some (.getfield 53, 3, 4, 0, 0, hNone, [84]), none, none, some (.iaload, 1, 0, 0, 0, hNone, []), some (.putfield 80, 3, 0, 5, 0, hNone, [179]), none, none, some (.aload_n 0, 1, 0, 0, 0, hNone, []), some (.getfield 20, 3, 0, 1, 0, hNone, [173]), none, none, some (.getfield 83, 3, 2, 1, 0, hNone, [134]), none, none, some (.iconst 0, 1, 0, 0, 0, hNone, []), some (.aload_n 0, 1, 0, 0, 0, hNone, []), some (.getfield 24, 3, 0, 6, 0, hNone, [180]), none, none, some (.iconst 0, 1, 0, 0, 0, hNone, []), some (.bipush 8, 2, 0, 0, 8, hNone, []), none, some (.invokestatic 84, 3, 9, 0, 0, hNone, [459, 461, 460, 68]), none, none, some (.return_, 1, 0, 0, 0, hNone, [])]
set_option maxRecDepth 100000 in
theorem oX0_keep : tbOk hX0_keep tX0_keep := tbOk_of (by decide +kernel)
theorem iX0_keep : Cond.code hX0_keep.1 hX0_keep.2.1 hX0_keep.2.2.1 hX0_keep.2.2.2 ∈ lw_tbl := List.mem_of_getElem? (i := 458) (by decide +kernel)
def tX0_canWin : List (Option En) := [some (.aload_n 0, 1, 0, 0, 0, hNone, []), some (.getfield 43, 3, 0, 3, 0, hNone, [175]), none, none, some (.ifCond .ne 5, 3, 9, 0, 0, hNone, []), none, none, some (.iconst 1, 1, 0, 0, 1, hNone, []), some (.ireturn, 1, 0, 0, 0, hNone, []), some (.aload_n 0, 1, 0, 0, 0, hNone, []), some (.getfield 20, 3, 0, 1, 0, hNone, [173]), none, none, some (.getfield 71, 3, 2, 5, 0, hNone, [141]), none, none, some (.iload_n 1, 1, 0, 0, 0, hNone, []), some (.iaload, 1, 0, 0, 0, hNone, []), some (.aload_n 0, 1, 0, 0, 0, hNone, []), some (.iload_n 1, 1, 0, 0, 0, hNone, []), some (.invokevirtual 90, 3, 0, 1, 0, hX0_leastGapsBehind, [467, 60, 469, 14]), none, none, some (.iadd, 1, 0, 0, 0, hNone, []), some (.istore_n 2, 1, 0, 0, 0, hNone, []), some (.iload_n 2, 1, 0, 0, 0, hNone, []), some (.aload_n 0, 1, 0, 0, 0, hNone, []), some (.getfield 74, 3, 0, 4, 0, hNone, [177]), none, none, some (.if_icmp .eq 17, 3, 47, 0, 0, hNone, []), none, none, some (.iload_n 2, 1, 0, 0, 0, hNone, []), some (.aload_n 0, 1, 0, 0, 0, hNone, []), some (.getfield 74, 3, 0, 4, 0, hNone, [177]), none, none, some (.if_icmp .ge 7, 3, 45, 0, 0, hNone, []), none, none, some (.iconst 1, 1, 0, 0, 1, hNone, []), some (.goto 4, 3, 46, 0, 0, hNone, []), none, none, some (.iconst 0, 1, 0, 0, 0, hNone, []), some (.ireturn, 1, 0, 0, 0, hNone, []), some (.aload_n 0, 1, 0, 0, 0, hNone, []), some (.getfield 20, 3, 0, 1, 0, hNone, [173]), none, none, some (.getfield 77, 3, 2, 6, 0, hNone, [144]), none, none, some (.iload_n 1, 1, 0, 0, 0, hNone, []), some (.iaload, 1, 0, 0, 0, hNone, []), some (.aload_n 0, 1, 0, 0, 0, hNone, []), some (.iload_n 1, 1, 0, 0, 0, hNone, []), some (.invokevirtual 94, 3, 0, 1, 0, hX0_mostWorthBehind, [472, 60, 474, 15]), none, none, some (.iadd, 1, 0, 0, 0, hNone, []), some (.aload_n 0, 1, 0, 0, 0, hNone, []), some (.getfield 80, 3, 0, 5, 0, hNone, [179]), none, none, some (.if_icmp .le 7, 3, 73, 0, 0, hNone, []), none, none, some (.iconst 1, 1, 0, 0, 1, hNone, []), some (.goto 4, 3, 74, 0, 0, hNone, []), none, none, some (.iconst 0, 1, 0, 0, 0, hNone, []), some (.ireturn, 1, 0, 0, 0, hNone, [])]
set_option maxRecDepth 100000 in
theorem oX0_canWin : tbOk hX0_canWin tX0_canWin := tbOk_of (by decide +kernel)
theorem iX0_canWin : Cond.code hX0_canWin.1 hX0_canWin.2.1 hX0_canWin.2.2.1 hX0_canWin.2.2.2 ∈ lw_tbl := List.mem_of_getElem? (i := 466) (by decide +kernel)
def tX0_leastGapsBehind : List (Option En) := [some (.aload_n 0, 1, 0, 0, 0, hNone, []), some (.getfield 20, 3, 0, 1, 0, hNone, [173]), none, none, some (.getfield 97, 3, 2, 4, 0, hNone, [139]), none, none, some (.iload_n 1, 1, 0, 0, 0, hNone, []), some (.iaload, 1, 0, 0, 0, hNone, []), some (.ineg, 1, 0, 0, 0, hNone, []), some (.istore_n 2, 1, 0, 0, 0, hNone, []), some (.iconst 0, 1, 0, 0, 0, hNone, []), some (.istore_n 3, 1, 0, 0, 0, hNone, []), some (.iload_n 3, 1, 0, 0, 0, hNone, []), some (.aload_n 0, 1, 0, 0, 0, hNone, []), some (.getfield 9, 3, 0, 0, 0, hNone, [172]), none, none, some (.getfield 53, 3, 4, 0, 0, hNone, [84]), none, none, some (.if_icmp .ge 58, 3, 79, 0, 0, hNone, []), none, none, some (.aload_n 0, 1, 0, 0, 0, hNone, []), some (.getfield 20, 3, 0, 1, 0, hNone, [173]), none, none, some (.getfield 100, 3, 2, 2, 0, hNone, [136]), none, none, some (.iload_n 1, 1, 0, 0, 0, hNone, []), some (.iaload, 1, 0, 0, 0, hNone, []), some (.iload_n 3, 1, 0, 0, 0, hNone, []), some (.ishr, 1, 0, 0, 0, hNone, []), some (.iconst 1, 1, 0, 0, 1, hNone, []), some (.iand, 1, 0, 0, 0, hNone, []), some (.ifCond .ne 36, 3, 73, 0, 0, hNone, []), none, none, some (.iload_n 2, 1, 0, 0, 0, hNone, []), some (.aload_n 0, 1, 0, 0, 0, hNone, []), some (.getfield 9, 3, 0, 0, 0, hNone, [172]), none, none, some (.iload_n 3, 1, 0, 0, 0, hNone, []), some (.invokevirtual 103, 3, 4, 1, 0, hX4_isClowns, [444, 58, 416, 8]), none, none, some (.ifCond .eq 16, 3, 65, 0, 0, hNone, []), none, none, some (.aload_n 0, 1, 0, 0, 0, hNone, []), some (.getfield 9, 3, 0, 0, 0, hNone, [172]), none, none, some (.getfield 106, 3, 4, 1, 0, hNone, [88]), none, none, some (.iload_n 3, 1, 0, 0, 0, hNone, []), some (.iaload, 1, 0, 0, 0, hNone, []), some (.ineg, 1, 0, 0, 0, hNone, []), some (.goto 9, 3, 71, 0, 0, hNone, []), none, none, some (.aload_n 0, 1, 0, 0, 0, hNone, []), some (.getfield 28, 3, 0, 7, 0, hNone, [182]), none, none, some (.iload_n 3, 1, 0, 0, 0, hNone, []), some (.iaload, 1, 0, 0, 0, hNone, []), some (.iadd, 1, 0, 0, 0, hNone, []), some (.istore_n 2, 1, 0, 0, 0, hNone, []), some (.iinc 3 1, 3, 0, 0, 1, hNone, []), none, none, some (.goto (-63), 3, 13, 0, 0, hNone, []), none, none, some (.iconst 0, 1, 0, 0, 0, hNone, []), some (.iload_n 2, 1, 0, 0, 0, hNone, []), some (.invokestatic 109, 3, 8, 0, 0, hNone, [471, 425, 67, 426]), none, none, some (.ireturn, 1, 0, 0, 0, hNone, [])]
set_option maxRecDepth 100000 in
theorem oX0_leastGapsBehind : tbOk hX0_leastGapsBehind tX0_leastGapsBehind := tbOk_of (by decide +kernel)
theorem iX0_leastGapsBehind : Cond.code hX0_leastGapsBehind.1 hX0_leastGapsBehind.2.1 hX0_leastGapsBehind.2.2.1 hX0_leastGapsBehind.2.2.2 ∈ lw_tbl := List.mem_of_getElem? (i := 470) (by decide +kernel)
def tX0_mostWorthBehind : List (Option En) := [some (.iconst 0, 1, 0, 0, 0, hNone, []), some (.istore_n 2, 1, 0, 0, 0, hNone, []), some (.iload_n 1, 1, 0, 0, 0, hNone, []), some (.istore_n 3, 1, 0, 0, 0, hNone, []), some (.iconst 0, 1, 0, 0, 0, hNone, []), some (.istore 4, 2, 0, 0, 0, hNone, []), none, some (.iload 4, 2, 0, 0, 0, hNone, []), none, some (.aload_n 0, 1, 0, 0, 0, hNone, []), some (.getfield 9, 3, 0, 0, 0, hNone, [172]), none, none, some (.getfield 53, 3, 4, 0, 0, hNone, [84]), none, none, some (.if_icmp .ge 53, 3, 69, 0, 0, hNone, []), none, none, some (.aload_n 0, 1, 0, 0, 0, hNone, []), some (.getfield 31, 3, 0, 8, 0, hNone, [183]), none, none, some (.iload 4, 2, 0, 0, 0, hNone, []), none, some (.iaload, 1, 0, 0, 0, hNone, []), some (.istore 5, 2, 0, 0, 0, hNone, []), none, some (.aload_n 0, 1, 0, 0, 0, hNone, []), some (.getfield 20, 3, 0, 1, 0, hNone, [173]), none, none, some (.getfield 100, 3, 2, 2, 0, hNone, [136]), none, none, some (.iload_n 1, 1, 0, 0, 0, hNone, []), some (.iaload, 1, 0, 0, 0, hNone, []), some (.iload 5, 2, 0, 0, 0, hNone, []), none, some (.ishr, 1, 0, 0, 0, hNone, []), some (.iconst 1, 1, 0, 0, 1, hNone, []), some (.iand, 1, 0, 0, 0, hNone, []), some (.ifCond .ne 21, 3, 63, 0, 0, hNone, []), none, none, some (.iinc 3 1, 3, 0, 0, 1, hNone, []), none, none, some (.iload_n 2, 1, 0, 0, 0, hNone, []), some (.aload_n 0, 1, 0, 0, 0, hNone, []), some (.getfield 9, 3, 0, 0, 0, hNone, [172]), none, none, some (.getfield 114, 3, 4, 3, 0, hNone, [94]), none, none, some (.iload 5, 2, 0, 0, 0, hNone, []), none, some (.iaload, 1, 0, 0, 0, hNone, []), some (.iload_n 3, 1, 0, 0, 0, hNone, []), some (.imul, 1, 0, 0, 0, hNone, []), some (.iadd, 1, 0, 0, 0, hNone, []), some (.istore_n 2, 1, 0, 0, 0, hNone, []), some (.iinc 4 1, 3, 0, 0, 1, hNone, []), none, none, some (.goto (-59), 3, 7, 0, 0, hNone, []), none, none, some (.iload_n 2, 1, 0, 0, 0, hNone, []), some (.ireturn, 1, 0, 0, 0, hNone, [])]
set_option maxRecDepth 100000 in
theorem oX0_mostWorthBehind : tbOk hX0_mostWorthBehind tX0_mostWorthBehind := tbOk_of (by decide +kernel)
theorem iX0_mostWorthBehind : Cond.code hX0_mostWorthBehind.1 hX0_mostWorthBehind.2.1 hX0_mostWorthBehind.2.2.1 hX0_mostWorthBehind.2.2.2 ∈ lw_tbl := List.mem_of_getElem? (i := 475) (by decide +kernel)
def tX0_readLeastChanges : List (Option En) := [some (.iconst 0, 1, 0, 0, 0, hNone, []), some (.istore_n 1, 1, 0, 0, 0, hNone, []), some (.iload_n 1, 1, 0, 0, 0, hNone, []), some (.aload_n 0, 1, 0, 0, 0, hNone, []), some (.getfield 9, 3, 0, 0, 0, hNone, [172]), none, none, some (.getfield 53, 3, 4, 0, 0, hNone, [84]), none, none, some (.if_icmp .ge 93, 3, 103, 0, 0, hNone, []), none, none, some (.aload_n 0, 1, 0, 0, 0, hNone, []), some (.getfield 9, 3, 0, 0, 0, hNone, [172]), none, none, some (.getfield 117, 3, 4, 5, 0, hNone, [99]), none, none, some (.iload_n 1, 1, 0, 0, 0, hNone, []), some (.iaload, 1, 0, 0, 0, hNone, []), some (.invokestatic 120, 3, 0, 1, 0, hJ6_bitCount_0f7a4, [443, 66, 419]), none, none, some (.istore_n 2, 1, 0, 0, 0, hNone, []), some (.iconst 0, 1, 0, 0, 0, hNone, []), some (.istore_n 3, 1, 0, 0, 0, hNone, []), some (.iload_n 3, 1, 0, 0, 0, hNone, []), some (.aload_n 0, 1, 0, 0, 0, hNone, []), some (.getfield 9, 3, 0, 0, 0, hNone, [172]), none, none, some (.getfield 53, 3, 4, 0, 0, hNone, [84]), none, none, some (.if_icmp .ge 52, 3, 88, 0, 0, hNone, []), none, none, some (.iload_n 3, 1, 0, 0, 0, hNone, []), some (.iload_n 1, 1, 0, 0, 0, hNone, []), some (.if_icmp .eq 41, 3, 82, 0, 0, hNone, []), none, none, some (.aload_n 0, 1, 0, 0, 0, hNone, []), some (.getfield 9, 3, 0, 0, 0, hNone, [172]), none, none, some (.iload_n 3, 1, 0, 0, 0, hNone, []), some (.invokevirtual 103, 3, 4, 1, 0, hX4_isClowns, [444, 58, 416, 8]), none, none, some (.ifCond .ne 30, 3, 82, 0, 0, hNone, []), none, none, some (.iload_n 2, 1, 0, 0, 0, hNone, []), some (.aload_n 0, 1, 0, 0, 0, hNone, []), some (.getfield 9, 3, 0, 0, 0, hNone, [172]), none, none, some (.getfield 117, 3, 4, 5, 0, hNone, [99]), none, none, some (.iload_n 3, 1, 0, 0, 0, hNone, []), some (.iaload, 1, 0, 0, 0, hNone, []), some (.aload_n 0, 1, 0, 0, 0, hNone, []), some (.getfield 9, 3, 0, 0, 0, hNone, [172]), none, none, some (.getfield 117, 3, 4, 5, 0, hNone, [99]), none, none, some (.iload_n 1, 1, 0, 0, 0, hNone, []), some (.iaload, 1, 0, 0, 0, hNone, []), some (.ixor, 1, 0, 0, 0, hNone, []), some (.invokestatic 120, 3, 0, 1, 0, hJ6_bitCount_0f7a4, [443, 66, 419]), none, none, some (.invokestatic 125, 3, 7, 0, 0, hNone, [445, 446, 67, 447]), none, none, some (.istore_n 2, 1, 0, 0, 0, hNone, []), some (.iinc 3 1, 3, 0, 0, 1, hNone, []), none, none, some (.goto (-57), 3, 28, 0, 0, hNone, []), none, none, some (.aload_n 0, 1, 0, 0, 0, hNone, []), some (.getfield 28, 3, 0, 7, 0, hNone, [182]), none, none, some (.iload_n 1, 1, 0, 0, 0, hNone, []), some (.iconst 2, 1, 0, 0, 2, hNone, []), some (.iload_n 2, 1, 0, 0, 0, hNone, []), some (.imul, 1, 0, 0, 0, hNone, []), some (.iastore, 1, 0, 0, 0, hNone, []), some (.iinc 1 1, 3, 0, 0, 1, hNone, []), none, none, some (.goto (-98), 3, 2, 0, 0, hNone, []), none, none, some (.return_, 1, 0, 0, 0, hNone, [])]
set_option maxRecDepth 100000 in
theorem oX0_readLeastChanges : tbOk hX0_readLeastChanges tX0_readLeastChanges := tbOk_of (by decide +kernel)
theorem iX0_readLeastChanges : Cond.code hX0_readLeastChanges.1 hX0_readLeastChanges.2.1 hX0_readLeastChanges.2.2.1 hX0_readLeastChanges.2.2.2 ∈ lw_tbl := List.mem_of_getElem? (i := 442) (by decide +kernel)
def tX0_sortByWorth : List (Option En) := [some (.iconst 0, 1, 0, 0, 0, hNone, []), some (.istore_n 1, 1, 0, 0, 0, hNone, []), some (.iload_n 1, 1, 0, 0, 0, hNone, []), some (.aload_n 0, 1, 0, 0, 0, hNone, []), some (.getfield 9, 3, 0, 0, 0, hNone, [172]), none, none, some (.getfield 53, 3, 4, 0, 0, hNone, [84]), none, none, some (.if_icmp .ge 70, 3, 80, 0, 0, hNone, []), none, none, some (.iload_n 1, 1, 0, 0, 0, hNone, []), some (.istore_n 2, 1, 0, 0, 0, hNone, []), some (.iload_n 2, 1, 0, 0, 0, hNone, []), some (.ifCond .le 51, 3, 67, 0, 0, hNone, []), none, none, some (.aload_n 0, 1, 0, 0, 0, hNone, []), some (.getfield 9, 3, 0, 0, 0, hNone, [172]), none, none, some (.getfield 114, 3, 4, 3, 0, hNone, [94]), none, none, some (.aload_n 0, 1, 0, 0, 0, hNone, []), some (.getfield 31, 3, 0, 8, 0, hNone, [183]), none, none, some (.iload_n 2, 1, 0, 0, 0, hNone, []), some (.iconst 1, 1, 0, 0, 1, hNone, []), some (.isub, 1, 0, 0, 0, hNone, []), some (.iaload, 1, 0, 0, 0, hNone, []), some (.iaload, 1, 0, 0, 0, hNone, []), some (.aload_n 0, 1, 0, 0, 0, hNone, []), some (.getfield 9, 3, 0, 0, 0, hNone, [172]), none, none, some (.getfield 114, 3, 4, 3, 0, hNone, [94]), none, none, some (.iload_n 1, 1, 0, 0, 0, hNone, []), some (.iaload, 1, 0, 0, 0, hNone, []), some (.if_icmp .le 23, 3, 67, 0, 0, hNone, []), none, none, some (.aload_n 0, 1, 0, 0, 0, hNone, []), some (.getfield 31, 3, 0, 8, 0, hNone, [183]), none, none, some (.iload_n 2, 1, 0, 0, 0, hNone, []), some (.aload_n 0, 1, 0, 0, 0, hNone, []), some (.getfield 31, 3, 0, 8, 0, hNone, [183]), none, none, some (.iload_n 2, 1, 0, 0, 0, hNone, []), some (.iconst 1, 1, 0, 0, 1, hNone, []), some (.isub, 1, 0, 0, 0, hNone, []), some (.iaload, 1, 0, 0, 0, hNone, []), some (.iastore, 1, 0, 0, 0, hNone, []), some (.iinc 2 (-1), 3, 0, 0, (-1), hNone, []), none, none, some (.goto (-49), 3, 15, 0, 0, hNone, []), none, none, some (.aload_n 0, 1, 0, 0, 0, hNone, []), some (.getfield 31, 3, 0, 8, 0, hNone, [183]), none, none, some (.iload_n 2, 1, 0, 0, 0, hNone, []), some (.iload_n 1, 1, 0, 0, 0, hNone, []), some (.iastore, 1, 0, 0, 0, hNone, []), some (.iinc 1 1, 3, 0, 0, 1, hNone, []), none, none, some (.goto (-75), 3, 2, 0, 0, hNone, []), none, none, some (.return_, 1, 0, 0, 0, hNone, [])]
set_option maxRecDepth 100000 in
theorem oX0_sortByWorth : tbOk hX0_sortByWorth tX0_sortByWorth := tbOk_of (by decide +kernel)
theorem iX0_sortByWorth : Cond.code hX0_sortByWorth.1 hX0_sortByWorth.2.1 hX0_sortByWorth.2.2.1 hX0_sortByWorth.2.2.2 ∈ lw_tbl := List.mem_of_getElem? (i := 451) (by decide +kernel)
def tX1_refresh : List (Option En) := [some (.aload_n 0, 1, 0, 0, 0, hNone, []), some (.getfield 34, 3, 1, 1, 0, hNone, [275]), none, none, some (.aload_n 0, 1, 0, 0, 0, hNone, []), some (.getfield 9, 3, 1, 0, 0, hNone, [274]), none, none, some (.getfield 38, 3, 3, 6, 0, hNone, [251]), none, none, some (.if_icmp .ne 4, 3, 15, 0, 0, hNone, []), none, none, some (.return_, 1, 0, 0, 0, hNone, []), some (.aload_n 0, 1, 0, 0, 0, hNone, []), some (.aload_n 0, 1, 0, 0, 0, hNone, []), some (.getfield 9, 3, 1, 0, 0, hNone, [274]), none, none, some (.getfield 38, 3, 3, 6, 0, hNone, [251]), none, none, some (.putfield 34, 3, 1, 1, 0, hNone, [275]), none, none, some (.aload_n 0, 1, 0, 0, 0, hNone, []), some (.iconst 0, 1, 0, 0, 0, hNone, []), some (.putfield 43, 3, 1, 2, 0, hNone, [276]), none, none, some (.aload_n 0, 1, 0, 0, 0, hNone, []), some (.iconst 0, 1, 0, 0, 0, hNone, []), some (.putfield 46, 3, 1, 3, 0, hNone, [278]), none, none, some (.aload_n 0, 1, 0, 0, 0, hNone, []), some (.iconst 0, 1, 0, 0, 0, hNone, []), some (.invokestatic 49, 3, 0, 2, 0, hX1_extend, [600, 63, 601]), none, none, some (.return_, 1, 0, 0, 0, hNone, [])]
set_option maxRecDepth 100000 in
theorem oX1_refresh : tbOk hX1_refresh tX1_refresh := tbOk_of (by decide +kernel)
theorem iX1_refresh : Cond.code hX1_refresh.1 hX1_refresh.2.1 hX1_refresh.2.2.1 hX1_refresh.2.2.2 ∈ lw_tbl := List.mem_of_getElem? (i := 599) (by decide +kernel)
def tX1_extend : List (Option En) := [some (.aload_n 0, 1, 0, 0, 0, hNone, []), some (.iload_n 1, 1, 0, 0, 0, hNone, []), some (.invokevirtual 53, 3, 1, 1, 0, hX1_keepIfBetter, [603, 63, 605, 34]), none, none, some (.iload_n 1, 1, 0, 0, 0, hNone, []), some (.bipush 8, 2, 0, 0, 8, hNone, []), none, some (.if_icmp .lt 4, 3, 12, 0, 0, hNone, []), none, none, some (.return_, 1, 0, 0, 0, hNone, []), some (.iconst 0, 1, 0, 0, 0, hNone, []), some (.istore_n 2, 1, 0, 0, 0, hNone, []), some (.iload_n 2, 1, 0, 0, 0, hNone, []), some (.aload_n 0, 1, 0, 0, 0, hNone, []), some (.getfield 9, 3, 1, 0, 0, hNone, [274]), none, none, some (.getfield 57, 3, 3, 0, 0, hNone, [242]), none, none, some (.if_icmp .ge 35, 3, 57, 0, 0, hNone, []), none, none, some (.aload_n 0, 1, 0, 0, 0, hNone, []), some (.iload_n 1, 1, 0, 0, 0, hNone, []), some (.iload_n 2, 1, 0, 0, 0, hNone, []), some (.invokevirtual 60, 3, 1, 2, 0, hX1_put, [612, 63, 614, 36]), none, none, some (.ifCond .eq 20, 3, 51, 0, 0, hNone, []), none, none, some (.aload_n 0, 1, 0, 0, 0, hNone, []), some (.iload_n 1, 1, 0, 0, 0, hNone, []), some (.iconst 1, 1, 0, 0, 1, hNone, []), some (.iadd, 1, 0, 0, 0, hNone, []), some (.invokevirtual 64, 3, 1, 1, 0, hX1_canWin, [626, 63, 628, 39]), none, none, some (.ifCond .eq 10, 3, 51, 0, 0, hNone, []), none, none, some (.aload_n 0, 1, 0, 0, 0, hNone, []), some (.iload_n 1, 1, 0, 0, 0, hNone, []), some (.iconst 1, 1, 0, 0, 1, hNone, []), some (.iadd, 1, 0, 0, 0, hNone, []), some (.invokestatic 49, 3, 0, 2, 0, hX1_extend, [600, 63, 601]), none, none, some (.iinc 2 1, 3, 0, 0, 1, hNone, []), none, none, some (.goto (-40), 3, 14, 0, 0, hNone, []), none, none, some (.return_, 1, 0, 0, 0, hNone, [])]
set_option maxRecDepth 100000 in
theorem oX1_extend : tbOk hX1_extend tX1_extend := tbOk_of (by decide +kernel)
theorem iX1_extend : Cond.code hX1_extend.1 hX1_extend.2.1 hX1_extend.2.2.1 hX1_extend.2.2.2 ∈ lw_tbl := List.mem_of_getElem? (i := 602) (by decide +kernel)
def tX1_put : List (Option En) := [some (.aload_n 0, 1, 0, 0, 0, hNone, []), some (.iload_n 1, 1, 0, 0, 0, hNone, []), some (.iload_n 2, 1, 0, 0, 0, hNone, []), some (.invokevirtual 68, 3, 1, 2, 0, hX1_nightAt, [616, 63, 618, 37]), none, none, some (.istore_n 3, 1, 0, 0, 0, hNone, []), some (.iload_n 3, 1, 0, 0, 0, hNone, []), some (.iconst (-1), 1, 0, 0, (-1), hNone, []), some (.if_icmp .ne 5, 3, 14, 0, 0, hNone, []), none, none, some (.iconst 0, 1, 0, 0, 0, hNone, []), some (.ireturn, 1, 0, 0, 0, hNone, []), some (.aload_n 0, 1, 0, 0, 0, hNone, []), some (.getfield 22, 3, 1, 6, 0, hNone, [283]), none, none, some (.iload_n 1, 1, 0, 0, 0, hNone, []), some (.iload_n 2, 1, 0, 0, 0, hNone, []), some (.iastore, 1, 0, 0, 0, hNone, []), some (.aload_n 0, 1, 0, 0, 0, hNone, []), some (.getfield 25, 3, 1, 7, 0, hNone, [284]), none, none, some (.iload_n 1, 1, 0, 0, 0, hNone, []), some (.iload_n 3, 1, 0, 0, 0, hNone, []), some (.iastore, 1, 0, 0, 0, hNone, []), some (.aload_n 0, 1, 0, 0, 0, hNone, []), some (.getfield 28, 3, 1, 8, 0, hNone, [285]), none, none, some (.iload_n 1, 1, 0, 0, 0, hNone, []), some (.iconst 1, 1, 0, 0, 1, hNone, []), some (.iadd, 1, 0, 0, 0, hNone, []), some (.aload_n 0, 1, 0, 0, 0, hNone, []), some (.getfield 28, 3, 1, 8, 0, hNone, [285]), none, none, some (.iload_n 1, 1, 0, 0, 0, hNone, []), some (.iaload, 1, 0, 0, 0, hNone, []), some (.iconst 1, 1, 0, 0, 1, hNone, []), some (.iload_n 2, 1, 0, 0, 0, hNone, []), some (.ishl, 1, 0, 0, 0, hNone, []), some (.ior, 1, 0, 0, 0, hNone, []), some (.iastore, 1, 0, 0, 0, hNone, []), some (.aload_n 0, 1, 0, 0, 0, hNone, []), some (.getfield 31, 3, 1, 9, 0, hNone, [286]), none, none, some (.iload_n 1, 1, 0, 0, 0, hNone, []), some (.iconst 1, 1, 0, 0, 1, hNone, []), some (.iadd, 1, 0, 0, 0, hNone, []), some (.aload_n 0, 1, 0, 0, 0, hNone, []), some (.getfield 31, 3, 1, 9, 0, hNone, [286]), none, none, some (.iload_n 1, 1, 0, 0, 0, hNone, []), some (.iaload, 1, 0, 0, 0, hNone, []), some (.aload_n 0, 1, 0, 0, 0, hNone, []), some (.getfield 9, 3, 1, 0, 0, hNone, [274]), none, none, some (.getfield 72, 3, 3, 1, 0, hNone, [245]), none, none, some (.iload_n 2, 1, 0, 0, 0, hNone, []), some (.iaload, 1, 0, 0, 0, hNone, []), some (.iadd, 1, 0, 0, 0, hNone, []), some (.iastore, 1, 0, 0, 0, hNone, []), some (.iconst 1, 1, 0, 0, 1, hNone, []), some (.ireturn, 1, 0, 0, 0, hNone, [])]
set_option maxRecDepth 100000 in
theorem oX1_put : tbOk hX1_put tX1_put := tbOk_of (by decide +kernel)
theorem iX1_put : Cond.code hX1_put.1 hX1_put.2.1 hX1_put.2.2.1 hX1_put.2.2.2 ∈ lw_tbl := List.mem_of_getElem? (i := 615) (by decide +kernel)
def tX1_nightAt : List (Option En) := [some (.aload_n 0, 1, 0, 0, 0, hNone, []), some (.getfield 28, 3, 1, 8, 0, hNone, [285]), none, none, some (.iload_n 1, 1, 0, 0, 0, hNone, []), some (.iaload, 1, 0, 0, 0, hNone, []), some (.iload_n 2, 1, 0, 0, 0, hNone, []), some (.ishr, 1, 0, 0, 0, hNone, []), some (.iconst 1, 1, 0, 0, 1, hNone, []), some (.iand, 1, 0, 0, 0, hNone, []), some (.ifCond .eq 5, 3, 15, 0, 0, hNone, []), none, none, some (.iconst (-1), 1, 0, 0, (-1), hNone, []), some (.ireturn, 1, 0, 0, 0, hNone, []), some (.iload_n 1, 1, 0, 0, 0, hNone, []), some (.ifCond .ne 13, 3, 29, 0, 0, hNone, []), none, none, some (.aload_n 0, 1, 0, 0, 0, hNone, []), some (.getfield 9, 3, 1, 0, 0, hNone, [274]), none, none, some (.getfield 75, 3, 3, 2, 0, hNone, [247]), none, none, some (.iload_n 2, 1, 0, 0, 0, hNone, []), some (.iaload, 1, 0, 0, 0, hNone, []), some (.ireturn, 1, 0, 0, 0, hNone, []), some (.aload_n 0, 1, 0, 0, 0, hNone, []), some (.getfield 9, 3, 1, 0, 0, hNone, [274]), none, none, some (.aload_n 0, 1, 0, 0, 0, hNone, []), some (.getfield 22, 3, 1, 6, 0, hNone, [283]), none, none, some (.iload_n 1, 1, 0, 0, 0, hNone, []), some (.iconst 1, 1, 0, 0, 1, hNone, []), some (.isub, 1, 0, 0, 0, hNone, []), some (.iaload, 1, 0, 0, 0, hNone, []), some (.aload_n 0, 1, 0, 0, 0, hNone, []), some (.getfield 25, 3, 1, 7, 0, hNone, [284]), none, none, some (.iload_n 1, 1, 0, 0, 0, hNone, []), some (.iconst 1, 1, 0, 0, 1, hNone, []), some (.isub, 1, 0, 0, 0, hNone, []), some (.iaload, 1, 0, 0, 0, hNone, []), some (.iload_n 2, 1, 0, 0, 0, hNone, []), some (.invokevirtual 78, 3, 3, 3, 0, hX3_nightBehind, [620, 62, 622, 38]), none, none, some (.ireturn, 1, 0, 0, 0, hNone, [])]
set_option maxRecDepth 100000 in
theorem oX1_nightAt : tbOk hX1_nightAt tX1_nightAt := tbOk_of (by decide +kernel)
theorem iX1_nightAt : Cond.code hX1_nightAt.1 hX1_nightAt.2.1 hX1_nightAt.2.2.1 hX1_nightAt.2.2.2 ∈ lw_tbl := List.mem_of_getElem? (i := 619) (by decide +kernel)
def tX1_keepIfBetter : List (Option En) := [some (.aload_n 0, 1, 0, 0, 0, hNone, []), some (.iload_n 1, 1, 0, 0, 0, hNone, []), some (.aload_n 0, 1, 0, 0, 0, hNone, []), some (.getfield 31, 3, 1, 9, 0, hNone, [286]), none, none, some (.iload_n 1, 1, 0, 0, 0, hNone, []), some (.iaload, 1, 0, 0, 0, hNone, []), some (.invokevirtual 82, 3, 1, 2, 0, hX1_isBetter, [607, 63, 609, 35]), none, none, some (.ifCond .eq 46, 3, 57, 0, 0, hNone, []), none, none, some (.aload_n 0, 1, 0, 0, 0, hNone, []), some (.iload_n 1, 1, 0, 0, 0, hNone, []), some (.putfield 43, 3, 1, 2, 0, hNone, [276]), none, none, some (.aload_n 0, 1, 0, 0, 0, hNone, []), some (.aload_n 0, 1, 0, 0, 0, hNone, []), some (.getfield 31, 3, 1, 9, 0, hNone, [286]), none, none, some (.iload_n 1, 1, 0, 0, 0, hNone, []), some (.iaload, 1, 0, 0, 0, hNone, []), some (.putfield 46, 3, 1, 3, 0, hNone, [278]), none, none, some (.aload_n 0, 1, 0, 0, 0, hNone, []), some (.getfield 22, 3, 1, 6, 0, hNone, [283]), none, none, some (.iconst 0, 1, 0, 0, 0, hNone, []), some (.aload_n 0, 1, 0, 0, 0, hNone, []), some (.getfield 15, 3, 1, 4, 0, hNone, [279]), none, none, some (.iconst 0, 1, 0, 0, 0, hNone, []), some (.iload_n 1, 1, 0, 0, 0, hNone, []), some (.invokestatic 85, 3, 9, 0, 0, hNone, [611, 461, 460, 68]), none, none, some (.aload_n 0, 1, 0, 0, 0, hNone, []), some (.getfield 25, 3, 1, 7, 0, hNone, [284]), none, none, some (.iconst 0, 1, 0, 0, 0, hNone, []), some (.aload_n 0, 1, 0, 0, 0, hNone, []), some (.getfield 19, 3, 1, 5, 0, hNone, [281]), none, none, some (.iconst 0, 1, 0, 0, 0, hNone, []), some (.iload_n 1, 1, 0, 0, 0, hNone, []), some (.invokestatic 85, 3, 9, 0, 0, hNone, [611, 461, 460, 68]), none, none, some (.return_, 1, 0, 0, 0, hNone, [])]
set_option maxRecDepth 100000 in
theorem oX1_keepIfBetter : tbOk hX1_keepIfBetter tX1_keepIfBetter := tbOk_of (by decide +kernel)
theorem iX1_keepIfBetter : Cond.code hX1_keepIfBetter.1 hX1_keepIfBetter.2.1 hX1_keepIfBetter.2.2.1 hX1_keepIfBetter.2.2.2 ∈ lw_tbl := List.mem_of_getElem? (i := 606) (by decide +kernel)
def tX1_isBetter : List (Option En) := [some (.iload_n 1, 1, 0, 0, 0, hNone, []), some (.aload_n 0, 1, 0, 0, 0, hNone, []), some (.getfield 43, 3, 1, 2, 0, hNone, [276]), none, none, some (.if_icmp .eq 19, 3, 24, 0, 0, hNone, []), none, none, some (.iload_n 1, 1, 0, 0, 0, hNone, []), some (.aload_n 0, 1, 0, 0, 0, hNone, []), some (.getfield 43, 3, 1, 2, 0, hNone, [276]), none, none, some (.if_icmp .le 7, 3, 20, 0, 0, hNone, []), none, none, some (.iconst 1, 1, 0, 0, 1, hNone, []), some (.goto 20, 3, 37, 0, 0, hNone, []), none, none, some (.iconst 0, 1, 0, 0, 0, hNone, []), some (.goto 16, 3, 37, 0, 0, hNone, []), none, none, some (.iload_n 2, 1, 0, 0, 0, hNone, []), some (.aload_n 0, 1, 0, 0, 0, hNone, []), some (.getfield 46, 3, 1, 3, 0, hNone, [278]), none, none, some (.if_icmp .le 7, 3, 36, 0, 0, hNone, []), none, none, some (.iconst 1, 1, 0, 0, 1, hNone, []), some (.goto 4, 3, 37, 0, 0, hNone, []), none, none, some (.iconst 0, 1, 0, 0, 0, hNone, []), some (.ireturn, 1, 0, 0, 0, hNone, [])]
set_option maxRecDepth 100000 in
theorem oX1_isBetter : tbOk hX1_isBetter tX1_isBetter := tbOk_of (by decide +kernel)
theorem iX1_isBetter : Cond.code hX1_isBetter.1 hX1_isBetter.2.1 hX1_isBetter.2.2.1 hX1_isBetter.2.2.2 ∈ lw_tbl := List.mem_of_getElem? (i := 610) (by decide +kernel)
def tX1_canWin : List (Option En) := [some (.iload_n 1, 1, 0, 0, 0, hNone, []), some (.istore_n 2, 1, 0, 0, 0, hNone, []), some (.aload_n 0, 1, 0, 0, 0, hNone, []), some (.getfield 31, 3, 1, 9, 0, hNone, [286]), none, none, some (.iload_n 1, 1, 0, 0, 0, hNone, []), some (.iaload, 1, 0, 0, 0, hNone, []), some (.istore_n 3, 1, 0, 0, 0, hNone, []), some (.iload_n 1, 1, 0, 0, 0, hNone, []), some (.bipush 8, 2, 0, 0, 8, hNone, []), none, some (.if_icmp .ge 51, 3, 63, 0, 0, hNone, []), none, none, some (.iconst 0, 1, 0, 0, 0, hNone, []), some (.istore 4, 2, 0, 0, 0, hNone, []), none, some (.iload 4, 2, 0, 0, 0, hNone, []), none, some (.aload_n 0, 1, 0, 0, 0, hNone, []), some (.getfield 9, 3, 1, 0, 0, hNone, [274]), none, none, some (.getfield 57, 3, 3, 0, 0, hNone, [242]), none, none, some (.if_icmp .ge 36, 3, 63, 0, 0, hNone, []), none, none, some (.aload_n 0, 1, 0, 0, 0, hNone, []), some (.iload_n 1, 1, 0, 0, 0, hNone, []), some (.iload 4, 2, 0, 0, 0, hNone, []), none, some (.invokevirtual 68, 3, 1, 2, 0, hX1_nightAt, [616, 63, 618, 37]), none, none, some (.iconst (-1), 1, 0, 0, (-1), hNone, []), some (.if_icmp .eq 19, 3, 57, 0, 0, hNone, []), none, none, some (.iinc 2 1, 3, 0, 0, 1, hNone, []), none, none, some (.iload_n 3, 1, 0, 0, 0, hNone, []), some (.aload_n 0, 1, 0, 0, 0, hNone, []), some (.getfield 9, 3, 1, 0, 0, hNone, [274]), none, none, some (.getfield 72, 3, 3, 1, 0, hNone, [245]), none, none, some (.iload 4, 2, 0, 0, 0, hNone, []), none, some (.iaload, 1, 0, 0, 0, hNone, []), some (.iadd, 1, 0, 0, 0, hNone, []), some (.istore_n 3, 1, 0, 0, 0, hNone, []), some (.iinc 4 1, 3, 0, 0, 1, hNone, []), none, none, some (.goto (-42), 3, 18, 0, 0, hNone, []), none, none, some (.aload_n 0, 1, 0, 0, 0, hNone, []), some (.iload_n 2, 1, 0, 0, 0, hNone, []), some (.iload_n 3, 1, 0, 0, 0, hNone, []), some (.invokevirtual 82, 3, 1, 2, 0, hX1_isBetter, [607, 63, 609, 35]), none, none, some (.ireturn, 1, 0, 0, 0, hNone, [])]
set_option maxRecDepth 100000 in
theorem oX1_canWin : tbOk hX1_canWin tX1_canWin := tbOk_of (by decide +kernel)
theorem iX1_canWin : Cond.code hX1_canWin.1 hX1_canWin.2.1 hX1_canWin.2.2.1 hX1_canWin.2.2.2 ∈ lw_tbl := List.mem_of_getElem? (i := 629) (by decide +kernel)
def tX2_canBeTold : List (Option En) := [some (.iload_n 0, 1, 0, 0, 0, hNone, []), some (.ifCond .lt 13, 3, 14, 0, 0, hNone, []), none, none, some (.iload_n 1, 1, 0, 0, 0, hNone, []), some (.ifCond .lt 9, 3, 14, 0, 0, hNone, []), none, none, some (.iload_n 1, 1, 0, 0, 0, hNone, []), some (.bipush 8, 2, 0, 0, 8, hNone, []), none, some (.if_icmp .le 5, 3, 16, 0, 0, hNone, []), none, none, some (.iconst 0, 1, 0, 0, 0, hNone, []), some (.ireturn, 1, 0, 0, 0, hNone, []), some (.iload_n 0, 1, 0, 0, 0, hNone, []), some (.istore_n 2, 1, 0, 0, 0, hNone, []), some (.iconst 0, 1, 0, 0, 0, hNone, []), some (.istore_n 3, 1, 0, 0, 0, hNone, []), some (.iload_n 3, 1, 0, 0, 0, hNone, []), some (.iload_n 1, 1, 0, 0, 0, hNone, []), some (.if_icmp .ge 14, 3, 36, 0, 0, hNone, []), none, none, some (.iload_n 2, 1, 0, 0, 0, hNone, []), some (.bipush 10, 2, 0, 0, 10, hNone, []), none, some (.idiv, 1, 0, 0, 0, hNone, []), some (.istore_n 2, 1, 0, 0, 0, hNone, []), some (.iinc 3 1, 3, 0, 0, 1, hNone, []), none, none, some (.goto (-13), 3, 20, 0, 0, hNone, []), none, none, some (.iload_n 2, 1, 0, 0, 0, hNone, []), some (.ifCond .ne 7, 3, 44, 0, 0, hNone, []), none, none, some (.iconst 1, 1, 0, 0, 1, hNone, []), some (.goto 4, 3, 45, 0, 0, hNone, []), none, none, some (.iconst 0, 1, 0, 0, 0, hNone, []), some (.ireturn, 1, 0, 0, 0, hNone, [])]
set_option maxRecDepth 100000 in
theorem oX2_canBeTold : tbOk hX2_canBeTold tX2_canBeTold := tbOk_of (by decide +kernel)
theorem iX2_canBeTold : Cond.code hX2_canBeTold.1 hX2_canBeTold.2.1 hX2_canBeTold.2.2.1 hX2_canBeTold.2.2.2 ∈ lw_tbl := List.mem_of_getElem? (i := 395) (by decide +kernel)
def tX2_read : List (Option En) := [some (.iload_n 1, 1, 0, 0, 0, hNone, []), some (.istore_n 3, 1, 0, 0, 0, hNone, []), some (.iconst 0, 1, 0, 0, 0, hNone, []), some (.istore 4, 2, 0, 0, 0, hNone, []), none, some (.iload 4, 2, 0, 0, 0, hNone, []), none, some (.iload_n 2, 1, 0, 0, 0, hNone, []), some (.if_icmp .ge 40, 3, 48, 0, 0, hNone, []), none, none, some (.aload_n 0, 1, 0, 0, 0, hNone, []), some (.iload 4, 2, 0, 0, 0, hNone, []), none, some (.iload_n 3, 1, 0, 0, 0, hNone, []), some (.bipush 10, 2, 0, 0, 10, hNone, []), none, some (.irem, 1, 0, 0, 0, hNone, []), some (.invokevirtual 34, 3, 2, 2, 0, hX2_put, [400, 59, 402, 5]), none, none, some (.istore 5, 2, 0, 0, 0, hNone, []), none, some (.iload 5, 2, 0, 0, 0, hNone, []), none, some (.ifCond .eq 12, 3, 37, 0, 0, hNone, []), none, none, some (.aload_n 0, 1, 0, 0, 0, hNone, []), some (.iload 4, 2, 0, 0, 0, hNone, []), none, some (.putfield 38, 3, 2, 7, 0, hNone, [145]), none, none, some (.iload 5, 2, 0, 0, 0, hNone, []), none, some (.ireturn, 1, 0, 0, 0, hNone, []), some (.iload_n 3, 1, 0, 0, 0, hNone, []), some (.bipush 10, 2, 0, 0, 10, hNone, []), none, some (.idiv, 1, 0, 0, 0, hNone, []), some (.istore_n 3, 1, 0, 0, 0, hNone, []), some (.iinc 4 1, 3, 0, 0, 1, hNone, []), none, none, some (.goto (-40), 3, 5, 0, 0, hNone, []), none, none, some (.aload_n 0, 1, 0, 0, 0, hNone, []), some (.iload_n 2, 1, 0, 0, 0, hNone, []), some (.putfield 38, 3, 2, 7, 0, hNone, [145]), none, none, some (.iload_n 2, 1, 0, 0, 0, hNone, []), some (.aload_n 0, 1, 0, 0, 0, hNone, []), some (.getfield 9, 3, 2, 0, 0, hNone, [132]), none, none, some (.getfield 42, 3, 4, 0, 0, hNone, [85]), none, none, some (.if_icmp .ge 7, 3, 68, 0, 0, hNone, []), none, none, some (.iconst 4, 1, 0, 0, 4, hNone, []), some (.goto 4, 3, 69, 0, 0, hNone, []), none, none, some (.iconst 0, 1, 0, 0, 0, hNone, []), some (.ireturn, 1, 0, 0, 0, hNone, [])]
set_option maxRecDepth 100000 in
theorem oX2_read : tbOk hX2_read tX2_read := tbOk_of (by decide +kernel)
theorem iX2_read : Cond.code hX2_read.1 hX2_read.2.1 hX2_read.2.2.1 hX2_read.2.2.2 ∈ lw_tbl := List.mem_of_getElem? (i := 399) (by decide +kernel)
def tX2_put : List (Option En) := [some (.aload_n 0, 1, 0, 0, 0, hNone, []), some (.iload_n 1, 1, 0, 0, 0, hNone, []), some (.iload_n 2, 1, 0, 0, 0, hNone, []), some (.invokevirtual 47, 3, 2, 2, 0, hX2_breakAt, [404, 59, 406, 6]), none, none, some (.istore_n 3, 1, 0, 0, 0, hNone, []), some (.iload_n 3, 1, 0, 0, 0, hNone, []), some (.ifCond .ne 9, 3, 17, 0, 0, hNone, []), none, none, some (.aload_n 0, 1, 0, 0, 0, hNone, []), some (.iload_n 1, 1, 0, 0, 0, hNone, []), some (.iload_n 2, 1, 0, 0, 0, hNone, []), some (.invokevirtual 50, 3, 2, 2, 0, hX2_set, [410, 59, 412, 7]), none, none, some (.iload_n 3, 1, 0, 0, 0, hNone, []), some (.ireturn, 1, 0, 0, 0, hNone, [])]
set_option maxRecDepth 100000 in
theorem oX2_put : tbOk hX2_put tX2_put := tbOk_of (by decide +kernel)
theorem iX2_put : Cond.code hX2_put.1 hX2_put.2.1 hX2_put.2.2.1 hX2_put.2.2.2 ∈ lw_tbl := List.mem_of_getElem? (i := 403) (by decide +kernel)
def tX2_breakAt : List (Option En) := [some (.iload_n 1, 1, 0, 0, 0, hNone, []), some (.bipush 8, 2, 0, 0, 8, hNone, []), none, some (.invokestatic 54, 3, 0, 2, 0, hX7_isIn, [408, 57, 375]), none, none, some (.ifCond .eq 30, 3, 36, 0, 0, hNone, []), none, none, some (.iload_n 2, 1, 0, 0, 0, hNone, []), some (.aload_n 0, 1, 0, 0, 0, hNone, []), some (.getfield 9, 3, 2, 0, 0, hNone, [132]), none, none, some (.getfield 42, 3, 4, 0, 0, hNone, [85]), none, none, some (.invokestatic 54, 3, 0, 2, 0, hX7_isIn, [408, 57, 375]), none, none, some (.ifCond .eq 16, 3, 36, 0, 0, hNone, []), none, none, some (.aload_n 0, 1, 0, 0, 0, hNone, []), some (.getfield 19, 3, 2, 2, 0, hNone, [135]), none, none, some (.iload_n 1, 1, 0, 0, 0, hNone, []), some (.iaload, 1, 0, 0, 0, hNone, []), some (.iload_n 2, 1, 0, 0, 0, hNone, []), some (.ishr, 1, 0, 0, 0, hNone, []), some (.iconst 1, 1, 0, 0, 1, hNone, []), some (.iand, 1, 0, 0, 0, hNone, []), some (.ifCond .eq 5, 3, 38, 0, 0, hNone, []), none, none, some (.iconst 1, 1, 0, 0, 1, hNone, []), some (.ireturn, 1, 0, 0, 0, hNone, []), some (.iconst 1, 1, 0, 0, 1, hNone, []), some (.istore_n 3, 1, 0, 0, 0, hNone, []), some (.iload_n 3, 1, 0, 0, 0, hNone, []), some (.iconst 3, 1, 0, 0, 3, hNone, []), some (.if_icmp .gt 59, 3, 101, 0, 0, hNone, []), none, none, some (.iload_n 3, 1, 0, 0, 0, hNone, []), some (.iload_n 1, 1, 0, 0, 0, hNone, []), some (.if_icmp .gt 54, 3, 101, 0, 0, hNone, []), none, none, some (.aload_n 0, 1, 0, 0, 0, hNone, []), some (.getfield 9, 3, 2, 0, 0, hNone, [132]), none, none, some (.getfield 58, 3, 4, 4, 0, hNone, [96]), none, none, some (.iload_n 2, 1, 0, 0, 0, hNone, []), some (.iaload, 1, 0, 0, 0, hNone, []), some (.aload_n 0, 1, 0, 0, 0, hNone, []), some (.getfield 9, 3, 2, 0, 0, hNone, [132]), none, none, some (.getfield 58, 3, 4, 4, 0, hNone, [96]), none, none, some (.aload_n 0, 1, 0, 0, 0, hNone, []), some (.getfield 15, 3, 2, 1, 0, hNone, [133]), none, none, some (.iload_n 1, 1, 0, 0, 0, hNone, []), some (.iload_n 3, 1, 0, 0, 0, hNone, []), some (.isub, 1, 0, 0, 0, hNone, []), some (.iaload, 1, 0, 0, 0, hNone, []), some (.iaload, 1, 0, 0, 0, hNone, []), some (.iand, 1, 0, 0, 0, hNone, []), some (.istore 4, 2, 0, 0, 0, hNone, []), none, some (.iload 4, 2, 0, 0, 0, hNone, []), none, some (.aload_n 0, 1, 0, 0, 0, hNone, []), some (.getfield 9, 3, 2, 0, 0, hNone, [132]), none, none, some (.getfield 61, 3, 4, 6, 0, hNone, [101]), none, none, some (.iload_n 3, 1, 0, 0, 0, hNone, []), some (.iaload, 1, 0, 0, 0, hNone, []), some (.iand, 1, 0, 0, 0, hNone, []), some (.ifCond .eq 5, 3, 95, 0, 0, hNone, []), none, none, some (.iconst 2, 1, 0, 0, 2, hNone, []), some (.ireturn, 1, 0, 0, 0, hNone, []), some (.iinc 3 1, 3, 0, 0, 1, hNone, []), none, none, some (.goto (-58), 3, 40, 0, 0, hNone, []), none, none, some (.iload_n 1, 1, 0, 0, 0, hNone, []), some (.ifCond .le 40, 3, 142, 0, 0, hNone, []), none, none, some (.aload_n 0, 1, 0, 0, 0, hNone, []), some (.getfield 9, 3, 2, 0, 0, hNone, [132]), none, none, some (.aload_n 0, 1, 0, 0, 0, hNone, []), some (.getfield 9, 3, 2, 0, 0, hNone, [132]), none, none, some (.getfield 64, 3, 4, 2, 0, hNone, [91]), none, none, some (.aload_n 0, 1, 0, 0, 0, hNone, []), some (.getfield 15, 3, 2, 1, 0, hNone, [133]), none, none, some (.iload_n 1, 1, 0, 0, 0, hNone, []), some (.iconst 1, 1, 0, 0, 1, hNone, []), some (.isub, 1, 0, 0, 0, hNone, []), some (.iaload, 1, 0, 0, 0, hNone, []), some (.iaload, 1, 0, 0, 0, hNone, []), some (.aload_n 0, 1, 0, 0, 0, hNone, []), some (.getfield 9, 3, 2, 0, 0, hNone, [132]), none, none, some (.getfield 64, 3, 4, 2, 0, hNone, [91]), none, none, some (.iload_n 2, 1, 0, 0, 0, hNone, []), some (.iaload, 1, 0, 0, 0, hNone, []), some (.invokevirtual 67, 3, 4, 2, 0, hX4_isBanned, [409, 58, 387, 3]), none, none, some (.ifCond .eq 5, 3, 142, 0, 0, hNone, []), none, none, some (.iconst 3, 1, 0, 0, 3, hNone, []), some (.ireturn, 1, 0, 0, 0, hNone, []), some (.iconst 0, 1, 0, 0, 0, hNone, []), some (.ireturn, 1, 0, 0, 0, hNone, [])]
set_option maxRecDepth 100000 in
theorem oX2_breakAt : tbOk hX2_breakAt tX2_breakAt := tbOk_of (by decide +kernel)
theorem iX2_breakAt : Cond.code hX2_breakAt.1 hX2_breakAt.2.1 hX2_breakAt.2.2.1 hX2_breakAt.2.2.2 ∈ lw_tbl := List.mem_of_getElem? (i := 407) (by decide +kernel)
def tX2_set : List (Option En) := [some (.iload_n 1, 1, 0, 0, 0, hNone, []), some (.iconst 1, 1, 0, 0, 1, hNone, []), some (.iadd, 1, 0, 0, 0, hNone, []), some (.istore_n 3, 1, 0, 0, 0, hNone, []), some (.aload_n 0, 1, 0, 0, 0, hNone, []), some (.getfield 15, 3, 2, 1, 0, hNone, [133]), none, none, some (.iload_n 1, 1, 0, 0, 0, hNone, []), some (.iload_n 2, 1, 0, 0, 0, hNone, []), some (.iastore, 1, 0, 0, 0, hNone, []), some (.aload_n 0, 1, 0, 0, 0, hNone, []), some (.getfield 19, 3, 2, 2, 0, hNone, [135]), none, none, some (.iload_n 3, 1, 0, 0, 0, hNone, []), some (.aload_n 0, 1, 0, 0, 0, hNone, []), some (.getfield 19, 3, 2, 2, 0, hNone, [135]), none, none, some (.iload_n 1, 1, 0, 0, 0, hNone, []), some (.iaload, 1, 0, 0, 0, hNone, []), some (.iconst 1, 1, 0, 0, 1, hNone, []), some (.iload_n 2, 1, 0, 0, 0, hNone, []), some (.ishl, 1, 0, 0, 0, hNone, []), some (.ior, 1, 0, 0, 0, hNone, []), some (.iastore, 1, 0, 0, 0, hNone, []), some (.aload_n 0, 1, 0, 0, 0, hNone, []), some (.getfield 31, 3, 2, 6, 0, hNone, [143]), none, none, some (.iload_n 3, 1, 0, 0, 0, hNone, []), some (.aload_n 0, 1, 0, 0, 0, hNone, []), some (.getfield 31, 3, 2, 6, 0, hNone, [143]), none, none, some (.iload_n 1, 1, 0, 0, 0, hNone, []), some (.iaload, 1, 0, 0, 0, hNone, []), some (.aload_n 0, 1, 0, 0, 0, hNone, []), some (.getfield 9, 3, 2, 0, 0, hNone, [132]), none, none, some (.getfield 70, 3, 4, 3, 0, hNone, [93]), none, none, some (.iload_n 2, 1, 0, 0, 0, hNone, []), some (.iaload, 1, 0, 0, 0, hNone, []), some (.iload_n 3, 1, 0, 0, 0, hNone, []), some (.imul, 1, 0, 0, 0, hNone, []), some (.iadd, 1, 0, 0, 0, hNone, []), some (.iastore, 1, 0, 0, 0, hNone, []), some (.aload_n 0, 1, 0, 0, 0, hNone, []), some (.getfield 9, 3, 2, 0, 0, hNone, [132]), none, none, some (.iload_n 2, 1, 0, 0, 0, hNone, []), some (.invokevirtual 73, 3, 4, 1, 0, hX4_isClowns, [414, 58, 416, 8]), none, none, some (.ifCond .eq 52, 3, 111, 0, 0, hNone, []), none, none, some (.aload_n 0, 1, 0, 0, 0, hNone, []), some (.getfield 28, 3, 2, 5, 0, hNone, [140]), none, none, some (.iload_n 3, 1, 0, 0, 0, hNone, []), some (.aload_n 0, 1, 0, 0, 0, hNone, []), some (.getfield 28, 3, 2, 5, 0, hNone, [140]), none, none, some (.iload_n 1, 1, 0, 0, 0, hNone, []), some (.iaload, 1, 0, 0, 0, hNone, []), some (.iastore, 1, 0, 0, 0, hNone, []), some (.aload_n 0, 1, 0, 0, 0, hNone, []), some (.getfield 22, 3, 2, 3, 0, hNone, [137]), none, none, some (.iload_n 3, 1, 0, 0, 0, hNone, []), some (.aload_n 0, 1, 0, 0, 0, hNone, []), some (.getfield 22, 3, 2, 3, 0, hNone, [137]), none, none, some (.iload_n 1, 1, 0, 0, 0, hNone, []), some (.iaload, 1, 0, 0, 0, hNone, []), some (.iastore, 1, 0, 0, 0, hNone, []), some (.aload_n 0, 1, 0, 0, 0, hNone, []), some (.getfield 25, 3, 2, 4, 0, hNone, [138]), none, none, some (.iload_n 3, 1, 0, 0, 0, hNone, []), some (.aload_n 0, 1, 0, 0, 0, hNone, []), some (.getfield 25, 3, 2, 4, 0, hNone, [138]), none, none, some (.iload_n 1, 1, 0, 0, 0, hNone, []), some (.iaload, 1, 0, 0, 0, hNone, []), some (.aload_n 0, 1, 0, 0, 0, hNone, []), some (.getfield 9, 3, 2, 0, 0, hNone, [132]), none, none, some (.getfield 77, 3, 4, 1, 0, hNone, [89]), none, none, some (.iload_n 2, 1, 0, 0, 0, hNone, []), some (.iaload, 1, 0, 0, 0, hNone, []), some (.iadd, 1, 0, 0, 0, hNone, []), some (.iastore, 1, 0, 0, 0, hNone, []), some (.goto 74, 3, 182, 0, 0, hNone, []), none, none, some (.iconst 2, 1, 0, 0, 2, hNone, []), some (.aload_n 0, 1, 0, 0, 0, hNone, []), some (.getfield 22, 3, 2, 3, 0, hNone, [137]), none, none, some (.iload_n 1, 1, 0, 0, 0, hNone, []), some (.iaload, 1, 0, 0, 0, hNone, []), some (.aload_n 0, 1, 0, 0, 0, hNone, []), some (.getfield 9, 3, 2, 0, 0, hNone, [132]), none, none, some (.getfield 80, 3, 4, 5, 0, hNone, [98]), none, none, some (.iload_n 2, 1, 0, 0, 0, hNone, []), some (.iaload, 1, 0, 0, 0, hNone, []), some (.ixor, 1, 0, 0, 0, hNone, []), some (.invokestatic 83, 3, 0, 1, 0, hJ6_bitCount_0f7a4, [418, 66, 419]), none, none, some (.imul, 1, 0, 0, 0, hNone, []), some (.istore 4, 2, 0, 0, 0, hNone, []), none, some (.aload_n 0, 1, 0, 0, 0, hNone, []), some (.getfield 28, 3, 2, 5, 0, hNone, [140]), none, none, some (.iload_n 3, 1, 0, 0, 0, hNone, []), some (.aload_n 0, 1, 0, 0, 0, hNone, []), some (.getfield 28, 3, 2, 5, 0, hNone, [140]), none, none, some (.iload_n 1, 1, 0, 0, 0, hNone, []), some (.iaload, 1, 0, 0, 0, hNone, []), some (.iconst 0, 1, 0, 0, 0, hNone, []), some (.iload 4, 2, 0, 0, 0, hNone, []), none, some (.aload_n 0, 1, 0, 0, 0, hNone, []), some (.getfield 25, 3, 2, 4, 0, hNone, [138]), none, none, some (.iload_n 1, 1, 0, 0, 0, hNone, []), some (.iaload, 1, 0, 0, 0, hNone, []), some (.isub, 1, 0, 0, 0, hNone, []), some (.invokestatic 89, 3, 8, 0, 0, hNone, [424, 425, 67, 426]), none, none, some (.iadd, 1, 0, 0, 0, hNone, []), some (.iastore, 1, 0, 0, 0, hNone, []), some (.aload_n 0, 1, 0, 0, 0, hNone, []), some (.getfield 22, 3, 2, 3, 0, hNone, [137]), none, none, some (.iload_n 3, 1, 0, 0, 0, hNone, []), some (.aload_n 0, 1, 0, 0, 0, hNone, []), some (.getfield 9, 3, 2, 0, 0, hNone, [132]), none, none, some (.getfield 80, 3, 4, 5, 0, hNone, [98]), none, none, some (.iload_n 2, 1, 0, 0, 0, hNone, []), some (.iaload, 1, 0, 0, 0, hNone, []), some (.iastore, 1, 0, 0, 0, hNone, []), some (.aload_n 0, 1, 0, 0, 0, hNone, []), some (.getfield 25, 3, 2, 4, 0, hNone, [138]), none, none, some (.iload_n 3, 1, 0, 0, 0, hNone, []), some (.iconst 0, 1, 0, 0, 0, hNone, []), some (.iastore, 1, 0, 0, 0, hNone, []), some (.return_, 1, 0, 0, 0, hNone, [])]
set_option maxRecDepth 100000 in
theorem oX2_set : tbOk hX2_set tX2_set := tbOk_of (by decide +kernel)
theorem iX2_set : Cond.code hX2_set.1 hX2_set.2.1 hX2_set.2.2.1 hX2_set.2.2.2 ∈ lw_tbl := List.mem_of_getElem? (i := 413) (by decide +kernel)
def tX3_has : List (Option En) := [some (.iload_n 1, 1, 0, 0, 0, hNone, []), some (.aload_n 0, 1, 0, 0, 0, hNone, []), some (.getfield 27, 3, 3, 0, 0, hNone, [241]), none, none, some (.invokestatic 31, 3, 0, 2, 0, hX7_isIn, [561, 57, 375]), none, none, some (.ireturn, 1, 0, 0, 0, hNone, [])]
set_option maxRecDepth 100000 in
theorem oX3_has : tbOk hX3_has tX3_has := tbOk_of (by decide +kernel)
theorem iX3_has : Cond.code hX3_has.1 hX3_has.2.1 hX3_has.2.2.1 hX3_has.2.2.2 ∈ lw_tbl := List.mem_of_getElem? (i := 573) (by decide +kernel)
def tX3_add : List (Option En) := [some (.aload_n 0, 1, 0, 0, 0, hNone, []), some (.getfield 27, 3, 3, 0, 0, hNone, [241]), none, none, some (.bipush 8, 2, 0, 0, 8, hNone, []), none, some (.if_icmp .ge 14, 3, 20, 0, 0, hNone, []), none, none, some (.iload_n 1, 1, 0, 0, 0, hNone, []), some (.ifCond .lt 10, 3, 20, 0, 0, hNone, []), none, none, some (.iload_n 1, 1, 0, 0, 0, hNone, []), some (.sipush 10000, 3, 0, 0, 10000, hNone, []), none, none, some (.if_icmp .le 5, 3, 22, 0, 0, hNone, []), none, none, some (.iconst (-1), 1, 0, 0, (-1), hNone, []), some (.ireturn, 1, 0, 0, 0, hNone, []), some (.iload_n 2, 1, 0, 0, 0, hNone, []), some (.bipush 30, 2, 0, 0, 30, hNone, []), none, some (.invokestatic 31, 3, 0, 2, 0, hX7_isIn, [561, 57, 375]), none, none, some (.ifCond .eq 17, 3, 45, 0, 0, hNone, []), none, none, some (.iload_n 3, 1, 0, 0, 0, hNone, []), some (.bipush 30, 2, 0, 0, 30, hNone, []), none, some (.invokestatic 31, 3, 0, 2, 0, hX7_isIn, [561, 57, 375]), none, none, some (.ifCond .eq 8, 3, 45, 0, 0, hNone, []), none, none, some (.iload_n 3, 1, 0, 0, 0, hNone, []), some (.iload_n 2, 1, 0, 0, 0, hNone, []), some (.if_icmp .ge 5, 3, 47, 0, 0, hNone, []), none, none, some (.iconst (-1), 1, 0, 0, (-1), hNone, []), some (.ireturn, 1, 0, 0, 0, hNone, []), some (.aload_n 0, 1, 0, 0, 0, hNone, []), some (.getfield 27, 3, 3, 0, 0, hNone, [241]), none, none, some (.istore 4, 2, 0, 0, 0, hNone, []), none, some (.aload_n 0, 1, 0, 0, 0, hNone, []), some (.getfield 9, 3, 3, 1, 0, hNone, [244]), none, none, some (.iload 4, 2, 0, 0, 0, hNone, []), none, some (.iload_n 1, 1, 0, 0, 0, hNone, []), some (.iastore, 1, 0, 0, 0, hNone, []), some (.aload_n 0, 1, 0, 0, 0, hNone, []), some (.getfield 15, 3, 3, 2, 0, hNone, [246]), none, none, some (.iload 4, 2, 0, 0, 0, hNone, []), none, some (.iload_n 2, 1, 0, 0, 0, hNone, []), some (.iastore, 1, 0, 0, 0, hNone, []), some (.aload_n 0, 1, 0, 0, 0, hNone, []), some (.getfield 18, 3, 3, 3, 0, hNone, [248]), none, none, some (.iload 4, 2, 0, 0, 0, hNone, []), none, some (.iload_n 3, 1, 0, 0, 0, hNone, []), some (.iastore, 1, 0, 0, 0, hNone, []), some (.aload_n 0, 1, 0, 0, 0, hNone, []), some (.dup, 1, 0, 0, 0, hNone, []), some (.getfield 27, 3, 3, 0, 0, hNone, [241]), none, none, some (.iconst 1, 1, 0, 0, 1, hNone, []), some (.iadd, 1, 0, 0, 0, hNone, []), some (.putfield 27, 3, 3, 0, 0, hNone, [241]), none, none, some (.aload_n 0, 1, 0, 0, 0, hNone, []), some (.dup, 1, 0, 0, 0, hNone, []), some (.getfield 35, 3, 3, 6, 0, hNone, [252]), none, none, some (.iconst 1, 1, 0, 0, 1, hNone, []), some (.iadd, 1, 0, 0, 0, hNone, []), some (.putfield 35, 3, 3, 6, 0, hNone, [252]), none, none, some (.iload 4, 2, 0, 0, 0, hNone, []), none, some (.ireturn, 1, 0, 0, 0, hNone, [])]
set_option maxRecDepth 100000 in
theorem oX3_add : tbOk hX3_add tX3_add := tbOk_of (by decide +kernel)
theorem iX3_add : Cond.code hX3_add.1 hX3_add.2.1 hX3_add.2.2.1 hX3_add.2.2.2 ∈ lw_tbl := List.mem_of_getElem? (i := 560) (by decide +kernel)
def tX3_join : List (Option En) := [some (.aload_n 0, 1, 0, 0, 0, hNone, []), some (.iload_n 1, 1, 0, 0, 0, hNone, []), some (.invokevirtual 38, 3, 3, 1, 0, hX3_has, [570, 62, 572, 29]), none, none, some (.ifCond .eq 27, 3, 32, 0, 0, hNone, []), none, none, some (.aload_n 0, 1, 0, 0, 0, hNone, []), some (.iload_n 2, 1, 0, 0, 0, hNone, []), some (.invokevirtual 38, 3, 3, 1, 0, hX3_has, [570, 62, 572, 29]), none, none, some (.ifCond .eq 19, 3, 32, 0, 0, hNone, []), none, none, some (.iload_n 1, 1, 0, 0, 0, hNone, []), some (.iload_n 2, 1, 0, 0, 0, hNone, []), some (.if_icmp .eq 14, 3, 32, 0, 0, hNone, []), none, none, some (.iload_n 3, 1, 0, 0, 0, hNone, []), some (.iconst 1, 1, 0, 0, 1, hNone, []), some (.if_icmp .lt 9, 3, 32, 0, 0, hNone, []), none, none, some (.iload_n 3, 1, 0, 0, 0, hNone, []), some (.bipush 99, 2, 0, 0, 99, hNone, []), none, some (.if_icmp .le 5, 3, 34, 0, 0, hNone, []), none, none, some (.iconst 0, 1, 0, 0, 0, hNone, []), some (.ireturn, 1, 0, 0, 0, hNone, []), some (.aload_n 0, 1, 0, 0, 0, hNone, []), some (.getfield 21, 3, 3, 4, 0, hNone, [249]), none, none, some (.iload_n 1, 1, 0, 0, 0, hNone, []), some (.bipush 8, 2, 0, 0, 8, hNone, []), none, some (.imul, 1, 0, 0, 0, hNone, []), some (.iload_n 2, 1, 0, 0, 0, hNone, []), some (.iadd, 1, 0, 0, 0, hNone, []), some (.iload_n 3, 1, 0, 0, 0, hNone, []), some (.iastore, 1, 0, 0, 0, hNone, []), some (.aload_n 0, 1, 0, 0, 0, hNone, []), some (.getfield 21, 3, 3, 4, 0, hNone, [249]), none, none, some (.iload_n 2, 1, 0, 0, 0, hNone, []), some (.bipush 8, 2, 0, 0, 8, hNone, []), none, some (.imul, 1, 0, 0, 0, hNone, []), some (.iload_n 1, 1, 0, 0, 0, hNone, []), some (.iadd, 1, 0, 0, 0, hNone, []), some (.iload_n 3, 1, 0, 0, 0, hNone, []), some (.iastore, 1, 0, 0, 0, hNone, []), some (.aload_n 0, 1, 0, 0, 0, hNone, []), some (.dup, 1, 0, 0, 0, hNone, []), some (.getfield 35, 3, 3, 6, 0, hNone, [252]), none, none, some (.iconst 1, 1, 0, 0, 1, hNone, []), some (.iadd, 1, 0, 0, 0, hNone, []), some (.putfield 35, 3, 3, 6, 0, hNone, [252]), none, none, some (.aload_n 0, 1, 0, 0, 0, hNone, []), some (.invokevirtual 42, 3, 3, 0, 0, hX3_measure, [574, 62, 576, 30]), none, none, some (.iconst 1, 1, 0, 0, 1, hNone, []), some (.ireturn, 1, 0, 0, 0, hNone, [])]
set_option maxRecDepth 100000 in
theorem oX3_join : tbOk hX3_join tX3_join := tbOk_of (by decide +kernel)
theorem iX3_join : Cond.code hX3_join.1 hX3_join.2.1 hX3_join.2.2.1 hX3_join.2.2.2 ∈ lw_tbl := List.mem_of_getElem? (i := 569) (by decide +kernel)
def tX3_measure : List (Option En) := [some (.aload_n 0, 1, 0, 0, 0, hNone, []), some (.getfield 21, 3, 3, 4, 0, hNone, [249]), none, none, some (.iconst 0, 1, 0, 0, 0, hNone, []), some (.aload_n 0, 1, 0, 0, 0, hNone, []), some (.getfield 24, 3, 3, 5, 0, hNone, [250]), none, none, some (.iconst 0, 1, 0, 0, 0, hNone, []), some (.bipush 64, 2, 0, 0, 64, hNone, []), none, some (.invokestatic 45, 3, 9, 0, 0, hNone, [578, 461, 460, 68]), none, none, some (.iconst 0, 1, 0, 0, 0, hNone, []), some (.istore_n 1, 1, 0, 0, 0, hNone, []), some (.iload_n 1, 1, 0, 0, 0, hNone, []), some (.aload_n 0, 1, 0, 0, 0, hNone, []), some (.getfield 27, 3, 3, 0, 0, hNone, [241]), none, none, some (.if_icmp .ge 48, 3, 70, 0, 0, hNone, []), none, none, some (.iconst 0, 1, 0, 0, 0, hNone, []), some (.istore_n 2, 1, 0, 0, 0, hNone, []), some (.iload_n 2, 1, 0, 0, 0, hNone, []), some (.aload_n 0, 1, 0, 0, 0, hNone, []), some (.getfield 27, 3, 3, 0, 0, hNone, [241]), none, none, some (.if_icmp .ge 32, 3, 64, 0, 0, hNone, []), none, none, some (.iconst 0, 1, 0, 0, 0, hNone, []), some (.istore_n 3, 1, 0, 0, 0, hNone, []), some (.iload_n 3, 1, 0, 0, 0, hNone, []), some (.aload_n 0, 1, 0, 0, 0, hNone, []), some (.getfield 27, 3, 3, 0, 0, hNone, [241]), none, none, some (.if_icmp .ge 16, 3, 58, 0, 0, hNone, []), none, none, some (.aload_n 0, 1, 0, 0, 0, hNone, []), some (.iload_n 2, 1, 0, 0, 0, hNone, []), some (.iload_n 1, 1, 0, 0, 0, hNone, []), some (.iload_n 3, 1, 0, 0, 0, hNone, []), some (.invokevirtual 51, 3, 3, 3, 0, hX3_goBy, [579, 62, 581, 31]), none, none, some (.iinc 3 1, 3, 0, 0, 1, hNone, []), none, none, some (.goto (-18), 3, 37, 0, 0, hNone, []), none, none, some (.iinc 2 1, 3, 0, 0, 1, hNone, []), none, none, some (.goto (-34), 3, 27, 0, 0, hNone, []), none, none, some (.iinc 1 1, 3, 0, 0, 1, hNone, []), none, none, some (.goto (-50), 3, 17, 0, 0, hNone, []), none, none, some (.return_, 1, 0, 0, 0, hNone, [])]
set_option maxRecDepth 100000 in
theorem oX3_measure : tbOk hX3_measure tX3_measure := tbOk_of (by decide +kernel)
theorem iX3_measure : Cond.code hX3_measure.1 hX3_measure.2.1 hX3_measure.2.2.1 hX3_measure.2.2.2 ∈ lw_tbl := List.mem_of_getElem? (i := 577) (by decide +kernel)
def tX3_goBy : List (Option En) := [some (.aload_n 0, 1, 0, 0, 0, hNone, []), some (.getfield 24, 3, 3, 5, 0, hNone, [250]), none, none, some (.iload_n 1, 1, 0, 0, 0, hNone, []), some (.bipush 8, 2, 0, 0, 8, hNone, []), none, some (.imul, 1, 0, 0, 0, hNone, []), some (.iload_n 2, 1, 0, 0, 0, hNone, []), some (.iadd, 1, 0, 0, 0, hNone, []), some (.iaload, 1, 0, 0, 0, hNone, []), some (.istore 4, 2, 0, 0, 0, hNone, []), none, some (.aload_n 0, 1, 0, 0, 0, hNone, []), some (.getfield 24, 3, 3, 5, 0, hNone, [250]), none, none, some (.iload_n 2, 1, 0, 0, 0, hNone, []), some (.bipush 8, 2, 0, 0, 8, hNone, []), none, some (.imul, 1, 0, 0, 0, hNone, []), some (.iload_n 3, 1, 0, 0, 0, hNone, []), some (.iadd, 1, 0, 0, 0, hNone, []), some (.iaload, 1, 0, 0, 0, hNone, []), some (.istore 5, 2, 0, 0, 0, hNone, []), none, some (.aload_n 0, 1, 0, 0, 0, hNone, []), some (.getfield 24, 3, 3, 5, 0, hNone, [250]), none, none, some (.iload_n 1, 1, 0, 0, 0, hNone, []), some (.bipush 8, 2, 0, 0, 8, hNone, []), none, some (.imul, 1, 0, 0, 0, hNone, []), some (.iload_n 3, 1, 0, 0, 0, hNone, []), some (.iadd, 1, 0, 0, 0, hNone, []), some (.iaload, 1, 0, 0, 0, hNone, []), some (.istore 6, 2, 0, 0, 0, hNone, []), none, some (.iload 4, 2, 0, 0, 0, hNone, []), none, some (.iconst (-1), 1, 0, 0, (-1), hNone, []), some (.if_icmp .eq 41, 3, 83, 0, 0, hNone, []), none, none, some (.iload 5, 2, 0, 0, 0, hNone, []), none, some (.iconst (-1), 1, 0, 0, (-1), hNone, []), some (.if_icmp .eq 35, 3, 83, 0, 0, hNone, []), none, none, some (.iload 6, 2, 0, 0, 0, hNone, []), none, some (.iconst (-1), 1, 0, 0, (-1), hNone, []), some (.if_icmp .eq 13, 3, 67, 0, 0, hNone, []), none, none, some (.iload 4, 2, 0, 0, 0, hNone, []), none, some (.iload 5, 2, 0, 0, 0, hNone, []), none, some (.iadd, 1, 0, 0, 0, hNone, []), some (.iload 6, 2, 0, 0, 0, hNone, []), none, some (.if_icmp .ge 19, 3, 83, 0, 0, hNone, []), none, none, some (.aload_n 0, 1, 0, 0, 0, hNone, []), some (.getfield 24, 3, 3, 5, 0, hNone, [250]), none, none, some (.iload_n 1, 1, 0, 0, 0, hNone, []), some (.bipush 8, 2, 0, 0, 8, hNone, []), none, some (.imul, 1, 0, 0, 0, hNone, []), some (.iload_n 3, 1, 0, 0, 0, hNone, []), some (.iadd, 1, 0, 0, 0, hNone, []), some (.iload 4, 2, 0, 0, 0, hNone, []), none, some (.iload 5, 2, 0, 0, 0, hNone, []), none, some (.iadd, 1, 0, 0, 0, hNone, []), some (.iastore, 1, 0, 0, 0, hNone, []), some (.return_, 1, 0, 0, 0, hNone, [])]
set_option maxRecDepth 100000 in
theorem oX3_goBy : tbOk hX3_goBy tX3_goBy := tbOk_of (by decide +kernel)
theorem iX3_goBy : Cond.code hX3_goBy.1 hX3_goBy.2.1 hX3_goBy.2.2.1 hX3_goBy.2.2.2 ∈ lw_tbl := List.mem_of_getElem? (i := 582) (by decide +kernel)
def tX3_leastHours : List (Option En) := [some (.aload_n 0, 1, 0, 0, 0, hNone, []), some (.getfield 24, 3, 3, 5, 0, hNone, [250]), none, none, some (.iload_n 1, 1, 0, 0, 0, hNone, []), some (.bipush 8, 2, 0, 0, 8, hNone, []), none, some (.imul, 1, 0, 0, 0, hNone, []), some (.iload_n 2, 1, 0, 0, 0, hNone, []), some (.iadd, 1, 0, 0, 0, hNone, []), some (.iaload, 1, 0, 0, 0, hNone, []), some (.ireturn, 1, 0, 0, 0, hNone, [])]
set_option maxRecDepth 100000 in
theorem oX3_leastHours : tbOk hX3_leastHours tX3_leastHours := tbOk_of (by decide +kernel)
theorem iX3_leastHours : Cond.code hX3_leastHours.1 hX3_leastHours.2.1 hX3_leastHours.2.2.1 hX3_leastHours.2.2.2 ∈ lw_tbl := List.mem_of_getElem? (i := 591) (by decide +kernel)
def tX3_nightBehind : List (Option En) := [some (.aload_n 0, 1, 0, 0, 0, hNone, []), some (.iload_n 1, 1, 0, 0, 0, hNone, []), some (.iload_n 3, 1, 0, 0, 0, hNone, []), some (.invokevirtual 55, 3, 3, 2, 0, hX3_leastHours, [624, 62, 590, 32]), none, none, some (.istore 4, 2, 0, 0, 0, hNone, []), none, some (.iload 4, 2, 0, 0, 0, hNone, []), none, some (.iconst (-1), 1, 0, 0, (-1), hNone, []), some (.if_icmp .ne 5, 3, 16, 0, 0, hNone, []), none, none, some (.iconst (-1), 1, 0, 0, (-1), hNone, []), some (.ireturn, 1, 0, 0, 0, hNone, []), some (.iload_n 2, 1, 0, 0, 0, hNone, []), some (.iload 4, 2, 0, 0, 0, hNone, []), none, some (.bipush 10, 2, 0, 0, 10, hNone, []), none, some (.iadd, 1, 0, 0, 0, hNone, []), some (.iconst 1, 1, 0, 0, 1, hNone, []), some (.isub, 1, 0, 0, 0, hNone, []), some (.bipush 10, 2, 0, 0, 10, hNone, []), none, some (.idiv, 1, 0, 0, 0, hNone, []), some (.iadd, 1, 0, 0, 0, hNone, []), some (.istore 5, 2, 0, 0, 0, hNone, []), none, some (.iload 5, 2, 0, 0, 0, hNone, []), none, some (.aload_n 0, 1, 0, 0, 0, hNone, []), some (.getfield 15, 3, 3, 2, 0, hNone, [246]), none, none, some (.iload_n 3, 1, 0, 0, 0, hNone, []), some (.iaload, 1, 0, 0, 0, hNone, []), some (.invokestatic 59, 3, 8, 0, 0, hNone, [625, 425, 67, 426]), none, none, some (.istore 6, 2, 0, 0, 0, hNone, []), none, some (.iload 6, 2, 0, 0, 0, hNone, []), none, some (.aload_n 0, 1, 0, 0, 0, hNone, []), some (.getfield 18, 3, 3, 3, 0, hNone, [248]), none, none, some (.iload_n 3, 1, 0, 0, 0, hNone, []), some (.iaload, 1, 0, 0, 0, hNone, []), some (.if_icmp .gt 8, 3, 59, 0, 0, hNone, []), none, none, some (.iload 6, 2, 0, 0, 0, hNone, []), none, some (.goto 4, 3, 60, 0, 0, hNone, []), none, none, some (.iconst (-1), 1, 0, 0, (-1), hNone, []), some (.ireturn, 1, 0, 0, 0, hNone, [])]
set_option maxRecDepth 100000 in
theorem oX3_nightBehind : tbOk hX3_nightBehind tX3_nightBehind := tbOk_of (by decide +kernel)
theorem iX3_nightBehind : Cond.code hX3_nightBehind.1 hX3_nightBehind.2.1 hX3_nightBehind.2.2.1 hX3_nightBehind.2.2.2 ∈ lw_tbl := List.mem_of_getElem? (i := 623) (by decide +kernel)
def tX4_add : List (Option En) := [some (.aload_n 0, 1, 0, 0, 0, hNone, []), some (.getfield 30, 3, 4, 0, 0, hNone, [83]), none, none, some (.bipush 8, 2, 0, 0, 8, hNone, []), none, some (.if_icmp .ge 12, 3, 18, 0, 0, hNone, []), none, none, some (.iload_n 1, 1, 0, 0, 0, hNone, []), some (.iload_n 2, 1, 0, 0, 0, hNone, []), some (.iload_n 3, 1, 0, 0, 0, hNone, []), some (.invokestatic 34, 3, 0, 3, 0, hX4_canBe, [363, 58, 364]), none, none, some (.ifCond .ne 5, 3, 20, 0, 0, hNone, []), none, none, some (.iconst (-1), 1, 0, 0, (-1), hNone, []), some (.ireturn, 1, 0, 0, 0, hNone, []), some (.aload_n 0, 1, 0, 0, 0, hNone, []), some (.getfield 30, 3, 4, 0, 0, hNone, [83]), none, none, some (.istore 4, 2, 0, 0, 0, hNone, []), none, some (.aload_n 0, 1, 0, 0, 0, hNone, []), some (.getfield 9, 3, 4, 1, 0, hNone, [87]), none, none, some (.iload 4, 2, 0, 0, 0, hNone, []), none, some (.iload_n 1, 1, 0, 0, 0, hNone, []), some (.sipush 1000, 3, 0, 0, 1000, hNone, []), none, none, some (.idiv, 1, 0, 0, 0, hNone, []), some (.iastore, 1, 0, 0, 0, hNone, []), some (.aload_n 0, 1, 0, 0, 0, hNone, []), some (.getfield 15, 3, 4, 2, 0, hNone, [90]), none, none, some (.iload 4, 2, 0, 0, 0, hNone, []), none, some (.iload_n 1, 1, 0, 0, 0, hNone, []), some (.bipush 100, 2, 0, 0, 100, hNone, []), none, some (.idiv, 1, 0, 0, 0, hNone, []), some (.bipush 10, 2, 0, 0, 10, hNone, []), none, some (.irem, 1, 0, 0, 0, hNone, []), some (.iastore, 1, 0, 0, 0, hNone, []), some (.aload_n 0, 1, 0, 0, 0, hNone, []), some (.getfield 18, 3, 4, 3, 0, hNone, [92]), none, none, some (.iload 4, 2, 0, 0, 0, hNone, []), none, some (.iload_n 1, 1, 0, 0, 0, hNone, []), some (.bipush 100, 2, 0, 0, 100, hNone, []), none, some (.irem, 1, 0, 0, 0, hNone, []), some (.iastore, 1, 0, 0, 0, hNone, []), some (.aload_n 0, 1, 0, 0, 0, hNone, []), some (.getfield 21, 3, 4, 4, 0, hNone, [95]), none, none, some (.iload 4, 2, 0, 0, 0, hNone, []), none, some (.iload_n 2, 1, 0, 0, 0, hNone, []), some (.iastore, 1, 0, 0, 0, hNone, []), some (.aload_n 0, 1, 0, 0, 0, hNone, []), some (.getfield 24, 3, 4, 5, 0, hNone, [97]), none, none, some (.iload 4, 2, 0, 0, 0, hNone, []), none, some (.iload_n 3, 1, 0, 0, 0, hNone, []), some (.iastore, 1, 0, 0, 0, hNone, []), some (.aload_n 0, 1, 0, 0, 0, hNone, []), some (.dup, 1, 0, 0, 0, hNone, []), some (.getfield 30, 3, 4, 0, 0, hNone, [83]), none, none, some (.iconst 1, 1, 0, 0, 1, hNone, []), some (.iadd, 1, 0, 0, 0, hNone, []), some (.putfield 30, 3, 4, 0, 0, hNone, [83]), none, none, some (.aload_n 0, 1, 0, 0, 0, hNone, []), some (.dup, 1, 0, 0, 0, hNone, []), some (.getfield 38, 3, 4, 8, 0, hNone, [105]), none, none, some (.iconst 1, 1, 0, 0, 1, hNone, []), some (.iadd, 1, 0, 0, 0, hNone, []), some (.putfield 38, 3, 4, 8, 0, hNone, [105]), none, none, some (.iload 4, 2, 0, 0, 0, hNone, []), none, some (.ireturn, 1, 0, 0, 0, hNone, [])]
set_option maxRecDepth 100000 in
theorem oX4_add : tbOk hX4_add tX4_add := tbOk_of (by decide +kernel)
theorem iX4_add : Cond.code hX4_add.1 hX4_add.2.1 hX4_add.2.2.1 hX4_add.2.2.2 ∈ lw_tbl := List.mem_of_getElem? (i := 362) (by decide +kernel)
def tX4_canBe : List (Option En) := [some (.iload_n 0, 1, 0, 0, 0, hNone, []), some (.sipush 1000, 3, 0, 0, 1000, hNone, []), none, none, some (.if_icmp .lt 13, 3, 17, 0, 0, hNone, []), none, none, some (.iload_n 0, 1, 0, 0, 0, hNone, []), some (.sipush 1000, 3, 0, 0, 1000, hNone, []), none, none, some (.idiv, 1, 0, 0, 0, hNone, []), some (.bipush 60, 2, 0, 0, 60, hNone, []), none, some (.if_icmp .le 5, 3, 19, 0, 0, hNone, []), none, none, some (.iconst 0, 1, 0, 0, 0, hNone, []), some (.ireturn, 1, 0, 0, 0, hNone, []), some (.iload_n 0, 1, 0, 0, 0, hNone, []), some (.bipush 100, 2, 0, 0, 100, hNone, []), none, some (.idiv, 1, 0, 0, 0, hNone, []), some (.bipush 10, 2, 0, 0, 10, hNone, []), none, some (.irem, 1, 0, 0, 0, hNone, []), some (.istore_n 3, 1, 0, 0, 0, hNone, []), some (.iload_n 3, 1, 0, 0, 0, hNone, []), some (.iconst 4, 1, 0, 0, 4, hNone, []), some (.if_icmp .ge 14, 3, 43, 0, 0, hNone, []), none, none, some (.iload_n 1, 1, 0, 0, 0, hNone, []), some (.ifCond .lt 10, 3, 43, 0, 0, hNone, []), none, none, some (.iload_n 1, 1, 0, 0, 0, hNone, []), some (.sipush 1023, 3, 0, 0, 1023, hNone, []), none, none, some (.if_icmp .le 5, 3, 45, 0, 0, hNone, []), none, none, some (.iconst 0, 1, 0, 0, 0, hNone, []), some (.ireturn, 1, 0, 0, 0, hNone, []), some (.iload_n 2, 1, 0, 0, 0, hNone, []), some (.ifCond .lt 23, 3, 69, 0, 0, hNone, []), none, none, some (.iload_n 2, 1, 0, 0, 0, hNone, []), some (.iload_n 3, 1, 0, 0, 0, hNone, []), some (.iconst 3, 1, 0, 0, 3, hNone, []), some (.if_icmp .ne 7, 3, 59, 0, 0, hNone, []), none, none, some (.iconst 0, 1, 0, 0, 0, hNone, []), some (.goto 6, 3, 62, 0, 0, hNone, []), none, none, some (.sipush 255, 3, 0, 0, 255, hNone, []), none, none, some (.if_icmp .gt 7, 3, 69, 0, 0, hNone, []), none, none, some (.iconst 1, 1, 0, 0, 1, hNone, []), some (.goto 4, 3, 70, 0, 0, hNone, []), none, none, some (.iconst 0, 1, 0, 0, 0, hNone, []), some (.ireturn, 1, 0, 0, 0, hNone, [])]
set_option maxRecDepth 100000 in
theorem oX4_canBe : tbOk hX4_canBe tX4_canBe := tbOk_of (by decide +kernel)
theorem iX4_canBe : Cond.code hX4_canBe.1 hX4_canBe.2.1 hX4_canBe.2.2.1 hX4_canBe.2.2.2 ∈ lw_tbl := List.mem_of_getElem? (i := 365) (by decide +kernel)
def tX4_setRest : List (Option En) := [some (.iload_n 1, 1, 0, 0, 0, hNone, []), some (.bipush 10, 2, 0, 0, 10, hNone, []), none, some (.invokestatic 41, 3, 0, 2, 0, hX7_isIn, [374, 57, 375]), none, none, some (.ifCond .eq 12, 3, 18, 0, 0, hNone, []), none, none, some (.iload_n 2, 1, 0, 0, 0, hNone, []), some (.ifCond .lt 8, 3, 18, 0, 0, hNone, []), none, none, some (.iload_n 2, 1, 0, 0, 0, hNone, []), some (.iconst 3, 1, 0, 0, 3, hNone, []), some (.if_icmp .le 5, 3, 20, 0, 0, hNone, []), none, none, some (.iconst 0, 1, 0, 0, 0, hNone, []), some (.ireturn, 1, 0, 0, 0, hNone, []), some (.iconst 1, 1, 0, 0, 1, hNone, []), some (.istore_n 3, 1, 0, 0, 0, hNone, []), some (.iload_n 3, 1, 0, 0, 0, hNone, []), some (.iconst 3, 1, 0, 0, 3, hNone, []), some (.if_icmp .gt 43, 3, 67, 0, 0, hNone, []), none, none, some (.iload_n 3, 1, 0, 0, 0, hNone, []), some (.iload_n 2, 1, 0, 0, 0, hNone, []), some (.if_icmp .gt 18, 3, 47, 0, 0, hNone, []), none, none, some (.aload_n 0, 1, 0, 0, 0, hNone, []), some (.getfield 27, 3, 4, 6, 0, hNone, [100]), none, none, some (.iload_n 3, 1, 0, 0, 0, hNone, []), some (.dup2, 1, 0, 0, 0, hNone, []), some (.iaload, 1, 0, 0, 0, hNone, []), some (.iconst 1, 1, 0, 0, 1, hNone, []), some (.iload_n 1, 1, 0, 0, 0, hNone, []), some (.ishl, 1, 0, 0, 0, hNone, []), some (.ior, 1, 0, 0, 0, hNone, []), some (.iastore, 1, 0, 0, 0, hNone, []), some (.goto 17, 3, 61, 0, 0, hNone, []), none, none, some (.aload_n 0, 1, 0, 0, 0, hNone, []), some (.getfield 27, 3, 4, 6, 0, hNone, [100]), none, none, some (.iload_n 3, 1, 0, 0, 0, hNone, []), some (.dup2, 1, 0, 0, 0, hNone, []), some (.iaload, 1, 0, 0, 0, hNone, []), some (.iconst 1, 1, 0, 0, 1, hNone, []), some (.iload_n 1, 1, 0, 0, 0, hNone, []), some (.ishl, 1, 0, 0, 0, hNone, []), some (.iconst (-1), 1, 0, 0, (-1), hNone, []), some (.ixor, 1, 0, 0, 0, hNone, []), some (.iand, 1, 0, 0, 0, hNone, []), some (.iastore, 1, 0, 0, 0, hNone, []), some (.iinc 3 1, 3, 0, 0, 1, hNone, []), none, none, some (.goto (-42), 3, 22, 0, 0, hNone, []), none, none, some (.aload_n 0, 1, 0, 0, 0, hNone, []), some (.dup, 1, 0, 0, 0, hNone, []), some (.getfield 38, 3, 4, 8, 0, hNone, [105]), none, none, some (.iconst 1, 1, 0, 0, 1, hNone, []), some (.iadd, 1, 0, 0, 0, hNone, []), some (.putfield 38, 3, 4, 8, 0, hNone, [105]), none, none, some (.iconst 1, 1, 0, 0, 1, hNone, []), some (.ireturn, 1, 0, 0, 0, hNone, [])]
set_option maxRecDepth 100000 in
theorem oX4_setRest : tbOk hX4_setRest tX4_setRest := tbOk_of (by decide +kernel)
theorem iX4_setRest : Cond.code hX4_setRest.1 hX4_setRest.2.1 hX4_setRest.2.2.1 hX4_setRest.2.2.2 ∈ lw_tbl := List.mem_of_getElem? (i := 373) (by decide +kernel)
def tX4_setBan : List (Option En) := [some (.iload_n 1, 1, 0, 0, 0, hNone, []), some (.iconst 4, 1, 0, 0, 4, hNone, []), some (.invokestatic 41, 3, 0, 2, 0, hX7_isIn, [374, 57, 375]), none, none, some (.ifCond .eq 21, 3, 26, 0, 0, hNone, []), none, none, some (.iload_n 2, 1, 0, 0, 0, hNone, []), some (.iconst 4, 1, 0, 0, 4, hNone, []), some (.invokestatic 41, 3, 0, 2, 0, hX7_isIn, [374, 57, 375]), none, none, some (.ifCond .eq 13, 3, 26, 0, 0, hNone, []), none, none, some (.aload_n 0, 1, 0, 0, 0, hNone, []), some (.iload_n 1, 1, 0, 0, 0, hNone, []), some (.iload_n 2, 1, 0, 0, 0, hNone, []), some (.invokevirtual 45, 3, 4, 2, 0, hX4_isBanned, [385, 58, 387, 3]), none, none, some (.iload_n 3, 1, 0, 0, 0, hNone, []), some (.if_icmp .ne 5, 3, 28, 0, 0, hNone, []), none, none, some (.iconst 0, 1, 0, 0, 0, hNone, []), some (.ireturn, 1, 0, 0, 0, hNone, []), some (.aload_n 0, 1, 0, 0, 0, hNone, []), some (.dup, 1, 0, 0, 0, hNone, []), some (.getfield 48, 3, 4, 7, 0, hNone, [102]), none, none, some (.iconst 1, 1, 0, 0, 1, hNone, []), some (.iload_n 1, 1, 0, 0, 0, hNone, []), some (.iconst 4, 1, 0, 0, 4, hNone, []), some (.imul, 1, 0, 0, 0, hNone, []), some (.iload_n 2, 1, 0, 0, 0, hNone, []), some (.iadd, 1, 0, 0, 0, hNone, []), some (.ishl, 1, 0, 0, 0, hNone, []), some (.ixor, 1, 0, 0, 0, hNone, []), some (.putfield 48, 3, 4, 7, 0, hNone, [102]), none, none, some (.aload_n 0, 1, 0, 0, 0, hNone, []), some (.dup, 1, 0, 0, 0, hNone, []), some (.getfield 38, 3, 4, 8, 0, hNone, [105]), none, none, some (.iconst 1, 1, 0, 0, 1, hNone, []), some (.iadd, 1, 0, 0, 0, hNone, []), some (.putfield 38, 3, 4, 8, 0, hNone, [105]), none, none, some (.iconst 1, 1, 0, 0, 1, hNone, []), some (.ireturn, 1, 0, 0, 0, hNone, [])]
set_option maxRecDepth 100000 in
theorem oX4_setBan : tbOk hX4_setBan tX4_setBan := tbOk_of (by decide +kernel)
theorem iX4_setBan : Cond.code hX4_setBan.1 hX4_setBan.2.1 hX4_setBan.2.2.1 hX4_setBan.2.2.2 ∈ lw_tbl := List.mem_of_getElem? (i := 384) (by decide +kernel)
def tX4_isBanned : List (Option En) := [some (.aload_n 0, 1, 0, 0, 0, hNone, []), some (.getfield 48, 3, 4, 7, 0, hNone, [102]), none, none, some (.iload_n 1, 1, 0, 0, 0, hNone, []), some (.iconst 4, 1, 0, 0, 4, hNone, []), some (.imul, 1, 0, 0, 0, hNone, []), some (.iload_n 2, 1, 0, 0, 0, hNone, []), some (.iadd, 1, 0, 0, 0, hNone, []), some (.ishr, 1, 0, 0, 0, hNone, []), some (.iconst 1, 1, 0, 0, 1, hNone, []), some (.iand, 1, 0, 0, 0, hNone, []), some (.ifCond .eq 7, 3, 19, 0, 0, hNone, []), none, none, some (.iconst 1, 1, 0, 0, 1, hNone, []), some (.goto 4, 3, 20, 0, 0, hNone, []), none, none, some (.iconst 0, 1, 0, 0, 0, hNone, []), some (.ireturn, 1, 0, 0, 0, hNone, [])]
set_option maxRecDepth 100000 in
theorem oX4_isBanned : tbOk hX4_isBanned tX4_isBanned := tbOk_of (by decide +kernel)
theorem iX4_isBanned : Cond.code hX4_isBanned.1 hX4_isBanned.2.1 hX4_isBanned.2.2.1 hX4_isBanned.2.2.2 ∈ lw_tbl := List.mem_of_getElem? (i := 388) (by decide +kernel)
def tX4_isClowns : List (Option En) := [some (.aload_n 0, 1, 0, 0, 0, hNone, []), some (.getfield 15, 3, 4, 2, 0, hNone, [90]), none, none, some (.iload_n 1, 1, 0, 0, 0, hNone, []), some (.iaload, 1, 0, 0, 0, hNone, []), some (.iconst 3, 1, 0, 0, 3, hNone, []), some (.if_icmp .ne 7, 3, 14, 0, 0, hNone, []), none, none, some (.iconst 1, 1, 0, 0, 1, hNone, []), some (.goto 4, 3, 15, 0, 0, hNone, []), none, none, some (.iconst 0, 1, 0, 0, 0, hNone, []), some (.ireturn, 1, 0, 0, 0, hNone, [])]
set_option maxRecDepth 100000 in
theorem oX4_isClowns : tbOk hX4_isClowns tX4_isClowns := tbOk_of (by decide +kernel)
theorem iX4_isClowns : Cond.code hX4_isClowns.1 hX4_isClowns.2.1 hX4_isClowns.2.2.1 hX4_isClowns.2.2.2 ∈ lw_tbl := List.mem_of_getElem? (i := 417) (by decide +kernel)
def tX5_isWind : List (Option En) := [some (.iload_n 0, 1, 0, 0, 0, hNone, []), some (.bipush (-100), 2, 0, 0, (-100), hNone, []), none, some (.if_icmp .lt 13, 3, 16, 0, 0, hNone, []), none, none, some (.iload_n 0, 1, 0, 0, 0, hNone, []), some (.bipush 100, 2, 0, 0, 100, hNone, []), none, some (.if_icmp .gt 7, 3, 16, 0, 0, hNone, []), none, none, some (.iconst 1, 1, 0, 0, 1, hNone, []), some (.goto 4, 3, 17, 0, 0, hNone, []), none, none, some (.iconst 0, 1, 0, 0, 0, hNone, []), some (.ireturn, 1, 0, 0, 0, hNone, [])]
set_option maxRecDepth 100000 in
theorem oX5_isWind : tbOk hX5_isWind tX5_isWind := tbOk_of (by decide +kernel)
theorem iX5_isWind : Cond.code hX5_isWind.1 hX5_isWind.2.1 hX5_isWind.2.2.1 hX5_isWind.2.2.2 ∈ lw_tbl := List.mem_of_getElem? (i := 516) (by decide +kernel)
def tX5_setLoad : List (Option En) := [some (.iload_n 1, 1, 0, 0, 0, hNone, []), some (.bipush 8, 2, 0, 0, 8, hNone, []), none, some (.invokestatic 31, 3, 0, 2, 0, hX7_isIn, [488, 57, 375]), none, none, some (.ifCond .eq 14, 3, 20, 0, 0, hNone, []), none, none, some (.iload_n 2, 1, 0, 0, 0, hNone, []), some (.ifCond .lt 10, 3, 20, 0, 0, hNone, []), none, none, some (.iload_n 2, 1, 0, 0, 0, hNone, []), some (.sipush 10000, 3, 0, 0, 10000, hNone, []), none, none, some (.if_icmp .le 5, 3, 22, 0, 0, hNone, []), none, none, some (.iconst 0, 1, 0, 0, 0, hNone, []), some (.ireturn, 1, 0, 0, 0, hNone, []), some (.aload_n 0, 1, 0, 0, 0, hNone, []), some (.getfield 9, 3, 5, 0, 0, hNone, [209]), none, none, some (.iload_n 1, 1, 0, 0, 0, hNone, []), some (.iload_n 2, 1, 0, 0, 0, hNone, []), some (.iastore, 1, 0, 0, 0, hNone, []), some (.iconst 1, 1, 0, 0, 1, hNone, []), some (.ireturn, 1, 0, 0, 0, hNone, [])]
set_option maxRecDepth 100000 in
theorem oX5_setLoad : tbOk hX5_setLoad tX5_setLoad := tbOk_of (by decide +kernel)
theorem iX5_setLoad : Cond.code hX5_setLoad.1 hX5_setLoad.2.1 hX5_setLoad.2.2.1 hX5_setLoad.2.2.2 ∈ lw_tbl := List.mem_of_getElem? (i := 487) (by decide +kernel)
def tX5_setShare : List (Option En) := [some (.iload_n 1, 1, 0, 0, 0, hNone, []), some (.bipush 8, 2, 0, 0, 8, hNone, []), none, some (.invokestatic 31, 3, 0, 2, 0, hX7_isIn, [488, 57, 375]), none, none, some (.ifCond .eq 22, 3, 28, 0, 0, hNone, []), none, none, some (.iload_n 2, 1, 0, 0, 0, hNone, []), some (.bipush 8, 2, 0, 0, 8, hNone, []), none, some (.invokestatic 31, 3, 0, 2, 0, hX7_isIn, [488, 57, 375]), none, none, some (.ifCond .eq 13, 3, 28, 0, 0, hNone, []), none, none, some (.iload_n 3, 1, 0, 0, 0, hNone, []), some (.ifCond .lt 9, 3, 28, 0, 0, hNone, []), none, none, some (.iload_n 3, 1, 0, 0, 0, hNone, []), some (.bipush 100, 2, 0, 0, 100, hNone, []), none, some (.if_icmp .le 5, 3, 30, 0, 0, hNone, []), none, none, some (.iconst 0, 1, 0, 0, 0, hNone, []), some (.ireturn, 1, 0, 0, 0, hNone, []), some (.aload_n 0, 1, 0, 0, 0, hNone, []), some (.iload_n 1, 1, 0, 0, 0, hNone, []), some (.iload_n 2, 1, 0, 0, 0, hNone, []), some (.invokevirtual 35, 3, 5, 2, 0, hX5_sharesBeside, [497, 61, 499, 18]), none, none, some (.iload_n 3, 1, 0, 0, 0, hNone, []), some (.iadd, 1, 0, 0, 0, hNone, []), some (.bipush 100, 2, 0, 0, 100, hNone, []), none, some (.if_icmp .le 5, 3, 45, 0, 0, hNone, []), none, none, some (.iconst 0, 1, 0, 0, 0, hNone, []), some (.ireturn, 1, 0, 0, 0, hNone, []), some (.aload_n 0, 1, 0, 0, 0, hNone, []), some (.getfield 15, 3, 5, 1, 0, hNone, [210]), none, none, some (.iload_n 1, 1, 0, 0, 0, hNone, []), some (.bipush 8, 2, 0, 0, 8, hNone, []), none, some (.imul, 1, 0, 0, 0, hNone, []), some (.iload_n 2, 1, 0, 0, 0, hNone, []), some (.iadd, 1, 0, 0, 0, hNone, []), some (.iload_n 3, 1, 0, 0, 0, hNone, []), some (.iastore, 1, 0, 0, 0, hNone, []), some (.iconst 1, 1, 0, 0, 1, hNone, []), some (.ireturn, 1, 0, 0, 0, hNone, [])]
set_option maxRecDepth 100000 in
theorem oX5_setShare : tbOk hX5_setShare tX5_setShare := tbOk_of (by decide +kernel)
theorem iX5_setShare : Cond.code hX5_setShare.1 hX5_setShare.2.1 hX5_setShare.2.2.1 hX5_setShare.2.2.2 ∈ lw_tbl := List.mem_of_getElem? (i := 496) (by decide +kernel)
def tX5_sharesBeside : List (Option En) := [some (.iconst 0, 1, 0, 0, 0, hNone, []), some (.istore_n 3, 1, 0, 0, 0, hNone, []), some (.iconst 0, 1, 0, 0, 0, hNone, []), some (.istore 4, 2, 0, 0, 0, hNone, []), none, some (.iload 4, 2, 0, 0, 0, hNone, []), none, some (.bipush 8, 2, 0, 0, 8, hNone, []), none, some (.if_icmp .ge 30, 3, 39, 0, 0, hNone, []), none, none, some (.iload 4, 2, 0, 0, 0, hNone, []), none, some (.iload_n 2, 1, 0, 0, 0, hNone, []), some (.if_icmp .eq 18, 3, 33, 0, 0, hNone, []), none, none, some (.iload_n 3, 1, 0, 0, 0, hNone, []), some (.aload_n 0, 1, 0, 0, 0, hNone, []), some (.getfield 15, 3, 5, 1, 0, hNone, [210]), none, none, some (.iload_n 1, 1, 0, 0, 0, hNone, []), some (.bipush 8, 2, 0, 0, 8, hNone, []), none, some (.imul, 1, 0, 0, 0, hNone, []), some (.iload 4, 2, 0, 0, 0, hNone, []), none, some (.iadd, 1, 0, 0, 0, hNone, []), some (.iaload, 1, 0, 0, 0, hNone, []), some (.iadd, 1, 0, 0, 0, hNone, []), some (.istore_n 3, 1, 0, 0, 0, hNone, []), some (.iinc 4 1, 3, 0, 0, 1, hNone, []), none, none, some (.goto (-31), 3, 5, 0, 0, hNone, []), none, none, some (.iload_n 3, 1, 0, 0, 0, hNone, []), some (.ireturn, 1, 0, 0, 0, hNone, [])]
set_option maxRecDepth 100000 in
theorem oX5_sharesBeside : tbOk hX5_sharesBeside tX5_sharesBeside := tbOk_of (by decide +kernel)
theorem iX5_sharesBeside : Cond.code hX5_sharesBeside.1 hX5_sharesBeside.2.1 hX5_sharesBeside.2.2.1 hX5_sharesBeside.2.2.2 ∈ lw_tbl := List.mem_of_getElem? (i := 500) (by decide +kernel)
def tX5_setExposed : List (Option En) := [some (.iload_n 1, 1, 0, 0, 0, hNone, []), some (.bipush 8, 2, 0, 0, 8, hNone, []), none, some (.invokestatic 31, 3, 0, 2, 0, hX7_isIn, [488, 57, 375]), none, none, some (.ifCond .eq 15, 3, 21, 0, 0, hNone, []), none, none, some (.iload_n 2, 1, 0, 0, 0, hNone, []), some (.bipush (-9), 2, 0, 0, (-9), hNone, []), none, some (.if_icmp .lt 9, 3, 21, 0, 0, hNone, []), none, none, some (.iload_n 2, 1, 0, 0, 0, hNone, []), some (.bipush 9, 2, 0, 0, 9, hNone, []), none, some (.if_icmp .le 5, 3, 23, 0, 0, hNone, []), none, none, some (.iconst 0, 1, 0, 0, 0, hNone, []), some (.ireturn, 1, 0, 0, 0, hNone, []), some (.aload_n 0, 1, 0, 0, 0, hNone, []), some (.getfield 18, 3, 5, 2, 0, hNone, [211]), none, none, some (.iload_n 1, 1, 0, 0, 0, hNone, []), some (.iload_n 2, 1, 0, 0, 0, hNone, []), some (.iastore, 1, 0, 0, 0, hNone, []), some (.iconst 1, 1, 0, 0, 1, hNone, []), some (.ireturn, 1, 0, 0, 0, hNone, [])]
set_option maxRecDepth 100000 in
theorem oX5_setExposed : tbOk hX5_setExposed tX5_setExposed := tbOk_of (by decide +kernel)
theorem iX5_setExposed : Cond.code hX5_setExposed.1 hX5_setExposed.2.1 hX5_setExposed.2.2.1 hX5_setExposed.2.2.2 ∈ lw_tbl := List.mem_of_getElem? (i := 508) (by decide +kernel)
def tX5_isUp : List (Option En) := [some (.iconst 0, 1, 0, 0, 0, hNone, []), some (.istore_n 2, 1, 0, 0, 0, hNone, []), some (.iload_n 2, 1, 0, 0, 0, hNone, []), some (.bipush 8, 2, 0, 0, 8, hNone, []), none, some (.if_icmp .ge 25, 3, 30, 0, 0, hNone, []), none, none, some (.aload_n 0, 1, 0, 0, 0, hNone, []), some (.getfield 15, 3, 5, 1, 0, hNone, [210]), none, none, some (.iload_n 2, 1, 0, 0, 0, hNone, []), some (.bipush 8, 2, 0, 0, 8, hNone, []), none, some (.imul, 1, 0, 0, 0, hNone, []), some (.iload_n 1, 1, 0, 0, 0, hNone, []), some (.iadd, 1, 0, 0, 0, hNone, []), some (.iaload, 1, 0, 0, 0, hNone, []), some (.ifCond .le 5, 3, 24, 0, 0, hNone, []), none, none, some (.iconst 1, 1, 0, 0, 1, hNone, []), some (.ireturn, 1, 0, 0, 0, hNone, []), some (.iinc 2 1, 3, 0, 0, 1, hNone, []), none, none, some (.goto (-25), 3, 2, 0, 0, hNone, []), none, none, some (.aload_n 0, 1, 0, 0, 0, hNone, []), some (.getfield 18, 3, 5, 2, 0, hNone, [211]), none, none, some (.iload_n 1, 1, 0, 0, 0, hNone, []), some (.iaload, 1, 0, 0, 0, hNone, []), some (.ifCond .eq 7, 3, 43, 0, 0, hNone, []), none, none, some (.iconst 1, 1, 0, 0, 1, hNone, []), some (.goto 4, 3, 44, 0, 0, hNone, []), none, none, some (.iconst 0, 1, 0, 0, 0, hNone, []), some (.ireturn, 1, 0, 0, 0, hNone, [])]
set_option maxRecDepth 100000 in
theorem oX5_isUp : tbOk hX5_isUp tX5_isUp := tbOk_of (by decide +kernel)
theorem iX5_isUp : Cond.code hX5_isUp.1 hX5_isUp.2.1 hX5_isUp.2.2.1 hX5_isUp.2.2.2 ∈ lw_tbl := List.mem_of_getElem? (i := 528) (by decide +kernel)
def tX5_ropesUp : List (Option En) := [some (.iconst 0, 1, 0, 0, 0, hNone, []), some (.istore_n 1, 1, 0, 0, 0, hNone, []), some (.iconst 0, 1, 0, 0, 0, hNone, []), some (.istore_n 2, 1, 0, 0, 0, hNone, []), some (.iload_n 2, 1, 0, 0, 0, hNone, []), some (.bipush 8, 2, 0, 0, 8, hNone, []), none, some (.if_icmp .ge 20, 3, 27, 0, 0, hNone, []), none, none, some (.aload_n 0, 1, 0, 0, 0, hNone, []), some (.iload_n 2, 1, 0, 0, 0, hNone, []), some (.invokevirtual 39, 3, 5, 1, 0, hX5_isUp, [525, 61, 527, 22]), none, none, some (.ifCond .eq 6, 3, 21, 0, 0, hNone, []), none, none, some (.iinc 1 1, 3, 0, 0, 1, hNone, []), none, none, some (.iinc 2 1, 3, 0, 0, 1, hNone, []), none, none, some (.goto (-20), 3, 4, 0, 0, hNone, []), none, none, some (.iload_n 1, 1, 0, 0, 0, hNone, []), some (.ireturn, 1, 0, 0, 0, hNone, [])]
set_option maxRecDepth 100000 in
theorem oX5_ropesUp : tbOk hX5_ropesUp tX5_ropesUp := tbOk_of (by decide +kernel)
theorem iX5_ropesUp : Cond.code hX5_ropesUp.1 hX5_ropesUp.2.1 hX5_ropesUp.2.2.1 hX5_ropesUp.2.2.2 ∈ lw_tbl := List.mem_of_getElem? (i := 671) (by decide +kernel)
def tX5_settle : List (Option En) := [some (.aload_n 0, 1, 0, 0, 0, hNone, []), some (.iload_n 1, 1, 0, 0, 0, hNone, []), some (.invokevirtual 43, 3, 5, 1, 0, hX5_hang, [521, 61, 523, 21]), none, none, some (.iconst 0, 1, 0, 0, 0, hNone, []), some (.istore_n 2, 1, 0, 0, 0, hNone, []), some (.iload_n 2, 1, 0, 0, 0, hNone, []), some (.bipush 8, 2, 0, 0, 8, hNone, []), none, some (.if_icmp .ge 25, 3, 35, 0, 0, hNone, []), none, none, some (.aload_n 0, 1, 0, 0, 0, hNone, []), some (.invokevirtual 47, 3, 5, 0, 0, hX5_firstThatPushes, [529, 61, 531, 23]), none, none, some (.istore_n 3, 1, 0, 0, 0, hNone, []), some (.iload_n 3, 1, 0, 0, 0, hNone, []), some (.iconst (-1), 1, 0, 0, (-1), hNone, []), some (.if_icmp .ne 4, 3, 24, 0, 0, hNone, []), none, none, some (.return_, 1, 0, 0, 0, hNone, []), some (.aload_n 0, 1, 0, 0, 0, hNone, []), some (.iload_n 3, 1, 0, 0, 0, hNone, []), some (.invokevirtual 51, 3, 5, 1, 0, hX5_slacken, [533, 61, 535, 24]), none, none, some (.iinc 2 1, 3, 0, 0, 1, hNone, []), none, none, some (.goto (-25), 3, 7, 0, 0, hNone, []), none, none, some (.return_, 1, 0, 0, 0, hNone, [])]
set_option maxRecDepth 100000 in
theorem oX5_settle : tbOk hX5_settle tX5_settle := tbOk_of (by decide +kernel)
theorem iX5_settle : Cond.code hX5_settle.1 hX5_settle.2.1 hX5_settle.2.2.1 hX5_settle.2.2.2 ∈ lw_tbl := List.mem_of_getElem? (i := 520) (by decide +kernel)
def tX5_hang : List (Option En) := [some (.aload_n 0, 1, 0, 0, 0, hNone, []), some (.iconst 0, 1, 0, 0, 0, hNone, []), some (.putfield 54, 3, 5, 6, 0, hNone, [217]), none, none, some (.iconst 0, 1, 0, 0, 0, hNone, []), some (.istore_n 2, 1, 0, 0, 0, hNone, []), some (.iload_n 2, 1, 0, 0, 0, hNone, []), some (.bipush 8, 2, 0, 0, 8, hNone, []), none, some (.if_icmp .ge 85, 3, 95, 0, 0, hNone, []), none, none, some (.bipush 100, 2, 0, 0, 100, hNone, []), none, some (.iload_n 1, 1, 0, 0, 0, hNone, []), some (.imul, 1, 0, 0, 0, hNone, []), some (.aload_n 0, 1, 0, 0, 0, hNone, []), some (.getfield 18, 3, 5, 2, 0, hNone, [211]), none, none, some (.iload_n 2, 1, 0, 0, 0, hNone, []), some (.iaload, 1, 0, 0, 0, hNone, []), some (.imul, 1, 0, 0, 0, hNone, []), some (.istore_n 3, 1, 0, 0, 0, hNone, []), some (.iconst 0, 1, 0, 0, 0, hNone, []), some (.istore 4, 2, 0, 0, 0, hNone, []), none, some (.iload 4, 2, 0, 0, 0, hNone, []), none, some (.bipush 8, 2, 0, 0, 8, hNone, []), none, some (.if_icmp .ge 32, 3, 64, 0, 0, hNone, []), none, none, some (.iload_n 3, 1, 0, 0, 0, hNone, []), some (.aload_n 0, 1, 0, 0, 0, hNone, []), some (.getfield 9, 3, 5, 0, 0, hNone, [209]), none, none, some (.iload 4, 2, 0, 0, 0, hNone, []), none, some (.iaload, 1, 0, 0, 0, hNone, []), some (.aload_n 0, 1, 0, 0, 0, hNone, []), some (.getfield 15, 3, 5, 1, 0, hNone, [210]), none, none, some (.iload 4, 2, 0, 0, 0, hNone, []), none, some (.bipush 8, 2, 0, 0, 8, hNone, []), none, some (.imul, 1, 0, 0, 0, hNone, []), some (.iload_n 2, 1, 0, 0, 0, hNone, []), some (.iadd, 1, 0, 0, 0, hNone, []), some (.iaload, 1, 0, 0, 0, hNone, []), some (.imul, 1, 0, 0, 0, hNone, []), some (.iadd, 1, 0, 0, 0, hNone, []), some (.istore_n 3, 1, 0, 0, 0, hNone, []), some (.iinc 4 1, 3, 0, 0, 1, hNone, []), none, none, some (.goto (-33), 3, 28, 0, 0, hNone, []), none, none, some (.aload_n 0, 1, 0, 0, 0, hNone, []), some (.getfield 21, 3, 5, 3, 0, hNone, [212]), none, none, some (.iload_n 2, 1, 0, 0, 0, hNone, []), some (.iload_n 3, 1, 0, 0, 0, hNone, []), some (.iastore, 1, 0, 0, 0, hNone, []), some (.aload_n 0, 1, 0, 0, 0, hNone, []), some (.getfield 24, 3, 5, 4, 0, hNone, [214]), none, none, some (.iload_n 2, 1, 0, 0, 0, hNone, []), some (.aload_n 0, 1, 0, 0, 0, hNone, []), some (.iload_n 2, 1, 0, 0, 0, hNone, []), some (.invokevirtual 39, 3, 5, 1, 0, hX5_isUp, [525, 61, 527, 22]), none, none, some (.bastore, 1, 0, 0, 0, hNone, []), some (.aload_n 0, 1, 0, 0, 0, hNone, []), some (.getfield 28, 3, 5, 5, 0, hNone, [215]), none, none, some (.iload_n 2, 1, 0, 0, 0, hNone, []), some (.iconst 0, 1, 0, 0, 0, hNone, []), some (.bastore, 1, 0, 0, 0, hNone, []), some (.iinc 2 1, 3, 0, 0, 1, hNone, []), none, none, some (.goto (-85), 3, 7, 0, 0, hNone, []), none, none, some (.return_, 1, 0, 0, 0, hNone, [])]
set_option maxRecDepth 100000 in
theorem oX5_hang : tbOk hX5_hang tX5_hang := tbOk_of (by decide +kernel)
theorem iX5_hang : Cond.code hX5_hang.1 hX5_hang.2.1 hX5_hang.2.2.1 hX5_hang.2.2.2 ∈ lw_tbl := List.mem_of_getElem? (i := 524) (by decide +kernel)
def tX5_firstThatPushes : List (Option En) := [some (.iconst 0, 1, 0, 0, 0, hNone, []), some (.istore_n 1, 1, 0, 0, 0, hNone, []), some (.iload_n 1, 1, 0, 0, 0, hNone, []), some (.bipush 8, 2, 0, 0, 8, hNone, []), none, some (.if_icmp .ge 29, 3, 34, 0, 0, hNone, []), none, none, some (.aload_n 0, 1, 0, 0, 0, hNone, []), some (.getfield 24, 3, 5, 4, 0, hNone, [214]), none, none, some (.iload_n 1, 1, 0, 0, 0, hNone, []), some (.baload, 1, 0, 0, 0, hNone, []), some (.ifCond .eq 14, 3, 28, 0, 0, hNone, []), none, none, some (.aload_n 0, 1, 0, 0, 0, hNone, []), some (.getfield 21, 3, 5, 3, 0, hNone, [212]), none, none, some (.iload_n 1, 1, 0, 0, 0, hNone, []), some (.iaload, 1, 0, 0, 0, hNone, []), some (.ifCond .ge 5, 3, 28, 0, 0, hNone, []), none, none, some (.iload_n 1, 1, 0, 0, 0, hNone, []), some (.ireturn, 1, 0, 0, 0, hNone, []), some (.iinc 1 1, 3, 0, 0, 1, hNone, []), none, none, some (.goto (-29), 3, 2, 0, 0, hNone, []), none, none, some (.iconst (-1), 1, 0, 0, (-1), hNone, []), some (.ireturn, 1, 0, 0, 0, hNone, [])]
set_option maxRecDepth 100000 in
theorem oX5_firstThatPushes : tbOk hX5_firstThatPushes tX5_firstThatPushes := tbOk_of (by decide +kernel)
theorem iX5_firstThatPushes : Cond.code hX5_firstThatPushes.1 hX5_firstThatPushes.2.1 hX5_firstThatPushes.2.2.1 hX5_firstThatPushes.2.2.2 ∈ lw_tbl := List.mem_of_getElem? (i := 532) (by decide +kernel)
def tX5_slacken : List (Option En) := [some (.aload_n 0, 1, 0, 0, 0, hNone, []), some (.getfield 21, 3, 5, 3, 0, hNone, [212]), none, none, some (.iload_n 1, 1, 0, 0, 0, hNone, []), some (.iaload, 1, 0, 0, 0, hNone, []), some (.istore_n 2, 1, 0, 0, 0, hNone, []), some (.aload_n 0, 1, 0, 0, 0, hNone, []), some (.getfield 21, 3, 5, 3, 0, hNone, [212]), none, none, some (.iload_n 1, 1, 0, 0, 0, hNone, []), some (.iconst 0, 1, 0, 0, 0, hNone, []), some (.iastore, 1, 0, 0, 0, hNone, []), some (.aload_n 0, 1, 0, 0, 0, hNone, []), some (.getfield 24, 3, 5, 4, 0, hNone, [214]), none, none, some (.iload_n 1, 1, 0, 0, 0, hNone, []), some (.iconst 0, 1, 0, 0, 0, hNone, []), some (.bastore, 1, 0, 0, 0, hNone, []), some (.aload_n 0, 1, 0, 0, 0, hNone, []), some (.getfield 28, 3, 5, 5, 0, hNone, [215]), none, none, some (.iload_n 1, 1, 0, 0, 0, hNone, []), some (.iconst 1, 1, 0, 0, 1, hNone, []), some (.bastore, 1, 0, 0, 0, hNone, []), some (.aload_n 0, 1, 0, 0, 0, hNone, []), some (.invokevirtual 58, 3, 5, 0, 0, hX5_ropesThatBear, [537, 61, 539, 25]), none, none, some (.istore_n 3, 1, 0, 0, 0, hNone, []), some (.iload_n 3, 1, 0, 0, 0, hNone, []), some (.ifCond .ne 11, 3, 45, 0, 0, hNone, []), none, none, some (.aload_n 0, 1, 0, 0, 0, hNone, []), some (.iload_n 2, 1, 0, 0, 0, hNone, []), some (.putfield 54, 3, 5, 6, 0, hNone, [217]), none, none, some (.goto 13, 3, 55, 0, 0, hNone, []), none, none, some (.aload_n 0, 1, 0, 0, 0, hNone, []), some (.iload_n 2, 1, 0, 0, 0, hNone, []), some (.iload_n 3, 1, 0, 0, 0, hNone, []), some (.idiv, 1, 0, 0, 0, hNone, []), some (.iload_n 2, 1, 0, 0, 0, hNone, []), some (.iload_n 3, 1, 0, 0, 0, hNone, []), some (.irem, 1, 0, 0, 0, hNone, []), some (.invokevirtual 61, 3, 5, 2, 0, hX5_spread, [541, 61, 543, 26]), none, none, some (.return_, 1, 0, 0, 0, hNone, [])]
set_option maxRecDepth 100000 in
theorem oX5_slacken : tbOk hX5_slacken tX5_slacken := tbOk_of (by decide +kernel)
theorem iX5_slacken : Cond.code hX5_slacken.1 hX5_slacken.2.1 hX5_slacken.2.2.1 hX5_slacken.2.2.2 ∈ lw_tbl := List.mem_of_getElem? (i := 536) (by decide +kernel)
def tX5_ropesThatBear : List (Option En) := [some (.iconst 0, 1, 0, 0, 0, hNone, []), some (.istore_n 1, 1, 0, 0, 0, hNone, []), some (.iconst 0, 1, 0, 0, 0, hNone, []), some (.istore_n 2, 1, 0, 0, 0, hNone, []), some (.iload_n 2, 1, 0, 0, 0, hNone, []), some (.bipush 8, 2, 0, 0, 8, hNone, []), none, some (.if_icmp .ge 21, 3, 28, 0, 0, hNone, []), none, none, some (.aload_n 0, 1, 0, 0, 0, hNone, []), some (.getfield 24, 3, 5, 4, 0, hNone, [214]), none, none, some (.iload_n 2, 1, 0, 0, 0, hNone, []), some (.baload, 1, 0, 0, 0, hNone, []), some (.ifCond .eq 6, 3, 22, 0, 0, hNone, []), none, none, some (.iinc 1 1, 3, 0, 0, 1, hNone, []), none, none, some (.iinc 2 1, 3, 0, 0, 1, hNone, []), none, none, some (.goto (-21), 3, 4, 0, 0, hNone, []), none, none, some (.iload_n 1, 1, 0, 0, 0, hNone, []), some (.ireturn, 1, 0, 0, 0, hNone, [])]
set_option maxRecDepth 100000 in
theorem oX5_ropesThatBear : tbOk hX5_ropesThatBear tX5_ropesThatBear := tbOk_of (by decide +kernel)
theorem iX5_ropesThatBear : Cond.code hX5_ropesThatBear.1 hX5_ropesThatBear.2.1 hX5_ropesThatBear.2.2.1 hX5_ropesThatBear.2.2.2 ∈ lw_tbl := List.mem_of_getElem? (i := 540) (by decide +kernel)
def tX5_spread : List (Option En) := [some (.iload_n 2, 1, 0, 0, 0, hNone, []), some (.istore_n 3, 1, 0, 0, 0, hNone, []), some (.iconst 0, 1, 0, 0, 0, hNone, []), some (.istore 4, 2, 0, 0, 0, hNone, []), none, some (.iload 4, 2, 0, 0, 0, hNone, []), none, some (.bipush 8, 2, 0, 0, 8, hNone, []), none, some (.if_icmp .ge 48, 3, 57, 0, 0, hNone, []), none, none, some (.aload_n 0, 1, 0, 0, 0, hNone, []), some (.getfield 24, 3, 5, 4, 0, hNone, [214]), none, none, some (.iload 4, 2, 0, 0, 0, hNone, []), none, some (.baload, 1, 0, 0, 0, hNone, []), some (.ifCond .eq 32, 3, 51, 0, 0, hNone, []), none, none, some (.aload_n 0, 1, 0, 0, 0, hNone, []), some (.getfield 21, 3, 5, 3, 0, hNone, [212]), none, none, some (.iload 4, 2, 0, 0, 0, hNone, []), none, some (.dup2, 1, 0, 0, 0, hNone, []), some (.iaload, 1, 0, 0, 0, hNone, []), some (.iload_n 1, 1, 0, 0, 0, hNone, []), some (.iadd, 1, 0, 0, 0, hNone, []), some (.iastore, 1, 0, 0, 0, hNone, []), some (.iload_n 3, 1, 0, 0, 0, hNone, []), some (.ifCond .ge 17, 3, 51, 0, 0, hNone, []), none, none, some (.aload_n 0, 1, 0, 0, 0, hNone, []), some (.getfield 21, 3, 5, 3, 0, hNone, [212]), none, none, some (.iload 4, 2, 0, 0, 0, hNone, []), none, some (.dup2, 1, 0, 0, 0, hNone, []), some (.iaload, 1, 0, 0, 0, hNone, []), some (.iconst 1, 1, 0, 0, 1, hNone, []), some (.isub, 1, 0, 0, 0, hNone, []), some (.iastore, 1, 0, 0, 0, hNone, []), some (.iinc 3 1, 3, 0, 0, 1, hNone, []), none, none, some (.iinc 4 1, 3, 0, 0, 1, hNone, []), none, none, some (.goto (-49), 3, 5, 0, 0, hNone, []), none, none, some (.return_, 1, 0, 0, 0, hNone, [])]
set_option maxRecDepth 100000 in
theorem oX5_spread : tbOk hX5_spread tX5_spread := tbOk_of (by decide +kernel)
theorem iX5_spread : Cond.code hX5_spread.1 hX5_spread.2.1 hX5_spread.2.2.1 hX5_spread.2.2.2 ∈ lw_tbl := List.mem_of_getElem? (i := 544) (by decide +kernel)
def tX6_add : List (Option En) := [some (.aload_n 0, 1, 0, 0, 0, hNone, []), some (.getfield 18, 3, 6, 0, 0, hNone, [314]), none, none, some (.sipush 500, 3, 0, 0, 500, hNone, []), none, none, some (.if_icmp .ge 21, 3, 28, 0, 0, hNone, []), none, none, some (.iload_n 1, 1, 0, 0, 0, hNone, []), some (.bipush 8, 2, 0, 0, 8, hNone, []), none, some (.invokestatic 22, 3, 0, 2, 0, hX7_isIn, [642, 57, 375]), none, none, some (.ifCond .eq 12, 3, 28, 0, 0, hNone, []), none, none, some (.iload_n 2, 1, 0, 0, 0, hNone, []), some (.bipush 7, 2, 0, 0, 7, hNone, []), none, some (.invokestatic 22, 3, 0, 2, 0, hX7_isIn, [642, 57, 375]), none, none, some (.ifCond .ne 5, 3, 30, 0, 0, hNone, []), none, none, some (.iconst (-1), 1, 0, 0, (-1), hNone, []), some (.ireturn, 1, 0, 0, 0, hNone, []), some (.iload_n 3, 1, 0, 0, 0, hNone, []), some (.ifCond .lt 9, 3, 40, 0, 0, hNone, []), none, none, some (.iload_n 3, 1, 0, 0, 0, hNone, []), some (.ldc 26, 2, 0, 0, 1000000, hNone, [643]), none, some (.if_icmp .le 5, 3, 42, 0, 0, hNone, []), none, none, some (.iconst (-1), 1, 0, 0, (-1), hNone, []), some (.ireturn, 1, 0, 0, 0, hNone, []), some (.aload_n 0, 1, 0, 0, 0, hNone, []), some (.getfield 9, 3, 6, 1, 0, hNone, [316]), none, none, some (.iload_n 1, 1, 0, 0, 0, hNone, []), some (.bipush 7, 2, 0, 0, 7, hNone, []), none, some (.imul, 1, 0, 0, 0, hNone, []), some (.iload_n 2, 1, 0, 0, 0, hNone, []), some (.iadd, 1, 0, 0, 0, hNone, []), some (.dup2, 1, 0, 0, 0, hNone, []), some (.iaload, 1, 0, 0, 0, hNone, []), some (.iload_n 3, 1, 0, 0, 0, hNone, []), some (.iadd, 1, 0, 0, 0, hNone, []), some (.iastore, 1, 0, 0, 0, hNone, []), some (.aload_n 0, 1, 0, 0, 0, hNone, []), some (.getfield 15, 3, 6, 2, 0, hNone, [317]), none, none, some (.iload_n 1, 1, 0, 0, 0, hNone, []), some (.bipush 7, 2, 0, 0, 7, hNone, []), none, some (.imul, 1, 0, 0, 0, hNone, []), some (.iload_n 2, 1, 0, 0, 0, hNone, []), some (.iadd, 1, 0, 0, 0, hNone, []), some (.dup2, 1, 0, 0, 0, hNone, []), some (.iaload, 1, 0, 0, 0, hNone, []), some (.iconst 1, 1, 0, 0, 1, hNone, []), some (.iadd, 1, 0, 0, 0, hNone, []), some (.iastore, 1, 0, 0, 0, hNone, []), some (.aload_n 0, 1, 0, 0, 0, hNone, []), some (.dup, 1, 0, 0, 0, hNone, []), some (.getfield 18, 3, 6, 0, 0, hNone, [314]), none, none, some (.iconst 1, 1, 0, 0, 1, hNone, []), some (.iadd, 1, 0, 0, 0, hNone, []), some (.putfield 18, 3, 6, 0, 0, hNone, [314]), none, none, some (.aload_n 0, 1, 0, 0, 0, hNone, []), some (.getfield 18, 3, 6, 0, 0, hNone, [314]), none, none, some (.ireturn, 1, 0, 0, 0, hNone, [])]
set_option maxRecDepth 100000 in
theorem oX6_add : tbOk hX6_add tX6_add := tbOk_of (by decide +kernel)
theorem iX6_add : Cond.code hX6_add.1 hX6_add.2.1 hX6_add.2.2.1 hX6_add.2.2.2 ∈ lw_tbl := List.mem_of_getElem? (i := 641) (by decide +kernel)
def tX6_foretell : List (Option En) := [some (.aload_n 0, 1, 0, 0, 0, hNone, []), some (.iload_n 1, 1, 0, 0, 0, hNone, []), some (.iload_n 1, 1, 0, 0, 0, hNone, []), some (.iload_n 2, 1, 0, 0, 0, hNone, []), some (.iload_n 2, 1, 0, 0, 0, hNone, []), some (.invokevirtual 27, 3, 6, 4, 0, hX6_gather, [652, 64, 654, 42]), none, none, some (.aload_n 0, 1, 0, 0, 0, hNone, []), some (.getfield 31, 3, 6, 4, 0, hNone, [320]), none, none, some (.ifCond .ne 12, 3, 24, 0, 0, hNone, []), none, none, some (.aload_n 0, 1, 0, 0, 0, hNone, []), some (.iload_n 1, 1, 0, 0, 0, hNone, []), some (.iload_n 1, 1, 0, 0, 0, hNone, []), some (.iconst 0, 1, 0, 0, 0, hNone, []), some (.bipush 6, 2, 0, 0, 6, hNone, []), none, some (.invokevirtual 27, 3, 6, 4, 0, hX6_gather, [652, 64, 654, 42]), none, none, some (.aload_n 0, 1, 0, 0, 0, hNone, []), some (.getfield 31, 3, 6, 4, 0, hNone, [320]), none, none, some (.ifCond .ne 12, 3, 40, 0, 0, hNone, []), none, none, some (.aload_n 0, 1, 0, 0, 0, hNone, []), some (.iconst 0, 1, 0, 0, 0, hNone, []), some (.bipush 7, 2, 0, 0, 7, hNone, []), none, some (.iload_n 2, 1, 0, 0, 0, hNone, []), some (.iload_n 2, 1, 0, 0, 0, hNone, []), some (.invokevirtual 27, 3, 6, 4, 0, hX6_gather, [652, 64, 654, 42]), none, none, some (.aload_n 0, 1, 0, 0, 0, hNone, []), some (.getfield 31, 3, 6, 4, 0, hNone, [320]), none, none, some (.ifCond .ne 13, 3, 57, 0, 0, hNone, []), none, none, some (.aload_n 0, 1, 0, 0, 0, hNone, []), some (.iconst 0, 1, 0, 0, 0, hNone, []), some (.bipush 7, 2, 0, 0, 7, hNone, []), none, some (.iconst 0, 1, 0, 0, 0, hNone, []), some (.bipush 6, 2, 0, 0, 6, hNone, []), none, some (.invokevirtual 27, 3, 6, 4, 0, hX6_gather, [652, 64, 654, 42]), none, none, some (.aload_n 0, 1, 0, 0, 0, hNone, []), some (.invokevirtual 34, 3, 6, 0, 0, hX6_reduce, [656, 64, 658, 43]), none, none, some (.return_, 1, 0, 0, 0, hNone, [])]
set_option maxRecDepth 100000 in
theorem oX6_foretell : tbOk hX6_foretell tX6_foretell := tbOk_of (by decide +kernel)
theorem iX6_foretell : Cond.code hX6_foretell.1 hX6_foretell.2.1 hX6_foretell.2.2.1 hX6_foretell.2.2.2 ∈ lw_tbl := List.mem_of_getElem? (i := 651) (by decide +kernel)
def tX6_gather : List (Option En) := [some (.aload_n 0, 1, 0, 0, 0, hNone, []), some (.iconst 0, 1, 0, 0, 0, hNone, []), some (.putfield 37, 3, 6, 3, 0, hNone, [318]), none, none, some (.aload_n 0, 1, 0, 0, 0, hNone, []), some (.iconst 0, 1, 0, 0, 0, hNone, []), some (.putfield 31, 3, 6, 4, 0, hNone, [320]), none, none, some (.iload_n 1, 1, 0, 0, 0, hNone, []), some (.istore 5, 2, 0, 0, 0, hNone, []), none, some (.iload 5, 2, 0, 0, 0, hNone, []), none, some (.iload_n 2, 1, 0, 0, 0, hNone, []), some (.if_icmp .gt 69, 3, 85, 0, 0, hNone, []), none, none, some (.iload_n 3, 1, 0, 0, 0, hNone, []), some (.istore 6, 2, 0, 0, 0, hNone, []), none, some (.iload 6, 2, 0, 0, 0, hNone, []), none, some (.iload 4, 2, 0, 0, 0, hNone, []), none, some (.if_icmp .gt 53, 3, 79, 0, 0, hNone, []), none, none, some (.aload_n 0, 1, 0, 0, 0, hNone, []), some (.dup, 1, 0, 0, 0, hNone, []), some (.getfield 37, 3, 6, 3, 0, hNone, [318]), none, none, some (.aload_n 0, 1, 0, 0, 0, hNone, []), some (.getfield 9, 3, 6, 1, 0, hNone, [316]), none, none, some (.iload 5, 2, 0, 0, 0, hNone, []), none, some (.bipush 7, 2, 0, 0, 7, hNone, []), none, some (.imul, 1, 0, 0, 0, hNone, []), some (.iload 6, 2, 0, 0, 0, hNone, []), none, some (.iadd, 1, 0, 0, 0, hNone, []), some (.iaload, 1, 0, 0, 0, hNone, []), some (.iadd, 1, 0, 0, 0, hNone, []), some (.putfield 37, 3, 6, 3, 0, hNone, [318]), none, none, some (.aload_n 0, 1, 0, 0, 0, hNone, []), some (.dup, 1, 0, 0, 0, hNone, []), some (.getfield 31, 3, 6, 4, 0, hNone, [320]), none, none, some (.aload_n 0, 1, 0, 0, 0, hNone, []), some (.getfield 15, 3, 6, 2, 0, hNone, [317]), none, none, some (.iload 5, 2, 0, 0, 0, hNone, []), none, some (.bipush 7, 2, 0, 0, 7, hNone, []), none, some (.imul, 1, 0, 0, 0, hNone, []), some (.iload 6, 2, 0, 0, 0, hNone, []), none, some (.iadd, 1, 0, 0, 0, hNone, []), some (.iaload, 1, 0, 0, 0, hNone, []), some (.iadd, 1, 0, 0, 0, hNone, []), some (.putfield 31, 3, 6, 4, 0, hNone, [320]), none, none, some (.iinc 6 1, 3, 0, 0, 1, hNone, []), none, none, some (.goto (-54), 3, 22, 0, 0, hNone, []), none, none, some (.iinc 5 1, 3, 0, 0, 1, hNone, []), none, none, some (.goto (-69), 3, 13, 0, 0, hNone, []), none, none, some (.return_, 1, 0, 0, 0, hNone, [])]
set_option maxRecDepth 100000 in
theorem oX6_gather : tbOk hX6_gather tX6_gather := tbOk_of (by decide +kernel)
theorem iX6_gather : Cond.code hX6_gather.1 hX6_gather.2.1 hX6_gather.2.2.1 hX6_gather.2.2.2 ∈ lw_tbl := List.mem_of_getElem? (i := 655) (by decide +kernel)
def tX6_reduce : List (Option En) := [some (.aload_n 0, 1, 0, 0, 0, hNone, []), some (.getfield 37, 3, 6, 3, 0, hNone, [318]), none, none, some (.aload_n 0, 1, 0, 0, 0, hNone, []), some (.getfield 31, 3, 6, 4, 0, hNone, [320]), none, none, some (.invokestatic 40, 3, 0, 2, 0, hX6_commonDivisor, [660, 64, 661]), none, none, some (.istore_n 1, 1, 0, 0, 0, hNone, []), some (.iload_n 1, 1, 0, 0, 0, hNone, []), some (.ifCond .le 26, 3, 39, 0, 0, hNone, []), none, none, some (.aload_n 0, 1, 0, 0, 0, hNone, []), some (.dup, 1, 0, 0, 0, hNone, []), some (.getfield 37, 3, 6, 3, 0, hNone, [318]), none, none, some (.iload_n 1, 1, 0, 0, 0, hNone, []), some (.idiv, 1, 0, 0, 0, hNone, []), some (.putfield 37, 3, 6, 3, 0, hNone, [318]), none, none, some (.aload_n 0, 1, 0, 0, 0, hNone, []), some (.dup, 1, 0, 0, 0, hNone, []), some (.getfield 31, 3, 6, 4, 0, hNone, [320]), none, none, some (.iload_n 1, 1, 0, 0, 0, hNone, []), some (.idiv, 1, 0, 0, 0, hNone, []), some (.putfield 31, 3, 6, 4, 0, hNone, [320]), none, none, some (.goto 8, 3, 44, 0, 0, hNone, []), none, none, some (.aload_n 0, 1, 0, 0, 0, hNone, []), some (.iconst 1, 1, 0, 0, 1, hNone, []), some (.putfield 31, 3, 6, 4, 0, hNone, [320]), none, none, some (.return_, 1, 0, 0, 0, hNone, [])]
set_option maxRecDepth 100000 in
theorem oX6_reduce : tbOk hX6_reduce tX6_reduce := tbOk_of (by decide +kernel)
theorem iX6_reduce : Cond.code hX6_reduce.1 hX6_reduce.2.1 hX6_reduce.2.2.1 hX6_reduce.2.2.2 ∈ lw_tbl := List.mem_of_getElem? (i := 659) (by decide +kernel)
def tX6_commonDivisor : List (Option En) := [some (.iload_n 0, 1, 0, 0, 0, hNone, []), some (.istore_n 2, 1, 0, 0, 0, hNone, []), some (.iload_n 1, 1, 0, 0, 0, hNone, []), some (.istore_n 3, 1, 0, 0, 0, hNone, []), some (.iconst 0, 1, 0, 0, 0, hNone, []), some (.istore 4, 2, 0, 0, 0, hNone, []), none, some (.iload 4, 2, 0, 0, 0, hNone, []), none, some (.bipush 64, 2, 0, 0, 64, hNone, []), none, some (.if_icmp .ge 23, 3, 34, 0, 0, hNone, []), none, none, some (.iload_n 3, 1, 0, 0, 0, hNone, []), some (.ifCond .eq 19, 3, 34, 0, 0, hNone, []), none, none, some (.iload_n 2, 1, 0, 0, 0, hNone, []), some (.iload_n 3, 1, 0, 0, 0, hNone, []), some (.irem, 1, 0, 0, 0, hNone, []), some (.istore 5, 2, 0, 0, 0, hNone, []), none, some (.iload_n 3, 1, 0, 0, 0, hNone, []), some (.istore_n 2, 1, 0, 0, 0, hNone, []), some (.iload 5, 2, 0, 0, 0, hNone, []), none, some (.istore_n 3, 1, 0, 0, 0, hNone, []), some (.iinc 4 1, 3, 0, 0, 1, hNone, []), none, none, some (.goto (-24), 3, 7, 0, 0, hNone, []), none, none, some (.iload_n 2, 1, 0, 0, 0, hNone, []), some (.ireturn, 1, 0, 0, 0, hNone, [])]
set_option maxRecDepth 100000 in
theorem oX6_commonDivisor : tbOk hX6_commonDivisor tX6_commonDivisor := tbOk_of (by decide +kernel)
theorem iX6_commonDivisor : Cond.code hX6_commonDivisor.1 hX6_commonDivisor.2.1 hX6_commonDivisor.2.2.1 hX6_commonDivisor.2.2.2 ∈ lw_tbl := List.mem_of_getElem? (i := 662) (by decide +kernel)
def tX7_act : List (Option En) := [some (.aload_n 0, 1, 0, 0, 0, hNone, []), some (.getfield 10, 3, 7, 0, 0, hNone, [333]), none, none, some (.iload_n 1, 1, 0, 0, 0, hNone, []), some (.iload_n 2, 1, 0, 0, 0, hNone, []), some (.iload_n 3, 1, 0, 0, 0, hNone, []), some (.invokevirtual 62, 3, 4, 3, 0, hX4_add, [359, 58, 361, 0]), none, none, some (.ireturn, 1, 0, 0, 0, hNone, [])]
set_option maxRecDepth 100000 in
theorem oX7_act : tbOk hX7_act tX7_act := tbOk_of (by decide +kernel)
theorem iX7_act : Cond.code hX7_act.1 hX7_act.2.1 hX7_act.2.2.1 hX7_act.2.2.2 ∈ lw_tbl := List.mem_of_getElem? (i := 358) (by decide +kernel)
def tX7_rests : List (Option En) := [some (.aload_n 0, 1, 0, 0, 0, hNone, []), some (.getfield 10, 3, 7, 0, 0, hNone, [333]), none, none, some (.iload_n 1, 1, 0, 0, 0, hNone, []), some (.iload_n 2, 1, 0, 0, 0, hNone, []), some (.invokevirtual 66, 3, 4, 2, 0, hX4_setRest, [370, 58, 372, 1]), none, none, some (.ireturn, 1, 0, 0, 0, hNone, [])]
set_option maxRecDepth 100000 in
theorem oX7_rests : tbOk hX7_rests tX7_rests := tbOk_of (by decide +kernel)
theorem iX7_rests : Cond.code hX7_rests.1 hX7_rests.2.1 hX7_rests.2.2.1 hX7_rests.2.2.2 ∈ lw_tbl := List.mem_of_getElem? (i := 369) (by decide +kernel)
def tX7_ban : List (Option En) := [some (.aload_n 0, 1, 0, 0, 0, hNone, []), some (.getfield 10, 3, 7, 0, 0, hNone, [333]), none, none, some (.iload_n 1, 1, 0, 0, 0, hNone, []), some (.iload_n 2, 1, 0, 0, 0, hNone, []), some (.iload_n 3, 1, 0, 0, 0, hNone, []), some (.invokevirtual 70, 3, 4, 3, 0, hX4_setBan, [381, 58, 383, 2]), none, none, some (.ireturn, 1, 0, 0, 0, hNone, [])]
set_option maxRecDepth 100000 in
theorem oX7_ban : tbOk hX7_ban tX7_ban := tbOk_of (by decide +kernel)
theorem iX7_ban : Cond.code hX7_ban.1 hX7_ban.2.1 hX7_ban.2.2.1 hX7_ban.2.2.2 ∈ lw_tbl := List.mem_of_getElem? (i := 380) (by decide +kernel)
def tX7_judge : List (Option En) := [some (.iload_n 3, 1, 0, 0, 0, hNone, []), some (.ifCond .lt 16, 3, 17, 0, 0, hNone, []), none, none, some (.iload_n 3, 1, 0, 0, 0, hNone, []), some (.iconst 1, 1, 0, 0, 1, hNone, []), some (.if_icmp .gt 11, 3, 17, 0, 0, hNone, []), none, none, some (.iload_n 1, 1, 0, 0, 0, hNone, []), some (.iload_n 2, 1, 0, 0, 0, hNone, []), some (.invokestatic 74, 3, 0, 2, 0, hX2_canBeTold, [393, 59, 394]), none, none, some (.ifCond .ne 5, 3, 19, 0, 0, hNone, []), none, none, some (.iconst (-1), 1, 0, 0, (-1), hNone, []), some (.ireturn, 1, 0, 0, 0, hNone, []), some (.aload_n 0, 1, 0, 0, 0, hNone, []), some (.getfield 21, 3, 7, 1, 0, hNone, [334]), none, none, some (.iload_n 1, 1, 0, 0, 0, hNone, []), some (.iload_n 2, 1, 0, 0, 0, hNone, []), some (.invokevirtual 77, 3, 2, 2, 0, hX2_read, [396, 59, 398, 4]), none, none, some (.istore 4, 2, 0, 0, 0, hNone, []), none, some (.iload 4, 2, 0, 0, 0, hNone, []), none, some (.ifCond .ne 5, 3, 37, 0, 0, hNone, []), none, none, some (.iconst (-1), 1, 0, 0, (-1), hNone, []), some (.ireturn, 1, 0, 0, 0, hNone, []), some (.iload_n 3, 1, 0, 0, 0, hNone, []), some (.ifCond .ne 13, 3, 51, 0, 0, hNone, []), none, none, some (.aload_n 0, 1, 0, 0, 0, hNone, []), some (.getfield 21, 3, 7, 1, 0, hNone, [334]), none, none, some (.getfield 81, 3, 2, 7, 0, hNone, [146]), none, none, some (.goto 5, 3, 53, 0, 0, hNone, []), none, none, some (.iload 4, 2, 0, 0, 0, hNone, []), none, some (.ireturn, 1, 0, 0, 0, hNone, [])]
set_option maxRecDepth 100000 in
theorem oX7_judge : tbOk hX7_judge tX7_judge := tbOk_of (by decide +kernel)
theorem iX7_judge : Cond.code hX7_judge.1 hX7_judge.2.1 hX7_judge.2.2.1 hX7_judge.2.2.2 ∈ lw_tbl := List.mem_of_getElem? (i := 392) (by decide +kernel)
def tX7_gaps : List (Option En) := [some (.iload_n 1, 1, 0, 0, 0, hNone, []), some (.iload_n 2, 1, 0, 0, 0, hNone, []), some (.invokestatic 74, 3, 0, 2, 0, hX2_canBeTold, [393, 59, 394]), none, none, some (.ifCond .eq 15, 3, 20, 0, 0, hNone, []), none, none, some (.aload_n 0, 1, 0, 0, 0, hNone, []), some (.getfield 21, 3, 7, 1, 0, hNone, [334]), none, none, some (.iload_n 1, 1, 0, 0, 0, hNone, []), some (.iload_n 2, 1, 0, 0, 0, hNone, []), some (.invokevirtual 77, 3, 2, 2, 0, hX2_read, [396, 59, 398, 4]), none, none, some (.ifCond .eq 5, 3, 22, 0, 0, hNone, []), none, none, some (.iconst (-1), 1, 0, 0, (-1), hNone, []), some (.ireturn, 1, 0, 0, 0, hNone, []), some (.aload_n 0, 1, 0, 0, 0, hNone, []), some (.getfield 21, 3, 7, 1, 0, hNone, [334]), none, none, some (.getfield 85, 3, 2, 5, 0, hNone, [142]), none, none, some (.iload_n 2, 1, 0, 0, 0, hNone, []), some (.iaload, 1, 0, 0, 0, hNone, []), some (.ireturn, 1, 0, 0, 0, hNone, [])]
set_option maxRecDepth 100000 in
theorem oX7_gaps : tbOk hX7_gaps tX7_gaps := tbOk_of (by decide +kernel)
theorem iX7_gaps : Cond.code hX7_gaps.1 hX7_gaps.2.1 hX7_gaps.2.2.1 hX7_gaps.2.2.2 ∈ lw_tbl := List.mem_of_getElem? (i := 430) (by decide +kernel)
def tX7_best : List (Option En) := [some (.aload_n 0, 1, 0, 0, 0, hNone, []), some (.getfield 28, 3, 7, 2, 0, hNone, [335]), none, none, some (.invokevirtual 89, 3, 0, 0, 0, hX0_refresh, [435, 60, 437, 9]), none, none, some (.aload_n 0, 1, 0, 0, 0, hNone, []), some (.getfield 28, 3, 7, 2, 0, hNone, [335]), none, none, some (.getfield 92, 3, 0, 3, 0, hNone, [176]), none, none, some (.ifCond .eq 13, 3, 27, 0, 0, hNone, []), none, none, some (.aload_n 0, 1, 0, 0, 0, hNone, []), some (.getfield 28, 3, 7, 2, 0, hNone, [335]), none, none, some (.getfield 96, 3, 0, 4, 0, hNone, [178]), none, none, some (.goto 4, 3, 28, 0, 0, hNone, []), none, none, some (.iconst (-1), 1, 0, 0, (-1), hNone, []), some (.ireturn, 1, 0, 0, 0, hNone, [])]
set_option maxRecDepth 100000 in
theorem oX7_best : tbOk hX7_best tX7_best := tbOk_of (by decide +kernel)
theorem iX7_best : Cond.code hX7_best.1 hX7_best.2.1 hX7_best.2.2.1 hX7_best.2.2.2 ∈ lw_tbl := List.mem_of_getElem? (i := 434) (by decide +kernel)
def tX7_bestAt : List (Option En) := [some (.aload_n 0, 1, 0, 0, 0, hNone, []), some (.getfield 28, 3, 7, 2, 0, hNone, [335]), none, none, some (.invokevirtual 89, 3, 0, 0, 0, hX0_refresh, [435, 60, 437, 9]), none, none, some (.aload_n 0, 1, 0, 0, 0, hNone, []), some (.getfield 28, 3, 7, 2, 0, hNone, [335]), none, none, some (.getfield 92, 3, 0, 3, 0, hNone, [176]), none, none, some (.ifCond .eq 18, 3, 32, 0, 0, hNone, []), none, none, some (.iload_n 1, 1, 0, 0, 0, hNone, []), some (.ifCond .lt 14, 3, 32, 0, 0, hNone, []), none, none, some (.iload_n 1, 1, 0, 0, 0, hNone, []), some (.aload_n 0, 1, 0, 0, 0, hNone, []), some (.getfield 10, 3, 7, 0, 0, hNone, [333]), none, none, some (.getfield 99, 3, 4, 0, 0, hNone, [86]), none, none, some (.if_icmp .lt 5, 3, 34, 0, 0, hNone, []), none, none, some (.iconst (-1), 1, 0, 0, (-1), hNone, []), some (.ireturn, 1, 0, 0, 0, hNone, []), some (.aload_n 0, 1, 0, 0, 0, hNone, []), some (.getfield 28, 3, 7, 2, 0, hNone, [335]), none, none, some (.getfield 102, 3, 0, 6, 0, hNone, [181]), none, none, some (.iload_n 1, 1, 0, 0, 0, hNone, []), some (.iaload, 1, 0, 0, 0, hNone, []), some (.ireturn, 1, 0, 0, 0, hNone, [])]
set_option maxRecDepth 100000 in
theorem oX7_bestAt : tbOk hX7_bestAt tX7_bestAt := tbOk_of (by decide +kernel)
theorem iX7_bestAt : Cond.code hX7_bestAt.1 hX7_bestAt.2.1 hX7_bestAt.2.2.1 hX7_bestAt.2.2.2 ∈ lw_tbl := List.mem_of_getElem? (i := 479) (by decide +kernel)
def tX7_load : List (Option En) := [some (.aload_n 0, 1, 0, 0, 0, hNone, []), some (.getfield 35, 3, 7, 3, 0, hNone, [336]), none, none, some (.iload_n 1, 1, 0, 0, 0, hNone, []), some (.iload_n 2, 1, 0, 0, 0, hNone, []), some (.invokevirtual 105, 3, 5, 2, 0, hX5_setLoad, [484, 61, 486, 16]), none, none, some (.ireturn, 1, 0, 0, 0, hNone, [])]
set_option maxRecDepth 100000 in
theorem oX7_load : tbOk hX7_load tX7_load := tbOk_of (by decide +kernel)
theorem iX7_load : Cond.code hX7_load.1 hX7_load.2.1 hX7_load.2.2.1 hX7_load.2.2.2 ∈ lw_tbl := List.mem_of_getElem? (i := 483) (by decide +kernel)
def tX7_share : List (Option En) := [some (.aload_n 0, 1, 0, 0, 0, hNone, []), some (.getfield 35, 3, 7, 3, 0, hNone, [336]), none, none, some (.iload_n 1, 1, 0, 0, 0, hNone, []), some (.iload_n 2, 1, 0, 0, 0, hNone, []), some (.iload_n 3, 1, 0, 0, 0, hNone, []), some (.invokevirtual 108, 3, 5, 3, 0, hX5_setShare, [493, 61, 495, 17]), none, none, some (.ireturn, 1, 0, 0, 0, hNone, [])]
set_option maxRecDepth 100000 in
theorem oX7_share : tbOk hX7_share tX7_share := tbOk_of (by decide +kernel)
theorem iX7_share : Cond.code hX7_share.1 hX7_share.2.1 hX7_share.2.2.1 hX7_share.2.2.2 ∈ lw_tbl := List.mem_of_getElem? (i := 492) (by decide +kernel)
def tX7_exposed : List (Option En) := [some (.aload_n 0, 1, 0, 0, 0, hNone, []), some (.getfield 35, 3, 7, 3, 0, hNone, [336]), none, none, some (.iload_n 1, 1, 0, 0, 0, hNone, []), some (.iload_n 2, 1, 0, 0, 0, hNone, []), some (.invokevirtual 112, 3, 5, 2, 0, hX5_setExposed, [505, 61, 507, 19]), none, none, some (.ireturn, 1, 0, 0, 0, hNone, [])]
set_option maxRecDepth 100000 in
theorem oX7_exposed : tbOk hX7_exposed tX7_exposed := tbOk_of (by decide +kernel)
theorem iX7_exposed : Cond.code hX7_exposed.1 hX7_exposed.2.1 hX7_exposed.2.2.1 hX7_exposed.2.2.2 ∈ lw_tbl := List.mem_of_getElem? (i := 504) (by decide +kernel)
def tX7_part : List (Option En) := [some (.iload_n 1, 1, 0, 0, 0, hNone, []), some (.bipush 8, 2, 0, 0, 8, hNone, []), none, some (.invokestatic 115, 3, 0, 2, 0, hX7_isIn, [513, 57, 375]), none, none, some (.ifCond .eq 10, 3, 16, 0, 0, hNone, []), none, none, some (.iload_n 2, 1, 0, 0, 0, hNone, []), some (.invokestatic 118, 3, 0, 1, 0, hX5_isWind, [514, 61, 515]), none, none, some (.ifCond .ne 5, 3, 18, 0, 0, hNone, []), none, none, some (.iconst (-1), 1, 0, 0, (-1), hNone, []), some (.ireturn, 1, 0, 0, 0, hNone, []), some (.aload_n 0, 1, 0, 0, 0, hNone, []), some (.getfield 35, 3, 7, 3, 0, hNone, [336]), none, none, some (.iload_n 2, 1, 0, 0, 0, hNone, []), some (.invokevirtual 122, 3, 5, 1, 0, hX5_settle, [517, 61, 519, 20]), none, none, some (.aload_n 0, 1, 0, 0, 0, hNone, []), some (.getfield 35, 3, 7, 3, 0, hNone, [336]), none, none, some (.getfield 126, 3, 5, 3, 0, hNone, [213]), none, none, some (.iload_n 1, 1, 0, 0, 0, hNone, []), some (.iaload, 1, 0, 0, 0, hNone, []), some (.ireturn, 1, 0, 0, 0, hNone, [])]
set_option maxRecDepth 100000 in
theorem oX7_part : tbOk hX7_part tX7_part := tbOk_of (by decide +kernel)
theorem iX7_part : Cond.code hX7_part.1 hX7_part.2.1 hX7_part.2.2.1 hX7_part.2.2.2 ∈ lw_tbl := List.mem_of_getElem? (i := 512) (by decide +kernel)
def tX7_slack : List (Option En) := [some (.iload_n 1, 1, 0, 0, 0, hNone, []), some (.bipush 8, 2, 0, 0, 8, hNone, []), none, some (.invokestatic 115, 3, 0, 2, 0, hX7_isIn, [513, 57, 375]), none, none, some (.ifCond .eq 10, 3, 16, 0, 0, hNone, []), none, none, some (.iload_n 2, 1, 0, 0, 0, hNone, []), some (.invokestatic 118, 3, 0, 1, 0, hX5_isWind, [514, 61, 515]), none, none, some (.ifCond .ne 5, 3, 18, 0, 0, hNone, []), none, none, some (.iconst 0, 1, 0, 0, 0, hNone, []), some (.ireturn, 1, 0, 0, 0, hNone, []), some (.aload_n 0, 1, 0, 0, 0, hNone, []), some (.getfield 35, 3, 7, 3, 0, hNone, [336]), none, none, some (.iload_n 2, 1, 0, 0, 0, hNone, []), some (.invokevirtual 122, 3, 5, 1, 0, hX5_settle, [517, 61, 519, 20]), none, none, some (.aload_n 0, 1, 0, 0, 0, hNone, []), some (.getfield 35, 3, 7, 3, 0, hNone, [336]), none, none, some (.getfield 129, 3, 5, 5, 0, hNone, [216]), none, none, some (.iload_n 1, 1, 0, 0, 0, hNone, []), some (.baload, 1, 0, 0, 0, hNone, []), some (.ireturn, 1, 0, 0, 0, hNone, [])]
set_option maxRecDepth 100000 in
theorem oX7_slack : tbOk hX7_slack tX7_slack := tbOk_of (by decide +kernel)
theorem iX7_slack : Cond.code hX7_slack.1 hX7_slack.2.1 hX7_slack.2.2.1 hX7_slack.2.2.2 ∈ lw_tbl := List.mem_of_getElem? (i := 548) (by decide +kernel)
def tX7_gone : List (Option En) := [some (.iload_n 1, 1, 0, 0, 0, hNone, []), some (.invokestatic 118, 3, 0, 1, 0, hX5_isWind, [514, 61, 515]), none, none, some (.ifCond .ne 5, 3, 9, 0, 0, hNone, []), none, none, some (.iconst 0, 1, 0, 0, 0, hNone, []), some (.ireturn, 1, 0, 0, 0, hNone, []), some (.aload_n 0, 1, 0, 0, 0, hNone, []), some (.getfield 35, 3, 7, 3, 0, hNone, [336]), none, none, some (.iload_n 1, 1, 0, 0, 0, hNone, []), some (.invokevirtual 122, 3, 5, 1, 0, hX5_settle, [517, 61, 519, 20]), none, none, some (.aload_n 0, 1, 0, 0, 0, hNone, []), some (.getfield 35, 3, 7, 3, 0, hNone, [336]), none, none, some (.getfield 133, 3, 5, 6, 0, hNone, [218]), none, none, some (.ireturn, 1, 0, 0, 0, hNone, [])]
set_option maxRecDepth 100000 in
theorem oX7_gone : tbOk hX7_gone tX7_gone := tbOk_of (by decide +kernel)
theorem iX7_gone : Cond.code hX7_gone.1 hX7_gone.2.1 hX7_gone.2.2.1 hX7_gone.2.2.2 ∈ lw_tbl := List.mem_of_getElem? (i := 552) (by decide +kernel)
def tX7_town : List (Option En) := [some (.aload_n 0, 1, 0, 0, 0, hNone, []), some (.getfield 42, 3, 7, 4, 0, hNone, [337]), none, none, some (.iload_n 1, 1, 0, 0, 0, hNone, []), some (.iload_n 2, 1, 0, 0, 0, hNone, []), some (.iload_n 3, 1, 0, 0, 0, hNone, []), some (.invokevirtual 136, 3, 3, 3, 0, hX3_add, [557, 62, 559, 27]), none, none, some (.ireturn, 1, 0, 0, 0, hNone, [])]
set_option maxRecDepth 100000 in
theorem oX7_town : tbOk hX7_town tX7_town := tbOk_of (by decide +kernel)
theorem iX7_town : Cond.code hX7_town.1 hX7_town.2.1 hX7_town.2.2.1 hX7_town.2.2.2 ∈ lw_tbl := List.mem_of_getElem? (i := 556) (by decide +kernel)
def tX7_way : List (Option En) := [some (.aload_n 0, 1, 0, 0, 0, hNone, []), some (.getfield 42, 3, 7, 4, 0, hNone, [337]), none, none, some (.iload_n 1, 1, 0, 0, 0, hNone, []), some (.iload_n 2, 1, 0, 0, 0, hNone, []), some (.iload_n 3, 1, 0, 0, 0, hNone, []), some (.invokevirtual 137, 3, 3, 3, 0, hX3_join, [566, 62, 568, 28]), none, none, some (.ireturn, 1, 0, 0, 0, hNone, [])]
set_option maxRecDepth 100000 in
theorem oX7_way : tbOk hX7_way tX7_way := tbOk_of (by decide +kernel)
theorem iX7_way : Cond.code hX7_way.1 hX7_way.2.1 hX7_way.2.2.1 hX7_way.2.2.2 ∈ lw_tbl := List.mem_of_getElem? (i := 565) (by decide +kernel)
def tX7_hours : List (Option En) := [some (.aload_n 0, 1, 0, 0, 0, hNone, []), some (.getfield 42, 3, 7, 4, 0, hNone, [337]), none, none, some (.iload_n 1, 1, 0, 0, 0, hNone, []), some (.invokevirtual 140, 3, 3, 1, 0, hX3_has, [587, 62, 572, 29]), none, none, some (.ifCond .eq 14, 3, 22, 0, 0, hNone, []), none, none, some (.aload_n 0, 1, 0, 0, 0, hNone, []), some (.getfield 42, 3, 7, 4, 0, hNone, [337]), none, none, some (.iload_n 2, 1, 0, 0, 0, hNone, []), some (.invokevirtual 140, 3, 3, 1, 0, hX3_has, [587, 62, 572, 29]), none, none, some (.ifCond .ne 5, 3, 24, 0, 0, hNone, []), none, none, some (.iconst (-1), 1, 0, 0, (-1), hNone, []), some (.ireturn, 1, 0, 0, 0, hNone, []), some (.aload_n 0, 1, 0, 0, 0, hNone, []), some (.getfield 42, 3, 7, 4, 0, hNone, [337]), none, none, some (.iload_n 1, 1, 0, 0, 0, hNone, []), some (.iload_n 2, 1, 0, 0, 0, hNone, []), some (.invokevirtual 143, 3, 3, 2, 0, hX3_leastHours, [588, 62, 590, 32]), none, none, some (.ireturn, 1, 0, 0, 0, hNone, [])]
set_option maxRecDepth 100000 in
theorem oX7_hours : tbOk hX7_hours tX7_hours := tbOk_of (by decide +kernel)
theorem iX7_hours : Cond.code hX7_hours.1 hX7_hours.2.1 hX7_hours.2.2.1 hX7_hours.2.2.2 ∈ lw_tbl := List.mem_of_getElem? (i := 586) (by decide +kernel)
def tX7_route : List (Option En) := [some (.aload_n 0, 1, 0, 0, 0, hNone, []), some (.getfield 51, 3, 7, 5, 0, hNone, [338]), none, none, some (.invokevirtual 146, 3, 1, 0, 0, hX1_refresh, [596, 63, 598, 33]), none, none, some (.aload_n 0, 1, 0, 0, 0, hNone, []), some (.getfield 51, 3, 7, 5, 0, hNone, [338]), none, none, some (.getfield 147, 3, 1, 2, 0, hNone, [277]), none, none, some (.ireturn, 1, 0, 0, 0, hNone, [])]
set_option maxRecDepth 100000 in
theorem oX7_route : tbOk hX7_route tX7_route := tbOk_of (by decide +kernel)
theorem iX7_route : Cond.code hX7_route.1 hX7_route.2.1 hX7_route.2.2.1 hX7_route.2.2.2 ∈ lw_tbl := List.mem_of_getElem? (i := 595) (by decide +kernel)
def tX7_routeAt : List (Option En) := [some (.aload_n 0, 1, 0, 0, 0, hNone, []), some (.getfield 51, 3, 7, 5, 0, hNone, [338]), none, none, some (.invokevirtual 146, 3, 1, 0, 0, hX1_refresh, [596, 63, 598, 33]), none, none, some (.iload_n 1, 1, 0, 0, 0, hNone, []), some (.aload_n 0, 1, 0, 0, 0, hNone, []), some (.getfield 51, 3, 7, 5, 0, hNone, [338]), none, none, some (.getfield 147, 3, 1, 2, 0, hNone, [277]), none, none, some (.invokestatic 115, 3, 0, 2, 0, hX7_isIn, [513, 57, 375]), none, none, some (.ifCond .eq 12, 3, 30, 0, 0, hNone, []), none, none, some (.iload_n 2, 1, 0, 0, 0, hNone, []), some (.ifCond .lt 8, 3, 30, 0, 0, hNone, []), none, none, some (.iload_n 2, 1, 0, 0, 0, hNone, []), some (.iconst 1, 1, 0, 0, 1, hNone, []), some (.if_icmp .le 5, 3, 32, 0, 0, hNone, []), none, none, some (.iconst (-1), 1, 0, 0, (-1), hNone, []), some (.ireturn, 1, 0, 0, 0, hNone, []), some (.iload_n 2, 1, 0, 0, 0, hNone, []), some (.ifCond .ne 15, 3, 48, 0, 0, hNone, []), none, none, some (.aload_n 0, 1, 0, 0, 0, hNone, []), some (.getfield 51, 3, 7, 5, 0, hNone, [338]), none, none, some (.getfield 150, 3, 1, 4, 0, hNone, [280]), none, none, some (.iload_n 1, 1, 0, 0, 0, hNone, []), some (.iaload, 1, 0, 0, 0, hNone, []), some (.goto 12, 3, 57, 0, 0, hNone, []), none, none, some (.aload_n 0, 1, 0, 0, 0, hNone, []), some (.getfield 51, 3, 7, 5, 0, hNone, [338]), none, none, some (.getfield 153, 3, 1, 5, 0, hNone, [282]), none, none, some (.iload_n 1, 1, 0, 0, 0, hNone, []), some (.iaload, 1, 0, 0, 0, hNone, []), some (.ireturn, 1, 0, 0, 0, hNone, [])]
set_option maxRecDepth 100000 in
theorem oX7_routeAt : tbOk hX7_routeAt tX7_routeAt := tbOk_of (by decide +kernel)
theorem iX7_routeAt : Cond.code hX7_routeAt.1 hX7_routeAt.2.1 hX7_routeAt.2.2.1 hX7_routeAt.2.2.2 ∈ lw_tbl := List.mem_of_getElem? (i := 633) (by decide +kernel)
def tX7_took : List (Option En) := [some (.aload_n 0, 1, 0, 0, 0, hNone, []), some (.getfield 42, 3, 7, 4, 0, hNone, [337]), none, none, some (.iload_n 1, 1, 0, 0, 0, hNone, []), some (.invokevirtual 140, 3, 3, 1, 0, hX3_has, [587, 62, 572, 29]), none, none, some (.ifCond .eq 16, 3, 24, 0, 0, hNone, []), none, none, some (.aload_n 0, 1, 0, 0, 0, hNone, []), some (.getfield 58, 3, 7, 6, 0, hNone, [339]), none, none, some (.iload_n 1, 1, 0, 0, 0, hNone, []), some (.iload_n 2, 1, 0, 0, 0, hNone, []), some (.iload_n 3, 1, 0, 0, 0, hNone, []), some (.invokevirtual 156, 3, 6, 3, 0, hX6_add, [638, 64, 640, 40]), none, none, some (.goto 4, 3, 25, 0, 0, hNone, []), none, none, some (.iconst (-1), 1, 0, 0, (-1), hNone, []), some (.ireturn, 1, 0, 0, 0, hNone, [])]
set_option maxRecDepth 100000 in
theorem oX7_took : tbOk hX7_took tX7_took := tbOk_of (by decide +kernel)
theorem iX7_took : Cond.code hX7_took.1 hX7_took.2.1 hX7_took.2.2.1 hX7_took.2.2.2 ∈ lw_tbl := List.mem_of_getElem? (i := 637) (by decide +kernel)
def tX7_foretold : List (Option En) := [some (.aload_n 0, 1, 0, 0, 0, hNone, []), some (.getfield 42, 3, 7, 4, 0, hNone, [337]), none, none, some (.iload_n 1, 1, 0, 0, 0, hNone, []), some (.invokevirtual 140, 3, 3, 1, 0, hX3_has, [587, 62, 572, 29]), none, none, some (.ifCond .eq 21, 3, 29, 0, 0, hNone, []), none, none, some (.iload_n 2, 1, 0, 0, 0, hNone, []), some (.bipush 7, 2, 0, 0, 7, hNone, []), none, some (.invokestatic 115, 3, 0, 2, 0, hX7_isIn, [513, 57, 375]), none, none, some (.ifCond .eq 12, 3, 29, 0, 0, hNone, []), none, none, some (.iload_n 3, 1, 0, 0, 0, hNone, []), some (.ifCond .lt 8, 3, 29, 0, 0, hNone, []), none, none, some (.iload_n 3, 1, 0, 0, 0, hNone, []), some (.iconst 1, 1, 0, 0, 1, hNone, []), some (.if_icmp .le 5, 3, 31, 0, 0, hNone, []), none, none, some (.iconst (-1), 1, 0, 0, (-1), hNone, []), some (.ireturn, 1, 0, 0, 0, hNone, []), some (.aload_n 0, 1, 0, 0, 0, hNone, []), some (.getfield 58, 3, 7, 6, 0, hNone, [339]), none, none, some (.iload_n 1, 1, 0, 0, 0, hNone, []), some (.iload_n 2, 1, 0, 0, 0, hNone, []), some (.invokevirtual 157, 3, 6, 2, 0, hX6_foretell, [648, 64, 650, 41]), none, none, some (.iload_n 3, 1, 0, 0, 0, hNone, []), some (.ifCond .ne 13, 3, 54, 0, 0, hNone, []), none, none, some (.aload_n 0, 1, 0, 0, 0, hNone, []), some (.getfield 58, 3, 7, 6, 0, hNone, [339]), none, none, some (.getfield 161, 3, 6, 3, 0, hNone, [319]), none, none, some (.goto 10, 3, 61, 0, 0, hNone, []), none, none, some (.aload_n 0, 1, 0, 0, 0, hNone, []), some (.getfield 58, 3, 7, 6, 0, hNone, [339]), none, none, some (.getfield 164, 3, 6, 4, 0, hNone, [321]), none, none, some (.ireturn, 1, 0, 0, 0, hNone, [])]
set_option maxRecDepth 100000 in
theorem oX7_foretold : tbOk hX7_foretold tX7_foretold := tbOk_of (by decide +kernel)
theorem iX7_foretold : Cond.code hX7_foretold.1 hX7_foretold.2.1 hX7_foretold.2.2.1 hX7_foretold.2.2.2 ∈ lw_tbl := List.mem_of_getElem? (i := 647) (by decide +kernel)
def tX7_count : List (Option En) := [some (.iload_n 1, 1, 0, 0, 0, hNone, []), some (.tableswitch 78 0 4 #[35, 43, 51, 62, 70], 35, 79, 0, 0, hNone, []), none, none, none, none, none, none, none, none, none, none, none, none, none, none, none, none, none, none, none, none, none, none, none, none, none, none, none, none, none, none, none, none, none, none, some (.aload_n 0, 1, 0, 0, 0, hNone, []), some (.getfield 10, 3, 7, 0, 0, hNone, [333]), none, none, some (.getfield 99, 3, 4, 0, 0, hNone, [86]), none, none, some (.ireturn, 1, 0, 0, 0, hNone, []), some (.aload_n 0, 1, 0, 0, 0, hNone, []), some (.getfield 42, 3, 7, 4, 0, hNone, [337]), none, none, some (.getfield 167, 3, 3, 0, 0, hNone, [243]), none, none, some (.ireturn, 1, 0, 0, 0, hNone, []), some (.aload_n 0, 1, 0, 0, 0, hNone, []), some (.getfield 10, 3, 7, 0, 0, hNone, [333]), none, none, some (.getfield 168, 3, 4, 7, 0, hNone, [103]), none, none, some (.invokestatic 171, 3, 0, 1, 0, hJ6_bitCount_0f7a4, [667, 66, 419]), none, none, some (.ireturn, 1, 0, 0, 0, hNone, []), some (.aload_n 0, 1, 0, 0, 0, hNone, []), some (.getfield 35, 3, 7, 3, 0, hNone, [336]), none, none, some (.invokevirtual 177, 3, 5, 0, 0, hX5_ropesUp, [668, 61, 670, 44]), none, none, some (.ireturn, 1, 0, 0, 0, hNone, []), some (.aload_n 0, 1, 0, 0, 0, hNone, []), some (.getfield 58, 3, 7, 6, 0, hNone, [339]), none, none, some (.getfield 181, 3, 6, 0, 0, hNone, [315]), none, none, some (.ireturn, 1, 0, 0, 0, hNone, []), some (.iconst (-1), 1, 0, 0, (-1), hNone, []), some (.ireturn, 1, 0, 0, 0, hNone, [])]
set_option maxRecDepth 100000 in
theorem oX7_count : tbOk hX7_count tX7_count := tbOk_of (by decide +kernel)
theorem iX7_count : Cond.code hX7_count.1 hX7_count.2.1 hX7_count.2.2.1 hX7_count.2.2.2 ∈ lw_tbl := List.mem_of_getElem? (i := 666) (by decide +kernel)
def tX7_isIn : List (Option En) := [some (.iload_n 0, 1, 0, 0, 0, hNone, []), some (.ifCond .lt 12, 3, 13, 0, 0, hNone, []), none, none, some (.iload_n 0, 1, 0, 0, 0, hNone, []), some (.iload_n 1, 1, 0, 0, 0, hNone, []), some (.if_icmp .ge 7, 3, 13, 0, 0, hNone, []), none, none, some (.iconst 1, 1, 0, 0, 1, hNone, []), some (.goto 4, 3, 14, 0, 0, hNone, []), none, none, some (.iconst 0, 1, 0, 0, 0, hNone, []), some (.ireturn, 1, 0, 0, 0, hNone, [])]
set_option maxRecDepth 100000 in
theorem oX7_isIn : tbOk hX7_isIn tX7_isIn := tbOk_of (by decide +kernel)
theorem iX7_isIn : Cond.code hX7_isIn.1 hX7_isIn.2.1 hX7_isIn.2.2.1 hX7_isIn.2.2.2 ∈ lw_tbl := List.mem_of_getElem? (i := 376) (by decide +kernel)
def tX8_in : List (Option En) := [some (.iload_n 0, 1, 0, 0, 0, hNone, []), some (.iload_n 1, 1, 0, 0, 0, hNone, []), some (.if_icmp .lt 12, 3, 14, 0, 0, hNone, []), none, none, some (.iload_n 0, 1, 0, 0, 0, hNone, []), some (.iload_n 2, 1, 0, 0, 0, hNone, []), some (.if_icmp .gt 7, 3, 14, 0, 0, hNone, []), none, none, some (.iconst 1, 1, 0, 0, 1, hNone, []), some (.goto 4, 3, 15, 0, 0, hNone, []), none, none, some (.iconst 0, 1, 0, 0, 0, hNone, []), some (.ireturn, 1, 0, 0, 0, hNone, [])]
set_option maxRecDepth 100000 in
theorem oX8_in : tbOk hX8_in tX8_in := tbOk_of (by decide +kernel)
theorem iX8_in : Cond.code hX8_in.1 hX8_in.2.1 hX8_in.2.2.1 hX8_in.2.2.2 ∈ lw_tbl := List.mem_of_getElem? (i := 775) (by decide +kernel)
def tX8_bits : List (Option En) := [some (.iconst 0, 1, 0, 0, 0, hNone, []), some (.istore_n 1, 1, 0, 0, 0, hNone, []), some (.iconst 0, 1, 0, 0, 0, hNone, []), some (.istore_n 2, 1, 0, 0, 0, hNone, []), some (.iload_n 2, 1, 0, 0, 0, hNone, []), some (.bipush 10, 2, 0, 0, 10, hNone, []), none, some (.if_icmp .ge 17, 3, 24, 0, 0, hNone, []), none, none, some (.iload_n 1, 1, 0, 0, 0, hNone, []), some (.iload_n 0, 1, 0, 0, 0, hNone, []), some (.iload_n 2, 1, 0, 0, 0, hNone, []), some (.ishr, 1, 0, 0, 0, hNone, []), some (.iconst 1, 1, 0, 0, 1, hNone, []), some (.iand, 1, 0, 0, 0, hNone, []), some (.iadd, 1, 0, 0, 0, hNone, []), some (.istore_n 1, 1, 0, 0, 0, hNone, []), some (.iinc 2 1, 3, 0, 0, 1, hNone, []), none, none, some (.goto (-17), 3, 4, 0, 0, hNone, []), none, none, some (.iload_n 1, 1, 0, 0, 0, hNone, []), some (.ireturn, 1, 0, 0, 0, hNone, [])]
set_option maxRecDepth 100000 in
theorem oX8_bits : tbOk hX8_bits tX8_bits := tbOk_of (by decide +kernel)
theorem iX8_bits : Cond.code hX8_bits.1 hX8_bits.2.1 hX8_bits.2.2.1 hX8_bits.2.2.2 ∈ lw_tbl := List.mem_of_getElem? (i := 807) (by decide +kernel)
def tX8_act : List (Option En) := [some (.iload_n 1, 1, 0, 0, 0, hNone, []), some (.sipush 1000, 3, 0, 0, 1000, hNone, []), none, none, some (.idiv, 1, 0, 0, 0, hNone, []), some (.istore 4, 2, 0, 0, 0, hNone, []), none, some (.iload_n 1, 1, 0, 0, 0, hNone, []), some (.bipush 100, 2, 0, 0, 100, hNone, []), none, some (.idiv, 1, 0, 0, 0, hNone, []), some (.bipush 10, 2, 0, 0, 10, hNone, []), none, some (.irem, 1, 0, 0, 0, hNone, []), some (.istore 5, 2, 0, 0, 0, hNone, []), none, some (.iload_n 1, 1, 0, 0, 0, hNone, []), some (.ifCond .lt 61, 3, 78, 0, 0, hNone, []), none, none, some (.iload 4, 2, 0, 0, 0, hNone, []), none, some (.iconst 1, 1, 0, 0, 1, hNone, []), some (.bipush 60, 2, 0, 0, 60, hNone, []), none, some (.invokestatic 86, 3, 0, 3, 0, hX8_in, [773, 65, 774]), none, none, some (.ifCond .eq 50, 3, 78, 0, 0, hNone, []), none, none, some (.iload 5, 2, 0, 0, 0, hNone, []), none, some (.iconst 3, 1, 0, 0, 3, hNone, []), some (.if_icmp .gt 44, 3, 78, 0, 0, hNone, []), none, none, some (.iload_n 2, 1, 0, 0, 0, hNone, []), some (.iconst 0, 1, 0, 0, 0, hNone, []), some (.sipush 1023, 3, 0, 0, 1023, hNone, []), none, none, some (.invokestatic 86, 3, 0, 3, 0, hX8_in, [773, 65, 774]), none, none, some (.ifCond .eq 33, 3, 78, 0, 0, hNone, []), none, none, some (.iload_n 3, 1, 0, 0, 0, hNone, []), some (.iconst 0, 1, 0, 0, 0, hNone, []), some (.iload 5, 2, 0, 0, 0, hNone, []), none, some (.iconst 3, 1, 0, 0, 3, hNone, []), some (.if_icmp .ne 7, 3, 60, 0, 0, hNone, []), none, none, some (.iconst 0, 1, 0, 0, 0, hNone, []), some (.goto 6, 3, 63, 0, 0, hNone, []), none, none, some (.sipush 255, 3, 0, 0, 255, hNone, []), none, none, some (.invokestatic 86, 3, 0, 3, 0, hX8_in, [773, 65, 774]), none, none, some (.ifCond .eq 12, 3, 78, 0, 0, hNone, []), none, none, some (.aload_n 0, 1, 0, 0, 0, hNone, []), some (.getfield 90, 3, 8, 0, 0, hNone, [678]), none, none, some (.bipush 8, 2, 0, 0, 8, hNone, []), none, some (.if_icmp .ne 5, 3, 80, 0, 0, hNone, []), none, none, some (.iconst (-1), 1, 0, 0, (-1), hNone, []), some (.ireturn, 1, 0, 0, 0, hNone, []), some (.aload_n 0, 1, 0, 0, 0, hNone, []), some (.getfield 9, 3, 8, 1, 0, hNone, [679]), none, none, some (.aload_n 0, 1, 0, 0, 0, hNone, []), some (.getfield 90, 3, 8, 0, 0, hNone, [678]), none, none, some (.iload 4, 2, 0, 0, 0, hNone, []), none, some (.iastore, 1, 0, 0, 0, hNone, []), some (.aload_n 0, 1, 0, 0, 0, hNone, []), some (.getfield 13, 3, 8, 2, 0, hNone, [680]), none, none, some (.aload_n 0, 1, 0, 0, 0, hNone, []), some (.getfield 90, 3, 8, 0, 0, hNone, [678]), none, none, some (.iload 5, 2, 0, 0, 0, hNone, []), none, some (.iastore, 1, 0, 0, 0, hNone, []), some (.aload_n 0, 1, 0, 0, 0, hNone, []), some (.getfield 16, 3, 8, 3, 0, hNone, [681]), none, none, some (.aload_n 0, 1, 0, 0, 0, hNone, []), some (.getfield 90, 3, 8, 0, 0, hNone, [678]), none, none, some (.iload_n 1, 1, 0, 0, 0, hNone, []), some (.bipush 100, 2, 0, 0, 100, hNone, []), none, some (.irem, 1, 0, 0, 0, hNone, []), some (.iastore, 1, 0, 0, 0, hNone, []), some (.aload_n 0, 1, 0, 0, 0, hNone, []), some (.getfield 19, 3, 8, 4, 0, hNone, [682]), none, none, some (.aload_n 0, 1, 0, 0, 0, hNone, []), some (.getfield 90, 3, 8, 0, 0, hNone, [678]), none, none, some (.iload_n 2, 1, 0, 0, 0, hNone, []), some (.iastore, 1, 0, 0, 0, hNone, []), some (.aload_n 0, 1, 0, 0, 0, hNone, []), some (.getfield 22, 3, 8, 5, 0, hNone, [683]), none, none, some (.aload_n 0, 1, 0, 0, 0, hNone, []), some (.getfield 90, 3, 8, 0, 0, hNone, [678]), none, none, some (.iload_n 3, 1, 0, 0, 0, hNone, []), some (.iastore, 1, 0, 0, 0, hNone, []), some (.aload_n 0, 1, 0, 0, 0, hNone, []), some (.dup, 1, 0, 0, 0, hNone, []), some (.getfield 90, 3, 8, 0, 0, hNone, [678]), none, none, some (.iconst 1, 1, 0, 0, 1, hNone, []), some (.iadd, 1, 0, 0, 0, hNone, []), some (.putfield 90, 3, 8, 0, 0, hNone, [678]), none, none, some (.aload_n 0, 1, 0, 0, 0, hNone, []), some (.getfield 90, 3, 8, 0, 0, hNone, [678]), none, none, some (.iconst 1, 1, 0, 0, 1, hNone, []), some (.isub, 1, 0, 0, 0, hNone, []), some (.ireturn, 1, 0, 0, 0, hNone, [])]
set_option maxRecDepth 100000 in
theorem oX8_act : tbOk hX8_act tX8_act := tbOk_of (by decide +kernel)
theorem iX8_act : Cond.code hX8_act.1 hX8_act.2.1 hX8_act.2.2.1 hX8_act.2.2.2 ∈ lw_tbl := List.mem_of_getElem? (i := 772) (by decide +kernel)
def tX8_rests : List (Option En) := [some (.iload_n 1, 1, 0, 0, 0, hNone, []), some (.iconst 0, 1, 0, 0, 0, hNone, []), some (.bipush 9, 2, 0, 0, 9, hNone, []), none, some (.invokestatic 86, 3, 0, 3, 0, hX8_in, [773, 65, 774]), none, none, some (.ifCond .eq 12, 3, 19, 0, 0, hNone, []), none, none, some (.iload_n 2, 1, 0, 0, 0, hNone, []), some (.iconst 0, 1, 0, 0, 0, hNone, []), some (.iconst 3, 1, 0, 0, 3, hNone, []), some (.invokestatic 86, 3, 0, 3, 0, hX8_in, [773, 65, 774]), none, none, some (.ifCond .ne 5, 3, 21, 0, 0, hNone, []), none, none, some (.iconst 0, 1, 0, 0, 0, hNone, []), some (.ireturn, 1, 0, 0, 0, hNone, []), some (.aload_n 0, 1, 0, 0, 0, hNone, []), some (.getfield 25, 3, 8, 6, 0, hNone, [684]), none, none, some (.iload_n 1, 1, 0, 0, 0, hNone, []), some (.iload_n 2, 1, 0, 0, 0, hNone, []), some (.iastore, 1, 0, 0, 0, hNone, []), some (.iconst 1, 1, 0, 0, 1, hNone, []), some (.ireturn, 1, 0, 0, 0, hNone, [])]
set_option maxRecDepth 100000 in
theorem oX8_rests : tbOk hX8_rests tX8_rests := tbOk_of (by decide +kernel)
theorem iX8_rests : Cond.code hX8_rests.1 hX8_rests.2.1 hX8_rests.2.2.1 hX8_rests.2.2.2 ∈ lw_tbl := List.mem_of_getElem? (i := 779) (by decide +kernel)
def tX8_ban : List (Option En) := [some (.iload_n 1, 1, 0, 0, 0, hNone, []), some (.iconst 0, 1, 0, 0, 0, hNone, []), some (.iconst 3, 1, 0, 0, 3, hNone, []), some (.invokestatic 86, 3, 0, 3, 0, hX8_in, [773, 65, 774]), none, none, some (.ifCond .eq 26, 3, 32, 0, 0, hNone, []), none, none, some (.iload_n 2, 1, 0, 0, 0, hNone, []), some (.iconst 0, 1, 0, 0, 0, hNone, []), some (.iconst 3, 1, 0, 0, 3, hNone, []), some (.invokestatic 86, 3, 0, 3, 0, hX8_in, [773, 65, 774]), none, none, some (.ifCond .eq 17, 3, 32, 0, 0, hNone, []), none, none, some (.aload_n 0, 1, 0, 0, 0, hNone, []), some (.getfield 28, 3, 8, 7, 0, hNone, [685]), none, none, some (.iconst 4, 1, 0, 0, 4, hNone, []), some (.iload_n 1, 1, 0, 0, 0, hNone, []), some (.imul, 1, 0, 0, 0, hNone, []), some (.iload_n 2, 1, 0, 0, 0, hNone, []), some (.iadd, 1, 0, 0, 0, hNone, []), some (.baload, 1, 0, 0, 0, hNone, []), some (.iload_n 3, 1, 0, 0, 0, hNone, []), some (.if_icmp .ne 5, 3, 34, 0, 0, hNone, []), none, none, some (.iconst 0, 1, 0, 0, 0, hNone, []), some (.ireturn, 1, 0, 0, 0, hNone, []), some (.aload_n 0, 1, 0, 0, 0, hNone, []), some (.getfield 28, 3, 8, 7, 0, hNone, [685]), none, none, some (.iconst 4, 1, 0, 0, 4, hNone, []), some (.iload_n 1, 1, 0, 0, 0, hNone, []), some (.imul, 1, 0, 0, 0, hNone, []), some (.iload_n 2, 1, 0, 0, 0, hNone, []), some (.iadd, 1, 0, 0, 0, hNone, []), some (.iload_n 3, 1, 0, 0, 0, hNone, []), some (.bastore, 1, 0, 0, 0, hNone, []), some (.iconst 1, 1, 0, 0, 1, hNone, []), some (.ireturn, 1, 0, 0, 0, hNone, [])]
set_option maxRecDepth 100000 in
theorem oX8_ban : tbOk hX8_ban tX8_ban := tbOk_of (by decide +kernel)
theorem iX8_ban : Cond.code hX8_ban.1 hX8_ban.2.1 hX8_ban.2.2.1 hX8_ban.2.2.2 ∈ lw_tbl := List.mem_of_getElem? (i := 783) (by decide +kernel)
def tX8_breaksAt : List (Option En) := [some (.aload_n 0, 1, 0, 0, 0, hNone, []), some (.getfield 65, 3, 8, 21, 0, hNone, [699]), none, none, some (.iload_n 1, 1, 0, 0, 0, hNone, []), some (.iaload, 1, 0, 0, 0, hNone, []), some (.istore_n 2, 1, 0, 0, 0, hNone, []), some (.iload_n 2, 1, 0, 0, 0, hNone, []), some (.aload_n 0, 1, 0, 0, 0, hNone, []), some (.getfield 90, 3, 8, 0, 0, hNone, [678]), none, none, some (.if_icmp .lt 5, 3, 17, 0, 0, hNone, []), none, none, some (.iconst 1, 1, 0, 0, 1, hNone, []), some (.ireturn, 1, 0, 0, 0, hNone, []), some (.iconst 0, 1, 0, 0, 0, hNone, []), some (.istore_n 3, 1, 0, 0, 0, hNone, []), some (.iload_n 3, 1, 0, 0, 0, hNone, []), some (.iload_n 1, 1, 0, 0, 0, hNone, []), some (.if_icmp .ge 21, 3, 42, 0, 0, hNone, []), none, none, some (.aload_n 0, 1, 0, 0, 0, hNone, []), some (.getfield 65, 3, 8, 21, 0, hNone, [699]), none, none, some (.iload_n 3, 1, 0, 0, 0, hNone, []), some (.iaload, 1, 0, 0, 0, hNone, []), some (.iload_n 2, 1, 0, 0, 0, hNone, []), some (.if_icmp .ne 5, 3, 36, 0, 0, hNone, []), none, none, some (.iconst 1, 1, 0, 0, 1, hNone, []), some (.ireturn, 1, 0, 0, 0, hNone, []), some (.iinc 3 1, 3, 0, 0, 1, hNone, []), none, none, some (.goto (-20), 3, 19, 0, 0, hNone, []), none, none, some (.iconst 0, 1, 0, 0, 0, hNone, []), some (.istore_n 3, 1, 0, 0, 0, hNone, []), some (.iload_n 3, 1, 0, 0, 0, hNone, []), some (.iload_n 1, 1, 0, 0, 0, hNone, []), some (.if_icmp .ge 72, 3, 118, 0, 0, hNone, []), none, none, some (.iconst 0, 1, 0, 0, 0, hNone, []), some (.istore 4, 2, 0, 0, 0, hNone, []), none, some (.iload 4, 2, 0, 0, 0, hNone, []), none, some (.bipush 10, 2, 0, 0, 10, hNone, []), none, some (.if_icmp .ge 56, 3, 112, 0, 0, hNone, []), none, none, some (.aload_n 0, 1, 0, 0, 0, hNone, []), some (.getfield 19, 3, 8, 4, 0, hNone, [682]), none, none, some (.iload_n 2, 1, 0, 0, 0, hNone, []), some (.iaload, 1, 0, 0, 0, hNone, []), some (.iload 4, 2, 0, 0, 0, hNone, []), none, some (.ishr, 1, 0, 0, 0, hNone, []), some (.aload_n 0, 1, 0, 0, 0, hNone, []), some (.getfield 19, 3, 8, 4, 0, hNone, [682]), none, none, some (.aload_n 0, 1, 0, 0, 0, hNone, []), some (.getfield 65, 3, 8, 21, 0, hNone, [699]), none, none, some (.iload_n 3, 1, 0, 0, 0, hNone, []), some (.iaload, 1, 0, 0, 0, hNone, []), some (.iaload, 1, 0, 0, 0, hNone, []), some (.iload 4, 2, 0, 0, 0, hNone, []), none, some (.ishr, 1, 0, 0, 0, hNone, []), some (.iand, 1, 0, 0, 0, hNone, []), some (.iconst 1, 1, 0, 0, 1, hNone, []), some (.iand, 1, 0, 0, 0, hNone, []), some (.iconst 1, 1, 0, 0, 1, hNone, []), some (.if_icmp .ne 20, 3, 106, 0, 0, hNone, []), none, none, some (.iload_n 1, 1, 0, 0, 0, hNone, []), some (.iload_n 3, 1, 0, 0, 0, hNone, []), some (.isub, 1, 0, 0, 0, hNone, []), some (.iconst 1, 1, 0, 0, 1, hNone, []), some (.isub, 1, 0, 0, 0, hNone, []), some (.aload_n 0, 1, 0, 0, 0, hNone, []), some (.getfield 25, 3, 8, 6, 0, hNone, [684]), none, none, some (.iload 4, 2, 0, 0, 0, hNone, []), none, some (.iaload, 1, 0, 0, 0, hNone, []), some (.if_icmp .ge 5, 3, 106, 0, 0, hNone, []), none, none, some (.iconst 2, 1, 0, 0, 2, hNone, []), some (.ireturn, 1, 0, 0, 0, hNone, []), some (.iinc 4 1, 3, 0, 0, 1, hNone, []), none, none, some (.goto (-57), 3, 52, 0, 0, hNone, []), none, none, some (.iinc 3 1, 3, 0, 0, 1, hNone, []), none, none, some (.goto (-71), 3, 44, 0, 0, hNone, []), none, none, some (.iload_n 1, 1, 0, 0, 0, hNone, []), some (.ifCond .le 37, 3, 156, 0, 0, hNone, []), none, none, some (.aload_n 0, 1, 0, 0, 0, hNone, []), some (.getfield 28, 3, 8, 7, 0, hNone, [685]), none, none, some (.iconst 4, 1, 0, 0, 4, hNone, []), some (.aload_n 0, 1, 0, 0, 0, hNone, []), some (.getfield 13, 3, 8, 2, 0, hNone, [680]), none, none, some (.aload_n 0, 1, 0, 0, 0, hNone, []), some (.getfield 65, 3, 8, 21, 0, hNone, [699]), none, none, some (.iload_n 1, 1, 0, 0, 0, hNone, []), some (.iconst 1, 1, 0, 0, 1, hNone, []), some (.isub, 1, 0, 0, 0, hNone, []), some (.iaload, 1, 0, 0, 0, hNone, []), some (.iaload, 1, 0, 0, 0, hNone, []), some (.imul, 1, 0, 0, 0, hNone, []), some (.aload_n 0, 1, 0, 0, 0, hNone, []), some (.getfield 13, 3, 8, 2, 0, hNone, [680]), none, none, some (.iload_n 2, 1, 0, 0, 0, hNone, []), some (.iaload, 1, 0, 0, 0, hNone, []), some (.iadd, 1, 0, 0, 0, hNone, []), some (.baload, 1, 0, 0, 0, hNone, []), some (.ifCond .eq 7, 3, 156, 0, 0, hNone, []), none, none, some (.iconst 3, 1, 0, 0, 3, hNone, []), some (.goto 4, 3, 157, 0, 0, hNone, []), none, none, some (.iconst 0, 1, 0, 0, 0, hNone, []), some (.ireturn, 1, 0, 0, 0, hNone, [])]
set_option maxRecDepth 100000 in
theorem oX8_breaksAt : tbOk hX8_breaksAt tX8_breaksAt := tbOk_of (by decide +kernel)
theorem iX8_breaksAt : Cond.code hX8_breaksAt.1 hX8_breaksAt.2.1 hX8_breaksAt.2.2.1 hX8_breaksAt.2.2.2 ∈ lw_tbl := List.mem_of_getElem? (i := 795) (by decide +kernel)
def tX8_reads : List (Option En) := [some (.iload_n 2, 1, 0, 0, 0, hNone, []), some (.iconst 0, 1, 0, 0, 0, hNone, []), some (.bipush 8, 2, 0, 0, 8, hNone, []), none, some (.invokestatic 86, 3, 0, 3, 0, hX8_in, [773, 65, 774]), none, none, some (.ifCond .eq 7, 3, 14, 0, 0, hNone, []), none, none, some (.iload_n 1, 1, 0, 0, 0, hNone, []), some (.ifCond .ge 5, 3, 16, 0, 0, hNone, []), none, none, some (.iconst 0, 1, 0, 0, 0, hNone, []), some (.ireturn, 1, 0, 0, 0, hNone, []), some (.iload_n 1, 1, 0, 0, 0, hNone, []), some (.istore_n 3, 1, 0, 0, 0, hNone, []), some (.iconst 0, 1, 0, 0, 0, hNone, []), some (.istore 4, 2, 0, 0, 0, hNone, []), none, some (.iload 4, 2, 0, 0, 0, hNone, []), none, some (.iload_n 2, 1, 0, 0, 0, hNone, []), some (.if_icmp .ge 25, 3, 49, 0, 0, hNone, []), none, none, some (.aload_n 0, 1, 0, 0, 0, hNone, []), some (.getfield 65, 3, 8, 21, 0, hNone, [699]), none, none, some (.iload 4, 2, 0, 0, 0, hNone, []), none, some (.iload_n 3, 1, 0, 0, 0, hNone, []), some (.bipush 10, 2, 0, 0, 10, hNone, []), none, some (.irem, 1, 0, 0, 0, hNone, []), some (.iastore, 1, 0, 0, 0, hNone, []), some (.iload_n 3, 1, 0, 0, 0, hNone, []), some (.bipush 10, 2, 0, 0, 10, hNone, []), none, some (.idiv, 1, 0, 0, 0, hNone, []), some (.istore_n 3, 1, 0, 0, 0, hNone, []), some (.iinc 4 1, 3, 0, 0, 1, hNone, []), none, none, some (.goto (-25), 3, 21, 0, 0, hNone, []), none, none, some (.iload_n 3, 1, 0, 0, 0, hNone, []), some (.ifCond .ne 7, 3, 57, 0, 0, hNone, []), none, none, some (.iconst 1, 1, 0, 0, 1, hNone, []), some (.goto 4, 3, 58, 0, 0, hNone, []), none, none, some (.iconst 0, 1, 0, 0, 0, hNone, []), some (.ireturn, 1, 0, 0, 0, hNone, [])]
set_option maxRecDepth 100000 in
theorem oX8_reads : tbOk hX8_reads tX8_reads := tbOk_of (by decide +kernel)
theorem iX8_reads : Cond.code hX8_reads.1 hX8_reads.2.1 hX8_reads.2.2.1 hX8_reads.2.2.2 ∈ lw_tbl := List.mem_of_getElem? (i := 791) (by decide +kernel)
def tX8_judge : List (Option En) := [some (.aload_n 0, 1, 0, 0, 0, hNone, []), some (.iload_n 1, 1, 0, 0, 0, hNone, []), some (.iload_n 2, 1, 0, 0, 0, hNone, []), some (.invokevirtual 94, 3, 8, 2, 0, hX8_reads, [788, 65, 790, 45]), none, none, some (.ifCond .eq 12, 3, 18, 0, 0, hNone, []), none, none, some (.iload_n 3, 1, 0, 0, 0, hNone, []), some (.iconst 0, 1, 0, 0, 0, hNone, []), some (.iconst 1, 1, 0, 0, 1, hNone, []), some (.invokestatic 86, 3, 0, 3, 0, hX8_in, [773, 65, 774]), none, none, some (.ifCond .ne 5, 3, 20, 0, 0, hNone, []), none, none, some (.iconst (-1), 1, 0, 0, (-1), hNone, []), some (.ireturn, 1, 0, 0, 0, hNone, []), some (.iconst 0, 1, 0, 0, 0, hNone, []), some (.istore 4, 2, 0, 0, 0, hNone, []), none, some (.iload 4, 2, 0, 0, 0, hNone, []), none, some (.iload_n 2, 1, 0, 0, 0, hNone, []), some (.if_icmp .ge 34, 3, 60, 0, 0, hNone, []), none, none, some (.aload_n 0, 1, 0, 0, 0, hNone, []), some (.iload 4, 2, 0, 0, 0, hNone, []), none, some (.invokevirtual 98, 3, 8, 1, 0, hX8_breaksAt, [792, 65, 794, 46]), none, none, some (.istore 5, 2, 0, 0, 0, hNone, []), none, some (.iload 5, 2, 0, 0, 0, hNone, []), none, some (.ifCond .le 15, 3, 54, 0, 0, hNone, []), none, none, some (.iload_n 3, 1, 0, 0, 0, hNone, []), some (.ifCond .ne 8, 3, 51, 0, 0, hNone, []), none, none, some (.iload 4, 2, 0, 0, 0, hNone, []), none, some (.goto 5, 3, 53, 0, 0, hNone, []), none, none, some (.iload 5, 2, 0, 0, 0, hNone, []), none, some (.ireturn, 1, 0, 0, 0, hNone, []), some (.iinc 4 1, 3, 0, 0, 1, hNone, []), none, none, some (.goto (-34), 3, 23, 0, 0, hNone, []), none, none, some (.iload_n 2, 1, 0, 0, 0, hNone, []), some (.aload_n 0, 1, 0, 0, 0, hNone, []), some (.getfield 90, 3, 8, 0, 0, hNone, [678]), none, none, some (.if_icmp .ge 13, 3, 78, 0, 0, hNone, []), none, none, some (.iload_n 3, 1, 0, 0, 0, hNone, []), some (.ifCond .ne 7, 3, 76, 0, 0, hNone, []), none, none, some (.iload_n 2, 1, 0, 0, 0, hNone, []), some (.goto 4, 3, 77, 0, 0, hNone, []), none, none, some (.iconst 4, 1, 0, 0, 4, hNone, []), some (.ireturn, 1, 0, 0, 0, hNone, []), some (.iconst (-1), 1, 0, 0, (-1), hNone, []), some (.ireturn, 1, 0, 0, 0, hNone, [])]
set_option maxRecDepth 100000 in
theorem oX8_judge : tbOk hX8_judge tX8_judge := tbOk_of (by decide +kernel)
theorem iX8_judge : Cond.code hX8_judge.1 hX8_judge.2.1 hX8_judge.2.2.1 hX8_judge.2.2.2 ∈ lw_tbl := List.mem_of_getElem? (i := 787) (by decide +kernel)
def tX8_gapsOf : List (Option En) := [some (.iconst 0, 1, 0, 0, 0, hNone, []), some (.istore_n 2, 1, 0, 0, 0, hNone, []), some (.iconst 0, 1, 0, 0, 0, hNone, []), some (.istore_n 3, 1, 0, 0, 0, hNone, []), some (.iconst 0, 1, 0, 0, 0, hNone, []), some (.istore 4, 2, 0, 0, 0, hNone, []), none, some (.iconst 0, 1, 0, 0, 0, hNone, []), some (.istore 5, 2, 0, 0, 0, hNone, []), none, some (.iload 5, 2, 0, 0, 0, hNone, []), none, some (.iload_n 1, 1, 0, 0, 0, hNone, []), some (.if_icmp .ge 86, 3, 99, 0, 0, hNone, []), none, none, some (.aload_n 0, 1, 0, 0, 0, hNone, []), some (.getfield 65, 3, 8, 21, 0, hNone, [699]), none, none, some (.iload 5, 2, 0, 0, 0, hNone, []), none, some (.iaload, 1, 0, 0, 0, hNone, []), some (.istore 6, 2, 0, 0, 0, hNone, []), none, some (.aload_n 0, 1, 0, 0, 0, hNone, []), some (.getfield 13, 3, 8, 2, 0, hNone, [680]), none, none, some (.iload 6, 2, 0, 0, 0, hNone, []), none, some (.iaload, 1, 0, 0, 0, hNone, []), some (.iconst 3, 1, 0, 0, 3, hNone, []), some (.if_icmp .ne 16, 3, 49, 0, 0, hNone, []), none, none, some (.iload_n 3, 1, 0, 0, 0, hNone, []), some (.aload_n 0, 1, 0, 0, 0, hNone, []), some (.getfield 9, 3, 8, 1, 0, hNone, [679]), none, none, some (.iload 6, 2, 0, 0, 0, hNone, []), none, some (.iaload, 1, 0, 0, 0, hNone, []), some (.iadd, 1, 0, 0, 0, hNone, []), some (.istore_n 3, 1, 0, 0, 0, hNone, []), some (.goto 47, 3, 93, 0, 0, hNone, []), none, none, some (.iconst 2, 1, 0, 0, 2, hNone, []), some (.iload_n 2, 1, 0, 0, 0, hNone, []), some (.aload_n 0, 1, 0, 0, 0, hNone, []), some (.getfield 22, 3, 8, 5, 0, hNone, [683]), none, none, some (.iload 6, 2, 0, 0, 0, hNone, []), none, some (.iaload, 1, 0, 0, 0, hNone, []), some (.ixor, 1, 0, 0, 0, hNone, []), some (.invokestatic 102, 3, 0, 1, 0, hX8_bits, [805, 65, 806]), none, none, some (.imul, 1, 0, 0, 0, hNone, []), some (.iload_n 3, 1, 0, 0, 0, hNone, []), some (.isub, 1, 0, 0, 0, hNone, []), some (.istore 7, 2, 0, 0, 0, hNone, []), none, some (.iload 4, 2, 0, 0, 0, hNone, []), none, some (.iload 7, 2, 0, 0, 0, hNone, []), none, some (.ifCond .le 8, 3, 79, 0, 0, hNone, []), none, none, some (.iload 7, 2, 0, 0, 0, hNone, []), none, some (.goto 4, 3, 80, 0, 0, hNone, []), none, none, some (.iconst 0, 1, 0, 0, 0, hNone, []), some (.iadd, 1, 0, 0, 0, hNone, []), some (.istore 4, 2, 0, 0, 0, hNone, []), none, some (.iconst 0, 1, 0, 0, 0, hNone, []), some (.istore_n 3, 1, 0, 0, 0, hNone, []), some (.aload_n 0, 1, 0, 0, 0, hNone, []), some (.getfield 22, 3, 8, 5, 0, hNone, [683]), none, none, some (.iload 6, 2, 0, 0, 0, hNone, []), none, some (.iaload, 1, 0, 0, 0, hNone, []), some (.istore_n 2, 1, 0, 0, 0, hNone, []), some (.iinc 5 1, 3, 0, 0, 1, hNone, []), none, none, some (.goto (-86), 3, 10, 0, 0, hNone, []), none, none, some (.iload 4, 2, 0, 0, 0, hNone, []), none, some (.ireturn, 1, 0, 0, 0, hNone, [])]
set_option maxRecDepth 100000 in
theorem oX8_gapsOf : tbOk hX8_gapsOf tX8_gapsOf := tbOk_of (by decide +kernel)
theorem iX8_gapsOf : Cond.code hX8_gapsOf.1 hX8_gapsOf.2.1 hX8_gapsOf.2.2.1 hX8_gapsOf.2.2.2 ∈ lw_tbl := List.mem_of_getElem? (i := 804) (by decide +kernel)
def tX8_gaps : List (Option En) := [some (.aload_n 0, 1, 0, 0, 0, hNone, []), some (.iload_n 1, 1, 0, 0, 0, hNone, []), some (.iload_n 2, 1, 0, 0, 0, hNone, []), some (.invokevirtual 94, 3, 8, 2, 0, hX8_reads, [788, 65, 790, 45]), none, none, some (.ifCond .eq 14, 3, 20, 0, 0, hNone, []), none, none, some (.aload_n 0, 1, 0, 0, 0, hNone, []), some (.iload_n 1, 1, 0, 0, 0, hNone, []), some (.iload_n 2, 1, 0, 0, 0, hNone, []), some (.iconst 0, 1, 0, 0, 0, hNone, []), some (.invokevirtual 105, 3, 8, 3, 0, hX8_judge, [800, 65, 785, 786]), none, none, some (.iconst (-1), 1, 0, 0, (-1), hNone, []), some (.if_icmp .eq 5, 3, 22, 0, 0, hNone, []), none, none, some (.iconst (-1), 1, 0, 0, (-1), hNone, []), some (.ireturn, 1, 0, 0, 0, hNone, []), some (.aload_n 0, 1, 0, 0, 0, hNone, []), some (.iload_n 2, 1, 0, 0, 0, hNone, []), some (.invokevirtual 109, 3, 8, 1, 0, hX8_gapsOf, [801, 65, 803, 47]), none, none, some (.ireturn, 1, 0, 0, 0, hNone, [])]
set_option maxRecDepth 100000 in
theorem oX8_gaps : tbOk hX8_gaps tX8_gaps := tbOk_of (by decide +kernel)
theorem iX8_gaps : Cond.code hX8_gaps.1 hX8_gaps.2.1 hX8_gaps.2.2.1 hX8_gaps.2.2.2 ∈ lw_tbl := List.mem_of_getElem? (i := 799) (by decide +kernel)
def tX8_seeks : List (Option En) := [some (.aload_n 0, 1, 0, 0, 0, hNone, []), some (.iconst (-1), 1, 0, 0, (-1), hNone, []), some (.putfield 112, 3, 8, 26, 0, hNone, [704]), none, none, some (.iconst 0, 1, 0, 0, 0, hNone, []), some (.istore_n 1, 1, 0, 0, 0, hNone, []), some (.iconst 0, 1, 0, 0, 0, hNone, []), some (.istore_n 2, 1, 0, 0, 0, hNone, []), some (.aload_n 0, 1, 0, 0, 0, hNone, []), some (.getfield 68, 3, 8, 22, 0, hNone, [700]), none, none, some (.iconst 0, 1, 0, 0, 0, hNone, []), some (.iconst 0, 1, 0, 0, 0, hNone, []), some (.iastore, 1, 0, 0, 0, hNone, []), some (.iload_n 2, 1, 0, 0, 0, hNone, []), some (.ifCond .lt 208, 3, 225, 0, 0, hNone, []), none, none, some (.aload_n 0, 1, 0, 0, 0, hNone, []), some (.getfield 90, 3, 8, 0, 0, hNone, [678]), none, none, some (.ifCond .le 201, 3, 225, 0, 0, hNone, []), none, none, some (.iload_n 2, 1, 0, 0, 0, hNone, []), some (.aload_n 0, 1, 0, 0, 0, hNone, []), some (.getfield 90, 3, 8, 0, 0, hNone, [678]), none, none, some (.if_icmp .ne 116, 3, 148, 0, 0, hNone, []), none, none, some (.aload_n 0, 1, 0, 0, 0, hNone, []), some (.iload_n 2, 1, 0, 0, 0, hNone, []), some (.invokevirtual 109, 3, 8, 1, 0, hX8_gapsOf, [801, 65, 803, 47]), none, none, some (.istore_n 3, 1, 0, 0, 0, hNone, []), some (.iconst 0, 1, 0, 0, 0, hNone, []), some (.istore 4, 2, 0, 0, 0, hNone, []), none, some (.iconst 0, 1, 0, 0, 0, hNone, []), some (.istore 5, 2, 0, 0, 0, hNone, []), none, some (.iload 5, 2, 0, 0, 0, hNone, []), none, some (.iload_n 2, 1, 0, 0, 0, hNone, []), some (.if_icmp .ge 31, 3, 81, 0, 0, hNone, []), none, none, some (.iload 4, 2, 0, 0, 0, hNone, []), none, some (.aload_n 0, 1, 0, 0, 0, hNone, []), some (.getfield 16, 3, 8, 3, 0, hNone, [681]), none, none, some (.aload_n 0, 1, 0, 0, 0, hNone, []), some (.getfield 65, 3, 8, 21, 0, hNone, [699]), none, none, some (.iload 5, 2, 0, 0, 0, hNone, []), none, some (.iaload, 1, 0, 0, 0, hNone, []), some (.iaload, 1, 0, 0, 0, hNone, []), some (.iload 5, 2, 0, 0, 0, hNone, []), none, some (.iconst 1, 1, 0, 0, 1, hNone, []), some (.iadd, 1, 0, 0, 0, hNone, []), some (.imul, 1, 0, 0, 0, hNone, []), some (.iadd, 1, 0, 0, 0, hNone, []), some (.istore 4, 2, 0, 0, 0, hNone, []), none, some (.iinc 5 1, 3, 0, 0, 1, hNone, []), none, none, some (.goto (-31), 3, 47, 0, 0, hNone, []), none, none, some (.aload_n 0, 1, 0, 0, 0, hNone, []), some (.getfield 112, 3, 8, 26, 0, hNone, [704]), none, none, some (.iconst (-1), 1, 0, 0, (-1), hNone, []), some (.if_icmp .eq 25, 3, 111, 0, 0, hNone, []), none, none, some (.iload_n 3, 1, 0, 0, 0, hNone, []), some (.aload_n 0, 1, 0, 0, 0, hNone, []), some (.getfield 112, 3, 8, 26, 0, hNone, [704]), none, none, some (.if_icmp .lt 17, 3, 111, 0, 0, hNone, []), none, none, some (.iload_n 3, 1, 0, 0, 0, hNone, []), some (.aload_n 0, 1, 0, 0, 0, hNone, []), some (.getfield 112, 3, 8, 26, 0, hNone, [704]), none, none, some (.if_icmp .ne 46, 3, 148, 0, 0, hNone, []), none, none, some (.iload 4, 2, 0, 0, 0, hNone, []), none, some (.iload_n 1, 1, 0, 0, 0, hNone, []), some (.if_icmp .le 40, 3, 148, 0, 0, hNone, []), none, none, some (.aload_n 0, 1, 0, 0, 0, hNone, []), some (.iload_n 3, 1, 0, 0, 0, hNone, []), some (.putfield 112, 3, 8, 26, 0, hNone, [704]), none, none, some (.iload 4, 2, 0, 0, 0, hNone, []), none, some (.istore_n 1, 1, 0, 0, 0, hNone, []), some (.iconst 0, 1, 0, 0, 0, hNone, []), some (.istore 5, 2, 0, 0, 0, hNone, []), none, some (.iload 5, 2, 0, 0, 0, hNone, []), none, some (.iload_n 2, 1, 0, 0, 0, hNone, []), some (.if_icmp .ge 23, 3, 148, 0, 0, hNone, []), none, none, some (.aload_n 0, 1, 0, 0, 0, hNone, []), some (.getfield 71, 3, 8, 23, 0, hNone, [701]), none, none, some (.iload 5, 2, 0, 0, 0, hNone, []), none, some (.aload_n 0, 1, 0, 0, 0, hNone, []), some (.getfield 65, 3, 8, 21, 0, hNone, [699]), none, none, some (.iload 5, 2, 0, 0, 0, hNone, []), none, some (.iaload, 1, 0, 0, 0, hNone, []), some (.iastore, 1, 0, 0, 0, hNone, []), some (.iinc 5 1, 3, 0, 0, 1, hNone, []), none, none, some (.goto (-23), 3, 122, 0, 0, hNone, []), none, none, some (.iload_n 2, 1, 0, 0, 0, hNone, []), some (.aload_n 0, 1, 0, 0, 0, hNone, []), some (.getfield 90, 3, 8, 0, 0, hNone, [678]), none, none, some (.if_icmp .ne 10, 3, 163, 0, 0, hNone, []), none, none, some (.aload_n 0, 1, 0, 0, 0, hNone, []), some (.getfield 90, 3, 8, 0, 0, hNone, [678]), none, none, some (.goto 9, 3, 169, 0, 0, hNone, []), none, none, some (.aload_n 0, 1, 0, 0, 0, hNone, []), some (.getfield 68, 3, 8, 22, 0, hNone, [700]), none, none, some (.iload_n 2, 1, 0, 0, 0, hNone, []), some (.iaload, 1, 0, 0, 0, hNone, []), some (.istore_n 3, 1, 0, 0, 0, hNone, []), some (.iload_n 3, 1, 0, 0, 0, hNone, []), some (.aload_n 0, 1, 0, 0, 0, hNone, []), some (.getfield 90, 3, 8, 0, 0, hNone, [678]), none, none, some (.if_icmp .ne 9, 3, 184, 0, 0, hNone, []), none, none, some (.iinc 2 (-1), 3, 0, 0, (-1), hNone, []), none, none, some (.goto (-165), 3, 16, 0, 0, hNone, []), none, none, some (.aload_n 0, 1, 0, 0, 0, hNone, []), some (.getfield 68, 3, 8, 22, 0, hNone, [700]), none, none, some (.iload_n 2, 1, 0, 0, 0, hNone, []), some (.dup2, 1, 0, 0, 0, hNone, []), some (.iaload, 1, 0, 0, 0, hNone, []), some (.iconst 1, 1, 0, 0, 1, hNone, []), some (.iadd, 1, 0, 0, 0, hNone, []), some (.iastore, 1, 0, 0, 0, hNone, []), some (.aload_n 0, 1, 0, 0, 0, hNone, []), some (.getfield 65, 3, 8, 21, 0, hNone, [699]), none, none, some (.iload_n 2, 1, 0, 0, 0, hNone, []), some (.iload_n 3, 1, 0, 0, 0, hNone, []), some (.iastore, 1, 0, 0, 0, hNone, []), some (.aload_n 0, 1, 0, 0, 0, hNone, []), some (.iload_n 2, 1, 0, 0, 0, hNone, []), some (.invokevirtual 98, 3, 8, 1, 0, hX8_breaksAt, [792, 65, 794, 46]), none, none, some (.ifCond .le 6, 3, 212, 0, 0, hNone, []), none, none, some (.goto (-193), 3, 16, 0, 0, hNone, []), none, none, some (.iinc 2 1, 3, 0, 0, 1, hNone, []), none, none, some (.aload_n 0, 1, 0, 0, 0, hNone, []), some (.getfield 68, 3, 8, 22, 0, hNone, [700]), none, none, some (.iload_n 2, 1, 0, 0, 0, hNone, []), some (.iconst 0, 1, 0, 0, 0, hNone, []), some (.iastore, 1, 0, 0, 0, hNone, []), some (.goto (-206), 3, 16, 0, 0, hNone, []), none, none, some (.aload_n 0, 1, 0, 0, 0, hNone, []), some (.getfield 112, 3, 8, 26, 0, hNone, [704]), none, none, some (.iconst (-1), 1, 0, 0, (-1), hNone, []), some (.if_icmp .eq 7, 3, 237, 0, 0, hNone, []), none, none, some (.iconst 1, 1, 0, 0, 1, hNone, []), some (.goto 4, 3, 238, 0, 0, hNone, []), none, none, some (.iconst 0, 1, 0, 0, 0, hNone, []), some (.ireturn, 1, 0, 0, 0, hNone, [])]
set_option maxRecDepth 100000 in
theorem oX8_seeks : tbOk hX8_seeks tX8_seeks := tbOk_of (by decide +kernel)
theorem iX8_seeks : Cond.code hX8_seeks.1 hX8_seeks.2.1 hX8_seeks.2.2.1 hX8_seeks.2.2.2 ∈ lw_tbl := List.mem_of_getElem? (i := 815) (by decide +kernel)
def tX8_best : List (Option En) := [some (.aload_n 0, 1, 0, 0, 0, hNone, []), some (.invokevirtual 115, 3, 8, 0, 0, hX8_seeks, [812, 65, 814, 48]), none, none, some (.ifCond .eq 10, 3, 14, 0, 0, hNone, []), none, none, some (.aload_n 0, 1, 0, 0, 0, hNone, []), some (.getfield 112, 3, 8, 26, 0, hNone, [704]), none, none, some (.goto 4, 3, 15, 0, 0, hNone, []), none, none, some (.iconst (-1), 1, 0, 0, (-1), hNone, []), some (.ireturn, 1, 0, 0, 0, hNone, [])]
set_option maxRecDepth 100000 in
theorem oX8_best : tbOk hX8_best tX8_best := tbOk_of (by decide +kernel)
theorem iX8_best : Cond.code hX8_best.1 hX8_best.2.1 hX8_best.2.2.1 hX8_best.2.2.2 ∈ lw_tbl := List.mem_of_getElem? (i := 811) (by decide +kernel)
def tX8_bestAt : List (Option En) := [some (.aload_n 0, 1, 0, 0, 0, hNone, []), some (.invokevirtual 115, 3, 8, 0, 0, hX8_seeks, [812, 65, 814, 48]), none, none, some (.ifCond .eq 26, 3, 30, 0, 0, hNone, []), none, none, some (.iload_n 1, 1, 0, 0, 0, hNone, []), some (.iconst 0, 1, 0, 0, 0, hNone, []), some (.aload_n 0, 1, 0, 0, 0, hNone, []), some (.getfield 90, 3, 8, 0, 0, hNone, [678]), none, none, some (.iconst 1, 1, 0, 0, 1, hNone, []), some (.isub, 1, 0, 0, 0, hNone, []), some (.invokestatic 86, 3, 0, 3, 0, hX8_in, [773, 65, 774]), none, none, some (.ifCond .eq 12, 3, 30, 0, 0, hNone, []), none, none, some (.aload_n 0, 1, 0, 0, 0, hNone, []), some (.getfield 71, 3, 8, 23, 0, hNone, [701]), none, none, some (.iload_n 1, 1, 0, 0, 0, hNone, []), some (.iaload, 1, 0, 0, 0, hNone, []), some (.goto 4, 3, 31, 0, 0, hNone, []), none, none, some (.iconst (-1), 1, 0, 0, (-1), hNone, []), some (.ireturn, 1, 0, 0, 0, hNone, [])]
set_option maxRecDepth 100000 in
theorem oX8_bestAt : tbOk hX8_bestAt tX8_bestAt := tbOk_of (by decide +kernel)
theorem iX8_bestAt : Cond.code hX8_bestAt.1 hX8_bestAt.2.1 hX8_bestAt.2.2.1 hX8_bestAt.2.2.2 ∈ lw_tbl := List.mem_of_getElem? (i := 819) (by decide +kernel)
def tX8_load : List (Option En) := [some (.iload_n 1, 1, 0, 0, 0, hNone, []), some (.iconst 0, 1, 0, 0, 0, hNone, []), some (.bipush 7, 2, 0, 0, 7, hNone, []), none, some (.invokestatic 86, 3, 0, 3, 0, hX8_in, [773, 65, 774]), none, none, some (.ifCond .eq 14, 3, 21, 0, 0, hNone, []), none, none, some (.iload_n 2, 1, 0, 0, 0, hNone, []), some (.iconst 0, 1, 0, 0, 0, hNone, []), some (.sipush 10000, 3, 0, 0, 10000, hNone, []), none, none, some (.invokestatic 86, 3, 0, 3, 0, hX8_in, [773, 65, 774]), none, none, some (.ifCond .ne 5, 3, 23, 0, 0, hNone, []), none, none, some (.iconst 0, 1, 0, 0, 0, hNone, []), some (.ireturn, 1, 0, 0, 0, hNone, []), some (.aload_n 0, 1, 0, 0, 0, hNone, []), some (.getfield 32, 3, 8, 8, 0, hNone, [686]), none, none, some (.iload_n 1, 1, 0, 0, 0, hNone, []), some (.iload_n 2, 1, 0, 0, 0, hNone, []), some (.iastore, 1, 0, 0, 0, hNone, []), some (.iconst 1, 1, 0, 0, 1, hNone, []), some (.ireturn, 1, 0, 0, 0, hNone, [])]
set_option maxRecDepth 100000 in
theorem oX8_load : tbOk hX8_load tX8_load := tbOk_of (by decide +kernel)
theorem iX8_load : Cond.code hX8_load.1 hX8_load.2.1 hX8_load.2.2.1 hX8_load.2.2.2 ∈ lw_tbl := List.mem_of_getElem? (i := 823) (by decide +kernel)
def tX8_share : List (Option En) := [some (.iload_n 1, 1, 0, 0, 0, hNone, []), some (.iconst 0, 1, 0, 0, 0, hNone, []), some (.bipush 7, 2, 0, 0, 7, hNone, []), none, some (.invokestatic 86, 3, 0, 3, 0, hX8_in, [773, 65, 774]), none, none, some (.ifCond .eq 23, 3, 30, 0, 0, hNone, []), none, none, some (.iload_n 2, 1, 0, 0, 0, hNone, []), some (.iconst 0, 1, 0, 0, 0, hNone, []), some (.bipush 7, 2, 0, 0, 7, hNone, []), none, some (.invokestatic 86, 3, 0, 3, 0, hX8_in, [773, 65, 774]), none, none, some (.ifCond .eq 13, 3, 30, 0, 0, hNone, []), none, none, some (.iload_n 3, 1, 0, 0, 0, hNone, []), some (.iconst 0, 1, 0, 0, 0, hNone, []), some (.bipush 100, 2, 0, 0, 100, hNone, []), none, some (.invokestatic 86, 3, 0, 3, 0, hX8_in, [773, 65, 774]), none, none, some (.ifCond .ne 5, 3, 32, 0, 0, hNone, []), none, none, some (.iconst 0, 1, 0, 0, 0, hNone, []), some (.ireturn, 1, 0, 0, 0, hNone, []), some (.iload_n 3, 1, 0, 0, 0, hNone, []), some (.istore 4, 2, 0, 0, 0, hNone, []), none, some (.iconst 0, 1, 0, 0, 0, hNone, []), some (.istore 5, 2, 0, 0, 0, hNone, []), none, some (.iload 5, 2, 0, 0, 0, hNone, []), none, some (.bipush 8, 2, 0, 0, 8, hNone, []), none, some (.if_icmp .ge 36, 3, 78, 0, 0, hNone, []), none, none, some (.iload 4, 2, 0, 0, 0, hNone, []), none, some (.iload 5, 2, 0, 0, 0, hNone, []), none, some (.iload_n 2, 1, 0, 0, 0, hNone, []), some (.if_icmp .ne 7, 3, 57, 0, 0, hNone, []), none, none, some (.iconst 0, 1, 0, 0, 0, hNone, []), some (.goto 15, 3, 69, 0, 0, hNone, []), none, none, some (.aload_n 0, 1, 0, 0, 0, hNone, []), some (.getfield 35, 3, 8, 9, 0, hNone, [687]), none, none, some (.bipush 8, 2, 0, 0, 8, hNone, []), none, some (.iload_n 1, 1, 0, 0, 0, hNone, []), some (.imul, 1, 0, 0, 0, hNone, []), some (.iload 5, 2, 0, 0, 0, hNone, []), none, some (.iadd, 1, 0, 0, 0, hNone, []), some (.iaload, 1, 0, 0, 0, hNone, []), some (.iadd, 1, 0, 0, 0, hNone, []), some (.istore 4, 2, 0, 0, 0, hNone, []), none, some (.iinc 5 1, 3, 0, 0, 1, hNone, []), none, none, some (.goto (-37), 3, 38, 0, 0, hNone, []), none, none, some (.iload 4, 2, 0, 0, 0, hNone, []), none, some (.bipush 100, 2, 0, 0, 100, hNone, []), none, some (.if_icmp .le 5, 3, 87, 0, 0, hNone, []), none, none, some (.iconst 0, 1, 0, 0, 0, hNone, []), some (.ireturn, 1, 0, 0, 0, hNone, []), some (.aload_n 0, 1, 0, 0, 0, hNone, []), some (.getfield 35, 3, 8, 9, 0, hNone, [687]), none, none, some (.bipush 8, 2, 0, 0, 8, hNone, []), none, some (.iload_n 1, 1, 0, 0, 0, hNone, []), some (.imul, 1, 0, 0, 0, hNone, []), some (.iload_n 2, 1, 0, 0, 0, hNone, []), some (.iadd, 1, 0, 0, 0, hNone, []), some (.iload_n 3, 1, 0, 0, 0, hNone, []), some (.iastore, 1, 0, 0, 0, hNone, []), some (.iconst 1, 1, 0, 0, 1, hNone, []), some (.ireturn, 1, 0, 0, 0, hNone, [])]
set_option maxRecDepth 100000 in
theorem oX8_share : tbOk hX8_share tX8_share := tbOk_of (by decide +kernel)
theorem iX8_share : Cond.code hX8_share.1 hX8_share.2.1 hX8_share.2.2.1 hX8_share.2.2.2 ∈ lw_tbl := List.mem_of_getElem? (i := 827) (by decide +kernel)
def tX8_exposed : List (Option En) := [some (.iload_n 1, 1, 0, 0, 0, hNone, []), some (.iconst 0, 1, 0, 0, 0, hNone, []), some (.bipush 7, 2, 0, 0, 7, hNone, []), none, some (.invokestatic 86, 3, 0, 3, 0, hX8_in, [773, 65, 774]), none, none, some (.ifCond .eq 14, 3, 21, 0, 0, hNone, []), none, none, some (.iload_n 2, 1, 0, 0, 0, hNone, []), some (.bipush (-9), 2, 0, 0, (-9), hNone, []), none, some (.bipush 9, 2, 0, 0, 9, hNone, []), none, some (.invokestatic 86, 3, 0, 3, 0, hX8_in, [773, 65, 774]), none, none, some (.ifCond .ne 5, 3, 23, 0, 0, hNone, []), none, none, some (.iconst 0, 1, 0, 0, 0, hNone, []), some (.ireturn, 1, 0, 0, 0, hNone, []), some (.aload_n 0, 1, 0, 0, 0, hNone, []), some (.getfield 38, 3, 8, 10, 0, hNone, [688]), none, none, some (.iload_n 1, 1, 0, 0, 0, hNone, []), some (.iload_n 2, 1, 0, 0, 0, hNone, []), some (.iastore, 1, 0, 0, 0, hNone, []), some (.iconst 1, 1, 0, 0, 1, hNone, []), some (.ireturn, 1, 0, 0, 0, hNone, [])]
set_option maxRecDepth 100000 in
theorem oX8_exposed : tbOk hX8_exposed tX8_exposed := tbOk_of (by decide +kernel)
theorem iX8_exposed : Cond.code hX8_exposed.1 hX8_exposed.2.1 hX8_exposed.2.2.1 hX8_exposed.2.2.2 ∈ lw_tbl := List.mem_of_getElem? (i := 831) (by decide +kernel)
def tX8_isUp : List (Option En) := [some (.aload_n 0, 1, 0, 0, 0, hNone, []), some (.getfield 38, 3, 8, 10, 0, hNone, [688]), none, none, some (.iload_n 1, 1, 0, 0, 0, hNone, []), some (.iaload, 1, 0, 0, 0, hNone, []), some (.ifCond .eq 7, 3, 13, 0, 0, hNone, []), none, none, some (.iconst 1, 1, 0, 0, 1, hNone, []), some (.goto 4, 3, 14, 0, 0, hNone, []), none, none, some (.iconst 0, 1, 0, 0, 0, hNone, []), some (.istore_n 2, 1, 0, 0, 0, hNone, []), some (.iconst 0, 1, 0, 0, 0, hNone, []), some (.istore_n 3, 1, 0, 0, 0, hNone, []), some (.iload_n 3, 1, 0, 0, 0, hNone, []), some (.bipush 8, 2, 0, 0, 8, hNone, []), none, some (.if_icmp .ge 33, 3, 53, 0, 0, hNone, []), none, none, some (.iload_n 2, 1, 0, 0, 0, hNone, []), some (.ifCond .ne 17, 3, 41, 0, 0, hNone, []), none, none, some (.aload_n 0, 1, 0, 0, 0, hNone, []), some (.getfield 35, 3, 8, 9, 0, hNone, [687]), none, none, some (.bipush 8, 2, 0, 0, 8, hNone, []), none, some (.iload_n 3, 1, 0, 0, 0, hNone, []), some (.imul, 1, 0, 0, 0, hNone, []), some (.iload_n 1, 1, 0, 0, 0, hNone, []), some (.iadd, 1, 0, 0, 0, hNone, []), some (.iaload, 1, 0, 0, 0, hNone, []), some (.ifCond .le 7, 3, 45, 0, 0, hNone, []), none, none, some (.iconst 1, 1, 0, 0, 1, hNone, []), some (.goto 4, 3, 46, 0, 0, hNone, []), none, none, some (.iconst 0, 1, 0, 0, 0, hNone, []), some (.istore_n 2, 1, 0, 0, 0, hNone, []), some (.iinc 3 1, 3, 0, 0, 1, hNone, []), none, none, some (.goto (-33), 3, 17, 0, 0, hNone, []), none, none, some (.iload_n 2, 1, 0, 0, 0, hNone, []), some (.ireturn, 1, 0, 0, 0, hNone, [])]
set_option maxRecDepth 100000 in
theorem oX8_isUp : tbOk hX8_isUp tX8_isUp := tbOk_of (by decide +kernel)
theorem iX8_isUp : Cond.code hX8_isUp.1 hX8_isUp.2.1 hX8_isUp.2.2.1 hX8_isUp.2.2.2 ∈ lw_tbl := List.mem_of_getElem? (i := 846) (by decide +kernel)
def tX8_hangs : List (Option En) := [some (.aload_n 0, 1, 0, 0, 0, hNone, []), some (.iconst 0, 1, 0, 0, 0, hNone, []), some (.putfield 119, 3, 8, 29, 0, hNone, [707]), none, none, some (.iconst 0, 1, 0, 0, 0, hNone, []), some (.istore_n 2, 1, 0, 0, 0, hNone, []), some (.iload_n 2, 1, 0, 0, 0, hNone, []), some (.bipush 8, 2, 0, 0, 8, hNone, []), none, some (.if_icmp .ge 74, 3, 84, 0, 0, hNone, []), none, none, some (.aload_n 0, 1, 0, 0, 0, hNone, []), some (.getfield 83, 3, 8, 28, 0, hNone, [706]), none, none, some (.iload_n 2, 1, 0, 0, 0, hNone, []), some (.iconst 0, 1, 0, 0, 0, hNone, []), some (.bastore, 1, 0, 0, 0, hNone, []), some (.aload_n 0, 1, 0, 0, 0, hNone, []), some (.getfield 80, 3, 8, 27, 0, hNone, [705]), none, none, some (.iload_n 2, 1, 0, 0, 0, hNone, []), some (.bipush 100, 2, 0, 0, 100, hNone, []), none, some (.iload_n 1, 1, 0, 0, 0, hNone, []), some (.imul, 1, 0, 0, 0, hNone, []), some (.aload_n 0, 1, 0, 0, 0, hNone, []), some (.getfield 38, 3, 8, 10, 0, hNone, [688]), none, none, some (.iload_n 2, 1, 0, 0, 0, hNone, []), some (.iaload, 1, 0, 0, 0, hNone, []), some (.imul, 1, 0, 0, 0, hNone, []), some (.iastore, 1, 0, 0, 0, hNone, []), some (.iconst 0, 1, 0, 0, 0, hNone, []), some (.istore_n 3, 1, 0, 0, 0, hNone, []), some (.iload_n 3, 1, 0, 0, 0, hNone, []), some (.bipush 8, 2, 0, 0, 8, hNone, []), none, some (.if_icmp .ge 36, 3, 78, 0, 0, hNone, []), none, none, some (.aload_n 0, 1, 0, 0, 0, hNone, []), some (.getfield 80, 3, 8, 27, 0, hNone, [705]), none, none, some (.iload_n 2, 1, 0, 0, 0, hNone, []), some (.dup2, 1, 0, 0, 0, hNone, []), some (.iaload, 1, 0, 0, 0, hNone, []), some (.aload_n 0, 1, 0, 0, 0, hNone, []), some (.getfield 32, 3, 8, 8, 0, hNone, [686]), none, none, some (.iload_n 3, 1, 0, 0, 0, hNone, []), some (.iaload, 1, 0, 0, 0, hNone, []), some (.aload_n 0, 1, 0, 0, 0, hNone, []), some (.getfield 35, 3, 8, 9, 0, hNone, [687]), none, none, some (.bipush 8, 2, 0, 0, 8, hNone, []), none, some (.iload_n 3, 1, 0, 0, 0, hNone, []), some (.imul, 1, 0, 0, 0, hNone, []), some (.iload_n 2, 1, 0, 0, 0, hNone, []), some (.iadd, 1, 0, 0, 0, hNone, []), some (.iaload, 1, 0, 0, 0, hNone, []), some (.imul, 1, 0, 0, 0, hNone, []), some (.iadd, 1, 0, 0, 0, hNone, []), some (.iastore, 1, 0, 0, 0, hNone, []), some (.iinc 3 1, 3, 0, 0, 1, hNone, []), none, none, some (.goto (-36), 3, 39, 0, 0, hNone, []), none, none, some (.iinc 2 1, 3, 0, 0, 1, hNone, []), none, none, some (.goto (-74), 3, 7, 0, 0, hNone, []), none, none, some (.iconst 1, 1, 0, 0, 1, hNone, []), some (.istore_n 2, 1, 0, 0, 0, hNone, []), some (.iload_n 2, 1, 0, 0, 0, hNone, []), some (.ifCond .eq 58, 3, 145, 0, 0, hNone, []), none, none, some (.iconst 0, 1, 0, 0, 0, hNone, []), some (.istore_n 3, 1, 0, 0, 0, hNone, []), some (.iload_n 3, 1, 0, 0, 0, hNone, []), some (.bipush 8, 2, 0, 0, 8, hNone, []), none, some (.if_icmp .ge 26, 3, 121, 0, 0, hNone, []), none, none, some (.aload_n 0, 1, 0, 0, 0, hNone, []), some (.iload_n 3, 1, 0, 0, 0, hNone, []), some (.invokevirtual 122, 3, 8, 1, 0, hX8_isUp, [843, 65, 845, 50]), none, none, some (.ifCond .eq 12, 3, 115, 0, 0, hNone, []), none, none, some (.aload_n 0, 1, 0, 0, 0, hNone, []), some (.getfield 80, 3, 8, 27, 0, hNone, [705]), none, none, some (.iload_n 3, 1, 0, 0, 0, hNone, []), some (.iaload, 1, 0, 0, 0, hNone, []), some (.ifCond .lt 9, 3, 121, 0, 0, hNone, []), none, none, some (.iinc 3 1, 3, 0, 0, 1, hNone, []), none, none, some (.goto (-26), 3, 92, 0, 0, hNone, []), none, none, some (.iload_n 3, 1, 0, 0, 0, hNone, []), some (.bipush 8, 2, 0, 0, 8, hNone, []), none, some (.if_icmp .ge 7, 3, 131, 0, 0, hNone, []), none, none, some (.iconst 1, 1, 0, 0, 1, hNone, []), some (.goto 4, 3, 132, 0, 0, hNone, []), none, none, some (.iconst 0, 1, 0, 0, 0, hNone, []), some (.istore_n 2, 1, 0, 0, 0, hNone, []), some (.iload_n 2, 1, 0, 0, 0, hNone, []), some (.ifCond .eq 8, 3, 142, 0, 0, hNone, []), none, none, some (.aload_n 0, 1, 0, 0, 0, hNone, []), some (.iload_n 3, 1, 0, 0, 0, hNone, []), some (.invokevirtual 126, 3, 8, 1, 0, hX8_slackens, [847, 65, 849, 51]), none, none, some (.goto (-56), 3, 86, 0, 0, hNone, []), none, none, some (.return_, 1, 0, 0, 0, hNone, [])]
set_option maxRecDepth 100000 in
theorem oX8_hangs : tbOk hX8_hangs tX8_hangs := tbOk_of (by decide +kernel)
theorem iX8_hangs : Cond.code hX8_hangs.1 hX8_hangs.2.1 hX8_hangs.2.2.1 hX8_hangs.2.2.2 ∈ lw_tbl := List.mem_of_getElem? (i := 842) (by decide +kernel)
def tX8_slackens : List (Option En) := [some (.aload_n 0, 1, 0, 0, 0, hNone, []), some (.getfield 80, 3, 8, 27, 0, hNone, [705]), none, none, some (.iload_n 1, 1, 0, 0, 0, hNone, []), some (.iaload, 1, 0, 0, 0, hNone, []), some (.istore_n 2, 1, 0, 0, 0, hNone, []), some (.aload_n 0, 1, 0, 0, 0, hNone, []), some (.getfield 80, 3, 8, 27, 0, hNone, [705]), none, none, some (.iload_n 1, 1, 0, 0, 0, hNone, []), some (.iconst 0, 1, 0, 0, 0, hNone, []), some (.iastore, 1, 0, 0, 0, hNone, []), some (.aload_n 0, 1, 0, 0, 0, hNone, []), some (.getfield 83, 3, 8, 28, 0, hNone, [706]), none, none, some (.iload_n 1, 1, 0, 0, 0, hNone, []), some (.iconst 1, 1, 0, 0, 1, hNone, []), some (.bastore, 1, 0, 0, 0, hNone, []), some (.iconst 0, 1, 0, 0, 0, hNone, []), some (.istore_n 3, 1, 0, 0, 0, hNone, []), some (.iconst 0, 1, 0, 0, 0, hNone, []), some (.istore 4, 2, 0, 0, 0, hNone, []), none, some (.iload 4, 2, 0, 0, 0, hNone, []), none, some (.bipush 8, 2, 0, 0, 8, hNone, []), none, some (.if_icmp .ge 36, 3, 66, 0, 0, hNone, []), none, none, some (.iload_n 3, 1, 0, 0, 0, hNone, []), some (.aload_n 0, 1, 0, 0, 0, hNone, []), some (.iload 4, 2, 0, 0, 0, hNone, []), none, some (.invokevirtual 122, 3, 8, 1, 0, hX8_isUp, [843, 65, 845, 50]), none, none, some (.ifCond .eq 17, 3, 57, 0, 0, hNone, []), none, none, some (.aload_n 0, 1, 0, 0, 0, hNone, []), some (.getfield 83, 3, 8, 28, 0, hNone, [706]), none, none, some (.iload 4, 2, 0, 0, 0, hNone, []), none, some (.baload, 1, 0, 0, 0, hNone, []), some (.ifCond .ne 7, 3, 57, 0, 0, hNone, []), none, none, some (.iconst 1, 1, 0, 0, 1, hNone, []), some (.goto 4, 3, 58, 0, 0, hNone, []), none, none, some (.iconst 0, 1, 0, 0, 0, hNone, []), some (.iadd, 1, 0, 0, 0, hNone, []), some (.istore_n 3, 1, 0, 0, 0, hNone, []), some (.iinc 4 1, 3, 0, 0, 1, hNone, []), none, none, some (.goto (-37), 3, 26, 0, 0, hNone, []), none, none, some (.iload_n 3, 1, 0, 0, 0, hNone, []), some (.ifCond .ne 9, 3, 76, 0, 0, hNone, []), none, none, some (.aload_n 0, 1, 0, 0, 0, hNone, []), some (.iload_n 2, 1, 0, 0, 0, hNone, []), some (.putfield 119, 3, 8, 29, 0, hNone, [707]), none, none, some (.return_, 1, 0, 0, 0, hNone, []), some (.iload_n 2, 1, 0, 0, 0, hNone, []), some (.iload_n 2, 1, 0, 0, 0, hNone, []), some (.iload_n 3, 1, 0, 0, 0, hNone, []), some (.idiv, 1, 0, 0, 0, hNone, []), some (.iload_n 3, 1, 0, 0, 0, hNone, []), some (.imul, 1, 0, 0, 0, hNone, []), some (.isub, 1, 0, 0, 0, hNone, []), some (.istore 4, 2, 0, 0, 0, hNone, []), none, some (.iconst 0, 1, 0, 0, 0, hNone, []), some (.istore 5, 2, 0, 0, 0, hNone, []), none, some (.iload 5, 2, 0, 0, 0, hNone, []), none, some (.bipush 8, 2, 0, 0, 8, hNone, []), none, some (.if_icmp .ge 63, 3, 155, 0, 0, hNone, []), none, none, some (.aload_n 0, 1, 0, 0, 0, hNone, []), some (.iload 5, 2, 0, 0, 0, hNone, []), none, some (.invokevirtual 122, 3, 8, 1, 0, hX8_isUp, [843, 65, 845, 50]), none, none, some (.ifCond .eq 48, 3, 149, 0, 0, hNone, []), none, none, some (.aload_n 0, 1, 0, 0, 0, hNone, []), some (.getfield 83, 3, 8, 28, 0, hNone, [706]), none, none, some (.iload 5, 2, 0, 0, 0, hNone, []), none, some (.baload, 1, 0, 0, 0, hNone, []), some (.ifCond .eq 6, 3, 117, 0, 0, hNone, []), none, none, some (.goto 35, 3, 149, 0, 0, hNone, []), none, none, some (.aload_n 0, 1, 0, 0, 0, hNone, []), some (.getfield 80, 3, 8, 27, 0, hNone, [705]), none, none, some (.iload 5, 2, 0, 0, 0, hNone, []), none, some (.dup2, 1, 0, 0, 0, hNone, []), some (.iaload, 1, 0, 0, 0, hNone, []), some (.iload_n 2, 1, 0, 0, 0, hNone, []), some (.iload_n 3, 1, 0, 0, 0, hNone, []), some (.idiv, 1, 0, 0, 0, hNone, []), some (.iadd, 1, 0, 0, 0, hNone, []), some (.iastore, 1, 0, 0, 0, hNone, []), some (.iload 4, 2, 0, 0, 0, hNone, []), none, some (.ifCond .ge 17, 3, 149, 0, 0, hNone, []), none, none, some (.aload_n 0, 1, 0, 0, 0, hNone, []), some (.getfield 80, 3, 8, 27, 0, hNone, [705]), none, none, some (.iload 5, 2, 0, 0, 0, hNone, []), none, some (.dup2, 1, 0, 0, 0, hNone, []), some (.iaload, 1, 0, 0, 0, hNone, []), some (.iconst 1, 1, 0, 0, 1, hNone, []), some (.isub, 1, 0, 0, 0, hNone, []), some (.iastore, 1, 0, 0, 0, hNone, []), some (.iinc 4 1, 3, 0, 0, 1, hNone, []), none, none, some (.iinc 5 1, 3, 0, 0, 1, hNone, []), none, none, some (.goto (-64), 3, 88, 0, 0, hNone, []), none, none, some (.return_, 1, 0, 0, 0, hNone, [])]
set_option maxRecDepth 100000 in
theorem oX8_slackens : tbOk hX8_slackens tX8_slackens := tbOk_of (by decide +kernel)
theorem iX8_slackens : Cond.code hX8_slackens.1 hX8_slackens.2.1 hX8_slackens.2.2.1 hX8_slackens.2.2.2 ∈ lw_tbl := List.mem_of_getElem? (i := 850) (by decide +kernel)
def tX8_isWind : List (Option En) := [some (.iload_n 0, 1, 0, 0, 0, hNone, []), some (.bipush (-100), 2, 0, 0, (-100), hNone, []), none, some (.bipush 100, 2, 0, 0, 100, hNone, []), none, some (.invokestatic 86, 3, 0, 3, 0, hX8_in, [773, 65, 774]), none, none, some (.ireturn, 1, 0, 0, 0, hNone, [])]
set_option maxRecDepth 100000 in
theorem oX8_isWind : tbOk hX8_isWind tX8_isWind := tbOk_of (by decide +kernel)
theorem iX8_isWind : Cond.code hX8_isWind.1 hX8_isWind.2.1 hX8_isWind.2.2.1 hX8_isWind.2.2.2 ∈ lw_tbl := List.mem_of_getElem? (i := 838) (by decide +kernel)
def tX8_part : List (Option En) := [some (.iload_n 1, 1, 0, 0, 0, hNone, []), some (.iconst 0, 1, 0, 0, 0, hNone, []), some (.bipush 7, 2, 0, 0, 7, hNone, []), none, some (.invokestatic 86, 3, 0, 3, 0, hX8_in, [773, 65, 774]), none, none, some (.ifCond .eq 10, 3, 17, 0, 0, hNone, []), none, none, some (.iload_n 2, 1, 0, 0, 0, hNone, []), some (.invokestatic 130, 3, 0, 1, 0, hX8_isWind, [836, 65, 837]), none, none, some (.ifCond .ne 5, 3, 19, 0, 0, hNone, []), none, none, some (.iconst (-1), 1, 0, 0, (-1), hNone, []), some (.ireturn, 1, 0, 0, 0, hNone, []), some (.aload_n 0, 1, 0, 0, 0, hNone, []), some (.iload_n 2, 1, 0, 0, 0, hNone, []), some (.invokevirtual 133, 3, 8, 1, 0, hX8_hangs, [839, 65, 841, 49]), none, none, some (.aload_n 0, 1, 0, 0, 0, hNone, []), some (.iload_n 1, 1, 0, 0, 0, hNone, []), some (.invokevirtual 122, 3, 8, 1, 0, hX8_isUp, [843, 65, 845, 50]), none, none, some (.ifCond .eq 12, 3, 41, 0, 0, hNone, []), none, none, some (.aload_n 0, 1, 0, 0, 0, hNone, []), some (.getfield 80, 3, 8, 27, 0, hNone, [705]), none, none, some (.iload_n 1, 1, 0, 0, 0, hNone, []), some (.iaload, 1, 0, 0, 0, hNone, []), some (.goto 4, 3, 42, 0, 0, hNone, []), none, none, some (.iconst 0, 1, 0, 0, 0, hNone, []), some (.ireturn, 1, 0, 0, 0, hNone, [])]
set_option maxRecDepth 100000 in
theorem oX8_part : tbOk hX8_part tX8_part := tbOk_of (by decide +kernel)
theorem iX8_part : Cond.code hX8_part.1 hX8_part.2.1 hX8_part.2.2.1 hX8_part.2.2.2 ∈ lw_tbl := List.mem_of_getElem? (i := 835) (by decide +kernel)
def tX8_slack : List (Option En) := [some (.iload_n 1, 1, 0, 0, 0, hNone, []), some (.iconst 0, 1, 0, 0, 0, hNone, []), some (.bipush 7, 2, 0, 0, 7, hNone, []), none, some (.invokestatic 86, 3, 0, 3, 0, hX8_in, [773, 65, 774]), none, none, some (.ifCond .eq 10, 3, 17, 0, 0, hNone, []), none, none, some (.iload_n 2, 1, 0, 0, 0, hNone, []), some (.invokestatic 130, 3, 0, 1, 0, hX8_isWind, [836, 65, 837]), none, none, some (.ifCond .ne 5, 3, 19, 0, 0, hNone, []), none, none, some (.iconst 0, 1, 0, 0, 0, hNone, []), some (.ireturn, 1, 0, 0, 0, hNone, []), some (.aload_n 0, 1, 0, 0, 0, hNone, []), some (.iload_n 2, 1, 0, 0, 0, hNone, []), some (.invokevirtual 133, 3, 8, 1, 0, hX8_hangs, [839, 65, 841, 49]), none, none, some (.aload_n 0, 1, 0, 0, 0, hNone, []), some (.getfield 83, 3, 8, 28, 0, hNone, [706]), none, none, some (.iload_n 1, 1, 0, 0, 0, hNone, []), some (.baload, 1, 0, 0, 0, hNone, []), some (.ireturn, 1, 0, 0, 0, hNone, [])]
set_option maxRecDepth 100000 in
theorem oX8_slack : tbOk hX8_slack tX8_slack := tbOk_of (by decide +kernel)
theorem iX8_slack : Cond.code hX8_slack.1 hX8_slack.2.1 hX8_slack.2.2.1 hX8_slack.2.2.2 ∈ lw_tbl := List.mem_of_getElem? (i := 854) (by decide +kernel)
def tX8_gone : List (Option En) := [some (.iload_n 1, 1, 0, 0, 0, hNone, []), some (.invokestatic 130, 3, 0, 1, 0, hX8_isWind, [836, 65, 837]), none, none, some (.ifCond .ne 5, 3, 9, 0, 0, hNone, []), none, none, some (.iconst 0, 1, 0, 0, 0, hNone, []), some (.ireturn, 1, 0, 0, 0, hNone, []), some (.aload_n 0, 1, 0, 0, 0, hNone, []), some (.iload_n 1, 1, 0, 0, 0, hNone, []), some (.invokevirtual 133, 3, 8, 1, 0, hX8_hangs, [839, 65, 841, 49]), none, none, some (.aload_n 0, 1, 0, 0, 0, hNone, []), some (.getfield 119, 3, 8, 29, 0, hNone, [707]), none, none, some (.ireturn, 1, 0, 0, 0, hNone, [])]
set_option maxRecDepth 100000 in
theorem oX8_gone : tbOk hX8_gone tX8_gone := tbOk_of (by decide +kernel)
theorem iX8_gone : Cond.code hX8_gone.1 hX8_gone.2.1 hX8_gone.2.2.1 hX8_gone.2.2.2 ∈ lw_tbl := List.mem_of_getElem? (i := 858) (by decide +kernel)
def tX8_isTown : List (Option En) := [some (.iload_n 1, 1, 0, 0, 0, hNone, []), some (.iconst 0, 1, 0, 0, 0, hNone, []), some (.aload_n 0, 1, 0, 0, 0, hNone, []), some (.getfield 136, 3, 8, 11, 0, hNone, [689]), none, none, some (.iconst 1, 1, 0, 0, 1, hNone, []), some (.isub, 1, 0, 0, 0, hNone, []), some (.invokestatic 86, 3, 0, 3, 0, hX8_in, [773, 65, 774]), none, none, some (.ireturn, 1, 0, 0, 0, hNone, [])]
set_option maxRecDepth 100000 in
theorem oX8_isTown : tbOk hX8_isTown tX8_isTown := tbOk_of (by decide +kernel)
theorem iX8_isTown : Cond.code hX8_isTown.1 hX8_isTown.2.1 hX8_isTown.2.2.1 hX8_isTown.2.2.2 ∈ lw_tbl := List.mem_of_getElem? (i := 870) (by decide +kernel)
def tX8_town : List (Option En) := [some (.iload_n 1, 1, 0, 0, 0, hNone, []), some (.iconst 0, 1, 0, 0, 0, hNone, []), some (.sipush 10000, 3, 0, 0, 10000, hNone, []), none, none, some (.invokestatic 86, 3, 0, 3, 0, hX8_in, [773, 65, 774]), none, none, some (.ifCond .eq 32, 3, 40, 0, 0, hNone, []), none, none, some (.iload_n 2, 1, 0, 0, 0, hNone, []), some (.iconst 0, 1, 0, 0, 0, hNone, []), some (.bipush 29, 2, 0, 0, 29, hNone, []), none, some (.invokestatic 86, 3, 0, 3, 0, hX8_in, [773, 65, 774]), none, none, some (.ifCond .eq 22, 3, 40, 0, 0, hNone, []), none, none, some (.iload_n 3, 1, 0, 0, 0, hNone, []), some (.iload_n 2, 1, 0, 0, 0, hNone, []), some (.bipush 29, 2, 0, 0, 29, hNone, []), none, some (.invokestatic 86, 3, 0, 3, 0, hX8_in, [773, 65, 774]), none, none, some (.ifCond .eq 12, 3, 40, 0, 0, hNone, []), none, none, some (.aload_n 0, 1, 0, 0, 0, hNone, []), some (.getfield 136, 3, 8, 11, 0, hNone, [689]), none, none, some (.bipush 8, 2, 0, 0, 8, hNone, []), none, some (.if_icmp .ne 5, 3, 42, 0, 0, hNone, []), none, none, some (.iconst (-1), 1, 0, 0, (-1), hNone, []), some (.ireturn, 1, 0, 0, 0, hNone, []), some (.aload_n 0, 1, 0, 0, 0, hNone, []), some (.getfield 41, 3, 8, 12, 0, hNone, [690]), none, none, some (.aload_n 0, 1, 0, 0, 0, hNone, []), some (.getfield 136, 3, 8, 11, 0, hNone, [689]), none, none, some (.iload_n 1, 1, 0, 0, 0, hNone, []), some (.iastore, 1, 0, 0, 0, hNone, []), some (.aload_n 0, 1, 0, 0, 0, hNone, []), some (.getfield 44, 3, 8, 13, 0, hNone, [691]), none, none, some (.aload_n 0, 1, 0, 0, 0, hNone, []), some (.getfield 136, 3, 8, 11, 0, hNone, [689]), none, none, some (.iload_n 2, 1, 0, 0, 0, hNone, []), some (.iastore, 1, 0, 0, 0, hNone, []), some (.aload_n 0, 1, 0, 0, 0, hNone, []), some (.getfield 47, 3, 8, 14, 0, hNone, [692]), none, none, some (.aload_n 0, 1, 0, 0, 0, hNone, []), some (.getfield 136, 3, 8, 11, 0, hNone, [689]), none, none, some (.iload_n 3, 1, 0, 0, 0, hNone, []), some (.iastore, 1, 0, 0, 0, hNone, []), some (.aload_n 0, 1, 0, 0, 0, hNone, []), some (.dup, 1, 0, 0, 0, hNone, []), some (.getfield 136, 3, 8, 11, 0, hNone, [689]), none, none, some (.iconst 1, 1, 0, 0, 1, hNone, []), some (.iadd, 1, 0, 0, 0, hNone, []), some (.putfield 136, 3, 8, 11, 0, hNone, [689]), none, none, some (.aload_n 0, 1, 0, 0, 0, hNone, []), some (.getfield 136, 3, 8, 11, 0, hNone, [689]), none, none, some (.iconst 1, 1, 0, 0, 1, hNone, []), some (.isub, 1, 0, 0, 0, hNone, []), some (.ireturn, 1, 0, 0, 0, hNone, [])]
set_option maxRecDepth 100000 in
theorem oX8_town : tbOk hX8_town tX8_town := tbOk_of (by decide +kernel)
theorem iX8_town : Cond.code hX8_town.1 hX8_town.2.1 hX8_town.2.2.1 hX8_town.2.2.2 ∈ lw_tbl := List.mem_of_getElem? (i := 862) (by decide +kernel)
def tX8_way : List (Option En) := [some (.aload_n 0, 1, 0, 0, 0, hNone, []), some (.iload_n 1, 1, 0, 0, 0, hNone, []), some (.invokevirtual 139, 3, 8, 1, 0, hX8_isTown, [867, 65, 869, 52]), none, none, some (.ifCond .eq 26, 3, 31, 0, 0, hNone, []), none, none, some (.aload_n 0, 1, 0, 0, 0, hNone, []), some (.iload_n 2, 1, 0, 0, 0, hNone, []), some (.invokevirtual 139, 3, 8, 1, 0, hX8_isTown, [867, 65, 869, 52]), none, none, some (.ifCond .eq 18, 3, 31, 0, 0, hNone, []), none, none, some (.iload_n 1, 1, 0, 0, 0, hNone, []), some (.iload_n 2, 1, 0, 0, 0, hNone, []), some (.if_icmp .eq 13, 3, 31, 0, 0, hNone, []), none, none, some (.iload_n 3, 1, 0, 0, 0, hNone, []), some (.iconst 1, 1, 0, 0, 1, hNone, []), some (.bipush 99, 2, 0, 0, 99, hNone, []), none, some (.invokestatic 86, 3, 0, 3, 0, hX8_in, [773, 65, 774]), none, none, some (.ifCond .ne 5, 3, 33, 0, 0, hNone, []), none, none, some (.iconst 0, 1, 0, 0, 0, hNone, []), some (.ireturn, 1, 0, 0, 0, hNone, []), some (.aload_n 0, 1, 0, 0, 0, hNone, []), some (.getfield 50, 3, 8, 15, 0, hNone, [693]), none, none, some (.bipush 8, 2, 0, 0, 8, hNone, []), none, some (.iload_n 1, 1, 0, 0, 0, hNone, []), some (.imul, 1, 0, 0, 0, hNone, []), some (.iload_n 2, 1, 0, 0, 0, hNone, []), some (.iadd, 1, 0, 0, 0, hNone, []), some (.iload_n 3, 1, 0, 0, 0, hNone, []), some (.iastore, 1, 0, 0, 0, hNone, []), some (.aload_n 0, 1, 0, 0, 0, hNone, []), some (.getfield 50, 3, 8, 15, 0, hNone, [693]), none, none, some (.bipush 8, 2, 0, 0, 8, hNone, []), none, some (.iload_n 2, 1, 0, 0, 0, hNone, []), some (.imul, 1, 0, 0, 0, hNone, []), some (.iload_n 1, 1, 0, 0, 0, hNone, []), some (.iadd, 1, 0, 0, 0, hNone, []), some (.iload_n 3, 1, 0, 0, 0, hNone, []), some (.iastore, 1, 0, 0, 0, hNone, []), some (.iconst 1, 1, 0, 0, 1, hNone, []), some (.ireturn, 1, 0, 0, 0, hNone, [])]
set_option maxRecDepth 100000 in
theorem oX8_way : tbOk hX8_way tX8_way := tbOk_of (by decide +kernel)
theorem iX8_way : Cond.code hX8_way.1 hX8_way.2.1 hX8_way.2.2.1 hX8_way.2.2.2 ∈ lw_tbl := List.mem_of_getElem? (i := 866) (by decide +kernel)
def tX8_reckons : List (Option En) := [some (.iconst 0, 1, 0, 0, 0, hNone, []), some (.istore_n 1, 1, 0, 0, 0, hNone, []), some (.iload_n 1, 1, 0, 0, 0, hNone, []), some (.bipush 8, 2, 0, 0, 8, hNone, []), none, some (.if_icmp .ge 73, 3, 78, 0, 0, hNone, []), none, none, some (.iconst 0, 1, 0, 0, 0, hNone, []), some (.istore_n 2, 1, 0, 0, 0, hNone, []), some (.iload_n 2, 1, 0, 0, 0, hNone, []), some (.bipush 8, 2, 0, 0, 8, hNone, []), none, some (.if_icmp .ge 59, 3, 72, 0, 0, hNone, []), none, none, some (.aload_n 0, 1, 0, 0, 0, hNone, []), some (.getfield 53, 3, 8, 16, 0, hNone, [694]), none, none, some (.bipush 8, 2, 0, 0, 8, hNone, []), none, some (.iload_n 1, 1, 0, 0, 0, hNone, []), some (.imul, 1, 0, 0, 0, hNone, []), some (.iload_n 2, 1, 0, 0, 0, hNone, []), some (.iadd, 1, 0, 0, 0, hNone, []), some (.iload_n 1, 1, 0, 0, 0, hNone, []), some (.iload_n 2, 1, 0, 0, 0, hNone, []), some (.if_icmp .ne 7, 3, 35, 0, 0, hNone, []), none, none, some (.iconst 0, 1, 0, 0, 0, hNone, []), some (.goto 33, 3, 65, 0, 0, hNone, []), none, none, some (.aload_n 0, 1, 0, 0, 0, hNone, []), some (.getfield 50, 3, 8, 15, 0, hNone, [693]), none, none, some (.bipush 8, 2, 0, 0, 8, hNone, []), none, some (.iload_n 1, 1, 0, 0, 0, hNone, []), some (.imul, 1, 0, 0, 0, hNone, []), some (.iload_n 2, 1, 0, 0, 0, hNone, []), some (.iadd, 1, 0, 0, 0, hNone, []), some (.iaload, 1, 0, 0, 0, hNone, []), some (.ifCond .le 17, 3, 63, 0, 0, hNone, []), none, none, some (.aload_n 0, 1, 0, 0, 0, hNone, []), some (.getfield 50, 3, 8, 15, 0, hNone, [693]), none, none, some (.bipush 8, 2, 0, 0, 8, hNone, []), none, some (.iload_n 1, 1, 0, 0, 0, hNone, []), some (.imul, 1, 0, 0, 0, hNone, []), some (.iload_n 2, 1, 0, 0, 0, hNone, []), some (.iadd, 1, 0, 0, 0, hNone, []), some (.iaload, 1, 0, 0, 0, hNone, []), some (.goto 5, 3, 65, 0, 0, hNone, []), none, none, some (.ldc 142, 2, 0, 0, 1000000, hNone, [879]), none, some (.iastore, 1, 0, 0, 0, hNone, []), some (.iinc 2 1, 3, 0, 0, 1, hNone, []), none, none, some (.goto (-59), 3, 10, 0, 0, hNone, []), none, none, some (.iinc 1 1, 3, 0, 0, 1, hNone, []), none, none, some (.goto (-73), 3, 2, 0, 0, hNone, []), none, none, some (.iconst 0, 1, 0, 0, 0, hNone, []), some (.istore_n 1, 1, 0, 0, 0, hNone, []), some (.iload_n 1, 1, 0, 0, 0, hNone, []), some (.bipush 8, 2, 0, 0, 8, hNone, []), none, some (.if_icmp .ge 91, 3, 174, 0, 0, hNone, []), none, none, some (.iconst 0, 1, 0, 0, 0, hNone, []), some (.istore_n 2, 1, 0, 0, 0, hNone, []), some (.iload_n 2, 1, 0, 0, 0, hNone, []), some (.bipush 8, 2, 0, 0, 8, hNone, []), none, some (.if_icmp .ge 77, 3, 168, 0, 0, hNone, []), none, none, some (.iconst 0, 1, 0, 0, 0, hNone, []), some (.istore_n 3, 1, 0, 0, 0, hNone, []), some (.iload_n 3, 1, 0, 0, 0, hNone, []), some (.bipush 8, 2, 0, 0, 8, hNone, []), none, some (.if_icmp .ge 63, 3, 162, 0, 0, hNone, []), none, none, some (.aload_n 0, 1, 0, 0, 0, hNone, []), some (.getfield 53, 3, 8, 16, 0, hNone, [694]), none, none, some (.bipush 8, 2, 0, 0, 8, hNone, []), none, some (.iload_n 2, 1, 0, 0, 0, hNone, []), some (.imul, 1, 0, 0, 0, hNone, []), some (.iload_n 1, 1, 0, 0, 0, hNone, []), some (.iadd, 1, 0, 0, 0, hNone, []), some (.iaload, 1, 0, 0, 0, hNone, []), some (.aload_n 0, 1, 0, 0, 0, hNone, []), some (.getfield 53, 3, 8, 16, 0, hNone, [694]), none, none, some (.bipush 8, 2, 0, 0, 8, hNone, []), none, some (.iload_n 1, 1, 0, 0, 0, hNone, []), some (.imul, 1, 0, 0, 0, hNone, []), some (.iload_n 3, 1, 0, 0, 0, hNone, []), some (.iadd, 1, 0, 0, 0, hNone, []), some (.iaload, 1, 0, 0, 0, hNone, []), some (.iadd, 1, 0, 0, 0, hNone, []), some (.istore 4, 2, 0, 0, 0, hNone, []), none, some (.iload 4, 2, 0, 0, 0, hNone, []), none, some (.aload_n 0, 1, 0, 0, 0, hNone, []), some (.getfield 53, 3, 8, 16, 0, hNone, [694]), none, none, some (.bipush 8, 2, 0, 0, 8, hNone, []), none, some (.iload_n 2, 1, 0, 0, 0, hNone, []), some (.imul, 1, 0, 0, 0, hNone, []), some (.iload_n 3, 1, 0, 0, 0, hNone, []), some (.iadd, 1, 0, 0, 0, hNone, []), some (.iaload, 1, 0, 0, 0, hNone, []), some (.if_icmp .ge 16, 3, 156, 0, 0, hNone, []), none, none, some (.aload_n 0, 1, 0, 0, 0, hNone, []), some (.getfield 53, 3, 8, 16, 0, hNone, [694]), none, none, some (.bipush 8, 2, 0, 0, 8, hNone, []), none, some (.iload_n 2, 1, 0, 0, 0, hNone, []), some (.imul, 1, 0, 0, 0, hNone, []), some (.iload_n 3, 1, 0, 0, 0, hNone, []), some (.iadd, 1, 0, 0, 0, hNone, []), some (.iload 4, 2, 0, 0, 0, hNone, []), none, some (.iastore, 1, 0, 0, 0, hNone, []), some (.iinc 3 1, 3, 0, 0, 1, hNone, []), none, none, some (.goto (-63), 3, 96, 0, 0, hNone, []), none, none, some (.iinc 2 1, 3, 0, 0, 1, hNone, []), none, none, some (.goto (-77), 3, 88, 0, 0, hNone, []), none, none, some (.iinc 1 1, 3, 0, 0, 1, hNone, []), none, none, some (.goto (-91), 3, 80, 0, 0, hNone, []), none, none, some (.return_, 1, 0, 0, 0, hNone, [])]
set_option maxRecDepth 100000 in
theorem oX8_reckons : tbOk hX8_reckons tX8_reckons := tbOk_of (by decide +kernel)
theorem iX8_reckons : Cond.code hX8_reckons.1 hX8_reckons.2.1 hX8_reckons.2.2.1 hX8_reckons.2.2.2 ∈ lw_tbl := List.mem_of_getElem? (i := 878) (by decide +kernel)
def tX8_hours : List (Option En) := [some (.aload_n 0, 1, 0, 0, 0, hNone, []), some (.iload_n 1, 1, 0, 0, 0, hNone, []), some (.invokevirtual 139, 3, 8, 1, 0, hX8_isTown, [867, 65, 869, 52]), none, none, some (.ifCond .eq 11, 3, 16, 0, 0, hNone, []), none, none, some (.aload_n 0, 1, 0, 0, 0, hNone, []), some (.iload_n 2, 1, 0, 0, 0, hNone, []), some (.invokevirtual 139, 3, 8, 1, 0, hX8_isTown, [867, 65, 869, 52]), none, none, some (.ifCond .ne 5, 3, 18, 0, 0, hNone, []), none, none, some (.iconst (-1), 1, 0, 0, (-1), hNone, []), some (.ireturn, 1, 0, 0, 0, hNone, []), some (.aload_n 0, 1, 0, 0, 0, hNone, []), some (.invokevirtual 143, 3, 8, 0, 0, hX8_reckons, [875, 65, 877, 53]), none, none, some (.aload_n 0, 1, 0, 0, 0, hNone, []), some (.getfield 53, 3, 8, 16, 0, hNone, [694]), none, none, some (.bipush 8, 2, 0, 0, 8, hNone, []), none, some (.iload_n 1, 1, 0, 0, 0, hNone, []), some (.imul, 1, 0, 0, 0, hNone, []), some (.iload_n 2, 1, 0, 0, 0, hNone, []), some (.iadd, 1, 0, 0, 0, hNone, []), some (.iaload, 1, 0, 0, 0, hNone, []), some (.ldc 142, 2, 0, 0, 1000000, hNone, [879]), none, some (.if_icmp .lt 7, 3, 42, 0, 0, hNone, []), none, none, some (.iconst (-1), 1, 0, 0, (-1), hNone, []), some (.goto 14, 3, 53, 0, 0, hNone, []), none, none, some (.aload_n 0, 1, 0, 0, 0, hNone, []), some (.getfield 53, 3, 8, 16, 0, hNone, [694]), none, none, some (.bipush 8, 2, 0, 0, 8, hNone, []), none, some (.iload_n 1, 1, 0, 0, 0, hNone, []), some (.imul, 1, 0, 0, 0, hNone, []), some (.iload_n 2, 1, 0, 0, 0, hNone, []), some (.iadd, 1, 0, 0, 0, hNone, []), some (.iaload, 1, 0, 0, 0, hNone, []), some (.ireturn, 1, 0, 0, 0, hNone, [])]
set_option maxRecDepth 100000 in
theorem oX8_hours : tbOk hX8_hours tX8_hours := tbOk_of (by decide +kernel)
theorem iX8_hours : Cond.code hX8_hours.1 hX8_hours.2.1 hX8_hours.2.2.1 hX8_hours.2.2.2 ∈ lw_tbl := List.mem_of_getElem? (i := 874) (by decide +kernel)
def tX8_nightOf : List (Option En) := [some (.iload_n 2, 1, 0, 0, 0, hNone, []), some (.ifCond .ne 10, 3, 11, 0, 0, hNone, []), none, none, some (.aload_n 0, 1, 0, 0, 0, hNone, []), some (.getfield 44, 3, 8, 13, 0, hNone, [691]), none, none, some (.iload_n 1, 1, 0, 0, 0, hNone, []), some (.iaload, 1, 0, 0, 0, hNone, []), some (.ireturn, 1, 0, 0, 0, hNone, []), some (.aload_n 0, 1, 0, 0, 0, hNone, []), some (.getfield 53, 3, 8, 16, 0, hNone, [694]), none, none, some (.bipush 8, 2, 0, 0, 8, hNone, []), none, some (.aload_n 0, 1, 0, 0, 0, hNone, []), some (.getfield 65, 3, 8, 21, 0, hNone, [699]), none, none, some (.iload_n 2, 1, 0, 0, 0, hNone, []), some (.iconst 1, 1, 0, 0, 1, hNone, []), some (.isub, 1, 0, 0, 0, hNone, []), some (.iaload, 1, 0, 0, 0, hNone, []), some (.imul, 1, 0, 0, 0, hNone, []), some (.iload_n 1, 1, 0, 0, 0, hNone, []), some (.iadd, 1, 0, 0, 0, hNone, []), some (.iaload, 1, 0, 0, 0, hNone, []), some (.istore_n 3, 1, 0, 0, 0, hNone, []), some (.aload_n 0, 1, 0, 0, 0, hNone, []), some (.getfield 77, 3, 8, 25, 0, hNone, [703]), none, none, some (.iload_n 2, 1, 0, 0, 0, hNone, []), some (.iconst 1, 1, 0, 0, 1, hNone, []), some (.isub, 1, 0, 0, 0, hNone, []), some (.iaload, 1, 0, 0, 0, hNone, []), some (.iload_n 3, 1, 0, 0, 0, hNone, []), some (.bipush 9, 2, 0, 0, 9, hNone, []), none, some (.iadd, 1, 0, 0, 0, hNone, []), some (.bipush 10, 2, 0, 0, 10, hNone, []), none, some (.idiv, 1, 0, 0, 0, hNone, []), some (.iadd, 1, 0, 0, 0, hNone, []), some (.istore 4, 2, 0, 0, 0, hNone, []), none, some (.iload 4, 2, 0, 0, 0, hNone, []), none, some (.aload_n 0, 1, 0, 0, 0, hNone, []), some (.getfield 44, 3, 8, 13, 0, hNone, [691]), none, none, some (.iload_n 1, 1, 0, 0, 0, hNone, []), some (.iaload, 1, 0, 0, 0, hNone, []), some (.if_icmp .ge 11, 3, 67, 0, 0, hNone, []), none, none, some (.aload_n 0, 1, 0, 0, 0, hNone, []), some (.getfield 44, 3, 8, 13, 0, hNone, [691]), none, none, some (.iload_n 1, 1, 0, 0, 0, hNone, []), some (.iaload, 1, 0, 0, 0, hNone, []), some (.istore 4, 2, 0, 0, 0, hNone, []), none, some (.iload_n 3, 1, 0, 0, 0, hNone, []), some (.ldc 142, 2, 0, 0, 1000000, hNone, [879]), none, some (.if_icmp .ge 19, 3, 89, 0, 0, hNone, []), none, none, some (.iload 4, 2, 0, 0, 0, hNone, []), none, some (.aload_n 0, 1, 0, 0, 0, hNone, []), some (.getfield 47, 3, 8, 14, 0, hNone, [692]), none, none, some (.iload_n 1, 1, 0, 0, 0, hNone, []), some (.iaload, 1, 0, 0, 0, hNone, []), some (.if_icmp .gt 8, 3, 89, 0, 0, hNone, []), none, none, some (.iload 4, 2, 0, 0, 0, hNone, []), none, some (.goto 4, 3, 90, 0, 0, hNone, []), none, none, some (.iconst (-1), 1, 0, 0, (-1), hNone, []), some (.ireturn, 1, 0, 0, 0, hNone, [])]
set_option maxRecDepth 100000 in
theorem oX8_nightOf : tbOk hX8_nightOf tX8_nightOf := tbOk_of (by decide +kernel)
theorem iX8_nightOf : Cond.code hX8_nightOf.1 hX8_nightOf.2.1 hX8_nightOf.2.2.1 hX8_nightOf.2.2.2 ∈ lw_tbl := List.mem_of_getElem? (i := 891) (by decide +kernel)
def tX8_goes : List (Option En) := [some (.aload_n 0, 1, 0, 0, 0, hNone, []), some (.invokevirtual 143, 3, 8, 0, 0, hX8_reckons, [875, 65, 877, 53]), none, none, some (.iconst 0, 1, 0, 0, 0, hNone, []), some (.istore_n 1, 1, 0, 0, 0, hNone, []), some (.iconst 0, 1, 0, 0, 0, hNone, []), some (.istore_n 2, 1, 0, 0, 0, hNone, []), some (.iconst 0, 1, 0, 0, 0, hNone, []), some (.istore_n 3, 1, 0, 0, 0, hNone, []), some (.iconst 0, 1, 0, 0, 0, hNone, []), some (.istore 4, 2, 0, 0, 0, hNone, []), none, some (.iconst 0, 1, 0, 0, 0, hNone, []), some (.istore 5, 2, 0, 0, 0, hNone, []), none, some (.aload_n 0, 1, 0, 0, 0, hNone, []), some (.getfield 68, 3, 8, 22, 0, hNone, [700]), none, none, some (.iconst 0, 1, 0, 0, 0, hNone, []), some (.iconst 0, 1, 0, 0, 0, hNone, []), some (.iastore, 1, 0, 0, 0, hNone, []), some (.iload 4, 2, 0, 0, 0, hNone, []), none, some (.ifCond .lt 229, 3, 254, 0, 0, hNone, []), none, none, some (.aload_n 0, 1, 0, 0, 0, hNone, []), some (.getfield 68, 3, 8, 22, 0, hNone, [700]), none, none, some (.iload 4, 2, 0, 0, 0, hNone, []), none, some (.iaload, 1, 0, 0, 0, hNone, []), some (.istore 6, 2, 0, 0, 0, hNone, []), none, some (.iload 6, 2, 0, 0, 0, hNone, []), none, some (.aload_n 0, 1, 0, 0, 0, hNone, []), some (.getfield 136, 3, 8, 11, 0, hNone, [689]), none, none, some (.if_icmp .lt 48, 3, 91, 0, 0, hNone, []), none, none, some (.iinc 4 (-1), 3, 0, 0, (-1), hNone, []), none, none, some (.iload 4, 2, 0, 0, 0, hNone, []), none, some (.ifCond .ge 6, 3, 57, 0, 0, hNone, []), none, none, some (.goto (-31), 3, 23, 0, 0, hNone, []), none, none, some (.iload 5, 2, 0, 0, 0, hNone, []), none, some (.iconst 1, 1, 0, 0, 1, hNone, []), some (.aload_n 0, 1, 0, 0, 0, hNone, []), some (.getfield 65, 3, 8, 21, 0, hNone, [699]), none, none, some (.iload 4, 2, 0, 0, 0, hNone, []), none, some (.iaload, 1, 0, 0, 0, hNone, []), some (.ishl, 1, 0, 0, 0, hNone, []), some (.iconst (-1), 1, 0, 0, (-1), hNone, []), some (.ixor, 1, 0, 0, 0, hNone, []), some (.iand, 1, 0, 0, 0, hNone, []), some (.istore 5, 2, 0, 0, 0, hNone, []), none, some (.iload_n 3, 1, 0, 0, 0, hNone, []), some (.aload_n 0, 1, 0, 0, 0, hNone, []), some (.getfield 41, 3, 8, 12, 0, hNone, [690]), none, none, some (.aload_n 0, 1, 0, 0, 0, hNone, []), some (.getfield 65, 3, 8, 21, 0, hNone, [699]), none, none, some (.iload 4, 2, 0, 0, 0, hNone, []), none, some (.iaload, 1, 0, 0, 0, hNone, []), some (.iaload, 1, 0, 0, 0, hNone, []), some (.isub, 1, 0, 0, 0, hNone, []), some (.istore_n 3, 1, 0, 0, 0, hNone, []), some (.goto (-65), 3, 23, 0, 0, hNone, []), none, none, some (.aload_n 0, 1, 0, 0, 0, hNone, []), some (.getfield 68, 3, 8, 22, 0, hNone, [700]), none, none, some (.iload 4, 2, 0, 0, 0, hNone, []), none, some (.dup2, 1, 0, 0, 0, hNone, []), some (.iaload, 1, 0, 0, 0, hNone, []), some (.iconst 1, 1, 0, 0, 1, hNone, []), some (.iadd, 1, 0, 0, 0, hNone, []), some (.iastore, 1, 0, 0, 0, hNone, []), some (.iload 5, 2, 0, 0, 0, hNone, []), none, some (.iload 6, 2, 0, 0, 0, hNone, []), none, some (.ishr, 1, 0, 0, 0, hNone, []), some (.iconst 1, 1, 0, 0, 1, hNone, []), some (.iand, 1, 0, 0, 0, hNone, []), some (.iconst 1, 1, 0, 0, 1, hNone, []), some (.if_icmp .eq (-87), 3, 23, 0, 0, hNone, []), none, none, some (.aload_n 0, 1, 0, 0, 0, hNone, []), some (.iload 6, 2, 0, 0, 0, hNone, []), none, some (.iload 4, 2, 0, 0, 0, hNone, []), none, some (.invokevirtual 146, 3, 8, 2, 0, hX8_nightOf, [888, 65, 890, 55]), none, none, some (.iconst (-1), 1, 0, 0, (-1), hNone, []), some (.if_icmp .ne 6, 3, 128, 0, 0, hNone, []), none, none, some (.goto (-102), 3, 23, 0, 0, hNone, []), none, none, some (.aload_n 0, 1, 0, 0, 0, hNone, []), some (.getfield 77, 3, 8, 25, 0, hNone, [703]), none, none, some (.iload 4, 2, 0, 0, 0, hNone, []), none, some (.aload_n 0, 1, 0, 0, 0, hNone, []), some (.iload 6, 2, 0, 0, 0, hNone, []), none, some (.iload 4, 2, 0, 0, 0, hNone, []), none, some (.invokevirtual 146, 3, 8, 2, 0, hX8_nightOf, [888, 65, 890, 55]), none, none, some (.iastore, 1, 0, 0, 0, hNone, []), some (.aload_n 0, 1, 0, 0, 0, hNone, []), some (.getfield 65, 3, 8, 21, 0, hNone, [699]), none, none, some (.iload 4, 2, 0, 0, 0, hNone, []), none, some (.iload 6, 2, 0, 0, 0, hNone, []), none, some (.iastore, 1, 0, 0, 0, hNone, []), some (.iload 5, 2, 0, 0, 0, hNone, []), none, some (.iconst 1, 1, 0, 0, 1, hNone, []), some (.iload 6, 2, 0, 0, 0, hNone, []), none, some (.ishl, 1, 0, 0, 0, hNone, []), some (.ior, 1, 0, 0, 0, hNone, []), some (.istore 5, 2, 0, 0, 0, hNone, []), none, some (.iload_n 3, 1, 0, 0, 0, hNone, []), some (.aload_n 0, 1, 0, 0, 0, hNone, []), some (.getfield 41, 3, 8, 12, 0, hNone, [690]), none, none, some (.iload 6, 2, 0, 0, 0, hNone, []), none, some (.iaload, 1, 0, 0, 0, hNone, []), some (.iadd, 1, 0, 0, 0, hNone, []), some (.istore_n 3, 1, 0, 0, 0, hNone, []), some (.iinc 4 1, 3, 0, 0, 1, hNone, []), none, none, some (.aload_n 0, 1, 0, 0, 0, hNone, []), some (.getfield 68, 3, 8, 22, 0, hNone, [700]), none, none, some (.iload 4, 2, 0, 0, 0, hNone, []), none, some (.iconst 0, 1, 0, 0, 0, hNone, []), some (.iastore, 1, 0, 0, 0, hNone, []), some (.iload 4, 2, 0, 0, 0, hNone, []), none, some (.iload_n 1, 1, 0, 0, 0, hNone, []), some (.if_icmp .lt (-162), 3, 23, 0, 0, hNone, []), none, none, some (.iload 4, 2, 0, 0, 0, hNone, []), none, some (.iload_n 1, 1, 0, 0, 0, hNone, []), some (.if_icmp .ne 11, 3, 202, 0, 0, hNone, []), none, none, some (.iload_n 3, 1, 0, 0, 0, hNone, []), some (.iload_n 2, 1, 0, 0, 0, hNone, []), some (.if_icmp .gt 6, 3, 202, 0, 0, hNone, []), none, none, some (.goto (-176), 3, 23, 0, 0, hNone, []), none, none, some (.iload 4, 2, 0, 0, 0, hNone, []), none, some (.istore_n 1, 1, 0, 0, 0, hNone, []), some (.iload_n 3, 1, 0, 0, 0, hNone, []), some (.istore_n 2, 1, 0, 0, 0, hNone, []), some (.iconst 0, 1, 0, 0, 0, hNone, []), some (.istore 7, 2, 0, 0, 0, hNone, []), none, some (.iload 7, 2, 0, 0, 0, hNone, []), none, some (.iload 4, 2, 0, 0, 0, hNone, []), none, some (.if_icmp .ge 37, 3, 251, 0, 0, hNone, []), none, none, some (.aload_n 0, 1, 0, 0, 0, hNone, []), some (.getfield 71, 3, 8, 23, 0, hNone, [701]), none, none, some (.iload 7, 2, 0, 0, 0, hNone, []), none, some (.aload_n 0, 1, 0, 0, 0, hNone, []), some (.getfield 65, 3, 8, 21, 0, hNone, [699]), none, none, some (.iload 7, 2, 0, 0, 0, hNone, []), none, some (.iaload, 1, 0, 0, 0, hNone, []), some (.iastore, 1, 0, 0, 0, hNone, []), some (.aload_n 0, 1, 0, 0, 0, hNone, []), some (.getfield 74, 3, 8, 24, 0, hNone, [702]), none, none, some (.iload 7, 2, 0, 0, 0, hNone, []), none, some (.aload_n 0, 1, 0, 0, 0, hNone, []), some (.getfield 77, 3, 8, 25, 0, hNone, [703]), none, none, some (.iload 7, 2, 0, 0, 0, hNone, []), none, some (.iaload, 1, 0, 0, 0, hNone, []), some (.iastore, 1, 0, 0, 0, hNone, []), some (.iinc 7 1, 3, 0, 0, 1, hNone, []), none, none, some (.goto (-38), 3, 210, 0, 0, hNone, []), none, none, some (.goto (-228), 3, 23, 0, 0, hNone, []), none, none, some (.iload_n 1, 1, 0, 0, 0, hNone, []), some (.ireturn, 1, 0, 0, 0, hNone, [])]
set_option maxRecDepth 100000 in
theorem oX8_goes : tbOk hX8_goes tX8_goes := tbOk_of (by decide +kernel)
theorem iX8_goes : Cond.code hX8_goes.1 hX8_goes.2.1 hX8_goes.2.2.1 hX8_goes.2.2.2 ∈ lw_tbl := List.mem_of_getElem? (i := 887) (by decide +kernel)
def tX8_route : List (Option En) := [some (.aload_n 0, 1, 0, 0, 0, hNone, []), some (.invokevirtual 150, 3, 8, 0, 0, hX8_goes, [884, 65, 886, 54]), none, none, some (.ireturn, 1, 0, 0, 0, hNone, [])]
set_option maxRecDepth 100000 in
theorem oX8_route : tbOk hX8_route tX8_route := tbOk_of (by decide +kernel)
theorem iX8_route : Cond.code hX8_route.1 hX8_route.2.1 hX8_route.2.2.1 hX8_route.2.2.2 ∈ lw_tbl := List.mem_of_getElem? (i := 883) (by decide +kernel)
def tX8_routeAt : List (Option En) := [some (.iload_n 1, 1, 0, 0, 0, hNone, []), some (.iconst 0, 1, 0, 0, 0, hNone, []), some (.aload_n 0, 1, 0, 0, 0, hNone, []), some (.invokevirtual 150, 3, 8, 0, 0, hX8_goes, [884, 65, 886, 54]), none, none, some (.iconst 1, 1, 0, 0, 1, hNone, []), some (.isub, 1, 0, 0, 0, hNone, []), some (.invokestatic 86, 3, 0, 3, 0, hX8_in, [773, 65, 774]), none, none, some (.ifCond .eq 12, 3, 23, 0, 0, hNone, []), none, none, some (.iload_n 2, 1, 0, 0, 0, hNone, []), some (.iconst 0, 1, 0, 0, 0, hNone, []), some (.iconst 1, 1, 0, 0, 1, hNone, []), some (.invokestatic 86, 3, 0, 3, 0, hX8_in, [773, 65, 774]), none, none, some (.ifCond .ne 5, 3, 25, 0, 0, hNone, []), none, none, some (.iconst (-1), 1, 0, 0, (-1), hNone, []), some (.ireturn, 1, 0, 0, 0, hNone, []), some (.iload_n 2, 1, 0, 0, 0, hNone, []), some (.ifCond .ne 12, 3, 38, 0, 0, hNone, []), none, none, some (.aload_n 0, 1, 0, 0, 0, hNone, []), some (.getfield 71, 3, 8, 23, 0, hNone, [701]), none, none, some (.iload_n 1, 1, 0, 0, 0, hNone, []), some (.iaload, 1, 0, 0, 0, hNone, []), some (.goto 9, 3, 44, 0, 0, hNone, []), none, none, some (.aload_n 0, 1, 0, 0, 0, hNone, []), some (.getfield 74, 3, 8, 24, 0, hNone, [702]), none, none, some (.iload_n 1, 1, 0, 0, 0, hNone, []), some (.iaload, 1, 0, 0, 0, hNone, []), some (.ireturn, 1, 0, 0, 0, hNone, [])]
set_option maxRecDepth 100000 in
theorem oX8_routeAt : tbOk hX8_routeAt tX8_routeAt := tbOk_of (by decide +kernel)
theorem iX8_routeAt : Cond.code hX8_routeAt.1 hX8_routeAt.2.1 hX8_routeAt.2.2.1 hX8_routeAt.2.2.2 ∈ lw_tbl := List.mem_of_getElem? (i := 895) (by decide +kernel)
def tX8_took : List (Option En) := [some (.aload_n 0, 1, 0, 0, 0, hNone, []), some (.iload_n 1, 1, 0, 0, 0, hNone, []), some (.invokevirtual 139, 3, 8, 1, 0, hX8_isTown, [867, 65, 869, 52]), none, none, some (.ifCond .eq 33, 3, 38, 0, 0, hNone, []), none, none, some (.iload_n 2, 1, 0, 0, 0, hNone, []), some (.iconst 0, 1, 0, 0, 0, hNone, []), some (.bipush 6, 2, 0, 0, 6, hNone, []), none, some (.invokestatic 86, 3, 0, 3, 0, hX8_in, [773, 65, 774]), none, none, some (.ifCond .eq 23, 3, 38, 0, 0, hNone, []), none, none, some (.iload_n 3, 1, 0, 0, 0, hNone, []), some (.iconst 0, 1, 0, 0, 0, hNone, []), some (.ldc 142, 2, 0, 0, 1000000, hNone, [879]), none, some (.invokestatic 86, 3, 0, 3, 0, hX8_in, [773, 65, 774]), none, none, some (.ifCond .eq 13, 3, 38, 0, 0, hNone, []), none, none, some (.aload_n 0, 1, 0, 0, 0, hNone, []), some (.getfield 154, 3, 8, 17, 0, hNone, [695]), none, none, some (.sipush 500, 3, 0, 0, 500, hNone, []), none, none, some (.if_icmp .ne 5, 3, 40, 0, 0, hNone, []), none, none, some (.iconst (-1), 1, 0, 0, (-1), hNone, []), some (.ireturn, 1, 0, 0, 0, hNone, []), some (.aload_n 0, 1, 0, 0, 0, hNone, []), some (.getfield 56, 3, 8, 18, 0, hNone, [696]), none, none, some (.aload_n 0, 1, 0, 0, 0, hNone, []), some (.getfield 154, 3, 8, 17, 0, hNone, [695]), none, none, some (.iload_n 1, 1, 0, 0, 0, hNone, []), some (.iastore, 1, 0, 0, 0, hNone, []), some (.aload_n 0, 1, 0, 0, 0, hNone, []), some (.getfield 59, 3, 8, 19, 0, hNone, [697]), none, none, some (.aload_n 0, 1, 0, 0, 0, hNone, []), some (.getfield 154, 3, 8, 17, 0, hNone, [695]), none, none, some (.iload_n 2, 1, 0, 0, 0, hNone, []), some (.iastore, 1, 0, 0, 0, hNone, []), some (.aload_n 0, 1, 0, 0, 0, hNone, []), some (.getfield 62, 3, 8, 20, 0, hNone, [698]), none, none, some (.aload_n 0, 1, 0, 0, 0, hNone, []), some (.getfield 154, 3, 8, 17, 0, hNone, [695]), none, none, some (.iload_n 3, 1, 0, 0, 0, hNone, []), some (.iastore, 1, 0, 0, 0, hNone, []), some (.aload_n 0, 1, 0, 0, 0, hNone, []), some (.dup, 1, 0, 0, 0, hNone, []), some (.getfield 154, 3, 8, 17, 0, hNone, [695]), none, none, some (.iconst 1, 1, 0, 0, 1, hNone, []), some (.iadd, 1, 0, 0, 0, hNone, []), some (.putfield 154, 3, 8, 17, 0, hNone, [695]), none, none, some (.aload_n 0, 1, 0, 0, 0, hNone, []), some (.getfield 154, 3, 8, 17, 0, hNone, [695]), none, none, some (.ireturn, 1, 0, 0, 0, hNone, [])]
set_option maxRecDepth 100000 in
theorem oX8_took : tbOk hX8_took tX8_took := tbOk_of (by decide +kernel)
theorem iX8_took : Cond.code hX8_took.1 hX8_took.2.1 hX8_took.2.2.1 hX8_took.2.2.2 ∈ lw_tbl := List.mem_of_getElem? (i := 899) (by decide +kernel)
def tX8_foretold : List (Option En) := [some (.aload_n 0, 1, 0, 0, 0, hNone, []), some (.iload_n 1, 1, 0, 0, 0, hNone, []), some (.invokevirtual 139, 3, 8, 1, 0, hX8_isTown, [867, 65, 869, 52]), none, none, some (.ifCond .eq 22, 3, 27, 0, 0, hNone, []), none, none, some (.iload_n 2, 1, 0, 0, 0, hNone, []), some (.iconst 0, 1, 0, 0, 0, hNone, []), some (.bipush 6, 2, 0, 0, 6, hNone, []), none, some (.invokestatic 86, 3, 0, 3, 0, hX8_in, [773, 65, 774]), none, none, some (.ifCond .eq 12, 3, 27, 0, 0, hNone, []), none, none, some (.iload_n 3, 1, 0, 0, 0, hNone, []), some (.iconst 0, 1, 0, 0, 0, hNone, []), some (.iconst 1, 1, 0, 0, 1, hNone, []), some (.invokestatic 86, 3, 0, 3, 0, hX8_in, [773, 65, 774]), none, none, some (.ifCond .ne 5, 3, 29, 0, 0, hNone, []), none, none, some (.iconst (-1), 1, 0, 0, (-1), hNone, []), some (.ireturn, 1, 0, 0, 0, hNone, []), some (.iconst 0, 1, 0, 0, 0, hNone, []), some (.istore 4, 2, 0, 0, 0, hNone, []), none, some (.iconst 0, 1, 0, 0, 0, hNone, []), some (.istore 5, 2, 0, 0, 0, hNone, []), none, some (.iconst 0, 1, 0, 0, 0, hNone, []), some (.istore 6, 2, 0, 0, 0, hNone, []), none, some (.iload 6, 2, 0, 0, 0, hNone, []), none, some (.iconst 4, 1, 0, 0, 4, hNone, []), some (.if_icmp .ge 102, 3, 143, 0, 0, hNone, []), none, none, some (.iload 5, 2, 0, 0, 0, hNone, []), none, some (.ifCond .ne 97, 3, 143, 0, 0, hNone, []), none, none, some (.iconst 0, 1, 0, 0, 0, hNone, []), some (.istore 7, 2, 0, 0, 0, hNone, []), none, some (.iload 7, 2, 0, 0, 0, hNone, []), none, some (.aload_n 0, 1, 0, 0, 0, hNone, []), some (.getfield 154, 3, 8, 17, 0, hNone, [695]), none, none, some (.if_icmp .ge 79, 3, 137, 0, 0, hNone, []), none, none, some (.iload 6, 2, 0, 0, 0, hNone, []), none, some (.iconst 1, 1, 0, 0, 1, hNone, []), some (.if_icmp .gt 14, 3, 78, 0, 0, hNone, []), none, none, some (.aload_n 0, 1, 0, 0, 0, hNone, []), some (.getfield 56, 3, 8, 18, 0, hNone, [696]), none, none, some (.iload 7, 2, 0, 0, 0, hNone, []), none, some (.iaload, 1, 0, 0, 0, hNone, []), some (.iload_n 1, 1, 0, 0, 0, hNone, []), some (.if_icmp .ne 30, 3, 105, 0, 0, hNone, []), none, none, some (.iload 6, 2, 0, 0, 0, hNone, []), none, some (.iconst 1, 1, 0, 0, 1, hNone, []), some (.if_icmp .eq 20, 3, 101, 0, 0, hNone, []), none, none, some (.iload 6, 2, 0, 0, 0, hNone, []), none, some (.iconst 3, 1, 0, 0, 3, hNone, []), some (.if_icmp .eq 14, 3, 101, 0, 0, hNone, []), none, none, some (.aload_n 0, 1, 0, 0, 0, hNone, []), some (.getfield 59, 3, 8, 19, 0, hNone, [697]), none, none, some (.iload 7, 2, 0, 0, 0, hNone, []), none, some (.iaload, 1, 0, 0, 0, hNone, []), some (.iload_n 2, 1, 0, 0, 0, hNone, []), some (.if_icmp .ne 7, 3, 105, 0, 0, hNone, []), none, none, some (.iconst 1, 1, 0, 0, 1, hNone, []), some (.goto 4, 3, 106, 0, 0, hNone, []), none, none, some (.iconst 0, 1, 0, 0, 0, hNone, []), some (.istore 8, 2, 0, 0, 0, hNone, []), none, some (.iload 8, 2, 0, 0, 0, hNone, []), none, some (.ifCond .ne 6, 3, 116, 0, 0, hNone, []), none, none, some (.goto 18, 3, 131, 0, 0, hNone, []), none, none, some (.iload 4, 2, 0, 0, 0, hNone, []), none, some (.aload_n 0, 1, 0, 0, 0, hNone, []), some (.getfield 62, 3, 8, 20, 0, hNone, [698]), none, none, some (.iload 7, 2, 0, 0, 0, hNone, []), none, some (.iaload, 1, 0, 0, 0, hNone, []), some (.iadd, 1, 0, 0, 0, hNone, []), some (.istore 4, 2, 0, 0, 0, hNone, []), none, some (.iinc 5 1, 3, 0, 0, 1, hNone, []), none, none, some (.iinc 7 1, 3, 0, 0, 1, hNone, []), none, none, some (.goto (-82), 3, 52, 0, 0, hNone, []), none, none, some (.iinc 6 1, 3, 0, 0, 1, hNone, []), none, none, some (.goto (-102), 3, 38, 0, 0, hNone, []), none, none, some (.iload 5, 2, 0, 0, 0, hNone, []), none, some (.ifCond .ne 5, 3, 150, 0, 0, hNone, []), none, none, some (.iload_n 3, 1, 0, 0, 0, hNone, []), some (.ireturn, 1, 0, 0, 0, hNone, []), some (.iload 4, 2, 0, 0, 0, hNone, []), none, some (.istore 6, 2, 0, 0, 0, hNone, []), none, some (.iload 5, 2, 0, 0, 0, hNone, []), none, some (.istore 7, 2, 0, 0, 0, hNone, []), none, some (.iload 7, 2, 0, 0, 0, hNone, []), none, some (.ifCond .eq 21, 3, 181, 0, 0, hNone, []), none, none, some (.iload 6, 2, 0, 0, 0, hNone, []), none, some (.iload 7, 2, 0, 0, 0, hNone, []), none, some (.irem, 1, 0, 0, 0, hNone, []), some (.istore 8, 2, 0, 0, 0, hNone, []), none, some (.iload 7, 2, 0, 0, 0, hNone, []), none, some (.istore 6, 2, 0, 0, 0, hNone, []), none, some (.iload 8, 2, 0, 0, 0, hNone, []), none, some (.istore 7, 2, 0, 0, 0, hNone, []), none, some (.goto (-20), 3, 158, 0, 0, hNone, []), none, none, some (.iload_n 3, 1, 0, 0, 0, hNone, []), some (.ifCond .ne 11, 3, 193, 0, 0, hNone, []), none, none, some (.iload 4, 2, 0, 0, 0, hNone, []), none, some (.iload 6, 2, 0, 0, 0, hNone, []), none, some (.idiv, 1, 0, 0, 0, hNone, []), some (.goto 8, 3, 198, 0, 0, hNone, []), none, none, some (.iload 5, 2, 0, 0, 0, hNone, []), none, some (.iload 6, 2, 0, 0, 0, hNone, []), none, some (.idiv, 1, 0, 0, 0, hNone, []), some (.ireturn, 1, 0, 0, 0, hNone, [])]
set_option maxRecDepth 100000 in
theorem oX8_foretold : tbOk hX8_foretold tX8_foretold := tbOk_of (by decide +kernel)
theorem iX8_foretold : Cond.code hX8_foretold.1 hX8_foretold.2.1 hX8_foretold.2.2.1 hX8_foretold.2.2.2 ∈ lw_tbl := List.mem_of_getElem? (i := 903) (by decide +kernel)
def tX8_count : List (Option En) := [some (.iconst 0, 1, 0, 0, 0, hNone, []), some (.istore_n 2, 1, 0, 0, 0, hNone, []), some (.iload_n 1, 1, 0, 0, 0, hNone, []), some (.tableswitch 113 0 4 #[33, 38, 43, 76, 108], 33, 116, 0, 0, hNone, []), none, none, none, none, none, none, none, none, none, none, none, none, none, none, none, none, none, none, none, none, none, none, none, none, none, none, none, none, none, none, none, none, some (.aload_n 0, 1, 0, 0, 0, hNone, []), some (.getfield 90, 3, 8, 0, 0, hNone, [678]), none, none, some (.ireturn, 1, 0, 0, 0, hNone, []), some (.aload_n 0, 1, 0, 0, 0, hNone, []), some (.getfield 136, 3, 8, 11, 0, hNone, [689]), none, none, some (.ireturn, 1, 0, 0, 0, hNone, []), some (.iconst 0, 1, 0, 0, 0, hNone, []), some (.istore_n 3, 1, 0, 0, 0, hNone, []), some (.iload_n 3, 1, 0, 0, 0, hNone, []), some (.bipush 16, 2, 0, 0, 16, hNone, []), none, some (.if_icmp .ge 26, 3, 77, 0, 0, hNone, []), none, none, some (.iload_n 2, 1, 0, 0, 0, hNone, []), some (.aload_n 0, 1, 0, 0, 0, hNone, []), some (.getfield 28, 3, 8, 7, 0, hNone, [685]), none, none, some (.iload_n 3, 1, 0, 0, 0, hNone, []), some (.baload, 1, 0, 0, 0, hNone, []), some (.ifCond .eq 7, 3, 68, 0, 0, hNone, []), none, none, some (.iconst 1, 1, 0, 0, 1, hNone, []), some (.goto 4, 3, 69, 0, 0, hNone, []), none, none, some (.iconst 0, 1, 0, 0, 0, hNone, []), some (.iadd, 1, 0, 0, 0, hNone, []), some (.istore_n 2, 1, 0, 0, 0, hNone, []), some (.iinc 3 1, 3, 0, 0, 1, hNone, []), none, none, some (.goto (-26), 3, 48, 0, 0, hNone, []), none, none, some (.iload_n 2, 1, 0, 0, 0, hNone, []), some (.ireturn, 1, 0, 0, 0, hNone, []), some (.iconst 0, 1, 0, 0, 0, hNone, []), some (.istore_n 3, 1, 0, 0, 0, hNone, []), some (.iload_n 3, 1, 0, 0, 0, hNone, []), some (.bipush 8, 2, 0, 0, 8, hNone, []), none, some (.if_icmp .ge 25, 3, 109, 0, 0, hNone, []), none, none, some (.iload_n 2, 1, 0, 0, 0, hNone, []), some (.aload_n 0, 1, 0, 0, 0, hNone, []), some (.iload_n 3, 1, 0, 0, 0, hNone, []), some (.invokevirtual 122, 3, 8, 1, 0, hX8_isUp, [843, 65, 845, 50]), none, none, some (.ifCond .eq 7, 3, 100, 0, 0, hNone, []), none, none, some (.iconst 1, 1, 0, 0, 1, hNone, []), some (.goto 4, 3, 101, 0, 0, hNone, []), none, none, some (.iconst 0, 1, 0, 0, 0, hNone, []), some (.iadd, 1, 0, 0, 0, hNone, []), some (.istore_n 2, 1, 0, 0, 0, hNone, []), some (.iinc 3 1, 3, 0, 0, 1, hNone, []), none, none, some (.goto (-25), 3, 81, 0, 0, hNone, []), none, none, some (.iload_n 2, 1, 0, 0, 0, hNone, []), some (.ireturn, 1, 0, 0, 0, hNone, []), some (.aload_n 0, 1, 0, 0, 0, hNone, []), some (.getfield 154, 3, 8, 17, 0, hNone, [695]), none, none, some (.ireturn, 1, 0, 0, 0, hNone, []), some (.iconst (-1), 1, 0, 0, (-1), hNone, []), some (.ireturn, 1, 0, 0, 0, hNone, [])]
set_option maxRecDepth 100000 in
theorem oX8_count : tbOk hX8_count tX8_count := tbOk_of (by decide +kernel)
theorem iX8_count : Cond.code hX8_count.1 hX8_count.2.1 hX8_count.2.2.1 hX8_count.2.2.2 ∈ lw_tbl := List.mem_of_getElem? (i := 907) (by decide +kernel)
def tJ6_bitCount_0f7a4 : List (Option En) := [some (.iload_n 0, 1, 0, 0, 0, hNone, []), some (.iload_n 0, 1, 0, 0, 0, hNone, []), some (.iconst 1, 1, 0, 0, 1, hNone, []), some (.iushr, 1, 0, 0, 0, hNone, []), some (.ldc_w 265, 3, 0, 0, 1431655765, hNone, [421]), none, none, some (.iand, 1, 0, 0, 0, hNone, []), some (.isub, 1, 0, 0, 0, hNone, []), some (.istore_n 0, 1, 0, 0, 0, hNone, []), some (.iload_n 0, 1, 0, 0, 0, hNone, []), some (.ldc_w 266, 3, 0, 0, 858993459, hNone, [422]), none, none, some (.iand, 1, 0, 0, 0, hNone, []), some (.iload_n 0, 1, 0, 0, 0, hNone, []), some (.iconst 2, 1, 0, 0, 2, hNone, []), some (.iushr, 1, 0, 0, 0, hNone, []), some (.ldc_w 266, 3, 0, 0, 858993459, hNone, [422]), none, none, some (.iand, 1, 0, 0, 0, hNone, []), some (.iadd, 1, 0, 0, 0, hNone, []), some (.istore_n 0, 1, 0, 0, 0, hNone, []), some (.iload_n 0, 1, 0, 0, 0, hNone, []), some (.iload_n 0, 1, 0, 0, 0, hNone, []), some (.iconst 4, 1, 0, 0, 4, hNone, []), some (.iushr, 1, 0, 0, 0, hNone, []), some (.iadd, 1, 0, 0, 0, hNone, []), some (.ldc_w 267, 3, 0, 0, 252645135, hNone, [423]), none, none, some (.iand, 1, 0, 0, 0, hNone, []), some (.istore_n 0, 1, 0, 0, 0, hNone, []), some (.iload_n 0, 1, 0, 0, 0, hNone, []), some (.iload_n 0, 1, 0, 0, 0, hNone, []), some (.bipush 8, 2, 0, 0, 8, hNone, []), none, some (.iushr, 1, 0, 0, 0, hNone, []), some (.iadd, 1, 0, 0, 0, hNone, []), some (.istore_n 0, 1, 0, 0, 0, hNone, []), some (.iload_n 0, 1, 0, 0, 0, hNone, []), some (.iload_n 0, 1, 0, 0, 0, hNone, []), some (.bipush 16, 2, 0, 0, 16, hNone, []), none, some (.iushr, 1, 0, 0, 0, hNone, []), some (.iadd, 1, 0, 0, 0, hNone, []), some (.istore_n 0, 1, 0, 0, 0, hNone, []), some (.iload_n 0, 1, 0, 0, 0, hNone, []), some (.bipush 63, 2, 0, 0, 63, hNone, []), none, some (.iand, 1, 0, 0, 0, hNone, []), some (.ireturn, 1, 0, 0, 0, hNone, [])]
set_option maxRecDepth 100000 in
theorem oJ6_bitCount_0f7a4 : tbOk hJ6_bitCount_0f7a4 tJ6_bitCount_0f7a4 := tbOk_of (by decide +kernel)
theorem iJ6_bitCount_0f7a4 : Cond.code hJ6_bitCount_0f7a4.1 hJ6_bitCount_0f7a4.2.1 hJ6_bitCount_0f7a4.2.2.1 hJ6_bitCount_0f7a4.2.2.2 ∈ lw_tbl := List.mem_of_getElem? (i := 420) (by decide +kernel)
end
section
set_option maxRecDepth 100000 in
theorem vX0_refresh_0 {l : Launch} {G : GG} {d : Nat} {post : Int32 → Mem → Prop} {s : Mem} (h :
    ((¬ (s 15 2) = (s 1 8) →
      (bool01 (0 : Int32) ∧
      (∃ (d' : Nat) (Q1 : Int32 → Mem → Prop), d' < d ∧ Spec l G d' hX0_readLeastChanges [.inr 15] (wrM (wrM s 15 2 (s 1 8)) 15 3 (0 : Int32)) Q1 ∧ ∀ (r1 : Int32) (t1 : Mem), Q1 r1 t1 →
      (∃ (d' : Nat) (Q2 : Int32 → Mem → Prop), d' < d ∧ Spec l G d' hX0_sortByWorth [.inr 15] t1 Q2 ∧ ∀ (r2 : Int32) (t2 : Mem), Q2 r2 t2 →
      (((t2 1 0) ≤ 0 →
        post 0 t2) ∧
      (¬ (t2 1 0) ≤ 0 →
        (∃ (d' : Nat) (Q3 : Int32 → Mem → Prop), d' < d ∧ Spec l G d' hX0_extend [.inr 15, .inl (0 : Int32)] t2 Q3 ∧ ∀ (r3 : Int32) (t3 : Mem), Q3 r3 t3 →
        post 0 t3))))))) ∧
    ((s 15 2) = (s 1 8) →
      post 0 s))) :
    AW l G d hX0_refresh 0 [some (.inr 15)] [] s post := wps_ok (cut := []) oX0_refresh 27 0 _ _ _ h
set_option maxRecDepth 100000 in
theorem vX0_extend_0 {l : Launch} {G : GG} {d : Nat} {post : Int32 → Mem → Prop} {a1 : Int32} {s : Mem} (h :
    (((8 : Int32) ≤ a1 →
      (∃ (d' : Nat) (Q1 : Int32 → Mem → Prop), d' < d ∧ Spec l G d' hX0_keep [.inr 15] s Q1 ∧ ∀ (r1 : Int32) (t1 : Mem), Q1 r1 t1 →
      post 0 t1)) ∧
    (¬ (8 : Int32) ≤ a1 →
      ((a1 < (s 1 0) →
        AW l G d hX0_extend 24 [some (.inr 15), some (.inl a1), some (.inl (0 : Int32))] [] s post) ∧
      (¬ a1 < (s 1 0) →
        (∃ (d' : Nat) (Q2 : Int32 → Mem → Prop), d' < d ∧ Spec l G d' hX0_keep [.inr 15] s Q2 ∧ ∀ (r2 : Int32) (t2 : Mem), Q2 r2 t2 →
        post 0 t2)))))) :
    AW l G d hX0_extend 0 [some (.inr 15), some (.inl a1), none] [] s post := wps_ok (cut := [24]) oX0_extend 12 0 _ _ _ h
set_option maxRecDepth 100000 in
theorem vX0_extend_24 {l : Launch} {G : GG} {d : Nat} {post : Int32 → Mem → Prop} {a1 a2 : Int32} {s : Mem} (h :
    (((s 1 0) ≤ a2 →
      post 0 s) ∧
    (¬ (s 1 0) ≤ a2 →
      (∃ (d' : Nat) (Q1 : Int32 → Mem → Prop), d' < d ∧ Spec l G d' hX2_put [.inr 16, .inl a1, .inl a2] s Q1 ∧ ∀ (r1 : Int32) (t1 : Mem), Q1 r1 t1 →
      ((¬ r1 = 0 →
        AW l G d hX0_extend 24 [some (.inr 15), some (.inl a1), some (.inl (a2 + (1 : Int32)))] [] t1 post) ∧
      (r1 = 0 →
        (∃ (d' : Nat) (Q2 : Int32 → Mem → Prop), d' < d ∧ Spec l G d' hX0_canWin [.inr 15, .inl (a1 + (1 : Int32))] t1 Q2 ∧ ∀ (r2 : Int32) (t2 : Mem), Q2 r2 t2 →
        ((r2 = 0 →
          AW l G d hX0_extend 24 [some (.inr 15), some (.inl a1), some (.inl (a2 + (1 : Int32)))] [] t2 post) ∧
        (¬ r2 = 0 →
          (∃ (d' : Nat) (Q3 : Int32 → Mem → Prop), d' < d ∧ Spec l G d' hX0_extend [.inr 15, .inl (a1 + (1 : Int32))] t2 Q3 ∧ ∀ (r3 : Int32) (t3 : Mem), Q3 r3 t3 →
          AW l G d hX0_extend 24 [some (.inr 15), some (.inl a1), some (.inl (a2 + (1 : Int32)))] [] t3 post)))))))))) :
    AW l G d hX0_extend 24 [some (.inr 15), some (.inl a1), some (.inl a2)] [] s post := wps_ok (cut := [24]) oX0_extend 25 24 _ _ _ h
set_option maxRecDepth 100000 in
theorem vX0_keep_0 {l : Launch} {G : GG} {d : Nat} {post : Int32 → Mem → Prop} {s : Mem} (h :
    (bool01 (1 : Int32) ∧
    (vp_in ((wrM s 15 3 (1 : Int32)) 1 0) 9 ∧
    (vp_in ((wrM (wrM s 15 3 (1 : Int32)) 15 4 ((wrM s 15 3 (1 : Int32)) 21 ((wrM s 15 3 (1 : Int32)) 1 0).toNatClampNeg)) 1 0) 9 ∧
    ((1 ≤ d ∧ ¬ (0 : Int32) < 0 ∧ ¬ (0 : Int32) < 0 ∧ ¬ (8 : Int32) < 0 ∧ (0 : Int32).toNatClampNeg + (8 : Int32).toNatClampNeg ≤ 8 ∧ (0 : Int32).toNatClampNeg + (8 : Int32).toNatClampNeg ≤ 8) ∧
    post 0 (stM (wrM (wrM (wrM s 15 3 (1 : Int32)) 15 4 ((wrM s 15 3 (1 : Int32)) 21 ((wrM s 15 3 (1 : Int32)) 1 0).toNatClampNeg)) 15 5 ((wrM (wrM s 15 3 (1 : Int32)) 15 4 ((wrM s 15 3 (1 : Int32)) 21 ((wrM s 15 3 (1 : Int32)) 1 0).toNatClampNeg)) 22 ((wrM (wrM s 15 3 (1 : Int32)) 15 4 ((wrM s 15 3 (1 : Int32)) 21 ((wrM s 15 3 (1 : Int32)) 1 0).toNatClampNeg)) 1 0).toNatClampNeg)) 23 (va_cpy ((wrM (wrM (wrM s 15 3 (1 : Int32)) 15 4 ((wrM s 15 3 (1 : Int32)) 21 ((wrM s 15 3 (1 : Int32)) 1 0).toNatClampNeg)) 15 5 ((wrM (wrM s 15 3 (1 : Int32)) 15 4 ((wrM s 15 3 (1 : Int32)) 21 ((wrM s 15 3 (1 : Int32)) 1 0).toNatClampNeg)) 22 ((wrM (wrM s 15 3 (1 : Int32)) 15 4 ((wrM s 15 3 (1 : Int32)) 21 ((wrM s 15 3 (1 : Int32)) 1 0).toNatClampNeg)) 1 0).toNatClampNeg)) 17) ((wrM (wrM (wrM s 15 3 (1 : Int32)) 15 4 ((wrM s 15 3 (1 : Int32)) 21 ((wrM s 15 3 (1 : Int32)) 1 0).toNatClampNeg)) 15 5 ((wrM (wrM s 15 3 (1 : Int32)) 15 4 ((wrM s 15 3 (1 : Int32)) 21 ((wrM s 15 3 (1 : Int32)) 1 0).toNatClampNeg)) 22 ((wrM (wrM s 15 3 (1 : Int32)) 15 4 ((wrM s 15 3 (1 : Int32)) 21 ((wrM s 15 3 (1 : Int32)) 1 0).toNatClampNeg)) 1 0).toNatClampNeg)) 23) (0 : Int32).toNatClampNeg (0 : Int32).toNatClampNeg (8 : Int32).toNatClampNeg))))))) :
    AW l G d hX0_keep 0 [some (.inr 15)] [] s post := wps_ok (cut := []) oX0_keep 32 0 _ _ _ h
set_option maxRecDepth 100000 in
theorem vX0_canWin_0 {l : Launch} {G : GG} {d : Nat} {post : Int32 → Mem → Prop} {a1 : Int32} {s : Mem} (h :
    ((¬ (s 15 3) = 0 →
      (vp_in a1 9 ∧
      (∃ (d' : Nat) (Q1 : Int32 → Mem → Prop), d' < d ∧ Spec l G d' hX0_leastGapsBehind [.inr 15, .inl a1] s Q1 ∧ ∀ (r1 : Int32) (t1 : Mem), Q1 r1 t1 →
      ((((s 21 a1.toNatClampNeg) + r1) = (t1 15 4) →
        (vp_in a1 9 ∧
        (∃ (d' : Nat) (Q2 : Int32 → Mem → Prop), d' < d ∧ Spec l G d' hX0_mostWorthBehind [.inr 15, .inl a1] t1 Q2 ∧ ∀ (r2 : Int32) (t2 : Mem), Q2 r2 t2 →
        ((((t1 22 a1.toNatClampNeg) + r2) ≤ (t2 15 5) →
          (bool01 (0 : Int32) ∧ post (0 : Int32) t2)) ∧
        (¬ ((t1 22 a1.toNatClampNeg) + r2) ≤ (t2 15 5) →
          (bool01 (1 : Int32) ∧ post (1 : Int32) t2)))))) ∧
      (¬ ((s 21 a1.toNatClampNeg) + r1) = (t1 15 4) →
        (((t1 15 4) ≤ ((s 21 a1.toNatClampNeg) + r1) →
          (bool01 (0 : Int32) ∧ post (0 : Int32) t1)) ∧
        (¬ (t1 15 4) ≤ ((s 21 a1.toNatClampNeg) + r1) →
          (bool01 (1 : Int32) ∧ post (1 : Int32) t1)))))))) ∧
    ((s 15 3) = 0 →
      (bool01 (1 : Int32) ∧ post (1 : Int32) s)))) :
    AW l G d hX0_canWin 0 [some (.inr 15), some (.inl a1), none] [] s post := wps_ok (cut := []) oX0_canWin 33 0 _ _ _ h
set_option maxRecDepth 100000 in
theorem vX0_leastGapsBehind_0 {l : Launch} {G : GG} {d : Nat} {post : Int32 → Mem → Prop} {a1 : Int32} {s : Mem} (h :
    (vp_in a1 9 ∧
    AW l G d hX0_leastGapsBehind 13 [some (.inr 15), some (.inl a1), some (.inl (-(s 20 a1.toNatClampNeg))), some (.inl (0 : Int32))] [] s post)) :
    AW l G d hX0_leastGapsBehind 0 [some (.inr 15), some (.inl a1), none, none] [] s post := wps_ok (cut := [13]) oX0_leastGapsBehind 10 0 _ _ _ h
set_option maxRecDepth 100000 in
theorem vX0_leastGapsBehind_13 {l : Launch} {G : GG} {d : Nat} {post : Int32 → Mem → Prop} {a1 a2 a3 : Int32} {s : Mem} (h :
    (((s 1 0) ≤ a3 →
      (1 ≤ d ∧
      post (if (0 : Int32) < a2 then a2 else (0 : Int32)) s)) ∧
    (¬ (s 1 0) ≤ a3 →
      (vp_in a1 9 ∧
      ((¬ (((s 18 a1.toNatClampNeg) >>> (a3 &&& 31)) &&& (1 : Int32)) = 0 →
        AW l G d hX0_leastGapsBehind 13 [some (.inr 15), some (.inl a1), some (.inl a2), some (.inl (a3 + (1 : Int32)))] [] s post) ∧
      ((((s 18 a1.toNatClampNeg) >>> (a3 &&& 31)) &&& (1 : Int32)) = 0 →
        (∃ (d' : Nat) (Q1 : Int32 → Mem → Prop), d' < d ∧ Spec l G d' hX4_isClowns [.inr 1, .inl a3] s Q1 ∧ ∀ (r1 : Int32) (t1 : Mem), Q1 r1 t1 →
        ((r1 = 0 →
          (vp_in a3 8 ∧
          AW l G d hX0_leastGapsBehind 13 [some (.inr 15), some (.inl a1), some (.inl (a2 + (t1 24 a3.toNatClampNeg))), some (.inl (a3 + (1 : Int32)))] [] t1 post)) ∧
        (¬ r1 = 0 →
          (vp_in a3 8 ∧
          AW l G d hX0_leastGapsBehind 13 [some (.inr 15), some (.inl a1), some (.inl (a2 + (-(t1 2 a3.toNatClampNeg)))), some (.inl (a3 + (1 : Int32)))] [] t1 post)))))))))) :
    AW l G d hX0_leastGapsBehind 13 [some (.inr 15), some (.inl a1), some (.inl a2), some (.inl a3)] [] s post := wps_ok (cut := [13]) oX0_leastGapsBehind 33 13 _ _ _ h
set_option maxRecDepth 100000 in
theorem vX0_mostWorthBehind_0 {l : Launch} {G : GG} {d : Nat} {post : Int32 → Mem → Prop} {a1 : Int32} {s : Mem} (h :
    AW l G d hX0_mostWorthBehind 7 [some (.inr 15), some (.inl a1), some (.inl (0 : Int32)), some (.inl a1), some (.inl (0 : Int32)), none] [] s post) :
    AW l G d hX0_mostWorthBehind 0 [some (.inr 15), some (.inl a1), none, none, none, none] [] s post := wps_ok (cut := [7]) oX0_mostWorthBehind 7 0 _ _ _ h
set_option maxRecDepth 100000 in
theorem vX0_mostWorthBehind_7 {l : Launch} {G : GG} {d : Nat} {post : Int32 → Mem → Prop} {a1 a2 a3 a4 : Int32} {s : Mem} (h :
    (((s 1 0) ≤ a4 →
      post a2 s) ∧
    (¬ (s 1 0) ≤ a4 →
      (vp_in a4 8 ∧
      (vp_in a1 9 ∧
      ((¬ (((s 18 a1.toNatClampNeg) >>> ((s 25 a4.toNatClampNeg) &&& 31)) &&& (1 : Int32)) = 0 →
        AW l G d hX0_mostWorthBehind 7 [some (.inr 15), some (.inl a1), some (.inl a2), some (.inl a3), some (.inl (a4 + (1 : Int32))), some (.inl (s 25 a4.toNatClampNeg))] [] s post) ∧
      ((((s 18 a1.toNatClampNeg) >>> ((s 25 a4.toNatClampNeg) &&& 31)) &&& (1 : Int32)) = 0 →
        (vp_in (s 25 a4.toNatClampNeg) 8 ∧
        AW l G d hX0_mostWorthBehind 7 [some (.inr 15), some (.inl a1), some (.inl (a2 + ((s 4 (s 25 a4.toNatClampNeg).toNatClampNeg) * (a3 + (1 : Int32))))), some (.inl (a3 + (1 : Int32))), some (.inl (a4 + (1 : Int32))), some (.inl (s 25 a4.toNatClampNeg))] [] s post)))))))) :
    AW l G d hX0_mostWorthBehind 7 [some (.inr 15), some (.inl a1), some (.inl a2), some (.inl a3), some (.inl a4), none] [] s post := wps_ok (cut := [7]) oX0_mostWorthBehind 34 7 _ _ _ h
set_option maxRecDepth 100000 in
theorem vX0_readLeastChanges_0 {l : Launch} {G : GG} {d : Nat} {post : Int32 → Mem → Prop} {s : Mem} (h :
    AW l G d hX0_readLeastChanges 2 [some (.inr 15), some (.inl (0 : Int32)), none, none] [] s post) :
    AW l G d hX0_readLeastChanges 0 [some (.inr 15), none, none, none] [] s post := wps_ok (cut := [2, 28]) oX0_readLeastChanges 3 0 _ _ _ h
set_option maxRecDepth 100000 in
theorem vX0_readLeastChanges_2 {l : Launch} {G : GG} {d : Nat} {post : Int32 → Mem → Prop} {a1 : Int32} {s : Mem} (h :
    (((s 1 0) ≤ a1 →
      post 0 s) ∧
    (¬ (s 1 0) ≤ a1 →
      (vp_in a1 8 ∧
      (∃ (d' : Nat) (Q1 : Int32 → Mem → Prop), d' < d ∧ Spec l G d' hJ6_bitCount_0f7a4 [.inl (s 6 a1.toNatClampNeg)] s Q1 ∧ ∀ (r1 : Int32) (t1 : Mem), Q1 r1 t1 →
      AW l G d hX0_readLeastChanges 28 [some (.inr 15), some (.inl a1), some (.inl r1), some (.inl (0 : Int32))] [] t1 post))))) :
    AW l G d hX0_readLeastChanges 2 [some (.inr 15), some (.inl a1), none, none] [] s post := wps_ok (cut := [2, 28]) oX0_readLeastChanges 15 2 _ _ _ h
set_option maxRecDepth 100000 in
theorem vX0_readLeastChanges_28 {l : Launch} {G : GG} {d : Nat} {post : Int32 → Mem → Prop} {a1 a2 a3 : Int32} {s : Mem} (h :
    (((s 1 0) ≤ a3 →
      (vp_in a1 8 ∧
      AW l G d hX0_readLeastChanges 2 [some (.inr 15), some (.inl (a1 + (1 : Int32))), some (.inl a2), some (.inl a3)] [] (wrM s 24 a1.toNatClampNeg ((2 : Int32) * a2)) post)) ∧
    (¬ (s 1 0) ≤ a3 →
      ((a3 = a1 →
        AW l G d hX0_readLeastChanges 28 [some (.inr 15), some (.inl a1), some (.inl a2), some (.inl (a3 + (1 : Int32)))] [] s post) ∧
      (¬ a3 = a1 →
        (∃ (d' : Nat) (Q1 : Int32 → Mem → Prop), d' < d ∧ Spec l G d' hX4_isClowns [.inr 1, .inl a3] s Q1 ∧ ∀ (r1 : Int32) (t1 : Mem), Q1 r1 t1 →
        ((¬ r1 = 0 →
          AW l G d hX0_readLeastChanges 28 [some (.inr 15), some (.inl a1), some (.inl a2), some (.inl (a3 + (1 : Int32)))] [] t1 post) ∧
        (r1 = 0 →
          (vp_in a3 8 ∧
          (vp_in a1 8 ∧
          (∃ (d' : Nat) (Q2 : Int32 → Mem → Prop), d' < d ∧ Spec l G d' hJ6_bitCount_0f7a4 [.inl ((t1 6 a3.toNatClampNeg) ^^^ (t1 6 a1.toNatClampNeg))] t1 Q2 ∧ ∀ (r2 : Int32) (t2 : Mem), Q2 r2 t2 →
          (1 ≤ d ∧
          AW l G d hX0_readLeastChanges 28 [some (.inr 15), some (.inl a1), some (.inl (if r2 < a2 then r2 else a2)), some (.inl (a3 + (1 : Int32)))] [] t2 post)))))))))))) :
    AW l G d hX0_readLeastChanges 28 [some (.inr 15), some (.inl a1), some (.inl a2), some (.inl a3)] [] s post := wps_ok (cut := [2, 28]) oX0_readLeastChanges 31 28 _ _ _ h
set_option maxRecDepth 100000 in
theorem vX0_sortByWorth_0 {l : Launch} {G : GG} {d : Nat} {post : Int32 → Mem → Prop} {s : Mem} (h :
    AW l G d hX0_sortByWorth 2 [some (.inr 15), some (.inl (0 : Int32)), none] [] s post) :
    AW l G d hX0_sortByWorth 0 [some (.inr 15), none, none] [] s post := wps_ok (cut := [2, 15]) oX0_sortByWorth 3 0 _ _ _ h
set_option maxRecDepth 100000 in
theorem vX0_sortByWorth_2 {l : Launch} {G : GG} {d : Nat} {post : Int32 → Mem → Prop} {a1 : Int32} {s : Mem} (h :
    (((s 1 0) ≤ a1 →
      post 0 s) ∧
    (¬ (s 1 0) ≤ a1 →
      AW l G d hX0_sortByWorth 15 [some (.inr 15), some (.inl a1), some (.inl a1)] [] s post))) :
    AW l G d hX0_sortByWorth 2 [some (.inr 15), some (.inl a1), none] [] s post := wps_ok (cut := [2, 15]) oX0_sortByWorth 8 2 _ _ _ h
set_option maxRecDepth 100000 in
theorem vX0_sortByWorth_15 {l : Launch} {G : GG} {d : Nat} {post : Int32 → Mem → Prop} {a1 a2 : Int32} {s : Mem} (h :
    ((a2 ≤ 0 →
      (vp_in a2 8 ∧
      AW l G d hX0_sortByWorth 2 [some (.inr 15), some (.inl (a1 + (1 : Int32))), some (.inl a2)] [] (wrM s 25 a2.toNatClampNeg a1) post)) ∧
    (¬ a2 ≤ 0 →
      (vp_in (a2 - (1 : Int32)) 8 ∧
      (vp_in (s 25 (a2 - (1 : Int32)).toNatClampNeg) 8 ∧
      (vp_in a1 8 ∧
      (((s 4 (s 25 (a2 - (1 : Int32)).toNatClampNeg).toNatClampNeg) ≤ (s 4 a1.toNatClampNeg) →
        (vp_in a2 8 ∧
        AW l G d hX0_sortByWorth 2 [some (.inr 15), some (.inl (a1 + (1 : Int32))), some (.inl a2)] [] (wrM s 25 a2.toNatClampNeg a1) post)) ∧
      (¬ (s 4 (s 25 (a2 - (1 : Int32)).toNatClampNeg).toNatClampNeg) ≤ (s 4 a1.toNatClampNeg) →
        (vp_in (a2 - (1 : Int32)) 8 ∧
        (vp_in a2 8 ∧
        AW l G d hX0_sortByWorth 15 [some (.inr 15), some (.inl a1), some (.inl (a2 + (-1 : Int32)))] [] (wrM s 25 a2.toNatClampNeg (s 25 (a2 - (1 : Int32)).toNatClampNeg)) post)))))))))) :
    AW l G d hX0_sortByWorth 15 [some (.inr 15), some (.inl a1), some (.inl a2)] [] s post := wps_ok (cut := [2, 15]) oX0_sortByWorth 31 15 _ _ _ h
set_option maxRecDepth 100000 in
theorem vX1_refresh_0 {l : Launch} {G : GG} {d : Nat} {post : Int32 → Mem → Prop} {s : Mem} (h :
    ((¬ (s 39 1) = (s 33 6) →
      (∃ (d' : Nat) (Q1 : Int32 → Mem → Prop), d' < d ∧ Spec l G d' hX1_extend [.inr 39, .inl (0 : Int32)] (wrM (wrM (wrM s 39 1 (s 33 6)) 39 2 (0 : Int32)) 39 3 (0 : Int32)) Q1 ∧ ∀ (r1 : Int32) (t1 : Mem), Q1 r1 t1 →
      post 0 t1)) ∧
    ((s 39 1) = (s 33 6) →
      post 0 s))) :
    AW l G d hX1_refresh 0 [some (.inr 39)] [] s post := wps_ok (cut := []) oX1_refresh 22 0 _ _ _ h
set_option maxRecDepth 100000 in
theorem vX1_extend_0 {l : Launch} {G : GG} {d : Nat} {post : Int32 → Mem → Prop} {a1 : Int32} {s : Mem} (h :
    (∃ (d' : Nat) (Q1 : Int32 → Mem → Prop), d' < d ∧ Spec l G d' hX1_keepIfBetter [.inr 39, .inl a1] s Q1 ∧ ∀ (r1 : Int32) (t1 : Mem), Q1 r1 t1 →
    ((a1 < (8 : Int32) →
      AW l G d hX1_extend 14 [some (.inr 39), some (.inl a1), some (.inl (0 : Int32))] [] t1 post) ∧
    (¬ a1 < (8 : Int32) →
      post 0 t1)))) :
    AW l G d hX1_extend 0 [some (.inr 39), some (.inl a1), none] [] s post := wps_ok (cut := [14]) oX1_extend 9 0 _ _ _ h
set_option maxRecDepth 100000 in
theorem vX1_extend_14 {l : Launch} {G : GG} {d : Nat} {post : Int32 → Mem → Prop} {a1 a2 : Int32} {s : Mem} (h :
    (((s 33 0) ≤ a2 →
      post 0 s) ∧
    (¬ (s 33 0) ≤ a2 →
      (∃ (d' : Nat) (Q1 : Int32 → Mem → Prop), d' < d ∧ Spec l G d' hX1_put [.inr 39, .inl a1, .inl a2] s Q1 ∧ ∀ (r1 : Int32) (t1 : Mem), Q1 r1 t1 →
      ((r1 = 0 →
        AW l G d hX1_extend 14 [some (.inr 39), some (.inl a1), some (.inl (a2 + (1 : Int32)))] [] t1 post) ∧
      (¬ r1 = 0 →
        (∃ (d' : Nat) (Q2 : Int32 → Mem → Prop), d' < d ∧ Spec l G d' hX1_canWin [.inr 39, .inl (a1 + (1 : Int32))] t1 Q2 ∧ ∀ (r2 : Int32) (t2 : Mem), Q2 r2 t2 →
        ((r2 = 0 →
          AW l G d hX1_extend 14 [some (.inr 39), some (.inl a1), some (.inl (a2 + (1 : Int32)))] [] t2 post) ∧
        (¬ r2 = 0 →
          (∃ (d' : Nat) (Q3 : Int32 → Mem → Prop), d' < d ∧ Spec l G d' hX1_extend [.inr 39, .inl (a1 + (1 : Int32))] t2 Q3 ∧ ∀ (r3 : Int32) (t3 : Mem), Q3 r3 t3 →
          AW l G d hX1_extend 14 [some (.inr 39), some (.inl a1), some (.inl (a2 + (1 : Int32)))] [] t3 post)))))))))) :
    AW l G d hX1_extend 14 [some (.inr 39), some (.inl a1), some (.inl a2)] [] s post := wps_ok (cut := [14]) oX1_extend 24 14 _ _ _ h
set_option maxRecDepth 100000 in
theorem vX1_put_0 {l : Launch} {G : GG} {d : Nat} {post : Int32 → Mem → Prop} {a1 a2 : Int32} {s : Mem} (h :
    (∃ (d' : Nat) (Q1 : Int32 → Mem → Prop), d' < d ∧ Spec l G d' hX1_nightAt [.inr 39, .inl a1, .inl a2] s Q1 ∧ ∀ (r1 : Int32) (t1 : Mem), Q1 r1 t1 →
    ((¬ r1 = (-1 : Int32) →
      (vp_in a1 8 ∧
      (vp_in a1 8 ∧
      (vp_in a1 9 ∧
      (vp_in (a1 + (1 : Int32)) 9 ∧
      (vp_in a1 9 ∧
      (vp_in a2 8 ∧
      (vp_in (a1 + (1 : Int32)) 9 ∧
      (bool01 (1 : Int32) ∧ post (1 : Int32) (wrM (wrM (wrM (wrM t1 42 a1.toNatClampNeg a2) 43 a1.toNatClampNeg r1) 44 (a1 + (1 : Int32)).toNatClampNeg (((wrM (wrM t1 42 a1.toNatClampNeg a2) 43 a1.toNatClampNeg r1) 44 a1.toNatClampNeg) ||| ((1 : Int32) <<< (a2 &&& 31)))) 45 (a1 + (1 : Int32)).toNatClampNeg (((wrM (wrM (wrM t1 42 a1.toNatClampNeg a2) 43 a1.toNatClampNeg r1) 44 (a1 + (1 : Int32)).toNatClampNeg (((wrM (wrM t1 42 a1.toNatClampNeg a2) 43 a1.toNatClampNeg r1) 44 a1.toNatClampNeg) ||| ((1 : Int32) <<< (a2 &&& 31)))) 45 a1.toNatClampNeg) + ((wrM (wrM (wrM t1 42 a1.toNatClampNeg a2) 43 a1.toNatClampNeg r1) 44 (a1 + (1 : Int32)).toNatClampNeg (((wrM (wrM t1 42 a1.toNatClampNeg a2) 43 a1.toNatClampNeg r1) 44 a1.toNatClampNeg) ||| ((1 : Int32) <<< (a2 &&& 31)))) 34 a2.toNatClampNeg)))))))))))) ∧
    (r1 = (-1 : Int32) →
      (bool01 (0 : Int32) ∧ post (0 : Int32) t1))))) :
    AW l G d hX1_put 0 [some (.inr 39), some (.inl a1), some (.inl a2), none] [] s post := wps_ok (cut := []) oX1_put 51 0 _ _ _ h
set_option maxRecDepth 100000 in
theorem vX1_nightAt_0 {l : Launch} {G : GG} {d : Nat} {post : Int32 → Mem → Prop} {a1 a2 : Int32} {s : Mem} (h :
    (vp_in a1 9 ∧
    (((((s 44 a1.toNatClampNeg) >>> (a2 &&& 31)) &&& (1 : Int32)) = 0 →
      ((¬ a1 = 0 →
        (vp_in (a1 - (1 : Int32)) 8 ∧
        (vp_in (a1 - (1 : Int32)) 8 ∧
        (∃ (d' : Nat) (Q1 : Int32 → Mem → Prop), d' < d ∧ Spec l G d' hX3_nightBehind [.inr 33, .inl (s 42 (a1 - (1 : Int32)).toNatClampNeg), .inl (s 43 (a1 - (1 : Int32)).toNatClampNeg), .inl a2] s Q1 ∧ ∀ (r1 : Int32) (t1 : Mem), Q1 r1 t1 →
        post r1 t1)))) ∧
      (a1 = 0 →
        (vp_in a2 8 ∧
        post (s 35 a2.toNatClampNeg) s)))) ∧
    (¬ (((s 44 a1.toNatClampNeg) >>> (a2 &&& 31)) &&& (1 : Int32)) = 0 →
      post (-1 : Int32) s)))) :
    AW l G d hX1_nightAt 0 [some (.inr 39), some (.inl a1), some (.inl a2)] [] s post := wps_ok (cut := []) oX1_nightAt 29 0 _ _ _ h
set_option maxRecDepth 100000 in
theorem vX1_keepIfBetter_0 {l : Launch} {G : GG} {d : Nat} {post : Int32 → Mem → Prop} {a1 : Int32} {s : Mem} (h :
    (vp_in a1 9 ∧
    (∃ (d' : Nat) (Q1 : Int32 → Mem → Prop), d' < d ∧ Spec l G d' hX1_isBetter [.inr 39, .inl a1, .inl (s 45 a1.toNatClampNeg)] s Q1 ∧ ∀ (r1 : Int32) (t1 : Mem), Q1 r1 t1 →
    ((r1 = 0 →
      post 0 t1) ∧
    (¬ r1 = 0 →
      (vp_in a1 9 ∧
      ((1 ≤ d ∧ ¬ (0 : Int32) < 0 ∧ ¬ (0 : Int32) < 0 ∧ ¬ a1 < 0 ∧ (0 : Int32).toNatClampNeg + a1.toNatClampNeg ≤ 8 ∧ (0 : Int32).toNatClampNeg + a1.toNatClampNeg ≤ 8) ∧
      ((1 ≤ d ∧ ¬ (0 : Int32) < 0 ∧ ¬ (0 : Int32) < 0 ∧ ¬ a1 < 0 ∧ (0 : Int32).toNatClampNeg + a1.toNatClampNeg ≤ 8 ∧ (0 : Int32).toNatClampNeg + a1.toNatClampNeg ≤ 8) ∧
      post 0 (stM (stM (wrM (wrM t1 39 2 a1) 39 3 ((wrM t1 39 2 a1) 45 a1.toNatClampNeg)) 40 (va_cpy ((wrM (wrM t1 39 2 a1) 39 3 ((wrM t1 39 2 a1) 45 a1.toNatClampNeg)) 42) ((wrM (wrM t1 39 2 a1) 39 3 ((wrM t1 39 2 a1) 45 a1.toNatClampNeg)) 40) (0 : Int32).toNatClampNeg (0 : Int32).toNatClampNeg a1.toNatClampNeg)) 41 (va_cpy ((stM (wrM (wrM t1 39 2 a1) 39 3 ((wrM t1 39 2 a1) 45 a1.toNatClampNeg)) 40 (va_cpy ((wrM (wrM t1 39 2 a1) 39 3 ((wrM t1 39 2 a1) 45 a1.toNatClampNeg)) 42) ((wrM (wrM t1 39 2 a1) 39 3 ((wrM t1 39 2 a1) 45 a1.toNatClampNeg)) 40) (0 : Int32).toNatClampNeg (0 : Int32).toNatClampNeg a1.toNatClampNeg)) 43) ((stM (wrM (wrM t1 39 2 a1) 39 3 ((wrM t1 39 2 a1) 45 a1.toNatClampNeg)) 40 (va_cpy ((wrM (wrM t1 39 2 a1) 39 3 ((wrM t1 39 2 a1) 45 a1.toNatClampNeg)) 42) ((wrM (wrM t1 39 2 a1) 39 3 ((wrM t1 39 2 a1) 45 a1.toNatClampNeg)) 40) (0 : Int32).toNatClampNeg (0 : Int32).toNatClampNeg a1.toNatClampNeg)) 41) (0 : Int32).toNatClampNeg (0 : Int32).toNatClampNeg a1.toNatClampNeg)))))))))) :
    AW l G d hX1_keepIfBetter 0 [some (.inr 39), some (.inl a1)] [] s post := wps_ok (cut := []) oX1_keepIfBetter 35 0 _ _ _ h
set_option maxRecDepth 100000 in
theorem vX1_isBetter_0 {l : Launch} {G : GG} {d : Nat} {post : Int32 → Mem → Prop} {a1 a2 : Int32} {s : Mem} (h :
    ((a1 = (s 39 2) →
      ((a2 ≤ (s 39 3) →
        (bool01 (0 : Int32) ∧ post (0 : Int32) s)) ∧
      (¬ a2 ≤ (s 39 3) →
        (bool01 (1 : Int32) ∧ post (1 : Int32) s)))) ∧
    (¬ a1 = (s 39 2) →
      ((a1 ≤ (s 39 2) →
        (bool01 (0 : Int32) ∧ post (0 : Int32) s)) ∧
      (¬ a1 ≤ (s 39 2) →
        (bool01 (1 : Int32) ∧ post (1 : Int32) s)))))) :
    AW l G d hX1_isBetter 0 [some (.inr 39), some (.inl a1), some (.inl a2)] [] s post := wps_ok (cut := []) oX1_isBetter 12 0 _ _ _ h
set_option maxRecDepth 100000 in
theorem vX1_canWin_0 {l : Launch} {G : GG} {d : Nat} {post : Int32 → Mem → Prop} {a1 : Int32} {s : Mem} (h :
    (vp_in a1 9 ∧
    (((8 : Int32) ≤ a1 →
      (∃ (d' : Nat) (Q1 : Int32 → Mem → Prop), d' < d ∧ Spec l G d' hX1_isBetter [.inr 39, .inl a1, .inl (s 45 a1.toNatClampNeg)] s Q1 ∧ ∀ (r1 : Int32) (t1 : Mem), Q1 r1 t1 →
      (bool01 r1 ∧ post r1 t1))) ∧
    (¬ (8 : Int32) ≤ a1 →
      AW l G d hX1_canWin 18 [some (.inr 39), some (.inl a1), some (.inl a1), some (.inl (s 45 a1.toNatClampNeg)), some (.inl (0 : Int32))] [] s post)))) :
    AW l G d hX1_canWin 0 [some (.inr 39), some (.inl a1), none, none, none] [] s post := wps_ok (cut := [18]) oX1_canWin 16 0 _ _ _ h
set_option maxRecDepth 100000 in
theorem vX1_canWin_18 {l : Launch} {G : GG} {d : Nat} {post : Int32 → Mem → Prop} {a1 a2 a3 a4 : Int32} {s : Mem} (h :
    (((s 33 0) ≤ a4 →
      (∃ (d' : Nat) (Q1 : Int32 → Mem → Prop), d' < d ∧ Spec l G d' hX1_isBetter [.inr 39, .inl a2, .inl a3] s Q1 ∧ ∀ (r1 : Int32) (t1 : Mem), Q1 r1 t1 →
      (bool01 r1 ∧ post r1 t1))) ∧
    (¬ (s 33 0) ≤ a4 →
      (∃ (d' : Nat) (Q2 : Int32 → Mem → Prop), d' < d ∧ Spec l G d' hX1_nightAt [.inr 39, .inl a1, .inl a4] s Q2 ∧ ∀ (r2 : Int32) (t2 : Mem), Q2 r2 t2 →
      ((r2 = (-1 : Int32) →
        AW l G d hX1_canWin 18 [some (.inr 39), some (.inl a1), some (.inl a2), some (.inl a3), some (.inl (a4 + (1 : Int32)))] [] t2 post) ∧
      (¬ r2 = (-1 : Int32) →
        (vp_in a4 8 ∧
        AW l G d hX1_canWin 18 [some (.inr 39), some (.inl a1), some (.inl (a2 + (1 : Int32))), some (.inl (a3 + (t2 34 a4.toNatClampNeg))), some (.inl (a4 + (1 : Int32)))] [] t2 post))))))) :
    AW l G d hX1_canWin 18 [some (.inr 39), some (.inl a1), some (.inl a2), some (.inl a3), some (.inl a4)] [] s post := wps_ok (cut := [18]) oX1_canWin 23 18 _ _ _ h
set_option maxRecDepth 100000 in
theorem vX2_canBeTold_0 {l : Launch} {G : GG} {d : Nat} {post : Int32 → Mem → Prop} {a0 a1 : Int32} {s : Mem} (h :
    ((a0 < 0 →
      (bool01 (0 : Int32) ∧ post (0 : Int32) s)) ∧
    (¬ a0 < 0 →
      ((a1 < 0 →
        (bool01 (0 : Int32) ∧ post (0 : Int32) s)) ∧
      (¬ a1 < 0 →
        ((a1 ≤ (8 : Int32) →
          AW l G d hX2_canBeTold 20 [some (.inl a0), some (.inl a1), some (.inl a0), some (.inl (0 : Int32))] [] s post) ∧
        (¬ a1 ≤ (8 : Int32) →
          (bool01 (0 : Int32) ∧ post (0 : Int32) s)))))))) :
    AW l G d hX2_canBeTold 0 [some (.inl a0), some (.inl a1), none, none] [] s post := wps_ok (cut := [20]) oX2_canBeTold 12 0 _ _ _ h
set_option maxRecDepth 100000 in
theorem vX2_canBeTold_20 {l : Launch} {G : GG} {d : Nat} {post : Int32 → Mem → Prop} {a0 a1 a2 a3 : Int32} {s : Mem} (h :
    ((a1 ≤ a3 →
      ((¬ a2 = 0 →
        (bool01 (0 : Int32) ∧ post (0 : Int32) s)) ∧
      (a2 = 0 →
        (bool01 (1 : Int32) ∧ post (1 : Int32) s)))) ∧
    (¬ a1 ≤ a3 →
      (¬ (10 : Int32) = 0 ∧
      AW l G d hX2_canBeTold 20 [some (.inl a0), some (.inl a1), some (.inl (a2 / (10 : Int32))), some (.inl (a3 + (1 : Int32)))] [] s post)))) :
    AW l G d hX2_canBeTold 20 [some (.inl a0), some (.inl a1), some (.inl a2), some (.inl a3)] [] s post := wps_ok (cut := [20]) oX2_canBeTold 10 20 _ _ _ h
set_option maxRecDepth 100000 in
theorem vX2_read_told_0 {l : Launch} {G : GG} {d : Nat} {post : Int32 → Mem → Prop} {a1 a2 : Int32} {s : Mem} (h :
    AW l G d hX2_read 5 [some (.inr 8), some (.inl a1), some (.inl a2), some (.inl a1), some (.inl (0 : Int32)), none] [] s post) :
    AW l G d hX2_read 0 [some (.inr 8), some (.inl a1), some (.inl a2), none, none, none] [] s post := wps_ok (cut := [5]) oX2_read 5 0 _ _ _ h
set_option maxRecDepth 100000 in
theorem vX2_read_told_5 {l : Launch} {G : GG} {d : Nat} {post : Int32 → Mem → Prop} {a1 a2 a3 a4 : Int32} {s : Mem} (h :
    ((a2 ≤ a4 →
      ((((wrM s 8 7 a2) 1 0) ≤ a2 →
        post (0 : Int32) (wrM s 8 7 a2)) ∧
      (¬ ((wrM s 8 7 a2) 1 0) ≤ a2 →
        post (4 : Int32) (wrM s 8 7 a2)))) ∧
    (¬ a2 ≤ a4 →
      (¬ (10 : Int32) = 0 ∧
      (∃ (d' : Nat) (Q1 : Int32 → Mem → Prop), d' < d ∧ Spec l G d' hX2_put [.inr 8, .inl a4, .inl (a3 - a3 / (10 : Int32) * (10 : Int32))] s Q1 ∧ ∀ (r1 : Int32) (t1 : Mem), Q1 r1 t1 →
      ((r1 = 0 →
        (¬ (10 : Int32) = 0 ∧
        AW l G d hX2_read 5 [some (.inr 8), some (.inl a1), some (.inl a2), some (.inl (a3 / (10 : Int32))), some (.inl (a4 + (1 : Int32))), some (.inl r1)] [] t1 post)) ∧
      (¬ r1 = 0 →
        post r1 (wrM t1 8 7 a4)))))))) :
    AW l G d hX2_read 5 [some (.inr 8), some (.inl a1), some (.inl a2), some (.inl a3), some (.inl a4), none] [] s post := wps_ok (cut := [5]) oX2_read 19 5 _ _ _ h
set_option maxRecDepth 100000 in
theorem vX2_read_row_0 {l : Launch} {G : GG} {d : Nat} {post : Int32 → Mem → Prop} {a1 a2 : Int32} {s : Mem} (h :
    AW l G d hX2_read 5 [some (.inr 16), some (.inl a1), some (.inl a2), some (.inl a1), some (.inl (0 : Int32)), none] [] s post) :
    AW l G d hX2_read 0 [some (.inr 16), some (.inl a1), some (.inl a2), none, none, none] [] s post := wps_ok (cut := [5]) oX2_read 5 0 _ _ _ h
set_option maxRecDepth 100000 in
theorem vX2_read_row_5 {l : Launch} {G : GG} {d : Nat} {post : Int32 → Mem → Prop} {a1 a2 a3 a4 : Int32} {s : Mem} (h :
    ((a2 ≤ a4 →
      ((((wrM s 16 7 a2) 1 0) ≤ a2 →
        post (0 : Int32) (wrM s 16 7 a2)) ∧
      (¬ ((wrM s 16 7 a2) 1 0) ≤ a2 →
        post (4 : Int32) (wrM s 16 7 a2)))) ∧
    (¬ a2 ≤ a4 →
      (¬ (10 : Int32) = 0 ∧
      (∃ (d' : Nat) (Q1 : Int32 → Mem → Prop), d' < d ∧ Spec l G d' hX2_put [.inr 16, .inl a4, .inl (a3 - a3 / (10 : Int32) * (10 : Int32))] s Q1 ∧ ∀ (r1 : Int32) (t1 : Mem), Q1 r1 t1 →
      ((r1 = 0 →
        (¬ (10 : Int32) = 0 ∧
        AW l G d hX2_read 5 [some (.inr 16), some (.inl a1), some (.inl a2), some (.inl (a3 / (10 : Int32))), some (.inl (a4 + (1 : Int32))), some (.inl r1)] [] t1 post)) ∧
      (¬ r1 = 0 →
        post r1 (wrM t1 16 7 a4)))))))) :
    AW l G d hX2_read 5 [some (.inr 16), some (.inl a1), some (.inl a2), some (.inl a3), some (.inl a4), none] [] s post := wps_ok (cut := [5]) oX2_read 19 5 _ _ _ h
set_option maxRecDepth 100000 in
theorem vX2_put_told_0 {l : Launch} {G : GG} {d : Nat} {post : Int32 → Mem → Prop} {a1 a2 : Int32} {s : Mem} (h :
    (∃ (d' : Nat) (Q1 : Int32 → Mem → Prop), d' < d ∧ Spec l G d' hX2_breakAt [.inr 8, .inl a1, .inl a2] s Q1 ∧ ∀ (r1 : Int32) (t1 : Mem), Q1 r1 t1 →
    ((¬ r1 = 0 →
      post r1 t1) ∧
    (r1 = 0 →
      (∃ (d' : Nat) (Q2 : Int32 → Mem → Prop), d' < d ∧ Spec l G d' hX2_set [.inr 8, .inl a1, .inl a2] t1 Q2 ∧ ∀ (r2 : Int32) (t2 : Mem), Q2 r2 t2 →
      post r1 t2))))) :
    AW l G d hX2_put 0 [some (.inr 8), some (.inl a1), some (.inl a2), none] [] s post := wps_ok (cut := []) oX2_put 14 0 _ _ _ h
set_option maxRecDepth 100000 in
theorem vX2_put_row_0 {l : Launch} {G : GG} {d : Nat} {post : Int32 → Mem → Prop} {a1 a2 : Int32} {s : Mem} (h :
    (∃ (d' : Nat) (Q1 : Int32 → Mem → Prop), d' < d ∧ Spec l G d' hX2_breakAt [.inr 16, .inl a1, .inl a2] s Q1 ∧ ∀ (r1 : Int32) (t1 : Mem), Q1 r1 t1 →
    ((¬ r1 = 0 →
      post r1 t1) ∧
    (r1 = 0 →
      (∃ (d' : Nat) (Q2 : Int32 → Mem → Prop), d' < d ∧ Spec l G d' hX2_set [.inr 16, .inl a1, .inl a2] t1 Q2 ∧ ∀ (r2 : Int32) (t2 : Mem), Q2 r2 t2 →
      post r1 t2))))) :
    AW l G d hX2_put 0 [some (.inr 16), some (.inl a1), some (.inl a2), none] [] s post := wps_ok (cut := []) oX2_put 14 0 _ _ _ h
set_option maxRecDepth 100000 in
theorem vX2_breakAt_told_0 {l : Launch} {G : GG} {d : Nat} {post : Int32 → Mem → Prop} {a1 a2 : Int32} {s : Mem} (h :
    (∃ (d' : Nat) (Q1 : Int32 → Mem → Prop), d' < d ∧ Spec l G d' hX7_isIn [.inl a1, .inl (8 : Int32)] s Q1 ∧ ∀ (r1 : Int32) (t1 : Mem), Q1 r1 t1 →
    ((r1 = 0 →
      post (1 : Int32) t1) ∧
    (¬ r1 = 0 →
      (∃ (d' : Nat) (Q2 : Int32 → Mem → Prop), d' < d ∧ Spec l G d' hX7_isIn [.inl a2, .inl (t1 1 0)] t1 Q2 ∧ ∀ (r2 : Int32) (t2 : Mem), Q2 r2 t2 →
      ((r2 = 0 →
        post (1 : Int32) t2) ∧
      (¬ r2 = 0 →
        (vp_in a1 9 ∧
        (((((t2 10 a1.toNatClampNeg) >>> (a2 &&& 31)) &&& (1 : Int32)) = 0 →
          AW l G d hX2_breakAt 40 [some (.inr 8), some (.inl a1), some (.inl a2), some (.inl (1 : Int32)), none] [] t2 post) ∧
        (¬ (((t2 10 a1.toNatClampNeg) >>> (a2 &&& 31)) &&& (1 : Int32)) = 0 →
          post (1 : Int32) t2)))))))))) :
    AW l G d hX2_breakAt 0 [some (.inr 8), some (.inl a1), some (.inl a2), none, none] [] s post := wps_ok (cut := [40]) oX2_breakAt 22 0 _ _ _ h
set_option maxRecDepth 100000 in
theorem vX2_breakAt_told_40 {l : Launch} {G : GG} {d : Nat} {post : Int32 → Mem → Prop} {a1 a2 a3 : Int32} {s : Mem} (h :
    (((3 : Int32) < a3 →
      ((a1 ≤ 0 →
        post (0 : Int32) s) ∧
      (¬ a1 ≤ 0 →
        (vp_in (a1 - (1 : Int32)) 8 ∧
        (vp_in (s 9 (a1 - (1 : Int32)).toNatClampNeg) 8 ∧
        (vp_in a2 8 ∧
        (∃ (d' : Nat) (Q1 : Int32 → Mem → Prop), d' < d ∧ Spec l G d' hX4_isBanned [.inr 1, .inl (s 3 (s 9 (a1 - (1 : Int32)).toNatClampNeg).toNatClampNeg), .inl (s 3 a2.toNatClampNeg)] s Q1 ∧ ∀ (r1 : Int32) (t1 : Mem), Q1 r1 t1 →
        ((r1 = 0 →
          post (0 : Int32) t1) ∧
        (¬ r1 = 0 →
          post (3 : Int32) t1))))))))) ∧
    (¬ (3 : Int32) < a3 →
      ((a1 < a3 →
        ((a1 ≤ 0 →
          post (0 : Int32) s) ∧
        (¬ a1 ≤ 0 →
          (vp_in (a1 - (1 : Int32)) 8 ∧
          (vp_in (s 9 (a1 - (1 : Int32)).toNatClampNeg) 8 ∧
          (vp_in a2 8 ∧
          (∃ (d' : Nat) (Q2 : Int32 → Mem → Prop), d' < d ∧ Spec l G d' hX4_isBanned [.inr 1, .inl (s 3 (s 9 (a1 - (1 : Int32)).toNatClampNeg).toNatClampNeg), .inl (s 3 a2.toNatClampNeg)] s Q2 ∧ ∀ (r2 : Int32) (t2 : Mem), Q2 r2 t2 →
          ((r2 = 0 →
            post (0 : Int32) t2) ∧
          (¬ r2 = 0 →
            post (3 : Int32) t2))))))))) ∧
      (¬ a1 < a3 →
        (vp_in a2 8 ∧
        (vp_in (a1 - a3) 8 ∧
        (vp_in (s 9 (a1 - a3).toNatClampNeg) 8 ∧
        (vp_in a3 4 ∧
        (((((s 5 a2.toNatClampNeg) &&& (s 5 (s 9 (a1 - a3).toNatClampNeg).toNatClampNeg)) &&& (s 7 a3.toNatClampNeg)) = 0 →
          AW l G d hX2_breakAt 40 [some (.inr 8), some (.inl a1), some (.inl a2), some (.inl (a3 + (1 : Int32))), some (.inl ((s 5 a2.toNatClampNeg) &&& (s 5 (s 9 (a1 - a3).toNatClampNeg).toNatClampNeg)))] [] s post) ∧
        (¬ (((s 5 a2.toNatClampNeg) &&& (s 5 (s 9 (a1 - a3).toNatClampNeg).toNatClampNeg)) &&& (s 7 a3.toNatClampNeg)) = 0 →
          post (2 : Int32) s))))))))))) :
    AW l G d hX2_breakAt 40 [some (.inr 8), some (.inl a1), some (.inl a2), some (.inl a3), none] [] s post := wps_ok (cut := [40]) oX2_breakAt 34 40 _ _ _ h
set_option maxRecDepth 100000 in
theorem vX2_breakAt_row_0 {l : Launch} {G : GG} {d : Nat} {post : Int32 → Mem → Prop} {a1 a2 : Int32} {s : Mem} (h :
    (∃ (d' : Nat) (Q1 : Int32 → Mem → Prop), d' < d ∧ Spec l G d' hX7_isIn [.inl a1, .inl (8 : Int32)] s Q1 ∧ ∀ (r1 : Int32) (t1 : Mem), Q1 r1 t1 →
    ((r1 = 0 →
      post (1 : Int32) t1) ∧
    (¬ r1 = 0 →
      (∃ (d' : Nat) (Q2 : Int32 → Mem → Prop), d' < d ∧ Spec l G d' hX7_isIn [.inl a2, .inl (t1 1 0)] t1 Q2 ∧ ∀ (r2 : Int32) (t2 : Mem), Q2 r2 t2 →
      ((r2 = 0 →
        post (1 : Int32) t2) ∧
      (¬ r2 = 0 →
        (vp_in a1 9 ∧
        (((((t2 18 a1.toNatClampNeg) >>> (a2 &&& 31)) &&& (1 : Int32)) = 0 →
          AW l G d hX2_breakAt 40 [some (.inr 16), some (.inl a1), some (.inl a2), some (.inl (1 : Int32)), none] [] t2 post) ∧
        (¬ (((t2 18 a1.toNatClampNeg) >>> (a2 &&& 31)) &&& (1 : Int32)) = 0 →
          post (1 : Int32) t2)))))))))) :
    AW l G d hX2_breakAt 0 [some (.inr 16), some (.inl a1), some (.inl a2), none, none] [] s post := wps_ok (cut := [40]) oX2_breakAt 22 0 _ _ _ h
set_option maxRecDepth 100000 in
theorem vX2_breakAt_row_40 {l : Launch} {G : GG} {d : Nat} {post : Int32 → Mem → Prop} {a1 a2 a3 : Int32} {s : Mem} (h :
    (((3 : Int32) < a3 →
      ((a1 ≤ 0 →
        post (0 : Int32) s) ∧
      (¬ a1 ≤ 0 →
        (vp_in (a1 - (1 : Int32)) 8 ∧
        (vp_in (s 17 (a1 - (1 : Int32)).toNatClampNeg) 8 ∧
        (vp_in a2 8 ∧
        (∃ (d' : Nat) (Q1 : Int32 → Mem → Prop), d' < d ∧ Spec l G d' hX4_isBanned [.inr 1, .inl (s 3 (s 17 (a1 - (1 : Int32)).toNatClampNeg).toNatClampNeg), .inl (s 3 a2.toNatClampNeg)] s Q1 ∧ ∀ (r1 : Int32) (t1 : Mem), Q1 r1 t1 →
        ((r1 = 0 →
          post (0 : Int32) t1) ∧
        (¬ r1 = 0 →
          post (3 : Int32) t1))))))))) ∧
    (¬ (3 : Int32) < a3 →
      ((a1 < a3 →
        ((a1 ≤ 0 →
          post (0 : Int32) s) ∧
        (¬ a1 ≤ 0 →
          (vp_in (a1 - (1 : Int32)) 8 ∧
          (vp_in (s 17 (a1 - (1 : Int32)).toNatClampNeg) 8 ∧
          (vp_in a2 8 ∧
          (∃ (d' : Nat) (Q2 : Int32 → Mem → Prop), d' < d ∧ Spec l G d' hX4_isBanned [.inr 1, .inl (s 3 (s 17 (a1 - (1 : Int32)).toNatClampNeg).toNatClampNeg), .inl (s 3 a2.toNatClampNeg)] s Q2 ∧ ∀ (r2 : Int32) (t2 : Mem), Q2 r2 t2 →
          ((r2 = 0 →
            post (0 : Int32) t2) ∧
          (¬ r2 = 0 →
            post (3 : Int32) t2))))))))) ∧
      (¬ a1 < a3 →
        (vp_in a2 8 ∧
        (vp_in (a1 - a3) 8 ∧
        (vp_in (s 17 (a1 - a3).toNatClampNeg) 8 ∧
        (vp_in a3 4 ∧
        (((((s 5 a2.toNatClampNeg) &&& (s 5 (s 17 (a1 - a3).toNatClampNeg).toNatClampNeg)) &&& (s 7 a3.toNatClampNeg)) = 0 →
          AW l G d hX2_breakAt 40 [some (.inr 16), some (.inl a1), some (.inl a2), some (.inl (a3 + (1 : Int32))), some (.inl ((s 5 a2.toNatClampNeg) &&& (s 5 (s 17 (a1 - a3).toNatClampNeg).toNatClampNeg)))] [] s post) ∧
        (¬ (((s 5 a2.toNatClampNeg) &&& (s 5 (s 17 (a1 - a3).toNatClampNeg).toNatClampNeg)) &&& (s 7 a3.toNatClampNeg)) = 0 →
          post (2 : Int32) s))))))))))) :
    AW l G d hX2_breakAt 40 [some (.inr 16), some (.inl a1), some (.inl a2), some (.inl a3), none] [] s post := wps_ok (cut := [40]) oX2_breakAt 34 40 _ _ _ h
set_option maxRecDepth 100000 in
theorem vX2_set_told_0 {l : Launch} {G : GG} {d : Nat} {post : Int32 → Mem → Prop} {a1 a2 : Int32} {s : Mem} (h :
    (vp_in a1 8 ∧
    (vp_in a1 9 ∧
    (vp_in (a1 + (1 : Int32)) 9 ∧
    (vp_in a1 9 ∧
    (vp_in a2 8 ∧
    (vp_in (a1 + (1 : Int32)) 9 ∧
    (∃ (d' : Nat) (Q1 : Int32 → Mem → Prop), d' < d ∧ Spec l G d' hX4_isClowns [.inr 1, .inl a2] (wrM (wrM (wrM s 9 a1.toNatClampNeg a2) 10 (a1 + (1 : Int32)).toNatClampNeg (((wrM s 9 a1.toNatClampNeg a2) 10 a1.toNatClampNeg) ||| ((1 : Int32) <<< (a2 &&& 31)))) 14 (a1 + (1 : Int32)).toNatClampNeg (((wrM (wrM s 9 a1.toNatClampNeg a2) 10 (a1 + (1 : Int32)).toNatClampNeg (((wrM s 9 a1.toNatClampNeg a2) 10 a1.toNatClampNeg) ||| ((1 : Int32) <<< (a2 &&& 31)))) 14 a1.toNatClampNeg) + (((wrM (wrM s 9 a1.toNatClampNeg a2) 10 (a1 + (1 : Int32)).toNatClampNeg (((wrM s 9 a1.toNatClampNeg a2) 10 a1.toNatClampNeg) ||| ((1 : Int32) <<< (a2 &&& 31)))) 4 a2.toNatClampNeg) * (a1 + (1 : Int32))))) Q1 ∧ ∀ (r1 : Int32) (t1 : Mem), Q1 r1 t1 →
    ((r1 = 0 →
      (vp_in a1 9 ∧
      (vp_in a2 8 ∧
      (∃ (d' : Nat) (Q2 : Int32 → Mem → Prop), d' < d ∧ Spec l G d' hJ6_bitCount_0f7a4 [.inl ((t1 11 a1.toNatClampNeg) ^^^ (t1 6 a2.toNatClampNeg))] t1 Q2 ∧ ∀ (r2 : Int32) (t2 : Mem), Q2 r2 t2 →
      (vp_in a1 9 ∧
      (vp_in a1 9 ∧
      (1 ≤ d ∧
      (vp_in (a1 + (1 : Int32)) 9 ∧
      (vp_in a2 8 ∧
      (vp_in (a1 + (1 : Int32)) 9 ∧
      (vp_in (a1 + (1 : Int32)) 9 ∧
      post 0 (wrM (wrM (wrM t2 13 (a1 + (1 : Int32)).toNatClampNeg ((t2 13 a1.toNatClampNeg) + (if (0 : Int32) < (((2 : Int32) * r2) - (t2 12 a1.toNatClampNeg)) then (((2 : Int32) * r2) - (t2 12 a1.toNatClampNeg)) else (0 : Int32)))) 11 (a1 + (1 : Int32)).toNatClampNeg ((wrM t2 13 (a1 + (1 : Int32)).toNatClampNeg ((t2 13 a1.toNatClampNeg) + (if (0 : Int32) < (((2 : Int32) * r2) - (t2 12 a1.toNatClampNeg)) then (((2 : Int32) * r2) - (t2 12 a1.toNatClampNeg)) else (0 : Int32)))) 6 a2.toNatClampNeg)) 12 (a1 + (1 : Int32)).toNatClampNeg (0 : Int32))))))))))))) ∧
    (¬ r1 = 0 →
      (vp_in a1 9 ∧
      (vp_in (a1 + (1 : Int32)) 9 ∧
      (vp_in a1 9 ∧
      (vp_in (a1 + (1 : Int32)) 9 ∧
      (vp_in a1 9 ∧
      (vp_in a2 8 ∧
      (vp_in (a1 + (1 : Int32)) 9 ∧
      post 0 (wrM (wrM (wrM t1 13 (a1 + (1 : Int32)).toNatClampNeg (t1 13 a1.toNatClampNeg)) 11 (a1 + (1 : Int32)).toNatClampNeg ((wrM t1 13 (a1 + (1 : Int32)).toNatClampNeg (t1 13 a1.toNatClampNeg)) 11 a1.toNatClampNeg)) 12 (a1 + (1 : Int32)).toNatClampNeg (((wrM (wrM t1 13 (a1 + (1 : Int32)).toNatClampNeg (t1 13 a1.toNatClampNeg)) 11 (a1 + (1 : Int32)).toNatClampNeg ((wrM t1 13 (a1 + (1 : Int32)).toNatClampNeg (t1 13 a1.toNatClampNeg)) 11 a1.toNatClampNeg)) 12 a1.toNatClampNeg) + ((wrM (wrM t1 13 (a1 + (1 : Int32)).toNatClampNeg (t1 13 a1.toNatClampNeg)) 11 (a1 + (1 : Int32)).toNatClampNeg ((wrM t1 13 (a1 + (1 : Int32)).toNatClampNeg (t1 13 a1.toNatClampNeg)) 11 a1.toNatClampNeg)) 2 a2.toNatClampNeg)))))))))))))))))))) :
    AW l G d hX2_set 0 [some (.inr 8), some (.inl a1), some (.inl a2), none, none] [] s post := wps_ok (cut := []) oX2_set 89 0 _ _ _ h
set_option maxRecDepth 100000 in
theorem vX2_set_row_0 {l : Launch} {G : GG} {d : Nat} {post : Int32 → Mem → Prop} {a1 a2 : Int32} {s : Mem} (h :
    (vp_in a1 8 ∧
    (vp_in a1 9 ∧
    (vp_in (a1 + (1 : Int32)) 9 ∧
    (vp_in a1 9 ∧
    (vp_in a2 8 ∧
    (vp_in (a1 + (1 : Int32)) 9 ∧
    (∃ (d' : Nat) (Q1 : Int32 → Mem → Prop), d' < d ∧ Spec l G d' hX4_isClowns [.inr 1, .inl a2] (wrM (wrM (wrM s 17 a1.toNatClampNeg a2) 18 (a1 + (1 : Int32)).toNatClampNeg (((wrM s 17 a1.toNatClampNeg a2) 18 a1.toNatClampNeg) ||| ((1 : Int32) <<< (a2 &&& 31)))) 22 (a1 + (1 : Int32)).toNatClampNeg (((wrM (wrM s 17 a1.toNatClampNeg a2) 18 (a1 + (1 : Int32)).toNatClampNeg (((wrM s 17 a1.toNatClampNeg a2) 18 a1.toNatClampNeg) ||| ((1 : Int32) <<< (a2 &&& 31)))) 22 a1.toNatClampNeg) + (((wrM (wrM s 17 a1.toNatClampNeg a2) 18 (a1 + (1 : Int32)).toNatClampNeg (((wrM s 17 a1.toNatClampNeg a2) 18 a1.toNatClampNeg) ||| ((1 : Int32) <<< (a2 &&& 31)))) 4 a2.toNatClampNeg) * (a1 + (1 : Int32))))) Q1 ∧ ∀ (r1 : Int32) (t1 : Mem), Q1 r1 t1 →
    ((r1 = 0 →
      (vp_in a1 9 ∧
      (vp_in a2 8 ∧
      (∃ (d' : Nat) (Q2 : Int32 → Mem → Prop), d' < d ∧ Spec l G d' hJ6_bitCount_0f7a4 [.inl ((t1 19 a1.toNatClampNeg) ^^^ (t1 6 a2.toNatClampNeg))] t1 Q2 ∧ ∀ (r2 : Int32) (t2 : Mem), Q2 r2 t2 →
      (vp_in a1 9 ∧
      (vp_in a1 9 ∧
      (1 ≤ d ∧
      (vp_in (a1 + (1 : Int32)) 9 ∧
      (vp_in a2 8 ∧
      (vp_in (a1 + (1 : Int32)) 9 ∧
      (vp_in (a1 + (1 : Int32)) 9 ∧
      post 0 (wrM (wrM (wrM t2 21 (a1 + (1 : Int32)).toNatClampNeg ((t2 21 a1.toNatClampNeg) + (if (0 : Int32) < (((2 : Int32) * r2) - (t2 20 a1.toNatClampNeg)) then (((2 : Int32) * r2) - (t2 20 a1.toNatClampNeg)) else (0 : Int32)))) 19 (a1 + (1 : Int32)).toNatClampNeg ((wrM t2 21 (a1 + (1 : Int32)).toNatClampNeg ((t2 21 a1.toNatClampNeg) + (if (0 : Int32) < (((2 : Int32) * r2) - (t2 20 a1.toNatClampNeg)) then (((2 : Int32) * r2) - (t2 20 a1.toNatClampNeg)) else (0 : Int32)))) 6 a2.toNatClampNeg)) 20 (a1 + (1 : Int32)).toNatClampNeg (0 : Int32))))))))))))) ∧
    (¬ r1 = 0 →
      (vp_in a1 9 ∧
      (vp_in (a1 + (1 : Int32)) 9 ∧
      (vp_in a1 9 ∧
      (vp_in (a1 + (1 : Int32)) 9 ∧
      (vp_in a1 9 ∧
      (vp_in a2 8 ∧
      (vp_in (a1 + (1 : Int32)) 9 ∧
      post 0 (wrM (wrM (wrM t1 21 (a1 + (1 : Int32)).toNatClampNeg (t1 21 a1.toNatClampNeg)) 19 (a1 + (1 : Int32)).toNatClampNeg ((wrM t1 21 (a1 + (1 : Int32)).toNatClampNeg (t1 21 a1.toNatClampNeg)) 19 a1.toNatClampNeg)) 20 (a1 + (1 : Int32)).toNatClampNeg (((wrM (wrM t1 21 (a1 + (1 : Int32)).toNatClampNeg (t1 21 a1.toNatClampNeg)) 19 (a1 + (1 : Int32)).toNatClampNeg ((wrM t1 21 (a1 + (1 : Int32)).toNatClampNeg (t1 21 a1.toNatClampNeg)) 19 a1.toNatClampNeg)) 20 a1.toNatClampNeg) + ((wrM (wrM t1 21 (a1 + (1 : Int32)).toNatClampNeg (t1 21 a1.toNatClampNeg)) 19 (a1 + (1 : Int32)).toNatClampNeg ((wrM t1 21 (a1 + (1 : Int32)).toNatClampNeg (t1 21 a1.toNatClampNeg)) 19 a1.toNatClampNeg)) 2 a2.toNatClampNeg)))))))))))))))))))) :
    AW l G d hX2_set 0 [some (.inr 16), some (.inl a1), some (.inl a2), none, none] [] s post := wps_ok (cut := []) oX2_set 89 0 _ _ _ h
set_option maxRecDepth 100000 in
theorem vX3_has_0 {l : Launch} {G : GG} {d : Nat} {post : Int32 → Mem → Prop} {a1 : Int32} {s : Mem} (h :
    (∃ (d' : Nat) (Q1 : Int32 → Mem → Prop), d' < d ∧ Spec l G d' hX7_isIn [.inl a1, .inl (s 33 0)] s Q1 ∧ ∀ (r1 : Int32) (t1 : Mem), Q1 r1 t1 →
    (bool01 r1 ∧ post r1 t1))) :
    AW l G d hX3_has 0 [some (.inr 33), some (.inl a1)] [] s post := wps_ok (cut := []) oX3_has 6 0 _ _ _ h
set_option maxRecDepth 100000 in
theorem vX3_add_0 {l : Launch} {G : GG} {d : Nat} {post : Int32 → Mem → Prop} {a1 a2 a3 : Int32} {s : Mem} (h :
    (((8 : Int32) ≤ (s 33 0) →
      post (-1 : Int32) s) ∧
    (¬ (8 : Int32) ≤ (s 33 0) →
      ((a1 < 0 →
        post (-1 : Int32) s) ∧
      (¬ a1 < 0 →
        ((a1 ≤ (10000 : Int32) →
          (∃ (d' : Nat) (Q1 : Int32 → Mem → Prop), d' < d ∧ Spec l G d' hX7_isIn [.inl a2, .inl (30 : Int32)] s Q1 ∧ ∀ (r1 : Int32) (t1 : Mem), Q1 r1 t1 →
          ((r1 = 0 →
            post (-1 : Int32) t1) ∧
          (¬ r1 = 0 →
            (∃ (d' : Nat) (Q2 : Int32 → Mem → Prop), d' < d ∧ Spec l G d' hX7_isIn [.inl a3, .inl (30 : Int32)] t1 Q2 ∧ ∀ (r2 : Int32) (t2 : Mem), Q2 r2 t2 →
            ((r2 = 0 →
              post (-1 : Int32) t2) ∧
            (¬ r2 = 0 →
              ((a2 ≤ a3 →
                (vp_in (t2 33 0) 8 ∧
                (vp_in (t2 33 0) 8 ∧
                (vp_in (t2 33 0) 8 ∧
                post (t2 33 0) (wrM (wrM (wrM (wrM (wrM t2 34 (t2 33 0).toNatClampNeg a1) 35 (t2 33 0).toNatClampNeg a2) 36 (t2 33 0).toNatClampNeg a3) 33 0 (((wrM (wrM (wrM t2 34 (t2 33 0).toNatClampNeg a1) 35 (t2 33 0).toNatClampNeg a2) 36 (t2 33 0).toNatClampNeg a3) 33 0) + (1 : Int32))) 33 6 (((wrM (wrM (wrM (wrM t2 34 (t2 33 0).toNatClampNeg a1) 35 (t2 33 0).toNatClampNeg a2) 36 (t2 33 0).toNatClampNeg a3) 33 0 (((wrM (wrM (wrM t2 34 (t2 33 0).toNatClampNeg a1) 35 (t2 33 0).toNatClampNeg a2) 36 (t2 33 0).toNatClampNeg a3) 33 0) + (1 : Int32))) 33 6) + (1 : Int32))))))) ∧
              (¬ a2 ≤ a3 →
                post (-1 : Int32) t2))))))))) ∧
        (¬ a1 ≤ (10000 : Int32) →
          post (-1 : Int32) s))))))) :
    AW l G d hX3_add 0 [some (.inr 33), some (.inl a1), some (.inl a2), some (.inl a3), none] [] s post := wps_ok (cut := []) oX3_add 53 0 _ _ _ h
set_option maxRecDepth 100000 in
theorem vX3_join_0 {l : Launch} {G : GG} {d : Nat} {post : Int32 → Mem → Prop} {a1 a2 a3 : Int32} {s : Mem} (h :
    (∃ (d' : Nat) (Q1 : Int32 → Mem → Prop), d' < d ∧ Spec l G d' hX3_has [.inr 33, .inl a1] s Q1 ∧ ∀ (r1 : Int32) (t1 : Mem), Q1 r1 t1 →
    ((r1 = 0 →
      (bool01 (0 : Int32) ∧ post (0 : Int32) t1)) ∧
    (¬ r1 = 0 →
      (∃ (d' : Nat) (Q2 : Int32 → Mem → Prop), d' < d ∧ Spec l G d' hX3_has [.inr 33, .inl a2] t1 Q2 ∧ ∀ (r2 : Int32) (t2 : Mem), Q2 r2 t2 →
      ((r2 = 0 →
        (bool01 (0 : Int32) ∧ post (0 : Int32) t2)) ∧
      (¬ r2 = 0 →
        ((a1 = a2 →
          (bool01 (0 : Int32) ∧ post (0 : Int32) t2)) ∧
        (¬ a1 = a2 →
          ((a3 < (1 : Int32) →
            (bool01 (0 : Int32) ∧ post (0 : Int32) t2)) ∧
          (¬ a3 < (1 : Int32) →
            ((a3 ≤ (99 : Int32) →
              (vp_in ((a1 * (8 : Int32)) + a2) 64 ∧
              (vp_in ((a2 * (8 : Int32)) + a1) 64 ∧
              (∃ (d' : Nat) (Q3 : Int32 → Mem → Prop), d' < d ∧ Spec l G d' hX3_measure [.inr 33] (wrM (wrM (wrM t2 37 ((a1 * (8 : Int32)) + a2).toNatClampNeg a3) 37 ((a2 * (8 : Int32)) + a1).toNatClampNeg a3) 33 6 (((wrM (wrM t2 37 ((a1 * (8 : Int32)) + a2).toNatClampNeg a3) 37 ((a2 * (8 : Int32)) + a1).toNatClampNeg a3) 33 6) + (1 : Int32))) Q3 ∧ ∀ (r3 : Int32) (t3 : Mem), Q3 r3 t3 →
              (bool01 (1 : Int32) ∧ post (1 : Int32) t3))))) ∧
            (¬ a3 ≤ (99 : Int32) →
              (bool01 (0 : Int32) ∧ post (0 : Int32) t2)))))))))))))) :
    AW l G d hX3_join 0 [some (.inr 33), some (.inl a1), some (.inl a2), some (.inl a3)] [] s post := wps_ok (cut := []) oX3_join 46 0 _ _ _ h
set_option maxRecDepth 100000 in
theorem vX3_measure_0 {l : Launch} {G : GG} {d : Nat} {post : Int32 → Mem → Prop} {s : Mem} (h :
    ((1 ≤ d ∧ ¬ (0 : Int32) < 0 ∧ ¬ (0 : Int32) < 0 ∧ ¬ (64 : Int32) < 0 ∧ (0 : Int32).toNatClampNeg + (64 : Int32).toNatClampNeg ≤ 64 ∧ (0 : Int32).toNatClampNeg + (64 : Int32).toNatClampNeg ≤ 64) ∧
    AW l G d hX3_measure 17 [some (.inr 33), some (.inl (0 : Int32)), none, none] [] (stM s 38 (va_cpy (s 37) (s 38) (0 : Int32).toNatClampNeg (0 : Int32).toNatClampNeg (64 : Int32).toNatClampNeg)) post)) :
    AW l G d hX3_measure 0 [some (.inr 33), none, none, none] [] s post := wps_ok (cut := [17, 27, 37]) oX3_measure 11 0 _ _ _ h
set_option maxRecDepth 100000 in
theorem vX3_measure_17 {l : Launch} {G : GG} {d : Nat} {post : Int32 → Mem → Prop} {a1 : Int32} {s : Mem} (h :
    (((s 33 0) ≤ a1 →
      post 0 s) ∧
    (¬ (s 33 0) ≤ a1 →
      AW l G d hX3_measure 27 [some (.inr 33), some (.inl a1), some (.inl (0 : Int32)), none] [] s post))) :
    AW l G d hX3_measure 17 [some (.inr 33), some (.inl a1), none, none] [] s post := wps_ok (cut := [17, 27, 37]) oX3_measure 7 17 _ _ _ h
set_option maxRecDepth 100000 in
theorem vX3_measure_27 {l : Launch} {G : GG} {d : Nat} {post : Int32 → Mem → Prop} {a1 a2 : Int32} {s : Mem} (h :
    (((s 33 0) ≤ a2 →
      AW l G d hX3_measure 17 [some (.inr 33), some (.inl (a1 + (1 : Int32))), some (.inl a2), none] [] s post) ∧
    (¬ (s 33 0) ≤ a2 →
      AW l G d hX3_measure 37 [some (.inr 33), some (.inl a1), some (.inl a2), some (.inl (0 : Int32))] [] s post))) :
    AW l G d hX3_measure 27 [some (.inr 33), some (.inl a1), some (.inl a2), none] [] s post := wps_ok (cut := [17, 27, 37]) oX3_measure 7 27 _ _ _ h
set_option maxRecDepth 100000 in
theorem vX3_measure_37 {l : Launch} {G : GG} {d : Nat} {post : Int32 → Mem → Prop} {a1 a2 a3 : Int32} {s : Mem} (h :
    (((s 33 0) ≤ a3 →
      AW l G d hX3_measure 27 [some (.inr 33), some (.inl a1), some (.inl (a2 + (1 : Int32))), some (.inl a3)] [] s post) ∧
    (¬ (s 33 0) ≤ a3 →
      (∃ (d' : Nat) (Q1 : Int32 → Mem → Prop), d' < d ∧ Spec l G d' hX3_goBy [.inr 33, .inl a2, .inl a1, .inl a3] s Q1 ∧ ∀ (r1 : Int32) (t1 : Mem), Q1 r1 t1 →
      AW l G d hX3_measure 37 [some (.inr 33), some (.inl a1), some (.inl a2), some (.inl (a3 + (1 : Int32)))] [] t1 post)))) :
    AW l G d hX3_measure 37 [some (.inr 33), some (.inl a1), some (.inl a2), some (.inl a3)] [] s post := wps_ok (cut := [17, 27, 37]) oX3_measure 12 37 _ _ _ h
set_option maxRecDepth 100000 in
theorem vX3_goBy_0 {l : Launch} {G : GG} {d : Nat} {post : Int32 → Mem → Prop} {a1 a2 a3 : Int32} {s : Mem} (h :
    (vp_in ((a1 * (8 : Int32)) + a2) 64 ∧
    (vp_in ((a2 * (8 : Int32)) + a3) 64 ∧
    (vp_in ((a1 * (8 : Int32)) + a3) 64 ∧
    (((s 38 ((a1 * (8 : Int32)) + a2).toNatClampNeg) = (-1 : Int32) →
      post 0 s) ∧
    (¬ (s 38 ((a1 * (8 : Int32)) + a2).toNatClampNeg) = (-1 : Int32) →
      (((s 38 ((a2 * (8 : Int32)) + a3).toNatClampNeg) = (-1 : Int32) →
        post 0 s) ∧
      (¬ (s 38 ((a2 * (8 : Int32)) + a3).toNatClampNeg) = (-1 : Int32) →
        (((s 38 ((a1 * (8 : Int32)) + a3).toNatClampNeg) = (-1 : Int32) →
          (vp_in ((a1 * (8 : Int32)) + a3) 64 ∧
          post 0 (wrM s 38 ((a1 * (8 : Int32)) + a3).toNatClampNeg ((s 38 ((a1 * (8 : Int32)) + a2).toNatClampNeg) + (s 38 ((a2 * (8 : Int32)) + a3).toNatClampNeg))))) ∧
        (¬ (s 38 ((a1 * (8 : Int32)) + a3).toNatClampNeg) = (-1 : Int32) →
          (((s 38 ((a1 * (8 : Int32)) + a3).toNatClampNeg) ≤ ((s 38 ((a1 * (8 : Int32)) + a2).toNatClampNeg) + (s 38 ((a2 * (8 : Int32)) + a3).toNatClampNeg)) →
            post 0 s) ∧
          (¬ (s 38 ((a1 * (8 : Int32)) + a3).toNatClampNeg) ≤ ((s 38 ((a1 * (8 : Int32)) + a2).toNatClampNeg) + (s 38 ((a2 * (8 : Int32)) + a3).toNatClampNeg)) →
            (vp_in ((a1 * (8 : Int32)) + a3) 64 ∧
            post 0 (wrM s 38 ((a1 * (8 : Int32)) + a3).toNatClampNeg ((s 38 ((a1 * (8 : Int32)) + a2).toNatClampNeg) + (s 38 ((a2 * (8 : Int32)) + a3).toNatClampNeg)))))))))))))))) :
    AW l G d hX3_goBy 0 [some (.inr 33), some (.inl a1), some (.inl a2), some (.inl a3), none, none, none] [] s post := wps_ok (cut := []) oX3_goBy 54 0 _ _ _ h
set_option maxRecDepth 100000 in
theorem vX3_leastHours_0 {l : Launch} {G : GG} {d : Nat} {post : Int32 → Mem → Prop} {a1 a2 : Int32} {s : Mem} (h :
    (vp_in ((a1 * (8 : Int32)) + a2) 64 ∧
    post (s 38 ((a1 * (8 : Int32)) + a2).toNatClampNeg) s)) :
    AW l G d hX3_leastHours 0 [some (.inr 33), some (.inl a1), some (.inl a2)] [] s post := wps_ok (cut := []) oX3_leastHours 10 0 _ _ _ h
set_option maxRecDepth 100000 in
theorem vX3_nightBehind_0 {l : Launch} {G : GG} {d : Nat} {post : Int32 → Mem → Prop} {a1 a2 a3 : Int32} {s : Mem} (h :
    (∃ (d' : Nat) (Q1 : Int32 → Mem → Prop), d' < d ∧ Spec l G d' hX3_leastHours [.inr 33, .inl a1, .inl a3] s Q1 ∧ ∀ (r1 : Int32) (t1 : Mem), Q1 r1 t1 →
    ((¬ r1 = (-1 : Int32) →
      (¬ (10 : Int32) = 0 ∧
      (vp_in a3 8 ∧
      (1 ≤ d ∧
      (vp_in a3 8 ∧
      (((t1 36 a3.toNatClampNeg) < (if (a2 + (((r1 + (10 : Int32)) - (1 : Int32)) / (10 : Int32))) < (t1 35 a3.toNatClampNeg) then (t1 35 a3.toNatClampNeg) else (a2 + (((r1 + (10 : Int32)) - (1 : Int32)) / (10 : Int32)))) →
        post (-1 : Int32) t1) ∧
      (¬ (t1 36 a3.toNatClampNeg) < (if (a2 + (((r1 + (10 : Int32)) - (1 : Int32)) / (10 : Int32))) < (t1 35 a3.toNatClampNeg) then (t1 35 a3.toNatClampNeg) else (a2 + (((r1 + (10 : Int32)) - (1 : Int32)) / (10 : Int32)))) →
        post (if (a2 + (((r1 + (10 : Int32)) - (1 : Int32)) / (10 : Int32))) < (t1 35 a3.toNatClampNeg) then (t1 35 a3.toNatClampNeg) else (a2 + (((r1 + (10 : Int32)) - (1 : Int32)) / (10 : Int32)))) t1))))))) ∧
    (r1 = (-1 : Int32) →
      post (-1 : Int32) t1)))) :
    AW l G d hX3_nightBehind 0 [some (.inr 33), some (.inl a1), some (.inl a2), some (.inl a3), none, none, none] [] s post := wps_ok (cut := []) oX3_nightBehind 35 0 _ _ _ h
set_option maxRecDepth 100000 in
theorem vX4_add_0 {l : Launch} {G : GG} {d : Nat} {post : Int32 → Mem → Prop} {a1 a2 a3 : Int32} {s : Mem} (h :
    (((8 : Int32) ≤ (s 1 0) →
      post (-1 : Int32) s) ∧
    (¬ (8 : Int32) ≤ (s 1 0) →
      (∃ (d' : Nat) (Q1 : Int32 → Mem → Prop), d' < d ∧ Spec l G d' hX4_canBe [.inl a1, .inl a2, .inl a3] s Q1 ∧ ∀ (r1 : Int32) (t1 : Mem), Q1 r1 t1 →
      ((¬ r1 = 0 →
        (¬ (1000 : Int32) = 0 ∧
        (vp_in (t1 1 0) 8 ∧
        (¬ (100 : Int32) = 0 ∧
        (¬ (10 : Int32) = 0 ∧
        (vp_in (t1 1 0) 8 ∧
        (¬ (100 : Int32) = 0 ∧
        (vp_in (t1 1 0) 8 ∧
        (vp_in (t1 1 0) 8 ∧
        (vp_in (t1 1 0) 8 ∧
        post (t1 1 0) (wrM (wrM (wrM (wrM (wrM (wrM (wrM t1 2 (t1 1 0).toNatClampNeg (a1 / (1000 : Int32))) 3 (t1 1 0).toNatClampNeg ((a1 / (100 : Int32)) - (a1 / (100 : Int32)) / (10 : Int32) * (10 : Int32))) 4 (t1 1 0).toNatClampNeg (a1 - a1 / (100 : Int32) * (100 : Int32))) 5 (t1 1 0).toNatClampNeg a2) 6 (t1 1 0).toNatClampNeg a3) 1 0 (((wrM (wrM (wrM (wrM (wrM t1 2 (t1 1 0).toNatClampNeg (a1 / (1000 : Int32))) 3 (t1 1 0).toNatClampNeg ((a1 / (100 : Int32)) - (a1 / (100 : Int32)) / (10 : Int32) * (10 : Int32))) 4 (t1 1 0).toNatClampNeg (a1 - a1 / (100 : Int32) * (100 : Int32))) 5 (t1 1 0).toNatClampNeg a2) 6 (t1 1 0).toNatClampNeg a3) 1 0) + (1 : Int32))) 1 8 (((wrM (wrM (wrM (wrM (wrM (wrM t1 2 (t1 1 0).toNatClampNeg (a1 / (1000 : Int32))) 3 (t1 1 0).toNatClampNeg ((a1 / (100 : Int32)) - (a1 / (100 : Int32)) / (10 : Int32) * (10 : Int32))) 4 (t1 1 0).toNatClampNeg (a1 - a1 / (100 : Int32) * (100 : Int32))) 5 (t1 1 0).toNatClampNeg a2) 6 (t1 1 0).toNatClampNeg a3) 1 0 (((wrM (wrM (wrM (wrM (wrM t1 2 (t1 1 0).toNatClampNeg (a1 / (1000 : Int32))) 3 (t1 1 0).toNatClampNeg ((a1 / (100 : Int32)) - (a1 / (100 : Int32)) / (10 : Int32) * (10 : Int32))) 4 (t1 1 0).toNatClampNeg (a1 - a1 / (100 : Int32) * (100 : Int32))) 5 (t1 1 0).toNatClampNeg a2) 6 (t1 1 0).toNatClampNeg a3) 1 0) + (1 : Int32))) 1 8) + (1 : Int32))))))))))))) ∧
      (r1 = 0 →
        post (-1 : Int32) t1)))))) :
    AW l G d hX4_add 0 [some (.inr 1), some (.inl a1), some (.inl a2), some (.inl a3), none] [] s post := wps_ok (cut := []) oX4_add 60 0 _ _ _ h
set_option maxRecDepth 100000 in
theorem vX4_canBe_0 {l : Launch} {G : GG} {d : Nat} {post : Int32 → Mem → Prop} {a0 a1 a2 : Int32} {s : Mem} (h :
    ((a0 < (1000 : Int32) →
      (bool01 (0 : Int32) ∧ post (0 : Int32) s)) ∧
    (¬ a0 < (1000 : Int32) →
      (¬ (1000 : Int32) = 0 ∧
      (((a0 / (1000 : Int32)) ≤ (60 : Int32) →
        (¬ (100 : Int32) = 0 ∧
        (¬ (10 : Int32) = 0 ∧
        (((4 : Int32) ≤ ((a0 / (100 : Int32)) - (a0 / (100 : Int32)) / (10 : Int32) * (10 : Int32)) →
          (bool01 (0 : Int32) ∧ post (0 : Int32) s)) ∧
        (¬ (4 : Int32) ≤ ((a0 / (100 : Int32)) - (a0 / (100 : Int32)) / (10 : Int32) * (10 : Int32)) →
          ((a1 < 0 →
            (bool01 (0 : Int32) ∧ post (0 : Int32) s)) ∧
          (¬ a1 < 0 →
            ((a1 ≤ (1023 : Int32) →
              ((a2 < 0 →
                (bool01 (0 : Int32) ∧ post (0 : Int32) s)) ∧
              (¬ a2 < 0 →
                ((¬ ((a0 / (100 : Int32)) - (a0 / (100 : Int32)) / (10 : Int32) * (10 : Int32)) = (3 : Int32) →
                  (((255 : Int32) < a2 →
                    (bool01 (0 : Int32) ∧ post (0 : Int32) s)) ∧
                  (¬ (255 : Int32) < a2 →
                    (bool01 (1 : Int32) ∧ post (1 : Int32) s)))) ∧
                (((a0 / (100 : Int32)) - (a0 / (100 : Int32)) / (10 : Int32) * (10 : Int32)) = (3 : Int32) →
                  (((0 : Int32) < a2 →
                    (bool01 (0 : Int32) ∧ post (0 : Int32) s)) ∧
                  (¬ (0 : Int32) < a2 →
                    (bool01 (1 : Int32) ∧ post (1 : Int32) s)))))))) ∧
            (¬ a1 ≤ (1023 : Int32) →
              (bool01 (0 : Int32) ∧ post (0 : Int32) s)))))))))) ∧
      (¬ (a0 / (1000 : Int32)) ≤ (60 : Int32) →
        (bool01 (0 : Int32) ∧ post (0 : Int32) s))))))) :
    AW l G d hX4_canBe 0 [some (.inl a0), some (.inl a1), some (.inl a2), none] [] s post := wps_ok (cut := []) oX4_canBe 35 0 _ _ _ h
set_option maxRecDepth 100000 in
theorem vX4_setRest_0 {l : Launch} {G : GG} {d : Nat} {post : Int32 → Mem → Prop} {a1 a2 : Int32} {s : Mem} (h :
    (∃ (d' : Nat) (Q1 : Int32 → Mem → Prop), d' < d ∧ Spec l G d' hX7_isIn [.inl a1, .inl (10 : Int32)] s Q1 ∧ ∀ (r1 : Int32) (t1 : Mem), Q1 r1 t1 →
    ((r1 = 0 →
      (bool01 (0 : Int32) ∧ post (0 : Int32) t1)) ∧
    (¬ r1 = 0 →
      ((a2 < 0 →
        (bool01 (0 : Int32) ∧ post (0 : Int32) t1)) ∧
      (¬ a2 < 0 →
        ((a2 ≤ (3 : Int32) →
          AW l G d hX4_setRest 22 [some (.inr 1), some (.inl a1), some (.inl a2), some (.inl (1 : Int32))] [] t1 post) ∧
        (¬ a2 ≤ (3 : Int32) →
          (bool01 (0 : Int32) ∧ post (0 : Int32) t1))))))))) :
    AW l G d hX4_setRest 0 [some (.inr 1), some (.inl a1), some (.inl a2), none] [] s post := wps_ok (cut := [22]) oX4_setRest 12 0 _ _ _ h
set_option maxRecDepth 100000 in
theorem vX4_setRest_22 {l : Launch} {G : GG} {d : Nat} {post : Int32 → Mem → Prop} {a1 a2 a3 : Int32} {s : Mem} (h :
    (((3 : Int32) < a3 →
      (bool01 (1 : Int32) ∧ post (1 : Int32) (wrM s 1 8 ((s 1 8) + (1 : Int32))))) ∧
    (¬ (3 : Int32) < a3 →
      ((a2 < a3 →
        (vp_in a3 4 ∧
        (vp_in a3 4 ∧
        AW l G d hX4_setRest 22 [some (.inr 1), some (.inl a1), some (.inl a2), some (.inl (a3 + (1 : Int32)))] [] (wrM s 7 a3.toNatClampNeg ((s 7 a3.toNatClampNeg) &&& (((1 : Int32) <<< (a1 &&& 31)) ^^^ (-1 : Int32)))) post))) ∧
      (¬ a2 < a3 →
        (vp_in a3 4 ∧
        (vp_in a3 4 ∧
        AW l G d hX4_setRest 22 [some (.inr 1), some (.inl a1), some (.inl a2), some (.inl (a3 + (1 : Int32)))] [] (wrM s 7 a3.toNatClampNeg ((s 7 a3.toNatClampNeg) ||| ((1 : Int32) <<< (a1 &&& 31)))) post))))))) :
    AW l G d hX4_setRest 22 [some (.inr 1), some (.inl a1), some (.inl a2), some (.inl a3)] [] s post := wps_ok (cut := [22]) oX4_setRest 21 22 _ _ _ h
set_option maxRecDepth 100000 in
theorem vX4_setBan_0 {l : Launch} {G : GG} {d : Nat} {post : Int32 → Mem → Prop} {a1 a2 a3 : Int32} {s : Mem} (h :
    (∃ (d' : Nat) (Q1 : Int32 → Mem → Prop), d' < d ∧ Spec l G d' hX7_isIn [.inl a1, .inl (4 : Int32)] s Q1 ∧ ∀ (r1 : Int32) (t1 : Mem), Q1 r1 t1 →
    ((r1 = 0 →
      (bool01 (0 : Int32) ∧ post (0 : Int32) t1)) ∧
    (¬ r1 = 0 →
      (∃ (d' : Nat) (Q2 : Int32 → Mem → Prop), d' < d ∧ Spec l G d' hX7_isIn [.inl a2, .inl (4 : Int32)] t1 Q2 ∧ ∀ (r2 : Int32) (t2 : Mem), Q2 r2 t2 →
      ((r2 = 0 →
        (bool01 (0 : Int32) ∧ post (0 : Int32) t2)) ∧
      (¬ r2 = 0 →
        (∃ (d' : Nat) (Q3 : Int32 → Mem → Prop), d' < d ∧ Spec l G d' hX4_isBanned [.inr 1, .inl a1, .inl a2] t2 Q3 ∧ ∀ (r3 : Int32) (t3 : Mem), Q3 r3 t3 →
        ((¬ r3 = a3 →
          (bool01 (1 : Int32) ∧ post (1 : Int32) (wrM (wrM t3 1 7 ((t3 1 7) ^^^ ((1 : Int32) <<< (((a1 * (4 : Int32)) + a2) &&& 31)))) 1 8 (((wrM t3 1 7 ((t3 1 7) ^^^ ((1 : Int32) <<< (((a1 * (4 : Int32)) + a2) &&& 31)))) 1 8) + (1 : Int32))))) ∧
        (r3 = a3 →
          (bool01 (0 : Int32) ∧ post (0 : Int32) t3))))))))))) :
    AW l G d hX4_setBan 0 [some (.inr 1), some (.inl a1), some (.inl a2), some (.inl a3)] [] s post := wps_ok (cut := []) oX4_setBan 35 0 _ _ _ h
set_option maxRecDepth 100000 in
theorem vX4_isBanned_0 {l : Launch} {G : GG} {d : Nat} {post : Int32 → Mem → Prop} {a1 a2 : Int32} {s : Mem} (h :
    (((((s 1 7) >>> (((a1 * (4 : Int32)) + a2) &&& 31)) &&& (1 : Int32)) = 0 →
      (bool01 (0 : Int32) ∧ post (0 : Int32) s)) ∧
    (¬ (((s 1 7) >>> (((a1 * (4 : Int32)) + a2) &&& 31)) &&& (1 : Int32)) = 0 →
      (bool01 (1 : Int32) ∧ post (1 : Int32) s)))) :
    AW l G d hX4_isBanned 0 [some (.inr 1), some (.inl a1), some (.inl a2)] [] s post := wps_ok (cut := []) oX4_isBanned 15 0 _ _ _ h
set_option maxRecDepth 100000 in
theorem vX4_isClowns_0 {l : Launch} {G : GG} {d : Nat} {post : Int32 → Mem → Prop} {a1 : Int32} {s : Mem} (h :
    (vp_in a1 8 ∧
    ((¬ (s 3 a1.toNatClampNeg) = (3 : Int32) →
      (bool01 (0 : Int32) ∧ post (0 : Int32) s)) ∧
    ((s 3 a1.toNatClampNeg) = (3 : Int32) →
      (bool01 (1 : Int32) ∧ post (1 : Int32) s))))) :
    AW l G d hX4_isClowns 0 [some (.inr 1), some (.inl a1)] [] s post := wps_ok (cut := []) oX4_isClowns 10 0 _ _ _ h
set_option maxRecDepth 100000 in
theorem vX5_isWind_0 {l : Launch} {G : GG} {d : Nat} {post : Int32 → Mem → Prop} {a0 : Int32} {s : Mem} (h :
    ((a0 < (-100 : Int32) →
      (bool01 (0 : Int32) ∧ post (0 : Int32) s)) ∧
    (¬ a0 < (-100 : Int32) →
      (((100 : Int32) < a0 →
        (bool01 (0 : Int32) ∧ post (0 : Int32) s)) ∧
      (¬ (100 : Int32) < a0 →
        (bool01 (1 : Int32) ∧ post (1 : Int32) s)))))) :
    AW l G d hX5_isWind 0 [some (.inl a0)] [] s post := wps_ok (cut := []) oX5_isWind 10 0 _ _ _ h
set_option maxRecDepth 100000 in
theorem vX5_setLoad_0 {l : Launch} {G : GG} {d : Nat} {post : Int32 → Mem → Prop} {a1 a2 : Int32} {s : Mem} (h :
    (∃ (d' : Nat) (Q1 : Int32 → Mem → Prop), d' < d ∧ Spec l G d' hX7_isIn [.inl a1, .inl (8 : Int32)] s Q1 ∧ ∀ (r1 : Int32) (t1 : Mem), Q1 r1 t1 →
    ((r1 = 0 →
      (bool01 (0 : Int32) ∧ post (0 : Int32) t1)) ∧
    (¬ r1 = 0 →
      ((a2 < 0 →
        (bool01 (0 : Int32) ∧ post (0 : Int32) t1)) ∧
      (¬ a2 < 0 →
        ((a2 ≤ (10000 : Int32) →
          (vp_in a1 8 ∧
          (bool01 (1 : Int32) ∧ post (1 : Int32) (wrM t1 27 a1.toNatClampNeg a2)))) ∧
        (¬ a2 ≤ (10000 : Int32) →
          (bool01 (0 : Int32) ∧ post (0 : Int32) t1))))))))) :
    AW l G d hX5_setLoad 0 [some (.inr 26), some (.inl a1), some (.inl a2)] [] s post := wps_ok (cut := []) oX5_setLoad 17 0 _ _ _ h
set_option maxRecDepth 100000 in
theorem vX5_setShare_0 {l : Launch} {G : GG} {d : Nat} {post : Int32 → Mem → Prop} {a1 a2 a3 : Int32} {s : Mem} (h :
    (∃ (d' : Nat) (Q1 : Int32 → Mem → Prop), d' < d ∧ Spec l G d' hX7_isIn [.inl a1, .inl (8 : Int32)] s Q1 ∧ ∀ (r1 : Int32) (t1 : Mem), Q1 r1 t1 →
    ((r1 = 0 →
      (bool01 (0 : Int32) ∧ post (0 : Int32) t1)) ∧
    (¬ r1 = 0 →
      (∃ (d' : Nat) (Q2 : Int32 → Mem → Prop), d' < d ∧ Spec l G d' hX7_isIn [.inl a2, .inl (8 : Int32)] t1 Q2 ∧ ∀ (r2 : Int32) (t2 : Mem), Q2 r2 t2 →
      ((r2 = 0 →
        (bool01 (0 : Int32) ∧ post (0 : Int32) t2)) ∧
      (¬ r2 = 0 →
        ((a3 < 0 →
          (bool01 (0 : Int32) ∧ post (0 : Int32) t2)) ∧
        (¬ a3 < 0 →
          ((a3 ≤ (100 : Int32) →
            (∃ (d' : Nat) (Q3 : Int32 → Mem → Prop), d' < d ∧ Spec l G d' hX5_sharesBeside [.inr 26, .inl a1, .inl a2] t2 Q3 ∧ ∀ (r3 : Int32) (t3 : Mem), Q3 r3 t3 →
            (((r3 + a3) ≤ (100 : Int32) →
              (vp_in ((a1 * (8 : Int32)) + a2) 64 ∧
              (bool01 (1 : Int32) ∧ post (1 : Int32) (wrM t3 28 ((a1 * (8 : Int32)) + a2).toNatClampNeg a3)))) ∧
            (¬ (r3 + a3) ≤ (100 : Int32) →
              (bool01 (0 : Int32) ∧ post (0 : Int32) t3))))) ∧
          (¬ a3 ≤ (100 : Int32) →
            (bool01 (0 : Int32) ∧ post (0 : Int32) t2)))))))))))) :
    AW l G d hX5_setShare 0 [some (.inr 26), some (.inl a1), some (.inl a2), some (.inl a3)] [] s post := wps_ok (cut := []) oX5_setShare 33 0 _ _ _ h
set_option maxRecDepth 100000 in
theorem vX5_sharesBeside_0 {l : Launch} {G : GG} {d : Nat} {post : Int32 → Mem → Prop} {a1 a2 : Int32} {s : Mem} (h :
    AW l G d hX5_sharesBeside 5 [some (.inr 26), some (.inl a1), some (.inl a2), some (.inl (0 : Int32)), some (.inl (0 : Int32))] [] s post) :
    AW l G d hX5_sharesBeside 0 [some (.inr 26), some (.inl a1), some (.inl a2), none, none] [] s post := wps_ok (cut := [5]) oX5_sharesBeside 5 0 _ _ _ h
set_option maxRecDepth 100000 in
theorem vX5_sharesBeside_5 {l : Launch} {G : GG} {d : Nat} {post : Int32 → Mem → Prop} {a1 a2 a3 a4 : Int32} {s : Mem} (h :
    (((8 : Int32) ≤ a4 →
      post a3 s) ∧
    (¬ (8 : Int32) ≤ a4 →
      ((a4 = a2 →
        AW l G d hX5_sharesBeside 5 [some (.inr 26), some (.inl a1), some (.inl a2), some (.inl a3), some (.inl (a4 + (1 : Int32)))] [] s post) ∧
      (¬ a4 = a2 →
        (vp_in ((a1 * (8 : Int32)) + a4) 64 ∧
        AW l G d hX5_sharesBeside 5 [some (.inr 26), some (.inl a1), some (.inl a2), some (.inl (a3 + (s 28 ((a1 * (8 : Int32)) + a4).toNatClampNeg))), some (.inl (a4 + (1 : Int32)))] [] s post)))))) :
    AW l G d hX5_sharesBeside 5 [some (.inr 26), some (.inl a1), some (.inl a2), some (.inl a3), some (.inl a4)] [] s post := wps_ok (cut := [5]) oX5_sharesBeside 20 5 _ _ _ h
set_option maxRecDepth 100000 in
theorem vX5_setExposed_0 {l : Launch} {G : GG} {d : Nat} {post : Int32 → Mem → Prop} {a1 a2 : Int32} {s : Mem} (h :
    (∃ (d' : Nat) (Q1 : Int32 → Mem → Prop), d' < d ∧ Spec l G d' hX7_isIn [.inl a1, .inl (8 : Int32)] s Q1 ∧ ∀ (r1 : Int32) (t1 : Mem), Q1 r1 t1 →
    ((r1 = 0 →
      (bool01 (0 : Int32) ∧ post (0 : Int32) t1)) ∧
    (¬ r1 = 0 →
      ((a2 < (-9 : Int32) →
        (bool01 (0 : Int32) ∧ post (0 : Int32) t1)) ∧
      (¬ a2 < (-9 : Int32) →
        ((a2 ≤ (9 : Int32) →
          (vp_in a1 8 ∧
          (bool01 (1 : Int32) ∧ post (1 : Int32) (wrM t1 29 a1.toNatClampNeg a2)))) ∧
        (¬ a2 ≤ (9 : Int32) →
          (bool01 (0 : Int32) ∧ post (0 : Int32) t1))))))))) :
    AW l G d hX5_setExposed 0 [some (.inr 26), some (.inl a1), some (.inl a2)] [] s post := wps_ok (cut := []) oX5_setExposed 18 0 _ _ _ h
set_option maxRecDepth 100000 in
theorem vX5_isUp_0 {l : Launch} {G : GG} {d : Nat} {post : Int32 → Mem → Prop} {a1 : Int32} {s : Mem} (h :
    AW l G d hX5_isUp 2 [some (.inr 26), some (.inl a1), some (.inl (0 : Int32))] [] s post) :
    AW l G d hX5_isUp 0 [some (.inr 26), some (.inl a1), none] [] s post := wps_ok (cut := [2]) oX5_isUp 3 0 _ _ _ h
set_option maxRecDepth 100000 in
theorem vX5_isUp_2 {l : Launch} {G : GG} {d : Nat} {post : Int32 → Mem → Prop} {a1 a2 : Int32} {s : Mem} (h :
    (((8 : Int32) ≤ a2 →
      (vp_in a1 8 ∧
      (((s 29 a1.toNatClampNeg) = 0 →
        (bool01 (0 : Int32) ∧ post (0 : Int32) s)) ∧
      (¬ (s 29 a1.toNatClampNeg) = 0 →
        (bool01 (1 : Int32) ∧ post (1 : Int32) s))))) ∧
    (¬ (8 : Int32) ≤ a2 →
      (vp_in ((a2 * (8 : Int32)) + a1) 64 ∧
      (((s 28 ((a2 * (8 : Int32)) + a1).toNatClampNeg) ≤ 0 →
        AW l G d hX5_isUp 2 [some (.inr 26), some (.inl a1), some (.inl (a2 + (1 : Int32)))] [] s post) ∧
      (¬ (s 28 ((a2 * (8 : Int32)) + a1).toNatClampNeg) ≤ 0 →
        (bool01 (1 : Int32) ∧ post (1 : Int32) s))))))) :
    AW l G d hX5_isUp 2 [some (.inr 26), some (.inl a1), some (.inl a2)] [] s post := wps_ok (cut := [2]) oX5_isUp 15 2 _ _ _ h
set_option maxRecDepth 100000 in
theorem vX5_ropesUp_0 {l : Launch} {G : GG} {d : Nat} {post : Int32 → Mem → Prop} {s : Mem} (h :
    AW l G d hX5_ropesUp 4 [some (.inr 26), some (.inl (0 : Int32)), some (.inl (0 : Int32))] [] s post) :
    AW l G d hX5_ropesUp 0 [some (.inr 26), none, none] [] s post := wps_ok (cut := [4]) oX5_ropesUp 5 0 _ _ _ h
set_option maxRecDepth 100000 in
theorem vX5_ropesUp_4 {l : Launch} {G : GG} {d : Nat} {post : Int32 → Mem → Prop} {a1 a2 : Int32} {s : Mem} (h :
    (((8 : Int32) ≤ a2 →
      post a1 s) ∧
    (¬ (8 : Int32) ≤ a2 →
      (∃ (d' : Nat) (Q1 : Int32 → Mem → Prop), d' < d ∧ Spec l G d' hX5_isUp [.inr 26, .inl a2] s Q1 ∧ ∀ (r1 : Int32) (t1 : Mem), Q1 r1 t1 →
      ((r1 = 0 →
        AW l G d hX5_ropesUp 4 [some (.inr 26), some (.inl a1), some (.inl (a2 + (1 : Int32)))] [] t1 post) ∧
      (¬ r1 = 0 →
        AW l G d hX5_ropesUp 4 [some (.inr 26), some (.inl (a1 + (1 : Int32))), some (.inl (a2 + (1 : Int32)))] [] t1 post)))))) :
    AW l G d hX5_ropesUp 4 [some (.inr 26), some (.inl a1), some (.inl a2)] [] s post := wps_ok (cut := [4]) oX5_ropesUp 11 4 _ _ _ h
set_option maxRecDepth 100000 in
theorem vX5_settle_0 {l : Launch} {G : GG} {d : Nat} {post : Int32 → Mem → Prop} {a1 : Int32} {s : Mem} (h :
    (∃ (d' : Nat) (Q1 : Int32 → Mem → Prop), d' < d ∧ Spec l G d' hX5_hang [.inr 26, .inl a1] s Q1 ∧ ∀ (r1 : Int32) (t1 : Mem), Q1 r1 t1 →
    AW l G d hX5_settle 7 [some (.inr 26), some (.inl a1), some (.inl (0 : Int32)), none] [] t1 post)) :
    AW l G d hX5_settle 0 [some (.inr 26), some (.inl a1), none, none] [] s post := wps_ok (cut := [7]) oX5_settle 6 0 _ _ _ h
set_option maxRecDepth 100000 in
theorem vX5_settle_7 {l : Launch} {G : GG} {d : Nat} {post : Int32 → Mem → Prop} {a1 a2 : Int32} {s : Mem} (h :
    (((8 : Int32) ≤ a2 →
      post 0 s) ∧
    (¬ (8 : Int32) ≤ a2 →
      (∃ (d' : Nat) (Q1 : Int32 → Mem → Prop), d' < d ∧ Spec l G d' hX5_firstThatPushes [.inr 26] s Q1 ∧ ∀ (r1 : Int32) (t1 : Mem), Q1 r1 t1 →
      ((¬ r1 = (-1 : Int32) →
        (∃ (d' : Nat) (Q2 : Int32 → Mem → Prop), d' < d ∧ Spec l G d' hX5_slacken [.inr 26, .inl r1] t1 Q2 ∧ ∀ (r2 : Int32) (t2 : Mem), Q2 r2 t2 →
        AW l G d hX5_settle 7 [some (.inr 26), some (.inl a1), some (.inl (a2 + (1 : Int32))), some (.inl r1)] [] t2 post)) ∧
      (r1 = (-1 : Int32) →
        post 0 t1)))))) :
    AW l G d hX5_settle 7 [some (.inr 26), some (.inl a1), some (.inl a2), none] [] s post := wps_ok (cut := [7]) oX5_settle 15 7 _ _ _ h
set_option maxRecDepth 100000 in
theorem vX5_hang_0 {l : Launch} {G : GG} {d : Nat} {post : Int32 → Mem → Prop} {a1 : Int32} {s : Mem} (h :
    AW l G d hX5_hang 7 [some (.inr 26), some (.inl a1), some (.inl (0 : Int32)), none, none] [] (wrM s 26 6 (0 : Int32)) post) :
    AW l G d hX5_hang 0 [some (.inr 26), some (.inl a1), none, none, none] [] s post := wps_ok (cut := [7, 28]) oX5_hang 6 0 _ _ _ h
set_option maxRecDepth 100000 in
theorem vX5_hang_7 {l : Launch} {G : GG} {d : Nat} {post : Int32 → Mem → Prop} {a1 a2 : Int32} {s : Mem} (h :
    (((8 : Int32) ≤ a2 →
      post 0 s) ∧
    (¬ (8 : Int32) ≤ a2 →
      (vp_in a2 8 ∧
      AW l G d hX5_hang 28 [some (.inr 26), some (.inl a1), some (.inl a2), some (.inl (((100 : Int32) * a1) * (s 29 a2.toNatClampNeg))), some (.inl (0 : Int32))] [] s post)))) :
    AW l G d hX5_hang 7 [some (.inr 26), some (.inl a1), some (.inl a2), none, none] [] s post := wps_ok (cut := [7, 28]) oX5_hang 15 7 _ _ _ h
set_option maxRecDepth 100000 in
theorem vX5_hang_28 {l : Launch} {G : GG} {d : Nat} {post : Int32 → Mem → Prop} {a1 a2 a3 a4 : Int32} {s : Mem} (h :
    (((8 : Int32) ≤ a4 →
      (vp_in a2 8 ∧
      (∃ (d' : Nat) (Q1 : Int32 → Mem → Prop), d' < d ∧ Spec l G d' hX5_isUp [.inr 26, .inl a2] (wrM s 30 a2.toNatClampNeg a3) Q1 ∧ ∀ (r1 : Int32) (t1 : Mem), Q1 r1 t1 →
      (vp_in a2 8 ∧
      (vp_in a2 8 ∧
      AW l G d hX5_hang 7 [some (.inr 26), some (.inl a1), some (.inl (a2 + (1 : Int32))), some (.inl a3), some (.inl a4)] [] (wrM (wrM t1 31 a2.toNatClampNeg (vp_nar .boolean r1)) 32 a2.toNatClampNeg (vp_nar .boolean (0 : Int32))) post))))) ∧
    (¬ (8 : Int32) ≤ a4 →
      (vp_in a4 8 ∧
      (vp_in ((a4 * (8 : Int32)) + a2) 64 ∧
      AW l G d hX5_hang 28 [some (.inr 26), some (.inl a1), some (.inl a2), some (.inl (a3 + ((s 27 a4.toNatClampNeg) * (s 28 ((a4 * (8 : Int32)) + a2).toNatClampNeg)))), some (.inl (a4 + (1 : Int32)))] [] s post))))) :
    AW l G d hX5_hang 28 [some (.inr 26), some (.inl a1), some (.inl a2), some (.inl a3), some (.inl a4)] [] s post := wps_ok (cut := [7, 28]) oX5_hang 23 28 _ _ _ h
set_option maxRecDepth 100000 in
theorem vX5_firstThatPushes_0 {l : Launch} {G : GG} {d : Nat} {post : Int32 → Mem → Prop} {s : Mem} (h :
    AW l G d hX5_firstThatPushes 2 [some (.inr 26), some (.inl (0 : Int32))] [] s post) :
    AW l G d hX5_firstThatPushes 0 [some (.inr 26), none] [] s post := wps_ok (cut := [2]) oX5_firstThatPushes 3 0 _ _ _ h
set_option maxRecDepth 100000 in
theorem vX5_firstThatPushes_2 {l : Launch} {G : GG} {d : Nat} {post : Int32 → Mem → Prop} {a1 : Int32} {s : Mem} (h :
    (((8 : Int32) ≤ a1 →
      post (-1 : Int32) s) ∧
    (¬ (8 : Int32) ≤ a1 →
      (vp_in a1 8 ∧
      (((s 31 a1.toNatClampNeg) = 0 →
        AW l G d hX5_firstThatPushes 2 [some (.inr 26), some (.inl (a1 + (1 : Int32)))] [] s post) ∧
      (¬ (s 31 a1.toNatClampNeg) = 0 →
        (vp_in a1 8 ∧
        ((0 ≤ (s 30 a1.toNatClampNeg) →
          AW l G d hX5_firstThatPushes 2 [some (.inr 26), some (.inl (a1 + (1 : Int32)))] [] s post) ∧
        (¬ 0 ≤ (s 30 a1.toNatClampNeg) →
          post a1 s))))))))) :
    AW l G d hX5_firstThatPushes 2 [some (.inr 26), some (.inl a1)] [] s post := wps_ok (cut := [2]) oX5_firstThatPushes 16 2 _ _ _ h
set_option maxRecDepth 100000 in
theorem vX5_slacken_0 {l : Launch} {G : GG} {d : Nat} {post : Int32 → Mem → Prop} {a1 : Int32} {s : Mem} (h :
    (vp_in a1 8 ∧
    (vp_in a1 8 ∧
    (vp_in a1 8 ∧
    (vp_in a1 8 ∧
    (∃ (d' : Nat) (Q1 : Int32 → Mem → Prop), d' < d ∧ Spec l G d' hX5_ropesThatBear [.inr 26] (wrM (wrM (wrM s 30 a1.toNatClampNeg (0 : Int32)) 31 a1.toNatClampNeg (vp_nar .boolean (0 : Int32))) 32 a1.toNatClampNeg (vp_nar .boolean (1 : Int32))) Q1 ∧ ∀ (r1 : Int32) (t1 : Mem), Q1 r1 t1 →
    ((¬ r1 = 0 →
      (¬ r1 = 0 ∧
      (¬ r1 = 0 ∧
      (∃ (d' : Nat) (Q2 : Int32 → Mem → Prop), d' < d ∧ Spec l G d' hX5_spread [.inr 26, .inl ((s 30 a1.toNatClampNeg) / r1), .inl ((s 30 a1.toNatClampNeg) - (s 30 a1.toNatClampNeg) / r1 * r1)] t1 Q2 ∧ ∀ (r2 : Int32) (t2 : Mem), Q2 r2 t2 →
      post 0 t2)))) ∧
    (r1 = 0 →
      post 0 (wrM t1 26 6 (s 30 a1.toNatClampNeg)))))))))) :
    AW l G d hX5_slacken 0 [some (.inr 26), some (.inl a1), none, none] [] s post := wps_ok (cut := []) oX5_slacken 35 0 _ _ _ h
set_option maxRecDepth 100000 in
theorem vX5_ropesThatBear_0 {l : Launch} {G : GG} {d : Nat} {post : Int32 → Mem → Prop} {s : Mem} (h :
    AW l G d hX5_ropesThatBear 4 [some (.inr 26), some (.inl (0 : Int32)), some (.inl (0 : Int32))] [] s post) :
    AW l G d hX5_ropesThatBear 0 [some (.inr 26), none, none] [] s post := wps_ok (cut := [4]) oX5_ropesThatBear 5 0 _ _ _ h
set_option maxRecDepth 100000 in
theorem vX5_ropesThatBear_4 {l : Launch} {G : GG} {d : Nat} {post : Int32 → Mem → Prop} {a1 a2 : Int32} {s : Mem} (h :
    (((8 : Int32) ≤ a2 →
      post a1 s) ∧
    (¬ (8 : Int32) ≤ a2 →
      (vp_in a2 8 ∧
      (((s 31 a2.toNatClampNeg) = 0 →
        AW l G d hX5_ropesThatBear 4 [some (.inr 26), some (.inl a1), some (.inl (a2 + (1 : Int32)))] [] s post) ∧
      (¬ (s 31 a2.toNatClampNeg) = 0 →
        AW l G d hX5_ropesThatBear 4 [some (.inr 26), some (.inl (a1 + (1 : Int32))), some (.inl (a2 + (1 : Int32)))] [] s post)))))) :
    AW l G d hX5_ropesThatBear 4 [some (.inr 26), some (.inl a1), some (.inl a2)] [] s post := wps_ok (cut := [4]) oX5_ropesThatBear 12 4 _ _ _ h
set_option maxRecDepth 100000 in
theorem vX5_spread_0 {l : Launch} {G : GG} {d : Nat} {post : Int32 → Mem → Prop} {a1 a2 : Int32} {s : Mem} (h :
    AW l G d hX5_spread 5 [some (.inr 26), some (.inl a1), some (.inl a2), some (.inl a2), some (.inl (0 : Int32))] [] s post) :
    AW l G d hX5_spread 0 [some (.inr 26), some (.inl a1), some (.inl a2), none, none] [] s post := wps_ok (cut := [5]) oX5_spread 5 0 _ _ _ h
set_option maxRecDepth 100000 in
theorem vX5_spread_5 {l : Launch} {G : GG} {d : Nat} {post : Int32 → Mem → Prop} {a1 a2 a3 a4 : Int32} {s : Mem} (h :
    (((8 : Int32) ≤ a4 →
      post 0 s) ∧
    (¬ (8 : Int32) ≤ a4 →
      (vp_in a4 8 ∧
      (((s 31 a4.toNatClampNeg) = 0 →
        AW l G d hX5_spread 5 [some (.inr 26), some (.inl a1), some (.inl a2), some (.inl a3), some (.inl (a4 + (1 : Int32)))] [] s post) ∧
      (¬ (s 31 a4.toNatClampNeg) = 0 →
        (vp_in a4 8 ∧
        (vp_in a4 8 ∧
        ((0 ≤ a3 →
          AW l G d hX5_spread 5 [some (.inr 26), some (.inl a1), some (.inl a2), some (.inl a3), some (.inl (a4 + (1 : Int32)))] [] (wrM s 30 a4.toNatClampNeg ((s 30 a4.toNatClampNeg) + a1)) post) ∧
        (¬ 0 ≤ a3 →
          (vp_in a4 8 ∧
          (vp_in a4 8 ∧
          AW l G d hX5_spread 5 [some (.inr 26), some (.inl a1), some (.inl a2), some (.inl (a3 + (1 : Int32))), some (.inl (a4 + (1 : Int32)))] [] (wrM (wrM s 30 a4.toNatClampNeg ((s 30 a4.toNatClampNeg) + a1)) 30 a4.toNatClampNeg (((wrM s 30 a4.toNatClampNeg ((s 30 a4.toNatClampNeg) + a1)) 30 a4.toNatClampNeg) - (1 : Int32))) post)))))))))))) :
    AW l G d hX5_spread 5 [some (.inr 26), some (.inl a1), some (.inl a2), some (.inl a3), some (.inl a4)] [] s post := wps_ok (cut := [5]) oX5_spread 30 5 _ _ _ h
set_option maxRecDepth 100000 in
theorem vX6_add_0 {l : Launch} {G : GG} {d : Nat} {post : Int32 → Mem → Prop} {a1 a2 a3 : Int32} {s : Mem} (h :
    (((500 : Int32) ≤ (s 46 0) →
      post (-1 : Int32) s) ∧
    (¬ (500 : Int32) ≤ (s 46 0) →
      (∃ (d' : Nat) (Q1 : Int32 → Mem → Prop), d' < d ∧ Spec l G d' hX7_isIn [.inl a1, .inl (8 : Int32)] s Q1 ∧ ∀ (r1 : Int32) (t1 : Mem), Q1 r1 t1 →
      ((r1 = 0 →
        post (-1 : Int32) t1) ∧
      (¬ r1 = 0 →
        (∃ (d' : Nat) (Q2 : Int32 → Mem → Prop), d' < d ∧ Spec l G d' hX7_isIn [.inl a2, .inl (7 : Int32)] t1 Q2 ∧ ∀ (r2 : Int32) (t2 : Mem), Q2 r2 t2 →
        ((¬ r2 = 0 →
          ((a3 < 0 →
            post (-1 : Int32) t2) ∧
          (¬ a3 < 0 →
            ((a3 ≤ (1000000 : Int32) →
              (vp_in ((a1 * (7 : Int32)) + a2) 56 ∧
              (vp_in ((a1 * (7 : Int32)) + a2) 56 ∧
              (vp_in ((a1 * (7 : Int32)) + a2) 56 ∧
              (vp_in ((a1 * (7 : Int32)) + a2) 56 ∧
              post ((wrM (wrM (wrM t2 47 ((a1 * (7 : Int32)) + a2).toNatClampNeg ((t2 47 ((a1 * (7 : Int32)) + a2).toNatClampNeg) + a3)) 48 ((a1 * (7 : Int32)) + a2).toNatClampNeg (((wrM t2 47 ((a1 * (7 : Int32)) + a2).toNatClampNeg ((t2 47 ((a1 * (7 : Int32)) + a2).toNatClampNeg) + a3)) 48 ((a1 * (7 : Int32)) + a2).toNatClampNeg) + (1 : Int32))) 46 0 (((wrM (wrM t2 47 ((a1 * (7 : Int32)) + a2).toNatClampNeg ((t2 47 ((a1 * (7 : Int32)) + a2).toNatClampNeg) + a3)) 48 ((a1 * (7 : Int32)) + a2).toNatClampNeg (((wrM t2 47 ((a1 * (7 : Int32)) + a2).toNatClampNeg ((t2 47 ((a1 * (7 : Int32)) + a2).toNatClampNeg) + a3)) 48 ((a1 * (7 : Int32)) + a2).toNatClampNeg) + (1 : Int32))) 46 0) + (1 : Int32))) 46 0) (wrM (wrM (wrM t2 47 ((a1 * (7 : Int32)) + a2).toNatClampNeg ((t2 47 ((a1 * (7 : Int32)) + a2).toNatClampNeg) + a3)) 48 ((a1 * (7 : Int32)) + a2).toNatClampNeg (((wrM t2 47 ((a1 * (7 : Int32)) + a2).toNatClampNeg ((t2 47 ((a1 * (7 : Int32)) + a2).toNatClampNeg) + a3)) 48 ((a1 * (7 : Int32)) + a2).toNatClampNeg) + (1 : Int32))) 46 0 (((wrM (wrM t2 47 ((a1 * (7 : Int32)) + a2).toNatClampNeg ((t2 47 ((a1 * (7 : Int32)) + a2).toNatClampNeg) + a3)) 48 ((a1 * (7 : Int32)) + a2).toNatClampNeg (((wrM t2 47 ((a1 * (7 : Int32)) + a2).toNatClampNeg ((t2 47 ((a1 * (7 : Int32)) + a2).toNatClampNeg) + a3)) 48 ((a1 * (7 : Int32)) + a2).toNatClampNeg) + (1 : Int32))) 46 0) + (1 : Int32)))))))) ∧
            (¬ a3 ≤ (1000000 : Int32) →
              post (-1 : Int32) t2))))) ∧
        (r2 = 0 →
          post (-1 : Int32) t2))))))))) :
    AW l G d hX6_add 0 [some (.inr 46), some (.inl a1), some (.inl a2), some (.inl a3)] [] s post := wps_ok (cut := []) oX6_add 51 0 _ _ _ h
set_option maxRecDepth 100000 in
theorem vX6_foretell_0 {l : Launch} {G : GG} {d : Nat} {post : Int32 → Mem → Prop} {a1 a2 : Int32} {s : Mem} (h :
    (∃ (d' : Nat) (Q1 : Int32 → Mem → Prop), d' < d ∧ Spec l G d' hX6_gather [.inr 46, .inl a1, .inl a1, .inl a2, .inl a2] s Q1 ∧ ∀ (r1 : Int32) (t1 : Mem), Q1 r1 t1 →
    ((¬ (t1 46 4) = 0 →
      ((¬ (t1 46 4) = 0 →
        ((¬ (t1 46 4) = 0 →
          (∃ (d' : Nat) (Q2 : Int32 → Mem → Prop), d' < d ∧ Spec l G d' hX6_reduce [.inr 46] t1 Q2 ∧ ∀ (r2 : Int32) (t2 : Mem), Q2 r2 t2 →
          post 0 t2)) ∧
        ((t1 46 4) = 0 →
          (∃ (d' : Nat) (Q3 : Int32 → Mem → Prop), d' < d ∧ Spec l G d' hX6_gather [.inr 46, .inl (0 : Int32), .inl (7 : Int32), .inl (0 : Int32), .inl (6 : Int32)] t1 Q3 ∧ ∀ (r3 : Int32) (t3 : Mem), Q3 r3 t3 →
          (∃ (d' : Nat) (Q4 : Int32 → Mem → Prop), d' < d ∧ Spec l G d' hX6_reduce [.inr 46] t3 Q4 ∧ ∀ (r4 : Int32) (t4 : Mem), Q4 r4 t4 →
          post 0 t4))))) ∧
      ((t1 46 4) = 0 →
        (∃ (d' : Nat) (Q5 : Int32 → Mem → Prop), d' < d ∧ Spec l G d' hX6_gather [.inr 46, .inl (0 : Int32), .inl (7 : Int32), .inl a2, .inl a2] t1 Q5 ∧ ∀ (r5 : Int32) (t5 : Mem), Q5 r5 t5 →
        ((¬ (t5 46 4) = 0 →
          (∃ (d' : Nat) (Q6 : Int32 → Mem → Prop), d' < d ∧ Spec l G d' hX6_reduce [.inr 46] t5 Q6 ∧ ∀ (r6 : Int32) (t6 : Mem), Q6 r6 t6 →
          post 0 t6)) ∧
        ((t5 46 4) = 0 →
          (∃ (d' : Nat) (Q7 : Int32 → Mem → Prop), d' < d ∧ Spec l G d' hX6_gather [.inr 46, .inl (0 : Int32), .inl (7 : Int32), .inl (0 : Int32), .inl (6 : Int32)] t5 Q7 ∧ ∀ (r7 : Int32) (t7 : Mem), Q7 r7 t7 →
          (∃ (d' : Nat) (Q8 : Int32 → Mem → Prop), d' < d ∧ Spec l G d' hX6_reduce [.inr 46] t7 Q8 ∧ ∀ (r8 : Int32) (t8 : Mem), Q8 r8 t8 →
          post 0 t8)))))))) ∧
    ((t1 46 4) = 0 →
      (∃ (d' : Nat) (Q9 : Int32 → Mem → Prop), d' < d ∧ Spec l G d' hX6_gather [.inr 46, .inl a1, .inl a1, .inl (0 : Int32), .inl (6 : Int32)] t1 Q9 ∧ ∀ (r9 : Int32) (t9 : Mem), Q9 r9 t9 →
      ((¬ (t9 46 4) = 0 →
        ((¬ (t9 46 4) = 0 →
          (∃ (d' : Nat) (Q10 : Int32 → Mem → Prop), d' < d ∧ Spec l G d' hX6_reduce [.inr 46] t9 Q10 ∧ ∀ (r10 : Int32) (t10 : Mem), Q10 r10 t10 →
          post 0 t10)) ∧
        ((t9 46 4) = 0 →
          (∃ (d' : Nat) (Q11 : Int32 → Mem → Prop), d' < d ∧ Spec l G d' hX6_gather [.inr 46, .inl (0 : Int32), .inl (7 : Int32), .inl (0 : Int32), .inl (6 : Int32)] t9 Q11 ∧ ∀ (r11 : Int32) (t11 : Mem), Q11 r11 t11 →
          (∃ (d' : Nat) (Q12 : Int32 → Mem → Prop), d' < d ∧ Spec l G d' hX6_reduce [.inr 46] t11 Q12 ∧ ∀ (r12 : Int32) (t12 : Mem), Q12 r12 t12 →
          post 0 t12))))) ∧
      ((t9 46 4) = 0 →
        (∃ (d' : Nat) (Q13 : Int32 → Mem → Prop), d' < d ∧ Spec l G d' hX6_gather [.inr 46, .inl (0 : Int32), .inl (7 : Int32), .inl a2, .inl a2] t9 Q13 ∧ ∀ (r13 : Int32) (t13 : Mem), Q13 r13 t13 →
        ((¬ (t13 46 4) = 0 →
          (∃ (d' : Nat) (Q14 : Int32 → Mem → Prop), d' < d ∧ Spec l G d' hX6_reduce [.inr 46] t13 Q14 ∧ ∀ (r14 : Int32) (t14 : Mem), Q14 r14 t14 →
          post 0 t14)) ∧
        ((t13 46 4) = 0 →
          (∃ (d' : Nat) (Q15 : Int32 → Mem → Prop), d' < d ∧ Spec l G d' hX6_gather [.inr 46, .inl (0 : Int32), .inl (7 : Int32), .inl (0 : Int32), .inl (6 : Int32)] t13 Q15 ∧ ∀ (r15 : Int32) (t15 : Mem), Q15 r15 t15 →
          (∃ (d' : Nat) (Q16 : Int32 → Mem → Prop), d' < d ∧ Spec l G d' hX6_reduce [.inr 46] t15 Q16 ∧ ∀ (r16 : Int32) (t16 : Mem), Q16 r16 t16 →
          post 0 t16)))))))))))) :
    AW l G d hX6_foretell 0 [some (.inr 46), some (.inl a1), some (.inl a2)] [] s post := wps_ok (cut := []) oX6_foretell 37 0 _ _ _ h
set_option maxRecDepth 100000 in
theorem vX6_gather_0 {l : Launch} {G : GG} {d : Nat} {post : Int32 → Mem → Prop} {a1 a2 a3 a4 : Int32} {s : Mem} (h :
    AW l G d hX6_gather 13 [some (.inr 46), some (.inl a1), some (.inl a2), some (.inl a3), some (.inl a4), some (.inl a1), none] [] (wrM (wrM s 46 3 (0 : Int32)) 46 4 (0 : Int32)) post) :
    AW l G d hX6_gather 0 [some (.inr 46), some (.inl a1), some (.inl a2), some (.inl a3), some (.inl a4), none, none] [] s post := wps_ok (cut := [13, 22]) oX6_gather 9 0 _ _ _ h
set_option maxRecDepth 100000 in
theorem vX6_gather_13 {l : Launch} {G : GG} {d : Nat} {post : Int32 → Mem → Prop} {a1 a2 a3 a4 a5 : Int32} {s : Mem} (h :
    ((a2 < a5 →
      post 0 s) ∧
    (¬ a2 < a5 →
      AW l G d hX6_gather 22 [some (.inr 46), some (.inl a1), some (.inl a2), some (.inl a3), some (.inl a4), some (.inl a5), some (.inl a3)] [] s post))) :
    AW l G d hX6_gather 13 [some (.inr 46), some (.inl a1), some (.inl a2), some (.inl a3), some (.inl a4), some (.inl a5), none] [] s post := wps_ok (cut := [13, 22]) oX6_gather 6 13 _ _ _ h
set_option maxRecDepth 100000 in
theorem vX6_gather_22 {l : Launch} {G : GG} {d : Nat} {post : Int32 → Mem → Prop} {a1 a2 a3 a4 a5 a6 : Int32} {s : Mem} (h :
    ((a4 < a6 →
      AW l G d hX6_gather 13 [some (.inr 46), some (.inl a1), some (.inl a2), some (.inl a3), some (.inl a4), some (.inl (a5 + (1 : Int32))), some (.inl a6)] [] s post) ∧
    (¬ a4 < a6 →
      (vp_in ((a5 * (7 : Int32)) + a6) 56 ∧
      (vp_in ((a5 * (7 : Int32)) + a6) 56 ∧
      AW l G d hX6_gather 22 [some (.inr 46), some (.inl a1), some (.inl a2), some (.inl a3), some (.inl a4), some (.inl a5), some (.inl (a6 + (1 : Int32)))] [] (wrM (wrM s 46 3 ((s 46 3) + (s 47 ((a5 * (7 : Int32)) + a6).toNatClampNeg))) 46 4 (((wrM s 46 3 ((s 46 3) + (s 47 ((a5 * (7 : Int32)) + a6).toNatClampNeg))) 46 4) + ((wrM s 46 3 ((s 46 3) + (s 47 ((a5 * (7 : Int32)) + a6).toNatClampNeg))) 48 ((a5 * (7 : Int32)) + a6).toNatClampNeg))) post))))) :
    AW l G d hX6_gather 22 [some (.inr 46), some (.inl a1), some (.inl a2), some (.inl a3), some (.inl a4), some (.inl a5), some (.inl a6)] [] s post := wps_ok (cut := [13, 22]) oX6_gather 32 22 _ _ _ h
set_option maxRecDepth 100000 in
theorem vX6_reduce_0 {l : Launch} {G : GG} {d : Nat} {post : Int32 → Mem → Prop} {s : Mem} (h :
    (∃ (d' : Nat) (Q1 : Int32 → Mem → Prop), d' < d ∧ Spec l G d' hX6_commonDivisor [.inl (s 46 3), .inl (s 46 4)] s Q1 ∧ ∀ (r1 : Int32) (t1 : Mem), Q1 r1 t1 →
    ((r1 ≤ 0 →
      post 0 (wrM t1 46 4 (1 : Int32))) ∧
    (¬ r1 ≤ 0 →
      (¬ r1 = 0 ∧
      (¬ r1 = 0 ∧
      post 0 (wrM (wrM t1 46 3 ((t1 46 3) / r1)) 46 4 (((wrM t1 46 3 ((t1 46 3) / r1)) 46 4) / r1)))))))) :
    AW l G d hX6_reduce 0 [some (.inr 46), none] [] s post := wps_ok (cut := []) oX6_reduce 23 0 _ _ _ h
set_option maxRecDepth 100000 in
theorem vX6_commonDivisor_0 {l : Launch} {G : GG} {d : Nat} {post : Int32 → Mem → Prop} {a0 a1 : Int32} {s : Mem} (h :
    AW l G d hX6_commonDivisor 7 [some (.inl a0), some (.inl a1), some (.inl a0), some (.inl a1), some (.inl (0 : Int32)), none] [] s post) :
    AW l G d hX6_commonDivisor 0 [some (.inl a0), some (.inl a1), none, none, none, none] [] s post := wps_ok (cut := [7]) oX6_commonDivisor 7 0 _ _ _ h
set_option maxRecDepth 100000 in
theorem vX6_commonDivisor_7 {l : Launch} {G : GG} {d : Nat} {post : Int32 → Mem → Prop} {a0 a1 a2 a3 a4 : Int32} {s : Mem} (h :
    (((64 : Int32) ≤ a4 →
      post a2 s) ∧
    (¬ (64 : Int32) ≤ a4 →
      ((a3 = 0 →
        post a2 s) ∧
      (¬ a3 = 0 →
        (¬ a3 = 0 ∧
        AW l G d hX6_commonDivisor 7 [some (.inl a0), some (.inl a1), some (.inl a3), some (.inl (a2 - a2 / a3 * a3)), some (.inl (a4 + (1 : Int32))), some (.inl (a2 - a2 / a3 * a3))] [] s post)))))) :
    AW l G d hX6_commonDivisor 7 [some (.inl a0), some (.inl a1), some (.inl a2), some (.inl a3), some (.inl a4), none] [] s post := wps_ok (cut := [7]) oX6_commonDivisor 16 7 _ _ _ h
set_option maxRecDepth 100000 in
theorem vX7_act_0 {l : Launch} {G : GG} {d : Nat} {post : Int32 → Mem → Prop} {a1 a2 a3 : Int32} {s : Mem} (h :
    (∃ (d' : Nat) (Q1 : Int32 → Mem → Prop), d' < d ∧ Spec l G d' hX4_add [.inr 1, .inl a1, .inl a2, .inl a3] s Q1 ∧ ∀ (r1 : Int32) (t1 : Mem), Q1 r1 t1 →
    post r1 t1)) :
    AW l G d hX7_act 0 [some (.inr 0), some (.inl a1), some (.inl a2), some (.inl a3)] [] s post := wps_ok (cut := []) oX7_act 8 0 _ _ _ h
set_option maxRecDepth 100000 in
theorem vX7_rests_0 {l : Launch} {G : GG} {d : Nat} {post : Int32 → Mem → Prop} {a1 a2 : Int32} {s : Mem} (h :
    (∃ (d' : Nat) (Q1 : Int32 → Mem → Prop), d' < d ∧ Spec l G d' hX4_setRest [.inr 1, .inl a1, .inl a2] s Q1 ∧ ∀ (r1 : Int32) (t1 : Mem), Q1 r1 t1 →
    (bool01 r1 ∧ post r1 t1))) :
    AW l G d hX7_rests 0 [some (.inr 0), some (.inl a1), some (.inl a2)] [] s post := wps_ok (cut := []) oX7_rests 7 0 _ _ _ h
set_option maxRecDepth 100000 in
theorem vX7_ban_0 {l : Launch} {G : GG} {d : Nat} {post : Int32 → Mem → Prop} {a1 a2 a3 : Int32} {s : Mem} (h :
    (∃ (d' : Nat) (Q1 : Int32 → Mem → Prop), d' < d ∧ Spec l G d' hX4_setBan [.inr 1, .inl a1, .inl a2, .inl a3] s Q1 ∧ ∀ (r1 : Int32) (t1 : Mem), Q1 r1 t1 →
    (bool01 r1 ∧ post r1 t1))) :
    AW l G d hX7_ban 0 [some (.inr 0), some (.inl a1), some (.inl a2), some (.inl a3)] [] s post := wps_ok (cut := []) oX7_ban 8 0 _ _ _ h
set_option maxRecDepth 100000 in
theorem vX7_judge_0 {l : Launch} {G : GG} {d : Nat} {post : Int32 → Mem → Prop} {a1 a2 a3 : Int32} {s : Mem} (h :
    ((a3 < 0 →
      post (-1 : Int32) s) ∧
    (¬ a3 < 0 →
      (((1 : Int32) < a3 →
        post (-1 : Int32) s) ∧
      (¬ (1 : Int32) < a3 →
        (∃ (d' : Nat) (Q1 : Int32 → Mem → Prop), d' < d ∧ Spec l G d' hX2_canBeTold [.inl a1, .inl a2] s Q1 ∧ ∀ (r1 : Int32) (t1 : Mem), Q1 r1 t1 →
        ((¬ r1 = 0 →
          (∃ (d' : Nat) (Q2 : Int32 → Mem → Prop), d' < d ∧ Spec l G d' hX2_read [.inr 8, .inl a1, .inl a2] t1 Q2 ∧ ∀ (r2 : Int32) (t2 : Mem), Q2 r2 t2 →
          ((¬ r2 = 0 →
            ((¬ a3 = 0 →
              post r2 t2) ∧
            (a3 = 0 →
              post (t2 8 7) t2))) ∧
          (r2 = 0 →
            post (-1 : Int32) t2)))) ∧
        (r1 = 0 →
          post (-1 : Int32) t1)))))))) :
    AW l G d hX7_judge 0 [some (.inr 0), some (.inl a1), some (.inl a2), some (.inl a3), none] [] s post := wps_ok (cut := []) oX7_judge 25 0 _ _ _ h
set_option maxRecDepth 100000 in
theorem vX7_gaps_0 {l : Launch} {G : GG} {d : Nat} {post : Int32 → Mem → Prop} {a1 a2 : Int32} {s : Mem} (h :
    (∃ (d' : Nat) (Q1 : Int32 → Mem → Prop), d' < d ∧ Spec l G d' hX2_canBeTold [.inl a1, .inl a2] s Q1 ∧ ∀ (r1 : Int32) (t1 : Mem), Q1 r1 t1 →
    ((r1 = 0 →
      post (-1 : Int32) t1) ∧
    (¬ r1 = 0 →
      (∃ (d' : Nat) (Q2 : Int32 → Mem → Prop), d' < d ∧ Spec l G d' hX2_read [.inr 8, .inl a1, .inl a2] t1 Q2 ∧ ∀ (r2 : Int32) (t2 : Mem), Q2 r2 t2 →
      ((r2 = 0 →
        (vp_in a2 9 ∧
        post (t2 13 a2.toNatClampNeg) t2)) ∧
      (¬ r2 = 0 →
        post (-1 : Int32) t2))))))) :
    AW l G d hX7_gaps 0 [some (.inr 0), some (.inl a1), some (.inl a2)] [] s post := wps_ok (cut := []) oX7_gaps 17 0 _ _ _ h
set_option maxRecDepth 100000 in
theorem vX7_best_0 {l : Launch} {G : GG} {d : Nat} {post : Int32 → Mem → Prop} {s : Mem} (h :
    (∃ (d' : Nat) (Q1 : Int32 → Mem → Prop), d' < d ∧ Spec l G d' hX0_refresh [.inr 15] s Q1 ∧ ∀ (r1 : Int32) (t1 : Mem), Q1 r1 t1 →
    (((t1 15 3) = 0 →
      post (-1 : Int32) t1) ∧
    (¬ (t1 15 3) = 0 →
      post (t1 15 4) t1)))) :
    AW l G d hX7_best 0 [some (.inr 0)] [] s post := wps_ok (cut := []) oX7_best 13 0 _ _ _ h
set_option maxRecDepth 100000 in
theorem vX7_bestAt_0 {l : Launch} {G : GG} {d : Nat} {post : Int32 → Mem → Prop} {a1 : Int32} {s : Mem} (h :
    (∃ (d' : Nat) (Q1 : Int32 → Mem → Prop), d' < d ∧ Spec l G d' hX0_refresh [.inr 15] s Q1 ∧ ∀ (r1 : Int32) (t1 : Mem), Q1 r1 t1 →
    (((t1 15 3) = 0 →
      post (-1 : Int32) t1) ∧
    (¬ (t1 15 3) = 0 →
      ((a1 < 0 →
        post (-1 : Int32) t1) ∧
      (¬ a1 < 0 →
        ((a1 < (t1 1 0) →
          (vp_in a1 8 ∧
          post (t1 23 a1.toNatClampNeg) t1)) ∧
        (¬ a1 < (t1 1 0) →
          post (-1 : Int32) t1)))))))) :
    AW l G d hX7_bestAt 0 [some (.inr 0), some (.inl a1)] [] s post := wps_ok (cut := []) oX7_bestAt 21 0 _ _ _ h
set_option maxRecDepth 100000 in
theorem vX7_load_0 {l : Launch} {G : GG} {d : Nat} {post : Int32 → Mem → Prop} {a1 a2 : Int32} {s : Mem} (h :
    (∃ (d' : Nat) (Q1 : Int32 → Mem → Prop), d' < d ∧ Spec l G d' hX5_setLoad [.inr 26, .inl a1, .inl a2] s Q1 ∧ ∀ (r1 : Int32) (t1 : Mem), Q1 r1 t1 →
    (bool01 r1 ∧ post r1 t1))) :
    AW l G d hX7_load 0 [some (.inr 0), some (.inl a1), some (.inl a2)] [] s post := wps_ok (cut := []) oX7_load 7 0 _ _ _ h
set_option maxRecDepth 100000 in
theorem vX7_share_0 {l : Launch} {G : GG} {d : Nat} {post : Int32 → Mem → Prop} {a1 a2 a3 : Int32} {s : Mem} (h :
    (∃ (d' : Nat) (Q1 : Int32 → Mem → Prop), d' < d ∧ Spec l G d' hX5_setShare [.inr 26, .inl a1, .inl a2, .inl a3] s Q1 ∧ ∀ (r1 : Int32) (t1 : Mem), Q1 r1 t1 →
    (bool01 r1 ∧ post r1 t1))) :
    AW l G d hX7_share 0 [some (.inr 0), some (.inl a1), some (.inl a2), some (.inl a3)] [] s post := wps_ok (cut := []) oX7_share 8 0 _ _ _ h
set_option maxRecDepth 100000 in
theorem vX7_exposed_0 {l : Launch} {G : GG} {d : Nat} {post : Int32 → Mem → Prop} {a1 a2 : Int32} {s : Mem} (h :
    (∃ (d' : Nat) (Q1 : Int32 → Mem → Prop), d' < d ∧ Spec l G d' hX5_setExposed [.inr 26, .inl a1, .inl a2] s Q1 ∧ ∀ (r1 : Int32) (t1 : Mem), Q1 r1 t1 →
    (bool01 r1 ∧ post r1 t1))) :
    AW l G d hX7_exposed 0 [some (.inr 0), some (.inl a1), some (.inl a2)] [] s post := wps_ok (cut := []) oX7_exposed 7 0 _ _ _ h
set_option maxRecDepth 100000 in
theorem vX7_part_0 {l : Launch} {G : GG} {d : Nat} {post : Int32 → Mem → Prop} {a1 a2 : Int32} {s : Mem} (h :
    (∃ (d' : Nat) (Q1 : Int32 → Mem → Prop), d' < d ∧ Spec l G d' hX7_isIn [.inl a1, .inl (8 : Int32)] s Q1 ∧ ∀ (r1 : Int32) (t1 : Mem), Q1 r1 t1 →
    ((r1 = 0 →
      post (-1 : Int32) t1) ∧
    (¬ r1 = 0 →
      (∃ (d' : Nat) (Q2 : Int32 → Mem → Prop), d' < d ∧ Spec l G d' hX5_isWind [.inl a2] t1 Q2 ∧ ∀ (r2 : Int32) (t2 : Mem), Q2 r2 t2 →
      ((¬ r2 = 0 →
        (∃ (d' : Nat) (Q3 : Int32 → Mem → Prop), d' < d ∧ Spec l G d' hX5_settle [.inr 26, .inl a2] t2 Q3 ∧ ∀ (r3 : Int32) (t3 : Mem), Q3 r3 t3 →
        (vp_in a1 8 ∧
        post (t3 30 a1.toNatClampNeg) t3))) ∧
      (r2 = 0 →
        post (-1 : Int32) t2))))))) :
    AW l G d hX7_part 0 [some (.inr 0), some (.inl a1), some (.inl a2)] [] s post := wps_ok (cut := []) oX7_part 18 0 _ _ _ h
set_option maxRecDepth 100000 in
theorem vX7_slack_0 {l : Launch} {G : GG} {d : Nat} {post : Int32 → Mem → Prop} {a1 a2 : Int32} {s : Mem} (h :
    (∃ (d' : Nat) (Q1 : Int32 → Mem → Prop), d' < d ∧ Spec l G d' hX7_isIn [.inl a1, .inl (8 : Int32)] s Q1 ∧ ∀ (r1 : Int32) (t1 : Mem), Q1 r1 t1 →
    ((r1 = 0 →
      (bool01 (0 : Int32) ∧ post (0 : Int32) t1)) ∧
    (¬ r1 = 0 →
      (∃ (d' : Nat) (Q2 : Int32 → Mem → Prop), d' < d ∧ Spec l G d' hX5_isWind [.inl a2] t1 Q2 ∧ ∀ (r2 : Int32) (t2 : Mem), Q2 r2 t2 →
      ((¬ r2 = 0 →
        (∃ (d' : Nat) (Q3 : Int32 → Mem → Prop), d' < d ∧ Spec l G d' hX5_settle [.inr 26, .inl a2] t2 Q3 ∧ ∀ (r3 : Int32) (t3 : Mem), Q3 r3 t3 →
        (vp_in a1 8 ∧
        (bool01 (t3 32 a1.toNatClampNeg) ∧ post (t3 32 a1.toNatClampNeg) t3)))) ∧
      (r2 = 0 →
        (bool01 (0 : Int32) ∧ post (0 : Int32) t2)))))))) :
    AW l G d hX7_slack 0 [some (.inr 0), some (.inl a1), some (.inl a2)] [] s post := wps_ok (cut := []) oX7_slack 18 0 _ _ _ h
set_option maxRecDepth 100000 in
theorem vX7_gone_0 {l : Launch} {G : GG} {d : Nat} {post : Int32 → Mem → Prop} {a1 : Int32} {s : Mem} (h :
    (∃ (d' : Nat) (Q1 : Int32 → Mem → Prop), d' < d ∧ Spec l G d' hX5_isWind [.inl a1] s Q1 ∧ ∀ (r1 : Int32) (t1 : Mem), Q1 r1 t1 →
    ((¬ r1 = 0 →
      (∃ (d' : Nat) (Q2 : Int32 → Mem → Prop), d' < d ∧ Spec l G d' hX5_settle [.inr 26, .inl a1] t1 Q2 ∧ ∀ (r2 : Int32) (t2 : Mem), Q2 r2 t2 →
      post (t2 26 6) t2)) ∧
    (r1 = 0 →
      post (0 : Int32) t1)))) :
    AW l G d hX7_gone 0 [some (.inr 0), some (.inl a1)] [] s post := wps_ok (cut := []) oX7_gone 12 0 _ _ _ h
set_option maxRecDepth 100000 in
theorem vX7_town_0 {l : Launch} {G : GG} {d : Nat} {post : Int32 → Mem → Prop} {a1 a2 a3 : Int32} {s : Mem} (h :
    (∃ (d' : Nat) (Q1 : Int32 → Mem → Prop), d' < d ∧ Spec l G d' hX3_add [.inr 33, .inl a1, .inl a2, .inl a3] s Q1 ∧ ∀ (r1 : Int32) (t1 : Mem), Q1 r1 t1 →
    post r1 t1)) :
    AW l G d hX7_town 0 [some (.inr 0), some (.inl a1), some (.inl a2), some (.inl a3)] [] s post := wps_ok (cut := []) oX7_town 8 0 _ _ _ h
set_option maxRecDepth 100000 in
theorem vX7_way_0 {l : Launch} {G : GG} {d : Nat} {post : Int32 → Mem → Prop} {a1 a2 a3 : Int32} {s : Mem} (h :
    (∃ (d' : Nat) (Q1 : Int32 → Mem → Prop), d' < d ∧ Spec l G d' hX3_join [.inr 33, .inl a1, .inl a2, .inl a3] s Q1 ∧ ∀ (r1 : Int32) (t1 : Mem), Q1 r1 t1 →
    (bool01 r1 ∧ post r1 t1))) :
    AW l G d hX7_way 0 [some (.inr 0), some (.inl a1), some (.inl a2), some (.inl a3)] [] s post := wps_ok (cut := []) oX7_way 8 0 _ _ _ h
set_option maxRecDepth 100000 in
theorem vX7_hours_0 {l : Launch} {G : GG} {d : Nat} {post : Int32 → Mem → Prop} {a1 a2 : Int32} {s : Mem} (h :
    (∃ (d' : Nat) (Q1 : Int32 → Mem → Prop), d' < d ∧ Spec l G d' hX3_has [.inr 33, .inl a1] s Q1 ∧ ∀ (r1 : Int32) (t1 : Mem), Q1 r1 t1 →
    ((r1 = 0 →
      post (-1 : Int32) t1) ∧
    (¬ r1 = 0 →
      (∃ (d' : Nat) (Q2 : Int32 → Mem → Prop), d' < d ∧ Spec l G d' hX3_has [.inr 33, .inl a2] t1 Q2 ∧ ∀ (r2 : Int32) (t2 : Mem), Q2 r2 t2 →
      ((¬ r2 = 0 →
        (∃ (d' : Nat) (Q3 : Int32 → Mem → Prop), d' < d ∧ Spec l G d' hX3_leastHours [.inr 33, .inl a1, .inl a2] t2 Q3 ∧ ∀ (r3 : Int32) (t3 : Mem), Q3 r3 t3 →
        post r3 t3)) ∧
      (r2 = 0 →
        post (-1 : Int32) t2))))))) :
    AW l G d hX7_hours 0 [some (.inr 0), some (.inl a1), some (.inl a2)] [] s post := wps_ok (cut := []) oX7_hours 17 0 _ _ _ h
set_option maxRecDepth 100000 in
theorem vX7_route_0 {l : Launch} {G : GG} {d : Nat} {post : Int32 → Mem → Prop} {s : Mem} (h :
    (∃ (d' : Nat) (Q1 : Int32 → Mem → Prop), d' < d ∧ Spec l G d' hX1_refresh [.inr 39] s Q1 ∧ ∀ (r1 : Int32) (t1 : Mem), Q1 r1 t1 →
    post (t1 39 2) t1)) :
    AW l G d hX7_route 0 [some (.inr 0)] [] s post := wps_ok (cut := []) oX7_route 8 0 _ _ _ h
set_option maxRecDepth 100000 in
theorem vX7_routeAt_0 {l : Launch} {G : GG} {d : Nat} {post : Int32 → Mem → Prop} {a1 a2 : Int32} {s : Mem} (h :
    (∃ (d' : Nat) (Q1 : Int32 → Mem → Prop), d' < d ∧ Spec l G d' hX1_refresh [.inr 39] s Q1 ∧ ∀ (r1 : Int32) (t1 : Mem), Q1 r1 t1 →
    (∃ (d' : Nat) (Q2 : Int32 → Mem → Prop), d' < d ∧ Spec l G d' hX7_isIn [.inl a1, .inl (t1 39 2)] t1 Q2 ∧ ∀ (r2 : Int32) (t2 : Mem), Q2 r2 t2 →
    ((r2 = 0 →
      post (-1 : Int32) t2) ∧
    (¬ r2 = 0 →
      ((a2 < 0 →
        post (-1 : Int32) t2) ∧
      (¬ a2 < 0 →
        ((a2 ≤ (1 : Int32) →
          ((¬ a2 = 0 →
            (vp_in a1 8 ∧
            post (t2 41 a1.toNatClampNeg) t2)) ∧
          (a2 = 0 →
            (vp_in a1 8 ∧
            post (t2 40 a1.toNatClampNeg) t2)))) ∧
        (¬ a2 ≤ (1 : Int32) →
          post (-1 : Int32) t2))))))))) :
    AW l G d hX7_routeAt 0 [some (.inr 0), some (.inl a1), some (.inl a2)] [] s post := wps_ok (cut := []) oX7_routeAt 24 0 _ _ _ h
set_option maxRecDepth 100000 in
theorem vX7_took_0 {l : Launch} {G : GG} {d : Nat} {post : Int32 → Mem → Prop} {a1 a2 a3 : Int32} {s : Mem} (h :
    (∃ (d' : Nat) (Q1 : Int32 → Mem → Prop), d' < d ∧ Spec l G d' hX3_has [.inr 33, .inl a1] s Q1 ∧ ∀ (r1 : Int32) (t1 : Mem), Q1 r1 t1 →
    ((r1 = 0 →
      post (-1 : Int32) t1) ∧
    (¬ r1 = 0 →
      (∃ (d' : Nat) (Q2 : Int32 → Mem → Prop), d' < d ∧ Spec l G d' hX6_add [.inr 46, .inl a1, .inl a2, .inl a3] t1 Q2 ∧ ∀ (r2 : Int32) (t2 : Mem), Q2 r2 t2 →
      post r2 t2))))) :
    AW l G d hX7_took 0 [some (.inr 0), some (.inl a1), some (.inl a2), some (.inl a3)] [] s post := wps_ok (cut := []) oX7_took 14 0 _ _ _ h
set_option maxRecDepth 100000 in
theorem vX7_foretold_0 {l : Launch} {G : GG} {d : Nat} {post : Int32 → Mem → Prop} {a1 a2 a3 : Int32} {s : Mem} (h :
    (∃ (d' : Nat) (Q1 : Int32 → Mem → Prop), d' < d ∧ Spec l G d' hX3_has [.inr 33, .inl a1] s Q1 ∧ ∀ (r1 : Int32) (t1 : Mem), Q1 r1 t1 →
    ((r1 = 0 →
      post (-1 : Int32) t1) ∧
    (¬ r1 = 0 →
      (∃ (d' : Nat) (Q2 : Int32 → Mem → Prop), d' < d ∧ Spec l G d' hX7_isIn [.inl a2, .inl (7 : Int32)] t1 Q2 ∧ ∀ (r2 : Int32) (t2 : Mem), Q2 r2 t2 →
      ((r2 = 0 →
        post (-1 : Int32) t2) ∧
      (¬ r2 = 0 →
        ((a3 < 0 →
          post (-1 : Int32) t2) ∧
        (¬ a3 < 0 →
          ((a3 ≤ (1 : Int32) →
            (∃ (d' : Nat) (Q3 : Int32 → Mem → Prop), d' < d ∧ Spec l G d' hX6_foretell [.inr 46, .inl a1, .inl a2] t2 Q3 ∧ ∀ (r3 : Int32) (t3 : Mem), Q3 r3 t3 →
            ((¬ a3 = 0 →
              post (t3 46 4) t3) ∧
            (a3 = 0 →
              post (t3 46 3) t3)))) ∧
          (¬ a3 ≤ (1 : Int32) →
            post (-1 : Int32) t2))))))))))) :
    AW l G d hX7_foretold 0 [some (.inr 0), some (.inl a1), some (.inl a2), some (.inl a3)] [] s post := wps_ok (cut := []) oX7_foretold 27 0 _ _ _ h
set_option maxRecDepth 100000 in
theorem vX7_count_0 {l : Launch} {G : GG} {d : Nat} {post : Int32 → Mem → Prop} {a1 : Int32} {s : Mem} (h :
    (((a1.toInt < 0 ∨ 4 < a1.toInt) →
      post (-1 : Int32) s) ∧
    ((a1.toInt = 0 →
      post (s 1 0) s) ∧
    ((a1.toInt = 0 + 1 →
      post (s 33 0) s) ∧
    ((a1.toInt = 0 + 1 + 1 →
      (∃ (d' : Nat) (Q1 : Int32 → Mem → Prop), d' < d ∧ Spec l G d' hJ6_bitCount_0f7a4 [.inl (s 1 7)] s Q1 ∧ ∀ (r1 : Int32) (t1 : Mem), Q1 r1 t1 →
      post r1 t1)) ∧
    ((a1.toInt = 0 + 1 + 1 + 1 →
      (∃ (d' : Nat) (Q2 : Int32 → Mem → Prop), d' < d ∧ Spec l G d' hX5_ropesUp [.inr 26] s Q2 ∧ ∀ (r2 : Int32) (t2 : Mem), Q2 r2 t2 →
      post r2 t2)) ∧
    ((a1.toInt = 0 + 1 + 1 + 1 + 1 →
      post (s 46 0) s) ∧
    True))))))) :
    AW l G d hX7_count 0 [some (.inr 0), some (.inl a1)] [] s post := wps_ok (cut := []) oX7_count 8 0 _ _ _ h
set_option maxRecDepth 100000 in
theorem vX7_isIn_0 {l : Launch} {G : GG} {d : Nat} {post : Int32 → Mem → Prop} {a0 a1 : Int32} {s : Mem} (h :
    ((a0 < 0 →
      (bool01 (0 : Int32) ∧ post (0 : Int32) s)) ∧
    (¬ a0 < 0 →
      ((a1 ≤ a0 →
        (bool01 (0 : Int32) ∧ post (0 : Int32) s)) ∧
      (¬ a1 ≤ a0 →
        (bool01 (1 : Int32) ∧ post (1 : Int32) s)))))) :
    AW l G d hX7_isIn 0 [some (.inl a0), some (.inl a1)] [] s post := wps_ok (cut := []) oX7_isIn 9 0 _ _ _ h
set_option maxRecDepth 100000 in
theorem vJ6_bitCount_0f7a4_0 {l : Launch} {G : GG} {d : Nat} {post : Int32 → Mem → Prop} {a0 : Int32} {s : Mem} (h :
    post ((((((((a0 - (((a0.toUInt32 >>> ((1 : Int32).toUInt32 &&& Int32.toUInt32 31)).toInt32) &&& (1431655765 : Int32))) &&& (858993459 : Int32)) + ((((a0 - (((a0.toUInt32 >>> ((1 : Int32).toUInt32 &&& Int32.toUInt32 31)).toInt32) &&& (1431655765 : Int32))).toUInt32 >>> ((2 : Int32).toUInt32 &&& Int32.toUInt32 31)).toInt32) &&& (858993459 : Int32))) + (((((a0 - (((a0.toUInt32 >>> ((1 : Int32).toUInt32 &&& Int32.toUInt32 31)).toInt32) &&& (1431655765 : Int32))) &&& (858993459 : Int32)) + ((((a0 - (((a0.toUInt32 >>> ((1 : Int32).toUInt32 &&& Int32.toUInt32 31)).toInt32) &&& (1431655765 : Int32))).toUInt32 >>> ((2 : Int32).toUInt32 &&& Int32.toUInt32 31)).toInt32) &&& (858993459 : Int32))).toUInt32 >>> ((4 : Int32).toUInt32 &&& Int32.toUInt32 31)).toInt32)) &&& (252645135 : Int32)) + (((((((a0 - (((a0.toUInt32 >>> ((1 : Int32).toUInt32 &&& Int32.toUInt32 31)).toInt32) &&& (1431655765 : Int32))) &&& (858993459 : Int32)) + ((((a0 - (((a0.toUInt32 >>> ((1 : Int32).toUInt32 &&& Int32.toUInt32 31)).toInt32) &&& (1431655765 : Int32))).toUInt32 >>> ((2 : Int32).toUInt32 &&& Int32.toUInt32 31)).toInt32) &&& (858993459 : Int32))) + (((((a0 - (((a0.toUInt32 >>> ((1 : Int32).toUInt32 &&& Int32.toUInt32 31)).toInt32) &&& (1431655765 : Int32))) &&& (858993459 : Int32)) + ((((a0 - (((a0.toUInt32 >>> ((1 : Int32).toUInt32 &&& Int32.toUInt32 31)).toInt32) &&& (1431655765 : Int32))).toUInt32 >>> ((2 : Int32).toUInt32 &&& Int32.toUInt32 31)).toInt32) &&& (858993459 : Int32))).toUInt32 >>> ((4 : Int32).toUInt32 &&& Int32.toUInt32 31)).toInt32)) &&& (252645135 : Int32)).toUInt32 >>> ((8 : Int32).toUInt32 &&& Int32.toUInt32 31)).toInt32)) + ((((((((a0 - (((a0.toUInt32 >>> ((1 : Int32).toUInt32 &&& Int32.toUInt32 31)).toInt32) &&& (1431655765 : Int32))) &&& (858993459 : Int32)) + ((((a0 - (((a0.toUInt32 >>> ((1 : Int32).toUInt32 &&& Int32.toUInt32 31)).toInt32) &&& (1431655765 : Int32))).toUInt32 >>> ((2 : Int32).toUInt32 &&& Int32.toUInt32 31)).toInt32) &&& (858993459 : Int32))) + (((((a0 - (((a0.toUInt32 >>> ((1 : Int32).toUInt32 &&& Int32.toUInt32 31)).toInt32) &&& (1431655765 : Int32))) &&& (858993459 : Int32)) + ((((a0 - (((a0.toUInt32 >>> ((1 : Int32).toUInt32 &&& Int32.toUInt32 31)).toInt32) &&& (1431655765 : Int32))).toUInt32 >>> ((2 : Int32).toUInt32 &&& Int32.toUInt32 31)).toInt32) &&& (858993459 : Int32))).toUInt32 >>> ((4 : Int32).toUInt32 &&& Int32.toUInt32 31)).toInt32)) &&& (252645135 : Int32)) + (((((((a0 - (((a0.toUInt32 >>> ((1 : Int32).toUInt32 &&& Int32.toUInt32 31)).toInt32) &&& (1431655765 : Int32))) &&& (858993459 : Int32)) + ((((a0 - (((a0.toUInt32 >>> ((1 : Int32).toUInt32 &&& Int32.toUInt32 31)).toInt32) &&& (1431655765 : Int32))).toUInt32 >>> ((2 : Int32).toUInt32 &&& Int32.toUInt32 31)).toInt32) &&& (858993459 : Int32))) + (((((a0 - (((a0.toUInt32 >>> ((1 : Int32).toUInt32 &&& Int32.toUInt32 31)).toInt32) &&& (1431655765 : Int32))) &&& (858993459 : Int32)) + ((((a0 - (((a0.toUInt32 >>> ((1 : Int32).toUInt32 &&& Int32.toUInt32 31)).toInt32) &&& (1431655765 : Int32))).toUInt32 >>> ((2 : Int32).toUInt32 &&& Int32.toUInt32 31)).toInt32) &&& (858993459 : Int32))).toUInt32 >>> ((4 : Int32).toUInt32 &&& Int32.toUInt32 31)).toInt32)) &&& (252645135 : Int32)).toUInt32 >>> ((8 : Int32).toUInt32 &&& Int32.toUInt32 31)).toInt32)).toUInt32 >>> ((16 : Int32).toUInt32 &&& Int32.toUInt32 31)).toInt32)) &&& (63 : Int32)) s) :
    AW l G d hJ6_bitCount_0f7a4 0 [some (.inl a0)] [] s post := wps_ok (cut := []) oJ6_bitCount_0f7a4 43 0 _ _ _ h
end
section
set_option maxRecDepth 100000 in
theorem vX8_in_0 {l : Launch} {G : GG} {d : Nat} {post : Int32 → Mem → Prop} {a0 a1 a2 : Int32} {s : Mem} (h :
    ((a0 < a1 →
      (bool01 (0 : Int32) ∧ post (0 : Int32) s)) ∧
    (¬ a0 < a1 →
      ((a2 < a0 →
        (bool01 (0 : Int32) ∧ post (0 : Int32) s)) ∧
      (¬ a2 < a0 →
        (bool01 (1 : Int32) ∧ post (1 : Int32) s)))))) :
    AW l G d hX8_in 0 [some (.inl a0), some (.inl a1), some (.inl a2)] [] s post := wps_ok (cut := []) oX8_in 10 0 _ _ _ h
set_option maxRecDepth 100000 in
theorem vX8_bits_0 {l : Launch} {G : GG} {d : Nat} {post : Int32 → Mem → Prop} {a0 : Int32} {s : Mem} (h :
    AW l G d hX8_bits 4 [some (.inl a0), some (.inl (0 : Int32)), some (.inl (0 : Int32))] [] s post) :
    AW l G d hX8_bits 0 [some (.inl a0), none, none] [] s post := wps_ok (cut := [4]) oX8_bits 5 0 _ _ _ h
set_option maxRecDepth 100000 in
theorem vX8_bits_4 {l : Launch} {G : GG} {d : Nat} {post : Int32 → Mem → Prop} {a0 a1 a2 : Int32} {s : Mem} (h :
    (((10 : Int32) ≤ a2 →
      post a1 s) ∧
    (¬ (10 : Int32) ≤ a2 →
      AW l G d hX8_bits 4 [some (.inl a0), some (.inl (a1 + ((a0 >>> (a2 &&& 31)) &&& (1 : Int32)))), some (.inl (a2 + (1 : Int32)))] [] s post))) :
    AW l G d hX8_bits 4 [some (.inl a0), some (.inl a1), some (.inl a2)] [] s post := wps_ok (cut := [4]) oX8_bits 14 4 _ _ _ h
set_option maxRecDepth 100000 in
theorem vX8_act_0 {l : Launch} {G : GG} {d : Nat} {post : Int32 → Mem → Prop} {a1 a2 a3 : Int32} {s : Mem} (h :
    (¬ (1000 : Int32) = 0 ∧
    (¬ (100 : Int32) = 0 ∧
    (¬ (10 : Int32) = 0 ∧
    ((a1 < 0 →
      post (-1 : Int32) s) ∧
    (¬ a1 < 0 →
      (∃ (d' : Nat) (Q1 : Int32 → Mem → Prop), d' < d ∧ Spec l G d' hX8_in [.inl (a1 / (1000 : Int32)), .inl (1 : Int32), .inl (60 : Int32)] s Q1 ∧ ∀ (r1 : Int32) (t1 : Mem), Q1 r1 t1 →
      ((r1 = 0 →
        post (-1 : Int32) t1) ∧
      (¬ r1 = 0 →
        (((3 : Int32) < ((a1 / (100 : Int32)) - (a1 / (100 : Int32)) / (10 : Int32) * (10 : Int32)) →
          post (-1 : Int32) t1) ∧
        (¬ (3 : Int32) < ((a1 / (100 : Int32)) - (a1 / (100 : Int32)) / (10 : Int32) * (10 : Int32)) →
          (∃ (d' : Nat) (Q2 : Int32 → Mem → Prop), d' < d ∧ Spec l G d' hX8_in [.inl a2, .inl (0 : Int32), .inl (1023 : Int32)] t1 Q2 ∧ ∀ (r2 : Int32) (t2 : Mem), Q2 r2 t2 →
          ((r2 = 0 →
            post (-1 : Int32) t2) ∧
          (¬ r2 = 0 →
            ((¬ ((a1 / (100 : Int32)) - (a1 / (100 : Int32)) / (10 : Int32) * (10 : Int32)) = (3 : Int32) →
              (∃ (d' : Nat) (Q3 : Int32 → Mem → Prop), d' < d ∧ Spec l G d' hX8_in [.inl a3, .inl (0 : Int32), .inl (255 : Int32)] t2 Q3 ∧ ∀ (r3 : Int32) (t3 : Mem), Q3 r3 t3 →
              ((r3 = 0 →
                post (-1 : Int32) t3) ∧
              (¬ r3 = 0 →
                ((¬ (t3 49 0) = (8 : Int32) →
                  (vp_in (t3 49 0) 8 ∧
                  (vp_in ((wrM t3 50 (t3 49 0).toNatClampNeg (a1 / (1000 : Int32))) 49 0) 8 ∧
                  (¬ (100 : Int32) = 0 ∧
                  (vp_in ((wrM (wrM t3 50 (t3 49 0).toNatClampNeg (a1 / (1000 : Int32))) 51 ((wrM t3 50 (t3 49 0).toNatClampNeg (a1 / (1000 : Int32))) 49 0).toNatClampNeg ((a1 / (100 : Int32)) - (a1 / (100 : Int32)) / (10 : Int32) * (10 : Int32))) 49 0) 8 ∧
                  (vp_in ((wrM (wrM (wrM t3 50 (t3 49 0).toNatClampNeg (a1 / (1000 : Int32))) 51 ((wrM t3 50 (t3 49 0).toNatClampNeg (a1 / (1000 : Int32))) 49 0).toNatClampNeg ((a1 / (100 : Int32)) - (a1 / (100 : Int32)) / (10 : Int32) * (10 : Int32))) 52 ((wrM (wrM t3 50 (t3 49 0).toNatClampNeg (a1 / (1000 : Int32))) 51 ((wrM t3 50 (t3 49 0).toNatClampNeg (a1 / (1000 : Int32))) 49 0).toNatClampNeg ((a1 / (100 : Int32)) - (a1 / (100 : Int32)) / (10 : Int32) * (10 : Int32))) 49 0).toNatClampNeg (a1 - a1 / (100 : Int32) * (100 : Int32))) 49 0) 8 ∧
                  (vp_in ((wrM (wrM (wrM (wrM t3 50 (t3 49 0).toNatClampNeg (a1 / (1000 : Int32))) 51 ((wrM t3 50 (t3 49 0).toNatClampNeg (a1 / (1000 : Int32))) 49 0).toNatClampNeg ((a1 / (100 : Int32)) - (a1 / (100 : Int32)) / (10 : Int32) * (10 : Int32))) 52 ((wrM (wrM t3 50 (t3 49 0).toNatClampNeg (a1 / (1000 : Int32))) 51 ((wrM t3 50 (t3 49 0).toNatClampNeg (a1 / (1000 : Int32))) 49 0).toNatClampNeg ((a1 / (100 : Int32)) - (a1 / (100 : Int32)) / (10 : Int32) * (10 : Int32))) 49 0).toNatClampNeg (a1 - a1 / (100 : Int32) * (100 : Int32))) 53 ((wrM (wrM (wrM t3 50 (t3 49 0).toNatClampNeg (a1 / (1000 : Int32))) 51 ((wrM t3 50 (t3 49 0).toNatClampNeg (a1 / (1000 : Int32))) 49 0).toNatClampNeg ((a1 / (100 : Int32)) - (a1 / (100 : Int32)) / (10 : Int32) * (10 : Int32))) 52 ((wrM (wrM t3 50 (t3 49 0).toNatClampNeg (a1 / (1000 : Int32))) 51 ((wrM t3 50 (t3 49 0).toNatClampNeg (a1 / (1000 : Int32))) 49 0).toNatClampNeg ((a1 / (100 : Int32)) - (a1 / (100 : Int32)) / (10 : Int32) * (10 : Int32))) 49 0).toNatClampNeg (a1 - a1 / (100 : Int32) * (100 : Int32))) 49 0).toNatClampNeg a2) 49 0) 8 ∧
                  post (((wrM (wrM (wrM (wrM (wrM (wrM t3 50 (t3 49 0).toNatClampNeg (a1 / (1000 : Int32))) 51 ((wrM t3 50 (t3 49 0).toNatClampNeg (a1 / (1000 : Int32))) 49 0).toNatClampNeg ((a1 / (100 : Int32)) - (a1 / (100 : Int32)) / (10 : Int32) * (10 : Int32))) 52 ((wrM (wrM t3 50 (t3 49 0).toNatClampNeg (a1 / (1000 : Int32))) 51 ((wrM t3 50 (t3 49 0).toNatClampNeg (a1 / (1000 : Int32))) 49 0).toNatClampNeg ((a1 / (100 : Int32)) - (a1 / (100 : Int32)) / (10 : Int32) * (10 : Int32))) 49 0).toNatClampNeg (a1 - a1 / (100 : Int32) * (100 : Int32))) 53 ((wrM (wrM (wrM t3 50 (t3 49 0).toNatClampNeg (a1 / (1000 : Int32))) 51 ((wrM t3 50 (t3 49 0).toNatClampNeg (a1 / (1000 : Int32))) 49 0).toNatClampNeg ((a1 / (100 : Int32)) - (a1 / (100 : Int32)) / (10 : Int32) * (10 : Int32))) 52 ((wrM (wrM t3 50 (t3 49 0).toNatClampNeg (a1 / (1000 : Int32))) 51 ((wrM t3 50 (t3 49 0).toNatClampNeg (a1 / (1000 : Int32))) 49 0).toNatClampNeg ((a1 / (100 : Int32)) - (a1 / (100 : Int32)) / (10 : Int32) * (10 : Int32))) 49 0).toNatClampNeg (a1 - a1 / (100 : Int32) * (100 : Int32))) 49 0).toNatClampNeg a2) 54 ((wrM (wrM (wrM (wrM t3 50 (t3 49 0).toNatClampNeg (a1 / (1000 : Int32))) 51 ((wrM t3 50 (t3 49 0).toNatClampNeg (a1 / (1000 : Int32))) 49 0).toNatClampNeg ((a1 / (100 : Int32)) - (a1 / (100 : Int32)) / (10 : Int32) * (10 : Int32))) 52 ((wrM (wrM t3 50 (t3 49 0).toNatClampNeg (a1 / (1000 : Int32))) 51 ((wrM t3 50 (t3 49 0).toNatClampNeg (a1 / (1000 : Int32))) 49 0).toNatClampNeg ((a1 / (100 : Int32)) - (a1 / (100 : Int32)) / (10 : Int32) * (10 : Int32))) 49 0).toNatClampNeg (a1 - a1 / (100 : Int32) * (100 : Int32))) 53 ((wrM (wrM (wrM t3 50 (t3 49 0).toNatClampNeg (a1 / (1000 : Int32))) 51 ((wrM t3 50 (t3 49 0).toNatClampNeg (a1 / (1000 : Int32))) 49 0).toNatClampNeg ((a1 / (100 : Int32)) - (a1 / (100 : Int32)) / (10 : Int32) * (10 : Int32))) 52 ((wrM (wrM t3 50 (t3 49 0).toNatClampNeg (a1 / (1000 : Int32))) 51 ((wrM t3 50 (t3 49 0).toNatClampNeg (a1 / (1000 : Int32))) 49 0).toNatClampNeg ((a1 / (100 : Int32)) - (a1 / (100 : Int32)) / (10 : Int32) * (10 : Int32))) 49 0).toNatClampNeg (a1 - a1 / (100 : Int32) * (100 : Int32))) 49 0).toNatClampNeg a2) 49 0).toNatClampNeg a3) 49 0 (((wrM (wrM (wrM (wrM (wrM t3 50 (t3 49 0).toNatClampNeg (a1 / (1000 : Int32))) 51 ((wrM t3 50 (t3 49 0).toNatClampNeg (a1 / (1000 : Int32))) 49 0).toNatClampNeg ((a1 / (100 : Int32)) - (a1 / (100 : Int32)) / (10 : Int32) * (10 : Int32))) 52 ((wrM (wrM t3 50 (t3 49 0).toNatClampNeg (a1 / (1000 : Int32))) 51 ((wrM t3 50 (t3 49 0).toNatClampNeg (a1 / (1000 : Int32))) 49 0).toNatClampNeg ((a1 / (100 : Int32)) - (a1 / (100 : Int32)) / (10 : Int32) * (10 : Int32))) 49 0).toNatClampNeg (a1 - a1 / (100 : Int32) * (100 : Int32))) 53 ((wrM (wrM (wrM t3 50 (t3 49 0).toNatClampNeg (a1 / (1000 : Int32))) 51 ((wrM t3 50 (t3 49 0).toNatClampNeg (a1 / (1000 : Int32))) 49 0).toNatClampNeg ((a1 / (100 : Int32)) - (a1 / (100 : Int32)) / (10 : Int32) * (10 : Int32))) 52 ((wrM (wrM t3 50 (t3 49 0).toNatClampNeg (a1 / (1000 : Int32))) 51 ((wrM t3 50 (t3 49 0).toNatClampNeg (a1 / (1000 : Int32))) 49 0).toNatClampNeg ((a1 / (100 : Int32)) - (a1 / (100 : Int32)) / (10 : Int32) * (10 : Int32))) 49 0).toNatClampNeg (a1 - a1 / (100 : Int32) * (100 : Int32))) 49 0).toNatClampNeg a2) 54 ((wrM (wrM (wrM (wrM t3 50 (t3 49 0).toNatClampNeg (a1 / (1000 : Int32))) 51 ((wrM t3 50 (t3 49 0).toNatClampNeg (a1 / (1000 : Int32))) 49 0).toNatClampNeg ((a1 / (100 : Int32)) - (a1 / (100 : Int32)) / (10 : Int32) * (10 : Int32))) 52 ((wrM (wrM t3 50 (t3 49 0).toNatClampNeg (a1 / (1000 : Int32))) 51 ((wrM t3 50 (t3 49 0).toNatClampNeg (a1 / (1000 : Int32))) 49 0).toNatClampNeg ((a1 / (100 : Int32)) - (a1 / (100 : Int32)) / (10 : Int32) * (10 : Int32))) 49 0).toNatClampNeg (a1 - a1 / (100 : Int32) * (100 : Int32))) 53 ((wrM (wrM (wrM t3 50 (t3 49 0).toNatClampNeg (a1 / (1000 : Int32))) 51 ((wrM t3 50 (t3 49 0).toNatClampNeg (a1 / (1000 : Int32))) 49 0).toNatClampNeg ((a1 / (100 : Int32)) - (a1 / (100 : Int32)) / (10 : Int32) * (10 : Int32))) 52 ((wrM (wrM t3 50 (t3 49 0).toNatClampNeg (a1 / (1000 : Int32))) 51 ((wrM t3 50 (t3 49 0).toNatClampNeg (a1 / (1000 : Int32))) 49 0).toNatClampNeg ((a1 / (100 : Int32)) - (a1 / (100 : Int32)) / (10 : Int32) * (10 : Int32))) 49 0).toNatClampNeg (a1 - a1 / (100 : Int32) * (100 : Int32))) 49 0).toNatClampNeg a2) 49 0).toNatClampNeg a3) 49 0) + (1 : Int32))) 49 0) - (1 : Int32)) (wrM (wrM (wrM (wrM (wrM (wrM t3 50 (t3 49 0).toNatClampNeg (a1 / (1000 : Int32))) 51 ((wrM t3 50 (t3 49 0).toNatClampNeg (a1 / (1000 : Int32))) 49 0).toNatClampNeg ((a1 / (100 : Int32)) - (a1 / (100 : Int32)) / (10 : Int32) * (10 : Int32))) 52 ((wrM (wrM t3 50 (t3 49 0).toNatClampNeg (a1 / (1000 : Int32))) 51 ((wrM t3 50 (t3 49 0).toNatClampNeg (a1 / (1000 : Int32))) 49 0).toNatClampNeg ((a1 / (100 : Int32)) - (a1 / (100 : Int32)) / (10 : Int32) * (10 : Int32))) 49 0).toNatClampNeg (a1 - a1 / (100 : Int32) * (100 : Int32))) 53 ((wrM (wrM (wrM t3 50 (t3 49 0).toNatClampNeg (a1 / (1000 : Int32))) 51 ((wrM t3 50 (t3 49 0).toNatClampNeg (a1 / (1000 : Int32))) 49 0).toNatClampNeg ((a1 / (100 : Int32)) - (a1 / (100 : Int32)) / (10 : Int32) * (10 : Int32))) 52 ((wrM (wrM t3 50 (t3 49 0).toNatClampNeg (a1 / (1000 : Int32))) 51 ((wrM t3 50 (t3 49 0).toNatClampNeg (a1 / (1000 : Int32))) 49 0).toNatClampNeg ((a1 / (100 : Int32)) - (a1 / (100 : Int32)) / (10 : Int32) * (10 : Int32))) 49 0).toNatClampNeg (a1 - a1 / (100 : Int32) * (100 : Int32))) 49 0).toNatClampNeg a2) 54 ((wrM (wrM (wrM (wrM t3 50 (t3 49 0).toNatClampNeg (a1 / (1000 : Int32))) 51 ((wrM t3 50 (t3 49 0).toNatClampNeg (a1 / (1000 : Int32))) 49 0).toNatClampNeg ((a1 / (100 : Int32)) - (a1 / (100 : Int32)) / (10 : Int32) * (10 : Int32))) 52 ((wrM (wrM t3 50 (t3 49 0).toNatClampNeg (a1 / (1000 : Int32))) 51 ((wrM t3 50 (t3 49 0).toNatClampNeg (a1 / (1000 : Int32))) 49 0).toNatClampNeg ((a1 / (100 : Int32)) - (a1 / (100 : Int32)) / (10 : Int32) * (10 : Int32))) 49 0).toNatClampNeg (a1 - a1 / (100 : Int32) * (100 : Int32))) 53 ((wrM (wrM (wrM t3 50 (t3 49 0).toNatClampNeg (a1 / (1000 : Int32))) 51 ((wrM t3 50 (t3 49 0).toNatClampNeg (a1 / (1000 : Int32))) 49 0).toNatClampNeg ((a1 / (100 : Int32)) - (a1 / (100 : Int32)) / (10 : Int32) * (10 : Int32))) 52 ((wrM (wrM t3 50 (t3 49 0).toNatClampNeg (a1 / (1000 : Int32))) 51 ((wrM t3 50 (t3 49 0).toNatClampNeg (a1 / (1000 : Int32))) 49 0).toNatClampNeg ((a1 / (100 : Int32)) - (a1 / (100 : Int32)) / (10 : Int32) * (10 : Int32))) 49 0).toNatClampNeg (a1 - a1 / (100 : Int32) * (100 : Int32))) 49 0).toNatClampNeg a2) 49 0).toNatClampNeg a3) 49 0 (((wrM (wrM (wrM (wrM (wrM t3 50 (t3 49 0).toNatClampNeg (a1 / (1000 : Int32))) 51 ((wrM t3 50 (t3 49 0).toNatClampNeg (a1 / (1000 : Int32))) 49 0).toNatClampNeg ((a1 / (100 : Int32)) - (a1 / (100 : Int32)) / (10 : Int32) * (10 : Int32))) 52 ((wrM (wrM t3 50 (t3 49 0).toNatClampNeg (a1 / (1000 : Int32))) 51 ((wrM t3 50 (t3 49 0).toNatClampNeg (a1 / (1000 : Int32))) 49 0).toNatClampNeg ((a1 / (100 : Int32)) - (a1 / (100 : Int32)) / (10 : Int32) * (10 : Int32))) 49 0).toNatClampNeg (a1 - a1 / (100 : Int32) * (100 : Int32))) 53 ((wrM (wrM (wrM t3 50 (t3 49 0).toNatClampNeg (a1 / (1000 : Int32))) 51 ((wrM t3 50 (t3 49 0).toNatClampNeg (a1 / (1000 : Int32))) 49 0).toNatClampNeg ((a1 / (100 : Int32)) - (a1 / (100 : Int32)) / (10 : Int32) * (10 : Int32))) 52 ((wrM (wrM t3 50 (t3 49 0).toNatClampNeg (a1 / (1000 : Int32))) 51 ((wrM t3 50 (t3 49 0).toNatClampNeg (a1 / (1000 : Int32))) 49 0).toNatClampNeg ((a1 / (100 : Int32)) - (a1 / (100 : Int32)) / (10 : Int32) * (10 : Int32))) 49 0).toNatClampNeg (a1 - a1 / (100 : Int32) * (100 : Int32))) 49 0).toNatClampNeg a2) 54 ((wrM (wrM (wrM (wrM t3 50 (t3 49 0).toNatClampNeg (a1 / (1000 : Int32))) 51 ((wrM t3 50 (t3 49 0).toNatClampNeg (a1 / (1000 : Int32))) 49 0).toNatClampNeg ((a1 / (100 : Int32)) - (a1 / (100 : Int32)) / (10 : Int32) * (10 : Int32))) 52 ((wrM (wrM t3 50 (t3 49 0).toNatClampNeg (a1 / (1000 : Int32))) 51 ((wrM t3 50 (t3 49 0).toNatClampNeg (a1 / (1000 : Int32))) 49 0).toNatClampNeg ((a1 / (100 : Int32)) - (a1 / (100 : Int32)) / (10 : Int32) * (10 : Int32))) 49 0).toNatClampNeg (a1 - a1 / (100 : Int32) * (100 : Int32))) 53 ((wrM (wrM (wrM t3 50 (t3 49 0).toNatClampNeg (a1 / (1000 : Int32))) 51 ((wrM t3 50 (t3 49 0).toNatClampNeg (a1 / (1000 : Int32))) 49 0).toNatClampNeg ((a1 / (100 : Int32)) - (a1 / (100 : Int32)) / (10 : Int32) * (10 : Int32))) 52 ((wrM (wrM t3 50 (t3 49 0).toNatClampNeg (a1 / (1000 : Int32))) 51 ((wrM t3 50 (t3 49 0).toNatClampNeg (a1 / (1000 : Int32))) 49 0).toNatClampNeg ((a1 / (100 : Int32)) - (a1 / (100 : Int32)) / (10 : Int32) * (10 : Int32))) 49 0).toNatClampNeg (a1 - a1 / (100 : Int32) * (100 : Int32))) 49 0).toNatClampNeg a2) 49 0).toNatClampNeg a3) 49 0) + (1 : Int32)))))))))) ∧
                ((t3 49 0) = (8 : Int32) →
                  post (-1 : Int32) t3)))))) ∧
            (((a1 / (100 : Int32)) - (a1 / (100 : Int32)) / (10 : Int32) * (10 : Int32)) = (3 : Int32) →
              (∃ (d' : Nat) (Q4 : Int32 → Mem → Prop), d' < d ∧ Spec l G d' hX8_in [.inl a3, .inl (0 : Int32), .inl (0 : Int32)] t2 Q4 ∧ ∀ (r4 : Int32) (t4 : Mem), Q4 r4 t4 →
              ((r4 = 0 →
                post (-1 : Int32) t4) ∧
              (¬ r4 = 0 →
                ((¬ (t4 49 0) = (8 : Int32) →
                  (vp_in (t4 49 0) 8 ∧
                  (vp_in ((wrM t4 50 (t4 49 0).toNatClampNeg (a1 / (1000 : Int32))) 49 0) 8 ∧
                  (¬ (100 : Int32) = 0 ∧
                  (vp_in ((wrM (wrM t4 50 (t4 49 0).toNatClampNeg (a1 / (1000 : Int32))) 51 ((wrM t4 50 (t4 49 0).toNatClampNeg (a1 / (1000 : Int32))) 49 0).toNatClampNeg ((a1 / (100 : Int32)) - (a1 / (100 : Int32)) / (10 : Int32) * (10 : Int32))) 49 0) 8 ∧
                  (vp_in ((wrM (wrM (wrM t4 50 (t4 49 0).toNatClampNeg (a1 / (1000 : Int32))) 51 ((wrM t4 50 (t4 49 0).toNatClampNeg (a1 / (1000 : Int32))) 49 0).toNatClampNeg ((a1 / (100 : Int32)) - (a1 / (100 : Int32)) / (10 : Int32) * (10 : Int32))) 52 ((wrM (wrM t4 50 (t4 49 0).toNatClampNeg (a1 / (1000 : Int32))) 51 ((wrM t4 50 (t4 49 0).toNatClampNeg (a1 / (1000 : Int32))) 49 0).toNatClampNeg ((a1 / (100 : Int32)) - (a1 / (100 : Int32)) / (10 : Int32) * (10 : Int32))) 49 0).toNatClampNeg (a1 - a1 / (100 : Int32) * (100 : Int32))) 49 0) 8 ∧
                  (vp_in ((wrM (wrM (wrM (wrM t4 50 (t4 49 0).toNatClampNeg (a1 / (1000 : Int32))) 51 ((wrM t4 50 (t4 49 0).toNatClampNeg (a1 / (1000 : Int32))) 49 0).toNatClampNeg ((a1 / (100 : Int32)) - (a1 / (100 : Int32)) / (10 : Int32) * (10 : Int32))) 52 ((wrM (wrM t4 50 (t4 49 0).toNatClampNeg (a1 / (1000 : Int32))) 51 ((wrM t4 50 (t4 49 0).toNatClampNeg (a1 / (1000 : Int32))) 49 0).toNatClampNeg ((a1 / (100 : Int32)) - (a1 / (100 : Int32)) / (10 : Int32) * (10 : Int32))) 49 0).toNatClampNeg (a1 - a1 / (100 : Int32) * (100 : Int32))) 53 ((wrM (wrM (wrM t4 50 (t4 49 0).toNatClampNeg (a1 / (1000 : Int32))) 51 ((wrM t4 50 (t4 49 0).toNatClampNeg (a1 / (1000 : Int32))) 49 0).toNatClampNeg ((a1 / (100 : Int32)) - (a1 / (100 : Int32)) / (10 : Int32) * (10 : Int32))) 52 ((wrM (wrM t4 50 (t4 49 0).toNatClampNeg (a1 / (1000 : Int32))) 51 ((wrM t4 50 (t4 49 0).toNatClampNeg (a1 / (1000 : Int32))) 49 0).toNatClampNeg ((a1 / (100 : Int32)) - (a1 / (100 : Int32)) / (10 : Int32) * (10 : Int32))) 49 0).toNatClampNeg (a1 - a1 / (100 : Int32) * (100 : Int32))) 49 0).toNatClampNeg a2) 49 0) 8 ∧
                  post (((wrM (wrM (wrM (wrM (wrM (wrM t4 50 (t4 49 0).toNatClampNeg (a1 / (1000 : Int32))) 51 ((wrM t4 50 (t4 49 0).toNatClampNeg (a1 / (1000 : Int32))) 49 0).toNatClampNeg ((a1 / (100 : Int32)) - (a1 / (100 : Int32)) / (10 : Int32) * (10 : Int32))) 52 ((wrM (wrM t4 50 (t4 49 0).toNatClampNeg (a1 / (1000 : Int32))) 51 ((wrM t4 50 (t4 49 0).toNatClampNeg (a1 / (1000 : Int32))) 49 0).toNatClampNeg ((a1 / (100 : Int32)) - (a1 / (100 : Int32)) / (10 : Int32) * (10 : Int32))) 49 0).toNatClampNeg (a1 - a1 / (100 : Int32) * (100 : Int32))) 53 ((wrM (wrM (wrM t4 50 (t4 49 0).toNatClampNeg (a1 / (1000 : Int32))) 51 ((wrM t4 50 (t4 49 0).toNatClampNeg (a1 / (1000 : Int32))) 49 0).toNatClampNeg ((a1 / (100 : Int32)) - (a1 / (100 : Int32)) / (10 : Int32) * (10 : Int32))) 52 ((wrM (wrM t4 50 (t4 49 0).toNatClampNeg (a1 / (1000 : Int32))) 51 ((wrM t4 50 (t4 49 0).toNatClampNeg (a1 / (1000 : Int32))) 49 0).toNatClampNeg ((a1 / (100 : Int32)) - (a1 / (100 : Int32)) / (10 : Int32) * (10 : Int32))) 49 0).toNatClampNeg (a1 - a1 / (100 : Int32) * (100 : Int32))) 49 0).toNatClampNeg a2) 54 ((wrM (wrM (wrM (wrM t4 50 (t4 49 0).toNatClampNeg (a1 / (1000 : Int32))) 51 ((wrM t4 50 (t4 49 0).toNatClampNeg (a1 / (1000 : Int32))) 49 0).toNatClampNeg ((a1 / (100 : Int32)) - (a1 / (100 : Int32)) / (10 : Int32) * (10 : Int32))) 52 ((wrM (wrM t4 50 (t4 49 0).toNatClampNeg (a1 / (1000 : Int32))) 51 ((wrM t4 50 (t4 49 0).toNatClampNeg (a1 / (1000 : Int32))) 49 0).toNatClampNeg ((a1 / (100 : Int32)) - (a1 / (100 : Int32)) / (10 : Int32) * (10 : Int32))) 49 0).toNatClampNeg (a1 - a1 / (100 : Int32) * (100 : Int32))) 53 ((wrM (wrM (wrM t4 50 (t4 49 0).toNatClampNeg (a1 / (1000 : Int32))) 51 ((wrM t4 50 (t4 49 0).toNatClampNeg (a1 / (1000 : Int32))) 49 0).toNatClampNeg ((a1 / (100 : Int32)) - (a1 / (100 : Int32)) / (10 : Int32) * (10 : Int32))) 52 ((wrM (wrM t4 50 (t4 49 0).toNatClampNeg (a1 / (1000 : Int32))) 51 ((wrM t4 50 (t4 49 0).toNatClampNeg (a1 / (1000 : Int32))) 49 0).toNatClampNeg ((a1 / (100 : Int32)) - (a1 / (100 : Int32)) / (10 : Int32) * (10 : Int32))) 49 0).toNatClampNeg (a1 - a1 / (100 : Int32) * (100 : Int32))) 49 0).toNatClampNeg a2) 49 0).toNatClampNeg a3) 49 0 (((wrM (wrM (wrM (wrM (wrM t4 50 (t4 49 0).toNatClampNeg (a1 / (1000 : Int32))) 51 ((wrM t4 50 (t4 49 0).toNatClampNeg (a1 / (1000 : Int32))) 49 0).toNatClampNeg ((a1 / (100 : Int32)) - (a1 / (100 : Int32)) / (10 : Int32) * (10 : Int32))) 52 ((wrM (wrM t4 50 (t4 49 0).toNatClampNeg (a1 / (1000 : Int32))) 51 ((wrM t4 50 (t4 49 0).toNatClampNeg (a1 / (1000 : Int32))) 49 0).toNatClampNeg ((a1 / (100 : Int32)) - (a1 / (100 : Int32)) / (10 : Int32) * (10 : Int32))) 49 0).toNatClampNeg (a1 - a1 / (100 : Int32) * (100 : Int32))) 53 ((wrM (wrM (wrM t4 50 (t4 49 0).toNatClampNeg (a1 / (1000 : Int32))) 51 ((wrM t4 50 (t4 49 0).toNatClampNeg (a1 / (1000 : Int32))) 49 0).toNatClampNeg ((a1 / (100 : Int32)) - (a1 / (100 : Int32)) / (10 : Int32) * (10 : Int32))) 52 ((wrM (wrM t4 50 (t4 49 0).toNatClampNeg (a1 / (1000 : Int32))) 51 ((wrM t4 50 (t4 49 0).toNatClampNeg (a1 / (1000 : Int32))) 49 0).toNatClampNeg ((a1 / (100 : Int32)) - (a1 / (100 : Int32)) / (10 : Int32) * (10 : Int32))) 49 0).toNatClampNeg (a1 - a1 / (100 : Int32) * (100 : Int32))) 49 0).toNatClampNeg a2) 54 ((wrM (wrM (wrM (wrM t4 50 (t4 49 0).toNatClampNeg (a1 / (1000 : Int32))) 51 ((wrM t4 50 (t4 49 0).toNatClampNeg (a1 / (1000 : Int32))) 49 0).toNatClampNeg ((a1 / (100 : Int32)) - (a1 / (100 : Int32)) / (10 : Int32) * (10 : Int32))) 52 ((wrM (wrM t4 50 (t4 49 0).toNatClampNeg (a1 / (1000 : Int32))) 51 ((wrM t4 50 (t4 49 0).toNatClampNeg (a1 / (1000 : Int32))) 49 0).toNatClampNeg ((a1 / (100 : Int32)) - (a1 / (100 : Int32)) / (10 : Int32) * (10 : Int32))) 49 0).toNatClampNeg (a1 - a1 / (100 : Int32) * (100 : Int32))) 53 ((wrM (wrM (wrM t4 50 (t4 49 0).toNatClampNeg (a1 / (1000 : Int32))) 51 ((wrM t4 50 (t4 49 0).toNatClampNeg (a1 / (1000 : Int32))) 49 0).toNatClampNeg ((a1 / (100 : Int32)) - (a1 / (100 : Int32)) / (10 : Int32) * (10 : Int32))) 52 ((wrM (wrM t4 50 (t4 49 0).toNatClampNeg (a1 / (1000 : Int32))) 51 ((wrM t4 50 (t4 49 0).toNatClampNeg (a1 / (1000 : Int32))) 49 0).toNatClampNeg ((a1 / (100 : Int32)) - (a1 / (100 : Int32)) / (10 : Int32) * (10 : Int32))) 49 0).toNatClampNeg (a1 - a1 / (100 : Int32) * (100 : Int32))) 49 0).toNatClampNeg a2) 49 0).toNatClampNeg a3) 49 0) + (1 : Int32))) 49 0) - (1 : Int32)) (wrM (wrM (wrM (wrM (wrM (wrM t4 50 (t4 49 0).toNatClampNeg (a1 / (1000 : Int32))) 51 ((wrM t4 50 (t4 49 0).toNatClampNeg (a1 / (1000 : Int32))) 49 0).toNatClampNeg ((a1 / (100 : Int32)) - (a1 / (100 : Int32)) / (10 : Int32) * (10 : Int32))) 52 ((wrM (wrM t4 50 (t4 49 0).toNatClampNeg (a1 / (1000 : Int32))) 51 ((wrM t4 50 (t4 49 0).toNatClampNeg (a1 / (1000 : Int32))) 49 0).toNatClampNeg ((a1 / (100 : Int32)) - (a1 / (100 : Int32)) / (10 : Int32) * (10 : Int32))) 49 0).toNatClampNeg (a1 - a1 / (100 : Int32) * (100 : Int32))) 53 ((wrM (wrM (wrM t4 50 (t4 49 0).toNatClampNeg (a1 / (1000 : Int32))) 51 ((wrM t4 50 (t4 49 0).toNatClampNeg (a1 / (1000 : Int32))) 49 0).toNatClampNeg ((a1 / (100 : Int32)) - (a1 / (100 : Int32)) / (10 : Int32) * (10 : Int32))) 52 ((wrM (wrM t4 50 (t4 49 0).toNatClampNeg (a1 / (1000 : Int32))) 51 ((wrM t4 50 (t4 49 0).toNatClampNeg (a1 / (1000 : Int32))) 49 0).toNatClampNeg ((a1 / (100 : Int32)) - (a1 / (100 : Int32)) / (10 : Int32) * (10 : Int32))) 49 0).toNatClampNeg (a1 - a1 / (100 : Int32) * (100 : Int32))) 49 0).toNatClampNeg a2) 54 ((wrM (wrM (wrM (wrM t4 50 (t4 49 0).toNatClampNeg (a1 / (1000 : Int32))) 51 ((wrM t4 50 (t4 49 0).toNatClampNeg (a1 / (1000 : Int32))) 49 0).toNatClampNeg ((a1 / (100 : Int32)) - (a1 / (100 : Int32)) / (10 : Int32) * (10 : Int32))) 52 ((wrM (wrM t4 50 (t4 49 0).toNatClampNeg (a1 / (1000 : Int32))) 51 ((wrM t4 50 (t4 49 0).toNatClampNeg (a1 / (1000 : Int32))) 49 0).toNatClampNeg ((a1 / (100 : Int32)) - (a1 / (100 : Int32)) / (10 : Int32) * (10 : Int32))) 49 0).toNatClampNeg (a1 - a1 / (100 : Int32) * (100 : Int32))) 53 ((wrM (wrM (wrM t4 50 (t4 49 0).toNatClampNeg (a1 / (1000 : Int32))) 51 ((wrM t4 50 (t4 49 0).toNatClampNeg (a1 / (1000 : Int32))) 49 0).toNatClampNeg ((a1 / (100 : Int32)) - (a1 / (100 : Int32)) / (10 : Int32) * (10 : Int32))) 52 ((wrM (wrM t4 50 (t4 49 0).toNatClampNeg (a1 / (1000 : Int32))) 51 ((wrM t4 50 (t4 49 0).toNatClampNeg (a1 / (1000 : Int32))) 49 0).toNatClampNeg ((a1 / (100 : Int32)) - (a1 / (100 : Int32)) / (10 : Int32) * (10 : Int32))) 49 0).toNatClampNeg (a1 - a1 / (100 : Int32) * (100 : Int32))) 49 0).toNatClampNeg a2) 49 0).toNatClampNeg a3) 49 0 (((wrM (wrM (wrM (wrM (wrM t4 50 (t4 49 0).toNatClampNeg (a1 / (1000 : Int32))) 51 ((wrM t4 50 (t4 49 0).toNatClampNeg (a1 / (1000 : Int32))) 49 0).toNatClampNeg ((a1 / (100 : Int32)) - (a1 / (100 : Int32)) / (10 : Int32) * (10 : Int32))) 52 ((wrM (wrM t4 50 (t4 49 0).toNatClampNeg (a1 / (1000 : Int32))) 51 ((wrM t4 50 (t4 49 0).toNatClampNeg (a1 / (1000 : Int32))) 49 0).toNatClampNeg ((a1 / (100 : Int32)) - (a1 / (100 : Int32)) / (10 : Int32) * (10 : Int32))) 49 0).toNatClampNeg (a1 - a1 / (100 : Int32) * (100 : Int32))) 53 ((wrM (wrM (wrM t4 50 (t4 49 0).toNatClampNeg (a1 / (1000 : Int32))) 51 ((wrM t4 50 (t4 49 0).toNatClampNeg (a1 / (1000 : Int32))) 49 0).toNatClampNeg ((a1 / (100 : Int32)) - (a1 / (100 : Int32)) / (10 : Int32) * (10 : Int32))) 52 ((wrM (wrM t4 50 (t4 49 0).toNatClampNeg (a1 / (1000 : Int32))) 51 ((wrM t4 50 (t4 49 0).toNatClampNeg (a1 / (1000 : Int32))) 49 0).toNatClampNeg ((a1 / (100 : Int32)) - (a1 / (100 : Int32)) / (10 : Int32) * (10 : Int32))) 49 0).toNatClampNeg (a1 - a1 / (100 : Int32) * (100 : Int32))) 49 0).toNatClampNeg a2) 54 ((wrM (wrM (wrM (wrM t4 50 (t4 49 0).toNatClampNeg (a1 / (1000 : Int32))) 51 ((wrM t4 50 (t4 49 0).toNatClampNeg (a1 / (1000 : Int32))) 49 0).toNatClampNeg ((a1 / (100 : Int32)) - (a1 / (100 : Int32)) / (10 : Int32) * (10 : Int32))) 52 ((wrM (wrM t4 50 (t4 49 0).toNatClampNeg (a1 / (1000 : Int32))) 51 ((wrM t4 50 (t4 49 0).toNatClampNeg (a1 / (1000 : Int32))) 49 0).toNatClampNeg ((a1 / (100 : Int32)) - (a1 / (100 : Int32)) / (10 : Int32) * (10 : Int32))) 49 0).toNatClampNeg (a1 - a1 / (100 : Int32) * (100 : Int32))) 53 ((wrM (wrM (wrM t4 50 (t4 49 0).toNatClampNeg (a1 / (1000 : Int32))) 51 ((wrM t4 50 (t4 49 0).toNatClampNeg (a1 / (1000 : Int32))) 49 0).toNatClampNeg ((a1 / (100 : Int32)) - (a1 / (100 : Int32)) / (10 : Int32) * (10 : Int32))) 52 ((wrM (wrM t4 50 (t4 49 0).toNatClampNeg (a1 / (1000 : Int32))) 51 ((wrM t4 50 (t4 49 0).toNatClampNeg (a1 / (1000 : Int32))) 49 0).toNatClampNeg ((a1 / (100 : Int32)) - (a1 / (100 : Int32)) / (10 : Int32) * (10 : Int32))) 49 0).toNatClampNeg (a1 - a1 / (100 : Int32) * (100 : Int32))) 49 0).toNatClampNeg a2) 49 0).toNatClampNeg a3) 49 0) + (1 : Int32)))))))))) ∧
                ((t4 49 0) = (8 : Int32) →
                  post (-1 : Int32) t4))))))))))))))))))))) :
    AW l G d hX8_act 0 [some (.inr 49), some (.inl a1), some (.inl a2), some (.inl a3), none, none] [] s post := wps_ok (cut := []) oX8_act 82 0 _ _ _ h
set_option maxRecDepth 100000 in
theorem vX8_rests_0 {l : Launch} {G : GG} {d : Nat} {post : Int32 → Mem → Prop} {a1 a2 : Int32} {s : Mem} (h :
    (∃ (d' : Nat) (Q1 : Int32 → Mem → Prop), d' < d ∧ Spec l G d' hX8_in [.inl a1, .inl (0 : Int32), .inl (9 : Int32)] s Q1 ∧ ∀ (r1 : Int32) (t1 : Mem), Q1 r1 t1 →
    ((r1 = 0 →
      (bool01 (0 : Int32) ∧ post (0 : Int32) t1)) ∧
    (¬ r1 = 0 →
      (∃ (d' : Nat) (Q2 : Int32 → Mem → Prop), d' < d ∧ Spec l G d' hX8_in [.inl a2, .inl (0 : Int32), .inl (3 : Int32)] t1 Q2 ∧ ∀ (r2 : Int32) (t2 : Mem), Q2 r2 t2 →
      ((¬ r2 = 0 →
        (vp_in a1 10 ∧
        (bool01 (1 : Int32) ∧ post (1 : Int32) (wrM t2 55 a1.toNatClampNeg a2)))) ∧
      (r2 = 0 →
        (bool01 (0 : Int32) ∧ post (0 : Int32) t2)))))))) :
    AW l G d hX8_rests 0 [some (.inr 49), some (.inl a1), some (.inl a2)] [] s post := wps_ok (cut := []) oX8_rests 18 0 _ _ _ h
set_option maxRecDepth 100000 in
theorem vX8_ban_0 {l : Launch} {G : GG} {d : Nat} {post : Int32 → Mem → Prop} {a1 a2 a3 : Int32} {s : Mem} (h :
    (∃ (d' : Nat) (Q1 : Int32 → Mem → Prop), d' < d ∧ Spec l G d' hX8_in [.inl a1, .inl (0 : Int32), .inl (3 : Int32)] s Q1 ∧ ∀ (r1 : Int32) (t1 : Mem), Q1 r1 t1 →
    ((r1 = 0 →
      (bool01 (0 : Int32) ∧ post (0 : Int32) t1)) ∧
    (¬ r1 = 0 →
      (∃ (d' : Nat) (Q2 : Int32 → Mem → Prop), d' < d ∧ Spec l G d' hX8_in [.inl a2, .inl (0 : Int32), .inl (3 : Int32)] t1 Q2 ∧ ∀ (r2 : Int32) (t2 : Mem), Q2 r2 t2 →
      ((r2 = 0 →
        (bool01 (0 : Int32) ∧ post (0 : Int32) t2)) ∧
      (¬ r2 = 0 →
        (vp_in (((4 : Int32) * a1) + a2) 16 ∧
        ((¬ (t2 56 (((4 : Int32) * a1) + a2).toNatClampNeg) = a3 →
          (vp_in (((4 : Int32) * a1) + a2) 16 ∧
          (bool01 (1 : Int32) ∧ post (1 : Int32) (wrM t2 56 (((4 : Int32) * a1) + a2).toNatClampNeg (vp_nar .boolean a3))))) ∧
        ((t2 56 (((4 : Int32) * a1) + a2).toNatClampNeg) = a3 →
          (bool01 (0 : Int32) ∧ post (0 : Int32) t2))))))))))) :
    AW l G d hX8_ban 0 [some (.inr 49), some (.inl a1), some (.inl a2), some (.inl a3)] [] s post := wps_ok (cut := []) oX8_ban 32 0 _ _ _ h
set_option maxRecDepth 100000 in
theorem vX8_breaksAt_0 {l : Launch} {G : GG} {d : Nat} {post : Int32 → Mem → Prop} {a1 : Int32} {s : Mem} (h :
    (vp_in a1 9 ∧
    (((s 68 a1.toNatClampNeg) < (s 49 0) →
      AW l G d hX8_breaksAt 19 [some (.inr 49), some (.inl a1), some (.inl (s 68 a1.toNatClampNeg)), some (.inl (0 : Int32)), none] [] s post) ∧
    (¬ (s 68 a1.toNatClampNeg) < (s 49 0) →
      post (1 : Int32) s)))) :
    AW l G d hX8_breaksAt 0 [some (.inr 49), some (.inl a1), none, none, none] [] s post := wps_ok (cut := [19, 44, 52]) oX8_breaksAt 12 0 _ _ _ h
set_option maxRecDepth 100000 in
theorem vX8_breaksAt_19 {l : Launch} {G : GG} {d : Nat} {post : Int32 → Mem → Prop} {a1 a2 a3 : Int32} {s : Mem} (h :
    ((a1 ≤ a3 →
      AW l G d hX8_breaksAt 44 [some (.inr 49), some (.inl a1), some (.inl a2), some (.inl (0 : Int32)), none] [] s post) ∧
    (¬ a1 ≤ a3 →
      (vp_in a3 9 ∧
      ((¬ (s 68 a3.toNatClampNeg) = a2 →
        AW l G d hX8_breaksAt 19 [some (.inr 49), some (.inl a1), some (.inl a2), some (.inl (a3 + (1 : Int32))), none] [] s post) ∧
      ((s 68 a3.toNatClampNeg) = a2 →
        post (1 : Int32) s)))))) :
    AW l G d hX8_breaksAt 19 [some (.inr 49), some (.inl a1), some (.inl a2), some (.inl a3), none] [] s post := wps_ok (cut := [19, 44, 52]) oX8_breaksAt 12 19 _ _ _ h
set_option maxRecDepth 100000 in
theorem vX8_breaksAt_44 {l : Launch} {G : GG} {d : Nat} {post : Int32 → Mem → Prop} {a1 a2 a3 : Int32} {s : Mem} (h :
    ((a1 ≤ a3 →
      ((a1 ≤ 0 →
        post (0 : Int32) s) ∧
      (¬ a1 ≤ 0 →
        (vp_in (a1 - (1 : Int32)) 9 ∧
        (vp_in (s 68 (a1 - (1 : Int32)).toNatClampNeg) 8 ∧
        (vp_in a2 8 ∧
        (vp_in (((4 : Int32) * (s 51 (s 68 (a1 - (1 : Int32)).toNatClampNeg).toNatClampNeg)) + (s 51 a2.toNatClampNeg)) 16 ∧
        (((s 56 (((4 : Int32) * (s 51 (s 68 (a1 - (1 : Int32)).toNatClampNeg).toNatClampNeg)) + (s 51 a2.toNatClampNeg)).toNatClampNeg) = 0 →
          post (0 : Int32) s) ∧
        (¬ (s 56 (((4 : Int32) * (s 51 (s 68 (a1 - (1 : Int32)).toNatClampNeg).toNatClampNeg)) + (s 51 a2.toNatClampNeg)).toNatClampNeg) = 0 →
          post (3 : Int32) s))))))))) ∧
    (¬ a1 ≤ a3 →
      AW l G d hX8_breaksAt 52 [some (.inr 49), some (.inl a1), some (.inl a2), some (.inl a3), some (.inl (0 : Int32))] [] s post))) :
    AW l G d hX8_breaksAt 44 [some (.inr 49), some (.inl a1), some (.inl a2), some (.inl a3), none] [] s post := wps_ok (cut := [19, 44, 52]) oX8_breaksAt 29 44 _ _ _ h
set_option maxRecDepth 100000 in
theorem vX8_breaksAt_52 {l : Launch} {G : GG} {d : Nat} {post : Int32 → Mem → Prop} {a1 a2 a3 a4 : Int32} {s : Mem} (h :
    (((10 : Int32) ≤ a4 →
      AW l G d hX8_breaksAt 44 [some (.inr 49), some (.inl a1), some (.inl a2), some (.inl (a3 + (1 : Int32))), some (.inl a4)] [] s post) ∧
    (¬ (10 : Int32) ≤ a4 →
      (vp_in a2 8 ∧
      (vp_in a3 9 ∧
      (vp_in (s 68 a3.toNatClampNeg) 8 ∧
      ((¬ ((((s 53 a2.toNatClampNeg) >>> (a4 &&& 31)) &&& ((s 53 (s 68 a3.toNatClampNeg).toNatClampNeg) >>> (a4 &&& 31))) &&& (1 : Int32)) = (1 : Int32) →
        AW l G d hX8_breaksAt 52 [some (.inr 49), some (.inl a1), some (.inl a2), some (.inl a3), some (.inl (a4 + (1 : Int32)))] [] s post) ∧
      (((((s 53 a2.toNatClampNeg) >>> (a4 &&& 31)) &&& ((s 53 (s 68 a3.toNatClampNeg).toNatClampNeg) >>> (a4 &&& 31))) &&& (1 : Int32)) = (1 : Int32) →
        (vp_in a4 10 ∧
        (((s 55 a4.toNatClampNeg) ≤ ((a1 - a3) - (1 : Int32)) →
          AW l G d hX8_breaksAt 52 [some (.inr 49), some (.inl a1), some (.inl a2), some (.inl a3), some (.inl (a4 + (1 : Int32)))] [] s post) ∧
        (¬ (s 55 a4.toNatClampNeg) ≤ ((a1 - a3) - (1 : Int32)) →
          post (2 : Int32) s))))))))))) :
    AW l G d hX8_breaksAt 52 [some (.inr 49), some (.inl a1), some (.inl a2), some (.inl a3), some (.inl a4)] [] s post := wps_ok (cut := [19, 44, 52]) oX8_breaksAt 36 52 _ _ _ h
set_option maxRecDepth 100000 in
theorem vX8_reads_0 {l : Launch} {G : GG} {d : Nat} {post : Int32 → Mem → Prop} {a1 a2 : Int32} {s : Mem} (h :
    (∃ (d' : Nat) (Q1 : Int32 → Mem → Prop), d' < d ∧ Spec l G d' hX8_in [.inl a2, .inl (0 : Int32), .inl (8 : Int32)] s Q1 ∧ ∀ (r1 : Int32) (t1 : Mem), Q1 r1 t1 →
    ((r1 = 0 →
      (bool01 (0 : Int32) ∧ post (0 : Int32) t1)) ∧
    (¬ r1 = 0 →
      ((0 ≤ a1 →
        AW l G d hX8_reads 21 [some (.inr 49), some (.inl a1), some (.inl a2), some (.inl a1), some (.inl (0 : Int32))] [] t1 post) ∧
      (¬ 0 ≤ a1 →
        (bool01 (0 : Int32) ∧ post (0 : Int32) t1))))))) :
    AW l G d hX8_reads 0 [some (.inr 49), some (.inl a1), some (.inl a2), none, none] [] s post := wps_ok (cut := [21]) oX8_reads 12 0 _ _ _ h
set_option maxRecDepth 100000 in
theorem vX8_reads_21 {l : Launch} {G : GG} {d : Nat} {post : Int32 → Mem → Prop} {a1 a2 a3 a4 : Int32} {s : Mem} (h :
    ((a2 ≤ a4 →
      ((¬ a3 = 0 →
        (bool01 (0 : Int32) ∧ post (0 : Int32) s)) ∧
      (a3 = 0 →
        (bool01 (1 : Int32) ∧ post (1 : Int32) s)))) ∧
    (¬ a2 ≤ a4 →
      (¬ (10 : Int32) = 0 ∧
      (vp_in a4 9 ∧
      (¬ (10 : Int32) = 0 ∧
      AW l G d hX8_reads 21 [some (.inr 49), some (.inl a1), some (.inl a2), some (.inl (a3 / (10 : Int32))), some (.inl (a4 + (1 : Int32)))] [] (wrM s 68 a4.toNatClampNeg (a3 - a3 / (10 : Int32) * (10 : Int32))) post)))))) :
    AW l G d hX8_reads 21 [some (.inr 49), some (.inl a1), some (.inl a2), some (.inl a3), some (.inl a4)] [] s post := wps_ok (cut := [21]) oX8_reads 17 21 _ _ _ h
set_option maxRecDepth 100000 in
theorem vX8_judge_0 {l : Launch} {G : GG} {d : Nat} {post : Int32 → Mem → Prop} {a1 a2 a3 : Int32} {s : Mem} (h :
    (∃ (d' : Nat) (Q1 : Int32 → Mem → Prop), d' < d ∧ Spec l G d' hX8_reads [.inr 49, .inl a1, .inl a2] s Q1 ∧ ∀ (r1 : Int32) (t1 : Mem), Q1 r1 t1 →
    ((r1 = 0 →
      post (-1 : Int32) t1) ∧
    (¬ r1 = 0 →
      (∃ (d' : Nat) (Q2 : Int32 → Mem → Prop), d' < d ∧ Spec l G d' hX8_in [.inl a3, .inl (0 : Int32), .inl (1 : Int32)] t1 Q2 ∧ ∀ (r2 : Int32) (t2 : Mem), Q2 r2 t2 →
      ((¬ r2 = 0 →
        AW l G d hX8_judge 23 [some (.inr 49), some (.inl a1), some (.inl a2), some (.inl a3), some (.inl (0 : Int32)), none] [] t2 post) ∧
      (r2 = 0 →
        post (-1 : Int32) t2))))))) :
    AW l G d hX8_judge 0 [some (.inr 49), some (.inl a1), some (.inl a2), some (.inl a3), none, none] [] s post := wps_ok (cut := [23]) oX8_judge 13 0 _ _ _ h
set_option maxRecDepth 100000 in
theorem vX8_judge_23 {l : Launch} {G : GG} {d : Nat} {post : Int32 → Mem → Prop} {a1 a2 a3 a4 : Int32} {s : Mem} (h :
    ((a2 ≤ a4 →
      (((s 49 0) ≤ a2 →
        post (-1 : Int32) s) ∧
      (¬ (s 49 0) ≤ a2 →
        ((¬ a3 = 0 →
          post (4 : Int32) s) ∧
        (a3 = 0 →
          post a2 s))))) ∧
    (¬ a2 ≤ a4 →
      (∃ (d' : Nat) (Q1 : Int32 → Mem → Prop), d' < d ∧ Spec l G d' hX8_breaksAt [.inr 49, .inl a4] s Q1 ∧ ∀ (r1 : Int32) (t1 : Mem), Q1 r1 t1 →
      ((r1 ≤ 0 →
        AW l G d hX8_judge 23 [some (.inr 49), some (.inl a1), some (.inl a2), some (.inl a3), some (.inl (a4 + (1 : Int32))), some (.inl r1)] [] t1 post) ∧
      (¬ r1 ≤ 0 →
        ((¬ a3 = 0 →
          post r1 t1) ∧
        (a3 = 0 →
          post a4 t1)))))))) :
    AW l G d hX8_judge 23 [some (.inr 49), some (.inl a1), some (.inl a2), some (.inl a3), some (.inl a4), none] [] s post := wps_ok (cut := [23]) oX8_judge 15 23 _ _ _ h
set_option maxRecDepth 100000 in
theorem vX8_gapsOf_0 {l : Launch} {G : GG} {d : Nat} {post : Int32 → Mem → Prop} {a1 : Int32} {s : Mem} (h :
    AW l G d hX8_gapsOf 10 [some (.inr 49), some (.inl a1), some (.inl (0 : Int32)), some (.inl (0 : Int32)), some (.inl (0 : Int32)), some (.inl (0 : Int32)), none, none] [] s post) :
    AW l G d hX8_gapsOf 0 [some (.inr 49), some (.inl a1), none, none, none, none, none, none] [] s post := wps_ok (cut := [10]) oX8_gapsOf 9 0 _ _ _ h
set_option maxRecDepth 100000 in
theorem vX8_gapsOf_10 {l : Launch} {G : GG} {d : Nat} {post : Int32 → Mem → Prop} {a1 a2 a3 a4 a5 : Int32} {s : Mem} (h :
    ((a1 ≤ a5 →
      post a4 s) ∧
    (¬ a1 ≤ a5 →
      (vp_in a5 9 ∧
      (vp_in (s 68 a5.toNatClampNeg) 8 ∧
      ((¬ (s 51 (s 68 a5.toNatClampNeg).toNatClampNeg) = (3 : Int32) →
        (vp_in (s 68 a5.toNatClampNeg) 8 ∧
        (∃ (d' : Nat) (Q1 : Int32 → Mem → Prop), d' < d ∧ Spec l G d' hX8_bits [.inl (a2 ^^^ (s 54 (s 68 a5.toNatClampNeg).toNatClampNeg))] s Q1 ∧ ∀ (r1 : Int32) (t1 : Mem), Q1 r1 t1 →
        (((((2 : Int32) * r1) - a3) ≤ 0 →
          (vp_in (s 68 a5.toNatClampNeg) 8 ∧
          AW l G d hX8_gapsOf 10 [some (.inr 49), some (.inl a1), some (.inl (t1 54 (s 68 a5.toNatClampNeg).toNatClampNeg)), some (.inl (0 : Int32)), some (.inl (a4 + (0 : Int32))), some (.inl (a5 + (1 : Int32))), some (.inl (s 68 a5.toNatClampNeg)), some (.inl (((2 : Int32) * r1) - a3))] [] t1 post)) ∧
        (¬ (((2 : Int32) * r1) - a3) ≤ 0 →
          (vp_in (s 68 a5.toNatClampNeg) 8 ∧
          AW l G d hX8_gapsOf 10 [some (.inr 49), some (.inl a1), some (.inl (t1 54 (s 68 a5.toNatClampNeg).toNatClampNeg)), some (.inl (0 : Int32)), some (.inl (a4 + (((2 : Int32) * r1) - a3))), some (.inl (a5 + (1 : Int32))), some (.inl (s 68 a5.toNatClampNeg)), some (.inl (((2 : Int32) * r1) - a3))] [] t1 post)))))) ∧
      ((s 51 (s 68 a5.toNatClampNeg).toNatClampNeg) = (3 : Int32) →
        (vp_in (s 68 a5.toNatClampNeg) 8 ∧
        AW l G d hX8_gapsOf 10 [some (.inr 49), some (.inl a1), some (.inl a2), some (.inl (a3 + (s 50 (s 68 a5.toNatClampNeg).toNatClampNeg))), some (.inl a4), some (.inl (a5 + (1 : Int32))), some (.inl (s 68 a5.toNatClampNeg)), none] [] s post)))))))) :
    AW l G d hX8_gapsOf 10 [some (.inr 49), some (.inl a1), some (.inl a2), some (.inl a3), some (.inl a4), some (.inl a5), none, none] [] s post := wps_ok (cut := [10]) oX8_gapsOf 43 10 _ _ _ h
set_option maxRecDepth 100000 in
theorem vX8_gaps_0 {l : Launch} {G : GG} {d : Nat} {post : Int32 → Mem → Prop} {a1 a2 : Int32} {s : Mem} (h :
    (∃ (d' : Nat) (Q1 : Int32 → Mem → Prop), d' < d ∧ Spec l G d' hX8_reads [.inr 49, .inl a1, .inl a2] s Q1 ∧ ∀ (r1 : Int32) (t1 : Mem), Q1 r1 t1 →
    ((r1 = 0 →
      post (-1 : Int32) t1) ∧
    (¬ r1 = 0 →
      (∃ (d' : Nat) (Q2 : Int32 → Mem → Prop), d' < d ∧ Spec l G d' hX8_judge [.inr 49, .inl a1, .inl a2, .inl (0 : Int32)] t1 Q2 ∧ ∀ (r2 : Int32) (t2 : Mem), Q2 r2 t2 →
      ((r2 = (-1 : Int32) →
        (∃ (d' : Nat) (Q3 : Int32 → Mem → Prop), d' < d ∧ Spec l G d' hX8_gapsOf [.inr 49, .inl a2] t2 Q3 ∧ ∀ (r3 : Int32) (t3 : Mem), Q3 r3 t3 →
        post r3 t3)) ∧
      (¬ r2 = (-1 : Int32) →
        post (-1 : Int32) t2))))))) :
    AW l G d hX8_gaps 0 [some (.inr 49), some (.inl a1), some (.inl a2)] [] s post := wps_ok (cut := []) oX8_gaps 17 0 _ _ _ h
set_option maxRecDepth 100000 in
theorem vX8_seeks_0 {l : Launch} {G : GG} {d : Nat} {post : Int32 → Mem → Prop} {s : Mem} (h :
    (vp_in (0 : Int32) 10 ∧
    AW l G d hX8_seeks 16 [some (.inr 49), some (.inl (0 : Int32)), some (.inl (0 : Int32)), none, none, none] [] (wrM (wrM s 49 26 (-1 : Int32)) 69 (0 : Int32).toNatClampNeg (0 : Int32)) post)) :
    AW l G d hX8_seeks 0 [some (.inr 49), none, none, none, none, none] [] s post := wps_ok (cut := [16, 47, 122]) oX8_seeks 13 0 _ _ _ h
set_option maxRecDepth 100000 in
theorem vX8_seeks_16 {l : Launch} {G : GG} {d : Nat} {post : Int32 → Mem → Prop} {a1 a2 : Int32} {s : Mem} (h :
    ((a2 < 0 →
      (((s 49 26) = (-1 : Int32) →
        (bool01 (0 : Int32) ∧ post (0 : Int32) s)) ∧
      (¬ (s 49 26) = (-1 : Int32) →
        (bool01 (1 : Int32) ∧ post (1 : Int32) s)))) ∧
    (¬ a2 < 0 →
      (((s 49 0) ≤ 0 →
        (((s 49 26) = (-1 : Int32) →
          (bool01 (0 : Int32) ∧ post (0 : Int32) s)) ∧
        (¬ (s 49 26) = (-1 : Int32) →
          (bool01 (1 : Int32) ∧ post (1 : Int32) s)))) ∧
      (¬ (s 49 0) ≤ 0 →
        ((¬ a2 = (s 49 0) →
          ((¬ a2 = (s 49 0) →
            (vp_in a2 10 ∧
            ((¬ (s 69 a2.toNatClampNeg) = (s 49 0) →
              (vp_in a2 10 ∧
              (vp_in a2 10 ∧
              (vp_in a2 9 ∧
              (∃ (d' : Nat) (Q1 : Int32 → Mem → Prop), d' < d ∧ Spec l G d' hX8_breaksAt [.inr 49, .inl a2] (wrM (wrM s 69 a2.toNatClampNeg ((s 69 a2.toNatClampNeg) + (1 : Int32))) 68 a2.toNatClampNeg (s 69 a2.toNatClampNeg)) Q1 ∧ ∀ (r1 : Int32) (t1 : Mem), Q1 r1 t1 →
              ((r1 ≤ 0 →
                (vp_in (a2 + (1 : Int32)) 10 ∧
                AW l G d hX8_seeks 16 [some (.inr 49), some (.inl a1), some (.inl (a2 + (1 : Int32))), some (.inl (s 69 a2.toNatClampNeg)), none, none] [] (wrM t1 69 (a2 + (1 : Int32)).toNatClampNeg (0 : Int32)) post)) ∧
              (¬ r1 ≤ 0 →
                AW l G d hX8_seeks 16 [some (.inr 49), some (.inl a1), some (.inl a2), some (.inl (s 69 a2.toNatClampNeg)), none, none] [] t1 post))))))) ∧
            ((s 69 a2.toNatClampNeg) = (s 49 0) →
              AW l G d hX8_seeks 16 [some (.inr 49), some (.inl a1), some (.inl (a2 + (-1 : Int32))), some (.inl (s 69 a2.toNatClampNeg)), none, none] [] s post)))) ∧
          (a2 = (s 49 0) →
            ((¬ (s 49 0) = (s 49 0) →
              (vp_in a2 10 ∧
              (vp_in a2 10 ∧
              (vp_in a2 9 ∧
              (∃ (d' : Nat) (Q2 : Int32 → Mem → Prop), d' < d ∧ Spec l G d' hX8_breaksAt [.inr 49, .inl a2] (wrM (wrM s 69 a2.toNatClampNeg ((s 69 a2.toNatClampNeg) + (1 : Int32))) 68 a2.toNatClampNeg (s 49 0)) Q2 ∧ ∀ (r2 : Int32) (t2 : Mem), Q2 r2 t2 →
              ((r2 ≤ 0 →
                (vp_in (a2 + (1 : Int32)) 10 ∧
                AW l G d hX8_seeks 16 [some (.inr 49), some (.inl a1), some (.inl (a2 + (1 : Int32))), some (.inl (s 49 0)), none, none] [] (wrM t2 69 (a2 + (1 : Int32)).toNatClampNeg (0 : Int32)) post)) ∧
              (¬ r2 ≤ 0 →
                AW l G d hX8_seeks 16 [some (.inr 49), some (.inl a1), some (.inl a2), some (.inl (s 49 0)), none, none] [] t2 post))))))) ∧
            ((s 49 0) = (s 49 0) →
              AW l G d hX8_seeks 16 [some (.inr 49), some (.inl a1), some (.inl (a2 + (-1 : Int32))), some (.inl (s 49 0)), none, none] [] s post))))) ∧
        (a2 = (s 49 0) →
          (∃ (d' : Nat) (Q3 : Int32 → Mem → Prop), d' < d ∧ Spec l G d' hX8_gapsOf [.inr 49, .inl a2] s Q3 ∧ ∀ (r3 : Int32) (t3 : Mem), Q3 r3 t3 →
          AW l G d hX8_seeks 47 [some (.inr 49), some (.inl a1), some (.inl a2), some (.inl r3), some (.inl (0 : Int32)), some (.inl (0 : Int32))] [] t3 post)))))))) :
    AW l G d hX8_seeks 16 [some (.inr 49), some (.inl a1), some (.inl a2), none, none, none] [] s post := wps_ok (cut := [16, 47, 122]) oX8_seeks 47 16 _ _ _ h
set_option maxRecDepth 100000 in
theorem vX8_seeks_47 {l : Launch} {G : GG} {d : Nat} {post : Int32 → Mem → Prop} {a1 a2 a3 a4 a5 : Int32} {s : Mem} (h :
    ((a2 ≤ a5 →
      (((s 49 26) = (-1 : Int32) →
        AW l G d hX8_seeks 122 [some (.inr 49), some (.inl a4), some (.inl a2), some (.inl a3), some (.inl a4), some (.inl (0 : Int32))] [] (wrM s 49 26 a3) post) ∧
      (¬ (s 49 26) = (-1 : Int32) →
        ((a3 < (s 49 26) →
          AW l G d hX8_seeks 122 [some (.inr 49), some (.inl a4), some (.inl a2), some (.inl a3), some (.inl a4), some (.inl (0 : Int32))] [] (wrM s 49 26 a3) post) ∧
        (¬ a3 < (s 49 26) →
          ((¬ a3 = (s 49 26) →
            ((¬ a2 = (s 49 0) →
              (vp_in a2 10 ∧
              ((¬ (s 69 a2.toNatClampNeg) = (s 49 0) →
                (vp_in a2 10 ∧
                (vp_in a2 10 ∧
                (vp_in a2 9 ∧
                (∃ (d' : Nat) (Q1 : Int32 → Mem → Prop), d' < d ∧ Spec l G d' hX8_breaksAt [.inr 49, .inl a2] (wrM (wrM s 69 a2.toNatClampNeg ((s 69 a2.toNatClampNeg) + (1 : Int32))) 68 a2.toNatClampNeg (s 69 a2.toNatClampNeg)) Q1 ∧ ∀ (r1 : Int32) (t1 : Mem), Q1 r1 t1 →
                ((r1 ≤ 0 →
                  (vp_in (a2 + (1 : Int32)) 10 ∧
                  AW l G d hX8_seeks 16 [some (.inr 49), some (.inl a1), some (.inl (a2 + (1 : Int32))), some (.inl (s 69 a2.toNatClampNeg)), some (.inl a4), some (.inl a5)] [] (wrM t1 69 (a2 + (1 : Int32)).toNatClampNeg (0 : Int32)) post)) ∧
                (¬ r1 ≤ 0 →
                  AW l G d hX8_seeks 16 [some (.inr 49), some (.inl a1), some (.inl a2), some (.inl (s 69 a2.toNatClampNeg)), some (.inl a4), some (.inl a5)] [] t1 post))))))) ∧
              ((s 69 a2.toNatClampNeg) = (s 49 0) →
                AW l G d hX8_seeks 16 [some (.inr 49), some (.inl a1), some (.inl (a2 + (-1 : Int32))), some (.inl (s 69 a2.toNatClampNeg)), some (.inl a4), some (.inl a5)] [] s post)))) ∧
            (a2 = (s 49 0) →
              ((¬ (s 49 0) = (s 49 0) →
                (vp_in a2 10 ∧
                (vp_in a2 10 ∧
                (vp_in a2 9 ∧
                (∃ (d' : Nat) (Q2 : Int32 → Mem → Prop), d' < d ∧ Spec l G d' hX8_breaksAt [.inr 49, .inl a2] (wrM (wrM s 69 a2.toNatClampNeg ((s 69 a2.toNatClampNeg) + (1 : Int32))) 68 a2.toNatClampNeg (s 49 0)) Q2 ∧ ∀ (r2 : Int32) (t2 : Mem), Q2 r2 t2 →
                ((r2 ≤ 0 →
                  (vp_in (a2 + (1 : Int32)) 10 ∧
                  AW l G d hX8_seeks 16 [some (.inr 49), some (.inl a1), some (.inl (a2 + (1 : Int32))), some (.inl (s 49 0)), some (.inl a4), some (.inl a5)] [] (wrM t2 69 (a2 + (1 : Int32)).toNatClampNeg (0 : Int32)) post)) ∧
                (¬ r2 ≤ 0 →
                  AW l G d hX8_seeks 16 [some (.inr 49), some (.inl a1), some (.inl a2), some (.inl (s 49 0)), some (.inl a4), some (.inl a5)] [] t2 post))))))) ∧
              ((s 49 0) = (s 49 0) →
                AW l G d hX8_seeks 16 [some (.inr 49), some (.inl a1), some (.inl (a2 + (-1 : Int32))), some (.inl (s 49 0)), some (.inl a4), some (.inl a5)] [] s post))))) ∧
          (a3 = (s 49 26) →
            ((a4 ≤ a1 →
              ((¬ a2 = (s 49 0) →
                (vp_in a2 10 ∧
                ((¬ (s 69 a2.toNatClampNeg) = (s 49 0) →
                  (vp_in a2 10 ∧
                  (vp_in a2 10 ∧
                  (vp_in a2 9 ∧
                  (∃ (d' : Nat) (Q3 : Int32 → Mem → Prop), d' < d ∧ Spec l G d' hX8_breaksAt [.inr 49, .inl a2] (wrM (wrM s 69 a2.toNatClampNeg ((s 69 a2.toNatClampNeg) + (1 : Int32))) 68 a2.toNatClampNeg (s 69 a2.toNatClampNeg)) Q3 ∧ ∀ (r3 : Int32) (t3 : Mem), Q3 r3 t3 →
                  ((r3 ≤ 0 →
                    (vp_in (a2 + (1 : Int32)) 10 ∧
                    AW l G d hX8_seeks 16 [some (.inr 49), some (.inl a1), some (.inl (a2 + (1 : Int32))), some (.inl (s 69 a2.toNatClampNeg)), some (.inl a4), some (.inl a5)] [] (wrM t3 69 (a2 + (1 : Int32)).toNatClampNeg (0 : Int32)) post)) ∧
                  (¬ r3 ≤ 0 →
                    AW l G d hX8_seeks 16 [some (.inr 49), some (.inl a1), some (.inl a2), some (.inl (s 69 a2.toNatClampNeg)), some (.inl a4), some (.inl a5)] [] t3 post))))))) ∧
                ((s 69 a2.toNatClampNeg) = (s 49 0) →
                  AW l G d hX8_seeks 16 [some (.inr 49), some (.inl a1), some (.inl (a2 + (-1 : Int32))), some (.inl (s 69 a2.toNatClampNeg)), some (.inl a4), some (.inl a5)] [] s post)))) ∧
              (a2 = (s 49 0) →
                ((¬ (s 49 0) = (s 49 0) →
                  (vp_in a2 10 ∧
                  (vp_in a2 10 ∧
                  (vp_in a2 9 ∧
                  (∃ (d' : Nat) (Q4 : Int32 → Mem → Prop), d' < d ∧ Spec l G d' hX8_breaksAt [.inr 49, .inl a2] (wrM (wrM s 69 a2.toNatClampNeg ((s 69 a2.toNatClampNeg) + (1 : Int32))) 68 a2.toNatClampNeg (s 49 0)) Q4 ∧ ∀ (r4 : Int32) (t4 : Mem), Q4 r4 t4 →
                  ((r4 ≤ 0 →
                    (vp_in (a2 + (1 : Int32)) 10 ∧
                    AW l G d hX8_seeks 16 [some (.inr 49), some (.inl a1), some (.inl (a2 + (1 : Int32))), some (.inl (s 49 0)), some (.inl a4), some (.inl a5)] [] (wrM t4 69 (a2 + (1 : Int32)).toNatClampNeg (0 : Int32)) post)) ∧
                  (¬ r4 ≤ 0 →
                    AW l G d hX8_seeks 16 [some (.inr 49), some (.inl a1), some (.inl a2), some (.inl (s 49 0)), some (.inl a4), some (.inl a5)] [] t4 post))))))) ∧
                ((s 49 0) = (s 49 0) →
                  AW l G d hX8_seeks 16 [some (.inr 49), some (.inl a1), some (.inl (a2 + (-1 : Int32))), some (.inl (s 49 0)), some (.inl a4), some (.inl a5)] [] s post))))) ∧
            (¬ a4 ≤ a1 →
              AW l G d hX8_seeks 122 [some (.inr 49), some (.inl a4), some (.inl a2), some (.inl a3), some (.inl a4), some (.inl (0 : Int32))] [] (wrM s 49 26 a3) post))))))))) ∧
    (¬ a2 ≤ a5 →
      (vp_in a5 9 ∧
      (vp_in (s 68 a5.toNatClampNeg) 8 ∧
      AW l G d hX8_seeks 47 [some (.inr 49), some (.inl a1), some (.inl a2), some (.inl a3), some (.inl (a4 + ((s 52 (s 68 a5.toNatClampNeg).toNatClampNeg) * (a5 + (1 : Int32))))), some (.inl (a5 + (1 : Int32)))] [] s post))))) :
    AW l G d hX8_seeks 47 [some (.inr 49), some (.inl a1), some (.inl a2), some (.inl a3), some (.inl a4), some (.inl a5)] [] s post := wps_ok (cut := [16, 47, 122]) oX8_seeks 56 47 _ _ _ h
set_option maxRecDepth 100000 in
theorem vX8_seeks_122 {l : Launch} {G : GG} {d : Nat} {post : Int32 → Mem → Prop} {a1 a2 a3 a4 a5 : Int32} {s : Mem} (h :
    ((a2 ≤ a5 →
      ((¬ a2 = (s 49 0) →
        (vp_in a2 10 ∧
        ((¬ (s 69 a2.toNatClampNeg) = (s 49 0) →
          (vp_in a2 10 ∧
          (vp_in a2 10 ∧
          (vp_in a2 9 ∧
          (∃ (d' : Nat) (Q1 : Int32 → Mem → Prop), d' < d ∧ Spec l G d' hX8_breaksAt [.inr 49, .inl a2] (wrM (wrM s 69 a2.toNatClampNeg ((s 69 a2.toNatClampNeg) + (1 : Int32))) 68 a2.toNatClampNeg (s 69 a2.toNatClampNeg)) Q1 ∧ ∀ (r1 : Int32) (t1 : Mem), Q1 r1 t1 →
          ((r1 ≤ 0 →
            (vp_in (a2 + (1 : Int32)) 10 ∧
            AW l G d hX8_seeks 16 [some (.inr 49), some (.inl a1), some (.inl (a2 + (1 : Int32))), some (.inl (s 69 a2.toNatClampNeg)), some (.inl a4), some (.inl a5)] [] (wrM t1 69 (a2 + (1 : Int32)).toNatClampNeg (0 : Int32)) post)) ∧
          (¬ r1 ≤ 0 →
            AW l G d hX8_seeks 16 [some (.inr 49), some (.inl a1), some (.inl a2), some (.inl (s 69 a2.toNatClampNeg)), some (.inl a4), some (.inl a5)] [] t1 post))))))) ∧
        ((s 69 a2.toNatClampNeg) = (s 49 0) →
          AW l G d hX8_seeks 16 [some (.inr 49), some (.inl a1), some (.inl (a2 + (-1 : Int32))), some (.inl (s 69 a2.toNatClampNeg)), some (.inl a4), some (.inl a5)] [] s post)))) ∧
      (a2 = (s 49 0) →
        ((¬ (s 49 0) = (s 49 0) →
          (vp_in a2 10 ∧
          (vp_in a2 10 ∧
          (vp_in a2 9 ∧
          (∃ (d' : Nat) (Q2 : Int32 → Mem → Prop), d' < d ∧ Spec l G d' hX8_breaksAt [.inr 49, .inl a2] (wrM (wrM s 69 a2.toNatClampNeg ((s 69 a2.toNatClampNeg) + (1 : Int32))) 68 a2.toNatClampNeg (s 49 0)) Q2 ∧ ∀ (r2 : Int32) (t2 : Mem), Q2 r2 t2 →
          ((r2 ≤ 0 →
            (vp_in (a2 + (1 : Int32)) 10 ∧
            AW l G d hX8_seeks 16 [some (.inr 49), some (.inl a1), some (.inl (a2 + (1 : Int32))), some (.inl (s 49 0)), some (.inl a4), some (.inl a5)] [] (wrM t2 69 (a2 + (1 : Int32)).toNatClampNeg (0 : Int32)) post)) ∧
          (¬ r2 ≤ 0 →
            AW l G d hX8_seeks 16 [some (.inr 49), some (.inl a1), some (.inl a2), some (.inl (s 49 0)), some (.inl a4), some (.inl a5)] [] t2 post))))))) ∧
        ((s 49 0) = (s 49 0) →
          AW l G d hX8_seeks 16 [some (.inr 49), some (.inl a1), some (.inl (a2 + (-1 : Int32))), some (.inl (s 49 0)), some (.inl a4), some (.inl a5)] [] s post))))) ∧
    (¬ a2 ≤ a5 →
      (vp_in a5 9 ∧
      (vp_in a5 8 ∧
      AW l G d hX8_seeks 122 [some (.inr 49), some (.inl a1), some (.inl a2), some (.inl a3), some (.inl a4), some (.inl (a5 + (1 : Int32)))] [] (wrM s 70 a5.toNatClampNeg (s 68 a5.toNatClampNeg)) post))))) :
    AW l G d hX8_seeks 122 [some (.inr 49), some (.inl a1), some (.inl a2), some (.inl a3), some (.inl a4), some (.inl a5)] [] s post := wps_ok (cut := [16, 47, 122]) oX8_seeks 41 122 _ _ _ h
set_option maxRecDepth 100000 in
theorem vX8_best_0 {l : Launch} {G : GG} {d : Nat} {post : Int32 → Mem → Prop} {s : Mem} (h :
    (∃ (d' : Nat) (Q1 : Int32 → Mem → Prop), d' < d ∧ Spec l G d' hX8_seeks [.inr 49] s Q1 ∧ ∀ (r1 : Int32) (t1 : Mem), Q1 r1 t1 →
    ((r1 = 0 →
      post (-1 : Int32) t1) ∧
    (¬ r1 = 0 →
      post (t1 49 26) t1)))) :
    AW l G d hX8_best 0 [some (.inr 49)] [] s post := wps_ok (cut := []) oX8_best 8 0 _ _ _ h
set_option maxRecDepth 100000 in
theorem vX8_bestAt_0 {l : Launch} {G : GG} {d : Nat} {post : Int32 → Mem → Prop} {a1 : Int32} {s : Mem} (h :
    (∃ (d' : Nat) (Q1 : Int32 → Mem → Prop), d' < d ∧ Spec l G d' hX8_seeks [.inr 49] s Q1 ∧ ∀ (r1 : Int32) (t1 : Mem), Q1 r1 t1 →
    ((r1 = 0 →
      post (-1 : Int32) t1) ∧
    (¬ r1 = 0 →
      (∃ (d' : Nat) (Q2 : Int32 → Mem → Prop), d' < d ∧ Spec l G d' hX8_in [.inl a1, .inl (0 : Int32), .inl ((t1 49 0) - (1 : Int32))] t1 Q2 ∧ ∀ (r2 : Int32) (t2 : Mem), Q2 r2 t2 →
      ((r2 = 0 →
        post (-1 : Int32) t2) ∧
      (¬ r2 = 0 →
        (vp_in a1 8 ∧
        post (t2 70 a1.toNatClampNeg) t2)))))))) :
    AW l G d hX8_bestAt 0 [some (.inr 49), some (.inl a1)] [] s post := wps_ok (cut := []) oX8_bestAt 18 0 _ _ _ h
set_option maxRecDepth 100000 in
theorem vX8_load_0 {l : Launch} {G : GG} {d : Nat} {post : Int32 → Mem → Prop} {a1 a2 : Int32} {s : Mem} (h :
    (∃ (d' : Nat) (Q1 : Int32 → Mem → Prop), d' < d ∧ Spec l G d' hX8_in [.inl a1, .inl (0 : Int32), .inl (7 : Int32)] s Q1 ∧ ∀ (r1 : Int32) (t1 : Mem), Q1 r1 t1 →
    ((r1 = 0 →
      (bool01 (0 : Int32) ∧ post (0 : Int32) t1)) ∧
    (¬ r1 = 0 →
      (∃ (d' : Nat) (Q2 : Int32 → Mem → Prop), d' < d ∧ Spec l G d' hX8_in [.inl a2, .inl (0 : Int32), .inl (10000 : Int32)] t1 Q2 ∧ ∀ (r2 : Int32) (t2 : Mem), Q2 r2 t2 →
      ((¬ r2 = 0 →
        (vp_in a1 8 ∧
        (bool01 (1 : Int32) ∧ post (1 : Int32) (wrM t2 57 a1.toNatClampNeg a2)))) ∧
      (r2 = 0 →
        (bool01 (0 : Int32) ∧ post (0 : Int32) t2)))))))) :
    AW l G d hX8_load 0 [some (.inr 49), some (.inl a1), some (.inl a2)] [] s post := wps_ok (cut := []) oX8_load 18 0 _ _ _ h
set_option maxRecDepth 100000 in
theorem vX8_share_0 {l : Launch} {G : GG} {d : Nat} {post : Int32 → Mem → Prop} {a1 a2 a3 : Int32} {s : Mem} (h :
    (∃ (d' : Nat) (Q1 : Int32 → Mem → Prop), d' < d ∧ Spec l G d' hX8_in [.inl a1, .inl (0 : Int32), .inl (7 : Int32)] s Q1 ∧ ∀ (r1 : Int32) (t1 : Mem), Q1 r1 t1 →
    ((r1 = 0 →
      (bool01 (0 : Int32) ∧ post (0 : Int32) t1)) ∧
    (¬ r1 = 0 →
      (∃ (d' : Nat) (Q2 : Int32 → Mem → Prop), d' < d ∧ Spec l G d' hX8_in [.inl a2, .inl (0 : Int32), .inl (7 : Int32)] t1 Q2 ∧ ∀ (r2 : Int32) (t2 : Mem), Q2 r2 t2 →
      ((r2 = 0 →
        (bool01 (0 : Int32) ∧ post (0 : Int32) t2)) ∧
      (¬ r2 = 0 →
        (∃ (d' : Nat) (Q3 : Int32 → Mem → Prop), d' < d ∧ Spec l G d' hX8_in [.inl a3, .inl (0 : Int32), .inl (100 : Int32)] t2 Q3 ∧ ∀ (r3 : Int32) (t3 : Mem), Q3 r3 t3 →
        ((¬ r3 = 0 →
          AW l G d hX8_share 38 [some (.inr 49), some (.inl a1), some (.inl a2), some (.inl a3), some (.inl a3), some (.inl (0 : Int32))] [] t3 post) ∧
        (r3 = 0 →
          (bool01 (0 : Int32) ∧ post (0 : Int32) t3))))))))))) :
    AW l G d hX8_share 0 [some (.inr 49), some (.inl a1), some (.inl a2), some (.inl a3), none, none] [] s post := wps_ok (cut := [38]) oX8_share 20 0 _ _ _ h
set_option maxRecDepth 100000 in
theorem vX8_share_38 {l : Launch} {G : GG} {d : Nat} {post : Int32 → Mem → Prop} {a1 a2 a3 a4 a5 : Int32} {s : Mem} (h :
    (((8 : Int32) ≤ a5 →
      ((a4 ≤ (100 : Int32) →
        (vp_in (((8 : Int32) * a1) + a2) 64 ∧
        (bool01 (1 : Int32) ∧ post (1 : Int32) (wrM s 58 (((8 : Int32) * a1) + a2).toNatClampNeg a3)))) ∧
      (¬ a4 ≤ (100 : Int32) →
        (bool01 (0 : Int32) ∧ post (0 : Int32) s)))) ∧
    (¬ (8 : Int32) ≤ a5 →
      ((¬ a5 = a2 →
        (vp_in (((8 : Int32) * a1) + a5) 64 ∧
        AW l G d hX8_share 38 [some (.inr 49), some (.inl a1), some (.inl a2), some (.inl a3), some (.inl (a4 + (s 58 (((8 : Int32) * a1) + a5).toNatClampNeg))), some (.inl (a5 + (1 : Int32)))] [] s post)) ∧
      (a5 = a2 →
        AW l G d hX8_share 38 [some (.inr 49), some (.inl a1), some (.inl a2), some (.inl a3), some (.inl (a4 + (0 : Int32))), some (.inl (a5 + (1 : Int32)))] [] s post))))) :
    AW l G d hX8_share 38 [some (.inr 49), some (.inl a1), some (.inl a2), some (.inl a3), some (.inl a4), some (.inl a5)] [] s post := wps_ok (cut := [38]) oX8_share 20 38 _ _ _ h
set_option maxRecDepth 100000 in
theorem vX8_exposed_0 {l : Launch} {G : GG} {d : Nat} {post : Int32 → Mem → Prop} {a1 a2 : Int32} {s : Mem} (h :
    (∃ (d' : Nat) (Q1 : Int32 → Mem → Prop), d' < d ∧ Spec l G d' hX8_in [.inl a1, .inl (0 : Int32), .inl (7 : Int32)] s Q1 ∧ ∀ (r1 : Int32) (t1 : Mem), Q1 r1 t1 →
    ((r1 = 0 →
      (bool01 (0 : Int32) ∧ post (0 : Int32) t1)) ∧
    (¬ r1 = 0 →
      (∃ (d' : Nat) (Q2 : Int32 → Mem → Prop), d' < d ∧ Spec l G d' hX8_in [.inl a2, .inl (-9 : Int32), .inl (9 : Int32)] t1 Q2 ∧ ∀ (r2 : Int32) (t2 : Mem), Q2 r2 t2 →
      ((¬ r2 = 0 →
        (vp_in a1 8 ∧
        (bool01 (1 : Int32) ∧ post (1 : Int32) (wrM t2 59 a1.toNatClampNeg a2)))) ∧
      (r2 = 0 →
        (bool01 (0 : Int32) ∧ post (0 : Int32) t2)))))))) :
    AW l G d hX8_exposed 0 [some (.inr 49), some (.inl a1), some (.inl a2)] [] s post := wps_ok (cut := []) oX8_exposed 18 0 _ _ _ h
set_option maxRecDepth 100000 in
theorem vX8_isUp_0 {l : Launch} {G : GG} {d : Nat} {post : Int32 → Mem → Prop} {a1 : Int32} {s : Mem} (h :
    (vp_in a1 8 ∧
    (((s 59 a1.toNatClampNeg) = 0 →
      AW l G d hX8_isUp 17 [some (.inr 49), some (.inl a1), some (.inl (0 : Int32)), some (.inl (0 : Int32))] [] s post) ∧
    (¬ (s 59 a1.toNatClampNeg) = 0 →
      AW l G d hX8_isUp 17 [some (.inr 49), some (.inl a1), some (.inl (1 : Int32)), some (.inl (0 : Int32))] [] s post)))) :
    AW l G d hX8_isUp 0 [some (.inr 49), some (.inl a1), none, none] [] s post := wps_ok (cut := [17]) oX8_isUp 11 0 _ _ _ h
set_option maxRecDepth 100000 in
theorem vX8_isUp_17 {l : Launch} {G : GG} {d : Nat} {post : Int32 → Mem → Prop} {a1 a2 a3 : Int32} {s : Mem} (h :
    (((8 : Int32) ≤ a3 →
      (bool01 a2 ∧ post a2 s)) ∧
    (¬ (8 : Int32) ≤ a3 →
      ((¬ a2 = 0 →
        AW l G d hX8_isUp 17 [some (.inr 49), some (.inl a1), some (.inl (1 : Int32)), some (.inl (a3 + (1 : Int32)))] [] s post) ∧
      (a2 = 0 →
        (vp_in (((8 : Int32) * a3) + a1) 64 ∧
        (((s 58 (((8 : Int32) * a3) + a1).toNatClampNeg) ≤ 0 →
          AW l G d hX8_isUp 17 [some (.inr 49), some (.inl a1), some (.inl (0 : Int32)), some (.inl (a3 + (1 : Int32)))] [] s post) ∧
        (¬ (s 58 (((8 : Int32) * a3) + a1).toNatClampNeg) ≤ 0 →
          AW l G d hX8_isUp 17 [some (.inr 49), some (.inl a1), some (.inl (1 : Int32)), some (.inl (a3 + (1 : Int32)))] [] s post)))))))) :
    AW l G d hX8_isUp 17 [some (.inr 49), some (.inl a1), some (.inl a2), some (.inl a3)] [] s post := wps_ok (cut := [17]) oX8_isUp 20 17 _ _ _ h
set_option maxRecDepth 100000 in
theorem vX8_hangs_0 {l : Launch} {G : GG} {d : Nat} {post : Int32 → Mem → Prop} {a1 : Int32} {s : Mem} (h :
    AW l G d hX8_hangs 7 [some (.inr 49), some (.inl a1), some (.inl (0 : Int32)), none] [] (wrM s 49 29 (0 : Int32)) post) :
    AW l G d hX8_hangs 0 [some (.inr 49), some (.inl a1), none, none] [] s post := wps_ok (cut := [7, 39, 86, 92]) oX8_hangs 6 0 _ _ _ h
set_option maxRecDepth 100000 in
theorem vX8_hangs_7 {l : Launch} {G : GG} {d : Nat} {post : Int32 → Mem → Prop} {a1 a2 : Int32} {s : Mem} (h :
    (((8 : Int32) ≤ a2 →
      AW l G d hX8_hangs 86 [some (.inr 49), some (.inl a1), some (.inl (1 : Int32)), none] [] s post) ∧
    (¬ (8 : Int32) ≤ a2 →
      (vp_in a2 8 ∧
      (vp_in a2 8 ∧
      (vp_in a2 8 ∧
      AW l G d hX8_hangs 39 [some (.inr 49), some (.inl a1), some (.inl a2), some (.inl (0 : Int32))] [] (wrM (wrM s 74 a2.toNatClampNeg (vp_nar .boolean (0 : Int32))) 73 a2.toNatClampNeg (((100 : Int32) * a1) * ((wrM s 74 a2.toNatClampNeg (vp_nar .boolean (0 : Int32))) 59 a2.toNatClampNeg))) post)))))) :
    AW l G d hX8_hangs 7 [some (.inr 49), some (.inl a1), some (.inl a2), none] [] s post := wps_ok (cut := [7, 39, 86, 92]) oX8_hangs 23 7 _ _ _ h
set_option maxRecDepth 100000 in
theorem vX8_hangs_39 {l : Launch} {G : GG} {d : Nat} {post : Int32 → Mem → Prop} {a1 a2 a3 : Int32} {s : Mem} (h :
    (((8 : Int32) ≤ a3 →
      AW l G d hX8_hangs 7 [some (.inr 49), some (.inl a1), some (.inl (a2 + (1 : Int32))), some (.inl a3)] [] s post) ∧
    (¬ (8 : Int32) ≤ a3 →
      (vp_in a2 8 ∧
      (vp_in a3 8 ∧
      (vp_in (((8 : Int32) * a3) + a2) 64 ∧
      (vp_in a2 8 ∧
      AW l G d hX8_hangs 39 [some (.inr 49), some (.inl a1), some (.inl a2), some (.inl (a3 + (1 : Int32)))] [] (wrM s 73 a2.toNatClampNeg ((s 73 a2.toNatClampNeg) + ((s 57 a3.toNatClampNeg) * (s 58 (((8 : Int32) * a3) + a2).toNatClampNeg)))) post))))))) :
    AW l G d hX8_hangs 39 [some (.inr 49), some (.inl a1), some (.inl a2), some (.inl a3)] [] s post := wps_ok (cut := [7, 39, 86, 92]) oX8_hangs 26 39 _ _ _ h
set_option maxRecDepth 100000 in
theorem vX8_hangs_86 {l : Launch} {G : GG} {d : Nat} {post : Int32 → Mem → Prop} {a1 a2 : Int32} {s : Mem} (h :
    ((a2 = 0 →
      post 0 s) ∧
    (¬ a2 = 0 →
      AW l G d hX8_hangs 92 [some (.inr 49), some (.inl a1), some (.inl a2), some (.inl (0 : Int32))] [] s post))) :
    AW l G d hX8_hangs 86 [some (.inr 49), some (.inl a1), some (.inl a2), none] [] s post := wps_ok (cut := [7, 39, 86, 92]) oX8_hangs 5 86 _ _ _ h
set_option maxRecDepth 100000 in
theorem vX8_hangs_92 {l : Launch} {G : GG} {d : Nat} {post : Int32 → Mem → Prop} {a1 a2 a3 : Int32} {s : Mem} (h :
    (((8 : Int32) ≤ a3 →
      (((8 : Int32) ≤ a3 →
        (((0 : Int32) = 0 →
          AW l G d hX8_hangs 86 [some (.inr 49), some (.inl a1), some (.inl (0 : Int32)), some (.inl a3)] [] s post) ∧
        (¬ (0 : Int32) = 0 →
          (∃ (d' : Nat) (Q1 : Int32 → Mem → Prop), d' < d ∧ Spec l G d' hX8_slackens [.inr 49, .inl a3] s Q1 ∧ ∀ (r1 : Int32) (t1 : Mem), Q1 r1 t1 →
          AW l G d hX8_hangs 86 [some (.inr 49), some (.inl a1), some (.inl (0 : Int32)), some (.inl a3)] [] t1 post)))) ∧
      (¬ (8 : Int32) ≤ a3 →
        (((1 : Int32) = 0 →
          AW l G d hX8_hangs 86 [some (.inr 49), some (.inl a1), some (.inl (1 : Int32)), some (.inl a3)] [] s post) ∧
        (¬ (1 : Int32) = 0 →
          (∃ (d' : Nat) (Q2 : Int32 → Mem → Prop), d' < d ∧ Spec l G d' hX8_slackens [.inr 49, .inl a3] s Q2 ∧ ∀ (r2 : Int32) (t2 : Mem), Q2 r2 t2 →
          AW l G d hX8_hangs 86 [some (.inr 49), some (.inl a1), some (.inl (1 : Int32)), some (.inl a3)] [] t2 post)))))) ∧
    (¬ (8 : Int32) ≤ a3 →
      (∃ (d' : Nat) (Q3 : Int32 → Mem → Prop), d' < d ∧ Spec l G d' hX8_isUp [.inr 49, .inl a3] s Q3 ∧ ∀ (r3 : Int32) (t3 : Mem), Q3 r3 t3 →
      ((r3 = 0 →
        AW l G d hX8_hangs 92 [some (.inr 49), some (.inl a1), some (.inl a2), some (.inl (a3 + (1 : Int32)))] [] t3 post) ∧
      (¬ r3 = 0 →
        (vp_in a3 8 ∧
        (((t3 73 a3.toNatClampNeg) < 0 →
          (((8 : Int32) ≤ a3 →
            (((0 : Int32) = 0 →
              AW l G d hX8_hangs 86 [some (.inr 49), some (.inl a1), some (.inl (0 : Int32)), some (.inl a3)] [] t3 post) ∧
            (¬ (0 : Int32) = 0 →
              (∃ (d' : Nat) (Q4 : Int32 → Mem → Prop), d' < d ∧ Spec l G d' hX8_slackens [.inr 49, .inl a3] t3 Q4 ∧ ∀ (r4 : Int32) (t4 : Mem), Q4 r4 t4 →
              AW l G d hX8_hangs 86 [some (.inr 49), some (.inl a1), some (.inl (0 : Int32)), some (.inl a3)] [] t4 post)))) ∧
          (¬ (8 : Int32) ≤ a3 →
            (((1 : Int32) = 0 →
              AW l G d hX8_hangs 86 [some (.inr 49), some (.inl a1), some (.inl (1 : Int32)), some (.inl a3)] [] t3 post) ∧
            (¬ (1 : Int32) = 0 →
              (∃ (d' : Nat) (Q5 : Int32 → Mem → Prop), d' < d ∧ Spec l G d' hX8_slackens [.inr 49, .inl a3] t3 Q5 ∧ ∀ (r5 : Int32) (t5 : Mem), Q5 r5 t5 →
              AW l G d hX8_hangs 86 [some (.inr 49), some (.inl a1), some (.inl (1 : Int32)), some (.inl a3)] [] t5 post)))))) ∧
        (¬ (t3 73 a3.toNatClampNeg) < 0 →
          AW l G d hX8_hangs 92 [some (.inr 49), some (.inl a1), some (.inl a2), some (.inl (a3 + (1 : Int32)))] [] t3 post))))))))) :
    AW l G d hX8_hangs 92 [some (.inr 49), some (.inl a1), some (.inl a2), some (.inl a3)] [] s post := wps_ok (cut := [7, 39, 86, 92]) oX8_hangs 25 92 _ _ _ h
set_option maxRecDepth 100000 in
theorem vX8_slackens_0 {l : Launch} {G : GG} {d : Nat} {post : Int32 → Mem → Prop} {a1 : Int32} {s : Mem} (h :
    (vp_in a1 8 ∧
    (vp_in a1 8 ∧
    (vp_in a1 8 ∧
    AW l G d hX8_slackens 26 [some (.inr 49), some (.inl a1), some (.inl (s 73 a1.toNatClampNeg)), some (.inl (0 : Int32)), some (.inl (0 : Int32)), none] [] (wrM (wrM s 73 a1.toNatClampNeg (0 : Int32)) 74 a1.toNatClampNeg (vp_nar .boolean (1 : Int32))) post)))) :
    AW l G d hX8_slackens 0 [some (.inr 49), some (.inl a1), none, none, none, none] [] s post := wps_ok (cut := [26, 88]) oX8_slackens 20 0 _ _ _ h
set_option maxRecDepth 100000 in
theorem vX8_slackens_26 {l : Launch} {G : GG} {d : Nat} {post : Int32 → Mem → Prop} {a1 a2 a3 a4 : Int32} {s : Mem} (h :
    (((8 : Int32) ≤ a4 →
      ((¬ a3 = 0 →
        (¬ a3 = 0 ∧
        AW l G d hX8_slackens 88 [some (.inr 49), some (.inl a1), some (.inl a2), some (.inl a3), some (.inl (a2 - ((a2 / a3) * a3))), some (.inl (0 : Int32))] [] s post)) ∧
      (a3 = 0 →
        post 0 (wrM s 49 29 a2)))) ∧
    (¬ (8 : Int32) ≤ a4 →
      (∃ (d' : Nat) (Q1 : Int32 → Mem → Prop), d' < d ∧ Spec l G d' hX8_isUp [.inr 49, .inl a4] s Q1 ∧ ∀ (r1 : Int32) (t1 : Mem), Q1 r1 t1 →
      ((r1 = 0 →
        AW l G d hX8_slackens 26 [some (.inr 49), some (.inl a1), some (.inl a2), some (.inl (a3 + (0 : Int32))), some (.inl (a4 + (1 : Int32))), none] [] t1 post) ∧
      (¬ r1 = 0 →
        (vp_in a4 8 ∧
        ((¬ (t1 74 a4.toNatClampNeg) = 0 →
          AW l G d hX8_slackens 26 [some (.inr 49), some (.inl a1), some (.inl a2), some (.inl (a3 + (0 : Int32))), some (.inl (a4 + (1 : Int32))), none] [] t1 post) ∧
        ((t1 74 a4.toNatClampNeg) = 0 →
          AW l G d hX8_slackens 26 [some (.inr 49), some (.inl a1), some (.inl a2), some (.inl (a3 + (1 : Int32))), some (.inl (a4 + (1 : Int32))), none] [] t1 post))))))))) :
    AW l G d hX8_slackens 26 [some (.inr 49), some (.inl a1), some (.inl a2), some (.inl a3), some (.inl a4), none] [] s post := wps_ok (cut := [26, 88]) oX8_slackens 20 26 _ _ _ h
set_option maxRecDepth 100000 in
theorem vX8_slackens_88 {l : Launch} {G : GG} {d : Nat} {post : Int32 → Mem → Prop} {a1 a2 a3 a4 a5 : Int32} {s : Mem} (h :
    (((8 : Int32) ≤ a5 →
      post 0 s) ∧
    (¬ (8 : Int32) ≤ a5 →
      (∃ (d' : Nat) (Q1 : Int32 → Mem → Prop), d' < d ∧ Spec l G d' hX8_isUp [.inr 49, .inl a5] s Q1 ∧ ∀ (r1 : Int32) (t1 : Mem), Q1 r1 t1 →
      ((r1 = 0 →
        AW l G d hX8_slackens 88 [some (.inr 49), some (.inl a1), some (.inl a2), some (.inl a3), some (.inl a4), some (.inl (a5 + (1 : Int32)))] [] t1 post) ∧
      (¬ r1 = 0 →
        (vp_in a5 8 ∧
        (((t1 74 a5.toNatClampNeg) = 0 →
          (vp_in a5 8 ∧
          (¬ a3 = 0 ∧
          (vp_in a5 8 ∧
          ((0 ≤ a4 →
            AW l G d hX8_slackens 88 [some (.inr 49), some (.inl a1), some (.inl a2), some (.inl a3), some (.inl a4), some (.inl (a5 + (1 : Int32)))] [] (wrM t1 73 a5.toNatClampNeg ((t1 73 a5.toNatClampNeg) + (a2 / a3))) post) ∧
          (¬ 0 ≤ a4 →
            (vp_in a5 8 ∧
            (vp_in a5 8 ∧
            AW l G d hX8_slackens 88 [some (.inr 49), some (.inl a1), some (.inl a2), some (.inl a3), some (.inl (a4 + (1 : Int32))), some (.inl (a5 + (1 : Int32)))] [] (wrM (wrM t1 73 a5.toNatClampNeg ((t1 73 a5.toNatClampNeg) + (a2 / a3))) 73 a5.toNatClampNeg (((wrM t1 73 a5.toNatClampNeg ((t1 73 a5.toNatClampNeg) + (a2 / a3))) 73 a5.toNatClampNeg) - (1 : Int32))) post)))))))) ∧
        (¬ (t1 74 a5.toNatClampNeg) = 0 →
          AW l G d hX8_slackens 88 [some (.inr 49), some (.inl a1), some (.inl a2), some (.inl a3), some (.inl a4), some (.inl (a5 + (1 : Int32)))] [] t1 post))))))))) :
    AW l G d hX8_slackens 88 [some (.inr 49), some (.inl a1), some (.inl a2), some (.inl a3), some (.inl a4), some (.inl a5)] [] s post := wps_ok (cut := [26, 88]) oX8_slackens 36 88 _ _ _ h
set_option maxRecDepth 100000 in
theorem vX8_isWind_0 {l : Launch} {G : GG} {d : Nat} {post : Int32 → Mem → Prop} {a0 : Int32} {s : Mem} (h :
    (∃ (d' : Nat) (Q1 : Int32 → Mem → Prop), d' < d ∧ Spec l G d' hX8_in [.inl a0, .inl (-100 : Int32), .inl (100 : Int32)] s Q1 ∧ ∀ (r1 : Int32) (t1 : Mem), Q1 r1 t1 →
    (bool01 r1 ∧ post r1 t1))) :
    AW l G d hX8_isWind 0 [some (.inl a0)] [] s post := wps_ok (cut := []) oX8_isWind 6 0 _ _ _ h
set_option maxRecDepth 100000 in
theorem vX8_part_0 {l : Launch} {G : GG} {d : Nat} {post : Int32 → Mem → Prop} {a1 a2 : Int32} {s : Mem} (h :
    (∃ (d' : Nat) (Q1 : Int32 → Mem → Prop), d' < d ∧ Spec l G d' hX8_in [.inl a1, .inl (0 : Int32), .inl (7 : Int32)] s Q1 ∧ ∀ (r1 : Int32) (t1 : Mem), Q1 r1 t1 →
    ((r1 = 0 →
      post (-1 : Int32) t1) ∧
    (¬ r1 = 0 →
      (∃ (d' : Nat) (Q2 : Int32 → Mem → Prop), d' < d ∧ Spec l G d' hX8_isWind [.inl a2] t1 Q2 ∧ ∀ (r2 : Int32) (t2 : Mem), Q2 r2 t2 →
      ((¬ r2 = 0 →
        (∃ (d' : Nat) (Q3 : Int32 → Mem → Prop), d' < d ∧ Spec l G d' hX8_hangs [.inr 49, .inl a2] t2 Q3 ∧ ∀ (r3 : Int32) (t3 : Mem), Q3 r3 t3 →
        (∃ (d' : Nat) (Q4 : Int32 → Mem → Prop), d' < d ∧ Spec l G d' hX8_isUp [.inr 49, .inl a1] t3 Q4 ∧ ∀ (r4 : Int32) (t4 : Mem), Q4 r4 t4 →
        ((r4 = 0 →
          post (0 : Int32) t4) ∧
        (¬ r4 = 0 →
          (vp_in a1 8 ∧
          post (t4 73 a1.toNatClampNeg) t4)))))) ∧
      (r2 = 0 →
        post (-1 : Int32) t2))))))) :
    AW l G d hX8_part 0 [some (.inr 49), some (.inl a1), some (.inl a2)] [] s post := wps_ok (cut := []) oX8_part 22 0 _ _ _ h
set_option maxRecDepth 100000 in
theorem vX8_slack_0 {l : Launch} {G : GG} {d : Nat} {post : Int32 → Mem → Prop} {a1 a2 : Int32} {s : Mem} (h :
    (∃ (d' : Nat) (Q1 : Int32 → Mem → Prop), d' < d ∧ Spec l G d' hX8_in [.inl a1, .inl (0 : Int32), .inl (7 : Int32)] s Q1 ∧ ∀ (r1 : Int32) (t1 : Mem), Q1 r1 t1 →
    ((r1 = 0 →
      (bool01 (0 : Int32) ∧ post (0 : Int32) t1)) ∧
    (¬ r1 = 0 →
      (∃ (d' : Nat) (Q2 : Int32 → Mem → Prop), d' < d ∧ Spec l G d' hX8_isWind [.inl a2] t1 Q2 ∧ ∀ (r2 : Int32) (t2 : Mem), Q2 r2 t2 →
      ((¬ r2 = 0 →
        (∃ (d' : Nat) (Q3 : Int32 → Mem → Prop), d' < d ∧ Spec l G d' hX8_hangs [.inr 49, .inl a2] t2 Q3 ∧ ∀ (r3 : Int32) (t3 : Mem), Q3 r3 t3 →
        (vp_in a1 8 ∧
        (bool01 (t3 74 a1.toNatClampNeg) ∧ post (t3 74 a1.toNatClampNeg) t3)))) ∧
      (r2 = 0 →
        (bool01 (0 : Int32) ∧ post (0 : Int32) t2)))))))) :
    AW l G d hX8_slack 0 [some (.inr 49), some (.inl a1), some (.inl a2)] [] s post := wps_ok (cut := []) oX8_slack 17 0 _ _ _ h
set_option maxRecDepth 100000 in
theorem vX8_gone_0 {l : Launch} {G : GG} {d : Nat} {post : Int32 → Mem → Prop} {a1 : Int32} {s : Mem} (h :
    (∃ (d' : Nat) (Q1 : Int32 → Mem → Prop), d' < d ∧ Spec l G d' hX8_isWind [.inl a1] s Q1 ∧ ∀ (r1 : Int32) (t1 : Mem), Q1 r1 t1 →
    ((¬ r1 = 0 →
      (∃ (d' : Nat) (Q2 : Int32 → Mem → Prop), d' < d ∧ Spec l G d' hX8_hangs [.inr 49, .inl a1] t1 Q2 ∧ ∀ (r2 : Int32) (t2 : Mem), Q2 r2 t2 →
      post (t2 49 29) t2)) ∧
    (r1 = 0 →
      post (0 : Int32) t1)))) :
    AW l G d hX8_gone 0 [some (.inr 49), some (.inl a1)] [] s post := wps_ok (cut := []) oX8_gone 10 0 _ _ _ h
set_option maxRecDepth 100000 in
theorem vX8_isTown_0 {l : Launch} {G : GG} {d : Nat} {post : Int32 → Mem → Prop} {a1 : Int32} {s : Mem} (h :
    (∃ (d' : Nat) (Q1 : Int32 → Mem → Prop), d' < d ∧ Spec l G d' hX8_in [.inl a1, .inl (0 : Int32), .inl ((s 49 11) - (1 : Int32))] s Q1 ∧ ∀ (r1 : Int32) (t1 : Mem), Q1 r1 t1 →
    (bool01 r1 ∧ post r1 t1))) :
    AW l G d hX8_isTown 0 [some (.inr 49), some (.inl a1)] [] s post := wps_ok (cut := []) oX8_isTown 9 0 _ _ _ h
set_option maxRecDepth 100000 in
theorem vX8_town_0 {l : Launch} {G : GG} {d : Nat} {post : Int32 → Mem → Prop} {a1 a2 a3 : Int32} {s : Mem} (h :
    (∃ (d' : Nat) (Q1 : Int32 → Mem → Prop), d' < d ∧ Spec l G d' hX8_in [.inl a1, .inl (0 : Int32), .inl (10000 : Int32)] s Q1 ∧ ∀ (r1 : Int32) (t1 : Mem), Q1 r1 t1 →
    ((r1 = 0 →
      post (-1 : Int32) t1) ∧
    (¬ r1 = 0 →
      (∃ (d' : Nat) (Q2 : Int32 → Mem → Prop), d' < d ∧ Spec l G d' hX8_in [.inl a2, .inl (0 : Int32), .inl (29 : Int32)] t1 Q2 ∧ ∀ (r2 : Int32) (t2 : Mem), Q2 r2 t2 →
      ((r2 = 0 →
        post (-1 : Int32) t2) ∧
      (¬ r2 = 0 →
        (∃ (d' : Nat) (Q3 : Int32 → Mem → Prop), d' < d ∧ Spec l G d' hX8_in [.inl a3, .inl a2, .inl (29 : Int32)] t2 Q3 ∧ ∀ (r3 : Int32) (t3 : Mem), Q3 r3 t3 →
        ((r3 = 0 →
          post (-1 : Int32) t3) ∧
        (¬ r3 = 0 →
          ((¬ (t3 49 11) = (8 : Int32) →
            (vp_in (t3 49 11) 8 ∧
            (vp_in ((wrM t3 60 (t3 49 11).toNatClampNeg a1) 49 11) 8 ∧
            (vp_in ((wrM (wrM t3 60 (t3 49 11).toNatClampNeg a1) 61 ((wrM t3 60 (t3 49 11).toNatClampNeg a1) 49 11).toNatClampNeg a2) 49 11) 8 ∧
            post (((wrM (wrM (wrM (wrM t3 60 (t3 49 11).toNatClampNeg a1) 61 ((wrM t3 60 (t3 49 11).toNatClampNeg a1) 49 11).toNatClampNeg a2) 62 ((wrM (wrM t3 60 (t3 49 11).toNatClampNeg a1) 61 ((wrM t3 60 (t3 49 11).toNatClampNeg a1) 49 11).toNatClampNeg a2) 49 11).toNatClampNeg a3) 49 11 (((wrM (wrM (wrM t3 60 (t3 49 11).toNatClampNeg a1) 61 ((wrM t3 60 (t3 49 11).toNatClampNeg a1) 49 11).toNatClampNeg a2) 62 ((wrM (wrM t3 60 (t3 49 11).toNatClampNeg a1) 61 ((wrM t3 60 (t3 49 11).toNatClampNeg a1) 49 11).toNatClampNeg a2) 49 11).toNatClampNeg a3) 49 11) + (1 : Int32))) 49 11) - (1 : Int32)) (wrM (wrM (wrM (wrM t3 60 (t3 49 11).toNatClampNeg a1) 61 ((wrM t3 60 (t3 49 11).toNatClampNeg a1) 49 11).toNatClampNeg a2) 62 ((wrM (wrM t3 60 (t3 49 11).toNatClampNeg a1) 61 ((wrM t3 60 (t3 49 11).toNatClampNeg a1) 49 11).toNatClampNeg a2) 49 11).toNatClampNeg a3) 49 11 (((wrM (wrM (wrM t3 60 (t3 49 11).toNatClampNeg a1) 61 ((wrM t3 60 (t3 49 11).toNatClampNeg a1) 49 11).toNatClampNeg a2) 62 ((wrM (wrM t3 60 (t3 49 11).toNatClampNeg a1) 61 ((wrM t3 60 (t3 49 11).toNatClampNeg a1) 49 11).toNatClampNeg a2) 49 11).toNatClampNeg a3) 49 11) + (1 : Int32))))))) ∧
          ((t3 49 11) = (8 : Int32) →
            post (-1 : Int32) t3)))))))))))) :
    AW l G d hX8_town 0 [some (.inr 49), some (.inl a1), some (.inl a2), some (.inl a3)] [] s post := wps_ok (cut := []) oX8_town 49 0 _ _ _ h
set_option maxRecDepth 100000 in
theorem vX8_way_0 {l : Launch} {G : GG} {d : Nat} {post : Int32 → Mem → Prop} {a1 a2 a3 : Int32} {s : Mem} (h :
    (∃ (d' : Nat) (Q1 : Int32 → Mem → Prop), d' < d ∧ Spec l G d' hX8_isTown [.inr 49, .inl a1] s Q1 ∧ ∀ (r1 : Int32) (t1 : Mem), Q1 r1 t1 →
    ((r1 = 0 →
      (bool01 (0 : Int32) ∧ post (0 : Int32) t1)) ∧
    (¬ r1 = 0 →
      (∃ (d' : Nat) (Q2 : Int32 → Mem → Prop), d' < d ∧ Spec l G d' hX8_isTown [.inr 49, .inl a2] t1 Q2 ∧ ∀ (r2 : Int32) (t2 : Mem), Q2 r2 t2 →
      ((r2 = 0 →
        (bool01 (0 : Int32) ∧ post (0 : Int32) t2)) ∧
      (¬ r2 = 0 →
        ((a1 = a2 →
          (bool01 (0 : Int32) ∧ post (0 : Int32) t2)) ∧
        (¬ a1 = a2 →
          (∃ (d' : Nat) (Q3 : Int32 → Mem → Prop), d' < d ∧ Spec l G d' hX8_in [.inl a3, .inl (1 : Int32), .inl (99 : Int32)] t2 Q3 ∧ ∀ (r3 : Int32) (t3 : Mem), Q3 r3 t3 →
          ((¬ r3 = 0 →
            (vp_in (((8 : Int32) * a1) + a2) 64 ∧
            (vp_in (((8 : Int32) * a2) + a1) 64 ∧
            (bool01 (1 : Int32) ∧ post (1 : Int32) (wrM (wrM t3 63 (((8 : Int32) * a1) + a2).toNatClampNeg a3) 63 (((8 : Int32) * a2) + a1).toNatClampNeg a3))))) ∧
          (r3 = 0 →
            (bool01 (0 : Int32) ∧ post (0 : Int32) t3))))))))))))) :
    AW l G d hX8_way 0 [some (.inr 49), some (.inl a1), some (.inl a2), some (.inl a3)] [] s post := wps_ok (cut := []) oX8_way 37 0 _ _ _ h
set_option maxRecDepth 100000 in
theorem vX8_reckons_0 {l : Launch} {G : GG} {d : Nat} {post : Int32 → Mem → Prop} {s : Mem} (h :
    AW l G d hX8_reckons 2 [some (.inr 49), some (.inl (0 : Int32)), none, none, none] [] s post) :
    AW l G d hX8_reckons 0 [some (.inr 49), none, none, none, none] [] s post := wps_ok (cut := [2, 10, 80, 88, 96]) oX8_reckons 3 0 _ _ _ h
set_option maxRecDepth 100000 in
theorem vX8_reckons_2 {l : Launch} {G : GG} {d : Nat} {post : Int32 → Mem → Prop} {a1 : Int32} {s : Mem} (h :
    (((8 : Int32) ≤ a1 →
      AW l G d hX8_reckons 80 [some (.inr 49), some (.inl (0 : Int32)), none, none, none] [] s post) ∧
    (¬ (8 : Int32) ≤ a1 →
      AW l G d hX8_reckons 10 [some (.inr 49), some (.inl a1), some (.inl (0 : Int32)), none, none] [] s post))) :
    AW l G d hX8_reckons 2 [some (.inr 49), some (.inl a1), none, none, none] [] s post := wps_ok (cut := [2, 10, 80, 88, 96]) oX8_reckons 6 2 _ _ _ h
set_option maxRecDepth 100000 in
theorem vX8_reckons_10 {l : Launch} {G : GG} {d : Nat} {post : Int32 → Mem → Prop} {a1 a2 : Int32} {s : Mem} (h :
    (((8 : Int32) ≤ a2 →
      AW l G d hX8_reckons 2 [some (.inr 49), some (.inl (a1 + (1 : Int32))), some (.inl a2), none, none] [] s post) ∧
    (¬ (8 : Int32) ≤ a2 →
      ((¬ a1 = a2 →
        (vp_in (((8 : Int32) * a1) + a2) 64 ∧
        (((s 63 (((8 : Int32) * a1) + a2).toNatClampNeg) ≤ 0 →
          (vp_in (((8 : Int32) * a1) + a2) 64 ∧
          AW l G d hX8_reckons 10 [some (.inr 49), some (.inl a1), some (.inl (a2 + (1 : Int32))), none, none] [] (wrM s 64 (((8 : Int32) * a1) + a2).toNatClampNeg (1000000 : Int32)) post)) ∧
        (¬ (s 63 (((8 : Int32) * a1) + a2).toNatClampNeg) ≤ 0 →
          (vp_in (((8 : Int32) * a1) + a2) 64 ∧
          (vp_in (((8 : Int32) * a1) + a2) 64 ∧
          AW l G d hX8_reckons 10 [some (.inr 49), some (.inl a1), some (.inl (a2 + (1 : Int32))), none, none] [] (wrM s 64 (((8 : Int32) * a1) + a2).toNatClampNeg (s 63 (((8 : Int32) * a1) + a2).toNatClampNeg)) post)))))) ∧
      (a1 = a2 →
        (vp_in (((8 : Int32) * a1) + a2) 64 ∧
        AW l G d hX8_reckons 10 [some (.inr 49), some (.inl a1), some (.inl (a2 + (1 : Int32))), none, none] [] (wrM s 64 (((8 : Int32) * a1) + a2).toNatClampNeg (0 : Int32)) post)))))) :
    AW l G d hX8_reckons 10 [some (.inr 49), some (.inl a1), some (.inl a2), none, none] [] s post := wps_ok (cut := [2, 10, 80, 88, 96]) oX8_reckons 35 10 _ _ _ h
set_option maxRecDepth 100000 in
theorem vX8_reckons_80 {l : Launch} {G : GG} {d : Nat} {post : Int32 → Mem → Prop} {a1 : Int32} {s : Mem} (h :
    (((8 : Int32) ≤ a1 →
      post 0 s) ∧
    (¬ (8 : Int32) ≤ a1 →
      AW l G d hX8_reckons 88 [some (.inr 49), some (.inl a1), some (.inl (0 : Int32)), none, none] [] s post))) :
    AW l G d hX8_reckons 80 [some (.inr 49), some (.inl a1), none, none, none] [] s post := wps_ok (cut := [2, 10, 80, 88, 96]) oX8_reckons 6 80 _ _ _ h
set_option maxRecDepth 100000 in
theorem vX8_reckons_88 {l : Launch} {G : GG} {d : Nat} {post : Int32 → Mem → Prop} {a1 a2 : Int32} {s : Mem} (h :
    (((8 : Int32) ≤ a2 →
      AW l G d hX8_reckons 80 [some (.inr 49), some (.inl (a1 + (1 : Int32))), some (.inl a2), none, none] [] s post) ∧
    (¬ (8 : Int32) ≤ a2 →
      AW l G d hX8_reckons 96 [some (.inr 49), some (.inl a1), some (.inl a2), some (.inl (0 : Int32)), none] [] s post))) :
    AW l G d hX8_reckons 88 [some (.inr 49), some (.inl a1), some (.inl a2), none, none] [] s post := wps_ok (cut := [2, 10, 80, 88, 96]) oX8_reckons 6 88 _ _ _ h
set_option maxRecDepth 100000 in
theorem vX8_reckons_96 {l : Launch} {G : GG} {d : Nat} {post : Int32 → Mem → Prop} {a1 a2 a3 : Int32} {s : Mem} (h :
    (((8 : Int32) ≤ a3 →
      AW l G d hX8_reckons 88 [some (.inr 49), some (.inl a1), some (.inl (a2 + (1 : Int32))), some (.inl a3), none] [] s post) ∧
    (¬ (8 : Int32) ≤ a3 →
      (vp_in (((8 : Int32) * a2) + a1) 64 ∧
      (vp_in (((8 : Int32) * a1) + a3) 64 ∧
      (vp_in (((8 : Int32) * a2) + a3) 64 ∧
      (((s 64 (((8 : Int32) * a2) + a3).toNatClampNeg) ≤ ((s 64 (((8 : Int32) * a2) + a1).toNatClampNeg) + (s 64 (((8 : Int32) * a1) + a3).toNatClampNeg)) →
        AW l G d hX8_reckons 96 [some (.inr 49), some (.inl a1), some (.inl a2), some (.inl (a3 + (1 : Int32))), some (.inl ((s 64 (((8 : Int32) * a2) + a1).toNatClampNeg) + (s 64 (((8 : Int32) * a1) + a3).toNatClampNeg)))] [] s post) ∧
      (¬ (s 64 (((8 : Int32) * a2) + a3).toNatClampNeg) ≤ ((s 64 (((8 : Int32) * a2) + a1).toNatClampNeg) + (s 64 (((8 : Int32) * a1) + a3).toNatClampNeg)) →
        (vp_in (((8 : Int32) * a2) + a3) 64 ∧
        AW l G d hX8_reckons 96 [some (.inr 49), some (.inl a1), some (.inl a2), some (.inl (a3 + (1 : Int32))), some (.inl ((s 64 (((8 : Int32) * a2) + a1).toNatClampNeg) + (s 64 (((8 : Int32) * a1) + a3).toNatClampNeg)))] [] (wrM s 64 (((8 : Int32) * a2) + a3).toNatClampNeg ((s 64 (((8 : Int32) * a2) + a1).toNatClampNeg) + (s 64 (((8 : Int32) * a1) + a3).toNatClampNeg))) post))))))))) :
    AW l G d hX8_reckons 96 [some (.inr 49), some (.inl a1), some (.inl a2), some (.inl a3), none] [] s post := wps_ok (cut := [2, 10, 80, 88, 96]) oX8_reckons 43 96 _ _ _ h
set_option maxRecDepth 100000 in
theorem vX8_hours_0 {l : Launch} {G : GG} {d : Nat} {post : Int32 → Mem → Prop} {a1 a2 : Int32} {s : Mem} (h :
    (∃ (d' : Nat) (Q1 : Int32 → Mem → Prop), d' < d ∧ Spec l G d' hX8_isTown [.inr 49, .inl a1] s Q1 ∧ ∀ (r1 : Int32) (t1 : Mem), Q1 r1 t1 →
    ((r1 = 0 →
      post (-1 : Int32) t1) ∧
    (¬ r1 = 0 →
      (∃ (d' : Nat) (Q2 : Int32 → Mem → Prop), d' < d ∧ Spec l G d' hX8_isTown [.inr 49, .inl a2] t1 Q2 ∧ ∀ (r2 : Int32) (t2 : Mem), Q2 r2 t2 →
      ((¬ r2 = 0 →
        (∃ (d' : Nat) (Q3 : Int32 → Mem → Prop), d' < d ∧ Spec l G d' hX8_reckons [.inr 49] t2 Q3 ∧ ∀ (r3 : Int32) (t3 : Mem), Q3 r3 t3 →
        (vp_in (((8 : Int32) * a1) + a2) 64 ∧
        (((t3 64 (((8 : Int32) * a1) + a2).toNatClampNeg) < (1000000 : Int32) →
          (vp_in (((8 : Int32) * a1) + a2) 64 ∧
          post (t3 64 (((8 : Int32) * a1) + a2).toNatClampNeg) t3)) ∧
        (¬ (t3 64 (((8 : Int32) * a1) + a2).toNatClampNeg) < (1000000 : Int32) →
          post (-1 : Int32) t3))))) ∧
      (r2 = 0 →
        post (-1 : Int32) t2))))))) :
    AW l G d hX8_hours 0 [some (.inr 49), some (.inl a1), some (.inl a2)] [] s post := wps_ok (cut := []) oX8_hours 30 0 _ _ _ h
set_option maxRecDepth 100000 in
theorem vX8_nightOf_0 {l : Launch} {G : GG} {d : Nat} {post : Int32 → Mem → Prop} {a1 a2 : Int32} {s : Mem} (h :
    ((¬ a2 = 0 →
      (vp_in (a2 - (1 : Int32)) 9 ∧
      (vp_in (((8 : Int32) * (s 68 (a2 - (1 : Int32)).toNatClampNeg)) + a1) 64 ∧
      (vp_in (a2 - (1 : Int32)) 9 ∧
      (¬ (10 : Int32) = 0 ∧
      (vp_in a1 8 ∧
      (((s 61 a1.toNatClampNeg) ≤ ((s 72 (a2 - (1 : Int32)).toNatClampNeg) + (((s 64 (((8 : Int32) * (s 68 (a2 - (1 : Int32)).toNatClampNeg)) + a1).toNatClampNeg) + (9 : Int32)) / (10 : Int32))) →
        (((1000000 : Int32) ≤ (s 64 (((8 : Int32) * (s 68 (a2 - (1 : Int32)).toNatClampNeg)) + a1).toNatClampNeg) →
          post (-1 : Int32) s) ∧
        (¬ (1000000 : Int32) ≤ (s 64 (((8 : Int32) * (s 68 (a2 - (1 : Int32)).toNatClampNeg)) + a1).toNatClampNeg) →
          (vp_in a1 8 ∧
          (((s 62 a1.toNatClampNeg) < ((s 72 (a2 - (1 : Int32)).toNatClampNeg) + (((s 64 (((8 : Int32) * (s 68 (a2 - (1 : Int32)).toNatClampNeg)) + a1).toNatClampNeg) + (9 : Int32)) / (10 : Int32))) →
            post (-1 : Int32) s) ∧
          (¬ (s 62 a1.toNatClampNeg) < ((s 72 (a2 - (1 : Int32)).toNatClampNeg) + (((s 64 (((8 : Int32) * (s 68 (a2 - (1 : Int32)).toNatClampNeg)) + a1).toNatClampNeg) + (9 : Int32)) / (10 : Int32))) →
            post ((s 72 (a2 - (1 : Int32)).toNatClampNeg) + (((s 64 (((8 : Int32) * (s 68 (a2 - (1 : Int32)).toNatClampNeg)) + a1).toNatClampNeg) + (9 : Int32)) / (10 : Int32))) s)))))) ∧
      (¬ (s 61 a1.toNatClampNeg) ≤ ((s 72 (a2 - (1 : Int32)).toNatClampNeg) + (((s 64 (((8 : Int32) * (s 68 (a2 - (1 : Int32)).toNatClampNeg)) + a1).toNatClampNeg) + (9 : Int32)) / (10 : Int32))) →
        (vp_in a1 8 ∧
        (((1000000 : Int32) ≤ (s 64 (((8 : Int32) * (s 68 (a2 - (1 : Int32)).toNatClampNeg)) + a1).toNatClampNeg) →
          post (-1 : Int32) s) ∧
        (¬ (1000000 : Int32) ≤ (s 64 (((8 : Int32) * (s 68 (a2 - (1 : Int32)).toNatClampNeg)) + a1).toNatClampNeg) →
          (vp_in a1 8 ∧
          (((s 62 a1.toNatClampNeg) < (s 61 a1.toNatClampNeg) →
            post (-1 : Int32) s) ∧
          (¬ (s 62 a1.toNatClampNeg) < (s 61 a1.toNatClampNeg) →
            post (s 61 a1.toNatClampNeg) s)))))))))))))) ∧
    (a2 = 0 →
      (vp_in a1 8 ∧
      post (s 61 a1.toNatClampNeg) s)))) :
    AW l G d hX8_nightOf 0 [some (.inr 49), some (.inl a1), some (.inl a2), none, none] [] s post := wps_ok (cut := []) oX8_nightOf 53 0 _ _ _ h
set_option maxRecDepth 100000 in
theorem vX8_goes_0 {l : Launch} {G : GG} {d : Nat} {post : Int32 → Mem → Prop} {s : Mem} (h :
    (∃ (d' : Nat) (Q1 : Int32 → Mem → Prop), d' < d ∧ Spec l G d' hX8_reckons [.inr 49] s Q1 ∧ ∀ (r1 : Int32) (t1 : Mem), Q1 r1 t1 →
    (vp_in (0 : Int32) 10 ∧
    AW l G d hX8_goes 23 [some (.inr 49), some (.inl (0 : Int32)), some (.inl (0 : Int32)), some (.inl (0 : Int32)), some (.inl (0 : Int32)), some (.inl (0 : Int32)), none, none] [] (wrM t1 69 (0 : Int32).toNatClampNeg (0 : Int32)) post))) :
    AW l G d hX8_goes 0 [some (.inr 49), none, none, none, none, none, none, none] [] s post := wps_ok (cut := [23, 210]) oX8_goes 18 0 _ _ _ h
set_option maxRecDepth 100000 in
theorem vX8_goes_23 {l : Launch} {G : GG} {d : Nat} {post : Int32 → Mem → Prop} {a1 a2 a3 a4 a5 : Int32} {s : Mem} (h :
    ((a4 < 0 →
      post a1 s) ∧
    (¬ a4 < 0 →
      (vp_in a4 10 ∧
      (((s 69 a4.toNatClampNeg) < (s 49 11) →
        (vp_in a4 10 ∧
        (vp_in a4 10 ∧
        ((((a5 >>> ((s 69 a4.toNatClampNeg) &&& 31)) &&& (1 : Int32)) = (1 : Int32) →
          AW l G d hX8_goes 23 [some (.inr 49), some (.inl a1), some (.inl a2), some (.inl a3), some (.inl a4), some (.inl a5), some (.inl (s 69 a4.toNatClampNeg)), none] [] (wrM s 69 a4.toNatClampNeg ((s 69 a4.toNatClampNeg) + (1 : Int32))) post) ∧
        (¬ ((a5 >>> ((s 69 a4.toNatClampNeg) &&& 31)) &&& (1 : Int32)) = (1 : Int32) →
          (∃ (d' : Nat) (Q1 : Int32 → Mem → Prop), d' < d ∧ Spec l G d' hX8_nightOf [.inr 49, .inl (s 69 a4.toNatClampNeg), .inl a4] (wrM s 69 a4.toNatClampNeg ((s 69 a4.toNatClampNeg) + (1 : Int32))) Q1 ∧ ∀ (r1 : Int32) (t1 : Mem), Q1 r1 t1 →
          ((¬ r1 = (-1 : Int32) →
            (∃ (d' : Nat) (Q2 : Int32 → Mem → Prop), d' < d ∧ Spec l G d' hX8_nightOf [.inr 49, .inl (s 69 a4.toNatClampNeg), .inl a4] t1 Q2 ∧ ∀ (r2 : Int32) (t2 : Mem), Q2 r2 t2 →
            (vp_in a4 9 ∧
            (vp_in a4 9 ∧
            (vp_in (s 69 a4.toNatClampNeg) 8 ∧
            (vp_in (a4 + (1 : Int32)) 10 ∧
            (((a4 + (1 : Int32)) < a1 →
              AW l G d hX8_goes 23 [some (.inr 49), some (.inl a1), some (.inl a2), some (.inl (a3 + ((wrM (wrM t2 72 a4.toNatClampNeg r2) 68 a4.toNatClampNeg (s 69 a4.toNatClampNeg)) 60 (s 69 a4.toNatClampNeg).toNatClampNeg))), some (.inl (a4 + (1 : Int32))), some (.inl (a5 ||| ((1 : Int32) <<< ((s 69 a4.toNatClampNeg) &&& 31)))), some (.inl (s 69 a4.toNatClampNeg)), none] [] (wrM (wrM (wrM t2 72 a4.toNatClampNeg r2) 68 a4.toNatClampNeg (s 69 a4.toNatClampNeg)) 69 (a4 + (1 : Int32)).toNatClampNeg (0 : Int32)) post) ∧
            (¬ (a4 + (1 : Int32)) < a1 →
              ((¬ (a4 + (1 : Int32)) = a1 →
                AW l G d hX8_goes 210 [some (.inr 49), some (.inl (a4 + (1 : Int32))), some (.inl (a3 + ((wrM (wrM t2 72 a4.toNatClampNeg r2) 68 a4.toNatClampNeg (s 69 a4.toNatClampNeg)) 60 (s 69 a4.toNatClampNeg).toNatClampNeg))), some (.inl (a3 + ((wrM (wrM t2 72 a4.toNatClampNeg r2) 68 a4.toNatClampNeg (s 69 a4.toNatClampNeg)) 60 (s 69 a4.toNatClampNeg).toNatClampNeg))), some (.inl (a4 + (1 : Int32))), some (.inl (a5 ||| ((1 : Int32) <<< ((s 69 a4.toNatClampNeg) &&& 31)))), some (.inl (s 69 a4.toNatClampNeg)), some (.inl (0 : Int32))] [] (wrM (wrM (wrM t2 72 a4.toNatClampNeg r2) 68 a4.toNatClampNeg (s 69 a4.toNatClampNeg)) 69 (a4 + (1 : Int32)).toNatClampNeg (0 : Int32)) post) ∧
              ((a4 + (1 : Int32)) = a1 →
                ((a2 < (a3 + ((wrM (wrM t2 72 a4.toNatClampNeg r2) 68 a4.toNatClampNeg (s 69 a4.toNatClampNeg)) 60 (s 69 a4.toNatClampNeg).toNatClampNeg)) →
                  AW l G d hX8_goes 210 [some (.inr 49), some (.inl (a4 + (1 : Int32))), some (.inl (a3 + ((wrM (wrM t2 72 a4.toNatClampNeg r2) 68 a4.toNatClampNeg (s 69 a4.toNatClampNeg)) 60 (s 69 a4.toNatClampNeg).toNatClampNeg))), some (.inl (a3 + ((wrM (wrM t2 72 a4.toNatClampNeg r2) 68 a4.toNatClampNeg (s 69 a4.toNatClampNeg)) 60 (s 69 a4.toNatClampNeg).toNatClampNeg))), some (.inl (a4 + (1 : Int32))), some (.inl (a5 ||| ((1 : Int32) <<< ((s 69 a4.toNatClampNeg) &&& 31)))), some (.inl (s 69 a4.toNatClampNeg)), some (.inl (0 : Int32))] [] (wrM (wrM (wrM t2 72 a4.toNatClampNeg r2) 68 a4.toNatClampNeg (s 69 a4.toNatClampNeg)) 69 (a4 + (1 : Int32)).toNatClampNeg (0 : Int32)) post) ∧
                (¬ a2 < (a3 + ((wrM (wrM t2 72 a4.toNatClampNeg r2) 68 a4.toNatClampNeg (s 69 a4.toNatClampNeg)) 60 (s 69 a4.toNatClampNeg).toNatClampNeg)) →
                  AW l G d hX8_goes 23 [some (.inr 49), some (.inl a1), some (.inl a2), some (.inl (a3 + ((wrM (wrM t2 72 a4.toNatClampNeg r2) 68 a4.toNatClampNeg (s 69 a4.toNatClampNeg)) 60 (s 69 a4.toNatClampNeg).toNatClampNeg))), some (.inl (a4 + (1 : Int32))), some (.inl (a5 ||| ((1 : Int32) <<< ((s 69 a4.toNatClampNeg) &&& 31)))), some (.inl (s 69 a4.toNatClampNeg)), none] [] (wrM (wrM (wrM t2 72 a4.toNatClampNeg r2) 68 a4.toNatClampNeg (s 69 a4.toNatClampNeg)) 69 (a4 + (1 : Int32)).toNatClampNeg (0 : Int32)) post)))))))))))) ∧
          (r1 = (-1 : Int32) →
            AW l G d hX8_goes 23 [some (.inr 49), some (.inl a1), some (.inl a2), some (.inl a3), some (.inl a4), some (.inl a5), some (.inl (s 69 a4.toNatClampNeg)), none] [] t1 post)))))))) ∧
      (¬ (s 69 a4.toNatClampNeg) < (s 49 11) →
        ((0 ≤ (a4 + (-1 : Int32)) →
          (vp_in (a4 + (-1 : Int32)) 9 ∧
          (vp_in (a4 + (-1 : Int32)) 9 ∧
          (vp_in (s 68 (a4 + (-1 : Int32)).toNatClampNeg) 8 ∧
          AW l G d hX8_goes 23 [some (.inr 49), some (.inl a1), some (.inl a2), some (.inl (a3 - (s 60 (s 68 (a4 + (-1 : Int32)).toNatClampNeg).toNatClampNeg))), some (.inl (a4 + (-1 : Int32))), some (.inl (a5 &&& (((1 : Int32) <<< ((s 68 (a4 + (-1 : Int32)).toNatClampNeg) &&& 31)) ^^^ (-1 : Int32)))), some (.inl (s 69 a4.toNatClampNeg)), none] [] s post)))) ∧
        (¬ 0 ≤ (a4 + (-1 : Int32)) →
          AW l G d hX8_goes 23 [some (.inr 49), some (.inl a1), some (.inl a2), some (.inl a3), some (.inl (a4 + (-1 : Int32))), some (.inl a5), some (.inl (s 69 a4.toNatClampNeg)), none] [] s post)))))))) :
    AW l G d hX8_goes 23 [some (.inr 49), some (.inl a1), some (.inl a2), some (.inl a3), some (.inl a4), some (.inl a5), none, none] [] s post := wps_ok (cut := [23, 210]) oX8_goes 80 23 _ _ _ h
set_option maxRecDepth 100000 in
theorem vX8_goes_210 {l : Launch} {G : GG} {d : Nat} {post : Int32 → Mem → Prop} {a1 a2 a3 a4 a5 a6 a7 : Int32} {s : Mem} (h :
    ((a4 ≤ a7 →
      AW l G d hX8_goes 23 [some (.inr 49), some (.inl a1), some (.inl a2), some (.inl a3), some (.inl a4), some (.inl a5), some (.inl a6), some (.inl a7)] [] s post) ∧
    (¬ a4 ≤ a7 →
      (vp_in a7 9 ∧
      (vp_in a7 8 ∧
      (vp_in a7 9 ∧
      (vp_in a7 8 ∧
      AW l G d hX8_goes 210 [some (.inr 49), some (.inl a1), some (.inl a2), some (.inl a3), some (.inl a4), some (.inl a5), some (.inl a6), some (.inl (a7 + (1 : Int32)))] [] (wrM (wrM s 70 a7.toNatClampNeg (s 68 a7.toNatClampNeg)) 71 a7.toNatClampNeg ((wrM s 70 a7.toNatClampNeg (s 68 a7.toNatClampNeg)) 72 a7.toNatClampNeg)) post))))))) :
    AW l G d hX8_goes 210 [some (.inr 49), some (.inl a1), some (.inl a2), some (.inl a3), some (.inl a4), some (.inl a5), some (.inl a6), some (.inl a7)] [] s post := wps_ok (cut := [23, 210]) oX8_goes 22 210 _ _ _ h
set_option maxRecDepth 100000 in
theorem vX8_route_0 {l : Launch} {G : GG} {d : Nat} {post : Int32 → Mem → Prop} {s : Mem} (h :
    (∃ (d' : Nat) (Q1 : Int32 → Mem → Prop), d' < d ∧ Spec l G d' hX8_goes [.inr 49] s Q1 ∧ ∀ (r1 : Int32) (t1 : Mem), Q1 r1 t1 →
    post r1 t1)) :
    AW l G d hX8_route 0 [some (.inr 49)] [] s post := wps_ok (cut := []) oX8_route 4 0 _ _ _ h
set_option maxRecDepth 100000 in
theorem vX8_routeAt_0 {l : Launch} {G : GG} {d : Nat} {post : Int32 → Mem → Prop} {a1 a2 : Int32} {s : Mem} (h :
    (∃ (d' : Nat) (Q1 : Int32 → Mem → Prop), d' < d ∧ Spec l G d' hX8_goes [.inr 49] s Q1 ∧ ∀ (r1 : Int32) (t1 : Mem), Q1 r1 t1 →
    (∃ (d' : Nat) (Q2 : Int32 → Mem → Prop), d' < d ∧ Spec l G d' hX8_in [.inl a1, .inl (0 : Int32), .inl (r1 - (1 : Int32))] t1 Q2 ∧ ∀ (r2 : Int32) (t2 : Mem), Q2 r2 t2 →
    ((r2 = 0 →
      post (-1 : Int32) t2) ∧
    (¬ r2 = 0 →
      (∃ (d' : Nat) (Q3 : Int32 → Mem → Prop), d' < d ∧ Spec l G d' hX8_in [.inl a2, .inl (0 : Int32), .inl (1 : Int32)] t2 Q3 ∧ ∀ (r3 : Int32) (t3 : Mem), Q3 r3 t3 →
      ((¬ r3 = 0 →
        ((¬ a2 = 0 →
          (vp_in a1 8 ∧
          post (t3 71 a1.toNatClampNeg) t3)) ∧
        (a2 = 0 →
          (vp_in a1 8 ∧
          post (t3 70 a1.toNatClampNeg) t3)))) ∧
      (r3 = 0 →
        post (-1 : Int32) t3)))))))) :
    AW l G d hX8_routeAt 0 [some (.inr 49), some (.inl a1), some (.inl a2)] [] s post := wps_ok (cut := []) oX8_routeAt 22 0 _ _ _ h
set_option maxRecDepth 100000 in
theorem vX8_took_0 {l : Launch} {G : GG} {d : Nat} {post : Int32 → Mem → Prop} {a1 a2 a3 : Int32} {s : Mem} (h :
    (∃ (d' : Nat) (Q1 : Int32 → Mem → Prop), d' < d ∧ Spec l G d' hX8_isTown [.inr 49, .inl a1] s Q1 ∧ ∀ (r1 : Int32) (t1 : Mem), Q1 r1 t1 →
    ((r1 = 0 →
      post (-1 : Int32) t1) ∧
    (¬ r1 = 0 →
      (∃ (d' : Nat) (Q2 : Int32 → Mem → Prop), d' < d ∧ Spec l G d' hX8_in [.inl a2, .inl (0 : Int32), .inl (6 : Int32)] t1 Q2 ∧ ∀ (r2 : Int32) (t2 : Mem), Q2 r2 t2 →
      ((r2 = 0 →
        post (-1 : Int32) t2) ∧
      (¬ r2 = 0 →
        (∃ (d' : Nat) (Q3 : Int32 → Mem → Prop), d' < d ∧ Spec l G d' hX8_in [.inl a3, .inl (0 : Int32), .inl (1000000 : Int32)] t2 Q3 ∧ ∀ (r3 : Int32) (t3 : Mem), Q3 r3 t3 →
        ((r3 = 0 →
          post (-1 : Int32) t3) ∧
        (¬ r3 = 0 →
          ((¬ (t3 49 17) = (500 : Int32) →
            (vp_in (t3 49 17) 500 ∧
            (vp_in ((wrM t3 65 (t3 49 17).toNatClampNeg a1) 49 17) 500 ∧
            (vp_in ((wrM (wrM t3 65 (t3 49 17).toNatClampNeg a1) 66 ((wrM t3 65 (t3 49 17).toNatClampNeg a1) 49 17).toNatClampNeg a2) 49 17) 500 ∧
            post ((wrM (wrM (wrM (wrM t3 65 (t3 49 17).toNatClampNeg a1) 66 ((wrM t3 65 (t3 49 17).toNatClampNeg a1) 49 17).toNatClampNeg a2) 67 ((wrM (wrM t3 65 (t3 49 17).toNatClampNeg a1) 66 ((wrM t3 65 (t3 49 17).toNatClampNeg a1) 49 17).toNatClampNeg a2) 49 17).toNatClampNeg a3) 49 17 (((wrM (wrM (wrM t3 65 (t3 49 17).toNatClampNeg a1) 66 ((wrM t3 65 (t3 49 17).toNatClampNeg a1) 49 17).toNatClampNeg a2) 67 ((wrM (wrM t3 65 (t3 49 17).toNatClampNeg a1) 66 ((wrM t3 65 (t3 49 17).toNatClampNeg a1) 49 17).toNatClampNeg a2) 49 17).toNatClampNeg a3) 49 17) + (1 : Int32))) 49 17) (wrM (wrM (wrM (wrM t3 65 (t3 49 17).toNatClampNeg a1) 66 ((wrM t3 65 (t3 49 17).toNatClampNeg a1) 49 17).toNatClampNeg a2) 67 ((wrM (wrM t3 65 (t3 49 17).toNatClampNeg a1) 66 ((wrM t3 65 (t3 49 17).toNatClampNeg a1) 49 17).toNatClampNeg a2) 49 17).toNatClampNeg a3) 49 17 (((wrM (wrM (wrM t3 65 (t3 49 17).toNatClampNeg a1) 66 ((wrM t3 65 (t3 49 17).toNatClampNeg a1) 49 17).toNatClampNeg a2) 67 ((wrM (wrM t3 65 (t3 49 17).toNatClampNeg a1) 66 ((wrM t3 65 (t3 49 17).toNatClampNeg a1) 49 17).toNatClampNeg a2) 49 17).toNatClampNeg a3) 49 17) + (1 : Int32))))))) ∧
          ((t3 49 17) = (500 : Int32) →
            post (-1 : Int32) t3)))))))))))) :
    AW l G d hX8_took 0 [some (.inr 49), some (.inl a1), some (.inl a2), some (.inl a3)] [] s post := wps_ok (cut := []) oX8_took 46 0 _ _ _ h
set_option maxRecDepth 100000 in
theorem vX8_foretold_0 {l : Launch} {G : GG} {d : Nat} {post : Int32 → Mem → Prop} {a1 a2 a3 : Int32} {s : Mem} (h :
    (∃ (d' : Nat) (Q1 : Int32 → Mem → Prop), d' < d ∧ Spec l G d' hX8_isTown [.inr 49, .inl a1] s Q1 ∧ ∀ (r1 : Int32) (t1 : Mem), Q1 r1 t1 →
    ((r1 = 0 →
      post (-1 : Int32) t1) ∧
    (¬ r1 = 0 →
      (∃ (d' : Nat) (Q2 : Int32 → Mem → Prop), d' < d ∧ Spec l G d' hX8_in [.inl a2, .inl (0 : Int32), .inl (6 : Int32)] t1 Q2 ∧ ∀ (r2 : Int32) (t2 : Mem), Q2 r2 t2 →
      ((r2 = 0 →
        post (-1 : Int32) t2) ∧
      (¬ r2 = 0 →
        (∃ (d' : Nat) (Q3 : Int32 → Mem → Prop), d' < d ∧ Spec l G d' hX8_in [.inl a3, .inl (0 : Int32), .inl (1 : Int32)] t2 Q3 ∧ ∀ (r3 : Int32) (t3 : Mem), Q3 r3 t3 →
        ((¬ r3 = 0 →
          AW l G d hX8_foretold 38 [some (.inr 49), some (.inl a1), some (.inl a2), some (.inl a3), some (.inl (0 : Int32)), some (.inl (0 : Int32)), some (.inl (0 : Int32)), none, none] [] t3 post) ∧
        (r3 = 0 →
          post (-1 : Int32) t3)))))))))) :
    AW l G d hX8_foretold 0 [some (.inr 49), some (.inl a1), some (.inl a2), some (.inl a3), none, none, none, none, none] [] s post := wps_ok (cut := [38, 52, 158]) oX8_foretold 21 0 _ _ _ h
set_option maxRecDepth 100000 in
theorem vX8_foretold_38 {l : Launch} {G : GG} {d : Nat} {post : Int32 → Mem → Prop} {a1 a2 a3 a4 a5 a6 : Int32} {s : Mem} (h :
    (((4 : Int32) ≤ a6 →
      ((¬ a5 = 0 →
        AW l G d hX8_foretold 158 [some (.inr 49), some (.inl a1), some (.inl a2), some (.inl a3), some (.inl a4), some (.inl a5), some (.inl a4), some (.inl a5), none] [] s post) ∧
      (a5 = 0 →
        post a3 s))) ∧
    (¬ (4 : Int32) ≤ a6 →
      ((¬ a5 = 0 →
        ((¬ a5 = 0 →
          AW l G d hX8_foretold 158 [some (.inr 49), some (.inl a1), some (.inl a2), some (.inl a3), some (.inl a4), some (.inl a5), some (.inl a4), some (.inl a5), none] [] s post) ∧
        (a5 = 0 →
          post a3 s))) ∧
      (a5 = 0 →
        AW l G d hX8_foretold 52 [some (.inr 49), some (.inl a1), some (.inl a2), some (.inl a3), some (.inl a4), some (.inl a5), some (.inl a6), some (.inl (0 : Int32)), none] [] s post))))) :
    AW l G d hX8_foretold 38 [some (.inr 49), some (.inl a1), some (.inl a2), some (.inl a3), some (.inl a4), some (.inl a5), some (.inl a6), none, none] [] s post := wps_ok (cut := [38, 52, 158]) oX8_foretold 12 38 _ _ _ h
set_option maxRecDepth 100000 in
theorem vX8_foretold_52 {l : Launch} {G : GG} {d : Nat} {post : Int32 → Mem → Prop} {a1 a2 a3 a4 a5 a6 a7 : Int32} {s : Mem} (h :
    (((s 49 17) ≤ a7 →
      AW l G d hX8_foretold 38 [some (.inr 49), some (.inl a1), some (.inl a2), some (.inl a3), some (.inl a4), some (.inl a5), some (.inl (a6 + (1 : Int32))), some (.inl a7), none] [] s post) ∧
    (¬ (s 49 17) ≤ a7 →
      (((1 : Int32) < a6 →
        ((a6 = (1 : Int32) →
          ((¬ (1 : Int32) = 0 →
            (vp_in a7 500 ∧
            AW l G d hX8_foretold 52 [some (.inr 49), some (.inl a1), some (.inl a2), some (.inl a3), some (.inl (a4 + (s 67 a7.toNatClampNeg))), some (.inl (a5 + (1 : Int32))), some (.inl a6), some (.inl (a7 + (1 : Int32))), some (.inl (1 : Int32))] [] s post)) ∧
          ((1 : Int32) = 0 →
            AW l G d hX8_foretold 52 [some (.inr 49), some (.inl a1), some (.inl a2), some (.inl a3), some (.inl a4), some (.inl a5), some (.inl a6), some (.inl (a7 + (1 : Int32))), some (.inl (1 : Int32))] [] s post))) ∧
        (¬ a6 = (1 : Int32) →
          ((a6 = (3 : Int32) →
            ((¬ (1 : Int32) = 0 →
              (vp_in a7 500 ∧
              AW l G d hX8_foretold 52 [some (.inr 49), some (.inl a1), some (.inl a2), some (.inl a3), some (.inl (a4 + (s 67 a7.toNatClampNeg))), some (.inl (a5 + (1 : Int32))), some (.inl a6), some (.inl (a7 + (1 : Int32))), some (.inl (1 : Int32))] [] s post)) ∧
            ((1 : Int32) = 0 →
              AW l G d hX8_foretold 52 [some (.inr 49), some (.inl a1), some (.inl a2), some (.inl a3), some (.inl a4), some (.inl a5), some (.inl a6), some (.inl (a7 + (1 : Int32))), some (.inl (1 : Int32))] [] s post))) ∧
          (¬ a6 = (3 : Int32) →
            (vp_in a7 500 ∧
            ((¬ (s 66 a7.toNatClampNeg) = a2 →
              ((¬ (0 : Int32) = 0 →
                (vp_in a7 500 ∧
                AW l G d hX8_foretold 52 [some (.inr 49), some (.inl a1), some (.inl a2), some (.inl a3), some (.inl (a4 + (s 67 a7.toNatClampNeg))), some (.inl (a5 + (1 : Int32))), some (.inl a6), some (.inl (a7 + (1 : Int32))), some (.inl (0 : Int32))] [] s post)) ∧
              ((0 : Int32) = 0 →
                AW l G d hX8_foretold 52 [some (.inr 49), some (.inl a1), some (.inl a2), some (.inl a3), some (.inl a4), some (.inl a5), some (.inl a6), some (.inl (a7 + (1 : Int32))), some (.inl (0 : Int32))] [] s post))) ∧
            ((s 66 a7.toNatClampNeg) = a2 →
              ((¬ (1 : Int32) = 0 →
                (vp_in a7 500 ∧
                AW l G d hX8_foretold 52 [some (.inr 49), some (.inl a1), some (.inl a2), some (.inl a3), some (.inl (a4 + (s 67 a7.toNatClampNeg))), some (.inl (a5 + (1 : Int32))), some (.inl a6), some (.inl (a7 + (1 : Int32))), some (.inl (1 : Int32))] [] s post)) ∧
              ((1 : Int32) = 0 →
                AW l G d hX8_foretold 52 [some (.inr 49), some (.inl a1), some (.inl a2), some (.inl a3), some (.inl a4), some (.inl a5), some (.inl a6), some (.inl (a7 + (1 : Int32))), some (.inl (1 : Int32))] [] s post)))))))))) ∧
      (¬ (1 : Int32) < a6 →
        (vp_in a7 500 ∧
        ((¬ (s 65 a7.toNatClampNeg) = a1 →
          ((¬ (0 : Int32) = 0 →
            (vp_in a7 500 ∧
            AW l G d hX8_foretold 52 [some (.inr 49), some (.inl a1), some (.inl a2), some (.inl a3), some (.inl (a4 + (s 67 a7.toNatClampNeg))), some (.inl (a5 + (1 : Int32))), some (.inl a6), some (.inl (a7 + (1 : Int32))), some (.inl (0 : Int32))] [] s post)) ∧
          ((0 : Int32) = 0 →
            AW l G d hX8_foretold 52 [some (.inr 49), some (.inl a1), some (.inl a2), some (.inl a3), some (.inl a4), some (.inl a5), some (.inl a6), some (.inl (a7 + (1 : Int32))), some (.inl (0 : Int32))] [] s post))) ∧
        ((s 65 a7.toNatClampNeg) = a1 →
          ((a6 = (1 : Int32) →
            ((¬ (1 : Int32) = 0 →
              (vp_in a7 500 ∧
              AW l G d hX8_foretold 52 [some (.inr 49), some (.inl a1), some (.inl a2), some (.inl a3), some (.inl (a4 + (s 67 a7.toNatClampNeg))), some (.inl (a5 + (1 : Int32))), some (.inl a6), some (.inl (a7 + (1 : Int32))), some (.inl (1 : Int32))] [] s post)) ∧
            ((1 : Int32) = 0 →
              AW l G d hX8_foretold 52 [some (.inr 49), some (.inl a1), some (.inl a2), some (.inl a3), some (.inl a4), some (.inl a5), some (.inl a6), some (.inl (a7 + (1 : Int32))), some (.inl (1 : Int32))] [] s post))) ∧
          (¬ a6 = (1 : Int32) →
            ((a6 = (3 : Int32) →
              ((¬ (1 : Int32) = 0 →
                (vp_in a7 500 ∧
                AW l G d hX8_foretold 52 [some (.inr 49), some (.inl a1), some (.inl a2), some (.inl a3), some (.inl (a4 + (s 67 a7.toNatClampNeg))), some (.inl (a5 + (1 : Int32))), some (.inl a6), some (.inl (a7 + (1 : Int32))), some (.inl (1 : Int32))] [] s post)) ∧
              ((1 : Int32) = 0 →
                AW l G d hX8_foretold 52 [some (.inr 49), some (.inl a1), some (.inl a2), some (.inl a3), some (.inl a4), some (.inl a5), some (.inl a6), some (.inl (a7 + (1 : Int32))), some (.inl (1 : Int32))] [] s post))) ∧
            (¬ a6 = (3 : Int32) →
              (vp_in a7 500 ∧
              ((¬ (s 66 a7.toNatClampNeg) = a2 →
                ((¬ (0 : Int32) = 0 →
                  (vp_in a7 500 ∧
                  AW l G d hX8_foretold 52 [some (.inr 49), some (.inl a1), some (.inl a2), some (.inl a3), some (.inl (a4 + (s 67 a7.toNatClampNeg))), some (.inl (a5 + (1 : Int32))), some (.inl a6), some (.inl (a7 + (1 : Int32))), some (.inl (0 : Int32))] [] s post)) ∧
                ((0 : Int32) = 0 →
                  AW l G d hX8_foretold 52 [some (.inr 49), some (.inl a1), some (.inl a2), some (.inl a3), some (.inl a4), some (.inl a5), some (.inl a6), some (.inl (a7 + (1 : Int32))), some (.inl (0 : Int32))] [] s post))) ∧
              ((s 66 a7.toNatClampNeg) = a2 →
                ((¬ (1 : Int32) = 0 →
                  (vp_in a7 500 ∧
                  AW l G d hX8_foretold 52 [some (.inr 49), some (.inl a1), some (.inl a2), some (.inl a3), some (.inl (a4 + (s 67 a7.toNatClampNeg))), some (.inl (a5 + (1 : Int32))), some (.inl a6), some (.inl (a7 + (1 : Int32))), some (.inl (1 : Int32))] [] s post)) ∧
                ((1 : Int32) = 0 →
                  AW l G d hX8_foretold 52 [some (.inr 49), some (.inl a1), some (.inl a2), some (.inl a3), some (.inl a4), some (.inl a5), some (.inl a6), some (.inl (a7 + (1 : Int32))), some (.inl (1 : Int32))] [] s post))))))))))))))))) :
    AW l G d hX8_foretold 52 [some (.inr 49), some (.inl a1), some (.inl a2), some (.inl a3), some (.inl a4), some (.inl a5), some (.inl a6), some (.inl a7), none] [] s post := wps_ok (cut := [38, 52, 158]) oX8_foretold 41 52 _ _ _ h
set_option maxRecDepth 100000 in
theorem vX8_foretold_158 {l : Launch} {G : GG} {d : Nat} {post : Int32 → Mem → Prop} {a1 a2 a3 a4 a5 a6 a7 : Int32} {s : Mem} (h :
    ((a7 = 0 →
      ((¬ a3 = 0 →
        (¬ a6 = 0 ∧
        post (a5 / a6) s)) ∧
      (a3 = 0 →
        (¬ a6 = 0 ∧
        post (a4 / a6) s)))) ∧
    (¬ a7 = 0 →
      (¬ a7 = 0 ∧
      AW l G d hX8_foretold 158 [some (.inr 49), some (.inl a1), some (.inl a2), some (.inl a3), some (.inl a4), some (.inl a5), some (.inl a7), some (.inl (a6 - a6 / a7 * a7)), some (.inl (a6 - a6 / a7 * a7))] [] s post)))) :
    AW l G d hX8_foretold 158 [some (.inr 49), some (.inl a1), some (.inl a2), some (.inl a3), some (.inl a4), some (.inl a5), some (.inl a6), some (.inl a7), none] [] s post := wps_ok (cut := [38, 52, 158]) oX8_foretold 12 158 _ _ _ h
set_option maxRecDepth 100000 in
theorem vX8_count_0 {l : Launch} {G : GG} {d : Nat} {post : Int32 → Mem → Prop} {a1 : Int32} {s : Mem} (h :
    (((a1.toInt < 0 ∨ 4 < a1.toInt) →
      post (-1 : Int32) s) ∧
    ((a1.toInt = 0 →
      post (s 49 0) s) ∧
    ((a1.toInt = 0 + 1 →
      post (s 49 11) s) ∧
    ((a1.toInt = 0 + 1 + 1 →
      AW l G d hX8_count 48 [some (.inr 49), some (.inl a1), some (.inl (0 : Int32)), some (.inl (0 : Int32))] [] s post) ∧
    ((a1.toInt = 0 + 1 + 1 + 1 →
      AW l G d hX8_count 81 [some (.inr 49), some (.inl a1), some (.inl (0 : Int32)), some (.inl (0 : Int32))] [] s post) ∧
    ((a1.toInt = 0 + 1 + 1 + 1 + 1 →
      post (s 49 17) s) ∧
    True))))))) :
    AW l G d hX8_count 0 [some (.inr 49), some (.inl a1), none, none] [] s post := wps_ok (cut := [48, 81]) oX8_count 8 0 _ _ _ h
set_option maxRecDepth 100000 in
theorem vX8_count_48 {l : Launch} {G : GG} {d : Nat} {post : Int32 → Mem → Prop} {a1 a2 a3 : Int32} {s : Mem} (h :
    (((16 : Int32) ≤ a3 →
      post a2 s) ∧
    (¬ (16 : Int32) ≤ a3 →
      (vp_in a3 16 ∧
      (((s 56 a3.toNatClampNeg) = 0 →
        AW l G d hX8_count 48 [some (.inr 49), some (.inl a1), some (.inl (a2 + (0 : Int32))), some (.inl (a3 + (1 : Int32)))] [] s post) ∧
      (¬ (s 56 a3.toNatClampNeg) = 0 →
        AW l G d hX8_count 48 [some (.inr 49), some (.inl a1), some (.inl (a2 + (1 : Int32))), some (.inl (a3 + (1 : Int32)))] [] s post)))))) :
    AW l G d hX8_count 48 [some (.inr 49), some (.inl a1), some (.inl a2), some (.inl a3)] [] s post := wps_ok (cut := [48, 81]) oX8_count 16 48 _ _ _ h
set_option maxRecDepth 100000 in
theorem vX8_count_81 {l : Launch} {G : GG} {d : Nat} {post : Int32 → Mem → Prop} {a1 a2 a3 : Int32} {s : Mem} (h :
    (((8 : Int32) ≤ a3 →
      post a2 s) ∧
    (¬ (8 : Int32) ≤ a3 →
      (∃ (d' : Nat) (Q1 : Int32 → Mem → Prop), d' < d ∧ Spec l G d' hX8_isUp [.inr 49, .inl a3] s Q1 ∧ ∀ (r1 : Int32) (t1 : Mem), Q1 r1 t1 →
      ((r1 = 0 →
        AW l G d hX8_count 81 [some (.inr 49), some (.inl a1), some (.inl (a2 + (0 : Int32))), some (.inl (a3 + (1 : Int32)))] [] t1 post) ∧
      (¬ r1 = 0 →
        AW l G d hX8_count 81 [some (.inr 49), some (.inl a1), some (.inl (a2 + (1 : Int32))), some (.inl (a3 + (1 : Int32)))] [] t1 post)))))) :
    AW l G d hX8_count 81 [some (.inr 49), some (.inl a1), some (.inl a2), some (.inl a3)] [] s post := wps_ok (cut := [48, 81]) oX8_count 15 81 _ _ _ h
end
section
/-! THE CLAIM OUT OF ONE WALK OF THE LAW'S BODY. Your part is whole_start (and what it stands on); all else here is the same for every law, but numbers. -/
def R_law : String := "CircusRoadLaw"
def lw_P (b : Addr) (xs : List Int32) (args : Array Value) (s : State) : Prop := args = #[.ref b] ∧ s.IntsAt b xs ∧ xs.length ≤ 2048 ∧ (Jvm.Cond.and given_1 narrow_1).before args s = true
def lw_Q (_ : Array Value) (s : State) (o : Outcome) (t : State) : Prop := o = .returned (some (.int 1)) ∧ Framed s o t [] 600000 7302250
def lw_Z (below : List Frame) (a : Array Value) (s : State) : State → Prop := fun t => ∃ o, t.status = .running ∧ Ended t below o ∧ lw_Q a s o t
/-- the law's own end, with 1 on the stack, nothing written that was there before, its room as the claim has it -/
theorem lw_ret {p : Program} {l : Launch} {e : Env} {s : State} {m : MethodId} {below : List Frame} {meth : Method} {c : Code} {b : Nat} (hx : p.tables.exec = Jvm.exec) (hb : c.code = code) (hr : meth.sig.returnType = ret) (hlocks : meth.locks = false) {pc : Nat} {H : Heap} {ls : Array Slot} (hdg : decode code pc = .ok (.ireturn, 1)) : W p l e room_1 s m #[Value.ref b] below meth c H [] 600000 7302250 (lw_Z below #[Value.ref b] s) (F0 m pc ls [.int 1]) := by
  intro T hT X
  obtain ⟨fs, hret, hrun, hended, hW, hframe⟩ := X.leave (v := some (.int 1)) (hlocks := hlocks) (fun h => by rw [hr] at h; cases h)
  have hmeth' : T.vm.method? m = some meth := X.method'
  refine ⟨T.setFrames fs, ?_, .returned (some (.int 1)), hrun, hended, rfl, ⟨_, rfl⟩, hW, hframe⟩
  jvm_step X.here [X.here.top, hx, hb, hdg, hmeth', hr, ret, narrow_b1]
  (try refine ⟨rfl, ?_⟩); (try refine ⟨rfl, ?_⟩)
  first | (intro acts; rw [hret _ acts rfl rfl rfl]) | rw [hret _ _ rfl rfl rfl]
  exact Steps.refl _
/-- what holds at the law's entry: the machine, the code, the tables' words (any of lw_tbl by 'hts w (by decide +kernel)'), the script of L ints xs at the cell b, what the Statement gives of the start (any of its parts by flat_of_before) -/
def lw_At (p : Program) (s : State) (m : MethodId) (meth : Method) (c : Code) (b L : Nat) (xs : Nat → Int32) : Prop :=
  p.tables.exec = Jvm.exec ∧ c.code = code ∧ meth.sig.returnType = ret ∧ c.maxLocals = 4 ∧ s.vm.findClass R_law = some m.cls ∧ (∀ w ∈ lw_tbl, w.before #[Value.ref b] s = true) ∧ va_X b L xs s s.heap ∧ b < s.heap.size ∧ meth.locks = false ∧ (Jvm.Cond.and given_1 narrow_1).before #[Value.ref b] s = true

def notLawNest : Cond → Bool
  | .methodLinkNest o .. => decide (o ≠ R_law)
  | _ => true
theorem lawNest_all : lw_tbl.all notLawNest = true := by decide +kernel
theorem lawNest (i : Nat) (y : MethodName) : Cond.methodLinkNest R_law i y "CircusRoad" ∉ lw_tbl := fun h => by
  have := List.all_eq_true.mp lawNest_all _ h
  simp [notLawNest] at this
/-! ===== the law's own level: its script is the cell 1000 of the addresses ===== -/
def LC (p : Program) (S : State) (m : MethodId) (meth : Method) (c : Code) (b n : Nat) (xs : Nat → Int32) (G : GG) : Prop :=
  lw_At p S m meth c b n xs ∧ PK G S ∧ adI G ∧ G.2.2.2 1000 = b ∧ ∀ k, k < SHl.length → S.heap.size ≤ G.2.2.2 k
def AL (p : Program) (l : Launch) (e : Env) (S : State) (m : MethodId) (below : List Frame) (meth : Method) (c : Code) (b : Nat) (G : GG) (pc : Nat) (L : LL) (st : List Vl) (s : Mem) : Prop :=
  ∀ (H : Heap) (ls : Array Slot), va_P G.1 vwCl (wd G s) H → va_S (fun q => S.heap.size ≤ q) S.heap H [] → lvh G ls 4 L →
    W p l e room_1 S m #[Value.ref b] below meth c H [] 600000 7302250 (lw_Z below #[Value.ref b] S) (F0 m pc ls (st.map (vv G)))
section LA
variable {p : Program} {l : Launch} {e : Env} {S : State} {m : MethodId} {below : List Frame} {meth : Method} {c : Code} {b n : Nat} {xs : Nat → Int32} {G : GG} {pc : Nat} {L : LL} {st : List Vl} {s : Mem} {x y v : Int32}
theorem al_iconst {k : Int} (C : LC p S m meth c b n xs G) (hd : decode code pc = .ok (.iconst k, 1)) (hv : Int32.ofInt k = v) (q : AL p l e S m below meth c b G (pc + 1) L (.inl v :: st) s) : AL p l e S m below meth c b G pc L st s := by
  intro H ls P Z N
  exact lv_iconst C.1.1 C.1.2.1 hd hv (q H ls P Z N)
theorem al_bipush {k : Int} (C : LC p S m meth c b n xs G) (hd : decode code pc = .ok (.bipush k, 2)) (hv : (Int8.ofInt k).toInt32 = v) (q : AL p l e S m below meth c b G (pc + 2) L (.inl v :: st) s) : AL p l e S m below meth c b G pc L st s := by
  intro H ls P Z N
  exact lv_bipush C.1.1 C.1.2.1 hd hv (q H ls P Z N)
theorem al_iload_n {i : Fin 4} (C : LC p S m meth c b n xs G) (hd : decode code pc = .ok (.iload_n i, 1)) (hL : L[(i : Nat)]? = some (some (.inl x))) (q : AL p l e S m below meth c b G (pc + 1) L (.inl x :: st) s) : AL p l e S m below meth c b G pc L st s := by
  intro H ls P Z N
  exact lv_iload_n C.1.1 C.1.2.1 hd rfl (N.2.2 i _ hL) (q H ls P Z N)
theorem al_aload_n {i : Fin 4} {o : Nat} (C : LC p S m meth c b n xs G) (hd : decode code pc = .ok (.aload_n i, 1)) (hL : L[(i : Nat)]? = some (some (.inr o))) (q : AL p l e S m below meth c b G (pc + 1) L (.inr o :: st) s) : AL p l e S m below meth c b G pc L st s := by
  intro H ls P Z N
  exact lv_aload_n C.1.1 C.1.2.1 hd rfl (N.2.2 i _ hL) (q H ls P Z N)
theorem al_iinc {i : Nat} {k : Int} (C : LC p S m meth c b n xs G) (hd : decode code pc = .ok (.iinc i k, 3)) (hL : L[i]? = some (some (.inl x))) (hv : Int32.ofInt k = v) (hi : i < 4) (q : AL p l e S m below meth c b G (pc + 3) (L.set i (some (.inl (x + v)))) st s) : AL p l e S m below meth c b G pc L st s := by
  intro H ls P Z N
  subst hv
  obtain ⟨kk, hk⟩ := List.getElem?_of_mem (lvl_mem.mpr ⟨i, _, hL, rfl⟩ : (i, vv G (.inl x)) ∈ lvl G L)
  exact lv_iinc C.1.1 C.1.2.1 hd (lvh_has N) hk rfl hi rfl (fun ls' hl => q H ls' P Z (lvh_set hl))
theorem al_iadd (C : LC p S m meth c b n xs G) (hd : decode code pc = .ok (.iadd, 1)) (q : AL p l e S m below meth c b G (pc + 1) L (.inl (x + y) :: st) s) : AL p l e S m below meth c b G pc L (.inl y :: .inl x :: st) s := by
  intro H ls P Z N
  exact lv_iadd C.1.1 C.1.2.1 hd (q H ls P Z N)
theorem al_isub (C : LC p S m meth c b n xs G) (hd : decode code pc = .ok (.isub, 1)) (q : AL p l e S m below meth c b G (pc + 1) L (.inl (x - y) :: st) s) : AL p l e S m below meth c b G pc L (.inl y :: .inl x :: st) s := by
  intro H ls P Z N
  exact lv_isub C.1.1 C.1.2.1 hd (q H ls P Z N)
theorem al_iand (C : LC p S m meth c b n xs G) (hd : decode code pc = .ok (.iand, 1)) (q : AL p l e S m below meth c b G (pc + 1) L (.inl (x &&& y) :: st) s) : AL p l e S m below meth c b G pc L (.inl y :: .inl x :: st) s := by
  intro H ls P Z N
  exact lv_iand C.1.1 C.1.2.1 hd (q H ls P Z N)
theorem al_goto {off : Int} {tgt : Nat} (C : LC p S m meth c b n xs G) (hd : decode code pc = .ok (.goto off, 3)) (ht : (pc : Int) + off = (tgt : Int)) (q : AL p l e S m below meth c b G tgt L st s) : AL p l e S m below meth c b G pc L st s := by
  intro H ls P Z N
  exact lv_goto C.1.1 C.1.2.1 hd ht (q H ls P Z N)
theorem al_if_eq {off : Int} {tgt : Nat} (C : LC p S m meth c b n xs G) (hd : decode code pc = .ok (.ifCond .eq off, 3)) (ht : (pc : Int) + off = (tgt : Int)) (kt : x = 0 → AL p l e S m below meth c b G tgt L st s) (kf : ¬ x = 0 → AL p l e S m below meth c b G (pc + 3) L st s) : AL p l e S m below meth c b G pc L (.inl x :: st) s := by
  intro H ls P Z N
  exact lv_if_eq C.1.1 C.1.2.1 hd ht (fun q => kt q H ls P Z N) (fun q => kf q H ls P Z N)
theorem al_icmp_eq {off : Int} {tgt : Nat} (C : LC p S m meth c b n xs G) (hd : decode code pc = .ok (.if_icmp .eq off, 3)) (ht : (pc : Int) + off = (tgt : Int)) (kt : x = y → AL p l e S m below meth c b G tgt L st s) (kf : ¬ x = y → AL p l e S m below meth c b G (pc + 3) L st s) : AL p l e S m below meth c b G pc L (.inl y :: .inl x :: st) s := by
  intro H ls P Z N
  exact lv_icmp_eq C.1.1 C.1.2.1 hd ht (fun q => kt q H ls P Z N) (fun q => kf q H ls P Z N)
theorem al_icmp_gt {off : Int} {tgt : Nat} (C : LC p S m meth c b n xs G) (hd : decode code pc = .ok (.if_icmp .gt off, 3)) (ht : (pc : Int) + off = (tgt : Int)) (kt : y < x → AL p l e S m below meth c b G tgt L st s) (kf : ¬ y < x → AL p l e S m below meth c b G (pc + 3) L st s) : AL p l e S m below meth c b G pc L (.inl y :: .inl x :: st) s := by
  intro H ls P Z N
  exact lv_icmp_gt C.1.1 C.1.2.1 hd ht (fun q => kt q H ls P Z N) (fun q => kf q H ls P Z N)
theorem al_len (C : LC p S m meth c b n xs G) (hd : decode code pc = .ok (.arraylength, 1)) (q : AL p l e S m below meth c b G (pc + 1) L (.inl (Int32.ofNat n) :: st) s) : AL p l e S m below meth c b G pc L (.inr 1000 :: st) s := by
  intro H ls P Z N
  have hbl := C.1.2.2.2.2.2.2.2.1
  have hb : vv G (.inr 1000) = .ref b := by rw [← C.2.2.2.1]; rfl
  rw [List.map_cons, hb]
  exact va_slen C.1.1 C.1.2.1 C.1.2.2.2.2.2.2.1 hbl (Nat.not_le.mpr hbl) Z hd (q H ls P Z N)
theorem al_scr (C : LC p S m meth c b n xs G) (hd : decode code pc = .ok (.iaload, 1)) (hi : vp_in x n) (q : AL p l e S m below meth c b G (pc + 1) L (.inl (xs x.toNatClampNeg) :: st) s) : AL p l e S m below meth c b G pc L (.inl x :: .inr 1000 :: st) s := by
  intro H ls P Z N
  have hbl := C.1.2.2.2.2.2.2.2.1
  have hb : vv G (.inr 1000) = .ref b := by rw [← C.2.2.2.1]; rfl
  rw [List.map_cons, List.map_cons, hb]
  exact va_sld C.1.1 C.1.2.1 C.1.2.2.2.2.2.2.1 hbl (Nat.not_le.mpr hbl) Z hi hd (q H ls P Z N)
theorem al_tsw {dflt lo hi : Int} {offs : Array Int} {len tgt : Nat} (C : LC p S m meth c b n xs G) (hd : decode code pc = .ok (.tableswitch dflt lo hi offs, len)) (ht : (pc : Int) + dflt = (tgt : Int)) (hlen : hi + 1 = lo + offs.size) (hpos : ∀ o ∈ offs.toList, 0 ≤ (pc : Int) + o)
    (k1 : (x.toInt < lo ∨ hi < x.toInt) → AL p l e S m below meth c b G tgt L st s) (k2 : swt x (fun t => AL p l e S m below meth c b G t L st s) pc lo offs.toList) : AL p l e S m below meth c b G pc L (.inl x :: st) s := by
  intro H ls P Z N
  by_cases hx : x.toInt < lo ∨ hi < x.toInt
  · exact lv_tableOut C.1.1 C.1.2.1 hd hx ht (k1 hx H ls P Z N)
  · have hj : (x.toInt - lo).toNat < offs.size := by omega
    have ho : offs[(x.toInt - lo).toNat]? = some offs[(x.toInt - lo).toNat] := Array.getElem?_eq_getElem hj
    have h2 := hpos _ (Array.getElem_mem_toList hj)
    refine lv_tableIn C.1.1 C.1.2.1 hd (fun q => hx (Or.inl q)) (fun q => hx (Or.inr q)) ho (tgt := ((pc : Int) + offs[(x.toInt - lo).toNat]).toNat) (by omega) ?_
    exact swt_at k2 (by rw [Array.getElem?_toList]; exact ho) (by omega) H ls P Z N
theorem al_ret (C : LC p S m meth c b n xs G) (hd : decode code pc = .ok (.ireturn, 1)) : AL p l e S m below meth c b G pc L [.inl 1] s := by
  intro H ls P Z N
  exact lw_ret C.1.1 C.1.2.1 C.1.2.2.1 C.1.2.2.2.2.2.2.2.2.1 hd
theorem al_call {hc : HD} {As : List Vl} {Q : Int32 → Mem → Prop} {i d' o ci : Nat} {T : u_T} {nF : Nat} {fs : List (Option Nat)} (C : LC p S m meth c b n xs G) (hd : decode code pc = .ok (.invokevirtual i, 3)) (hlt : d' < 1300) (ho : SHl[o]? = some (.inr (ci, fs))) (hcl : vwCl[ci]? = some (hc.1.cls, T, nF)) (hl : Cond.methodLink R_law i hc.1 ∈ lw_tbl) (hs : Cond.instanceMethod hc.1 ∈ lw_tbl) (hse : Cond.selects hc.1.cls hc.1 hc.1 ∈ lw_tbl) (hini : Cond.initialized hc.1.cls ∈ lw_tbl) (hno : nameOk hc As.length) (hmx : hc.2.2.1 ≤ 41) (hst : st.length ≤ 8)
    (M : Spec l G d' hc (.inr o :: As) s Q) (k : ∀ (r : Int32) (τ : Mem), Q r τ → AL p l e S m below meth c b G (pc + 3) L (pv hc r st) τ) : AL p l e S m below meth c b G pc L (As.reverse ++ .inr o :: st) s := by
  intro H ls P Z N
  obtain ⟨hx, hb, hr, hml, hown, hts, hX, hbl, hlocks, hgv⟩ := C.1
  have hroom : (rm d').frames + 1 ≤ room_1.frames ∧ 8 + (hc.2.2.1 + 11) + (rm d').locals ≤ room_1.locals := ⟨by show d' + 1 ≤ 2048; omega, by show 8 + (hc.2.2.1 + 11) + 60 * d' ≤ 84000; omega⟩
  have hN : NWS S := fun w hw hn => va_Nw.of (by cases w <;> first | (simp [isNest] at hn; done) | rfl) (hts w hw)
  have hpre : PreV S H hc.1.cls (G.2.2.2 o) (va_Pc ((.inr o :: As : List Vl).map (vv G)) (PIC G s)) (As.map (vv G)) := ⟨pic_blind, va_recv C.2.1 P hcl (wd_get ho), fun U hU hW => ⟨rfl, pic_at hU hW C.2.1 P C.2.2.1 hN⟩⟩
  have htg : ∀ w ∈ WSg, w.before #[Value.ref b] S = true := fun w hw => hts w (List.mem_filter.mp hw).1
  have hfix : CallFix p m c code 4 S #[Value.ref b] WSg R_law := ⟨hx, hb, hml, hown, htg⟩
  have hstk : (F0 m pc ls ((As.reverse ++ .inr o :: st).map (vv G))).stack = (As.map (vv G)).reverse ++ .ref (G.2.2.2 o) :: st.map (vv G) := by simp [vv]
  have hwd : 2 * (F0 m pc ls ((As.reverse ++ .inr o :: st).map (vv G))).monitorRoom + ((st.map (vv G)).map fun v => v.category).sum ≤ 8 := lv_room (by rw [st_cat]; exact hst)
  have hrun := W.runV (e := e) (below := below) (meth := meth) (locs := []) (cells := 600000) (slots := 7302250) (R := room_1) hfix M.2 ⟨callB_of As.length htg (ws_good (h := hc) M.1) rfl rfl rfl (hts _ hini) (hts _ hl) hno hroom, hts _ hs, hts _ hse⟩ hpre rfl (by simp) N.1 hstk hwd hd ⟨Nat.le_refl _, Nat.le_refl _⟩
  refine W.callX hrun (fun q hq => by obtain ⟨k, hk, rfl⟩ := hq; exact C.2.2.2.2 k hk) (fun v st₀ t h0 hq => ?_)
  obtain ⟨⟨r, τ, hv, hp, hb'⟩, hz, hk⟩ := hq
  rw [h0] at hz hk
  have Z1 : va_S (fun q => S.heap.size ≤ q) S.heap t.heap [] := ⟨Nat.le_trans Z.1 hz, fun q h1 h2 => by
    rw [hk q (Nat.lt_of_lt_of_le h1 Z.1) (fun z => by obtain ⟨k, hk, rfl⟩ := z; exact h2 (C.2.2.2.2 k hk))]
    exact Z.2.1 q h1 h2, fun _ h => by cases h⟩
  have hv' : v = rv hc r := Outcome.returned.inj hv
  have e3 : v.toList ++ st.map (vv G) = (pv hc r st).map (vv G) := by
    rw [hv']
    unfold rv pv
    cases hc.2.2.2 <;> rfl
  show W p l e room_1 S m #[Value.ref b] below meth c t.heap [] 600000 7302250 (lw_Z below #[Value.ref b] S) (F0 m (pc + 3) ls (v.toList ++ st.map (vv G)))
  rw [e3]
  exact k r τ hp t.heap ls hb' Z1 N
end LA
def semL (l : Launch) (G : GG) (n : Nat) (xs : Nat → Int32) (e : En) (pc : Nat) (L : LL) (st : List Vl) (s : Mem) (K : Nat → LL → List Vl → Mem → Prop) : Prop :=
  match e.1 with
  | .iconst _ => K (pc + 1) L (.inl e.2.2.2.2.1 :: st) s
  | .bipush _ => K (pc + 2) L (.inl e.2.2.2.2.1 :: st) s
  | .iload_n i => ldI L i (fun x => K (pc + 1) L (.inl x :: st) s)
  | .aload_n i => ldA L i (fun o => K (pc + 1) L (.inr o :: st) s)
  | .iinc i _ => ldI L i (fun x => K (pc + 3) (L.set i (some (.inl (x + e.2.2.2.2.1)))) st s)
  | .iadd => bi2 st (fun x y r => K (pc + 1) L (.inl (x + y) :: r) s)
  | .isub => bi2 st (fun x y r => K (pc + 1) L (.inl (x - y) :: r) s)
  | .iand => bi2 st (fun x y r => K (pc + 1) L (.inl (x &&& y) :: r) s)
  | .goto _ => K e.2.2.1 L st s
  | .arraylength => ob1 st (fun o r => bt1 (Nat.beq o 1000) (K (pc + 1) L (.inl (Int32.ofNat n) :: r) s))
  | .iaload => un1 st (fun x r => ob1 r (fun o r => bt1 (Nat.beq o 1000) (vp_in x n ∧ K (pc + 1) L (.inl (xs x.toNatClampNeg) :: r) s)))
  | .ifCond .eq _ => un1 st (fun x r => (x = 0 → K e.2.2.1 L r s) ∧ (¬ x = 0 → K (pc + 3) L r s))
  | .if_icmp .eq _ => bi2 st (fun x y r => (x = y → K e.2.2.1 L r s) ∧ (¬ x = y → K (pc + 3) L r s))
  | .if_icmp .gt _ => bi2 st (fun x y r => (y < x → K e.2.2.1 L r s) ∧ (¬ y < x → K (pc + 3) L r s))
  | .tableswitch _ lo hi offs => un1 st (fun x r => ((x.toInt < lo ∨ hi < x.toInt) → K e.2.2.1 L r s) ∧ swt x (fun t => K t L r s) pc lo offs.toList)
  | .ireturn => match st with
    | [.inl x] => x = 1
    | _ => False
  | .invokevirtual _ => bt1 (Nat.ble e.2.2.2.1 st.length) (ob1 (st.drop e.2.2.2.1) (fun o r => obj o (fun ci _ => bt1 (Nat.beq ci e.2.2.1 && Nat.ble r.length 8) (∃ (d' : Nat) (Q : Int32 → Mem → Prop), d' < 1300 ∧ Spec l G d' e.2.2.2.2.2.1 (.inr o :: (st.take e.2.2.2.1).reverse) s Q ∧ ∀ (r1 : Int32) (τ : Mem), Q r1 τ → K (pc + 3) L (pv e.2.2.2.2.2.1 r1 r) τ))))
  | _ => False
def hL_law : HD := (⟨R_law, "law", "([I)Z"⟩, code, 4, none)
set_option maxRecDepth 100000 in
set_option maxHeartbeats 4000000 in
theorem semL_ok {p : Program} {l : Launch} {ev : Env} {S : State} {m : MethodId} {below : List Frame} {meth : Method} {c : Code} {b n : Nat} {xs : Nat → Int32} {G : GG} {e : En} {pc : Nat} {L : LL} {st : List Vl} {s : Mem} {K : Nat → LL → List Vl → Mem → Prop}
    (C : LC p S m meth c b n xs G) (ho : okE hL_law pc e = true) (hK : ∀ pc L st s, K pc L st s → AL p l ev S m below meth c b G pc L st s) (hs : semL l G n xs e pc L st s K) : AL p l ev S m below meth c b G pc L st s := by
  obtain ⟨ins, len, a, b', v, hc, hnt⟩ := e
  have hd : decode code pc = .ok (ins, len) := by
    simp only [okE, Bool.and_eq_true, decide_eq_true_eq] at ho
    exact ho.1
  cases ins
  case iconst k =>
    simp only [okE, Bool.and_eq_true, decide_eq_true_eq] at ho
    obtain rfl : len = 1 := Nat.eq_of_beq_eq_true ho.2.2
    exact al_iconst C hd ho.2.1 (hK _ _ _ _ hs)
  case bipush k =>
    simp only [okE, Bool.and_eq_true, decide_eq_true_eq] at ho
    obtain rfl : len = 2 := Nat.eq_of_beq_eq_true ho.2.2
    exact al_bipush C hd ho.2.1 (hK _ _ _ _ hs)
  case iload_n i =>
    simp only [okE, Bool.and_eq_true, decide_eq_true_eq] at ho
    obtain rfl : len = 1 := Nat.eq_of_beq_eq_true ho.2
    obtain ⟨x, hx, hs⟩ := ldI_e hs
    exact al_iload_n C hd hx (hK _ _ _ _ hs)
  case aload_n i =>
    simp only [okE, Bool.and_eq_true, decide_eq_true_eq] at ho
    obtain rfl : len = 1 := Nat.eq_of_beq_eq_true ho.2
    obtain ⟨x, hx, hs⟩ := ldA_e hs
    exact al_aload_n C hd hx (hK _ _ _ _ hs)
  case iinc i k =>
    simp only [okE, Bool.and_eq_true, decide_eq_true_eq] at ho
    obtain rfl : len = 3 := Nat.eq_of_beq_eq_true ho.2.2
    obtain ⟨x, hx, hs⟩ := ldI_e hs
    exact al_iinc C hd hx ho.2.1.1 ho.2.1.2 (hK _ _ _ _ hs)
  case iadd =>
    simp only [okE, Bool.and_eq_true, decide_eq_true_eq] at ho
    obtain rfl : len = 1 := Nat.eq_of_beq_eq_true ho.2
    obtain ⟨x, y, r, rfl, hs⟩ := bi2_e hs
    exact al_iadd C hd (hK _ _ _ _ hs)
  case isub =>
    simp only [okE, Bool.and_eq_true, decide_eq_true_eq] at ho
    obtain rfl : len = 1 := Nat.eq_of_beq_eq_true ho.2
    obtain ⟨x, y, r, rfl, hs⟩ := bi2_e hs
    exact al_isub C hd (hK _ _ _ _ hs)
  case iand =>
    simp only [okE, Bool.and_eq_true, decide_eq_true_eq] at ho
    obtain rfl : len = 1 := Nat.eq_of_beq_eq_true ho.2
    obtain ⟨x, y, r, rfl, hs⟩ := bi2_e hs
    exact al_iand C hd (hK _ _ _ _ hs)
  case goto off =>
    simp only [okE, Bool.and_eq_true, decide_eq_true_eq] at ho
    obtain rfl : len = 3 := Nat.eq_of_beq_eq_true ho.2.2
    exact al_goto C hd ho.2.1 (hK _ _ _ _ hs)
  case iaload =>
    simp only [okE, Bool.and_eq_true, decide_eq_true_eq] at ho
    obtain rfl : len = 1 := Nat.eq_of_beq_eq_true ho.2
    obtain ⟨x, r, rfl, hs⟩ := un1_e hs
    obtain ⟨o, r, rfl, hs⟩ := ob1_e hs
    obtain ⟨h1, hi, hs3⟩ := bt1_e hs
    have h1 : o = 1000 := Nat.eq_of_beq_eq_true h1
    subst h1
    exact al_scr C hd hi (hK _ _ _ _ hs3)
  case arraylength =>
    simp only [okE, Bool.and_eq_true, decide_eq_true_eq] at ho
    obtain rfl : len = 1 := Nat.eq_of_beq_eq_true ho.2
    obtain ⟨o, r, rfl, hs⟩ := ob1_e hs
    obtain ⟨h1, hs3⟩ := bt1_e hs
    have h1 : o = 1000 := Nat.eq_of_beq_eq_true h1
    subst h1
    exact al_len C hd (hK _ _ _ _ hs3)
  case ifCond cnd off =>
    simp only [okE, Bool.and_eq_true, decide_eq_true_eq] at ho
    obtain rfl : len = 3 := Nat.eq_of_beq_eq_true ho.2.2
    cases cnd
    case eq =>
      obtain ⟨x, r, rfl, h1, h2⟩ := un1_e hs
      exact al_if_eq C hd ho.2.1 (fun q => hK _ _ _ _ (h1 q)) (fun q => hK _ _ _ _ (h2 q))
    all_goals exact hs.elim
  case if_icmp cnd off =>
    simp only [okE, Bool.and_eq_true, decide_eq_true_eq] at ho
    obtain rfl : len = 3 := Nat.eq_of_beq_eq_true ho.2.2
    cases cnd
    case eq =>
      obtain ⟨x, y, r, rfl, h1, h2⟩ := bi2_e hs
      exact al_icmp_eq C hd ho.2.1 (fun q => hK _ _ _ _ (h1 q)) (fun q => hK _ _ _ _ (h2 q))
    case gt =>
      obtain ⟨x, y, r, rfl, h1, h2⟩ := bi2_e hs
      exact al_icmp_gt C hd ho.2.1 (fun q => hK _ _ _ _ (h1 q)) (fun q => hK _ _ _ _ (h2 q))
    all_goals exact hs.elim
  case tableswitch dflt lo hi offs =>
    simp only [okE, Bool.and_eq_true, decide_eq_true_eq, List.all_eq_true] at ho
    obtain ⟨x, r, rfl, h1, h2⟩ := un1_e hs
    exact al_tsw C hd ho.2.1.1 ho.2.1.2 ho.2.2 (fun q => hK _ _ _ _ (h1 q)) (swt_mono (fun t q => hK _ _ _ _ q) h2)
  case ireturn =>
    simp only [okE, Bool.and_eq_true, decide_eq_true_eq] at ho
    obtain rfl : len = 1 := Nat.eq_of_beq_eq_true ho.2
    match st, hs with
    | [.inl x], hs =>
      obtain rfl : x = 1 := hs
      exact al_ret C hd
  case invokevirtual i =>
    dsimp only [okE] at ho
    simp only [Bool.and_eq_true, decide_eq_true_eq] at ho
    obtain rfl : len = 3 := Nat.eq_of_beq_eq_true ho.2.1.1.1.1
    obtain ⟨hm1, hm2, hm3, hm4⟩ := okM_e ho.2.1.1.1.2
    dsimp only [semL] at hs
    obtain ⟨hb0, hs⟩ := bt1_e hs
    obtain ⟨o, r, hdr, hs⟩ := ob1_e hs
    obtain ⟨ci, fs, hob, hs⟩ := obj_e hs
    obtain ⟨hb1, d', Q, hlt, M, hs2⟩ := bt1_e hs
    simp only [Bool.and_eq_true] at hb1
    have hci : ci = a := Nat.eq_of_beq_eq_true hb1.1
    subst hci
    have h2 := Nat.le_of_ble_eq_true hb1.2
    have h1 := Nat.le_of_ble_eq_true hb0
    have hcl := ho.2.2
    have hm1 : Cond.methodLink R_law i hc.1 ∈ lw_tbl := by
      rcases hm1 with q | q
      · exact q
      · exact absurd q (lawNest i hc.1)
    split at hcl
    · rename_i q hq
      have hq1 : q.1 = hc.1.cls := of_decide_eq_true hcl
      have hq2 : vwCl[ci]? = some (hc.1.cls, q.2.1, q.2.2) := by rw [hq, ← hq1]
      have e1 : (st.take b').reverse.reverse ++ .inr o :: r = st := by rw [List.reverse_reverse, ← hdr, List.take_append_drop]
      have hlen : (st.take b').reverse.length = b' := by simp; omega
      have := al_call (st := r) C hd hlt hob hq2 hm1 (bIn_e ho.2.1.1.2) (bIn_e ho.2.1.2) hm2 (by rw [hlen]; exact hm3) hm4 h2 M (fun r τ q => hK _ _ _ _ (hs2 r τ q))
      rw [e1] at this
      exact this
    · cases hcl
  all_goals exact hs.elim
def okL (pc : Nat) (e : En) : Bool := okE hL_law pc e
def tbOkL (tb : List (Option En)) : Prop := ∀ pc e, tb[pc]? = some (some e) → okL pc e = true
def wpsL (p : Program) (l : Launch) (ev : Env) (S : State) (m : MethodId) (below : List Frame) (meth : Method) (c : Code) (b n : Nat) (xs : Nat → Int32) (G : GG) (tb : List (Option En)) (cut : List Nat) : Nat → Nat → LL → List Vl → Mem → Prop
  | 0, pc, L, st, s => AL p l ev S m below meth c b G pc L st s
  | k + 1, pc, L, st, s => match tb[pc]? with
    | some (some e) => semL l G n xs e pc L st s (fun pc L st s => match cut.elem pc with
      | true => AL p l ev S m below meth c b G pc L st s
      | false => wpsL p l ev S m below meth c b n xs G tb cut k pc L st s)
    | _ => False
theorem wpsL_ok {p : Program} {l : Launch} {ev : Env} {S : State} {m : MethodId} {below : List Frame} {meth : Method} {c : Code} {b n : Nat} {xs : Nat → Int32} {G : GG} {tb : List (Option En)} {cut : List Nat} (C : LC p S m meth c b n xs G) (ho : tbOkL tb) : ∀ (k pc : Nat) (L : LL) (st : List Vl) (s : Mem), wpsL p l ev S m below meth c b n xs G tb cut k pc L st s → AL p l ev S m below meth c b G pc L st s
  | 0, _, _, _, _, q => q
  | k + 1, pc, L, st, s, q => by
    unfold wpsL at q
    split at q
    · rename_i e he
      refine semL_ok C (ho pc e he) ?_ q
      intro pc L st s q
      split at q
      · exact q
      · exact wpsL_ok C ho k pc L st s q
    · exact q.elim
def okRange (tb : List (Option En)) (lo n : Nat) : Bool := (((tb.drop lo).take n).mapIdx (fun j o => match o with
    | some e => okL (lo + j) e
    | none => true)).all id
theorem okRange_e {tb : List (Option En)} {lo n pc : Nat} {e : En} (h : okRange tb lo n = true) (h1 : lo ≤ pc) (h2 : pc < lo + n) (he : tb[pc]? = some (some e)) : okL pc e = true := by
  have h3 : ((tb.drop lo).take n)[pc - lo]? = some (some e) := by
    rw [List.getElem?_take_of_lt (by omega), List.getElem?_drop, ← he]
    congr 1
    omega
  have := List.all_eq_true.mp h _ (List.mem_of_getElem? (i := pc - lo) (by rw [List.getElem?_mapIdx, h3]; rfl))
  simp only [id] at this
  rw [show lo + (pc - lo) = pc by omega] at this
  exact this
end
section
def tL_law : List (Option En) := [none, none, none, none, none, none, none, none, none, none, none, none, none, none, none, none, none, none, some (.iload_n 3, 1, 0, 0, 0, hNone, []), some (.aload_n 0, 1, 0, 0, 0, hNone, []), some (.arraylength, 1, 0, 0, 0, hNone, []), some (.iconst 4, 1, 0, 0, 4, hNone, []), some (.isub, 1, 0, 0, 0, hNone, []), some (.if_icmp .gt 834, 3, 857, 0, 0, hNone, []), none, none, some (.aload_n 0, 1, 0, 0, 0, hNone, []), some (.iload_n 3, 1, 0, 0, 0, hNone, []), some (.iaload, 1, 0, 0, 0, hNone, []), some (.bipush 31, 2, 0, 0, 31, hNone, []), none, some (.iand, 1, 0, 0, 0, hNone, []), some (.tableswitch 819 0 20 #[100, 143, 176, 235, 278, 311, 324, 347, 380, 423, 456, 489, 522, 545, 588, 631, 664, 677, 710, 753, 796], 100, 851, 0, 0, hNone, []), none, none, none, none, none, none, none, none, none, none, none, none, none, none, none, none, none, none, none, none, none, none, none, none, none, none, none, none, none, none, none, none, none, none, none, none, none, none, none, none, none, none, none, none, none, none, none, none, none, none, none, none, none, none, none, none, none, none, none, none, none, none, none, none, none, none, none, none, none, none, none, none, none, none, none, none, none, none, none, none, none, none, none, none, none, none, none, none, none, none, none, none, none, none, none, none, none, none, none, some (.aload_n 1, 1, 0, 0, 0, hNone, []), some (.aload_n 0, 1, 0, 0, 0, hNone, []), some (.iload_n 3, 1, 0, 0, 0, hNone, []), some (.iconst 1, 1, 0, 0, 1, hNone, []), some (.iadd, 1, 0, 0, 0, hNone, []), some (.iaload, 1, 0, 0, 0, hNone, []), some (.aload_n 0, 1, 0, 0, 0, hNone, []), some (.iload_n 3, 1, 0, 0, 0, hNone, []), some (.iconst 2, 1, 0, 0, 2, hNone, []), some (.iadd, 1, 0, 0, 0, hNone, []), some (.iaload, 1, 0, 0, 0, hNone, []), some (.aload_n 0, 1, 0, 0, 0, hNone, []), some (.iload_n 3, 1, 0, 0, 0, hNone, []), some (.iconst 3, 1, 0, 0, 3, hNone, []), some (.iadd, 1, 0, 0, 0, hNone, []), some (.iaload, 1, 0, 0, 0, hNone, []), some (.invokevirtual 13, 3, 7, 3, 0, hX7_act, [355, 57, 356, 357]), none, none, some (.aload_n 2, 1, 0, 0, 0, hNone, []), some (.aload_n 0, 1, 0, 0, 0, hNone, []), some (.iload_n 3, 1, 0, 0, 0, hNone, []), some (.iconst 1, 1, 0, 0, 1, hNone, []), some (.iadd, 1, 0, 0, 0, hNone, []), some (.iaload, 1, 0, 0, 0, hNone, []), some (.aload_n 0, 1, 0, 0, 0, hNone, []), some (.iload_n 3, 1, 0, 0, 0, hNone, []), some (.iconst 2, 1, 0, 0, 2, hNone, []), some (.iadd, 1, 0, 0, 0, hNone, []), some (.iaload, 1, 0, 0, 0, hNone, []), some (.aload_n 0, 1, 0, 0, 0, hNone, []), some (.iload_n 3, 1, 0, 0, 0, hNone, []), some (.iconst 3, 1, 0, 0, 3, hNone, []), some (.iadd, 1, 0, 0, 0, hNone, []), some (.iaload, 1, 0, 0, 0, hNone, []), some (.invokevirtual 17, 3, 8, 3, 0, hX8_act, [769, 65, 770, 771]), none, none, some (.if_icmp .eq 681, 3, 851, 0, 0, hNone, []), none, none, some (.iconst 0, 1, 0, 0, 0, hNone, []), some (.ireturn, 1, 0, 0, 0, hNone, []), some (.aload_n 1, 1, 0, 0, 0, hNone, []), some (.aload_n 0, 1, 0, 0, 0, hNone, []), some (.iload_n 3, 1, 0, 0, 0, hNone, []), some (.iconst 1, 1, 0, 0, 1, hNone, []), some (.iadd, 1, 0, 0, 0, hNone, []), some (.iaload, 1, 0, 0, 0, hNone, []), some (.aload_n 0, 1, 0, 0, 0, hNone, []), some (.iload_n 3, 1, 0, 0, 0, hNone, []), some (.iconst 2, 1, 0, 0, 2, hNone, []), some (.iadd, 1, 0, 0, 0, hNone, []), some (.iaload, 1, 0, 0, 0, hNone, []), some (.invokevirtual 18, 3, 7, 2, 0, hX7_rests, [366, 57, 367, 368]), none, none, some (.aload_n 2, 1, 0, 0, 0, hNone, []), some (.aload_n 0, 1, 0, 0, 0, hNone, []), some (.iload_n 3, 1, 0, 0, 0, hNone, []), some (.iconst 1, 1, 0, 0, 1, hNone, []), some (.iadd, 1, 0, 0, 0, hNone, []), some (.iaload, 1, 0, 0, 0, hNone, []), some (.aload_n 0, 1, 0, 0, 0, hNone, []), some (.iload_n 3, 1, 0, 0, 0, hNone, []), some (.iconst 2, 1, 0, 0, 2, hNone, []), some (.iadd, 1, 0, 0, 0, hNone, []), some (.iaload, 1, 0, 0, 0, hNone, []), some (.invokevirtual 22, 3, 8, 2, 0, hX8_rests, [776, 65, 777, 778]), none, none, some (.if_icmp .eq 648, 3, 851, 0, 0, hNone, []), none, none, some (.iconst 0, 1, 0, 0, 0, hNone, []), some (.ireturn, 1, 0, 0, 0, hNone, []), some (.aload_n 1, 1, 0, 0, 0, hNone, []), some (.aload_n 0, 1, 0, 0, 0, hNone, []), some (.iload_n 3, 1, 0, 0, 0, hNone, []), some (.iconst 1, 1, 0, 0, 1, hNone, []), some (.iadd, 1, 0, 0, 0, hNone, []), some (.iaload, 1, 0, 0, 0, hNone, []), some (.aload_n 0, 1, 0, 0, 0, hNone, []), some (.iload_n 3, 1, 0, 0, 0, hNone, []), some (.iconst 2, 1, 0, 0, 2, hNone, []), some (.iadd, 1, 0, 0, 0, hNone, []), some (.iaload, 1, 0, 0, 0, hNone, []), some (.aload_n 0, 1, 0, 0, 0, hNone, []), some (.iload_n 3, 1, 0, 0, 0, hNone, []), some (.iconst 3, 1, 0, 0, 3, hNone, []), some (.iadd, 1, 0, 0, 0, hNone, []), some (.iaload, 1, 0, 0, 0, hNone, []), some (.ifCond .eq 7, 3, 231, 0, 0, hNone, []), none, none, some (.iconst 1, 1, 0, 0, 1, hNone, []), some (.goto 4, 3, 232, 0, 0, hNone, []), none, none, some (.iconst 0, 1, 0, 0, 0, hNone, []), some (.invokevirtual 23, 3, 7, 3, 0, hX7_ban, [377, 57, 378, 379]), none, none, some (.aload_n 2, 1, 0, 0, 0, hNone, []), some (.aload_n 0, 1, 0, 0, 0, hNone, []), some (.iload_n 3, 1, 0, 0, 0, hNone, []), some (.iconst 1, 1, 0, 0, 1, hNone, []), some (.iadd, 1, 0, 0, 0, hNone, []), some (.iaload, 1, 0, 0, 0, hNone, []), some (.aload_n 0, 1, 0, 0, 0, hNone, []), some (.iload_n 3, 1, 0, 0, 0, hNone, []), some (.iconst 2, 1, 0, 0, 2, hNone, []), some (.iadd, 1, 0, 0, 0, hNone, []), some (.iaload, 1, 0, 0, 0, hNone, []), some (.aload_n 0, 1, 0, 0, 0, hNone, []), some (.iload_n 3, 1, 0, 0, 0, hNone, []), some (.iconst 3, 1, 0, 0, 3, hNone, []), some (.iadd, 1, 0, 0, 0, hNone, []), some (.iaload, 1, 0, 0, 0, hNone, []), some (.ifCond .eq 7, 3, 258, 0, 0, hNone, []), none, none, some (.iconst 1, 1, 0, 0, 1, hNone, []), some (.goto 4, 3, 259, 0, 0, hNone, []), none, none, some (.iconst 0, 1, 0, 0, 0, hNone, []), some (.invokevirtual 27, 3, 8, 3, 0, hX8_ban, [780, 65, 781, 782]), none, none, some (.if_icmp .eq 589, 3, 851, 0, 0, hNone, []), none, none, some (.iconst 0, 1, 0, 0, 0, hNone, []), some (.ireturn, 1, 0, 0, 0, hNone, []), some (.aload_n 1, 1, 0, 0, 0, hNone, []), some (.aload_n 0, 1, 0, 0, 0, hNone, []), some (.iload_n 3, 1, 0, 0, 0, hNone, []), some (.iconst 1, 1, 0, 0, 1, hNone, []), some (.iadd, 1, 0, 0, 0, hNone, []), some (.iaload, 1, 0, 0, 0, hNone, []), some (.aload_n 0, 1, 0, 0, 0, hNone, []), some (.iload_n 3, 1, 0, 0, 0, hNone, []), some (.iconst 2, 1, 0, 0, 2, hNone, []), some (.iadd, 1, 0, 0, 0, hNone, []), some (.iaload, 1, 0, 0, 0, hNone, []), some (.aload_n 0, 1, 0, 0, 0, hNone, []), some (.iload_n 3, 1, 0, 0, 0, hNone, []), some (.iconst 3, 1, 0, 0, 3, hNone, []), some (.iadd, 1, 0, 0, 0, hNone, []), some (.iaload, 1, 0, 0, 0, hNone, []), some (.invokevirtual 28, 3, 7, 3, 0, hX7_judge, [389, 57, 390, 391]), none, none, some (.aload_n 2, 1, 0, 0, 0, hNone, []), some (.aload_n 0, 1, 0, 0, 0, hNone, []), some (.iload_n 3, 1, 0, 0, 0, hNone, []), some (.iconst 1, 1, 0, 0, 1, hNone, []), some (.iadd, 1, 0, 0, 0, hNone, []), some (.iaload, 1, 0, 0, 0, hNone, []), some (.aload_n 0, 1, 0, 0, 0, hNone, []), some (.iload_n 3, 1, 0, 0, 0, hNone, []), some (.iconst 2, 1, 0, 0, 2, hNone, []), some (.iadd, 1, 0, 0, 0, hNone, []), some (.iaload, 1, 0, 0, 0, hNone, []), some (.aload_n 0, 1, 0, 0, 0, hNone, []), some (.iload_n 3, 1, 0, 0, 0, hNone, []), some (.iconst 3, 1, 0, 0, 3, hNone, []), some (.iadd, 1, 0, 0, 0, hNone, []), some (.iaload, 1, 0, 0, 0, hNone, []), some (.invokevirtual 31, 3, 8, 3, 0, hX8_judge, [784, 65, 785, 786]), none, none, some (.if_icmp .eq 546, 3, 851, 0, 0, hNone, []), none, none, some (.iconst 0, 1, 0, 0, 0, hNone, []), some (.ireturn, 1, 0, 0, 0, hNone, []), some (.aload_n 1, 1, 0, 0, 0, hNone, []), some (.aload_n 0, 1, 0, 0, 0, hNone, []), some (.iload_n 3, 1, 0, 0, 0, hNone, []), some (.iconst 1, 1, 0, 0, 1, hNone, []), some (.iadd, 1, 0, 0, 0, hNone, []), some (.iaload, 1, 0, 0, 0, hNone, []), some (.aload_n 0, 1, 0, 0, 0, hNone, []), some (.iload_n 3, 1, 0, 0, 0, hNone, []), some (.iconst 2, 1, 0, 0, 2, hNone, []), some (.iadd, 1, 0, 0, 0, hNone, []), some (.iaload, 1, 0, 0, 0, hNone, []), some (.invokevirtual 32, 3, 7, 2, 0, hX7_gaps, [427, 57, 428, 429]), none, none, some (.aload_n 2, 1, 0, 0, 0, hNone, []), some (.aload_n 0, 1, 0, 0, 0, hNone, []), some (.iload_n 3, 1, 0, 0, 0, hNone, []), some (.iconst 1, 1, 0, 0, 1, hNone, []), some (.iadd, 1, 0, 0, 0, hNone, []), some (.iaload, 1, 0, 0, 0, hNone, []), some (.aload_n 0, 1, 0, 0, 0, hNone, []), some (.iload_n 3, 1, 0, 0, 0, hNone, []), some (.iconst 2, 1, 0, 0, 2, hNone, []), some (.iadd, 1, 0, 0, 0, hNone, []), some (.iaload, 1, 0, 0, 0, hNone, []), some (.invokevirtual 36, 3, 8, 2, 0, hX8_gaps, [796, 65, 797, 798]), none, none, some (.if_icmp .eq 513, 3, 851, 0, 0, hNone, []), none, none, some (.iconst 0, 1, 0, 0, 0, hNone, []), some (.ireturn, 1, 0, 0, 0, hNone, []), some (.aload_n 1, 1, 0, 0, 0, hNone, []), some (.invokevirtual 37, 3, 7, 0, 0, hX7_best, [431, 57, 432, 433]), none, none, some (.aload_n 2, 1, 0, 0, 0, hNone, []), some (.invokevirtual 41, 3, 8, 0, 0, hX8_best, [808, 65, 809, 810]), none, none, some (.if_icmp .eq 500, 3, 851, 0, 0, hNone, []), none, none, some (.iconst 0, 1, 0, 0, 0, hNone, []), some (.ireturn, 1, 0, 0, 0, hNone, []), some (.aload_n 1, 1, 0, 0, 0, hNone, []), some (.aload_n 0, 1, 0, 0, 0, hNone, []), some (.iload_n 3, 1, 0, 0, 0, hNone, []), some (.iconst 1, 1, 0, 0, 1, hNone, []), some (.iadd, 1, 0, 0, 0, hNone, []), some (.iaload, 1, 0, 0, 0, hNone, []), some (.invokevirtual 42, 3, 7, 1, 0, hX7_bestAt, [476, 57, 477, 478]), none, none, some (.aload_n 2, 1, 0, 0, 0, hNone, []), some (.aload_n 0, 1, 0, 0, 0, hNone, []), some (.iload_n 3, 1, 0, 0, 0, hNone, []), some (.iconst 1, 1, 0, 0, 1, hNone, []), some (.iadd, 1, 0, 0, 0, hNone, []), some (.iaload, 1, 0, 0, 0, hNone, []), some (.invokevirtual 46, 3, 8, 1, 0, hX8_bestAt, [816, 65, 817, 818]), none, none, some (.if_icmp .eq 477, 3, 851, 0, 0, hNone, []), none, none, some (.iconst 0, 1, 0, 0, 0, hNone, []), some (.ireturn, 1, 0, 0, 0, hNone, []), some (.aload_n 1, 1, 0, 0, 0, hNone, []), some (.aload_n 0, 1, 0, 0, 0, hNone, []), some (.iload_n 3, 1, 0, 0, 0, hNone, []), some (.iconst 1, 1, 0, 0, 1, hNone, []), some (.iadd, 1, 0, 0, 0, hNone, []), some (.iaload, 1, 0, 0, 0, hNone, []), some (.aload_n 0, 1, 0, 0, 0, hNone, []), some (.iload_n 3, 1, 0, 0, 0, hNone, []), some (.iconst 2, 1, 0, 0, 2, hNone, []), some (.iadd, 1, 0, 0, 0, hNone, []), some (.iaload, 1, 0, 0, 0, hNone, []), some (.invokevirtual 47, 3, 7, 2, 0, hX7_load, [480, 57, 481, 482]), none, none, some (.aload_n 2, 1, 0, 0, 0, hNone, []), some (.aload_n 0, 1, 0, 0, 0, hNone, []), some (.iload_n 3, 1, 0, 0, 0, hNone, []), some (.iconst 1, 1, 0, 0, 1, hNone, []), some (.iadd, 1, 0, 0, 0, hNone, []), some (.iaload, 1, 0, 0, 0, hNone, []), some (.aload_n 0, 1, 0, 0, 0, hNone, []), some (.iload_n 3, 1, 0, 0, 0, hNone, []), some (.iconst 2, 1, 0, 0, 2, hNone, []), some (.iadd, 1, 0, 0, 0, hNone, []), some (.iaload, 1, 0, 0, 0, hNone, []), some (.invokevirtual 50, 3, 8, 2, 0, hX8_load, [820, 65, 821, 822]), none, none, some (.if_icmp .eq 444, 3, 851, 0, 0, hNone, []), none, none, some (.iconst 0, 1, 0, 0, 0, hNone, []), some (.ireturn, 1, 0, 0, 0, hNone, []), some (.aload_n 1, 1, 0, 0, 0, hNone, []), some (.aload_n 0, 1, 0, 0, 0, hNone, []), some (.iload_n 3, 1, 0, 0, 0, hNone, []), some (.iconst 1, 1, 0, 0, 1, hNone, []), some (.iadd, 1, 0, 0, 0, hNone, []), some (.iaload, 1, 0, 0, 0, hNone, []), some (.aload_n 0, 1, 0, 0, 0, hNone, []), some (.iload_n 3, 1, 0, 0, 0, hNone, []), some (.iconst 2, 1, 0, 0, 2, hNone, []), some (.iadd, 1, 0, 0, 0, hNone, []), some (.iaload, 1, 0, 0, 0, hNone, []), some (.aload_n 0, 1, 0, 0, 0, hNone, []), some (.iload_n 3, 1, 0, 0, 0, hNone, []), some (.iconst 3, 1, 0, 0, 3, hNone, []), some (.iadd, 1, 0, 0, 0, hNone, []), some (.iaload, 1, 0, 0, 0, hNone, []), some (.invokevirtual 51, 3, 7, 3, 0, hX7_share, [489, 57, 490, 491]), none, none, some (.aload_n 2, 1, 0, 0, 0, hNone, []), some (.aload_n 0, 1, 0, 0, 0, hNone, []), some (.iload_n 3, 1, 0, 0, 0, hNone, []), some (.iconst 1, 1, 0, 0, 1, hNone, []), some (.iadd, 1, 0, 0, 0, hNone, []), some (.iaload, 1, 0, 0, 0, hNone, []), some (.aload_n 0, 1, 0, 0, 0, hNone, []), some (.iload_n 3, 1, 0, 0, 0, hNone, []), some (.iconst 2, 1, 0, 0, 2, hNone, []), some (.iadd, 1, 0, 0, 0, hNone, []), some (.iaload, 1, 0, 0, 0, hNone, []), some (.aload_n 0, 1, 0, 0, 0, hNone, []), some (.iload_n 3, 1, 0, 0, 0, hNone, []), some (.iconst 3, 1, 0, 0, 3, hNone, []), some (.iadd, 1, 0, 0, 0, hNone, []), some (.iaload, 1, 0, 0, 0, hNone, []), some (.invokevirtual 55, 3, 8, 3, 0, hX8_share, [824, 65, 825, 826]), none, none, some (.if_icmp .eq 401, 3, 851, 0, 0, hNone, []), none, none, some (.iconst 0, 1, 0, 0, 0, hNone, []), some (.ireturn, 1, 0, 0, 0, hNone, []), some (.aload_n 1, 1, 0, 0, 0, hNone, []), some (.aload_n 0, 1, 0, 0, 0, hNone, []), some (.iload_n 3, 1, 0, 0, 0, hNone, []), some (.iconst 1, 1, 0, 0, 1, hNone, []), some (.iadd, 1, 0, 0, 0, hNone, []), some (.iaload, 1, 0, 0, 0, hNone, []), some (.aload_n 0, 1, 0, 0, 0, hNone, []), some (.iload_n 3, 1, 0, 0, 0, hNone, []), some (.iconst 2, 1, 0, 0, 2, hNone, []), some (.iadd, 1, 0, 0, 0, hNone, []), some (.iaload, 1, 0, 0, 0, hNone, []), some (.invokevirtual 56, 3, 7, 2, 0, hX7_exposed, [501, 57, 502, 503]), none, none, some (.aload_n 2, 1, 0, 0, 0, hNone, []), some (.aload_n 0, 1, 0, 0, 0, hNone, []), some (.iload_n 3, 1, 0, 0, 0, hNone, []), some (.iconst 1, 1, 0, 0, 1, hNone, []), some (.iadd, 1, 0, 0, 0, hNone, []), some (.iaload, 1, 0, 0, 0, hNone, []), some (.aload_n 0, 1, 0, 0, 0, hNone, []), some (.iload_n 3, 1, 0, 0, 0, hNone, []), some (.iconst 2, 1, 0, 0, 2, hNone, []), some (.iadd, 1, 0, 0, 0, hNone, []), some (.iaload, 1, 0, 0, 0, hNone, []), some (.invokevirtual 59, 3, 8, 2, 0, hX8_exposed, [828, 65, 829, 830]), none, none, some (.if_icmp .eq 368, 3, 851, 0, 0, hNone, []), none, none, some (.iconst 0, 1, 0, 0, 0, hNone, []), some (.ireturn, 1, 0, 0, 0, hNone, []), some (.aload_n 1, 1, 0, 0, 0, hNone, []), some (.aload_n 0, 1, 0, 0, 0, hNone, []), some (.iload_n 3, 1, 0, 0, 0, hNone, []), some (.iconst 1, 1, 0, 0, 1, hNone, []), some (.iadd, 1, 0, 0, 0, hNone, []), some (.iaload, 1, 0, 0, 0, hNone, []), some (.aload_n 0, 1, 0, 0, 0, hNone, []), some (.iload_n 3, 1, 0, 0, 0, hNone, []), some (.iconst 2, 1, 0, 0, 2, hNone, []), some (.iadd, 1, 0, 0, 0, hNone, []), some (.iaload, 1, 0, 0, 0, hNone, []), some (.invokevirtual 60, 3, 7, 2, 0, hX7_part, [509, 57, 510, 511]), none, none, some (.aload_n 2, 1, 0, 0, 0, hNone, []), some (.aload_n 0, 1, 0, 0, 0, hNone, []), some (.iload_n 3, 1, 0, 0, 0, hNone, []), some (.iconst 1, 1, 0, 0, 1, hNone, []), some (.iadd, 1, 0, 0, 0, hNone, []), some (.iaload, 1, 0, 0, 0, hNone, []), some (.aload_n 0, 1, 0, 0, 0, hNone, []), some (.iload_n 3, 1, 0, 0, 0, hNone, []), some (.iconst 2, 1, 0, 0, 2, hNone, []), some (.iadd, 1, 0, 0, 0, hNone, []), some (.iaload, 1, 0, 0, 0, hNone, []), some (.invokevirtual 63, 3, 8, 2, 0, hX8_part, [832, 65, 833, 834]), none, none, some (.if_icmp .eq 335, 3, 851, 0, 0, hNone, []), none, none, some (.iconst 0, 1, 0, 0, 0, hNone, []), some (.ireturn, 1, 0, 0, 0, hNone, []), some (.aload_n 1, 1, 0, 0, 0, hNone, []), some (.aload_n 0, 1, 0, 0, 0, hNone, []), some (.iload_n 3, 1, 0, 0, 0, hNone, []), some (.iconst 1, 1, 0, 0, 1, hNone, []), some (.iadd, 1, 0, 0, 0, hNone, []), some (.iaload, 1, 0, 0, 0, hNone, []), some (.aload_n 0, 1, 0, 0, 0, hNone, []), some (.iload_n 3, 1, 0, 0, 0, hNone, []), some (.iconst 2, 1, 0, 0, 2, hNone, []), some (.iadd, 1, 0, 0, 0, hNone, []), some (.iaload, 1, 0, 0, 0, hNone, []), some (.invokevirtual 64, 3, 7, 2, 0, hX7_slack, [545, 57, 546, 547]), none, none, some (.aload_n 2, 1, 0, 0, 0, hNone, []), some (.aload_n 0, 1, 0, 0, 0, hNone, []), some (.iload_n 3, 1, 0, 0, 0, hNone, []), some (.iconst 1, 1, 0, 0, 1, hNone, []), some (.iadd, 1, 0, 0, 0, hNone, []), some (.iaload, 1, 0, 0, 0, hNone, []), some (.aload_n 0, 1, 0, 0, 0, hNone, []), some (.iload_n 3, 1, 0, 0, 0, hNone, []), some (.iconst 2, 1, 0, 0, 2, hNone, []), some (.iadd, 1, 0, 0, 0, hNone, []), some (.iaload, 1, 0, 0, 0, hNone, []), some (.invokevirtual 67, 3, 8, 2, 0, hX8_slack, [851, 65, 852, 853]), none, none, some (.if_icmp .eq 302, 3, 851, 0, 0, hNone, []), none, none, some (.iconst 0, 1, 0, 0, 0, hNone, []), some (.ireturn, 1, 0, 0, 0, hNone, []), some (.aload_n 1, 1, 0, 0, 0, hNone, []), some (.aload_n 0, 1, 0, 0, 0, hNone, []), some (.iload_n 3, 1, 0, 0, 0, hNone, []), some (.iconst 1, 1, 0, 0, 1, hNone, []), some (.iadd, 1, 0, 0, 0, hNone, []), some (.iaload, 1, 0, 0, 0, hNone, []), some (.invokevirtual 68, 3, 7, 1, 0, hX7_gone, [549, 57, 550, 551]), none, none, some (.aload_n 2, 1, 0, 0, 0, hNone, []), some (.aload_n 0, 1, 0, 0, 0, hNone, []), some (.iload_n 3, 1, 0, 0, 0, hNone, []), some (.iconst 1, 1, 0, 0, 1, hNone, []), some (.iadd, 1, 0, 0, 0, hNone, []), some (.iaload, 1, 0, 0, 0, hNone, []), some (.invokevirtual 71, 3, 8, 1, 0, hX8_gone, [855, 65, 856, 857]), none, none, some (.if_icmp .eq 279, 3, 851, 0, 0, hNone, []), none, none, some (.iconst 0, 1, 0, 0, 0, hNone, []), some (.ireturn, 1, 0, 0, 0, hNone, []), some (.aload_n 1, 1, 0, 0, 0, hNone, []), some (.aload_n 0, 1, 0, 0, 0, hNone, []), some (.iload_n 3, 1, 0, 0, 0, hNone, []), some (.iconst 1, 1, 0, 0, 1, hNone, []), some (.iadd, 1, 0, 0, 0, hNone, []), some (.iaload, 1, 0, 0, 0, hNone, []), some (.aload_n 0, 1, 0, 0, 0, hNone, []), some (.iload_n 3, 1, 0, 0, 0, hNone, []), some (.iconst 2, 1, 0, 0, 2, hNone, []), some (.iadd, 1, 0, 0, 0, hNone, []), some (.iaload, 1, 0, 0, 0, hNone, []), some (.aload_n 0, 1, 0, 0, 0, hNone, []), some (.iload_n 3, 1, 0, 0, 0, hNone, []), some (.iconst 3, 1, 0, 0, 3, hNone, []), some (.iadd, 1, 0, 0, 0, hNone, []), some (.iaload, 1, 0, 0, 0, hNone, []), some (.invokevirtual 72, 3, 7, 3, 0, hX7_town, [553, 57, 554, 555]), none, none, some (.aload_n 2, 1, 0, 0, 0, hNone, []), some (.aload_n 0, 1, 0, 0, 0, hNone, []), some (.iload_n 3, 1, 0, 0, 0, hNone, []), some (.iconst 1, 1, 0, 0, 1, hNone, []), some (.iadd, 1, 0, 0, 0, hNone, []), some (.iaload, 1, 0, 0, 0, hNone, []), some (.aload_n 0, 1, 0, 0, 0, hNone, []), some (.iload_n 3, 1, 0, 0, 0, hNone, []), some (.iconst 2, 1, 0, 0, 2, hNone, []), some (.iadd, 1, 0, 0, 0, hNone, []), some (.iaload, 1, 0, 0, 0, hNone, []), some (.aload_n 0, 1, 0, 0, 0, hNone, []), some (.iload_n 3, 1, 0, 0, 0, hNone, []), some (.iconst 3, 1, 0, 0, 3, hNone, []), some (.iadd, 1, 0, 0, 0, hNone, []), some (.iaload, 1, 0, 0, 0, hNone, []), some (.invokevirtual 75, 3, 8, 3, 0, hX8_town, [859, 65, 860, 861]), none, none, some (.if_icmp .eq 236, 3, 851, 0, 0, hNone, []), none, none, some (.iconst 0, 1, 0, 0, 0, hNone, []), some (.ireturn, 1, 0, 0, 0, hNone, []), some (.aload_n 1, 1, 0, 0, 0, hNone, []), some (.aload_n 0, 1, 0, 0, 0, hNone, []), some (.iload_n 3, 1, 0, 0, 0, hNone, []), some (.iconst 1, 1, 0, 0, 1, hNone, []), some (.iadd, 1, 0, 0, 0, hNone, []), some (.iaload, 1, 0, 0, 0, hNone, []), some (.aload_n 0, 1, 0, 0, 0, hNone, []), some (.iload_n 3, 1, 0, 0, 0, hNone, []), some (.iconst 2, 1, 0, 0, 2, hNone, []), some (.iadd, 1, 0, 0, 0, hNone, []), some (.iaload, 1, 0, 0, 0, hNone, []), some (.aload_n 0, 1, 0, 0, 0, hNone, []), some (.iload_n 3, 1, 0, 0, 0, hNone, []), some (.iconst 3, 1, 0, 0, 3, hNone, []), some (.iadd, 1, 0, 0, 0, hNone, []), some (.iaload, 1, 0, 0, 0, hNone, []), some (.invokevirtual 76, 3, 7, 3, 0, hX7_way, [562, 57, 563, 564]), none, none, some (.aload_n 2, 1, 0, 0, 0, hNone, []), some (.aload_n 0, 1, 0, 0, 0, hNone, []), some (.iload_n 3, 1, 0, 0, 0, hNone, []), some (.iconst 1, 1, 0, 0, 1, hNone, []), some (.iadd, 1, 0, 0, 0, hNone, []), some (.iaload, 1, 0, 0, 0, hNone, []), some (.aload_n 0, 1, 0, 0, 0, hNone, []), some (.iload_n 3, 1, 0, 0, 0, hNone, []), some (.iconst 2, 1, 0, 0, 2, hNone, []), some (.iadd, 1, 0, 0, 0, hNone, []), some (.iaload, 1, 0, 0, 0, hNone, []), some (.aload_n 0, 1, 0, 0, 0, hNone, []), some (.iload_n 3, 1, 0, 0, 0, hNone, []), some (.iconst 3, 1, 0, 0, 3, hNone, []), some (.iadd, 1, 0, 0, 0, hNone, []), some (.iaload, 1, 0, 0, 0, hNone, []), some (.invokevirtual 79, 3, 8, 3, 0, hX8_way, [863, 65, 864, 865]), none, none, some (.if_icmp .eq 193, 3, 851, 0, 0, hNone, []), none, none, some (.iconst 0, 1, 0, 0, 0, hNone, []), some (.ireturn, 1, 0, 0, 0, hNone, []), some (.aload_n 1, 1, 0, 0, 0, hNone, []), some (.aload_n 0, 1, 0, 0, 0, hNone, []), some (.iload_n 3, 1, 0, 0, 0, hNone, []), some (.iconst 1, 1, 0, 0, 1, hNone, []), some (.iadd, 1, 0, 0, 0, hNone, []), some (.iaload, 1, 0, 0, 0, hNone, []), some (.aload_n 0, 1, 0, 0, 0, hNone, []), some (.iload_n 3, 1, 0, 0, 0, hNone, []), some (.iconst 2, 1, 0, 0, 2, hNone, []), some (.iadd, 1, 0, 0, 0, hNone, []), some (.iaload, 1, 0, 0, 0, hNone, []), some (.invokevirtual 80, 3, 7, 2, 0, hX7_hours, [583, 57, 584, 585]), none, none, some (.aload_n 2, 1, 0, 0, 0, hNone, []), some (.aload_n 0, 1, 0, 0, 0, hNone, []), some (.iload_n 3, 1, 0, 0, 0, hNone, []), some (.iconst 1, 1, 0, 0, 1, hNone, []), some (.iadd, 1, 0, 0, 0, hNone, []), some (.iaload, 1, 0, 0, 0, hNone, []), some (.aload_n 0, 1, 0, 0, 0, hNone, []), some (.iload_n 3, 1, 0, 0, 0, hNone, []), some (.iconst 2, 1, 0, 0, 2, hNone, []), some (.iadd, 1, 0, 0, 0, hNone, []), some (.iaload, 1, 0, 0, 0, hNone, []), some (.invokevirtual 83, 3, 8, 2, 0, hX8_hours, [871, 65, 872, 873]), none, none, some (.if_icmp .eq 160, 3, 851, 0, 0, hNone, []), none, none, some (.iconst 0, 1, 0, 0, 0, hNone, []), some (.ireturn, 1, 0, 0, 0, hNone, []), some (.aload_n 1, 1, 0, 0, 0, hNone, []), some (.invokevirtual 84, 3, 7, 0, 0, hX7_route, [592, 57, 593, 594]), none, none, some (.aload_n 2, 1, 0, 0, 0, hNone, []), some (.invokevirtual 87, 3, 8, 0, 0, hX8_route, [880, 65, 881, 882]), none, none, some (.if_icmp .eq 147, 3, 851, 0, 0, hNone, []), none, none, some (.iconst 0, 1, 0, 0, 0, hNone, []), some (.ireturn, 1, 0, 0, 0, hNone, []), some (.aload_n 1, 1, 0, 0, 0, hNone, []), some (.aload_n 0, 1, 0, 0, 0, hNone, []), some (.iload_n 3, 1, 0, 0, 0, hNone, []), some (.iconst 1, 1, 0, 0, 1, hNone, []), some (.iadd, 1, 0, 0, 0, hNone, []), some (.iaload, 1, 0, 0, 0, hNone, []), some (.aload_n 0, 1, 0, 0, 0, hNone, []), some (.iload_n 3, 1, 0, 0, 0, hNone, []), some (.iconst 2, 1, 0, 0, 2, hNone, []), some (.iadd, 1, 0, 0, 0, hNone, []), some (.iaload, 1, 0, 0, 0, hNone, []), some (.invokevirtual 88, 3, 7, 2, 0, hX7_routeAt, [630, 57, 631, 632]), none, none, some (.aload_n 2, 1, 0, 0, 0, hNone, []), some (.aload_n 0, 1, 0, 0, 0, hNone, []), some (.iload_n 3, 1, 0, 0, 0, hNone, []), some (.iconst 1, 1, 0, 0, 1, hNone, []), some (.iadd, 1, 0, 0, 0, hNone, []), some (.iaload, 1, 0, 0, 0, hNone, []), some (.aload_n 0, 1, 0, 0, 0, hNone, []), some (.iload_n 3, 1, 0, 0, 0, hNone, []), some (.iconst 2, 1, 0, 0, 2, hNone, []), some (.iadd, 1, 0, 0, 0, hNone, []), some (.iaload, 1, 0, 0, 0, hNone, []), some (.invokevirtual 91, 3, 8, 2, 0, hX8_routeAt, [892, 65, 893, 894]), none, none, some (.if_icmp .eq 114, 3, 851, 0, 0, hNone, []), none, none, some (.iconst 0, 1, 0, 0, 0, hNone, []), some (.ireturn, 1, 0, 0, 0, hNone, []), some (.aload_n 1, 1, 0, 0, 0, hNone, []), some (.aload_n 0, 1, 0, 0, 0, hNone, []), some (.iload_n 3, 1, 0, 0, 0, hNone, []), some (.iconst 1, 1, 0, 0, 1, hNone, []), some (.iadd, 1, 0, 0, 0, hNone, []), some (.iaload, 1, 0, 0, 0, hNone, []), some (.aload_n 0, 1, 0, 0, 0, hNone, []), some (.iload_n 3, 1, 0, 0, 0, hNone, []), some (.iconst 2, 1, 0, 0, 2, hNone, []), some (.iadd, 1, 0, 0, 0, hNone, []), some (.iaload, 1, 0, 0, 0, hNone, []), some (.aload_n 0, 1, 0, 0, 0, hNone, []), some (.iload_n 3, 1, 0, 0, 0, hNone, []), some (.iconst 3, 1, 0, 0, 3, hNone, []), some (.iadd, 1, 0, 0, 0, hNone, []), some (.iaload, 1, 0, 0, 0, hNone, []), some (.invokevirtual 92, 3, 7, 3, 0, hX7_took, [634, 57, 635, 636]), none, none, some (.aload_n 2, 1, 0, 0, 0, hNone, []), some (.aload_n 0, 1, 0, 0, 0, hNone, []), some (.iload_n 3, 1, 0, 0, 0, hNone, []), some (.iconst 1, 1, 0, 0, 1, hNone, []), some (.iadd, 1, 0, 0, 0, hNone, []), some (.iaload, 1, 0, 0, 0, hNone, []), some (.aload_n 0, 1, 0, 0, 0, hNone, []), some (.iload_n 3, 1, 0, 0, 0, hNone, []), some (.iconst 2, 1, 0, 0, 2, hNone, []), some (.iadd, 1, 0, 0, 0, hNone, []), some (.iaload, 1, 0, 0, 0, hNone, []), some (.aload_n 0, 1, 0, 0, 0, hNone, []), some (.iload_n 3, 1, 0, 0, 0, hNone, []), some (.iconst 3, 1, 0, 0, 3, hNone, []), some (.iadd, 1, 0, 0, 0, hNone, []), some (.iaload, 1, 0, 0, 0, hNone, []), some (.invokevirtual 95, 3, 8, 3, 0, hX8_took, [896, 65, 897, 898]), none, none, some (.if_icmp .eq 71, 3, 851, 0, 0, hNone, []), none, none, some (.iconst 0, 1, 0, 0, 0, hNone, []), some (.ireturn, 1, 0, 0, 0, hNone, []), some (.aload_n 1, 1, 0, 0, 0, hNone, []), some (.aload_n 0, 1, 0, 0, 0, hNone, []), some (.iload_n 3, 1, 0, 0, 0, hNone, []), some (.iconst 1, 1, 0, 0, 1, hNone, []), some (.iadd, 1, 0, 0, 0, hNone, []), some (.iaload, 1, 0, 0, 0, hNone, []), some (.aload_n 0, 1, 0, 0, 0, hNone, []), some (.iload_n 3, 1, 0, 0, 0, hNone, []), some (.iconst 2, 1, 0, 0, 2, hNone, []), some (.iadd, 1, 0, 0, 0, hNone, []), some (.iaload, 1, 0, 0, 0, hNone, []), some (.aload_n 0, 1, 0, 0, 0, hNone, []), some (.iload_n 3, 1, 0, 0, 0, hNone, []), some (.iconst 3, 1, 0, 0, 3, hNone, []), some (.iadd, 1, 0, 0, 0, hNone, []), some (.iaload, 1, 0, 0, 0, hNone, []), some (.invokevirtual 96, 3, 7, 3, 0, hX7_foretold, [644, 57, 645, 646]), none, none, some (.aload_n 2, 1, 0, 0, 0, hNone, []), some (.aload_n 0, 1, 0, 0, 0, hNone, []), some (.iload_n 3, 1, 0, 0, 0, hNone, []), some (.iconst 1, 1, 0, 0, 1, hNone, []), some (.iadd, 1, 0, 0, 0, hNone, []), some (.iaload, 1, 0, 0, 0, hNone, []), some (.aload_n 0, 1, 0, 0, 0, hNone, []), some (.iload_n 3, 1, 0, 0, 0, hNone, []), some (.iconst 2, 1, 0, 0, 2, hNone, []), some (.iadd, 1, 0, 0, 0, hNone, []), some (.iaload, 1, 0, 0, 0, hNone, []), some (.aload_n 0, 1, 0, 0, 0, hNone, []), some (.iload_n 3, 1, 0, 0, 0, hNone, []), some (.iconst 3, 1, 0, 0, 3, hNone, []), some (.iadd, 1, 0, 0, 0, hNone, []), some (.iaload, 1, 0, 0, 0, hNone, []), some (.invokevirtual 99, 3, 8, 3, 0, hX8_foretold, [900, 65, 901, 902]), none, none, some (.if_icmp .eq 28, 3, 851, 0, 0, hNone, []), none, none, some (.iconst 0, 1, 0, 0, 0, hNone, []), some (.ireturn, 1, 0, 0, 0, hNone, []), some (.aload_n 1, 1, 0, 0, 0, hNone, []), some (.aload_n 0, 1, 0, 0, 0, hNone, []), some (.iload_n 3, 1, 0, 0, 0, hNone, []), some (.iconst 1, 1, 0, 0, 1, hNone, []), some (.iadd, 1, 0, 0, 0, hNone, []), some (.iaload, 1, 0, 0, 0, hNone, []), some (.invokevirtual 100, 3, 7, 1, 0, hX7_count, [663, 57, 664, 665]), none, none, some (.aload_n 2, 1, 0, 0, 0, hNone, []), some (.aload_n 0, 1, 0, 0, 0, hNone, []), some (.iload_n 3, 1, 0, 0, 0, hNone, []), some (.iconst 1, 1, 0, 0, 1, hNone, []), some (.iadd, 1, 0, 0, 0, hNone, []), some (.iaload, 1, 0, 0, 0, hNone, []), some (.invokevirtual 103, 3, 8, 1, 0, hX8_count, [904, 65, 905, 906]), none, none, some (.if_icmp .eq 5, 3, 851, 0, 0, hNone, []), none, none, some (.iconst 0, 1, 0, 0, 0, hNone, []), some (.ireturn, 1, 0, 0, 0, hNone, []), some (.iinc 3 4, 3, 0, 0, 4, hNone, []), none, none, some (.goto (-836), 3, 18, 0, 0, hNone, []), none, none, some (.iconst 1, 1, 0, 0, 1, hNone, []), some (.ireturn, 1, 0, 0, 0, hNone, [])]
set_option maxRecDepth 100000 in
theorem oL_c0 : okRange tL_law 0 36 = true := by decide +kernel
set_option maxRecDepth 100000 in
theorem oL_c1 : okRange tL_law 36 36 = true := by decide +kernel
set_option maxRecDepth 100000 in
theorem oL_c2 : okRange tL_law 72 36 = true := by decide +kernel
set_option maxRecDepth 100000 in
theorem oL_c3 : okRange tL_law 108 36 = true := by decide +kernel
set_option maxRecDepth 100000 in
theorem oL_c4 : okRange tL_law 144 36 = true := by decide +kernel
set_option maxRecDepth 100000 in
theorem oL_c5 : okRange tL_law 180 36 = true := by decide +kernel
set_option maxRecDepth 100000 in
theorem oL_c6 : okRange tL_law 216 36 = true := by decide +kernel
set_option maxRecDepth 100000 in
theorem oL_c7 : okRange tL_law 252 36 = true := by decide +kernel
set_option maxRecDepth 100000 in
theorem oL_c8 : okRange tL_law 288 36 = true := by decide +kernel
set_option maxRecDepth 100000 in
theorem oL_c9 : okRange tL_law 324 36 = true := by decide +kernel
set_option maxRecDepth 100000 in
theorem oL_c10 : okRange tL_law 360 36 = true := by decide +kernel
set_option maxRecDepth 100000 in
theorem oL_c11 : okRange tL_law 396 36 = true := by decide +kernel
set_option maxRecDepth 100000 in
theorem oL_c12 : okRange tL_law 432 36 = true := by decide +kernel
set_option maxRecDepth 100000 in
theorem oL_c13 : okRange tL_law 468 36 = true := by decide +kernel
set_option maxRecDepth 100000 in
theorem oL_c14 : okRange tL_law 504 36 = true := by decide +kernel
set_option maxRecDepth 100000 in
theorem oL_c15 : okRange tL_law 540 36 = true := by decide +kernel
set_option maxRecDepth 100000 in
theorem oL_c16 : okRange tL_law 576 36 = true := by decide +kernel
set_option maxRecDepth 100000 in
theorem oL_c17 : okRange tL_law 612 36 = true := by decide +kernel
set_option maxRecDepth 100000 in
theorem oL_c18 : okRange tL_law 648 36 = true := by decide +kernel
set_option maxRecDepth 100000 in
theorem oL_c19 : okRange tL_law 684 36 = true := by decide +kernel
set_option maxRecDepth 100000 in
theorem oL_c20 : okRange tL_law 720 36 = true := by decide +kernel
set_option maxRecDepth 100000 in
theorem oL_c21 : okRange tL_law 756 36 = true := by decide +kernel
set_option maxRecDepth 100000 in
theorem oL_c22 : okRange tL_law 792 36 = true := by decide +kernel
set_option maxRecDepth 100000 in
theorem oL_c23 : okRange tL_law 828 36 = true := by decide +kernel
set_option maxRecDepth 100000 in
theorem tL_len : tL_law.length = 859 := by decide +kernel
theorem oL_law : tbOkL tL_law := by
  intro pc e he
  have hl : pc < 859 := by
    have h9 := (List.getElem?_eq_some_iff.mp he).1
    rw [tL_len] at h9
    exact h9
  by_cases h0 : pc < 36
  · exact okRange_e oL_c0 (by omega) (by omega) he
  by_cases h1 : pc < 72
  · exact okRange_e oL_c1 (by omega) (by omega) he
  by_cases h2 : pc < 108
  · exact okRange_e oL_c2 (by omega) (by omega) he
  by_cases h3 : pc < 144
  · exact okRange_e oL_c3 (by omega) (by omega) he
  by_cases h4 : pc < 180
  · exact okRange_e oL_c4 (by omega) (by omega) he
  by_cases h5 : pc < 216
  · exact okRange_e oL_c5 (by omega) (by omega) he
  by_cases h6 : pc < 252
  · exact okRange_e oL_c6 (by omega) (by omega) he
  by_cases h7 : pc < 288
  · exact okRange_e oL_c7 (by omega) (by omega) he
  by_cases h8 : pc < 324
  · exact okRange_e oL_c8 (by omega) (by omega) he
  by_cases h9 : pc < 360
  · exact okRange_e oL_c9 (by omega) (by omega) he
  by_cases h10 : pc < 396
  · exact okRange_e oL_c10 (by omega) (by omega) he
  by_cases h11 : pc < 432
  · exact okRange_e oL_c11 (by omega) (by omega) he
  by_cases h12 : pc < 468
  · exact okRange_e oL_c12 (by omega) (by omega) he
  by_cases h13 : pc < 504
  · exact okRange_e oL_c13 (by omega) (by omega) he
  by_cases h14 : pc < 540
  · exact okRange_e oL_c14 (by omega) (by omega) he
  by_cases h15 : pc < 576
  · exact okRange_e oL_c15 (by omega) (by omega) he
  by_cases h16 : pc < 612
  · exact okRange_e oL_c16 (by omega) (by omega) he
  by_cases h17 : pc < 648
  · exact okRange_e oL_c17 (by omega) (by omega) he
  by_cases h18 : pc < 684
  · exact okRange_e oL_c18 (by omega) (by omega) he
  by_cases h19 : pc < 720
  · exact okRange_e oL_c19 (by omega) (by omega) he
  by_cases h20 : pc < 756
  · exact okRange_e oL_c20 (by omega) (by omega) he
  by_cases h21 : pc < 792
  · exact okRange_e oL_c21 (by omega) (by omega) he
  by_cases h22 : pc < 828
  · exact okRange_e oL_c22 (by omega) (by omega) he
  by_cases h23 : pc < 864
  · exact okRange_e oL_c23 (by omega) (by omega) he
  omega
end
section
set_option maxRecDepth 100000 in
theorem vL_18 {p : Program} {l : Launch} {ev : Env} {S : State} {m : MethodId} {below : List Frame} {meth : Method} {c : Code} {b n : Nat} {xs : Nat → Int32} {G : GG} {a3 : Int32} {s : Mem} (C : LC p S m meth c b n xs G) (h :
    ((((Int32.ofNat n) - (4 : Int32)) < a3 →
      (1 : Int32) = 1) ∧
    (¬ ((Int32.ofNat n) - (4 : Int32)) < a3 →
      (vp_in a3 n ∧
      (((((xs a3.toNatClampNeg) &&& (31 : Int32)).toInt < 0 ∨ 20 < ((xs a3.toNatClampNeg) &&& (31 : Int32)).toInt) →
        AL p l ev S m below meth c b G 851 [some (.inr 1000), some (.inr 0), some (.inr 49), some (.inl a3)] [] s) ∧
      ((((xs a3.toNatClampNeg) &&& (31 : Int32)).toInt = 0 →
        AL p l ev S m below meth c b G 132 [some (.inr 1000), some (.inr 0), some (.inr 49), some (.inl a3)] [] s) ∧
      ((((xs a3.toNatClampNeg) &&& (31 : Int32)).toInt = 0 + 1 →
        AL p l ev S m below meth c b G 175 [some (.inr 1000), some (.inr 0), some (.inr 49), some (.inl a3)] [] s) ∧
      ((((xs a3.toNatClampNeg) &&& (31 : Int32)).toInt = 0 + 1 + 1 →
        AL p l ev S m below meth c b G 208 [some (.inr 1000), some (.inr 0), some (.inr 49), some (.inl a3)] [] s) ∧
      ((((xs a3.toNatClampNeg) &&& (31 : Int32)).toInt = 0 + 1 + 1 + 1 →
        AL p l ev S m below meth c b G 267 [some (.inr 1000), some (.inr 0), some (.inr 49), some (.inl a3)] [] s) ∧
      ((((xs a3.toNatClampNeg) &&& (31 : Int32)).toInt = 0 + 1 + 1 + 1 + 1 →
        AL p l ev S m below meth c b G 310 [some (.inr 1000), some (.inr 0), some (.inr 49), some (.inl a3)] [] s) ∧
      ((((xs a3.toNatClampNeg) &&& (31 : Int32)).toInt = 0 + 1 + 1 + 1 + 1 + 1 →
        AL p l ev S m below meth c b G 343 [some (.inr 1000), some (.inr 0), some (.inr 49), some (.inl a3)] [] s) ∧
      ((((xs a3.toNatClampNeg) &&& (31 : Int32)).toInt = 0 + 1 + 1 + 1 + 1 + 1 + 1 →
        AL p l ev S m below meth c b G 356 [some (.inr 1000), some (.inr 0), some (.inr 49), some (.inl a3)] [] s) ∧
      ((((xs a3.toNatClampNeg) &&& (31 : Int32)).toInt = 0 + 1 + 1 + 1 + 1 + 1 + 1 + 1 →
        AL p l ev S m below meth c b G 379 [some (.inr 1000), some (.inr 0), some (.inr 49), some (.inl a3)] [] s) ∧
      ((((xs a3.toNatClampNeg) &&& (31 : Int32)).toInt = 0 + 1 + 1 + 1 + 1 + 1 + 1 + 1 + 1 →
        AL p l ev S m below meth c b G 412 [some (.inr 1000), some (.inr 0), some (.inr 49), some (.inl a3)] [] s) ∧
      ((((xs a3.toNatClampNeg) &&& (31 : Int32)).toInt = 0 + 1 + 1 + 1 + 1 + 1 + 1 + 1 + 1 + 1 →
        AL p l ev S m below meth c b G 455 [some (.inr 1000), some (.inr 0), some (.inr 49), some (.inl a3)] [] s) ∧
      ((((xs a3.toNatClampNeg) &&& (31 : Int32)).toInt = 0 + 1 + 1 + 1 + 1 + 1 + 1 + 1 + 1 + 1 + 1 →
        AL p l ev S m below meth c b G 488 [some (.inr 1000), some (.inr 0), some (.inr 49), some (.inl a3)] [] s) ∧
      ((((xs a3.toNatClampNeg) &&& (31 : Int32)).toInt = 0 + 1 + 1 + 1 + 1 + 1 + 1 + 1 + 1 + 1 + 1 + 1 →
        AL p l ev S m below meth c b G 521 [some (.inr 1000), some (.inr 0), some (.inr 49), some (.inl a3)] [] s) ∧
      ((((xs a3.toNatClampNeg) &&& (31 : Int32)).toInt = 0 + 1 + 1 + 1 + 1 + 1 + 1 + 1 + 1 + 1 + 1 + 1 + 1 →
        AL p l ev S m below meth c b G 554 [some (.inr 1000), some (.inr 0), some (.inr 49), some (.inl a3)] [] s) ∧
      ((((xs a3.toNatClampNeg) &&& (31 : Int32)).toInt = 0 + 1 + 1 + 1 + 1 + 1 + 1 + 1 + 1 + 1 + 1 + 1 + 1 + 1 →
        AL p l ev S m below meth c b G 577 [some (.inr 1000), some (.inr 0), some (.inr 49), some (.inl a3)] [] s) ∧
      ((((xs a3.toNatClampNeg) &&& (31 : Int32)).toInt = 0 + 1 + 1 + 1 + 1 + 1 + 1 + 1 + 1 + 1 + 1 + 1 + 1 + 1 + 1 →
        AL p l ev S m below meth c b G 620 [some (.inr 1000), some (.inr 0), some (.inr 49), some (.inl a3)] [] s) ∧
      ((((xs a3.toNatClampNeg) &&& (31 : Int32)).toInt = 0 + 1 + 1 + 1 + 1 + 1 + 1 + 1 + 1 + 1 + 1 + 1 + 1 + 1 + 1 + 1 →
        AL p l ev S m below meth c b G 663 [some (.inr 1000), some (.inr 0), some (.inr 49), some (.inl a3)] [] s) ∧
      ((((xs a3.toNatClampNeg) &&& (31 : Int32)).toInt = 0 + 1 + 1 + 1 + 1 + 1 + 1 + 1 + 1 + 1 + 1 + 1 + 1 + 1 + 1 + 1 + 1 →
        AL p l ev S m below meth c b G 696 [some (.inr 1000), some (.inr 0), some (.inr 49), some (.inl a3)] [] s) ∧
      ((((xs a3.toNatClampNeg) &&& (31 : Int32)).toInt = 0 + 1 + 1 + 1 + 1 + 1 + 1 + 1 + 1 + 1 + 1 + 1 + 1 + 1 + 1 + 1 + 1 + 1 →
        AL p l ev S m below meth c b G 709 [some (.inr 1000), some (.inr 0), some (.inr 49), some (.inl a3)] [] s) ∧
      ((((xs a3.toNatClampNeg) &&& (31 : Int32)).toInt = 0 + 1 + 1 + 1 + 1 + 1 + 1 + 1 + 1 + 1 + 1 + 1 + 1 + 1 + 1 + 1 + 1 + 1 + 1 →
        AL p l ev S m below meth c b G 742 [some (.inr 1000), some (.inr 0), some (.inr 49), some (.inl a3)] [] s) ∧
      ((((xs a3.toNatClampNeg) &&& (31 : Int32)).toInt = 0 + 1 + 1 + 1 + 1 + 1 + 1 + 1 + 1 + 1 + 1 + 1 + 1 + 1 + 1 + 1 + 1 + 1 + 1 + 1 →
        AL p l ev S m below meth c b G 785 [some (.inr 1000), some (.inr 0), some (.inr 49), some (.inl a3)] [] s) ∧
      ((((xs a3.toNatClampNeg) &&& (31 : Int32)).toInt = 0 + 1 + 1 + 1 + 1 + 1 + 1 + 1 + 1 + 1 + 1 + 1 + 1 + 1 + 1 + 1 + 1 + 1 + 1 + 1 + 1 →
        AL p l ev S m below meth c b G 828 [some (.inr 1000), some (.inr 0), some (.inr 49), some (.inl a3)] [] s) ∧
      True)))))))))))))))))))))))))) :
    AL p l ev S m below meth c b G 18 [some (.inr 1000), some (.inr 0), some (.inr 49), some (.inl a3)] [] s := wpsL_ok (cut := [18, 132, 175, 208, 267, 310, 343, 356, 379, 412, 455, 488, 521, 554, 577, 620, 663, 696, 709, 742, 785, 828, 851]) C oL_law 13 18 _ _ _ h
set_option maxRecDepth 100000 in
theorem vL_132 {p : Program} {l : Launch} {ev : Env} {S : State} {m : MethodId} {below : List Frame} {meth : Method} {c : Code} {b n : Nat} {xs : Nat → Int32} {G : GG} {a3 : Int32} {s : Mem} (C : LC p S m meth c b n xs G) (h :
    (vp_in (a3 + (1 : Int32)) n ∧
    (vp_in (a3 + (2 : Int32)) n ∧
    (vp_in (a3 + (3 : Int32)) n ∧
    (∃ (d' : Nat) (Q1 : Int32 → Mem → Prop), d' < 1300 ∧ Spec l G d' hX7_act [.inr 0, .inl (xs (a3 + (1 : Int32)).toNatClampNeg), .inl (xs (a3 + (2 : Int32)).toNatClampNeg), .inl (xs (a3 + (3 : Int32)).toNatClampNeg)] s Q1 ∧ ∀ (r1 : Int32) (t1 : Mem), Q1 r1 t1 →
    (vp_in (a3 + (1 : Int32)) n ∧
    (vp_in (a3 + (2 : Int32)) n ∧
    (vp_in (a3 + (3 : Int32)) n ∧
    (∃ (d' : Nat) (Q2 : Int32 → Mem → Prop), d' < 1300 ∧ Spec l G d' hX8_act [.inr 49, .inl (xs (a3 + (1 : Int32)).toNatClampNeg), .inl (xs (a3 + (2 : Int32)).toNatClampNeg), .inl (xs (a3 + (3 : Int32)).toNatClampNeg)] t1 Q2 ∧ ∀ (r2 : Int32) (t2 : Mem), Q2 r2 t2 →
    ((r1 = r2 →
      AL p l ev S m below meth c b G 851 [some (.inr 1000), some (.inr 0), some (.inr 49), some (.inl a3)] [] t2) ∧
    (¬ r1 = r2 →
      (0 : Int32) = 1))))))))))) :
    AL p l ev S m below meth c b G 132 [some (.inr 1000), some (.inr 0), some (.inr 49), some (.inl a3)] [] s := wpsL_ok (cut := [18, 132, 175, 208, 267, 310, 343, 356, 379, 412, 455, 488, 521, 554, 577, 620, 663, 696, 709, 742, 785, 828, 851]) C oL_law 38 132 _ _ _ h
set_option maxRecDepth 100000 in
theorem vL_175 {p : Program} {l : Launch} {ev : Env} {S : State} {m : MethodId} {below : List Frame} {meth : Method} {c : Code} {b n : Nat} {xs : Nat → Int32} {G : GG} {a3 : Int32} {s : Mem} (C : LC p S m meth c b n xs G) (h :
    (vp_in (a3 + (1 : Int32)) n ∧
    (vp_in (a3 + (2 : Int32)) n ∧
    (∃ (d' : Nat) (Q1 : Int32 → Mem → Prop), d' < 1300 ∧ Spec l G d' hX7_rests [.inr 0, .inl (xs (a3 + (1 : Int32)).toNatClampNeg), .inl (xs (a3 + (2 : Int32)).toNatClampNeg)] s Q1 ∧ ∀ (r1 : Int32) (t1 : Mem), Q1 r1 t1 →
    (vp_in (a3 + (1 : Int32)) n ∧
    (vp_in (a3 + (2 : Int32)) n ∧
    (∃ (d' : Nat) (Q2 : Int32 → Mem → Prop), d' < 1300 ∧ Spec l G d' hX8_rests [.inr 49, .inl (xs (a3 + (1 : Int32)).toNatClampNeg), .inl (xs (a3 + (2 : Int32)).toNatClampNeg)] t1 Q2 ∧ ∀ (r2 : Int32) (t2 : Mem), Q2 r2 t2 →
    ((r1 = r2 →
      AL p l ev S m below meth c b G 851 [some (.inr 1000), some (.inr 0), some (.inr 49), some (.inl a3)] [] t2) ∧
    (¬ r1 = r2 →
      (0 : Int32) = 1))))))))) :
    AL p l ev S m below meth c b G 175 [some (.inr 1000), some (.inr 0), some (.inr 49), some (.inl a3)] [] s := wpsL_ok (cut := [18, 132, 175, 208, 267, 310, 343, 356, 379, 412, 455, 488, 521, 554, 577, 620, 663, 696, 709, 742, 785, 828, 851]) C oL_law 28 175 _ _ _ h
set_option maxRecDepth 100000 in
theorem vL_208 {p : Program} {l : Launch} {ev : Env} {S : State} {m : MethodId} {below : List Frame} {meth : Method} {c : Code} {b n : Nat} {xs : Nat → Int32} {G : GG} {a3 : Int32} {s : Mem} (C : LC p S m meth c b n xs G) (h :
    (vp_in (a3 + (1 : Int32)) n ∧
    (vp_in (a3 + (2 : Int32)) n ∧
    (vp_in (a3 + (3 : Int32)) n ∧
    (((xs (a3 + (3 : Int32)).toNatClampNeg) = 0 →
      (∃ (d' : Nat) (Q1 : Int32 → Mem → Prop), d' < 1300 ∧ Spec l G d' hX7_ban [.inr 0, .inl (xs (a3 + (1 : Int32)).toNatClampNeg), .inl (xs (a3 + (2 : Int32)).toNatClampNeg), .inl (0 : Int32)] s Q1 ∧ ∀ (r1 : Int32) (t1 : Mem), Q1 r1 t1 →
      (vp_in (a3 + (1 : Int32)) n ∧
      (vp_in (a3 + (2 : Int32)) n ∧
      (vp_in (a3 + (3 : Int32)) n ∧
      (((xs (a3 + (3 : Int32)).toNatClampNeg) = 0 →
        (∃ (d' : Nat) (Q2 : Int32 → Mem → Prop), d' < 1300 ∧ Spec l G d' hX8_ban [.inr 49, .inl (xs (a3 + (1 : Int32)).toNatClampNeg), .inl (xs (a3 + (2 : Int32)).toNatClampNeg), .inl (0 : Int32)] t1 Q2 ∧ ∀ (r2 : Int32) (t2 : Mem), Q2 r2 t2 →
        ((r1 = r2 →
          AL p l ev S m below meth c b G 851 [some (.inr 1000), some (.inr 0), some (.inr 49), some (.inl a3)] [] t2) ∧
        (¬ r1 = r2 →
          (0 : Int32) = 1)))) ∧
      (¬ (xs (a3 + (3 : Int32)).toNatClampNeg) = 0 →
        (∃ (d' : Nat) (Q3 : Int32 → Mem → Prop), d' < 1300 ∧ Spec l G d' hX8_ban [.inr 49, .inl (xs (a3 + (1 : Int32)).toNatClampNeg), .inl (xs (a3 + (2 : Int32)).toNatClampNeg), .inl (1 : Int32)] t1 Q3 ∧ ∀ (r3 : Int32) (t3 : Mem), Q3 r3 t3 →
        ((r1 = r3 →
          AL p l ev S m below meth c b G 851 [some (.inr 1000), some (.inr 0), some (.inr 49), some (.inl a3)] [] t3) ∧
        (¬ r1 = r3 →
          (0 : Int32) = 1)))))))))) ∧
    (¬ (xs (a3 + (3 : Int32)).toNatClampNeg) = 0 →
      (∃ (d' : Nat) (Q4 : Int32 → Mem → Prop), d' < 1300 ∧ Spec l G d' hX7_ban [.inr 0, .inl (xs (a3 + (1 : Int32)).toNatClampNeg), .inl (xs (a3 + (2 : Int32)).toNatClampNeg), .inl (1 : Int32)] s Q4 ∧ ∀ (r4 : Int32) (t4 : Mem), Q4 r4 t4 →
      (vp_in (a3 + (1 : Int32)) n ∧
      (vp_in (a3 + (2 : Int32)) n ∧
      (vp_in (a3 + (3 : Int32)) n ∧
      (((xs (a3 + (3 : Int32)).toNatClampNeg) = 0 →
        (∃ (d' : Nat) (Q5 : Int32 → Mem → Prop), d' < 1300 ∧ Spec l G d' hX8_ban [.inr 49, .inl (xs (a3 + (1 : Int32)).toNatClampNeg), .inl (xs (a3 + (2 : Int32)).toNatClampNeg), .inl (0 : Int32)] t4 Q5 ∧ ∀ (r5 : Int32) (t5 : Mem), Q5 r5 t5 →
        ((r4 = r5 →
          AL p l ev S m below meth c b G 851 [some (.inr 1000), some (.inr 0), some (.inr 49), some (.inl a3)] [] t5) ∧
        (¬ r4 = r5 →
          (0 : Int32) = 1)))) ∧
      (¬ (xs (a3 + (3 : Int32)).toNatClampNeg) = 0 →
        (∃ (d' : Nat) (Q6 : Int32 → Mem → Prop), d' < 1300 ∧ Spec l G d' hX8_ban [.inr 49, .inl (xs (a3 + (1 : Int32)).toNatClampNeg), .inl (xs (a3 + (2 : Int32)).toNatClampNeg), .inl (1 : Int32)] t4 Q6 ∧ ∀ (r6 : Int32) (t6 : Mem), Q6 r6 t6 →
        ((r4 = r6 →
          AL p l ev S m below meth c b G 851 [some (.inr 1000), some (.inr 0), some (.inr 49), some (.inl a3)] [] t6) ∧
        (¬ r4 = r6 →
          (0 : Int32) = 1))))))))))))))) :
    AL p l ev S m below meth c b G 208 [some (.inr 1000), some (.inr 0), some (.inr 49), some (.inl a3)] [] s := wpsL_ok (cut := [18, 132, 175, 208, 267, 310, 343, 356, 379, 412, 455, 488, 521, 554, 577, 620, 663, 696, 709, 742, 785, 828, 851]) C oL_law 44 208 _ _ _ h
set_option maxRecDepth 100000 in
theorem vL_267 {p : Program} {l : Launch} {ev : Env} {S : State} {m : MethodId} {below : List Frame} {meth : Method} {c : Code} {b n : Nat} {xs : Nat → Int32} {G : GG} {a3 : Int32} {s : Mem} (C : LC p S m meth c b n xs G) (h :
    (vp_in (a3 + (1 : Int32)) n ∧
    (vp_in (a3 + (2 : Int32)) n ∧
    (vp_in (a3 + (3 : Int32)) n ∧
    (∃ (d' : Nat) (Q1 : Int32 → Mem → Prop), d' < 1300 ∧ Spec l G d' hX7_judge [.inr 0, .inl (xs (a3 + (1 : Int32)).toNatClampNeg), .inl (xs (a3 + (2 : Int32)).toNatClampNeg), .inl (xs (a3 + (3 : Int32)).toNatClampNeg)] s Q1 ∧ ∀ (r1 : Int32) (t1 : Mem), Q1 r1 t1 →
    (vp_in (a3 + (1 : Int32)) n ∧
    (vp_in (a3 + (2 : Int32)) n ∧
    (vp_in (a3 + (3 : Int32)) n ∧
    (∃ (d' : Nat) (Q2 : Int32 → Mem → Prop), d' < 1300 ∧ Spec l G d' hX8_judge [.inr 49, .inl (xs (a3 + (1 : Int32)).toNatClampNeg), .inl (xs (a3 + (2 : Int32)).toNatClampNeg), .inl (xs (a3 + (3 : Int32)).toNatClampNeg)] t1 Q2 ∧ ∀ (r2 : Int32) (t2 : Mem), Q2 r2 t2 →
    ((r1 = r2 →
      AL p l ev S m below meth c b G 851 [some (.inr 1000), some (.inr 0), some (.inr 49), some (.inl a3)] [] t2) ∧
    (¬ r1 = r2 →
      (0 : Int32) = 1))))))))))) :
    AL p l ev S m below meth c b G 267 [some (.inr 1000), some (.inr 0), some (.inr 49), some (.inl a3)] [] s := wpsL_ok (cut := [18, 132, 175, 208, 267, 310, 343, 356, 379, 412, 455, 488, 521, 554, 577, 620, 663, 696, 709, 742, 785, 828, 851]) C oL_law 38 267 _ _ _ h
set_option maxRecDepth 100000 in
theorem vL_310 {p : Program} {l : Launch} {ev : Env} {S : State} {m : MethodId} {below : List Frame} {meth : Method} {c : Code} {b n : Nat} {xs : Nat → Int32} {G : GG} {a3 : Int32} {s : Mem} (C : LC p S m meth c b n xs G) (h :
    (vp_in (a3 + (1 : Int32)) n ∧
    (vp_in (a3 + (2 : Int32)) n ∧
    (∃ (d' : Nat) (Q1 : Int32 → Mem → Prop), d' < 1300 ∧ Spec l G d' hX7_gaps [.inr 0, .inl (xs (a3 + (1 : Int32)).toNatClampNeg), .inl (xs (a3 + (2 : Int32)).toNatClampNeg)] s Q1 ∧ ∀ (r1 : Int32) (t1 : Mem), Q1 r1 t1 →
    (vp_in (a3 + (1 : Int32)) n ∧
    (vp_in (a3 + (2 : Int32)) n ∧
    (∃ (d' : Nat) (Q2 : Int32 → Mem → Prop), d' < 1300 ∧ Spec l G d' hX8_gaps [.inr 49, .inl (xs (a3 + (1 : Int32)).toNatClampNeg), .inl (xs (a3 + (2 : Int32)).toNatClampNeg)] t1 Q2 ∧ ∀ (r2 : Int32) (t2 : Mem), Q2 r2 t2 →
    ((r1 = r2 →
      AL p l ev S m below meth c b G 851 [some (.inr 1000), some (.inr 0), some (.inr 49), some (.inl a3)] [] t2) ∧
    (¬ r1 = r2 →
      (0 : Int32) = 1))))))))) :
    AL p l ev S m below meth c b G 310 [some (.inr 1000), some (.inr 0), some (.inr 49), some (.inl a3)] [] s := wpsL_ok (cut := [18, 132, 175, 208, 267, 310, 343, 356, 379, 412, 455, 488, 521, 554, 577, 620, 663, 696, 709, 742, 785, 828, 851]) C oL_law 28 310 _ _ _ h
set_option maxRecDepth 100000 in
theorem vL_343 {p : Program} {l : Launch} {ev : Env} {S : State} {m : MethodId} {below : List Frame} {meth : Method} {c : Code} {b n : Nat} {xs : Nat → Int32} {G : GG} {a3 : Int32} {s : Mem} (C : LC p S m meth c b n xs G) (h :
    (∃ (d' : Nat) (Q1 : Int32 → Mem → Prop), d' < 1300 ∧ Spec l G d' hX7_best [.inr 0] s Q1 ∧ ∀ (r1 : Int32) (t1 : Mem), Q1 r1 t1 →
    (∃ (d' : Nat) (Q2 : Int32 → Mem → Prop), d' < 1300 ∧ Spec l G d' hX8_best [.inr 49] t1 Q2 ∧ ∀ (r2 : Int32) (t2 : Mem), Q2 r2 t2 →
    ((r1 = r2 →
      AL p l ev S m below meth c b G 851 [some (.inr 1000), some (.inr 0), some (.inr 49), some (.inl a3)] [] t2) ∧
    (¬ r1 = r2 →
      (0 : Int32) = 1))))) :
    AL p l ev S m below meth c b G 343 [some (.inr 1000), some (.inr 0), some (.inr 49), some (.inl a3)] [] s := wpsL_ok (cut := [18, 132, 175, 208, 267, 310, 343, 356, 379, 412, 455, 488, 521, 554, 577, 620, 663, 696, 709, 742, 785, 828, 851]) C oL_law 8 343 _ _ _ h
set_option maxRecDepth 100000 in
theorem vL_356 {p : Program} {l : Launch} {ev : Env} {S : State} {m : MethodId} {below : List Frame} {meth : Method} {c : Code} {b n : Nat} {xs : Nat → Int32} {G : GG} {a3 : Int32} {s : Mem} (C : LC p S m meth c b n xs G) (h :
    (vp_in (a3 + (1 : Int32)) n ∧
    (∃ (d' : Nat) (Q1 : Int32 → Mem → Prop), d' < 1300 ∧ Spec l G d' hX7_bestAt [.inr 0, .inl (xs (a3 + (1 : Int32)).toNatClampNeg)] s Q1 ∧ ∀ (r1 : Int32) (t1 : Mem), Q1 r1 t1 →
    (vp_in (a3 + (1 : Int32)) n ∧
    (∃ (d' : Nat) (Q2 : Int32 → Mem → Prop), d' < 1300 ∧ Spec l G d' hX8_bestAt [.inr 49, .inl (xs (a3 + (1 : Int32)).toNatClampNeg)] t1 Q2 ∧ ∀ (r2 : Int32) (t2 : Mem), Q2 r2 t2 →
    ((r1 = r2 →
      AL p l ev S m below meth c b G 851 [some (.inr 1000), some (.inr 0), some (.inr 49), some (.inl a3)] [] t2) ∧
    (¬ r1 = r2 →
      (0 : Int32) = 1))))))) :
    AL p l ev S m below meth c b G 356 [some (.inr 1000), some (.inr 0), some (.inr 49), some (.inl a3)] [] s := wpsL_ok (cut := [18, 132, 175, 208, 267, 310, 343, 356, 379, 412, 455, 488, 521, 554, 577, 620, 663, 696, 709, 742, 785, 828, 851]) C oL_law 18 356 _ _ _ h
set_option maxRecDepth 100000 in
theorem vL_379 {p : Program} {l : Launch} {ev : Env} {S : State} {m : MethodId} {below : List Frame} {meth : Method} {c : Code} {b n : Nat} {xs : Nat → Int32} {G : GG} {a3 : Int32} {s : Mem} (C : LC p S m meth c b n xs G) (h :
    (vp_in (a3 + (1 : Int32)) n ∧
    (vp_in (a3 + (2 : Int32)) n ∧
    (∃ (d' : Nat) (Q1 : Int32 → Mem → Prop), d' < 1300 ∧ Spec l G d' hX7_load [.inr 0, .inl (xs (a3 + (1 : Int32)).toNatClampNeg), .inl (xs (a3 + (2 : Int32)).toNatClampNeg)] s Q1 ∧ ∀ (r1 : Int32) (t1 : Mem), Q1 r1 t1 →
    (vp_in (a3 + (1 : Int32)) n ∧
    (vp_in (a3 + (2 : Int32)) n ∧
    (∃ (d' : Nat) (Q2 : Int32 → Mem → Prop), d' < 1300 ∧ Spec l G d' hX8_load [.inr 49, .inl (xs (a3 + (1 : Int32)).toNatClampNeg), .inl (xs (a3 + (2 : Int32)).toNatClampNeg)] t1 Q2 ∧ ∀ (r2 : Int32) (t2 : Mem), Q2 r2 t2 →
    ((r1 = r2 →
      AL p l ev S m below meth c b G 851 [some (.inr 1000), some (.inr 0), some (.inr 49), some (.inl a3)] [] t2) ∧
    (¬ r1 = r2 →
      (0 : Int32) = 1))))))))) :
    AL p l ev S m below meth c b G 379 [some (.inr 1000), some (.inr 0), some (.inr 49), some (.inl a3)] [] s := wpsL_ok (cut := [18, 132, 175, 208, 267, 310, 343, 356, 379, 412, 455, 488, 521, 554, 577, 620, 663, 696, 709, 742, 785, 828, 851]) C oL_law 28 379 _ _ _ h
set_option maxRecDepth 100000 in
theorem vL_412 {p : Program} {l : Launch} {ev : Env} {S : State} {m : MethodId} {below : List Frame} {meth : Method} {c : Code} {b n : Nat} {xs : Nat → Int32} {G : GG} {a3 : Int32} {s : Mem} (C : LC p S m meth c b n xs G) (h :
    (vp_in (a3 + (1 : Int32)) n ∧
    (vp_in (a3 + (2 : Int32)) n ∧
    (vp_in (a3 + (3 : Int32)) n ∧
    (∃ (d' : Nat) (Q1 : Int32 → Mem → Prop), d' < 1300 ∧ Spec l G d' hX7_share [.inr 0, .inl (xs (a3 + (1 : Int32)).toNatClampNeg), .inl (xs (a3 + (2 : Int32)).toNatClampNeg), .inl (xs (a3 + (3 : Int32)).toNatClampNeg)] s Q1 ∧ ∀ (r1 : Int32) (t1 : Mem), Q1 r1 t1 →
    (vp_in (a3 + (1 : Int32)) n ∧
    (vp_in (a3 + (2 : Int32)) n ∧
    (vp_in (a3 + (3 : Int32)) n ∧
    (∃ (d' : Nat) (Q2 : Int32 → Mem → Prop), d' < 1300 ∧ Spec l G d' hX8_share [.inr 49, .inl (xs (a3 + (1 : Int32)).toNatClampNeg), .inl (xs (a3 + (2 : Int32)).toNatClampNeg), .inl (xs (a3 + (3 : Int32)).toNatClampNeg)] t1 Q2 ∧ ∀ (r2 : Int32) (t2 : Mem), Q2 r2 t2 →
    ((r1 = r2 →
      AL p l ev S m below meth c b G 851 [some (.inr 1000), some (.inr 0), some (.inr 49), some (.inl a3)] [] t2) ∧
    (¬ r1 = r2 →
      (0 : Int32) = 1))))))))))) :
    AL p l ev S m below meth c b G 412 [some (.inr 1000), some (.inr 0), some (.inr 49), some (.inl a3)] [] s := wpsL_ok (cut := [18, 132, 175, 208, 267, 310, 343, 356, 379, 412, 455, 488, 521, 554, 577, 620, 663, 696, 709, 742, 785, 828, 851]) C oL_law 38 412 _ _ _ h
set_option maxRecDepth 100000 in
theorem vL_455 {p : Program} {l : Launch} {ev : Env} {S : State} {m : MethodId} {below : List Frame} {meth : Method} {c : Code} {b n : Nat} {xs : Nat → Int32} {G : GG} {a3 : Int32} {s : Mem} (C : LC p S m meth c b n xs G) (h :
    (vp_in (a3 + (1 : Int32)) n ∧
    (vp_in (a3 + (2 : Int32)) n ∧
    (∃ (d' : Nat) (Q1 : Int32 → Mem → Prop), d' < 1300 ∧ Spec l G d' hX7_exposed [.inr 0, .inl (xs (a3 + (1 : Int32)).toNatClampNeg), .inl (xs (a3 + (2 : Int32)).toNatClampNeg)] s Q1 ∧ ∀ (r1 : Int32) (t1 : Mem), Q1 r1 t1 →
    (vp_in (a3 + (1 : Int32)) n ∧
    (vp_in (a3 + (2 : Int32)) n ∧
    (∃ (d' : Nat) (Q2 : Int32 → Mem → Prop), d' < 1300 ∧ Spec l G d' hX8_exposed [.inr 49, .inl (xs (a3 + (1 : Int32)).toNatClampNeg), .inl (xs (a3 + (2 : Int32)).toNatClampNeg)] t1 Q2 ∧ ∀ (r2 : Int32) (t2 : Mem), Q2 r2 t2 →
    ((r1 = r2 →
      AL p l ev S m below meth c b G 851 [some (.inr 1000), some (.inr 0), some (.inr 49), some (.inl a3)] [] t2) ∧
    (¬ r1 = r2 →
      (0 : Int32) = 1))))))))) :
    AL p l ev S m below meth c b G 455 [some (.inr 1000), some (.inr 0), some (.inr 49), some (.inl a3)] [] s := wpsL_ok (cut := [18, 132, 175, 208, 267, 310, 343, 356, 379, 412, 455, 488, 521, 554, 577, 620, 663, 696, 709, 742, 785, 828, 851]) C oL_law 28 455 _ _ _ h
set_option maxRecDepth 100000 in
theorem vL_488 {p : Program} {l : Launch} {ev : Env} {S : State} {m : MethodId} {below : List Frame} {meth : Method} {c : Code} {b n : Nat} {xs : Nat → Int32} {G : GG} {a3 : Int32} {s : Mem} (C : LC p S m meth c b n xs G) (h :
    (vp_in (a3 + (1 : Int32)) n ∧
    (vp_in (a3 + (2 : Int32)) n ∧
    (∃ (d' : Nat) (Q1 : Int32 → Mem → Prop), d' < 1300 ∧ Spec l G d' hX7_part [.inr 0, .inl (xs (a3 + (1 : Int32)).toNatClampNeg), .inl (xs (a3 + (2 : Int32)).toNatClampNeg)] s Q1 ∧ ∀ (r1 : Int32) (t1 : Mem), Q1 r1 t1 →
    (vp_in (a3 + (1 : Int32)) n ∧
    (vp_in (a3 + (2 : Int32)) n ∧
    (∃ (d' : Nat) (Q2 : Int32 → Mem → Prop), d' < 1300 ∧ Spec l G d' hX8_part [.inr 49, .inl (xs (a3 + (1 : Int32)).toNatClampNeg), .inl (xs (a3 + (2 : Int32)).toNatClampNeg)] t1 Q2 ∧ ∀ (r2 : Int32) (t2 : Mem), Q2 r2 t2 →
    ((r1 = r2 →
      AL p l ev S m below meth c b G 851 [some (.inr 1000), some (.inr 0), some (.inr 49), some (.inl a3)] [] t2) ∧
    (¬ r1 = r2 →
      (0 : Int32) = 1))))))))) :
    AL p l ev S m below meth c b G 488 [some (.inr 1000), some (.inr 0), some (.inr 49), some (.inl a3)] [] s := wpsL_ok (cut := [18, 132, 175, 208, 267, 310, 343, 356, 379, 412, 455, 488, 521, 554, 577, 620, 663, 696, 709, 742, 785, 828, 851]) C oL_law 28 488 _ _ _ h
set_option maxRecDepth 100000 in
theorem vL_521 {p : Program} {l : Launch} {ev : Env} {S : State} {m : MethodId} {below : List Frame} {meth : Method} {c : Code} {b n : Nat} {xs : Nat → Int32} {G : GG} {a3 : Int32} {s : Mem} (C : LC p S m meth c b n xs G) (h :
    (vp_in (a3 + (1 : Int32)) n ∧
    (vp_in (a3 + (2 : Int32)) n ∧
    (∃ (d' : Nat) (Q1 : Int32 → Mem → Prop), d' < 1300 ∧ Spec l G d' hX7_slack [.inr 0, .inl (xs (a3 + (1 : Int32)).toNatClampNeg), .inl (xs (a3 + (2 : Int32)).toNatClampNeg)] s Q1 ∧ ∀ (r1 : Int32) (t1 : Mem), Q1 r1 t1 →
    (vp_in (a3 + (1 : Int32)) n ∧
    (vp_in (a3 + (2 : Int32)) n ∧
    (∃ (d' : Nat) (Q2 : Int32 → Mem → Prop), d' < 1300 ∧ Spec l G d' hX8_slack [.inr 49, .inl (xs (a3 + (1 : Int32)).toNatClampNeg), .inl (xs (a3 + (2 : Int32)).toNatClampNeg)] t1 Q2 ∧ ∀ (r2 : Int32) (t2 : Mem), Q2 r2 t2 →
    ((r1 = r2 →
      AL p l ev S m below meth c b G 851 [some (.inr 1000), some (.inr 0), some (.inr 49), some (.inl a3)] [] t2) ∧
    (¬ r1 = r2 →
      (0 : Int32) = 1))))))))) :
    AL p l ev S m below meth c b G 521 [some (.inr 1000), some (.inr 0), some (.inr 49), some (.inl a3)] [] s := wpsL_ok (cut := [18, 132, 175, 208, 267, 310, 343, 356, 379, 412, 455, 488, 521, 554, 577, 620, 663, 696, 709, 742, 785, 828, 851]) C oL_law 28 521 _ _ _ h
set_option maxRecDepth 100000 in
theorem vL_554 {p : Program} {l : Launch} {ev : Env} {S : State} {m : MethodId} {below : List Frame} {meth : Method} {c : Code} {b n : Nat} {xs : Nat → Int32} {G : GG} {a3 : Int32} {s : Mem} (C : LC p S m meth c b n xs G) (h :
    (vp_in (a3 + (1 : Int32)) n ∧
    (∃ (d' : Nat) (Q1 : Int32 → Mem → Prop), d' < 1300 ∧ Spec l G d' hX7_gone [.inr 0, .inl (xs (a3 + (1 : Int32)).toNatClampNeg)] s Q1 ∧ ∀ (r1 : Int32) (t1 : Mem), Q1 r1 t1 →
    (vp_in (a3 + (1 : Int32)) n ∧
    (∃ (d' : Nat) (Q2 : Int32 → Mem → Prop), d' < 1300 ∧ Spec l G d' hX8_gone [.inr 49, .inl (xs (a3 + (1 : Int32)).toNatClampNeg)] t1 Q2 ∧ ∀ (r2 : Int32) (t2 : Mem), Q2 r2 t2 →
    ((r1 = r2 →
      AL p l ev S m below meth c b G 851 [some (.inr 1000), some (.inr 0), some (.inr 49), some (.inl a3)] [] t2) ∧
    (¬ r1 = r2 →
      (0 : Int32) = 1))))))) :
    AL p l ev S m below meth c b G 554 [some (.inr 1000), some (.inr 0), some (.inr 49), some (.inl a3)] [] s := wpsL_ok (cut := [18, 132, 175, 208, 267, 310, 343, 356, 379, 412, 455, 488, 521, 554, 577, 620, 663, 696, 709, 742, 785, 828, 851]) C oL_law 18 554 _ _ _ h
set_option maxRecDepth 100000 in
theorem vL_577 {p : Program} {l : Launch} {ev : Env} {S : State} {m : MethodId} {below : List Frame} {meth : Method} {c : Code} {b n : Nat} {xs : Nat → Int32} {G : GG} {a3 : Int32} {s : Mem} (C : LC p S m meth c b n xs G) (h :
    (vp_in (a3 + (1 : Int32)) n ∧
    (vp_in (a3 + (2 : Int32)) n ∧
    (vp_in (a3 + (3 : Int32)) n ∧
    (∃ (d' : Nat) (Q1 : Int32 → Mem → Prop), d' < 1300 ∧ Spec l G d' hX7_town [.inr 0, .inl (xs (a3 + (1 : Int32)).toNatClampNeg), .inl (xs (a3 + (2 : Int32)).toNatClampNeg), .inl (xs (a3 + (3 : Int32)).toNatClampNeg)] s Q1 ∧ ∀ (r1 : Int32) (t1 : Mem), Q1 r1 t1 →
    (vp_in (a3 + (1 : Int32)) n ∧
    (vp_in (a3 + (2 : Int32)) n ∧
    (vp_in (a3 + (3 : Int32)) n ∧
    (∃ (d' : Nat) (Q2 : Int32 → Mem → Prop), d' < 1300 ∧ Spec l G d' hX8_town [.inr 49, .inl (xs (a3 + (1 : Int32)).toNatClampNeg), .inl (xs (a3 + (2 : Int32)).toNatClampNeg), .inl (xs (a3 + (3 : Int32)).toNatClampNeg)] t1 Q2 ∧ ∀ (r2 : Int32) (t2 : Mem), Q2 r2 t2 →
    ((r1 = r2 →
      AL p l ev S m below meth c b G 851 [some (.inr 1000), some (.inr 0), some (.inr 49), some (.inl a3)] [] t2) ∧
    (¬ r1 = r2 →
      (0 : Int32) = 1))))))))))) :
    AL p l ev S m below meth c b G 577 [some (.inr 1000), some (.inr 0), some (.inr 49), some (.inl a3)] [] s := wpsL_ok (cut := [18, 132, 175, 208, 267, 310, 343, 356, 379, 412, 455, 488, 521, 554, 577, 620, 663, 696, 709, 742, 785, 828, 851]) C oL_law 38 577 _ _ _ h
set_option maxRecDepth 100000 in
theorem vL_620 {p : Program} {l : Launch} {ev : Env} {S : State} {m : MethodId} {below : List Frame} {meth : Method} {c : Code} {b n : Nat} {xs : Nat → Int32} {G : GG} {a3 : Int32} {s : Mem} (C : LC p S m meth c b n xs G) (h :
    (vp_in (a3 + (1 : Int32)) n ∧
    (vp_in (a3 + (2 : Int32)) n ∧
    (vp_in (a3 + (3 : Int32)) n ∧
    (∃ (d' : Nat) (Q1 : Int32 → Mem → Prop), d' < 1300 ∧ Spec l G d' hX7_way [.inr 0, .inl (xs (a3 + (1 : Int32)).toNatClampNeg), .inl (xs (a3 + (2 : Int32)).toNatClampNeg), .inl (xs (a3 + (3 : Int32)).toNatClampNeg)] s Q1 ∧ ∀ (r1 : Int32) (t1 : Mem), Q1 r1 t1 →
    (vp_in (a3 + (1 : Int32)) n ∧
    (vp_in (a3 + (2 : Int32)) n ∧
    (vp_in (a3 + (3 : Int32)) n ∧
    (∃ (d' : Nat) (Q2 : Int32 → Mem → Prop), d' < 1300 ∧ Spec l G d' hX8_way [.inr 49, .inl (xs (a3 + (1 : Int32)).toNatClampNeg), .inl (xs (a3 + (2 : Int32)).toNatClampNeg), .inl (xs (a3 + (3 : Int32)).toNatClampNeg)] t1 Q2 ∧ ∀ (r2 : Int32) (t2 : Mem), Q2 r2 t2 →
    ((r1 = r2 →
      AL p l ev S m below meth c b G 851 [some (.inr 1000), some (.inr 0), some (.inr 49), some (.inl a3)] [] t2) ∧
    (¬ r1 = r2 →
      (0 : Int32) = 1))))))))))) :
    AL p l ev S m below meth c b G 620 [some (.inr 1000), some (.inr 0), some (.inr 49), some (.inl a3)] [] s := wpsL_ok (cut := [18, 132, 175, 208, 267, 310, 343, 356, 379, 412, 455, 488, 521, 554, 577, 620, 663, 696, 709, 742, 785, 828, 851]) C oL_law 38 620 _ _ _ h
set_option maxRecDepth 100000 in
theorem vL_663 {p : Program} {l : Launch} {ev : Env} {S : State} {m : MethodId} {below : List Frame} {meth : Method} {c : Code} {b n : Nat} {xs : Nat → Int32} {G : GG} {a3 : Int32} {s : Mem} (C : LC p S m meth c b n xs G) (h :
    (vp_in (a3 + (1 : Int32)) n ∧
    (vp_in (a3 + (2 : Int32)) n ∧
    (∃ (d' : Nat) (Q1 : Int32 → Mem → Prop), d' < 1300 ∧ Spec l G d' hX7_hours [.inr 0, .inl (xs (a3 + (1 : Int32)).toNatClampNeg), .inl (xs (a3 + (2 : Int32)).toNatClampNeg)] s Q1 ∧ ∀ (r1 : Int32) (t1 : Mem), Q1 r1 t1 →
    (vp_in (a3 + (1 : Int32)) n ∧
    (vp_in (a3 + (2 : Int32)) n ∧
    (∃ (d' : Nat) (Q2 : Int32 → Mem → Prop), d' < 1300 ∧ Spec l G d' hX8_hours [.inr 49, .inl (xs (a3 + (1 : Int32)).toNatClampNeg), .inl (xs (a3 + (2 : Int32)).toNatClampNeg)] t1 Q2 ∧ ∀ (r2 : Int32) (t2 : Mem), Q2 r2 t2 →
    ((r1 = r2 →
      AL p l ev S m below meth c b G 851 [some (.inr 1000), some (.inr 0), some (.inr 49), some (.inl a3)] [] t2) ∧
    (¬ r1 = r2 →
      (0 : Int32) = 1))))))))) :
    AL p l ev S m below meth c b G 663 [some (.inr 1000), some (.inr 0), some (.inr 49), some (.inl a3)] [] s := wpsL_ok (cut := [18, 132, 175, 208, 267, 310, 343, 356, 379, 412, 455, 488, 521, 554, 577, 620, 663, 696, 709, 742, 785, 828, 851]) C oL_law 28 663 _ _ _ h
set_option maxRecDepth 100000 in
theorem vL_696 {p : Program} {l : Launch} {ev : Env} {S : State} {m : MethodId} {below : List Frame} {meth : Method} {c : Code} {b n : Nat} {xs : Nat → Int32} {G : GG} {a3 : Int32} {s : Mem} (C : LC p S m meth c b n xs G) (h :
    (∃ (d' : Nat) (Q1 : Int32 → Mem → Prop), d' < 1300 ∧ Spec l G d' hX7_route [.inr 0] s Q1 ∧ ∀ (r1 : Int32) (t1 : Mem), Q1 r1 t1 →
    (∃ (d' : Nat) (Q2 : Int32 → Mem → Prop), d' < 1300 ∧ Spec l G d' hX8_route [.inr 49] t1 Q2 ∧ ∀ (r2 : Int32) (t2 : Mem), Q2 r2 t2 →
    ((r1 = r2 →
      AL p l ev S m below meth c b G 851 [some (.inr 1000), some (.inr 0), some (.inr 49), some (.inl a3)] [] t2) ∧
    (¬ r1 = r2 →
      (0 : Int32) = 1))))) :
    AL p l ev S m below meth c b G 696 [some (.inr 1000), some (.inr 0), some (.inr 49), some (.inl a3)] [] s := wpsL_ok (cut := [18, 132, 175, 208, 267, 310, 343, 356, 379, 412, 455, 488, 521, 554, 577, 620, 663, 696, 709, 742, 785, 828, 851]) C oL_law 8 696 _ _ _ h
set_option maxRecDepth 100000 in
theorem vL_709 {p : Program} {l : Launch} {ev : Env} {S : State} {m : MethodId} {below : List Frame} {meth : Method} {c : Code} {b n : Nat} {xs : Nat → Int32} {G : GG} {a3 : Int32} {s : Mem} (C : LC p S m meth c b n xs G) (h :
    (vp_in (a3 + (1 : Int32)) n ∧
    (vp_in (a3 + (2 : Int32)) n ∧
    (∃ (d' : Nat) (Q1 : Int32 → Mem → Prop), d' < 1300 ∧ Spec l G d' hX7_routeAt [.inr 0, .inl (xs (a3 + (1 : Int32)).toNatClampNeg), .inl (xs (a3 + (2 : Int32)).toNatClampNeg)] s Q1 ∧ ∀ (r1 : Int32) (t1 : Mem), Q1 r1 t1 →
    (vp_in (a3 + (1 : Int32)) n ∧
    (vp_in (a3 + (2 : Int32)) n ∧
    (∃ (d' : Nat) (Q2 : Int32 → Mem → Prop), d' < 1300 ∧ Spec l G d' hX8_routeAt [.inr 49, .inl (xs (a3 + (1 : Int32)).toNatClampNeg), .inl (xs (a3 + (2 : Int32)).toNatClampNeg)] t1 Q2 ∧ ∀ (r2 : Int32) (t2 : Mem), Q2 r2 t2 →
    ((r1 = r2 →
      AL p l ev S m below meth c b G 851 [some (.inr 1000), some (.inr 0), some (.inr 49), some (.inl a3)] [] t2) ∧
    (¬ r1 = r2 →
      (0 : Int32) = 1))))))))) :
    AL p l ev S m below meth c b G 709 [some (.inr 1000), some (.inr 0), some (.inr 49), some (.inl a3)] [] s := wpsL_ok (cut := [18, 132, 175, 208, 267, 310, 343, 356, 379, 412, 455, 488, 521, 554, 577, 620, 663, 696, 709, 742, 785, 828, 851]) C oL_law 28 709 _ _ _ h
set_option maxRecDepth 100000 in
theorem vL_742 {p : Program} {l : Launch} {ev : Env} {S : State} {m : MethodId} {below : List Frame} {meth : Method} {c : Code} {b n : Nat} {xs : Nat → Int32} {G : GG} {a3 : Int32} {s : Mem} (C : LC p S m meth c b n xs G) (h :
    (vp_in (a3 + (1 : Int32)) n ∧
    (vp_in (a3 + (2 : Int32)) n ∧
    (vp_in (a3 + (3 : Int32)) n ∧
    (∃ (d' : Nat) (Q1 : Int32 → Mem → Prop), d' < 1300 ∧ Spec l G d' hX7_took [.inr 0, .inl (xs (a3 + (1 : Int32)).toNatClampNeg), .inl (xs (a3 + (2 : Int32)).toNatClampNeg), .inl (xs (a3 + (3 : Int32)).toNatClampNeg)] s Q1 ∧ ∀ (r1 : Int32) (t1 : Mem), Q1 r1 t1 →
    (vp_in (a3 + (1 : Int32)) n ∧
    (vp_in (a3 + (2 : Int32)) n ∧
    (vp_in (a3 + (3 : Int32)) n ∧
    (∃ (d' : Nat) (Q2 : Int32 → Mem → Prop), d' < 1300 ∧ Spec l G d' hX8_took [.inr 49, .inl (xs (a3 + (1 : Int32)).toNatClampNeg), .inl (xs (a3 + (2 : Int32)).toNatClampNeg), .inl (xs (a3 + (3 : Int32)).toNatClampNeg)] t1 Q2 ∧ ∀ (r2 : Int32) (t2 : Mem), Q2 r2 t2 →
    ((r1 = r2 →
      AL p l ev S m below meth c b G 851 [some (.inr 1000), some (.inr 0), some (.inr 49), some (.inl a3)] [] t2) ∧
    (¬ r1 = r2 →
      (0 : Int32) = 1))))))))))) :
    AL p l ev S m below meth c b G 742 [some (.inr 1000), some (.inr 0), some (.inr 49), some (.inl a3)] [] s := wpsL_ok (cut := [18, 132, 175, 208, 267, 310, 343, 356, 379, 412, 455, 488, 521, 554, 577, 620, 663, 696, 709, 742, 785, 828, 851]) C oL_law 38 742 _ _ _ h
set_option maxRecDepth 100000 in
theorem vL_785 {p : Program} {l : Launch} {ev : Env} {S : State} {m : MethodId} {below : List Frame} {meth : Method} {c : Code} {b n : Nat} {xs : Nat → Int32} {G : GG} {a3 : Int32} {s : Mem} (C : LC p S m meth c b n xs G) (h :
    (vp_in (a3 + (1 : Int32)) n ∧
    (vp_in (a3 + (2 : Int32)) n ∧
    (vp_in (a3 + (3 : Int32)) n ∧
    (∃ (d' : Nat) (Q1 : Int32 → Mem → Prop), d' < 1300 ∧ Spec l G d' hX7_foretold [.inr 0, .inl (xs (a3 + (1 : Int32)).toNatClampNeg), .inl (xs (a3 + (2 : Int32)).toNatClampNeg), .inl (xs (a3 + (3 : Int32)).toNatClampNeg)] s Q1 ∧ ∀ (r1 : Int32) (t1 : Mem), Q1 r1 t1 →
    (vp_in (a3 + (1 : Int32)) n ∧
    (vp_in (a3 + (2 : Int32)) n ∧
    (vp_in (a3 + (3 : Int32)) n ∧
    (∃ (d' : Nat) (Q2 : Int32 → Mem → Prop), d' < 1300 ∧ Spec l G d' hX8_foretold [.inr 49, .inl (xs (a3 + (1 : Int32)).toNatClampNeg), .inl (xs (a3 + (2 : Int32)).toNatClampNeg), .inl (xs (a3 + (3 : Int32)).toNatClampNeg)] t1 Q2 ∧ ∀ (r2 : Int32) (t2 : Mem), Q2 r2 t2 →
    ((r1 = r2 →
      AL p l ev S m below meth c b G 851 [some (.inr 1000), some (.inr 0), some (.inr 49), some (.inl a3)] [] t2) ∧
    (¬ r1 = r2 →
      (0 : Int32) = 1))))))))))) :
    AL p l ev S m below meth c b G 785 [some (.inr 1000), some (.inr 0), some (.inr 49), some (.inl a3)] [] s := wpsL_ok (cut := [18, 132, 175, 208, 267, 310, 343, 356, 379, 412, 455, 488, 521, 554, 577, 620, 663, 696, 709, 742, 785, 828, 851]) C oL_law 38 785 _ _ _ h
set_option maxRecDepth 100000 in
theorem vL_828 {p : Program} {l : Launch} {ev : Env} {S : State} {m : MethodId} {below : List Frame} {meth : Method} {c : Code} {b n : Nat} {xs : Nat → Int32} {G : GG} {a3 : Int32} {s : Mem} (C : LC p S m meth c b n xs G) (h :
    (vp_in (a3 + (1 : Int32)) n ∧
    (∃ (d' : Nat) (Q1 : Int32 → Mem → Prop), d' < 1300 ∧ Spec l G d' hX7_count [.inr 0, .inl (xs (a3 + (1 : Int32)).toNatClampNeg)] s Q1 ∧ ∀ (r1 : Int32) (t1 : Mem), Q1 r1 t1 →
    (vp_in (a3 + (1 : Int32)) n ∧
    (∃ (d' : Nat) (Q2 : Int32 → Mem → Prop), d' < 1300 ∧ Spec l G d' hX8_count [.inr 49, .inl (xs (a3 + (1 : Int32)).toNatClampNeg)] t1 Q2 ∧ ∀ (r2 : Int32) (t2 : Mem), Q2 r2 t2 →
    ((r1 = r2 →
      AL p l ev S m below meth c b G 851 [some (.inr 1000), some (.inr 0), some (.inr 49), some (.inl a3)] [] t2) ∧
    (¬ r1 = r2 →
      (0 : Int32) = 1))))))) :
    AL p l ev S m below meth c b G 828 [some (.inr 1000), some (.inr 0), some (.inr 49), some (.inl a3)] [] s := wpsL_ok (cut := [18, 132, 175, 208, 267, 310, 343, 356, 379, 412, 455, 488, 521, 554, 577, 620, 663, 696, 709, 742, 785, 828, 851]) C oL_law 18 828 _ _ _ h
set_option maxRecDepth 100000 in
theorem vL_851 {p : Program} {l : Launch} {ev : Env} {S : State} {m : MethodId} {below : List Frame} {meth : Method} {c : Code} {b n : Nat} {xs : Nat → Int32} {G : GG} {a3 : Int32} {s : Mem} (C : LC p S m meth c b n xs G) (h :
    AL p l ev S m below meth c b G 18 [some (.inr 1000), some (.inr 0), some (.inr 49), some (.inl (a3 + (4 : Int32)))] [] s) :
    AL p l ev S m below meth c b G 851 [some (.inr 1000), some (.inr 0), some (.inr 49), some (.inl a3)] [] s := wpsL_ok (cut := [18, 132, 175, 208, 267, 310, 343, 356, 379, 412, 455, 488, 521, 554, 577, 620, 663, 696, 709, 742, 785, 828, 851]) C oL_law 3 851 _ _ _ h
end
section
/-! ===== constructors: a world that grows ===== -/
abbrev CO : Type := (Nat × Nat) ⊕ (Nat × List (Option (Option Nat)))
def gA (D : va_G) (cI cZ : ClassId) (as : List Nat) : GG := (D, cI, cZ, fun k => as.getD k 0)
def fldC (as : List Nat) (f : Nat → Int32) (j : Nat) : Option (Option Nat) → Value
  | none => .int (f j)
  | some none => .null
  | some (some q) => .ref (as.getD q 0)
def entC (cI cZ : ClassId) (as : List Nat) (s : Mem) (k : Nat) : CO → va_E
  | .inl (t, n) => .inl (if t = 0 then cI else cZ, n, .inl (s k))
  | .inr (ci, fs) => .inr (ci, fs.mapIdx (fldC as (s k)))
def wdC (cI cZ : ClassId) (as : List Nat) (sh : List CO) (s : Mem) : va_W := sh.mapIdx (fun k c => (as.getD k 0, entC cI cZ as s k c))
def fok (n : Nat) : Option (Option Nat) → Bool
  | some (some k) => Nat.blt k n
  | _ => true
def cok (n : Nat) : CO → Bool
  | .inr (_, fs) => fs.all (fok n)
  | _ => true
def clo (n : Nat) (sh : List CO) : Bool := sh.all (cok n)
def vok (n : Nat) : Vl → Bool
  | .inr k => Nat.blt k n
  | _ => true
def lok (n : Nat) : Option Vl → Bool
  | some v => vok n v
  | none => true
theorem blt_lt {a b : Nat} (h : Nat.blt a b = true) : a < b := Nat.le_of_ble_eq_true h
theorem getD_ext {as : List Nat} {q k : Nat} (h : k < as.length) : (as ++ [q]).getD k 0 = as.getD k 0 := by
  simp only [List.getD_eq_getElem?_getD, List.getElem?_append_left h]
theorem getD_new {as : List Nat} {q : Nat} : (as ++ [q]).getD as.length 0 = q := by
  simp [List.getD_eq_getElem?_getD]
theorem fldC_ext {as : List Nat} {q j : Nat} {f : Nat → Int32} {o : Option (Option Nat)} (h : fok as.length o = true) : fldC (as ++ [q]) f j o = fldC as f j o := by
  match o, h with
  | none, _ => rfl
  | some none, _ => rfl
  | some (some k), h => simp only [fldC]; rw [getD_ext (blt_lt h)]
theorem wdC_get {cI cZ : ClassId} {as : List Nat} {sh : List CO} {s : Mem} {k : Nat} {c : CO} (h : sh[k]? = some c) : (wdC cI cZ as sh s)[k]? = some (as.getD k 0, entC cI cZ as s k c) := by
  simp only [wdC, List.getElem?_mapIdx, h, Option.map_some]
theorem entC_ne {cI cZ : ClassId} {as : List Nat} {s : Mem} {k q : Nat} {f : Nat → Int32} (h : q ≠ k) (c : CO) : entC cI cZ as (stM s k f) q c = entC cI cZ as s q c := by
  rcases c with ⟨t, n⟩ | ⟨ci, fs⟩ <;> simp [entC, stM_ne h]
theorem entC_ext {cI cZ : ClassId} {as : List Nat} {s : Mem} {k q : Nat} {c : CO} (h : cok as.length c = true) : entC cI cZ (as ++ [q]) s k c = entC cI cZ as s k c := by
  match c, h with
  | .inl (t, n), _ => rfl
  | .inr (ci, fs), h =>
    have e : fs.mapIdx (fldC (as ++ [q]) (s k)) = fs.mapIdx (fldC as (s k)) := by
      apply List.ext_getElem?
      intro i
      rw [List.getElem?_mapIdx, List.getElem?_mapIdx]
      cases hf : fs[i]? with
      | none => rfl
      | some o =>
        have h1 := List.all_eq_true.mp h o (List.mem_of_getElem? hf)
        simp only [Option.map_some, fldC_ext h1]
    simp only [entC, e]
theorem wdC_ext {cI cZ : ClassId} {as : List Nat} {sh : List CO} {s : Mem} {q : Nat} {c : CO} {f : Nat → Int32} (hl : as.length = sh.length) (hc : clo sh.length sh = true) : wdC cI cZ (as ++ [q]) (sh ++ [c]) (stM s sh.length f) = wdC cI cZ as sh s ++ [(q, entC cI cZ (as ++ [q]) (stM s sh.length f) sh.length c)] := by
  apply List.ext_getElem?
  intro i
  have hlen : (wdC cI cZ as sh s).length = sh.length := by simp [wdC]
  by_cases hi : i < sh.length
  · rw [List.getElem?_append_left (by rw [hlen]; exact hi)]
    simp only [wdC, List.getElem?_mapIdx, List.getElem?_append_left hi]
    cases hs : sh[i]? with
    | none => rfl
    | some c' =>
      have h1 : cok as.length c' = true := by rw [hl]; exact List.all_eq_true.mp hc c' (List.mem_of_getElem? hs)
      simp only [Option.map_some, getD_ext (show i < as.length by omega), entC_ne (show i ≠ sh.length by omega), entC_ext h1]
  · rw [List.getElem?_append_right (by omega), hlen]
    simp only [wdC, List.getElem?_mapIdx]
    by_cases hj : i = sh.length
    · subst hj
      have hg : (as ++ [q]).getD sh.length 0 = q := by rw [← hl]; exact getD_new
      rw [List.getElem?_append_right (Nat.le_refl _)]
      simp only [Nat.sub_self, List.getElem?_cons_zero, Option.map_some, hg]
    · rw [List.getElem?_append_right (by omega)]
      rw [List.getElem?_eq_none (by simp; omega), List.getElem?_eq_none (by simp; omega)]
      rfl
theorem wdC_set {cI cZ : ClassId} {as : List Nat} {sh : List CO} {s : Mem} {k : Nat} {f : Nat → Int32} {c : CO} (h : sh[k]? = some c) : (wdC cI cZ as sh s).set k (as.getD k 0, entC cI cZ as (stM s k f) k c) = wdC cI cZ as sh (stM s k f) := by
  apply List.ext_getElem?
  intro i
  by_cases hi : i = k
  · subst hi
    have hl : i < (wdC cI cZ as sh s).length := by
      have := (List.getElem?_eq_some_iff.mp h).1
      simpa [wdC] using this
    rw [List.getElem?_set_self hl, wdC_get h]
  · rw [List.getElem?_set_ne (Ne.symm hi)]
    simp only [wdC, List.getElem?_mapIdx]
    cases sh[i]? with
    | none => rfl
    | some c' => simp only [Option.map_some, entC_ne hi]
theorem wdC_fld {cI cZ : ClassId} {as : List Nat} {sh : List CO} {s : Mem} {k ci j q : Nat} {fs : List (Option (Option Nat))} (h : sh[k]? = some (.inr (ci, fs))) : (wdC cI cZ as sh s).set k (as.getD k 0, .inr (ci, (fs.mapIdx (fldC as (s k))).set j (.ref (as.getD q 0)))) = wdC cI cZ as (sh.set k (.inr (ci, fs.set j (some (some q))))) s := by
  have e : (fs.mapIdx (fldC as (s k))).set j (.ref (as.getD q 0)) = (fs.set j (some (some q))).mapIdx (fldC as (s k)) := by
    apply List.ext_getElem?
    intro i
    by_cases hi : i = j
    · subst hi
      by_cases hl : i < fs.length
      · rw [List.getElem?_set_self (by simpa using hl), List.getElem?_mapIdx, List.getElem?_set_self hl]
        rfl
      · rw [List.getElem?_eq_none (by simpa using hl), List.getElem?_mapIdx, List.getElem?_eq_none (by simpa using hl)]
        rfl
    · rw [List.getElem?_set_ne (Ne.symm hi), List.getElem?_mapIdx, List.getElem?_mapIdx, List.getElem?_set_ne (Ne.symm hi)]
  apply List.ext_getElem?
  intro i
  by_cases hi : i = k
  · subst hi
    have hl := (List.getElem?_eq_some_iff.mp h).1
    rw [List.getElem?_set_self (by simpa [wdC] using hl)]
    simp only [wdC, List.getElem?_mapIdx, List.getElem?_set_self hl, Option.map_some, entC, e]
  · rw [List.getElem?_set_ne (Ne.symm hi)]
    simp only [wdC, List.getElem?_mapIdx, List.getElem?_set_ne (Ne.symm hi)]

def blkOk (ci : Nat) (fs : List (Option (Option Nat))) : Prop := ∀ (C : String) (T : u_T) (n : Nat), vwCl[ci]? = some (C, T, n) → ∃ ty0 : Nat → FieldType, (∀ k, k < n → parseFieldDescriptor (T k).2.2.1 = some (ty0 k)) ∧ (∀ j, j < n → defaultValue (ty0 j) = vp_V (fs.mapIdx (fldC [] (fun _ => 0))) j) ∧ ∀ as : List Nat, fs.mapIdx (fldC as (fun _ => 0)) = fs.mapIdx (fldC [] (fun _ => 0))

def blk (ci : Nat) : List (Option (Option Nat)) := match ci with
  | 0 => [some none, some none, none, none, none, none, some none, some none, some none]
  | 1 => [some none, none, none, none, some none, some none, some none, some none, some none, some none]
  | 2 => [some none, some none, some none, some none, some none, some none, some none, none]
  | 3 => [none, some none, some none, some none, some none, some none, none]
  | 4 => [none, some none, some none, some none, some none, some none, some none, none, none]
  | 5 => [some none, some none, some none, some none, some none, some none, none]
  | 6 => [none, some none, some none, none, none]
  | 7 => [some none, some none, some none, some none, some none, some none, some none]
  | 8 => [none, some none, some none, some none, some none, some none, some none, some none, some none, some none, some none, none, some none, some none, some none, some none, some none, none, some none, some none, some none, some none, some none, some none, some none, some none, none, some none, some none, none]
  | _ => []
theorem blk_ok (ci : Nat) : blkOk ci (blk ci) := by
  intro C T n h
  match ci, h with
  | 0, h =>
    cases h
    refine ⟨tyX0, tyX0_ok, fun j hj => ?_, fun as => rfl⟩
    match j, hj with
    | 0, _ => rfl
    | 1, _ => rfl
    | 2, _ => rfl
    | 3, _ => rfl
    | 4, _ => rfl
    | 5, _ => rfl
    | 6, _ => rfl
    | 7, _ => rfl
    | 8, _ => rfl
    | j + 9, hj => omega
  | 1, h =>
    cases h
    refine ⟨tyX1, tyX1_ok, fun j hj => ?_, fun as => rfl⟩
    match j, hj with
    | 0, _ => rfl
    | 1, _ => rfl
    | 2, _ => rfl
    | 3, _ => rfl
    | 4, _ => rfl
    | 5, _ => rfl
    | 6, _ => rfl
    | 7, _ => rfl
    | 8, _ => rfl
    | 9, _ => rfl
    | j + 10, hj => omega
  | 2, h =>
    cases h
    refine ⟨tyX2, tyX2_ok, fun j hj => ?_, fun as => rfl⟩
    match j, hj with
    | 0, _ => rfl
    | 1, _ => rfl
    | 2, _ => rfl
    | 3, _ => rfl
    | 4, _ => rfl
    | 5, _ => rfl
    | 6, _ => rfl
    | 7, _ => rfl
    | j + 8, hj => omega
  | 3, h =>
    cases h
    refine ⟨tyX3, tyX3_ok, fun j hj => ?_, fun as => rfl⟩
    match j, hj with
    | 0, _ => rfl
    | 1, _ => rfl
    | 2, _ => rfl
    | 3, _ => rfl
    | 4, _ => rfl
    | 5, _ => rfl
    | 6, _ => rfl
    | j + 7, hj => omega
  | 4, h =>
    cases h
    refine ⟨tyX4, tyX4_ok, fun j hj => ?_, fun as => rfl⟩
    match j, hj with
    | 0, _ => rfl
    | 1, _ => rfl
    | 2, _ => rfl
    | 3, _ => rfl
    | 4, _ => rfl
    | 5, _ => rfl
    | 6, _ => rfl
    | 7, _ => rfl
    | 8, _ => rfl
    | j + 9, hj => omega
  | 5, h =>
    cases h
    refine ⟨tyX5, tyX5_ok, fun j hj => ?_, fun as => rfl⟩
    match j, hj with
    | 0, _ => rfl
    | 1, _ => rfl
    | 2, _ => rfl
    | 3, _ => rfl
    | 4, _ => rfl
    | 5, _ => rfl
    | 6, _ => rfl
    | j + 7, hj => omega
  | 6, h =>
    cases h
    refine ⟨tyX6, tyX6_ok, fun j hj => ?_, fun as => rfl⟩
    match j, hj with
    | 0, _ => rfl
    | 1, _ => rfl
    | 2, _ => rfl
    | 3, _ => rfl
    | 4, _ => rfl
    | j + 5, hj => omega
  | 7, h =>
    cases h
    refine ⟨tyX7, tyX7_ok, fun j hj => ?_, fun as => rfl⟩
    match j, hj with
    | 0, _ => rfl
    | 1, _ => rfl
    | 2, _ => rfl
    | 3, _ => rfl
    | 4, _ => rfl
    | 5, _ => rfl
    | 6, _ => rfl
    | j + 7, hj => omega
  | 8, h =>
    cases h
    refine ⟨tyX8, tyX8_ok, fun j hj => ?_, fun as => rfl⟩
    match j, hj with
    | 0, _ => rfl
    | 1, _ => rfl
    | 2, _ => rfl
    | 3, _ => rfl
    | 4, _ => rfl
    | 5, _ => rfl
    | 6, _ => rfl
    | 7, _ => rfl
    | 8, _ => rfl
    | 9, _ => rfl
    | 10, _ => rfl
    | 11, _ => rfl
    | 12, _ => rfl
    | 13, _ => rfl
    | 14, _ => rfl
    | 15, _ => rfl
    | 16, _ => rfl
    | 17, _ => rfl
    | 18, _ => rfl
    | 19, _ => rfl
    | 20, _ => rfl
    | 21, _ => rfl
    | 22, _ => rfl
    | 23, _ => rfl
    | 24, _ => rfl
    | 25, _ => rfl
    | 26, _ => rfl
    | 27, _ => rfl
    | 28, _ => rfl
    | 29, _ => rfl
    | j + 30, hj => omega
  | ci + 9, h => simp [vwCl] at h
theorem objI_in : Cond.instanceMethod objectInit ∈ lw_tbl := List.mem_of_getElem? (i := 75) (by decide +kernel)
theorem objC_in : Cond.code objectInit ⟨#[0xb1]⟩ 1 none ∈ lw_tbl := List.mem_of_getElem? (i := 76) (by decide +kernel)
def rmC (d mc ms : Nat) : Room := { frames := d, cells := mc, slots := ms, locals := 60 * d }
def A0 (as0 : List Nat) (sz : Nat) : Nat → Prop := fun q => q ∈ as0 ∨ sz ≤ q
def QC (D : va_G) (cI cZ : ClassId) (as0 : List Nat) (sz : Nat) (post : List CO → Mem → Prop) : Array Value → State → Outcome → State → Prop := fun _ st oc t =>
  (∃ (as : List Nat) (sh : List CO) (s : Mem), oc = .returned none ∧ post sh s ∧ as0 <+: as ∧ as.length = sh.length ∧ va_P D vwCl (wdC cI cZ as sh s) t.heap ∧ va_D (A0 as0 sz) (wdC cI cZ as sh s)) ∧ va_F (A0 as0 sz) st t
def AC (l : Launch) (D : va_G) (cI cZ : ClassId) (d mc ms : Nat) (h : HD) (post : List CO → Mem → Prop) (pc : Nat) (L : LL) (st : List Vl) (sh : List CO) (s : Mem) (cells slots : Nat) : Prop :=
  ∀ (p : Program) (e : Env) (S : State) (m : MethodId) (args : Array Value) (below : List Frame) (meth : Method) (c : Code) (H : Heap) (locs : List Loc) (ls : Array Slot) (as0 as : List Nat) (sz : Nat),
    CX p S m args meth c h → meth.name = "<init>" → PK (gA D cI cZ as) S → S.heap.size = sz → as0 <+: as → as.length = sh.length → va_P D vwCl (wdC cI cZ as sh s) H → va_D (A0 as0 sz) (wdC cI cZ as sh s) → va_S (A0 as0 sz) S.heap H locs → lvh (gA D cI cZ as) ls h.2.2.1 L →
    W p l e (rmC d mc ms) S m args below meth c H locs cells slots (MQ below (QC D cI cZ as0 sz post) args S mc ms (A0 as0 sz)) (F0 m pc ls (st.map (vv (gA D cI cZ as))))
def CSpec (l : Launch) (D : va_G) (cI cZ : ClassId) (d mc ms : Nat) (h : HD) (As : List Vl) (sh : List CO) (s : Mem) (post : List CO → Mem → Prop) : Prop :=
  Cond.code h.1 h.2.1 h.2.2.1 h.2.2.2 ∈ lw_tbl ∧ h.2.2.2 = none ∧ ∀ (as0 : List Nat) (sz : Nat), as0.length = sh.length →
    Met l h.1 (Cond.code h.1 h.2.1 h.2.2.1 h.2.2.2 :: WSg) (rmC d mc ms) (va_Pc (As.map (vv (gA D cI cZ as0))) (fun U => U.heap.size = sz ∧ va_P D vwCl (wdC cI cZ as0 sh s) U.heap ∧ PK (gA D cI cZ as0) U ∧ va_D (fun _ => True) (wdC cI cZ as0 sh s) ∧ NWS U)) (QC D cI cZ as0 sz post) mc ms (A0 as0 sz)
theorem vv_ext {D : va_G} {cI cZ : ClassId} {as : List Nat} {q : Nat} {v : Vl} (h : vok as.length v = true) : vv (gA D cI cZ (as ++ [q])) v = vv (gA D cI cZ as) v := by
  cases v with
  | inl x => rfl
  | inr k => simp only [vv, gA]; rw [getD_ext (blt_lt h)]
theorem st_ext {D : va_G} {cI cZ : ClassId} {as : List Nat} {q : Nat} {st : List Vl} (h : st.all (vok as.length) = true) : st.map (vv (gA D cI cZ (as ++ [q]))) = st.map (vv (gA D cI cZ as)) := List.map_congr_left (fun v hv => vv_ext (List.all_eq_true.mp h v hv))
theorem lvh_ext {D : va_G} {cI cZ : ClassId} {as : List Nat} {q n : Nat} {ls : Array Slot} {L : LL} (h : L.all (lok as.length) = true) (N : lvh (gA D cI cZ as) ls n L) : lvh (gA D cI cZ (as ++ [q])) ls n L := by
  refine ⟨N.1, N.2.1, fun i v hi => ?_⟩
  have h1 : vok as.length v = true := List.all_eq_true.mp h (some v) (List.mem_of_getElem? hi)
  rw [vv_ext h1]
  exact N.2.2 i v hi
theorem getD_pre {as bs : List Nat} {k : Nat} (h : as <+: bs) (hk : k < as.length) : bs.getD k 0 = as.getD k 0 := by
  obtain ⟨r, rfl⟩ := h
  simp only [List.getD_eq_getElem?_getD, List.getElem?_append_left hk]
theorem vv_pre {D : va_G} {cI cZ : ClassId} {as bs : List Nat} {v : Vl} (hp : as <+: bs) (h : vok as.length v = true) : vv (gA D cI cZ bs) v = vv (gA D cI cZ as) v := by
  cases v with
  | inl x => rfl
  | inr k => simp only [vv, gA]; rw [getD_pre hp (blt_lt h)]
theorem st_pre {D : va_G} {cI cZ : ClassId} {as bs : List Nat} {st : List Vl} (hp : as <+: bs) (h : st.all (vok as.length) = true) : st.map (vv (gA D cI cZ bs)) = st.map (vv (gA D cI cZ as)) := List.map_congr_left (fun v hv => vv_pre hp (List.all_eq_true.mp h v hv))
theorem lvh_pre {D : va_G} {cI cZ : ClassId} {as bs : List Nat} {n : Nat} {ls : Array Slot} {L : LL} (hp : as <+: bs) (h : L.all (lok as.length) = true) (N : lvh (gA D cI cZ as) ls n L) : lvh (gA D cI cZ bs) ls n L := by
  refine ⟨N.1, N.2.1, fun i v hi => ?_⟩
  have h1 : vok as.length v = true := List.all_eq_true.mp h (some v) (List.mem_of_getElem? hi)
  rw [vv_pre hp h1]
  exact N.2.2 i v hi
section CA
variable {l : Launch} {D : va_G} {cI cZ : ClassId} {d mc ms : Nat} {h : HD} {post : List CO → Mem → Prop} {pc : Nat} {L : LL} {st : List Vl} {sh : List CO} {s : Mem} {cells slots : Nat} {x y v : Int32}
theorem ac_iconst {n : Int} (hd : decode h.2.1 pc = .ok (.iconst n, 1)) (hv : Int32.ofInt n = v) (k : AC l D cI cZ d mc ms h post (pc + 1) L (.inl v :: st) sh s cells slots) : AC l D cI cZ d mc ms h post pc L st sh s cells slots := by
  intro p e S m args below meth c H locs ls as0 as sz X hi K hz hp hl P hD Z N
  exact lv_iconst X.1 X.2.1 hd hv (k p e S m args below meth c H locs ls as0 as sz X hi K hz hp hl P hD Z N)
theorem ac_bipush {n : Int} (hd : decode h.2.1 pc = .ok (.bipush n, 2)) (hv : (Int8.ofInt n).toInt32 = v) (k : AC l D cI cZ d mc ms h post (pc + 2) L (.inl v :: st) sh s cells slots) : AC l D cI cZ d mc ms h post pc L st sh s cells slots := by
  intro p e S m args below meth c H locs ls as0 as sz X hi K hz hp hl P hD Z N
  exact lv_bipush X.1 X.2.1 hd hv (k p e S m args below meth c H locs ls as0 as sz X hi K hz hp hl P hD Z N)
theorem ac_sipush {n : Int} (hd : decode h.2.1 pc = .ok (.sipush n, 3)) (hv : (Int16.ofInt n).toInt32 = v) (k : AC l D cI cZ d mc ms h post (pc + 3) L (.inl v :: st) sh s cells slots) : AC l D cI cZ d mc ms h post pc L st sh s cells slots := by
  intro p e S m args below meth c H locs ls as0 as sz X hi K hz hp hl P hD Z N
  exact lv_sipush X.1 X.2.1 hd hv (k p e S m args below meth c H locs ls as0 as sz X hi K hz hp hl P hD Z N)
theorem ac_iload_n {i : Fin 4} (hd : decode h.2.1 pc = .ok (.iload_n i, 1)) (hL : L[(i : Nat)]? = some (some (.inl x))) (k : AC l D cI cZ d mc ms h post (pc + 1) L (.inl x :: st) sh s cells slots) : AC l D cI cZ d mc ms h post pc L st sh s cells slots := by
  intro p e S m args below meth c H locs ls as0 as sz X hi K hz hp hl P hD Z N
  exact lv_iload_n X.1 X.2.1 hd rfl (N.2.2 i _ hL) (k p e S m args below meth c H locs ls as0 as sz X hi K hz hp hl P hD Z N)
theorem ac_aload_n {i : Fin 4} {o : Nat} (hd : decode h.2.1 pc = .ok (.aload_n i, 1)) (hL : L[(i : Nat)]? = some (some (.inr o))) (k : AC l D cI cZ d mc ms h post (pc + 1) L (.inr o :: st) sh s cells slots) : AC l D cI cZ d mc ms h post pc L st sh s cells slots := by
  intro p e S m args below meth c H locs ls as0 as sz X hi K hz hp hl P hD Z N
  exact lv_aload_n X.1 X.2.1 hd rfl (N.2.2 i _ hL) (k p e S m args below meth c H locs ls as0 as sz X hi K hz hp hl P hD Z N)
theorem ac_istore_n {i : Fin 4} (hd : decode h.2.1 pc = .ok (.istore_n i, 1)) (hn : (i : Nat) < h.2.2.1) (k : AC l D cI cZ d mc ms h post (pc + 1) (L.set i (some (.inl x))) st sh s cells slots) : AC l D cI cZ d mc ms h post pc L (.inl x :: st) sh s cells slots := by
  intro p e S m args below meth c H locs ls as0 as sz X hi K hz hp hl P hD Z N
  exact lv_istore_n X.1 X.2.1 hd rfl (lvh_has N) hn rfl (fun ls' hl2 => k p e S m args below meth c H locs ls' as0 as sz X hi K hz hp hl P hD Z (lvh_set hl2))
theorem ac_iadd (hd : decode h.2.1 pc = .ok (.iadd, 1)) (k : AC l D cI cZ d mc ms h post (pc + 1) L (.inl (x + y) :: st) sh s cells slots) : AC l D cI cZ d mc ms h post pc L (.inl y :: .inl x :: st) sh s cells slots := by
  intro p e S m args below meth c H locs ls as0 as sz X hi K hz hp hl P hD Z N
  exact lv_iadd X.1 X.2.1 hd (k p e S m args below meth c H locs ls as0 as sz X hi K hz hp hl P hD Z N)
theorem ac_imul (hd : decode h.2.1 pc = .ok (.imul, 1)) (k : AC l D cI cZ d mc ms h post (pc + 1) L (.inl (x * y) :: st) sh s cells slots) : AC l D cI cZ d mc ms h post pc L (.inl y :: .inl x :: st) sh s cells slots := by
  intro p e S m args below meth c H locs ls as0 as sz X hi K hz hp hl P hD Z N
  exact lv_imul X.1 X.2.1 hd (k p e S m args below meth c H locs ls as0 as sz X hi K hz hp hl P hD Z N)
theorem ac_dup {a : Vl} (hd : decode h.2.1 pc = .ok (.dup, 1)) (k : AC l D cI cZ d mc ms h post (pc + 1) L (a :: a :: st) sh s cells slots) : AC l D cI cZ d mc ms h post pc L (a :: st) sh s cells slots := by
  intro p e S m args below meth c H locs ls as0 as sz X hi K hz hp hl P hD Z N
  exact lv_dup X.1 X.2.1 hd (vv_cat _ a) (k p e S m args below meth c H locs ls as0 as sz X hi K hz hp hl P hD Z N)
theorem ac_iinc {i : Nat} {n : Int} (hd : decode h.2.1 pc = .ok (.iinc i n, 3)) (hL : L[i]? = some (some (.inl x))) (hv : Int32.ofInt n = v) (hn : i < h.2.2.1) (k : AC l D cI cZ d mc ms h post (pc + 3) (L.set i (some (.inl (x + v)))) st sh s cells slots) : AC l D cI cZ d mc ms h post pc L st sh s cells slots := by
  intro p e S m args below meth c H locs ls as0 as sz X hi K hz hp hl P hD Z N
  subst hv
  obtain ⟨kk, hk⟩ := List.getElem?_of_mem (lvl_mem.mpr ⟨i, _, hL, rfl⟩ : (i, vv (gA D cI cZ as) (.inl x)) ∈ lvl (gA D cI cZ as) L)
  exact lv_iinc X.1 X.2.1 hd (lvh_has N) hk rfl hn rfl (fun ls' hl2 => k p e S m args below meth c H locs ls' as0 as sz X hi K hz hp hl P hD Z (lvh_set hl2))
theorem ac_goto {off : Int} {tgt : Nat} (hd : decode h.2.1 pc = .ok (.goto off, 3)) (ht : (pc : Int) + off = (tgt : Int)) (k : AC l D cI cZ d mc ms h post tgt L st sh s cells slots) : AC l D cI cZ d mc ms h post pc L st sh s cells slots := by
  intro p e S m args below meth c H locs ls as0 as sz X hi K hz hp hl P hD Z N
  exact lv_goto X.1 X.2.1 hd ht (k p e S m args below meth c H locs ls as0 as sz X hi K hz hp hl P hD Z N)
theorem ac_icmp_ge {off : Int} {tgt : Nat} (hd : decode h.2.1 pc = .ok (.if_icmp .ge off, 3)) (ht : (pc : Int) + off = (tgt : Int)) (kt : y ≤ x → AC l D cI cZ d mc ms h post tgt L st sh s cells slots) (kf : ¬ y ≤ x → AC l D cI cZ d mc ms h post (pc + 3) L st sh s cells slots) : AC l D cI cZ d mc ms h post pc L (.inl y :: .inl x :: st) sh s cells slots := by
  intro p e S m args below meth c H locs ls as0 as sz X hi K hz hp hl P hD Z N
  exact lv_icmp_ge X.1 X.2.1 hd ht (fun q => kt q p e S m args below meth c H locs ls as0 as sz X hi K hz hp hl P hD Z N) (fun q => kf q p e S m args below meth c H locs ls as0 as sz X hi K hz hp hl P hD Z N)
theorem ac_icmp_ne {off : Int} {tgt : Nat} (hd : decode h.2.1 pc = .ok (.if_icmp .ne off, 3)) (ht : (pc : Int) + off = (tgt : Int)) (kt : ¬ x = y → AC l D cI cZ d mc ms h post tgt L st sh s cells slots) (kf : x = y → AC l D cI cZ d mc ms h post (pc + 3) L st sh s cells slots) : AC l D cI cZ d mc ms h post pc L (.inl y :: .inl x :: st) sh s cells slots := by
  intro p e S m args below meth c H locs ls as0 as sz X hi K hz hp hl P hD Z N
  exact lv_icmp_ne X.1 X.2.1 hd ht (fun q => kt q p e S m args below meth c H locs ls as0 as sz X hi K hz hp hl P hD Z N) (fun q => kf q p e S m args below meth c H locs ls as0 as sz X hi K hz hp hl P hD Z N)
theorem ac_iastore {o n : Nat} (hd : decode h.2.1 pc = .ok (.iastore, 1)) (ho : sh[o]? = some (.inl (0, n))) (hin : vp_in y n) (k : AC l D cI cZ d mc ms h post (pc + 1) L st sh (wrM s o y.toNatClampNeg x) cells slots) : AC l D cI cZ d mc ms h post pc L (.inl x :: .inl y :: .inr o :: st) sh s cells slots := by
  intro p e S m args below meth c H locs ls as0 as sz X hi K hz hp hl P hD Z N
  refine va_iast X.1 X.2.1 K P hD Z o 0 (wdC_get ho) rfl hin hd (fun H1 locs1 P1 D1 Z1 => ?_)
  have e1 : wdC cI cZ as sh (wrM s o y.toNatClampNeg x) = (wdC cI cZ as sh s).set o (as.getD o 0, .inl (cI, n, .inl (upd (s o) y.toNatClampNeg x))) := by
    rw [← wdC_set ho]
    simp [entC, stM_self]
  exact k p e S m args below meth c H1 locs1 ls as0 as sz X hi K hz hp hl (by rw [e1]; exact P1) (by rw [e1]; exact D1) Z1 N
theorem ac_get {i o ci j n q : Nat} {C : String} {T : u_T} {fs : List (Option (Option Nat))} (hd : decode h.2.1 pc = .ok (.getfield i, 3)) (ho : sh[o]? = some (.inr (ci, fs))) (hc : vwCl[ci]? = some (C, T, n)) (hj : j < n) (hlk : lnkF h i (T j).1 (T j).2.1 (T j).2.2.1) (hf : fs[j]? = some (some (some q)))
    (k : AC l D cI cZ d mc ms h post (pc + 3) L (.inr q :: st) sh s cells slots) : AC l D cI cZ d mc ms h post pc L (.inr o :: st) sh s cells slots := by
  intro p e S m args below meth c H locs ls as0 as sz X hi K hz hp hl P hD Z N
  have hv : (fs.mapIdx (fldC as (s o)))[j]? = some (.ref (as.getD q 0)) := by rw [List.getElem?_mapIdx, hf]; rfl
  rcases hlk with hlk | hlk
  · exact va_get X.1 X.2.1 (cx_ws X) (lay_in hc) X.2.2.2.2.1 K P o (wdC_get ho) hc j hj (X.2.2.2.2.2.1 _ hlk rfl) (fun _ q => q) hv hd (k p e S m args below meth c H locs ls as0 as sz X hi K hz hp hl P hD Z N)
  · exact va_getN X.1 X.2.1 (cx_ws X) (lay_in hc) X.2.2.2.2.1 K P o (wdC_get ho) hc j hj (va_Nw.use rfl (X.2.2.2.2.2.2.1 _ hlk rfl)) (fun _ q => q) hv hd (k p e S m args below meth c H locs ls as0 as sz X hi K hz hp hl P hD Z N)
theorem ac_putF {i o ci j n q : Nat} {C : String} {T : u_T} {fs : List (Option (Option Nat))} {ty : FieldType} (hd : decode h.2.1 pc = .ok (.putfield i, 3)) (ho : sh[o]? = some (.inr (ci, fs))) (hc : vwCl[ci]? = some (C, T, n)) (hj : j < n) (hlk : Cond.fieldLink h.1.cls i (T j).1 (T j).2.1 (T j).2.2.1 ∈ lw_tbl) (hjl : j < fs.length) (hfin : (T j).2.2.2 = true) (hdec : (T j).1 = h.1.cls) (hty : parseFieldDescriptor (T j).2.2.1 = some ty) (hn : narrow ty (.ref 0) = .ref 0 ∧ fits ty (.ref 0) = true)
    (k : AC l D cI cZ d mc ms h post (pc + 3) L st (sh.set o (.inr (ci, fs.set j (some (some q))))) s cells slots) : AC l D cI cZ d mc ms h post pc L (.inr q :: .inr o :: st) sh s cells slots := by
  intro p e S m args below meth c H locs ls as0 as sz X hi K hz hp hl P hD Z N
  obtain ⟨ty0, ht0, hnm0⟩ := cls_ok hc
  have hn2 : ∀ a : Nat, narrow ty (.ref a) = .ref a ∧ fits ty (.ref a) = true := by
    intro a
    cases ty <;> first | exact ⟨rfl, rfl⟩ | exact absurd hn.2 (by decide)
  refine va_putF X.1 X.2.1 (cx_ws X) (lay_in hc) ty0 ht0 hnm0 X.2.2.2.2.1 K P hD Z o (wdC_get ho) hc j hj (X.2.2.2.2.2.1 _ hlk rfl) (fun _ q => q) hfin hi hdec hty (hn2 _).1 (hn2 _).2 (by simpa using hjl) hd (fun H1 locs1 P1 D1 Z1 => ?_)
  refine k p e S m args below meth c H1 locs1 ls as0 as sz X hi K hz hp (by simpa using hl) ?_ ?_ Z1 N
  · rw [← wdC_fld ho]; exact P1
  · rw [← wdC_fld ho]; exact D1
theorem ac_newa {aty : ArrayType} {t N' : Nat} {ty : FieldType} (hd : decode h.2.1 pc = .ok (.newarray aty, 2)) (hty : newarray.typeOf aty = ty) (ht : (t = 0 ∧ ty = .int) ∨ (t = 1 ∧ ty = .boolean)) (harr : Cond.arrayClass ty ∈ lw_tbl) (hx0 : ¬ x < 0) (hN : x.toNatClampNeg = N') (hbytes : N' ≤ 100000) (hcells : cells + 1 ≤ mc) (hslots : slots + N' ≤ ms) (hcl : clo sh.length sh = true) (hst : st.all (vok sh.length) = true) (hLL : L.all (lok sh.length) = true)
    (k : AC l D cI cZ d mc ms h post (pc + 2) L (.inr sh.length :: st) (sh ++ [.inl (t, N')]) (stM s sh.length (fun _ => 0)) (cells + 1) (slots + N')) : AC l D cI cZ d mc ms h post pc L (.inl x :: st) sh s cells slots := by
  intro p e S m args below meth c H locs ls as0 as sz X hi K hz hp hl P hD Z N
  have hA : ∀ q, S.heap.size ≤ q → A0 as0 sz q := fun q hq => Or.inr (by rw [← hz]; exact hq)
  subst hty
  have hb1 : N' * componentBytes (newarray.typeOf aty) ≤ 536870912 := by
    rcases ht with ⟨-, e1⟩ | ⟨-, e1⟩ <;> rw [e1] <;> simp only [componentBytes] <;> omega
  refine va_newaK X.1 X.2.1 (X.2.2.2.2.2.1 _ harr (by rcases ht with ⟨-, e1⟩ | ⟨-, e1⟩ <;> rw [e1] <;> rfl)) rfl hd rfl hx0 hN hb1 hcells hslots rfl (fun H1 cA e1 z1 o1 hAr hNm => ?_)
  have hcA : cA = if t = 0 then cI else cZ := by
    rcases ht with ⟨rfl, e2⟩ | ⟨rfl, e2⟩
    · rw [e2] at hNm
      exact Option.some.inj (hNm.symm.trans (K.2 0 _ rfl).2)
    · rw [e2] at hNm
      exact Option.some.inj (hNm.symm.trans (K.2 1 _ rfl).2)
  have hk : ∀ (k : Nat) (z : Nat × va_E), (wdC cI cZ as sh s)[k]? = some z → H1[z.1]? = H[z.1]? := fun k z hz => o1 z.1 ((P k z hz).lt)
  have ew := wdC_ext (cI := cI) (cZ := cZ) (s := s) (q := H.size) (c := .inl (t, N')) (f := fun _ => 0) hl hcl
  have hl1 : (as ++ [H.size]).length = (sh ++ [(.inl (t, N') : CO)]).length := by simp [hl]
  have ee : entC cI cZ (as ++ [H.size]) (stM s sh.length (fun _ => 0)) sh.length (.inl (t, N')) = .inl (if t = 0 then cI else cZ, N', .inl (fun _ => 0)) := by simp [entC, stM_self]
  rw [ee] at ew
  refine (W.eq (g2 := F0 m (pc + 2) ls ((.inr sh.length :: st).map (vv (gA D cI cZ (as ++ [H.size]))))) ?_ (k p e S m args below meth c H1 locs ls as0 (as ++ [H.size]) sz X hi K hz (hp.trans (List.prefix_append _ _)) hl1 ?_ ?_ ⟨Nat.le_trans Z.1 (by omega), fun q h1 h2 => (o1 q (Nat.lt_of_lt_of_le h1 Z.1)).trans (Z.2.1 q h1 h2), Z.2.2⟩ (lvh_ext (by rw [hl]; exact hLL) N)))
  · have e3 : vv (gA D cI cZ (as ++ [H.size])) (.inr sh.length) = .ref H.size := by
      simp only [vv, gA]
      rw [← hl, getD_new]
    show F0 m (pc + 2) ls (Value.ref H.size :: st.map (vv (gA D cI cZ as))) = F0 m (pc + 2) ls (vv (gA D cI cZ (as ++ [H.size])) (.inr sh.length) :: st.map (vv (gA D cI cZ (as ++ [H.size]))))
    rw [e3, st_ext (by rw [hl]; exact hst)]
  · rw [ew]
    refine (P.kept hk).app (fun k z hz => ?_)
    have hz' : k < 1 := (List.getElem?_eq_some_iff.mp hz).1
    rw [show k = 0 by omega] at hz
    cases hz
    show H1[H.size]? = some (vp_cell _ _)
    rw [e1, hcA, vp_cell_i]
    congr 2
    rcases ht with ⟨-, e2⟩ | ⟨-, e2⟩ <;> rw [e2] <;> rfl
  · rw [ew]
    exact hD.push P rfl (hA _ Z.1)
theorem ac_new {i ci n : Nat} {C : String} {T : u_T} {fs : List (Option (Option Nat))} (hd : decode h.2.1 pc = .ok (.new i, 3)) (hc : vwCl[ci]? = some (C, T, n)) (hlk : Cond.classLink h.1.cls i C ∈ lw_tbl) (hins : Cond.instantiable C n ∈ lw_tbl) (hini : Cond.initialized C ∈ lw_tbl) (hb : blkOk ci fs) (hcells : cells + 1 ≤ mc) (hslots : slots + n ≤ ms) (hcl : clo sh.length sh = true) (hst : st.all (vok sh.length) = true) (hLL : L.all (lok sh.length) = true)
    (k : AC l D cI cZ d mc ms h post (pc + 3) L (.inr sh.length :: st) (sh ++ [.inr (ci, fs)]) (stM s sh.length (fun _ => 0)) (cells + 1) (slots + n)) : AC l D cI cZ d mc ms h post pc L st sh s cells slots := by
  intro p e S m args below meth c H locs ls as0 as sz X hi K hz hp hl P hD Z N
  have hA : ∀ q, S.heap.size ≤ q → A0 as0 sz q := fun q hq => Or.inr (by rw [← hz]; exact hq)
  obtain ⟨ty0, ht0, hb0⟩ := hb C T n hc
  refine va_new (fs := fs.mapIdx (fldC [] (fun _ => 0))) X.1 X.2.1 (cx_ws X) (lay_in hc) ty0 ht0 X.2.2.2.2.1 (X.2.2.2.2.2.1 _ hlk rfl) (X.2.2.2.2.2.1 _ hins rfl) (X.2.2.2.2.2.1 _ hini rfl) K P hD Z hA hc hb0.1 hcells hslots hd (fun q H1 P1 D1 Z1 => ?_)
  have ew := wdC_ext (cI := cI) (cZ := cZ) (s := s) (q := q) (c := .inr (ci, fs)) (f := fun _ => 0) hl hcl
  have hl1 : (as ++ [q]).length = (sh ++ [(.inr (ci, fs) : CO)]).length := by simp [hl]
  have ee : entC cI cZ (as ++ [q]) (stM s sh.length (fun _ => 0)) sh.length (.inr (ci, fs)) = .inr (ci, fs.mapIdx (fldC [] (fun _ => 0))) := by
    simp only [entC, stM_self]
    rw [hb0.2 (as ++ [q])]
  rw [ee] at ew
  refine (W.eq (g2 := F0 m (pc + 3) ls ((.inr sh.length :: st).map (vv (gA D cI cZ (as ++ [q]))))) ?_ (k p e S m args below meth c H1 locs ls as0 (as ++ [q]) sz X hi K hz (hp.trans (List.prefix_append _ _)) hl1 (by rw [ew]; exact P1) (by rw [ew]; exact D1) Z1 (lvh_ext (by rw [hl]; exact hLL) N)))
  have e3 : vv (gA D cI cZ (as ++ [q])) (.inr sh.length) = .ref q := by
    simp only [vv, gA]
    rw [← hl, getD_new]
  rw [List.map_cons, e3, st_ext (by rw [hl]; exact hst)]
theorem ac_obj {i o : Nat} (hd : decode h.2.1 pc = .ok (.invokespecial i, 3)) (hlk : Cond.methodLink h.1.cls i objectInit ∈ lw_tbl) (hst : st.length ≤ 8) (hd1 : 1 ≤ d)
    (k : AC l D cI cZ d mc ms h post (pc + 3) L st sh s cells slots) : AC l D cI cZ d mc ms h post pc L (.inr o :: st) sh s cells slots := by
  intro p e S m args below meth c H locs ls as0 as sz X hi K hz hp hl P hD Z N
  refine W.objInit X.1 X.2.1 X.2.2.2.2.1 (X.2.2.2.2.2.1 _ hlk rfl) (X.2.2.2.2.2.1 _ objI_in rfl) (X.2.2.2.2.2.1 _ objC_in rfl) rfl (N.1.trans X.2.2.2.1.symm) rfl hd hd1 ?_ (k p e S m args below meth c H locs ls as0 as sz X hi K hz hp hl P hD Z N)
  show 2 * 0 + ((st.map (vv (gA D cI cZ as))).map fun v => v.category).sum + 12 ≤ 60 * d
  rw [st_cat]
  omega
theorem ac_ret (hd : decode h.2.1 pc = .ok (.return_, 1)) (hr : h.2.2.2 = none) (hc1 : cells ≤ mc) (hs1 : slots ≤ ms) (hp1 : post sh s) : AC l D cI cZ d mc ms h post pc L [] sh s cells slots := by
  intro p e S m args below meth c H locs ls as0 as sz X hi K hz hp hl P hD Z N
  refine W.widen (k := mc) (n := ms) hc1 hs1 ?_
  exact W.vret X.1 X.2.1 (X.2.2.1.trans hr) (fun t ht hW => ⟨⟨as, sh, s, rfl, hp1, hp, hl, by rw [ht]; exact P, hD⟩, Z.F ht⟩) Z.2.2 hd X.2.2.2.2.2.2.2
theorem ac_call {hc : HD} {As : List Vl} {o i d' mc' ms' : Nat} {post' : List CO → Mem → Prop} (hd : decode h.2.1 pc = .ok (.invokespecial i, 3)) (hlt : d' < d) (hlk : lnkM h i hc.1) (hs : Cond.instanceMethod hc.1 ∈ lw_tbl) (hini : Cond.initialized hc.1.cls ∈ lw_tbl) (hnm : hc.1.name = "<init>") (hno : nameOk hc As.length) (hmx : hc.2.2.1 ≤ 41) (hcells : cells + mc' ≤ mc) (hslots : slots + ms' ≤ ms) (hst : st.all (vok sh.length) = true) (hsl : st.length ≤ 8) (hLL : L.all (lok sh.length) = true)
    (M : CSpec l D cI cZ d' mc' ms' hc (.inr o :: As) sh s post')
    (k : ∀ (sh' : List CO) (s' : Mem), post' sh' s' → AC l D cI cZ d mc ms h post (pc + 3) L st sh' s' (cells + mc') (slots + ms')) : AC l D cI cZ d mc ms h post pc L (As.reverse ++ .inr o :: st) sh s cells slots := by
  intro p e S m args below meth c H locs ls as0 as sz X hi K hz hp hl P hD Z N
  have hA : ∀ q, S.heap.size ≤ q → A0 as0 sz q := fun q hq => Or.inr (by rw [← hz]; exact hq)
  obtain ⟨hin, hrt, M⟩ := M
  have hroom : (rmC d' mc' ms').frames + 1 ≤ (rmC d mc ms).frames ∧ 8 + (hc.2.2.1 + 11) + (rmC d' mc' ms').locals ≤ (rmC d mc ms).locals := ⟨hlt, by show 8 + (hc.2.2.1 + 11) + 60 * d' ≤ 60 * d; omega⟩
  have hsub : ∀ q, A0 as H.size q → A0 as0 sz q := by
    rintro q (hq | hq)
    · obtain ⟨j, hj⟩ := List.getElem?_of_mem hq
      have hjl := (List.getElem?_eq_some_iff.mp hj).1
      have hsj : ∃ cc, sh[j]? = some cc := ⟨_, List.getElem?_eq_getElem (by omega)⟩
      obtain ⟨cc, hcc⟩ := hsj
      have := hD.2 j _ (wdC_get hcc)
      simpa [List.getD_eq_getElem?_getD, hj] using this
    · exact hA q (Nat.le_trans Z.1 hq)
  have hpre : PreS S H (va_Pc ((.inr o :: As : List Vl).map (vv (gA D cI cZ as))) (fun U => U.heap.size = H.size ∧ va_P D vwCl (wdC cI cZ as sh s) U.heap ∧ PK (gA D cI cZ as) U ∧ va_D (fun _ => True) (wdC cI cZ as sh s) ∧ NWS U)) (.ref (as.getD o 0) :: As.map (vv (gA D cI cZ as))) := by
    refine ⟨?_, fun U hU hW => ⟨rfl, by rw [hU], by rw [hU]; exact P, va_K.moved hW.alike K, hD.weaken (fun _ _ _ _ => trivial), NWS.warm hW X.2.2.2.2.2.2.1⟩⟩
    rintro a U g mk ⟨q0, q1, qP, qK, qD, qN⟩
    exact ⟨q0, q1, qP, va_K.moved (u := U) (U := U.calling g mk a) (Vm.Alike.refl U.vm) qK, qD, NWS.same (s := U) (U := U.calling g mk a) rfl qN⟩
  have hfix : CallFix p m c h.2.1 h.2.2.1 S args WSg h.1.cls := ⟨X.1, X.2.1, X.2.2.2.1, X.2.2.2.2.1, cx_ws X⟩
  have hstk : (F0 m pc ls ((As.reverse ++ .inr o :: st).map (vv (gA D cI cZ as)))).stack = (As.map (vv (gA D cI cZ as))).reverse ++ .ref (as.getD o 0) :: st.map (vv (gA D cI cZ as)) := by simp [vv, gA]
  have hwd : 2 * (F0 m pc ls ((As.reverse ++ .inr o :: st).map (vv (gA D cI cZ as)))).monitorRoom + ((st.map (vv (gA D cI cZ as))).map fun v => v.category).sum ≤ 8 := lv_room (by rw [st_cat]; exact hsl)
  have hrun : va_Run p l e (rmC d mc ms) S m args below meth c H locs cells slots mc' ms' (F0 m pc ls ((As.reverse ++ .inr o :: st).map (vv (gA D cI cZ as)))) (st.map (vv (gA D cI cZ as))) (QC D cI cZ as H.size post' (Value.ref (as.getD o 0) :: As.map (vv (gA D cI cZ as))).toArray) (A0 as H.size) := by
    have hw2 : Cond.code hc.1 hc.2.1 hc.2.2.1 hc.2.2.2 :: WSg = Cond.code hc.1 hc.2.1 hc.2.2.1 none :: WSg := by rw [hrt]
    rcases hlk with hlk | hlk
    · exact va_runI hfix (M as H.size hl) ⟨callB_of As.length (cx_ws X) (ws_good (h := h) hin) hw2 rfl rfl (X.2.2.2.2.2.1 _ hini rfl) (X.2.2.2.2.2.1 _ hlk rfl) hno hroom, hnm, X.2.2.2.2.2.1 _ hs rfl⟩ hpre rfl (by simp) N.1 hstk hwd hd ⟨hcells, hslots⟩
    · exact va_runIN hfix (M as H.size hl) ⟨va_cnB As.length (cx_ws X) (ws_good (h := h) hin) hw2 rfl rfl (X.2.2.2.2.2.2.1 _ hlk rfl) (X.2.2.2.2.2.1 _ hini rfl) hno hroom, hnm, X.2.2.2.2.2.1 _ hs rfl⟩ hpre rfl (by simp) N.1 hstk hwd hd ⟨hcells, hslots⟩
  intro T hT XS
  obtain ⟨v, st₀, t, T', L', h0, X', hL, e1, e2, ⟨⟨as1, sh1, s1, hv, hp1, hpre1, hl1, hP1, hD1⟩, hz1, hk⟩, stp⟩ := hrun T hT XS
  rw [h0] at hz1 hk
  have Z1 : va_S (A0 as0 sz) S.heap T'.heap (locs ++ L') := ⟨Nat.le_trans Z.1 (by rw [e1]; exact hz1), fun q h1 h2 => by rw [e1, hk q (Nat.lt_of_lt_of_le h1 Z.1) (fun z => h2 (hsub q z))]; exact Z.2.1 q h1 h2, fun q hq => by
    rcases List.mem_append.mp hq with h | h
    · exact Z.2.2 q h
    · exact hsub _ (hL q h)⟩
  obtain ⟨t2, a1, b1⟩ := k sh1 s1 hp1 p e S m args below meth c T'.heap (locs ++ L') ls as0 as1 sz X hi K hz (hp.trans hpre1) hl1 (by rw [e1]; exact hP1) (hD1.weaken (fun _ q _ hq => hsub q.1 hq)) Z1 (lvh_pre hpre1 (by rw [hl]; exact hLL) N) T' rfl X'
  refine ⟨t2, stp t2 ?_, b1⟩
  have hv' : v = none := Outcome.returned.inj hv
  rw [st_pre hpre1 (by rw [hl]; exact hst)] at a1
  rw [hv']
  exact a1
end CA

theorem cspec_of {l : Launch} {D : va_G} {cI cZ : ClassId} {d mc ms : Nat} {h : HD} {As : List Vl} {sh : List CO} {s : Mem} {post : List CO → Mem → Prop} (hin : Cond.code h.1 h.2.1 h.2.2.1 h.2.2.2 ∈ lw_tbl) (hr : h.2.2.2 = none) (hp : plainName h.1.cls = true) (hnm : h.1.name = "<init>") (hl : As.length ≤ h.2.2.1) (k : AC l D cI cZ d mc ms h post 0 (As.map some ++ List.replicate (h.2.2.1 - As.length) none) [] sh s 0 0) : CSpec l D cI cZ d mc ms h As sh s post := by
  refine ⟨hin, hr, fun as0 sz has => Met.ofW (cc := h.2.1) (maxL := h.2.2.1) (ret := h.2.2.2) hp rfl ?_⟩
  intro p e S m args below meth c s₁ B hml hv
  obtain ⟨rfl, hsz, hP, hK, hD, hN⟩ := hv
  have hts := atoms_spec (ws := Cond.code h.1 h.2.1 h.2.2.1 h.2.2.2 :: WSg) B.pre
  have X : CX p S m (As.map (vv (gA D cI cZ as0))).toArray meth c h := ⟨B.exec, B.bytes, B.returns, hml, findClass_of_methodNamed B.named, fun w hw hg => hts w (List.mem_cons_of_mem _ (List.mem_filter.mpr ⟨hw, hg⟩)), hN, B.notSynchronized⟩
  have hinit : meth.name = "<init>" := (name_of_methodNamed B.named B.method).1.trans hnm
  have lsl : ∀ A : List Vl, (lg_sl (A.map (vv (gA D cI cZ as0)))).length = A.length := by
    intro A
    induction A with
    | nil => rfl
    | cons a r ih =>
      simp only [lg_sl, List.map_cons, List.flatMap_cons, vv_cat, List.length_append, List.length_cons] at ih ⊢
      simp [ih]
      omega
  have hle := lv_entry (As.map (vv (gA D cI cZ as0))) (n := h.2.2.1) (by rw [lsl]; exact hl)
  rw [lg_entry_eq]
  have arg : ∀ (A : List Vl) (n i : Nat) (v : Vl), A[i]? = some v → (n + i, vv (gA D cI cZ as0) v) ∈ lv_args n (A.map (vv (gA D cI cZ as0))) := by
    intro A
    induction A with
    | nil => intro n i v hi; simp at hi
    | cons a r ih =>
      intro n i v hi
      cases i with
      | zero => simp at hi; subst hi; simp [lv_args]
      | succ i =>
        simp at hi
        have := ih (n + 1) i v hi
        simp only [List.map_cons, lv_args, vv_cat]
        refine List.mem_cons_of_mem _ ?_
        rw [show n + (i + 1) = n + 1 + i by omega]
        exact this
  have hD0 : va_D (A0 as0 sz) (wdC cI cZ as0 sh s) := by
    refine ⟨hD.1, fun k q hk => Or.inl ?_⟩
    simp only [wdC, List.getElem?_mapIdx] at hk
    cases hc : sh[k]? with
    | none => rw [hc] at hk; cases hk
    | some cc =>
      rw [hc] at hk
      cases hk
      have hlt : k < as0.length := by rw [has]; exact (List.getElem?_eq_some_iff.mp hc).1
      have : as0.getD k 0 = as0[k] := by simp [List.getD_eq_getElem?_getD, hlt]
      show as0.getD k 0 ∈ as0
      rw [this]
      exact List.getElem_mem hlt
  refine k p e S m _ below meth c S.heap [] _ as0 as0 sz X hinit hK hsz (List.prefix_refl _) has hP hD0 va_S.rf ⟨hle.1, hle.2.1, fun i v hi => ?_⟩
  by_cases hil : i < (As.map some).length
  · rw [List.getElem?_append_left hil, List.getElem?_map] at hi
    cases ha : As[i]? with
    | none => rw [ha] at hi; cases hi
    | some w =>
      rw [ha] at hi
      cases hi
      have := hle.2.2 (0 + i, vv (gA D cI cZ as0) v) (arg As 0 i v ha)
      simpa using this
  · rw [List.getElem?_append_right (by omega), List.getElem?_replicate] at hi
    split at hi <;> cases hi
def okRef (n : Nat) (L : LL) (st : List Vl) : Bool := L.all (lok n) && st.all (vok n) && Nat.ble st.length 8
def semC (l : Launch) (D : va_G) (cI cZ : ClassId) (d mc ms : Nat) (h : HD) (e : En) (pc : Nat) (L : LL) (st : List Vl) (sh : List CO) (s : Mem) (cells slots : Nat) (post : List CO → Mem → Prop) (K : Nat → LL → List Vl → List CO → Mem → Nat → Nat → Prop) : Prop :=
  match e.1 with
  | .iconst _ => K (pc + 1) L (.inl e.2.2.2.2.1 :: st) sh s cells slots
  | .bipush _ => K (pc + 2) L (.inl e.2.2.2.2.1 :: st) sh s cells slots
  | .sipush _ => K (pc + 3) L (.inl e.2.2.2.2.1 :: st) sh s cells slots
  | .iload_n i => ldI L i (fun x => K (pc + 1) L (.inl x :: st) sh s cells slots)
  | .aload_n i => ldA L i (fun o => K (pc + 1) L (.inr o :: st) sh s cells slots)
  | .istore_n i => un1 st (fun x r => K (pc + 1) (L.set i (some (.inl x))) r sh s cells slots)
  | .iinc i _ => ldI L i (fun x => K (pc + 3) (L.set i (some (.inl (x + e.2.2.2.2.1)))) st sh s cells slots)
  | .iadd => bi2 st (fun x y r => K (pc + 1) L (.inl (x + y) :: r) sh s cells slots)
  | .imul => bi2 st (fun x y r => K (pc + 1) L (.inl (x * y) :: r) sh s cells slots)
  | .goto _ => K e.2.2.1 L st sh s cells slots
  | .dup => match st with
    | a :: r => K (pc + 1) L (a :: a :: r) sh s cells slots
    | _ => False
  | .if_icmp .ge _ => bi2 st (fun x y r => (y ≤ x → K e.2.2.1 L r sh s cells slots) ∧ (¬ y ≤ x → K (pc + 3) L r sh s cells slots))
  | .if_icmp .ne _ => bi2 st (fun x y r => (¬ x = y → K e.2.2.1 L r sh s cells slots) ∧ (x = y → K (pc + 3) L r sh s cells slots))
  | .iastore => bi2 st (fun y x r => ob1 r (fun o r => match sh[o]? with
    | some (.inl (0, n)) => vp_in y n ∧ K (pc + 1) L r sh (wrM s o y.toNatClampNeg x) cells slots
    | _ => False))
  | .getfield _ => ob1 st (fun o r => match sh[o]? with
    | some (.inr (ci, fs)) => bt1 (Nat.beq ci e.2.2.1) (match fs[e.2.2.2.1]? with
      | some (some (some q)) => K (pc + 3) L (.inr q :: r) sh s cells slots
      | _ => False)
    | _ => False)
  | .putfield _ => ob1 st (fun q r => ob1 r (fun o r => match sh[o]? with
    | some (.inr (ci, fs)) => bt1 (Nat.beq ci e.2.2.1 && Nat.blt e.2.2.2.1 fs.length) (K (pc + 3) L r (sh.set o (.inr (ci, fs.set e.2.2.2.1 (some (some q))))) s cells slots)
    | _ => False))
  | .newarray _ => un1 st (fun x r => bt1 (decide (x = e.2.2.2.2.1) && (Nat.ble (cells + 1) mc && Nat.ble (slots + e.2.2.2.1) ms && clo sh.length sh && okRef sh.length L r)) (K (pc + 2) L (.inr sh.length :: r) (sh ++ [.inl (e.2.2.1, e.2.2.2.1)]) (stM s sh.length (fun _ => 0)) (cells + 1) (slots + e.2.2.2.1)))
  | .new _ => bt1 (Nat.ble (cells + 1) mc && Nat.ble (slots + e.2.2.2.1) ms && clo sh.length sh && okRef sh.length L st) (K (pc + 3) L (.inr sh.length :: st) (sh ++ [.inr (e.2.2.1, blk e.2.2.1)]) (stM s sh.length (fun _ => 0)) (cells + 1) (slots + e.2.2.2.1))
  | .invokespecial _ => match Nat.beq e.2.2.1 9 with
    | true => ob1 st (fun _ r => bt1 (Nat.ble r.length 8 && Nat.ble 1 d) (K (pc + 3) L r sh s cells slots))
    | false => bt1 (Nat.ble e.2.2.2.1 st.length) (ob1 (st.drop e.2.2.2.1) (fun o r => bt1 (okRef sh.length L r) (∃ (d' mc' ms' : Nat) (post' : List CO → Mem → Prop), d' < d ∧ cells + mc' ≤ mc ∧ slots + ms' ≤ ms ∧ CSpec l D cI cZ d' mc' ms' e.2.2.2.2.2.1 (.inr o :: (st.take e.2.2.2.1).reverse) sh s post' ∧ ∀ (sh' : List CO) (s' : Mem), post' sh' s' → K (pc + 3) L r sh' s' (cells + mc') (slots + ms'))))
  | .return_ => match st with
    | [] => bt1 (Nat.ble cells mc && Nat.ble slots ms) (post sh s)
    | _ => False
  | _ => False
def okPF (h : HD) (ci j : Nat) : Bool := match vwCl[ci]? with
  | some q => (q.2.1 j).2.2.2 && decide ((q.2.1 j).1 = h.1.cls) && decide (j < q.2.2) && (match parseFieldDescriptor (q.2.1 j).2.2.1 with
    | some ty => decide (narrow ty (.ref 0) = .ref 0) && fits ty (.ref 0)
    | none => false)
  | none => false
def okFL (i0 : Nat) (h : HD) (i ci j : Nat) : Bool := match vwCl[ci]? with
  | some q => bIn i0 (.fieldLink h.1.cls i (q.2.1 j).1 (q.2.1 j).2.1 (q.2.1 j).2.2.1)
  | none => false
def okC (h : HD) (pc : Nat) (e : En) : Bool := match e.1 with
  | .putfield i => decide (decode h.2.1 pc = .ok (e.1, e.2.1)) && okPF h e.2.2.1 e.2.2.2.1 && okFL (e.2.2.2.2.2.2.getD 0 0) h i e.2.2.1 e.2.2.2.1 && Nat.beq e.2.1 3
  | .newarray aty => decide (decode h.2.1 pc = .ok (e.1, e.2.1)) && Nat.beq e.2.1 2 && decide ((e.2.2.1 = 0 ∧ newarray.typeOf aty = .int) ∨ (e.2.2.1 = 1 ∧ newarray.typeOf aty = .boolean)) && bIn (e.2.2.2.2.2.2.getD 0 0) (.arrayClass (newarray.typeOf aty)) && decide (¬ e.2.2.2.2.1 < 0 ∧ e.2.2.2.2.1.toNatClampNeg = e.2.2.2.1 ∧ e.2.2.2.1 ≤ 100000)
  | .new i => decide (decode h.2.1 pc = .ok (e.1, e.2.1)) && Nat.beq e.2.1 3 && (match vwCl[e.2.2.1]? with
    | some q => Nat.beq e.2.2.2.1 q.2.2 && bIn (e.2.2.2.2.2.2.getD 0 0) (.classLink h.1.cls i q.1) && bIn (e.2.2.2.2.2.2.getD 1 0) (.instantiable q.1 q.2.2) && bIn (e.2.2.2.2.2.2.getD 2 0) (.initialized q.1)
    | none => false)
  | .invokespecial i => decide (decode h.2.1 pc = .ok (e.1, e.2.1)) && Nat.beq e.2.1 3 && (match Nat.beq e.2.2.1 9 with
    | true => bIn (e.2.2.2.2.2.2.getD 0 0) (.methodLink h.1.cls i objectInit)
    | false => okM e.2.2.2.2.2.2 h e.2.2.2.2.2.1 i e.2.2.2.1 && bIn (e.2.2.2.2.2.2.getD 2 0) (.instanceMethod e.2.2.2.2.2.1.1) && decide (e.2.2.2.2.2.1.1.name = "<init>"))
  | _ => okE h pc e
theorem okRef_e {n : Nat} {L : LL} {st : List Vl} (h : okRef n L st = true) : L.all (lok n) = true ∧ st.all (vok n) = true ∧ st.length ≤ 8 := by
  simp only [okRef, Bool.and_eq_true] at h
  exact ⟨h.1.1, h.1.2, Nat.le_of_ble_eq_true h.2⟩
set_option maxRecDepth 100000 in
set_option maxHeartbeats 4000000 in
theorem semC_ok {l : Launch} {D : va_G} {cI cZ : ClassId} {d mc ms : Nat} {h : HD} {e : En} {pc : Nat} {L : LL} {st : List Vl} {sh : List CO} {s : Mem} {cells slots : Nat} {post : List CO → Mem → Prop} {K : Nat → LL → List Vl → List CO → Mem → Nat → Nat → Prop}
    (hr : h.2.2.2 = none) (ho : okC h pc e = true) (hK : ∀ pc L st sh s cells slots, K pc L st sh s cells slots → AC l D cI cZ d mc ms h post pc L st sh s cells slots) (hs : semC l D cI cZ d mc ms h e pc L st sh s cells slots post K) : AC l D cI cZ d mc ms h post pc L st sh s cells slots := by
  obtain ⟨ins, len, a, b, v, hc, hnt⟩ := e
  cases ins
  case iconst n =>
    simp only [okC, okE, Bool.and_eq_true, decide_eq_true_eq] at ho
    obtain rfl : len = 1 := Nat.eq_of_beq_eq_true ho.2.2
    exact ac_iconst ho.1 ho.2.1 (hK _ _ _ _ _ _ _ hs)
  case bipush n =>
    simp only [okC, okE, Bool.and_eq_true, decide_eq_true_eq] at ho
    obtain rfl : len = 2 := Nat.eq_of_beq_eq_true ho.2.2
    exact ac_bipush ho.1 ho.2.1 (hK _ _ _ _ _ _ _ hs)
  case sipush n =>
    simp only [okC, okE, Bool.and_eq_true, decide_eq_true_eq] at ho
    obtain rfl : len = 3 := Nat.eq_of_beq_eq_true ho.2.2
    exact ac_sipush ho.1 ho.2.1 (hK _ _ _ _ _ _ _ hs)
  case iload_n i =>
    simp only [okC, okE, Bool.and_eq_true, decide_eq_true_eq] at ho
    obtain rfl : len = 1 := Nat.eq_of_beq_eq_true ho.2
    obtain ⟨x, hx, hs⟩ := ldI_e hs
    exact ac_iload_n ho.1 hx (hK _ _ _ _ _ _ _ hs)
  case aload_n i =>
    simp only [okC, okE, Bool.and_eq_true, decide_eq_true_eq] at ho
    obtain rfl : len = 1 := Nat.eq_of_beq_eq_true ho.2
    obtain ⟨x, hx, hs⟩ := ldA_e hs
    exact ac_aload_n ho.1 hx (hK _ _ _ _ _ _ _ hs)
  case istore_n i =>
    simp only [okC, okE, Bool.and_eq_true, decide_eq_true_eq] at ho
    obtain rfl : len = 1 := Nat.eq_of_beq_eq_true ho.2.2
    obtain ⟨x, r, rfl, hs⟩ := un1_e hs
    exact ac_istore_n ho.1 ho.2.1 (hK _ _ _ _ _ _ _ hs)
  case iinc i n =>
    simp only [okC, okE, Bool.and_eq_true, decide_eq_true_eq] at ho
    obtain rfl : len = 3 := Nat.eq_of_beq_eq_true ho.2.2
    obtain ⟨x, hx, hs⟩ := ldI_e hs
    exact ac_iinc ho.1 hx ho.2.1.1 ho.2.1.2 (hK _ _ _ _ _ _ _ hs)
  case iadd =>
    simp only [okC, okE, Bool.and_eq_true, decide_eq_true_eq] at ho
    obtain rfl : len = 1 := Nat.eq_of_beq_eq_true ho.2
    obtain ⟨x, y, r, rfl, hs⟩ := bi2_e hs
    exact ac_iadd ho.1 (hK _ _ _ _ _ _ _ hs)
  case imul =>
    simp only [okC, okE, Bool.and_eq_true, decide_eq_true_eq] at ho
    obtain rfl : len = 1 := Nat.eq_of_beq_eq_true ho.2
    obtain ⟨x, y, r, rfl, hs⟩ := bi2_e hs
    exact ac_imul ho.1 (hK _ _ _ _ _ _ _ hs)
  case goto off =>
    simp only [okC, okE, Bool.and_eq_true, decide_eq_true_eq] at ho
    obtain rfl : len = 3 := Nat.eq_of_beq_eq_true ho.2.2
    exact ac_goto ho.1 ho.2.1 (hK _ _ _ _ _ _ _ hs)
  case dup =>
    simp only [okC, okE, Bool.and_eq_true, decide_eq_true_eq] at ho
    obtain rfl : len = 1 := Nat.eq_of_beq_eq_true ho.2
    match st, hs with
    | a :: r, hs => exact ac_dup ho.1 (hK _ _ _ _ _ _ _ hs)
  case if_icmp cnd off =>
    simp only [okC, okE, Bool.and_eq_true, decide_eq_true_eq] at ho
    obtain rfl : len = 3 := Nat.eq_of_beq_eq_true ho.2.2
    cases cnd
    case ge =>
      obtain ⟨x, y, r, rfl, h1, h2⟩ := bi2_e hs
      exact ac_icmp_ge ho.1 ho.2.1 (fun q => hK _ _ _ _ _ _ _ (h1 q)) (fun q => hK _ _ _ _ _ _ _ (h2 q))
    case ne =>
      obtain ⟨x, y, r, rfl, h1, h2⟩ := bi2_e hs
      exact ac_icmp_ne ho.1 ho.2.1 (fun q => hK _ _ _ _ _ _ _ (h1 q)) (fun q => hK _ _ _ _ _ _ _ (h2 q))
    all_goals exact hs.elim
  case iastore =>
    simp only [okC, okE, Bool.and_eq_true, decide_eq_true_eq] at ho
    obtain rfl : len = 1 := Nat.eq_of_beq_eq_true ho.2
    obtain ⟨y, x, r, rfl, hs1⟩ := bi2_e hs
    obtain ⟨o, r, rfl, hs2⟩ := ob1_e hs1
    split at hs2
    · rename_i n hn
      exact ac_iastore ho.1 hn hs2.1 (hK _ _ _ _ _ _ _ hs2.2)
    · exact hs2.elim
  case getfield i =>
    simp only [okC, okE, Bool.and_eq_true, decide_eq_true_eq] at ho
    obtain rfl : len = 3 := Nat.eq_of_beq_eq_true ho.2.2
    obtain ⟨C, T, N, hcl, hj, hl⟩ := okF_e ho.2.1
    obtain ⟨o, r, rfl, hs1⟩ := ob1_e hs
    split at hs1
    · rename_i ci fs hob
      obtain ⟨hci, hs2⟩ := bt1_e hs1
      have hci : ci = a := Nat.eq_of_beq_eq_true hci
      subst hci
      dsimp only at hs2 hcl hj hl
      split at hs2
      · rename_i q hf
        exact ac_get ho.1 hob hcl hj hl hf (hK _ _ _ _ _ _ _ hs2)
      · exact hs2.elim
    · exact hs1.elim
  case putfield i =>
    simp only [okC, Bool.and_eq_true, decide_eq_true_eq] at ho
    obtain ⟨⟨⟨hd, hpf⟩, hfl⟩, hln⟩ := ho
    obtain rfl : len = 3 := Nat.eq_of_beq_eq_true hln
    obtain ⟨q, r, rfl, hs1⟩ := ob1_e hs
    obtain ⟨o, r, rfl, hs2⟩ := ob1_e hs1
    split at hs2
    · rename_i ci fs hob
      obtain ⟨hb, hs3⟩ := bt1_e hs2
      simp only [Bool.and_eq_true] at hb
      have hci : ci = a := Nat.eq_of_beq_eq_true hb.1
      subst hci
      unfold okPF at hpf
      unfold okFL at hfl
      cases hv : vwCl[ci]? with
      | none => rw [hv] at hpf; cases hpf
      | some w =>
        obtain ⟨C, T, n⟩ := w
        rw [hv] at hpf hfl
        dsimp only at hpf hfl
        simp only [Bool.and_eq_true, decide_eq_true_eq] at hpf
        obtain ⟨⟨⟨hfin, hdec⟩, hj⟩, hty⟩ := hpf
        split at hty
        · rename_i ty hty1
          simp only [Bool.and_eq_true, decide_eq_true_eq] at hty
          exact ac_putF hd hob hv hj (bIn_e hfl) (blt_lt hb.2) hfin hdec hty1 hty (hK _ _ _ _ _ _ _ hs3)
        · cases hty
    · exact hs2.elim
  case newarray aty =>
    simp only [okC, Bool.and_eq_true, decide_eq_true_eq] at ho
    obtain ⟨⟨⟨⟨hd, hln⟩, hty⟩, harr⟩, hx0, hxN, hsm⟩ := ho
    obtain rfl : len = 2 := Nat.eq_of_beq_eq_true hln
    obtain ⟨x, r, rfl, hs⟩ := un1_e hs
    obtain ⟨hb, hs⟩ := bt1_e hs
    simp only [Bool.and_eq_true, decide_eq_true_eq] at hb
    obtain ⟨hxv, ⟨⟨hc1, hs1⟩, hclo⟩, hrf⟩ := hb
    subst hxv
    obtain ⟨r1, r2, r3⟩ := okRef_e hrf
    exact ac_newa hd rfl hty (bIn_e harr) hx0 hxN hsm (Nat.le_of_ble_eq_true hc1) (Nat.le_of_ble_eq_true hs1) hclo r2 r1 (hK _ _ _ _ _ _ _ hs)
  case new i =>
    simp only [okC, Bool.and_eq_true, decide_eq_true_eq] at ho
    obtain ⟨⟨hd, hln⟩, hcl⟩ := ho
    obtain rfl : len = 3 := Nat.eq_of_beq_eq_true hln
    cases hv : vwCl[a]? with
    | none => rw [hv] at hcl; cases hcl
    | some w =>
      obtain ⟨C, T, n⟩ := w
      rw [hv] at hcl
      dsimp only at hcl
      simp only [Bool.and_eq_true] at hcl
      obtain ⟨⟨⟨hn, h1⟩, h2⟩, h3⟩ := hcl
      have hn : b = n := Nat.eq_of_beq_eq_true hn
      subst hn
      obtain ⟨hb, hs⟩ := bt1_e hs
      simp only [Bool.and_eq_true] at hb
      obtain ⟨⟨⟨hc1, hs1⟩, hclo⟩, hrf⟩ := hb
      obtain ⟨r1, r2, r3⟩ := okRef_e hrf
      exact ac_new hd hv (bIn_e h1) (bIn_e h2) (bIn_e h3) (blk_ok a) (Nat.le_of_ble_eq_true hc1) (Nat.le_of_ble_eq_true hs1) hclo r2 r1 (hK _ _ _ _ _ _ _ hs)
  case invokespecial i =>
    simp only [okC, Bool.and_eq_true, decide_eq_true_eq] at ho
    obtain ⟨⟨hd, hln⟩, ho2⟩ := ho
    obtain rfl : len = 3 := Nat.eq_of_beq_eq_true hln
    dsimp only [semC] at hs
    cases ha : Nat.beq a 9 with
    | true =>
      rw [ha] at ho2 hs
      dsimp only at ho2 hs
      obtain ⟨o, r, rfl, hs⟩ := ob1_e hs
      obtain ⟨hb, hs⟩ := bt1_e hs
      simp only [Bool.and_eq_true] at hb
      exact ac_obj hd (bIn_e ho2) (Nat.le_of_ble_eq_true hb.1) (Nat.le_of_ble_eq_true hb.2) (hK _ _ _ _ _ _ _ hs)
    | false =>
      rw [ha] at ho2 hs
      dsimp only at ho2 hs
      simp only [Bool.and_eq_true, decide_eq_true_eq] at ho2
      obtain ⟨hm1, hm2, hm3, hm4⟩ := okM_e ho2.1.1
      obtain ⟨hb0, hs⟩ := bt1_e hs
      obtain ⟨o, r, hdr, hs⟩ := ob1_e hs
      obtain ⟨hrf, d', mc', ms', post', hlt, hc1, hs1, M, hs2⟩ := bt1_e hs
      obtain ⟨r1, r2, r3⟩ := okRef_e hrf
      have h1 := Nat.le_of_ble_eq_true hb0
      have e1 : (st.take b).reverse.reverse ++ .inr o :: r = st := by rw [List.reverse_reverse, ← hdr, List.take_append_drop]
      have hlen : (st.take b).reverse.length = b := by simp; omega
      have := ac_call (st := r) hd hlt hm1 (bIn_e ho2.1.2) hm2 ho2.2 (by rw [hlen]; exact hm3) hm4 hc1 hs1 r2 r3 r1 M (fun sh' s' q => hK _ _ _ _ _ _ _ (hs2 sh' s' q))
      rw [e1] at this
      exact this
  case return_ =>
    simp only [okC, okE, Bool.and_eq_true, decide_eq_true_eq] at ho
    obtain rfl : len = 1 := Nat.eq_of_beq_eq_true ho.2
    match st, hs with
    | [], hs =>
      obtain ⟨hb, hs⟩ := bt1_e hs
      simp only [Bool.and_eq_true] at hb
      exact ac_ret ho.1 hr (Nat.le_of_ble_eq_true hb.1) (Nat.le_of_ble_eq_true hb.2) hs
  all_goals exact hs.elim
def tbOkC (h : HD) (tb : List (Option En)) : Prop := ∀ pc e, tb[pc]? = some (some e) → okC h pc e = true
def wpsC (l : Launch) (D : va_G) (cI cZ : ClassId) (d mc ms : Nat) (h : HD) (tb : List (Option En)) (cut : List Nat) (post : List CO → Mem → Prop) : Nat → Nat → LL → List Vl → List CO → Mem → Nat → Nat → Prop
  | 0, pc, L, st, sh, s, cells, slots => AC l D cI cZ d mc ms h post pc L st sh s cells slots
  | n + 1, pc, L, st, sh, s, cells, slots => match tb[pc]? with
    | some (some e) => semC l D cI cZ d mc ms h e pc L st sh s cells slots post (fun pc L st sh s cells slots => match cut.elem pc with
      | true => AC l D cI cZ d mc ms h post pc L st sh s cells slots
      | false => wpsC l D cI cZ d mc ms h tb cut post n pc L st sh s cells slots)
    | _ => False
theorem wpsC_ok {l : Launch} {D : va_G} {cI cZ : ClassId} {d mc ms : Nat} {h : HD} {tb : List (Option En)} {cut : List Nat} {post : List CO → Mem → Prop} (hr : h.2.2.2 = none) (ho : tbOkC h tb) : ∀ (n pc : Nat) (L : LL) (st : List Vl) (sh : List CO) (s : Mem) (cells slots : Nat), wpsC l D cI cZ d mc ms h tb cut post n pc L st sh s cells slots → AC l D cI cZ d mc ms h post pc L st sh s cells slots
  | 0, _, _, _, _, _, _, _, q => q
  | n + 1, pc, L, st, sh, s, cells, slots, q => by
    unfold wpsC at q
    split at q
    · rename_i e he
      refine semC_ok hr (ho pc e he) ?_ q
      intro pc L st sh s cells slots q
      split at q
      · exact q
      · exact wpsC_ok hr ho n pc L st sh s cells slots q
    · exact q.elim
theorem tbOkC_of {h : HD} {tb : List (Option En)} (q : (tb.mapIdx (fun pc o => match o with
    | some e => okC h pc e
    | none => true)).all id = true) : tbOkC h tb := by
  intro pc e he
  have := List.all_eq_true.mp q _ (List.mem_of_getElem? (i := pc) (by rw [List.getElem?_mapIdx, he]; rfl))
  exact this
end
section
def hX0_init : HD := (yX0_init, cX0_init, 2, none)
def hX1_init : HD := (yX1_init, cX1_init, 2, none)
def hX2_init : HD := (yX2_init, cX2_init, 2, none)
def hX3_init : HD := (yX3_init, cX3_init, 3, none)
def hX4_init : HD := (yX4_init, cX4_init, 1, none)
def hX5_init : HD := (yX5_init, cX5_init, 1, none)
def hX6_init : HD := (yX6_init, cX6_init, 1, none)
def hX7_init : HD := (yX7_init, cX7_init, 1, none)
def hX8_init : HD := (yX8_init, cX8_init, 1, none)
def tX0_init : List (Option En) := [some (.aload_n 0, 1, 0, 0, 0, hNone, []), some (.invokespecial 3, 3, 9, 0, 0, hNone, [169]), none, none, some (.aload_n 0, 1, 0, 0, 0, hNone, []), some (.aload_n 1, 1, 0, 0, 0, hNone, []), some (.putfield 9, 3, 0, 0, 0, hNone, [172]), none, none, some (.aload_n 0, 1, 0, 0, 0, hNone, []), some (.new 15, 3, 2, 8, 0, hNone, [170, 127, 59]), none, none, some (.dup, 1, 0, 0, 0, hNone, []), some (.aload_n 1, 1, 0, 0, 0, hNone, []), some (.invokespecial 17, 3, 0, 1, 0, hX2_init, [171, 59, 129]), none, none, some (.putfield 20, 3, 0, 1, 0, hNone, [173]), none, none, some (.aload_n 0, 1, 0, 0, 0, hNone, []), some (.bipush 8, 2, 0, 0, 8, hNone, []), none, some (.newarray .int, 2, 0, 8, 8, hNone, [125]), none, some (.putfield 24, 3, 0, 6, 0, hNone, [180]), none, none, some (.aload_n 0, 1, 0, 0, 0, hNone, []), some (.bipush 8, 2, 0, 0, 8, hNone, []), none, some (.newarray .int, 2, 0, 8, 8, hNone, [125]), none, some (.putfield 28, 3, 0, 7, 0, hNone, [182]), none, none, some (.aload_n 0, 1, 0, 0, 0, hNone, []), some (.bipush 8, 2, 0, 0, 8, hNone, []), none, some (.newarray .int, 2, 0, 8, 8, hNone, [125]), none, some (.putfield 31, 3, 0, 8, 0, hNone, [183]), none, none, some (.return_, 1, 0, 0, 0, hNone, [])]
set_option maxRecDepth 100000 in
theorem oX0_init : tbOkC hX0_init tX0_init := tbOkC_of (by decide +kernel)
theorem iX0_init : Cond.code hX0_init.1 hX0_init.2.1 hX0_init.2.2.1 hX0_init.2.2.2 ∈ lw_tbl := List.mem_of_getElem? (i := 168) (by decide +kernel)
def tX1_init : List (Option En) := [some (.aload_n 0, 1, 0, 0, 0, hNone, []), some (.invokespecial 3, 3, 9, 0, 0, hNone, [273]), none, none, some (.aload_n 0, 1, 0, 0, 0, hNone, []), some (.aload_n 1, 1, 0, 0, 0, hNone, []), some (.putfield 9, 3, 1, 0, 0, hNone, [274]), none, none, some (.aload_n 0, 1, 0, 0, 0, hNone, []), some (.bipush 8, 2, 0, 0, 8, hNone, []), none, some (.newarray .int, 2, 0, 8, 8, hNone, [125]), none, some (.putfield 15, 3, 1, 4, 0, hNone, [279]), none, none, some (.aload_n 0, 1, 0, 0, 0, hNone, []), some (.bipush 8, 2, 0, 0, 8, hNone, []), none, some (.newarray .int, 2, 0, 8, 8, hNone, [125]), none, some (.putfield 19, 3, 1, 5, 0, hNone, [281]), none, none, some (.aload_n 0, 1, 0, 0, 0, hNone, []), some (.bipush 8, 2, 0, 0, 8, hNone, []), none, some (.newarray .int, 2, 0, 8, 8, hNone, [125]), none, some (.putfield 22, 3, 1, 6, 0, hNone, [283]), none, none, some (.aload_n 0, 1, 0, 0, 0, hNone, []), some (.bipush 8, 2, 0, 0, 8, hNone, []), none, some (.newarray .int, 2, 0, 8, 8, hNone, [125]), none, some (.putfield 25, 3, 1, 7, 0, hNone, [284]), none, none, some (.aload_n 0, 1, 0, 0, 0, hNone, []), some (.bipush 9, 2, 0, 0, 9, hNone, []), none, some (.newarray .int, 2, 0, 9, 9, hNone, [125]), none, some (.putfield 28, 3, 1, 8, 0, hNone, [285]), none, none, some (.aload_n 0, 1, 0, 0, 0, hNone, []), some (.bipush 9, 2, 0, 0, 9, hNone, []), none, some (.newarray .int, 2, 0, 9, 9, hNone, [125]), none, some (.putfield 31, 3, 1, 9, 0, hNone, [286]), none, none, some (.return_, 1, 0, 0, 0, hNone, [])]
set_option maxRecDepth 100000 in
theorem oX1_init : tbOkC hX1_init tX1_init := tbOkC_of (by decide +kernel)
theorem iX1_init : Cond.code hX1_init.1 hX1_init.2.1 hX1_init.2.2.1 hX1_init.2.2.2 ∈ lw_tbl := List.mem_of_getElem? (i := 272) (by decide +kernel)
def tX2_init : List (Option En) := [some (.aload_n 0, 1, 0, 0, 0, hNone, []), some (.invokespecial 3, 3, 9, 0, 0, hNone, [131]), none, none, some (.aload_n 0, 1, 0, 0, 0, hNone, []), some (.aload_n 1, 1, 0, 0, 0, hNone, []), some (.putfield 9, 3, 2, 0, 0, hNone, [132]), none, none, some (.aload_n 0, 1, 0, 0, 0, hNone, []), some (.bipush 8, 2, 0, 0, 8, hNone, []), none, some (.newarray .int, 2, 0, 8, 8, hNone, [125]), none, some (.putfield 15, 3, 2, 1, 0, hNone, [133]), none, none, some (.aload_n 0, 1, 0, 0, 0, hNone, []), some (.bipush 9, 2, 0, 0, 9, hNone, []), none, some (.newarray .int, 2, 0, 9, 9, hNone, [125]), none, some (.putfield 19, 3, 2, 2, 0, hNone, [135]), none, none, some (.aload_n 0, 1, 0, 0, 0, hNone, []), some (.bipush 9, 2, 0, 0, 9, hNone, []), none, some (.newarray .int, 2, 0, 9, 9, hNone, [125]), none, some (.putfield 22, 3, 2, 3, 0, hNone, [137]), none, none, some (.aload_n 0, 1, 0, 0, 0, hNone, []), some (.bipush 9, 2, 0, 0, 9, hNone, []), none, some (.newarray .int, 2, 0, 9, 9, hNone, [125]), none, some (.putfield 25, 3, 2, 4, 0, hNone, [138]), none, none, some (.aload_n 0, 1, 0, 0, 0, hNone, []), some (.bipush 9, 2, 0, 0, 9, hNone, []), none, some (.newarray .int, 2, 0, 9, 9, hNone, [125]), none, some (.putfield 28, 3, 2, 5, 0, hNone, [140]), none, none, some (.aload_n 0, 1, 0, 0, 0, hNone, []), some (.bipush 9, 2, 0, 0, 9, hNone, []), none, some (.newarray .int, 2, 0, 9, 9, hNone, [125]), none, some (.putfield 31, 3, 2, 6, 0, hNone, [143]), none, none, some (.return_, 1, 0, 0, 0, hNone, [])]
set_option maxRecDepth 100000 in
theorem oX2_init : tbOkC hX2_init tX2_init := tbOkC_of (by decide +kernel)
theorem iX2_init : Cond.code hX2_init.1 hX2_init.2.1 hX2_init.2.2.1 hX2_init.2.2.2 ∈ lw_tbl := List.mem_of_getElem? (i := 130) (by decide +kernel)
def tX3_init : List (Option En) := [some (.aload_n 0, 1, 0, 0, 0, hNone, []), some (.invokespecial 3, 3, 9, 0, 0, hNone, [240]), none, none, some (.aload_n 0, 1, 0, 0, 0, hNone, []), some (.bipush 8, 2, 0, 0, 8, hNone, []), none, some (.newarray .int, 2, 0, 8, 8, hNone, [125]), none, some (.putfield 9, 3, 3, 1, 0, hNone, [244]), none, none, some (.aload_n 0, 1, 0, 0, 0, hNone, []), some (.bipush 8, 2, 0, 0, 8, hNone, []), none, some (.newarray .int, 2, 0, 8, 8, hNone, [125]), none, some (.putfield 15, 3, 3, 2, 0, hNone, [246]), none, none, some (.aload_n 0, 1, 0, 0, 0, hNone, []), some (.bipush 8, 2, 0, 0, 8, hNone, []), none, some (.newarray .int, 2, 0, 8, 8, hNone, [125]), none, some (.putfield 18, 3, 3, 3, 0, hNone, [248]), none, none, some (.aload_n 0, 1, 0, 0, 0, hNone, []), some (.bipush 64, 2, 0, 0, 64, hNone, []), none, some (.newarray .int, 2, 0, 64, 64, hNone, [125]), none, some (.putfield 21, 3, 3, 4, 0, hNone, [249]), none, none, some (.aload_n 0, 1, 0, 0, 0, hNone, []), some (.bipush 64, 2, 0, 0, 64, hNone, []), none, some (.newarray .int, 2, 0, 64, 64, hNone, [125]), none, some (.putfield 24, 3, 3, 5, 0, hNone, [250]), none, none, some (.iconst 0, 1, 0, 0, 0, hNone, []), some (.istore_n 1, 1, 0, 0, 0, hNone, []), some (.iload_n 1, 1, 0, 0, 0, hNone, []), some (.bipush 8, 2, 0, 0, 8, hNone, []), none, some (.if_icmp .ge 65, 3, 114, 0, 0, hNone, []), none, none, some (.iconst 0, 1, 0, 0, 0, hNone, []), some (.istore_n 2, 1, 0, 0, 0, hNone, []), some (.iload_n 2, 1, 0, 0, 0, hNone, []), some (.bipush 8, 2, 0, 0, 8, hNone, []), none, some (.if_icmp .ge 51, 3, 108, 0, 0, hNone, []), none, none, some (.aload_n 0, 1, 0, 0, 0, hNone, []), some (.getfield 21, 3, 3, 4, 0, hNone, [249]), none, none, some (.iload_n 1, 1, 0, 0, 0, hNone, []), some (.bipush 8, 2, 0, 0, 8, hNone, []), none, some (.imul, 1, 0, 0, 0, hNone, []), some (.iload_n 2, 1, 0, 0, 0, hNone, []), some (.iadd, 1, 0, 0, 0, hNone, []), some (.iload_n 1, 1, 0, 0, 0, hNone, []), some (.iload_n 2, 1, 0, 0, 0, hNone, []), some (.if_icmp .ne 7, 3, 79, 0, 0, hNone, []), none, none, some (.iconst 0, 1, 0, 0, 0, hNone, []), some (.goto 4, 3, 80, 0, 0, hNone, []), none, none, some (.iconst (-1), 1, 0, 0, (-1), hNone, []), some (.iastore, 1, 0, 0, 0, hNone, []), some (.aload_n 0, 1, 0, 0, 0, hNone, []), some (.getfield 24, 3, 3, 5, 0, hNone, [250]), none, none, some (.iload_n 1, 1, 0, 0, 0, hNone, []), some (.bipush 8, 2, 0, 0, 8, hNone, []), none, some (.imul, 1, 0, 0, 0, hNone, []), some (.iload_n 2, 1, 0, 0, 0, hNone, []), some (.iadd, 1, 0, 0, 0, hNone, []), some (.iload_n 1, 1, 0, 0, 0, hNone, []), some (.iload_n 2, 1, 0, 0, 0, hNone, []), some (.if_icmp .ne 7, 3, 100, 0, 0, hNone, []), none, none, some (.iconst 0, 1, 0, 0, 0, hNone, []), some (.goto 4, 3, 101, 0, 0, hNone, []), none, none, some (.iconst (-1), 1, 0, 0, (-1), hNone, []), some (.iastore, 1, 0, 0, 0, hNone, []), some (.iinc 2 1, 3, 0, 0, 1, hNone, []), none, none, some (.goto (-51), 3, 54, 0, 0, hNone, []), none, none, some (.iinc 1 1, 3, 0, 0, 1, hNone, []), none, none, some (.goto (-65), 3, 46, 0, 0, hNone, []), none, none, some (.return_, 1, 0, 0, 0, hNone, [])]
set_option maxRecDepth 100000 in
theorem oX3_init : tbOkC hX3_init tX3_init := tbOkC_of (by decide +kernel)
theorem iX3_init : Cond.code hX3_init.1 hX3_init.2.1 hX3_init.2.2.1 hX3_init.2.2.2 ∈ lw_tbl := List.mem_of_getElem? (i := 239) (by decide +kernel)
def tX4_init : List (Option En) := [some (.aload_n 0, 1, 0, 0, 0, hNone, []), some (.invokespecial 3, 3, 9, 0, 0, hNone, [82]), none, none, some (.aload_n 0, 1, 0, 0, 0, hNone, []), some (.bipush 8, 2, 0, 0, 8, hNone, []), none, some (.newarray .int, 2, 0, 8, 8, hNone, [125]), none, some (.putfield 9, 3, 4, 1, 0, hNone, [87]), none, none, some (.aload_n 0, 1, 0, 0, 0, hNone, []), some (.bipush 8, 2, 0, 0, 8, hNone, []), none, some (.newarray .int, 2, 0, 8, 8, hNone, [125]), none, some (.putfield 15, 3, 4, 2, 0, hNone, [90]), none, none, some (.aload_n 0, 1, 0, 0, 0, hNone, []), some (.bipush 8, 2, 0, 0, 8, hNone, []), none, some (.newarray .int, 2, 0, 8, 8, hNone, [125]), none, some (.putfield 18, 3, 4, 3, 0, hNone, [92]), none, none, some (.aload_n 0, 1, 0, 0, 0, hNone, []), some (.bipush 8, 2, 0, 0, 8, hNone, []), none, some (.newarray .int, 2, 0, 8, 8, hNone, [125]), none, some (.putfield 21, 3, 4, 4, 0, hNone, [95]), none, none, some (.aload_n 0, 1, 0, 0, 0, hNone, []), some (.bipush 8, 2, 0, 0, 8, hNone, []), none, some (.newarray .int, 2, 0, 8, 8, hNone, [125]), none, some (.putfield 24, 3, 4, 5, 0, hNone, [97]), none, none, some (.aload_n 0, 1, 0, 0, 0, hNone, []), some (.iconst 4, 1, 0, 0, 4, hNone, []), some (.newarray .int, 2, 0, 4, 4, hNone, [125]), none, some (.putfield 27, 3, 4, 6, 0, hNone, [100]), none, none, some (.aload_n 0, 1, 0, 0, 0, hNone, []), some (.getfield 27, 3, 4, 6, 0, hNone, [100]), none, none, some (.iconst 1, 1, 0, 0, 1, hNone, []), some (.sipush 1023, 3, 0, 0, 1023, hNone, []), none, none, some (.iastore, 1, 0, 0, 0, hNone, []), some (.return_, 1, 0, 0, 0, hNone, [])]
set_option maxRecDepth 100000 in
theorem oX4_init : tbOkC hX4_init tX4_init := tbOkC_of (by decide +kernel)
theorem iX4_init : Cond.code hX4_init.1 hX4_init.2.1 hX4_init.2.2.1 hX4_init.2.2.2 ∈ lw_tbl := List.mem_of_getElem? (i := 81) (by decide +kernel)
def tX5_init : List (Option En) := [some (.aload_n 0, 1, 0, 0, 0, hNone, []), some (.invokespecial 3, 3, 9, 0, 0, hNone, [208]), none, none, some (.aload_n 0, 1, 0, 0, 0, hNone, []), some (.bipush 8, 2, 0, 0, 8, hNone, []), none, some (.newarray .int, 2, 0, 8, 8, hNone, [125]), none, some (.putfield 9, 3, 5, 0, 0, hNone, [209]), none, none, some (.aload_n 0, 1, 0, 0, 0, hNone, []), some (.bipush 64, 2, 0, 0, 64, hNone, []), none, some (.newarray .int, 2, 0, 64, 64, hNone, [125]), none, some (.putfield 15, 3, 5, 1, 0, hNone, [210]), none, none, some (.aload_n 0, 1, 0, 0, 0, hNone, []), some (.bipush 8, 2, 0, 0, 8, hNone, []), none, some (.newarray .int, 2, 0, 8, 8, hNone, [125]), none, some (.putfield 18, 3, 5, 2, 0, hNone, [211]), none, none, some (.aload_n 0, 1, 0, 0, 0, hNone, []), some (.bipush 8, 2, 0, 0, 8, hNone, []), none, some (.newarray .int, 2, 0, 8, 8, hNone, [125]), none, some (.putfield 21, 3, 5, 3, 0, hNone, [212]), none, none, some (.aload_n 0, 1, 0, 0, 0, hNone, []), some (.bipush 8, 2, 0, 0, 8, hNone, []), none, some (.newarray .boolean, 2, 1, 8, 8, hNone, [234]), none, some (.putfield 24, 3, 5, 4, 0, hNone, [214]), none, none, some (.aload_n 0, 1, 0, 0, 0, hNone, []), some (.bipush 8, 2, 0, 0, 8, hNone, []), none, some (.newarray .boolean, 2, 1, 8, 8, hNone, [234]), none, some (.putfield 28, 3, 5, 5, 0, hNone, [215]), none, none, some (.return_, 1, 0, 0, 0, hNone, [])]
set_option maxRecDepth 100000 in
theorem oX5_init : tbOkC hX5_init tX5_init := tbOkC_of (by decide +kernel)
theorem iX5_init : Cond.code hX5_init.1 hX5_init.2.1 hX5_init.2.2.1 hX5_init.2.2.2 ∈ lw_tbl := List.mem_of_getElem? (i := 207) (by decide +kernel)
def tX6_init : List (Option En) := [some (.aload_n 0, 1, 0, 0, 0, hNone, []), some (.invokespecial 3, 3, 9, 0, 0, hNone, [313]), none, none, some (.aload_n 0, 1, 0, 0, 0, hNone, []), some (.bipush 56, 2, 0, 0, 56, hNone, []), none, some (.newarray .int, 2, 0, 56, 56, hNone, [125]), none, some (.putfield 9, 3, 6, 1, 0, hNone, [316]), none, none, some (.aload_n 0, 1, 0, 0, 0, hNone, []), some (.bipush 56, 2, 0, 0, 56, hNone, []), none, some (.newarray .int, 2, 0, 56, 56, hNone, [125]), none, some (.putfield 15, 3, 6, 2, 0, hNone, [317]), none, none, some (.return_, 1, 0, 0, 0, hNone, [])]
set_option maxRecDepth 100000 in
theorem oX6_init : tbOkC hX6_init tX6_init := tbOkC_of (by decide +kernel)
theorem iX6_init : Cond.code hX6_init.1 hX6_init.2.1 hX6_init.2.2.1 hX6_init.2.2.2 ∈ lw_tbl := List.mem_of_getElem? (i := 312) (by decide +kernel)
def tX7_init : List (Option En) := [some (.aload_n 0, 1, 0, 0, 0, hNone, []), some (.invokespecial 1, 3, 9, 0, 0, hNone, [74]), none, none, some (.aload_n 0, 1, 0, 0, 0, hNone, []), some (.new 7, 3, 4, 9, 0, hNone, [77, 78, 58]), none, none, some (.dup, 1, 0, 0, 0, hNone, []), some (.invokespecial 9, 3, 0, 0, 0, hX4_init, [79, 58, 80]), none, none, some (.putfield 10, 3, 7, 0, 0, hNone, [333]), none, none, some (.aload_n 0, 1, 0, 0, 0, hNone, []), some (.new 16, 3, 2, 8, 0, hNone, [126, 127, 59]), none, none, some (.dup, 1, 0, 0, 0, hNone, []), some (.aload_n 0, 1, 0, 0, 0, hNone, []), some (.getfield 10, 3, 7, 0, 0, hNone, [333]), none, none, some (.invokespecial 18, 3, 0, 1, 0, hX2_init, [128, 59, 129]), none, none, some (.putfield 21, 3, 7, 1, 0, hNone, [334]), none, none, some (.aload_n 0, 1, 0, 0, 0, hNone, []), some (.new 25, 3, 0, 9, 0, hNone, [164, 165, 60]), none, none, some (.dup, 1, 0, 0, 0, hNone, []), some (.aload_n 0, 1, 0, 0, 0, hNone, []), some (.getfield 10, 3, 7, 0, 0, hNone, [333]), none, none, some (.invokespecial 27, 3, 0, 1, 0, hX0_init, [166, 60, 167]), none, none, some (.putfield 28, 3, 7, 2, 0, hNone, [335]), none, none, some (.aload_n 0, 1, 0, 0, 0, hNone, []), some (.new 32, 3, 5, 7, 0, hNone, [203, 204, 61]), none, none, some (.dup, 1, 0, 0, 0, hNone, []), some (.invokespecial 34, 3, 0, 0, 0, hX5_init, [205, 61, 206]), none, none, some (.putfield 35, 3, 7, 3, 0, hNone, [336]), none, none, some (.aload_n 0, 1, 0, 0, 0, hNone, []), some (.new 39, 3, 3, 7, 0, hNone, [235, 236, 62]), none, none, some (.dup, 1, 0, 0, 0, hNone, []), some (.invokespecial 41, 3, 0, 0, 0, hX3_init, [237, 62, 238]), none, none, some (.putfield 42, 3, 7, 4, 0, hNone, [337]), none, none, some (.aload_n 0, 1, 0, 0, 0, hNone, []), some (.new 46, 3, 1, 10, 0, hNone, [268, 269, 63]), none, none, some (.dup, 1, 0, 0, 0, hNone, []), some (.aload_n 0, 1, 0, 0, 0, hNone, []), some (.getfield 42, 3, 7, 4, 0, hNone, [337]), none, none, some (.invokespecial 48, 3, 0, 1, 0, hX1_init, [270, 63, 271]), none, none, some (.putfield 51, 3, 7, 5, 0, hNone, [338]), none, none, some (.aload_n 0, 1, 0, 0, 0, hNone, []), some (.new 55, 3, 6, 5, 0, hNone, [308, 309, 64]), none, none, some (.dup, 1, 0, 0, 0, hNone, []), some (.invokespecial 57, 3, 0, 0, 0, hX6_init, [310, 64, 311]), none, none, some (.putfield 58, 3, 7, 6, 0, hNone, [339]), none, none, some (.return_, 1, 0, 0, 0, hNone, [])]
set_option maxRecDepth 100000 in
theorem oX7_init : tbOkC hX7_init tX7_init := tbOkC_of (by decide +kernel)
theorem iX7_init : Cond.code hX7_init.1 hX7_init.2.1 hX7_init.2.2.1 hX7_init.2.2.2 ∈ lw_tbl := List.mem_of_getElem? (i := 73) (by decide +kernel)
def tX8_init : List (Option En) := [some (.aload_n 0, 1, 0, 0, 0, hNone, []), some (.invokespecial 1, 3, 9, 0, 0, hNone, [677]), none, none, some (.aload_n 0, 1, 0, 0, 0, hNone, []), some (.bipush 8, 2, 0, 0, 8, hNone, []), none, some (.newarray .int, 2, 0, 8, 8, hNone, [125]), none, some (.putfield 9, 3, 8, 1, 0, hNone, [679]), none, none, some (.aload_n 0, 1, 0, 0, 0, hNone, []), some (.bipush 8, 2, 0, 0, 8, hNone, []), none, some (.newarray .int, 2, 0, 8, 8, hNone, [125]), none, some (.putfield 13, 3, 8, 2, 0, hNone, [680]), none, none, some (.aload_n 0, 1, 0, 0, 0, hNone, []), some (.bipush 8, 2, 0, 0, 8, hNone, []), none, some (.newarray .int, 2, 0, 8, 8, hNone, [125]), none, some (.putfield 16, 3, 8, 3, 0, hNone, [681]), none, none, some (.aload_n 0, 1, 0, 0, 0, hNone, []), some (.bipush 8, 2, 0, 0, 8, hNone, []), none, some (.newarray .int, 2, 0, 8, 8, hNone, [125]), none, some (.putfield 19, 3, 8, 4, 0, hNone, [682]), none, none, some (.aload_n 0, 1, 0, 0, 0, hNone, []), some (.bipush 8, 2, 0, 0, 8, hNone, []), none, some (.newarray .int, 2, 0, 8, 8, hNone, [125]), none, some (.putfield 22, 3, 8, 5, 0, hNone, [683]), none, none, some (.aload_n 0, 1, 0, 0, 0, hNone, []), some (.bipush 10, 2, 0, 0, 10, hNone, []), none, some (.newarray .int, 2, 0, 10, 10, hNone, [125]), none, some (.dup, 1, 0, 0, 0, hNone, []), some (.iconst 0, 1, 0, 0, 0, hNone, []), some (.iconst 1, 1, 0, 0, 1, hNone, []), some (.iastore, 1, 0, 0, 0, hNone, []), some (.dup, 1, 0, 0, 0, hNone, []), some (.iconst 1, 1, 0, 0, 1, hNone, []), some (.iconst 1, 1, 0, 0, 1, hNone, []), some (.iastore, 1, 0, 0, 0, hNone, []), some (.dup, 1, 0, 0, 0, hNone, []), some (.iconst 2, 1, 0, 0, 2, hNone, []), some (.iconst 1, 1, 0, 0, 1, hNone, []), some (.iastore, 1, 0, 0, 0, hNone, []), some (.dup, 1, 0, 0, 0, hNone, []), some (.iconst 3, 1, 0, 0, 3, hNone, []), some (.iconst 1, 1, 0, 0, 1, hNone, []), some (.iastore, 1, 0, 0, 0, hNone, []), some (.dup, 1, 0, 0, 0, hNone, []), some (.iconst 4, 1, 0, 0, 4, hNone, []), some (.iconst 1, 1, 0, 0, 1, hNone, []), some (.iastore, 1, 0, 0, 0, hNone, []), some (.dup, 1, 0, 0, 0, hNone, []), some (.iconst 5, 1, 0, 0, 5, hNone, []), some (.iconst 1, 1, 0, 0, 1, hNone, []), some (.iastore, 1, 0, 0, 0, hNone, []), some (.dup, 1, 0, 0, 0, hNone, []), some (.bipush 6, 2, 0, 0, 6, hNone, []), none, some (.iconst 1, 1, 0, 0, 1, hNone, []), some (.iastore, 1, 0, 0, 0, hNone, []), some (.dup, 1, 0, 0, 0, hNone, []), some (.bipush 7, 2, 0, 0, 7, hNone, []), none, some (.iconst 1, 1, 0, 0, 1, hNone, []), some (.iastore, 1, 0, 0, 0, hNone, []), some (.dup, 1, 0, 0, 0, hNone, []), some (.bipush 8, 2, 0, 0, 8, hNone, []), none, some (.iconst 1, 1, 0, 0, 1, hNone, []), some (.iastore, 1, 0, 0, 0, hNone, []), some (.dup, 1, 0, 0, 0, hNone, []), some (.bipush 9, 2, 0, 0, 9, hNone, []), none, some (.iconst 1, 1, 0, 0, 1, hNone, []), some (.iastore, 1, 0, 0, 0, hNone, []), some (.putfield 25, 3, 8, 6, 0, hNone, [684]), none, none, some (.aload_n 0, 1, 0, 0, 0, hNone, []), some (.bipush 16, 2, 0, 0, 16, hNone, []), none, some (.newarray .boolean, 2, 1, 16, 16, hNone, [234]), none, some (.putfield 28, 3, 8, 7, 0, hNone, [685]), none, none, some (.aload_n 0, 1, 0, 0, 0, hNone, []), some (.bipush 8, 2, 0, 0, 8, hNone, []), none, some (.newarray .int, 2, 0, 8, 8, hNone, [125]), none, some (.putfield 32, 3, 8, 8, 0, hNone, [686]), none, none, some (.aload_n 0, 1, 0, 0, 0, hNone, []), some (.bipush 64, 2, 0, 0, 64, hNone, []), none, some (.newarray .int, 2, 0, 64, 64, hNone, [125]), none, some (.putfield 35, 3, 8, 9, 0, hNone, [687]), none, none, some (.aload_n 0, 1, 0, 0, 0, hNone, []), some (.bipush 8, 2, 0, 0, 8, hNone, []), none, some (.newarray .int, 2, 0, 8, 8, hNone, [125]), none, some (.putfield 38, 3, 8, 10, 0, hNone, [688]), none, none, some (.aload_n 0, 1, 0, 0, 0, hNone, []), some (.bipush 8, 2, 0, 0, 8, hNone, []), none, some (.newarray .int, 2, 0, 8, 8, hNone, [125]), none, some (.putfield 41, 3, 8, 12, 0, hNone, [690]), none, none, some (.aload_n 0, 1, 0, 0, 0, hNone, []), some (.bipush 8, 2, 0, 0, 8, hNone, []), none, some (.newarray .int, 2, 0, 8, 8, hNone, [125]), none, some (.putfield 44, 3, 8, 13, 0, hNone, [691]), none, none, some (.aload_n 0, 1, 0, 0, 0, hNone, []), some (.bipush 8, 2, 0, 0, 8, hNone, []), none, some (.newarray .int, 2, 0, 8, 8, hNone, [125]), none, some (.putfield 47, 3, 8, 14, 0, hNone, [692]), none, none, some (.aload_n 0, 1, 0, 0, 0, hNone, []), some (.bipush 64, 2, 0, 0, 64, hNone, []), none, some (.newarray .int, 2, 0, 64, 64, hNone, [125]), none, some (.putfield 50, 3, 8, 15, 0, hNone, [693]), none, none, some (.aload_n 0, 1, 0, 0, 0, hNone, []), some (.bipush 64, 2, 0, 0, 64, hNone, []), none, some (.newarray .int, 2, 0, 64, 64, hNone, [125]), none, some (.putfield 53, 3, 8, 16, 0, hNone, [694]), none, none, some (.aload_n 0, 1, 0, 0, 0, hNone, []), some (.sipush 500, 3, 0, 0, 500, hNone, []), none, none, some (.newarray .int, 2, 0, 500, 500, hNone, [125]), none, some (.putfield 56, 3, 8, 18, 0, hNone, [696]), none, none, some (.aload_n 0, 1, 0, 0, 0, hNone, []), some (.sipush 500, 3, 0, 0, 500, hNone, []), none, none, some (.newarray .int, 2, 0, 500, 500, hNone, [125]), none, some (.putfield 59, 3, 8, 19, 0, hNone, [697]), none, none, some (.aload_n 0, 1, 0, 0, 0, hNone, []), some (.sipush 500, 3, 0, 0, 500, hNone, []), none, none, some (.newarray .int, 2, 0, 500, 500, hNone, [125]), none, some (.putfield 62, 3, 8, 20, 0, hNone, [698]), none, none, some (.aload_n 0, 1, 0, 0, 0, hNone, []), some (.bipush 9, 2, 0, 0, 9, hNone, []), none, some (.newarray .int, 2, 0, 9, 9, hNone, [125]), none, some (.putfield 65, 3, 8, 21, 0, hNone, [699]), none, none, some (.aload_n 0, 1, 0, 0, 0, hNone, []), some (.bipush 10, 2, 0, 0, 10, hNone, []), none, some (.newarray .int, 2, 0, 10, 10, hNone, [125]), none, some (.putfield 68, 3, 8, 22, 0, hNone, [700]), none, none, some (.aload_n 0, 1, 0, 0, 0, hNone, []), some (.bipush 8, 2, 0, 0, 8, hNone, []), none, some (.newarray .int, 2, 0, 8, 8, hNone, [125]), none, some (.putfield 71, 3, 8, 23, 0, hNone, [701]), none, none, some (.aload_n 0, 1, 0, 0, 0, hNone, []), some (.bipush 8, 2, 0, 0, 8, hNone, []), none, some (.newarray .int, 2, 0, 8, 8, hNone, [125]), none, some (.putfield 74, 3, 8, 24, 0, hNone, [702]), none, none, some (.aload_n 0, 1, 0, 0, 0, hNone, []), some (.bipush 9, 2, 0, 0, 9, hNone, []), none, some (.newarray .int, 2, 0, 9, 9, hNone, [125]), none, some (.putfield 77, 3, 8, 25, 0, hNone, [703]), none, none, some (.aload_n 0, 1, 0, 0, 0, hNone, []), some (.bipush 8, 2, 0, 0, 8, hNone, []), none, some (.newarray .int, 2, 0, 8, 8, hNone, [125]), none, some (.putfield 80, 3, 8, 27, 0, hNone, [705]), none, none, some (.aload_n 0, 1, 0, 0, 0, hNone, []), some (.bipush 8, 2, 0, 0, 8, hNone, []), none, some (.newarray .boolean, 2, 1, 8, 8, hNone, [234]), none, some (.putfield 83, 3, 8, 28, 0, hNone, [706]), none, none, some (.return_, 1, 0, 0, 0, hNone, [])]
set_option maxRecDepth 100000 in
theorem oX8_init : tbOkC hX8_init tX8_init := tbOkC_of (by decide +kernel)
theorem iX8_init : Cond.code hX8_init.1 hX8_init.2.1 hX8_init.2.2.1 hX8_init.2.2.2 ∈ lw_tbl := List.mem_of_getElem? (i := 676) (by decide +kernel)
abbrev SH_0 : List CO := [.inr (7, [some none, some none, some none, some none, some none, some none, some none]), .inr (4, [none, some none, some none, some none, some none, some none, some none, none, none])]
abbrev SH_1 : List CO := [.inr (7, [some none, some none, some none, some none, some none, some none, some none])]
set_option maxRecDepth 100000 in
theorem kX7_init_0_0 {l : Launch} {D : va_G} {cI cZ : ClassId} {post : List CO → Mem → Prop} {s : Mem} (h :
    (∃ (d' mc' ms' : Nat) (post' : List CO → Mem → Prop), d' < 3 ∧ 1 + mc' ≤ 48 ∧ 9 + ms' ≤ 655 ∧ CSpec l D cI cZ d' mc' ms' hX4_init [.inr 1] SH_0 (stM s 1 (fun _ => 0)) post' ∧ ∀ (sh' : List CO) (s' : Mem), post' sh' s' →
    AC l D cI cZ 3 48 655 hX7_init post 12 [some (.inr 0)] [.inr 1, .inr 0] sh' (s') (1 + mc') (9 + ms'))) :
    AC l D cI cZ 3 48 655 hX7_init post 0 [some (.inr 0)] [] SH_1 s 0 0 := wpsC_ok (cut := [12, 27, 42, 53, 64, 79, 90]) rfl oX7_init 7 0 _ _ _ _ _ _ h
abbrev SH_2 : List CO := [.inr (7, [some none, some none, some none, some none, some none, some none, some none]), .inr (4, [none, some (some 2), some (some 3), some (some 4), some (some 5), some (some 6), some (some 7), none, none]), .inl (0, 8), .inl (0, 8), .inl (0, 8), .inl (0, 8), .inl (0, 8), .inl (0, 4)]
set_option maxRecDepth 100000 in
theorem kX4_init_1_0 {l : Launch} {D : va_G} {cI cZ : ClassId} {post : List CO → Mem → Prop} {s : Mem} (h :
    (vp_in (1 : Int32) 4 ∧
    post SH_2 (wrM (stM (stM (stM (stM (stM (stM s 2 (fun _ => 0)) 3 (fun _ => 0)) 4 (fun _ => 0)) 5 (fun _ => 0)) 6 (fun _ => 0)) 7 (fun _ => 0)) 7 (1 : Int32).toNatClampNeg (1023 : Int32)))) :
    AC l D cI cZ 1 6 44 hX4_init post 0 [some (.inr 1)] [] SH_0 s 0 0 := wpsC_ok (cut := []) rfl oX4_init 33 0 _ _ _ _ _ _ h
abbrev SH_3 : List CO := [.inr (7, [some (some 1), some none, some none, some none, some none, some none, some none]), .inr (4, [none, some (some 2), some (some 3), some (some 4), some (some 5), some (some 6), some (some 7), none, none]), .inl (0, 8), .inl (0, 8), .inl (0, 8), .inl (0, 8), .inl (0, 8), .inl (0, 4), .inr (2, [some none, some none, some none, some none, some none, some none, some none, none])]
set_option maxRecDepth 100000 in
theorem kX7_init_0_12 {l : Launch} {D : va_G} {cI cZ : ClassId} {post : List CO → Mem → Prop} {s : Mem} (h :
    (∃ (d' mc' ms' : Nat) (post' : List CO → Mem → Prop), d' < 3 ∧ 8 + mc' ≤ 48 ∧ 61 + ms' ≤ 655 ∧ CSpec l D cI cZ d' mc' ms' hX2_init [.inr 8, .inr 1] SH_3 (stM s 8 (fun _ => 0)) post' ∧ ∀ (sh' : List CO) (s' : Mem), post' sh' s' →
    AC l D cI cZ 3 48 655 hX7_init post 27 [some (.inr 0)] [.inr 8, .inr 0] sh' (s') (8 + mc') (61 + ms'))) :
    AC l D cI cZ 3 48 655 hX7_init post 12 [some (.inr 0)] [.inr 1, .inr 0] SH_2 s 7 53 := wpsC_ok (cut := [12, 27, 42, 53, 64, 79, 90]) rfl oX7_init 8 12 _ _ _ _ _ _ h
abbrev SH_4 : List CO := [.inr (7, [some (some 1), some none, some none, some none, some none, some none, some none]), .inr (4, [none, some (some 2), some (some 3), some (some 4), some (some 5), some (some 6), some (some 7), none, none]), .inl (0, 8), .inl (0, 8), .inl (0, 8), .inl (0, 8), .inl (0, 8), .inl (0, 4), .inr (2, [some (some 1), some (some 9), some (some 10), some (some 11), some (some 12), some (some 13), some (some 14), none]), .inl (0, 8), .inl (0, 9), .inl (0, 9), .inl (0, 9), .inl (0, 9), .inl (0, 9)]
set_option maxRecDepth 100000 in
theorem kX2_init_8_0 {l : Launch} {D : va_G} {cI cZ : ClassId} {post : List CO → Mem → Prop} {s : Mem} (h :
    post SH_4 (stM (stM (stM (stM (stM (stM s 9 (fun _ => 0)) 10 (fun _ => 0)) 11 (fun _ => 0)) 12 (fun _ => 0)) 13 (fun _ => 0)) 14 (fun _ => 0))) :
    AC l D cI cZ 1 6 53 hX2_init post 0 [some (.inr 8), some (.inr 1)] [] SH_3 s 0 0 := wpsC_ok (cut := []) rfl oX2_init 31 0 _ _ _ _ _ _ h
abbrev SH_5 : List CO := [.inr (7, [some (some 1), some (some 8), some none, some none, some none, some none, some none]), .inr (4, [none, some (some 2), some (some 3), some (some 4), some (some 5), some (some 6), some (some 7), none, none]), .inl (0, 8), .inl (0, 8), .inl (0, 8), .inl (0, 8), .inl (0, 8), .inl (0, 4), .inr (2, [some (some 1), some (some 9), some (some 10), some (some 11), some (some 12), some (some 13), some (some 14), none]), .inl (0, 8), .inl (0, 9), .inl (0, 9), .inl (0, 9), .inl (0, 9), .inl (0, 9), .inr (0, [some none, some none, none, none, none, none, some none, some none, some none])]
set_option maxRecDepth 100000 in
theorem kX7_init_0_27 {l : Launch} {D : va_G} {cI cZ : ClassId} {post : List CO → Mem → Prop} {s : Mem} (h :
    (∃ (d' mc' ms' : Nat) (post' : List CO → Mem → Prop), d' < 3 ∧ 15 + mc' ≤ 48 ∧ 123 + ms' ≤ 655 ∧ CSpec l D cI cZ d' mc' ms' hX0_init [.inr 15, .inr 1] SH_5 (stM s 15 (fun _ => 0)) post' ∧ ∀ (sh' : List CO) (s' : Mem), post' sh' s' →
    AC l D cI cZ 3 48 655 hX7_init post 42 [some (.inr 0)] [.inr 15, .inr 0] sh' (s') (15 + mc') (123 + ms'))) :
    AC l D cI cZ 3 48 655 hX7_init post 27 [some (.inr 0)] [.inr 8, .inr 0] SH_4 s 14 114 := wpsC_ok (cut := [12, 27, 42, 53, 64, 79, 90]) rfl oX7_init 8 27 _ _ _ _ _ _ h
abbrev SH_6 : List CO := [.inr (7, [some (some 1), some (some 8), some none, some none, some none, some none, some none]), .inr (4, [none, some (some 2), some (some 3), some (some 4), some (some 5), some (some 6), some (some 7), none, none]), .inl (0, 8), .inl (0, 8), .inl (0, 8), .inl (0, 8), .inl (0, 8), .inl (0, 4), .inr (2, [some (some 1), some (some 9), some (some 10), some (some 11), some (some 12), some (some 13), some (some 14), none]), .inl (0, 8), .inl (0, 9), .inl (0, 9), .inl (0, 9), .inl (0, 9), .inl (0, 9), .inr (0, [some (some 1), some none, none, none, none, none, some none, some none, some none]), .inr (2, [some none, some none, some none, some none, some none, some none, some none, none])]
set_option maxRecDepth 100000 in
theorem kX0_init_15_0 {l : Launch} {D : va_G} {cI cZ : ClassId} {post : List CO → Mem → Prop} {s : Mem} (h :
    (∃ (d' mc' ms' : Nat) (post' : List CO → Mem → Prop), d' < 2 ∧ 1 + mc' ≤ 10 ∧ 8 + ms' ≤ 85 ∧ CSpec l D cI cZ d' mc' ms' hX2_init [.inr 16, .inr 1] SH_6 (stM s 16 (fun _ => 0)) post' ∧ ∀ (sh' : List CO) (s' : Mem), post' sh' s' →
    AC l D cI cZ 2 10 85 hX0_init post 18 [some (.inr 15), some (.inr 1)] [.inr 16, .inr 15] sh' (s') (1 + mc') (8 + ms'))) :
    AC l D cI cZ 2 10 85 hX0_init post 0 [some (.inr 15), some (.inr 1)] [] SH_5 s 0 0 := wpsC_ok (cut := [18]) rfl oX0_init 11 0 _ _ _ _ _ _ h
abbrev SH_7 : List CO := [.inr (7, [some (some 1), some (some 8), some none, some none, some none, some none, some none]), .inr (4, [none, some (some 2), some (some 3), some (some 4), some (some 5), some (some 6), some (some 7), none, none]), .inl (0, 8), .inl (0, 8), .inl (0, 8), .inl (0, 8), .inl (0, 8), .inl (0, 4), .inr (2, [some (some 1), some (some 9), some (some 10), some (some 11), some (some 12), some (some 13), some (some 14), none]), .inl (0, 8), .inl (0, 9), .inl (0, 9), .inl (0, 9), .inl (0, 9), .inl (0, 9), .inr (0, [some (some 1), some none, none, none, none, none, some none, some none, some none]), .inr (2, [some (some 1), some (some 17), some (some 18), some (some 19), some (some 20), some (some 21), some (some 22), none]), .inl (0, 8), .inl (0, 9), .inl (0, 9), .inl (0, 9), .inl (0, 9), .inl (0, 9)]
set_option maxRecDepth 100000 in
theorem kX2_init_16_0 {l : Launch} {D : va_G} {cI cZ : ClassId} {post : List CO → Mem → Prop} {s : Mem} (h :
    post SH_7 (stM (stM (stM (stM (stM (stM s 17 (fun _ => 0)) 18 (fun _ => 0)) 19 (fun _ => 0)) 20 (fun _ => 0)) 21 (fun _ => 0)) 22 (fun _ => 0))) :
    AC l D cI cZ 1 6 53 hX2_init post 0 [some (.inr 16), some (.inr 1)] [] SH_6 s 0 0 := wpsC_ok (cut := []) rfl oX2_init 31 0 _ _ _ _ _ _ h
abbrev SH_8 : List CO := [.inr (7, [some (some 1), some (some 8), some none, some none, some none, some none, some none]), .inr (4, [none, some (some 2), some (some 3), some (some 4), some (some 5), some (some 6), some (some 7), none, none]), .inl (0, 8), .inl (0, 8), .inl (0, 8), .inl (0, 8), .inl (0, 8), .inl (0, 4), .inr (2, [some (some 1), some (some 9), some (some 10), some (some 11), some (some 12), some (some 13), some (some 14), none]), .inl (0, 8), .inl (0, 9), .inl (0, 9), .inl (0, 9), .inl (0, 9), .inl (0, 9), .inr (0, [some (some 1), some (some 16), none, none, none, none, some (some 23), some (some 24), some (some 25)]), .inr (2, [some (some 1), some (some 17), some (some 18), some (some 19), some (some 20), some (some 21), some (some 22), none]), .inl (0, 8), .inl (0, 9), .inl (0, 9), .inl (0, 9), .inl (0, 9), .inl (0, 9), .inl (0, 8), .inl (0, 8), .inl (0, 8)]
set_option maxRecDepth 100000 in
theorem kX0_init_15_18 {l : Launch} {D : va_G} {cI cZ : ClassId} {post : List CO → Mem → Prop} {s : Mem} (h :
    post SH_8 (stM (stM (stM s 23 (fun _ => 0)) 24 (fun _ => 0)) 25 (fun _ => 0))) :
    AC l D cI cZ 2 10 85 hX0_init post 18 [some (.inr 15), some (.inr 1)] [.inr 16, .inr 15] SH_7 s 7 61 := wpsC_ok (cut := [18]) rfl oX0_init 15 18 _ _ _ _ _ _ h
abbrev SH_9 : List CO := [.inr (7, [some (some 1), some (some 8), some (some 15), some none, some none, some none, some none]), .inr (4, [none, some (some 2), some (some 3), some (some 4), some (some 5), some (some 6), some (some 7), none, none]), .inl (0, 8), .inl (0, 8), .inl (0, 8), .inl (0, 8), .inl (0, 8), .inl (0, 4), .inr (2, [some (some 1), some (some 9), some (some 10), some (some 11), some (some 12), some (some 13), some (some 14), none]), .inl (0, 8), .inl (0, 9), .inl (0, 9), .inl (0, 9), .inl (0, 9), .inl (0, 9), .inr (0, [some (some 1), some (some 16), none, none, none, none, some (some 23), some (some 24), some (some 25)]), .inr (2, [some (some 1), some (some 17), some (some 18), some (some 19), some (some 20), some (some 21), some (some 22), none]), .inl (0, 8), .inl (0, 9), .inl (0, 9), .inl (0, 9), .inl (0, 9), .inl (0, 9), .inl (0, 8), .inl (0, 8), .inl (0, 8), .inr (5, [some none, some none, some none, some none, some none, some none, none])]
set_option maxRecDepth 100000 in
theorem kX7_init_0_42 {l : Launch} {D : va_G} {cI cZ : ClassId} {post : List CO → Mem → Prop} {s : Mem} (h :
    (∃ (d' mc' ms' : Nat) (post' : List CO → Mem → Prop), d' < 3 ∧ 26 + mc' ≤ 48 ∧ 215 + ms' ≤ 655 ∧ CSpec l D cI cZ d' mc' ms' hX5_init [.inr 26] SH_9 (stM s 26 (fun _ => 0)) post' ∧ ∀ (sh' : List CO) (s' : Mem), post' sh' s' →
    AC l D cI cZ 3 48 655 hX7_init post 53 [some (.inr 0)] [.inr 26, .inr 0] sh' (s') (26 + mc') (215 + ms'))) :
    AC l D cI cZ 3 48 655 hX7_init post 42 [some (.inr 0)] [.inr 15, .inr 0] SH_8 s 25 208 := wpsC_ok (cut := [12, 27, 42, 53, 64, 79, 90]) rfl oX7_init 6 42 _ _ _ _ _ _ h
abbrev SH_10 : List CO := [.inr (7, [some (some 1), some (some 8), some (some 15), some none, some none, some none, some none]), .inr (4, [none, some (some 2), some (some 3), some (some 4), some (some 5), some (some 6), some (some 7), none, none]), .inl (0, 8), .inl (0, 8), .inl (0, 8), .inl (0, 8), .inl (0, 8), .inl (0, 4), .inr (2, [some (some 1), some (some 9), some (some 10), some (some 11), some (some 12), some (some 13), some (some 14), none]), .inl (0, 8), .inl (0, 9), .inl (0, 9), .inl (0, 9), .inl (0, 9), .inl (0, 9), .inr (0, [some (some 1), some (some 16), none, none, none, none, some (some 23), some (some 24), some (some 25)]), .inr (2, [some (some 1), some (some 17), some (some 18), some (some 19), some (some 20), some (some 21), some (some 22), none]), .inl (0, 8), .inl (0, 9), .inl (0, 9), .inl (0, 9), .inl (0, 9), .inl (0, 9), .inl (0, 8), .inl (0, 8), .inl (0, 8), .inr (5, [some (some 27), some (some 28), some (some 29), some (some 30), some (some 31), some (some 32), none]), .inl (0, 8), .inl (0, 64), .inl (0, 8), .inl (0, 8), .inl (1, 8), .inl (1, 8)]
set_option maxRecDepth 100000 in
theorem kX5_init_26_0 {l : Launch} {D : va_G} {cI cZ : ClassId} {post : List CO → Mem → Prop} {s : Mem} (h :
    post SH_10 (stM (stM (stM (stM (stM (stM s 27 (fun _ => 0)) 28 (fun _ => 0)) 29 (fun _ => 0)) 30 (fun _ => 0)) 31 (fun _ => 0)) 32 (fun _ => 0))) :
    AC l D cI cZ 1 6 104 hX5_init post 0 [some (.inr 26)] [] SH_9 s 0 0 := wpsC_ok (cut := []) rfl oX5_init 28 0 _ _ _ _ _ _ h
abbrev SH_11 : List CO := [.inr (7, [some (some 1), some (some 8), some (some 15), some (some 26), some none, some none, some none]), .inr (4, [none, some (some 2), some (some 3), some (some 4), some (some 5), some (some 6), some (some 7), none, none]), .inl (0, 8), .inl (0, 8), .inl (0, 8), .inl (0, 8), .inl (0, 8), .inl (0, 4), .inr (2, [some (some 1), some (some 9), some (some 10), some (some 11), some (some 12), some (some 13), some (some 14), none]), .inl (0, 8), .inl (0, 9), .inl (0, 9), .inl (0, 9), .inl (0, 9), .inl (0, 9), .inr (0, [some (some 1), some (some 16), none, none, none, none, some (some 23), some (some 24), some (some 25)]), .inr (2, [some (some 1), some (some 17), some (some 18), some (some 19), some (some 20), some (some 21), some (some 22), none]), .inl (0, 8), .inl (0, 9), .inl (0, 9), .inl (0, 9), .inl (0, 9), .inl (0, 9), .inl (0, 8), .inl (0, 8), .inl (0, 8), .inr (5, [some (some 27), some (some 28), some (some 29), some (some 30), some (some 31), some (some 32), none]), .inl (0, 8), .inl (0, 64), .inl (0, 8), .inl (0, 8), .inl (1, 8), .inl (1, 8), .inr (3, [none, some none, some none, some none, some none, some none, none])]
set_option maxRecDepth 100000 in
theorem kX7_init_0_53 {l : Launch} {D : va_G} {cI cZ : ClassId} {post : List CO → Mem → Prop} {s : Mem} (h :
    (∃ (d' mc' ms' : Nat) (post' : List CO → Mem → Prop), d' < 3 ∧ 33 + mc' ≤ 48 ∧ 326 + ms' ≤ 655 ∧ CSpec l D cI cZ d' mc' ms' hX3_init [.inr 33] SH_11 (stM s 33 (fun _ => 0)) post' ∧ ∀ (sh' : List CO) (s' : Mem), post' sh' s' →
    AC l D cI cZ 3 48 655 hX7_init post 64 [some (.inr 0)] [.inr 33, .inr 0] sh' (s') (33 + mc') (326 + ms'))) :
    AC l D cI cZ 3 48 655 hX7_init post 53 [some (.inr 0)] [.inr 26, .inr 0] SH_10 s 32 319 := wpsC_ok (cut := [12, 27, 42, 53, 64, 79, 90]) rfl oX7_init 6 53 _ _ _ _ _ _ h
abbrev SH_12 : List CO := [.inr (7, [some (some 1), some (some 8), some (some 15), some (some 26), some none, some none, some none]), .inr (4, [none, some (some 2), some (some 3), some (some 4), some (some 5), some (some 6), some (some 7), none, none]), .inl (0, 8), .inl (0, 8), .inl (0, 8), .inl (0, 8), .inl (0, 8), .inl (0, 4), .inr (2, [some (some 1), some (some 9), some (some 10), some (some 11), some (some 12), some (some 13), some (some 14), none]), .inl (0, 8), .inl (0, 9), .inl (0, 9), .inl (0, 9), .inl (0, 9), .inl (0, 9), .inr (0, [some (some 1), some (some 16), none, none, none, none, some (some 23), some (some 24), some (some 25)]), .inr (2, [some (some 1), some (some 17), some (some 18), some (some 19), some (some 20), some (some 21), some (some 22), none]), .inl (0, 8), .inl (0, 9), .inl (0, 9), .inl (0, 9), .inl (0, 9), .inl (0, 9), .inl (0, 8), .inl (0, 8), .inl (0, 8), .inr (5, [some (some 27), some (some 28), some (some 29), some (some 30), some (some 31), some (some 32), none]), .inl (0, 8), .inl (0, 64), .inl (0, 8), .inl (0, 8), .inl (1, 8), .inl (1, 8), .inr (3, [none, some (some 34), some (some 35), some (some 36), some (some 37), some (some 38), none]), .inl (0, 8), .inl (0, 8), .inl (0, 8), .inl (0, 64), .inl (0, 64)]
set_option maxRecDepth 100000 in
theorem kX3_init_33_0 {l : Launch} {D : va_G} {cI cZ : ClassId} {post : List CO → Mem → Prop} {s : Mem} (h :
    AC l D cI cZ 1 5 152 hX3_init post 46 [some (.inr 33), some (.inl (0 : Int32)), none] [] SH_12 (stM (stM (stM (stM (stM s 34 (fun _ => 0)) 35 (fun _ => 0)) 36 (fun _ => 0)) 37 (fun _ => 0)) 38 (fun _ => 0)) 5 152) :
    AC l D cI cZ 1 5 152 hX3_init post 0 [some (.inr 33), none, none] [] SH_11 s 0 0 := wpsC_ok (cut := [46, 54]) rfl oX3_init 25 0 _ _ _ _ _ _ h
set_option maxRecDepth 100000 in
theorem kX3_init_33_46 {l : Launch} {D : va_G} {cI cZ : ClassId} {post : List CO → Mem → Prop} {a1 : Int32} {s : Mem} (h :
    (((8 : Int32) ≤ a1 →
      post SH_12 s) ∧
    (¬ (8 : Int32) ≤ a1 →
      AC l D cI cZ 1 5 152 hX3_init post 54 [some (.inr 33), some (.inl a1), some (.inl (0 : Int32))] [] SH_12 s 5 152))) :
    AC l D cI cZ 1 5 152 hX3_init post 46 [some (.inr 33), some (.inl a1), none] [] SH_12 s 5 152 := wpsC_ok (cut := [46, 54]) rfl oX3_init 6 46 _ _ _ _ _ _ h
set_option maxRecDepth 100000 in
theorem kX3_init_33_54 {l : Launch} {D : va_G} {cI cZ : ClassId} {post : List CO → Mem → Prop} {a1 a2 : Int32} {s : Mem} (h :
    (((8 : Int32) ≤ a2 →
      AC l D cI cZ 1 5 152 hX3_init post 46 [some (.inr 33), some (.inl (a1 + (1 : Int32))), some (.inl a2)] [] SH_12 s 5 152) ∧
    (¬ (8 : Int32) ≤ a2 →
      ((¬ a1 = a2 →
        (vp_in ((a1 * (8 : Int32)) + a2) 64 ∧
        ((¬ a1 = a2 →
          (vp_in ((a1 * (8 : Int32)) + a2) 64 ∧
          AC l D cI cZ 1 5 152 hX3_init post 54 [some (.inr 33), some (.inl a1), some (.inl (a2 + (1 : Int32)))] [] SH_12 (wrM (wrM s 37 ((a1 * (8 : Int32)) + a2).toNatClampNeg (-1 : Int32)) 38 ((a1 * (8 : Int32)) + a2).toNatClampNeg (-1 : Int32)) 5 152)) ∧
        (a1 = a2 →
          (vp_in ((a1 * (8 : Int32)) + a2) 64 ∧
          AC l D cI cZ 1 5 152 hX3_init post 54 [some (.inr 33), some (.inl a1), some (.inl (a2 + (1 : Int32)))] [] SH_12 (wrM (wrM s 37 ((a1 * (8 : Int32)) + a2).toNatClampNeg (-1 : Int32)) 38 ((a1 * (8 : Int32)) + a2).toNatClampNeg (0 : Int32)) 5 152))))) ∧
      (a1 = a2 →
        (vp_in ((a1 * (8 : Int32)) + a2) 64 ∧
        ((¬ a1 = a2 →
          (vp_in ((a1 * (8 : Int32)) + a2) 64 ∧
          AC l D cI cZ 1 5 152 hX3_init post 54 [some (.inr 33), some (.inl a1), some (.inl (a2 + (1 : Int32)))] [] SH_12 (wrM (wrM s 37 ((a1 * (8 : Int32)) + a2).toNatClampNeg (0 : Int32)) 38 ((a1 * (8 : Int32)) + a2).toNatClampNeg (-1 : Int32)) 5 152)) ∧
        (a1 = a2 →
          (vp_in ((a1 * (8 : Int32)) + a2) 64 ∧
          AC l D cI cZ 1 5 152 hX3_init post 54 [some (.inr 33), some (.inl a1), some (.inl (a2 + (1 : Int32)))] [] SH_12 (wrM (wrM s 37 ((a1 * (8 : Int32)) + a2).toNatClampNeg (0 : Int32)) 38 ((a1 * (8 : Int32)) + a2).toNatClampNeg (0 : Int32)) 5 152))))))))) :
    AC l D cI cZ 1 5 152 hX3_init post 54 [some (.inr 33), some (.inl a1), some (.inl a2)] [] SH_12 s 5 152 := wpsC_ok (cut := [46, 54]) rfl oX3_init 32 54 _ _ _ _ _ _ h
abbrev SH_13 : List CO := [.inr (7, [some (some 1), some (some 8), some (some 15), some (some 26), some (some 33), some none, some none]), .inr (4, [none, some (some 2), some (some 3), some (some 4), some (some 5), some (some 6), some (some 7), none, none]), .inl (0, 8), .inl (0, 8), .inl (0, 8), .inl (0, 8), .inl (0, 8), .inl (0, 4), .inr (2, [some (some 1), some (some 9), some (some 10), some (some 11), some (some 12), some (some 13), some (some 14), none]), .inl (0, 8), .inl (0, 9), .inl (0, 9), .inl (0, 9), .inl (0, 9), .inl (0, 9), .inr (0, [some (some 1), some (some 16), none, none, none, none, some (some 23), some (some 24), some (some 25)]), .inr (2, [some (some 1), some (some 17), some (some 18), some (some 19), some (some 20), some (some 21), some (some 22), none]), .inl (0, 8), .inl (0, 9), .inl (0, 9), .inl (0, 9), .inl (0, 9), .inl (0, 9), .inl (0, 8), .inl (0, 8), .inl (0, 8), .inr (5, [some (some 27), some (some 28), some (some 29), some (some 30), some (some 31), some (some 32), none]), .inl (0, 8), .inl (0, 64), .inl (0, 8), .inl (0, 8), .inl (1, 8), .inl (1, 8), .inr (3, [none, some (some 34), some (some 35), some (some 36), some (some 37), some (some 38), none]), .inl (0, 8), .inl (0, 8), .inl (0, 8), .inl (0, 64), .inl (0, 64), .inr (1, [some none, none, none, none, some none, some none, some none, some none, some none, some none])]
set_option maxRecDepth 100000 in
theorem kX7_init_0_64 {l : Launch} {D : va_G} {cI cZ : ClassId} {post : List CO → Mem → Prop} {s : Mem} (h :
    (∃ (d' mc' ms' : Nat) (post' : List CO → Mem → Prop), d' < 3 ∧ 39 + mc' ≤ 48 ∧ 488 + ms' ≤ 655 ∧ CSpec l D cI cZ d' mc' ms' hX1_init [.inr 39, .inr 33] SH_13 (stM s 39 (fun _ => 0)) post' ∧ ∀ (sh' : List CO) (s' : Mem), post' sh' s' →
    AC l D cI cZ 3 48 655 hX7_init post 79 [some (.inr 0)] [.inr 39, .inr 0] sh' (s') (39 + mc') (488 + ms'))) :
    AC l D cI cZ 3 48 655 hX7_init post 64 [some (.inr 0)] [.inr 33, .inr 0] SH_12 s 38 478 := wpsC_ok (cut := [12, 27, 42, 53, 64, 79, 90]) rfl oX7_init 8 64 _ _ _ _ _ _ h
abbrev SH_14 : List CO := [.inr (7, [some (some 1), some (some 8), some (some 15), some (some 26), some (some 33), some none, some none]), .inr (4, [none, some (some 2), some (some 3), some (some 4), some (some 5), some (some 6), some (some 7), none, none]), .inl (0, 8), .inl (0, 8), .inl (0, 8), .inl (0, 8), .inl (0, 8), .inl (0, 4), .inr (2, [some (some 1), some (some 9), some (some 10), some (some 11), some (some 12), some (some 13), some (some 14), none]), .inl (0, 8), .inl (0, 9), .inl (0, 9), .inl (0, 9), .inl (0, 9), .inl (0, 9), .inr (0, [some (some 1), some (some 16), none, none, none, none, some (some 23), some (some 24), some (some 25)]), .inr (2, [some (some 1), some (some 17), some (some 18), some (some 19), some (some 20), some (some 21), some (some 22), none]), .inl (0, 8), .inl (0, 9), .inl (0, 9), .inl (0, 9), .inl (0, 9), .inl (0, 9), .inl (0, 8), .inl (0, 8), .inl (0, 8), .inr (5, [some (some 27), some (some 28), some (some 29), some (some 30), some (some 31), some (some 32), none]), .inl (0, 8), .inl (0, 64), .inl (0, 8), .inl (0, 8), .inl (1, 8), .inl (1, 8), .inr (3, [none, some (some 34), some (some 35), some (some 36), some (some 37), some (some 38), none]), .inl (0, 8), .inl (0, 8), .inl (0, 8), .inl (0, 64), .inl (0, 64), .inr (1, [some (some 33), none, none, none, some (some 40), some (some 41), some (some 42), some (some 43), some (some 44), some (some 45)]), .inl (0, 8), .inl (0, 8), .inl (0, 8), .inl (0, 8), .inl (0, 9), .inl (0, 9)]
set_option maxRecDepth 100000 in
theorem kX1_init_39_0 {l : Launch} {D : va_G} {cI cZ : ClassId} {post : List CO → Mem → Prop} {s : Mem} (h :
    post SH_14 (stM (stM (stM (stM (stM (stM s 40 (fun _ => 0)) 41 (fun _ => 0)) 42 (fun _ => 0)) 43 (fun _ => 0)) 44 (fun _ => 0)) 45 (fun _ => 0))) :
    AC l D cI cZ 1 6 50 hX1_init post 0 [some (.inr 39), some (.inr 33)] [] SH_13 s 0 0 := wpsC_ok (cut := []) rfl oX1_init 31 0 _ _ _ _ _ _ h
abbrev SH_15 : List CO := [.inr (7, [some (some 1), some (some 8), some (some 15), some (some 26), some (some 33), some (some 39), some none]), .inr (4, [none, some (some 2), some (some 3), some (some 4), some (some 5), some (some 6), some (some 7), none, none]), .inl (0, 8), .inl (0, 8), .inl (0, 8), .inl (0, 8), .inl (0, 8), .inl (0, 4), .inr (2, [some (some 1), some (some 9), some (some 10), some (some 11), some (some 12), some (some 13), some (some 14), none]), .inl (0, 8), .inl (0, 9), .inl (0, 9), .inl (0, 9), .inl (0, 9), .inl (0, 9), .inr (0, [some (some 1), some (some 16), none, none, none, none, some (some 23), some (some 24), some (some 25)]), .inr (2, [some (some 1), some (some 17), some (some 18), some (some 19), some (some 20), some (some 21), some (some 22), none]), .inl (0, 8), .inl (0, 9), .inl (0, 9), .inl (0, 9), .inl (0, 9), .inl (0, 9), .inl (0, 8), .inl (0, 8), .inl (0, 8), .inr (5, [some (some 27), some (some 28), some (some 29), some (some 30), some (some 31), some (some 32), none]), .inl (0, 8), .inl (0, 64), .inl (0, 8), .inl (0, 8), .inl (1, 8), .inl (1, 8), .inr (3, [none, some (some 34), some (some 35), some (some 36), some (some 37), some (some 38), none]), .inl (0, 8), .inl (0, 8), .inl (0, 8), .inl (0, 64), .inl (0, 64), .inr (1, [some (some 33), none, none, none, some (some 40), some (some 41), some (some 42), some (some 43), some (some 44), some (some 45)]), .inl (0, 8), .inl (0, 8), .inl (0, 8), .inl (0, 8), .inl (0, 9), .inl (0, 9), .inr (6, [none, some none, some none, none, none])]
set_option maxRecDepth 100000 in
theorem kX7_init_0_79 {l : Launch} {D : va_G} {cI cZ : ClassId} {post : List CO → Mem → Prop} {s : Mem} (h :
    (∃ (d' mc' ms' : Nat) (post' : List CO → Mem → Prop), d' < 3 ∧ 46 + mc' ≤ 48 ∧ 543 + ms' ≤ 655 ∧ CSpec l D cI cZ d' mc' ms' hX6_init [.inr 46] SH_15 (stM s 46 (fun _ => 0)) post' ∧ ∀ (sh' : List CO) (s' : Mem), post' sh' s' →
    AC l D cI cZ 3 48 655 hX7_init post 90 [some (.inr 0)] [.inr 46, .inr 0] sh' (s') (46 + mc') (543 + ms'))) :
    AC l D cI cZ 3 48 655 hX7_init post 79 [some (.inr 0)] [.inr 39, .inr 0] SH_14 s 45 538 := wpsC_ok (cut := [12, 27, 42, 53, 64, 79, 90]) rfl oX7_init 6 79 _ _ _ _ _ _ h
abbrev SH_16 : List CO := [.inr (7, [some (some 1), some (some 8), some (some 15), some (some 26), some (some 33), some (some 39), some none]), .inr (4, [none, some (some 2), some (some 3), some (some 4), some (some 5), some (some 6), some (some 7), none, none]), .inl (0, 8), .inl (0, 8), .inl (0, 8), .inl (0, 8), .inl (0, 8), .inl (0, 4), .inr (2, [some (some 1), some (some 9), some (some 10), some (some 11), some (some 12), some (some 13), some (some 14), none]), .inl (0, 8), .inl (0, 9), .inl (0, 9), .inl (0, 9), .inl (0, 9), .inl (0, 9), .inr (0, [some (some 1), some (some 16), none, none, none, none, some (some 23), some (some 24), some (some 25)]), .inr (2, [some (some 1), some (some 17), some (some 18), some (some 19), some (some 20), some (some 21), some (some 22), none]), .inl (0, 8), .inl (0, 9), .inl (0, 9), .inl (0, 9), .inl (0, 9), .inl (0, 9), .inl (0, 8), .inl (0, 8), .inl (0, 8), .inr (5, [some (some 27), some (some 28), some (some 29), some (some 30), some (some 31), some (some 32), none]), .inl (0, 8), .inl (0, 64), .inl (0, 8), .inl (0, 8), .inl (1, 8), .inl (1, 8), .inr (3, [none, some (some 34), some (some 35), some (some 36), some (some 37), some (some 38), none]), .inl (0, 8), .inl (0, 8), .inl (0, 8), .inl (0, 64), .inl (0, 64), .inr (1, [some (some 33), none, none, none, some (some 40), some (some 41), some (some 42), some (some 43), some (some 44), some (some 45)]), .inl (0, 8), .inl (0, 8), .inl (0, 8), .inl (0, 8), .inl (0, 9), .inl (0, 9), .inr (6, [none, some (some 47), some (some 48), none, none]), .inl (0, 56), .inl (0, 56)]
set_option maxRecDepth 100000 in
theorem kX6_init_46_0 {l : Launch} {D : va_G} {cI cZ : ClassId} {post : List CO → Mem → Prop} {s : Mem} (h :
    post SH_16 (stM (stM s 47 (fun _ => 0)) 48 (fun _ => 0))) :
    AC l D cI cZ 1 2 112 hX6_init post 0 [some (.inr 46)] [] SH_15 s 0 0 := wpsC_ok (cut := []) rfl oX6_init 12 0 _ _ _ _ _ _ h
abbrev SH_17 : List CO := [.inr (7, [some (some 1), some (some 8), some (some 15), some (some 26), some (some 33), some (some 39), some (some 46)]), .inr (4, [none, some (some 2), some (some 3), some (some 4), some (some 5), some (some 6), some (some 7), none, none]), .inl (0, 8), .inl (0, 8), .inl (0, 8), .inl (0, 8), .inl (0, 8), .inl (0, 4), .inr (2, [some (some 1), some (some 9), some (some 10), some (some 11), some (some 12), some (some 13), some (some 14), none]), .inl (0, 8), .inl (0, 9), .inl (0, 9), .inl (0, 9), .inl (0, 9), .inl (0, 9), .inr (0, [some (some 1), some (some 16), none, none, none, none, some (some 23), some (some 24), some (some 25)]), .inr (2, [some (some 1), some (some 17), some (some 18), some (some 19), some (some 20), some (some 21), some (some 22), none]), .inl (0, 8), .inl (0, 9), .inl (0, 9), .inl (0, 9), .inl (0, 9), .inl (0, 9), .inl (0, 8), .inl (0, 8), .inl (0, 8), .inr (5, [some (some 27), some (some 28), some (some 29), some (some 30), some (some 31), some (some 32), none]), .inl (0, 8), .inl (0, 64), .inl (0, 8), .inl (0, 8), .inl (1, 8), .inl (1, 8), .inr (3, [none, some (some 34), some (some 35), some (some 36), some (some 37), some (some 38), none]), .inl (0, 8), .inl (0, 8), .inl (0, 8), .inl (0, 64), .inl (0, 64), .inr (1, [some (some 33), none, none, none, some (some 40), some (some 41), some (some 42), some (some 43), some (some 44), some (some 45)]), .inl (0, 8), .inl (0, 8), .inl (0, 8), .inl (0, 8), .inl (0, 9), .inl (0, 9), .inr (6, [none, some (some 47), some (some 48), none, none]), .inl (0, 56), .inl (0, 56)]
set_option maxRecDepth 100000 in
theorem kX7_init_0_90 {l : Launch} {D : va_G} {cI cZ : ClassId} {post : List CO → Mem → Prop} {s : Mem} (h :
    post SH_17 s) :
    AC l D cI cZ 3 48 655 hX7_init post 90 [some (.inr 0)] [.inr 46, .inr 0] SH_16 s 48 655 := wpsC_ok (cut := [12, 27, 42, 53, 64, 79, 90]) rfl oX7_init 3 90 _ _ _ _ _ _ h
abbrev SH_18 : List CO := [.inr (7, [some (some 1), some (some 8), some (some 15), some (some 26), some (some 33), some (some 39), some (some 46)]), .inr (4, [none, some (some 2), some (some 3), some (some 4), some (some 5), some (some 6), some (some 7), none, none]), .inl (0, 8), .inl (0, 8), .inl (0, 8), .inl (0, 8), .inl (0, 8), .inl (0, 4), .inr (2, [some (some 1), some (some 9), some (some 10), some (some 11), some (some 12), some (some 13), some (some 14), none]), .inl (0, 8), .inl (0, 9), .inl (0, 9), .inl (0, 9), .inl (0, 9), .inl (0, 9), .inr (0, [some (some 1), some (some 16), none, none, none, none, some (some 23), some (some 24), some (some 25)]), .inr (2, [some (some 1), some (some 17), some (some 18), some (some 19), some (some 20), some (some 21), some (some 22), none]), .inl (0, 8), .inl (0, 9), .inl (0, 9), .inl (0, 9), .inl (0, 9), .inl (0, 9), .inl (0, 8), .inl (0, 8), .inl (0, 8), .inr (5, [some (some 27), some (some 28), some (some 29), some (some 30), some (some 31), some (some 32), none]), .inl (0, 8), .inl (0, 64), .inl (0, 8), .inl (0, 8), .inl (1, 8), .inl (1, 8), .inr (3, [none, some (some 34), some (some 35), some (some 36), some (some 37), some (some 38), none]), .inl (0, 8), .inl (0, 8), .inl (0, 8), .inl (0, 64), .inl (0, 64), .inr (1, [some (some 33), none, none, none, some (some 40), some (some 41), some (some 42), some (some 43), some (some 44), some (some 45)]), .inl (0, 8), .inl (0, 8), .inl (0, 8), .inl (0, 8), .inl (0, 9), .inl (0, 9), .inr (6, [none, some (some 47), some (some 48), none, none]), .inl (0, 56), .inl (0, 56), .inr (8, [none, some (some 50), some (some 51), some (some 52), some (some 53), some (some 54), some (some 55), some (some 56), some (some 57), some (some 58), some (some 59), none, some (some 60), some (some 61), some (some 62), some (some 63), some (some 64), none, some (some 65), some (some 66), some (some 67), some (some 68), some (some 69), some (some 70), some (some 71), some (some 72), none, some (some 73), some (some 74), none]), .inl (0, 8), .inl (0, 8), .inl (0, 8), .inl (0, 8), .inl (0, 8), .inl (0, 10), .inl (1, 16), .inl (0, 8), .inl (0, 64), .inl (0, 8), .inl (0, 8), .inl (0, 8), .inl (0, 8), .inl (0, 64), .inl (0, 64), .inl (0, 500), .inl (0, 500), .inl (0, 500), .inl (0, 9), .inl (0, 10), .inl (0, 8), .inl (0, 8), .inl (0, 9), .inl (0, 8), .inl (1, 8)]
abbrev SH_19 : List CO := [.inr (7, [some (some 1), some (some 8), some (some 15), some (some 26), some (some 33), some (some 39), some (some 46)]), .inr (4, [none, some (some 2), some (some 3), some (some 4), some (some 5), some (some 6), some (some 7), none, none]), .inl (0, 8), .inl (0, 8), .inl (0, 8), .inl (0, 8), .inl (0, 8), .inl (0, 4), .inr (2, [some (some 1), some (some 9), some (some 10), some (some 11), some (some 12), some (some 13), some (some 14), none]), .inl (0, 8), .inl (0, 9), .inl (0, 9), .inl (0, 9), .inl (0, 9), .inl (0, 9), .inr (0, [some (some 1), some (some 16), none, none, none, none, some (some 23), some (some 24), some (some 25)]), .inr (2, [some (some 1), some (some 17), some (some 18), some (some 19), some (some 20), some (some 21), some (some 22), none]), .inl (0, 8), .inl (0, 9), .inl (0, 9), .inl (0, 9), .inl (0, 9), .inl (0, 9), .inl (0, 8), .inl (0, 8), .inl (0, 8), .inr (5, [some (some 27), some (some 28), some (some 29), some (some 30), some (some 31), some (some 32), none]), .inl (0, 8), .inl (0, 64), .inl (0, 8), .inl (0, 8), .inl (1, 8), .inl (1, 8), .inr (3, [none, some (some 34), some (some 35), some (some 36), some (some 37), some (some 38), none]), .inl (0, 8), .inl (0, 8), .inl (0, 8), .inl (0, 64), .inl (0, 64), .inr (1, [some (some 33), none, none, none, some (some 40), some (some 41), some (some 42), some (some 43), some (some 44), some (some 45)]), .inl (0, 8), .inl (0, 8), .inl (0, 8), .inl (0, 8), .inl (0, 9), .inl (0, 9), .inr (6, [none, some (some 47), some (some 48), none, none]), .inl (0, 56), .inl (0, 56), .inr (8, [none, some none, some none, some none, some none, some none, some none, some none, some none, some none, some none, none, some none, some none, some none, some none, some none, none, some none, some none, some none, some none, some none, some none, some none, some none, none, some none, some none, none])]
set_option maxRecDepth 100000 in
theorem kX8_init_49_0 {l : Launch} {D : va_G} {cI cZ : ClassId} {post : List CO → Mem → Prop} {s : Mem} (h :
    (vp_in (0 : Int32) 10 ∧
    (vp_in (1 : Int32) 10 ∧
    (vp_in (2 : Int32) 10 ∧
    (vp_in (3 : Int32) 10 ∧
    (vp_in (4 : Int32) 10 ∧
    (vp_in (5 : Int32) 10 ∧
    (vp_in (6 : Int32) 10 ∧
    (vp_in (7 : Int32) 10 ∧
    (vp_in (8 : Int32) 10 ∧
    (vp_in (9 : Int32) 10 ∧
    post SH_18 (stM (stM (stM (stM (stM (stM (stM (stM (stM (stM (stM (stM (stM (stM (stM (stM (stM (stM (stM (wrM (wrM (wrM (wrM (wrM (wrM (wrM (wrM (wrM (wrM (stM (stM (stM (stM (stM (stM s 50 (fun _ => 0)) 51 (fun _ => 0)) 52 (fun _ => 0)) 53 (fun _ => 0)) 54 (fun _ => 0)) 55 (fun _ => 0)) 55 (0 : Int32).toNatClampNeg (1 : Int32)) 55 (1 : Int32).toNatClampNeg (1 : Int32)) 55 (2 : Int32).toNatClampNeg (1 : Int32)) 55 (3 : Int32).toNatClampNeg (1 : Int32)) 55 (4 : Int32).toNatClampNeg (1 : Int32)) 55 (5 : Int32).toNatClampNeg (1 : Int32)) 55 (6 : Int32).toNatClampNeg (1 : Int32)) 55 (7 : Int32).toNatClampNeg (1 : Int32)) 55 (8 : Int32).toNatClampNeg (1 : Int32)) 55 (9 : Int32).toNatClampNeg (1 : Int32)) 56 (fun _ => 0)) 57 (fun _ => 0)) 58 (fun _ => 0)) 59 (fun _ => 0)) 60 (fun _ => 0)) 61 (fun _ => 0)) 62 (fun _ => 0)) 63 (fun _ => 0)) 64 (fun _ => 0)) 65 (fun _ => 0)) 66 (fun _ => 0)) 67 (fun _ => 0)) 68 (fun _ => 0)) 69 (fun _ => 0)) 70 (fun _ => 0)) 71 (fun _ => 0)) 72 (fun _ => 0)) 73 (fun _ => 0)) 74 (fun _ => 0))))))))))))) :
    AC l D cI cZ 1 25 1858 hX8_init post 0 [some (.inr 49)] [] SH_19 s 0 0 := wpsC_ok (cut := []) rfl oX8_init 144 0 _ _ _ _ _ _ h
theorem fin_sh : SH_18 = SHl.map (fun c => match c with
    | .inl q => .inl q
    | .inr (ci, fs) => .inr (ci, fs.map (fun o => o.map some))) := rfl
end
section
def leL : LL → LL → Prop
  | [], _ => True
  | none :: r, [] => leL r []
  | none :: r, _ :: q => leL r q
  | some v :: r, some w :: q => v = w ∧ leL r q
  | some _ :: _, _ => False
theorem leL_at : ∀ {L M : LL} {i : Nat} {v : Vl}, leL L M → L[i]? = some (some v) → M[i]? = some (some v)
  | [], _, i, v, _, h => by simp at h
  | none :: r, [], 0, v, _, h => by simp at h
  | none :: r, [], i + 1, v, q, h => by
    have := leL_at (L := r) (M := []) (i := i) (v := v) q (by simpa using h)
    simp at this
  | none :: r, _ :: w, 0, v, _, h => by simp at h
  | none :: r, _ :: w, i + 1, v, q, h => by
    have := leL_at (L := r) (M := w) (i := i) (v := v) q (by simpa using h)
    simpa using this
  | some a :: r, some b :: w, 0, v, q, h => by
    simp at h
    rw [← h, q.1]
    rfl
  | some a :: r, some b :: w, i + 1, v, q, h => by
    have := leL_at (L := r) (M := w) (i := i) (v := v) q.2 (by simpa using h)
    simpa using this
theorem aw_weak {l : Launch} {G : GG} {d : Nat} {h : HD} {pc : Nat} {L M : LL} {st : List Vl} {s : Mem} {post : Int32 → Mem → Prop} (q : leL L M) (k : AW l G d h pc L st s post) : AW l G d h pc M st s post := by
  intro p e S m args below meth c H locs ls X K P I Z N
  exact k p e S m args below meth c H locs ls X K P I Z ⟨N.1, N.2.1, fun i v hi => N.2.2 i v (leL_at q hi)⟩
theorem ac_weak {l : Launch} {D : va_G} {cI cZ : ClassId} {d mc ms : Nat} {h : HD} {post : List CO → Mem → Prop} {pc : Nat} {L M : LL} {st : List Vl} {sh : List CO} {s : Mem} {cells slots : Nat} (q : leL L M) (k : AC l D cI cZ d mc ms h post pc L st sh s cells slots) : AC l D cI cZ d mc ms h post pc M st sh s cells slots := by
  intro p e S m args below meth c H locs ls as0 as sz X hi K hz hp hl P hD Z N
  exact k p e S m args below meth c H locs ls as0 as sz X hi K hz hp hl P hD Z ⟨N.1, N.2.1, fun i v hi => N.2.2 i v (leL_at q hi)⟩
theorem spec_post {l : Launch} {G : GG} {d : Nat} {h : HD} {As : List Vl} {s : Mem} {post post' : Int32 → Mem → Prop} (k : ∀ r t, post r t → post' r t) (q : Spec l G d h As s post) : Spec l G d h As s post' := by
  refine ⟨q.1, ?_⟩
  intro p e ha hc hk S m args below hf happ hP hT
  obtain ⟨n, o, h1, h2, h3, ⟨⟨⟨r, τ, e1, e2, e3⟩, e4⟩, e5⟩⟩ := q.2 p e ha hc hk S m args below hf happ hP hT
  exact ⟨n, o, h1, h2, h3, ⟨⟨⟨r, τ, e1, k r τ e2, e3⟩, e4⟩, e5⟩⟩
theorem vin {i : Int32} {n : Nat} (h : decide (¬ (i < 0 ∨ n ≤ i.toNatClampNeg)) = true) : vp_in i n := by
  unfold vp_in
  exact of_decide_eq_true h
set_option maxRecDepth 100000 in
theorem sX4_init_1 {l : Launch} {D : va_G} {cI cZ : ClassId} (s : Mem) : CSpec l D cI cZ 1 6 44 hX4_init [.inr 1] SH_0 s (fun sh t => sh = SH_2 ∧ t = wrM (stM (stM (stM (stM (stM (stM s 2 (fun _ => 0)) 3 (fun _ => 0)) 4 (fun _ => 0)) 5 (fun _ => 0)) 6 (fun _ => 0)) 7 (fun _ => 0)) 7 (1 : Int32).toNatClampNeg (1023 : Int32)) := cspec_of iX4_init rfl (by decide +kernel) rfl (by decide) (kX4_init_1_0 ⟨vin (by decide), ⟨rfl, rfl⟩⟩)
set_option maxRecDepth 100000 in
theorem sX2_init_8 {l : Launch} {D : va_G} {cI cZ : ClassId} (s : Mem) : CSpec l D cI cZ 1 6 53 hX2_init [.inr 8, .inr 1] SH_3 s (fun sh t => sh = SH_4 ∧ t = stM (stM (stM (stM (stM (stM s 9 (fun _ => 0)) 10 (fun _ => 0)) 11 (fun _ => 0)) 12 (fun _ => 0)) 13 (fun _ => 0)) 14 (fun _ => 0)) := cspec_of iX2_init rfl (by decide +kernel) rfl (by decide) (kX2_init_8_0 ⟨rfl, rfl⟩)
set_option maxRecDepth 100000 in
theorem sX2_init_16 {l : Launch} {D : va_G} {cI cZ : ClassId} (s : Mem) : CSpec l D cI cZ 1 6 53 hX2_init [.inr 16, .inr 1] SH_6 s (fun sh t => sh = SH_7 ∧ t = stM (stM (stM (stM (stM (stM s 17 (fun _ => 0)) 18 (fun _ => 0)) 19 (fun _ => 0)) 20 (fun _ => 0)) 21 (fun _ => 0)) 22 (fun _ => 0)) := cspec_of iX2_init rfl (by decide +kernel) rfl (by decide) (kX2_init_16_0 ⟨rfl, rfl⟩)
set_option maxRecDepth 100000 in
theorem sX5_init_26 {l : Launch} {D : va_G} {cI cZ : ClassId} (s : Mem) : CSpec l D cI cZ 1 6 104 hX5_init [.inr 26] SH_9 s (fun sh t => sh = SH_10 ∧ t = stM (stM (stM (stM (stM (stM s 27 (fun _ => 0)) 28 (fun _ => 0)) 29 (fun _ => 0)) 30 (fun _ => 0)) 31 (fun _ => 0)) 32 (fun _ => 0)) := cspec_of iX5_init rfl (by decide +kernel) rfl (by decide) (kX5_init_26_0 ⟨rfl, rfl⟩)
set_option maxRecDepth 100000 in
theorem sX1_init_39 {l : Launch} {D : va_G} {cI cZ : ClassId} (s : Mem) : CSpec l D cI cZ 1 6 50 hX1_init [.inr 39, .inr 33] SH_13 s (fun sh t => sh = SH_14 ∧ t = stM (stM (stM (stM (stM (stM s 40 (fun _ => 0)) 41 (fun _ => 0)) 42 (fun _ => 0)) 43 (fun _ => 0)) 44 (fun _ => 0)) 45 (fun _ => 0)) := cspec_of iX1_init rfl (by decide +kernel) rfl (by decide) (kX1_init_39_0 ⟨rfl, rfl⟩)
set_option maxRecDepth 100000 in
theorem sX6_init_46 {l : Launch} {D : va_G} {cI cZ : ClassId} (s : Mem) : CSpec l D cI cZ 1 2 112 hX6_init [.inr 46] SH_15 s (fun sh t => sh = SH_16 ∧ t = stM (stM s 47 (fun _ => 0)) 48 (fun _ => 0)) := cspec_of iX6_init rfl (by decide +kernel) rfl (by decide) (kX6_init_46_0 ⟨rfl, rfl⟩)
def dg8 (f : Nat → Int32) (n : Nat) : Prop := ∀ a b, a < 8 → b < 8 → a * 8 + b < n → f (a * 8 + b) = if a = b then 0 else -1
theorem dg8_s {f : Nat → Int32} {a b : Nat} {v : Int32} (ha : a < 8) (hb : b < 8) (h : dg8 f (a * 8 + b)) (hv : v = if a = b then 0 else -1) : dg8 (upd f (a * 8 + b) v) (a * 8 + b + 1) := by
  intro a' b' ha' hb' hlt
  unfold upd
  by_cases he : a' * 8 + b' = a * 8 + b
  · rw [if_pos he, hv]
    have h1 : a' = a := by omega
    have h2 : b' = b := by omega
    rw [h1, h2]
  · rw [if_neg he]
    exact h a' b' ha' hb' (by omega)
theorem dg_ix {a b : Nat} (ha : a < 8) (hb : b < 8) : nI a * (8 : Int32) + nI b = nI (a * 8 + b) := by
  rw [show (8 : Int32) = nI 8 from rfl, pk_mul, nI_add]
set_option maxRecDepth 100000 in
theorem sX3_init_33 {l : Launch} {D : va_G} {cI cZ : ClassId} (s : Mem) : CSpec l D cI cZ 1 5 152 hX3_init [.inr 33] SH_11 s (fun sh t => sh = SH_12 ∧ ∃ f g, t = stM (stM (stM (stM (stM (stM (stM s 34 (fun _ => 0)) 35 (fun _ => 0)) 36 (fun _ => 0)) 37 (fun _ => 0)) 38 (fun _ => 0)) 37 f) 38 g ∧ dg8 f 64 ∧ dg8 g 64) := by
  refine cspec_of iX3_init rfl (by decide +kernel) rfl (by decide) (kX3_init_33_0 ?_)
  have inner : ∀ (k a b : Nat), a < 8 → b ≤ 8 → 8 - b < k → ∀ (t : Mem) (f g : Nat → Int32), t = stM (stM (stM (stM (stM (stM (stM s 34 (fun _ => 0)) 35 (fun _ => 0)) 36 (fun _ => 0)) 37 (fun _ => 0)) 38 (fun _ => 0)) 37 f) 38 g → dg8 f (a * 8 + b) → dg8 g (a * 8 + b) →
      (∀ (t : Mem) (f g : Nat → Int32), t = stM (stM (stM (stM (stM (stM (stM s 34 (fun _ => 0)) 35 (fun _ => 0)) 36 (fun _ => 0)) 37 (fun _ => 0)) 38 (fun _ => 0)) 37 f) 38 g → dg8 f (a * 8 + 8) → dg8 g (a * 8 + 8) → AC l D cI cZ 1 5 152 hX3_init (fun sh t => sh = SH_12 ∧ ∃ f g, t = stM (stM (stM (stM (stM (stM (stM s 34 (fun _ => 0)) 35 (fun _ => 0)) 36 (fun _ => 0)) 37 (fun _ => 0)) 38 (fun _ => 0)) 37 f) 38 g ∧ dg8 f 64 ∧ dg8 g 64) 46 [some (.inr 33), some (.inl (nI (a + 1))), none] [] SH_12 t 5 152) →
      AC l D cI cZ 1 5 152 hX3_init (fun sh t => sh = SH_12 ∧ ∃ f g, t = stM (stM (stM (stM (stM (stM (stM s 34 (fun _ => 0)) 35 (fun _ => 0)) 36 (fun _ => 0)) 37 (fun _ => 0)) 38 (fun _ => 0)) 37 f) 38 g ∧ dg8 f 64 ∧ dg8 g 64) 54 [some (.inr 33), some (.inl (nI a)), some (.inl (nI b))] [] SH_12 t 5 152 := by
    intro k
    induction k with
    | zero => intro a b _ _ h; omega
    | succ k ih =>
      intro a b ha hb hk t f g ht hf hg hend
      refine kX3_init_33_54 ⟨fun q => ?_, fun q => ?_⟩
      · have hb8 : b = 8 := by
          rcases Nat.lt_or_ge b 8 with h | h
          · exact absurd q (by rw [show (8 : Int32) = nI 8 from rfl]; exact nI_ge h (by decide))
          · omega
        subst hb8
        rw [nI_1]
        exact ac_weak (L := [some (.inr 33), some (.inl (nI (a + 1))), none]) ⟨rfl, rfl, trivial⟩ (hend t f g ht hf hg)
      · have hb8 : b < 8 := by
          rcases Nat.lt_or_ge b 8 with h | h
          · exact h
          · exact absurd (by rw [show (8 : Int32) = nI 8 from rfl]; exact nI_le h (by omega)) q
        have hi : vp_in (nI a * (8 : Int32) + nI b) 64 := by rw [dg_ix ha hb8]; exact vp_in_nI (by omega) (by decide)
        have hc : (nI a * (8 : Int32) + nI b).toNatClampNeg = a * 8 + b := by rw [dg_ix ha hb8]; exact nI_clamp (by omega)
        have heq : nI a = nI b ↔ a = b := nI_eq (by omega) (by omega)
        have step : ∀ v : Int32, v = (if a = b then 0 else -1) → AC l D cI cZ 1 5 152 hX3_init (fun sh t => sh = SH_12 ∧ ∃ f g, t = stM (stM (stM (stM (stM (stM (stM s 34 (fun _ => 0)) 35 (fun _ => 0)) 36 (fun _ => 0)) 37 (fun _ => 0)) 38 (fun _ => 0)) 37 f) 38 g ∧ dg8 f 64 ∧ dg8 g 64) 54 [some (.inr 33), some (.inl (nI a)), some (.inl (nI b + (1 : Int32)))] [] SH_12 (wrM (wrM t 37 (nI a * (8 : Int32) + nI b).toNatClampNeg v) 38 (nI a * (8 : Int32) + nI b).toNatClampNeg v) 5 152 := by
          intro v hv
          rw [nI_1, hc]
          refine ih a (b + 1) ha (by omega) (by omega) _ (upd f (a * 8 + b) v) (upd g (a * 8 + b) v) ?_ (dg8_s ha hb8 hf hv) (dg8_s ha hb8 hg hv) hend
          subst ht
          funext q j
          by_cases h1 : q = 38
          · subst h1
            rfl
          · by_cases h2 : q = 37
            · subst h2
              rfl
            · simp [stM, h1, h2]
        refine ⟨fun hne => ⟨hi, fun _ => ⟨hi, step (-1) (by rw [if_neg (fun z => hne (heq.mpr z))])⟩, fun h => absurd h hne⟩, fun he => ⟨hi, fun h => absurd he h, fun _ => ⟨hi, step 0 (by rw [if_pos (heq.mp he)])⟩⟩⟩
  have outer : ∀ (k a : Nat), a ≤ 8 → 8 - a < k → ∀ (t : Mem) (f g : Nat → Int32), t = stM (stM (stM (stM (stM (stM (stM s 34 (fun _ => 0)) 35 (fun _ => 0)) 36 (fun _ => 0)) 37 (fun _ => 0)) 38 (fun _ => 0)) 37 f) 38 g → dg8 f (a * 8) → dg8 g (a * 8) → AC l D cI cZ 1 5 152 hX3_init (fun sh t => sh = SH_12 ∧ ∃ f g, t = stM (stM (stM (stM (stM (stM (stM s 34 (fun _ => 0)) 35 (fun _ => 0)) 36 (fun _ => 0)) 37 (fun _ => 0)) 38 (fun _ => 0)) 37 f) 38 g ∧ dg8 f 64 ∧ dg8 g 64) 46 [some (.inr 33), some (.inl (nI a)), none] [] SH_12 t 5 152 := by
    intro k
    induction k with
    | zero => intro a _ h; omega
    | succ k ih =>
      intro a ha hk t f g ht hf hg
      have key : ((8 : Int32) ≤ nI a → (SH_12 = SH_12 ∧ ∃ f g, t = stM (stM (stM (stM (stM (stM (stM s 34 (fun _ => 0)) 35 (fun _ => 0)) 36 (fun _ => 0)) 37 (fun _ => 0)) 38 (fun _ => 0)) 37 f) 38 g ∧ dg8 f 64 ∧ dg8 g 64)) ∧ (¬ (8 : Int32) ≤ nI a → AC l D cI cZ 1 5 152 hX3_init (fun sh t => sh = SH_12 ∧ ∃ f g, t = stM (stM (stM (stM (stM (stM (stM s 34 (fun _ => 0)) 35 (fun _ => 0)) 36 (fun _ => 0)) 37 (fun _ => 0)) 38 (fun _ => 0)) 37 f) 38 g ∧ dg8 f 64 ∧ dg8 g 64) 54 [some (.inr 33), some (.inl (nI a)), some (.inl (0 : Int32))] [] SH_12 t 5 152) := by
        refine ⟨fun q => ?_, fun q => ?_⟩
        · have ha8 : a = 8 := by
            rcases Nat.lt_or_ge a 8 with h | h
            · exact absurd q (by rw [show (8 : Int32) = nI 8 from rfl]; exact nI_ge h (by decide))
            · omega
          subst ha8
          exact ⟨rfl, f, g, ht, hf, hg⟩
        · have ha8 : a < 8 := by
            rcases Nat.lt_or_ge a 8 with h | h
            · exact h
            · exact absurd (by rw [show (8 : Int32) = nI 8 from rfl]; exact nI_le h (by omega)) q
          exact inner 9 a 0 ha8 (by omega) (by omega) t f g ht hf hg (fun t f g ht hf hg => ih (a + 1) (by omega) (by omega) t f g ht (by rw [Nat.succ_mul]; exact hf) (by rw [Nat.succ_mul]; exact hg))
      exact kX3_init_33_46 key
  refine outer 9 0 (by omega) (by omega) _ (fun _ => 0) (fun _ => 0) ?_ (fun a b _ _ h => by omega) (fun a b _ _ h => by omega)
  funext q j
  by_cases h1 : q = 38
  · subst h1
    rfl
  · by_cases h2 : q = 37
    · subst h2
      rfl
    · simp [stM, h1, h2]
set_option maxRecDepth 100000 in
theorem sX0_init_15 {l : Launch} {D : va_G} {cI cZ : ClassId} (s : Mem) : CSpec l D cI cZ 2 10 85 hX0_init [.inr 15, .inr 1] SH_5 s (fun sh t => sh = SH_8 ∧ ∃ u : Mem, t = stM (stM (stM u 23 (fun _ => 0)) 24 (fun _ => 0)) 25 (fun _ => 0) ∧ u = stM (stM (stM (stM (stM (stM (stM s 16 (fun _ => 0)) 17 (fun _ => 0)) 18 (fun _ => 0)) 19 (fun _ => 0)) 20 (fun _ => 0)) 21 (fun _ => 0)) 22 (fun _ => 0)) := by
  refine cspec_of iX0_init rfl (by decide +kernel) rfl (by decide) (kX0_init_15_0 ⟨1, 6, 53, _, by decide, by decide, by decide, sX2_init_16 _, ?_⟩)
  rintro sh' s' ⟨rfl, e2⟩
  exact kX0_init_15_18 ⟨rfl, s', rfl, e2⟩
set_option maxRecDepth 100000 in
theorem sX8_init_49 {l : Launch} {D : va_G} {cI cZ : ClassId} (s : Mem) : CSpec l D cI cZ 1 25 1858 hX8_init [.inr 49] SH_19 s (fun sh t => sh = SH_18 ∧ t = stM (stM (stM (stM (stM (stM (stM (stM (stM (stM (stM (stM (stM (stM (stM (stM (stM (stM (stM (wrM (wrM (wrM (wrM (wrM (wrM (wrM (wrM (wrM (wrM (stM (stM (stM (stM (stM (stM s 50 (fun _ => 0)) 51 (fun _ => 0)) 52 (fun _ => 0)) 53 (fun _ => 0)) 54 (fun _ => 0)) 55 (fun _ => 0)) 55 (0 : Int32).toNatClampNeg (1 : Int32)) 55 (1 : Int32).toNatClampNeg (1 : Int32)) 55 (2 : Int32).toNatClampNeg (1 : Int32)) 55 (3 : Int32).toNatClampNeg (1 : Int32)) 55 (4 : Int32).toNatClampNeg (1 : Int32)) 55 (5 : Int32).toNatClampNeg (1 : Int32)) 55 (6 : Int32).toNatClampNeg (1 : Int32)) 55 (7 : Int32).toNatClampNeg (1 : Int32)) 55 (8 : Int32).toNatClampNeg (1 : Int32)) 55 (9 : Int32).toNatClampNeg (1 : Int32)) 56 (fun _ => 0)) 57 (fun _ => 0)) 58 (fun _ => 0)) 59 (fun _ => 0)) 60 (fun _ => 0)) 61 (fun _ => 0)) 62 (fun _ => 0)) 63 (fun _ => 0)) 64 (fun _ => 0)) 65 (fun _ => 0)) 66 (fun _ => 0)) 67 (fun _ => 0)) 68 (fun _ => 0)) 69 (fun _ => 0)) 70 (fun _ => 0)) 71 (fun _ => 0)) 72 (fun _ => 0)) 73 (fun _ => 0)) 74 (fun _ => 0)) := cspec_of iX8_init rfl (by decide +kernel) rfl (by decide) (kX8_init_49_0 ⟨vin (by decide), ⟨vin (by decide), ⟨vin (by decide), ⟨vin (by decide), ⟨vin (by decide), ⟨vin (by decide), ⟨vin (by decide), ⟨vin (by decide), ⟨vin (by decide), ⟨vin (by decide), ⟨rfl, rfl⟩⟩⟩⟩⟩⟩⟩⟩⟩⟩⟩)
end
section
/-- the memory behind the two constructors -/
def J49 (t : Mem) : Prop := (∀ k, k < 49 → k ≠ 7 → k ≠ 37 → k ≠ 38 → ∀ j, t k j = 0) ∧ t 7 = upd (fun _ => 0) 1 1023 ∧ dg8 (t 37) 64 ∧ dg8 (t 38) 64
def J75 (t : Mem) : Prop := (∀ k, k < 75 → k ≠ 7 → k ≠ 37 → k ≠ 38 → k ≠ 55 → ∀ j, t k j = 0) ∧ t 7 = upd (fun _ => 0) 1 1023 ∧ dg8 (t 37) 64 ∧ dg8 (t 38) 64 ∧ ∀ q, q < 10 → t 55 q = 1
set_option maxRecDepth 100000 in
theorem sX7_init_0 {l : Launch} {D : va_G} {cI cZ : ClassId} : CSpec l D cI cZ 3 48 655 hX7_init [.inr 0] SH_1 (fun _ _ => 0) (fun sh t => sh = SH_17 ∧ J49 t) := by
  refine cspec_of iX7_init rfl (by decide +kernel) rfl (by decide) (kX7_init_0_0 ⟨1, 6, 44, _, by decide, by decide, by decide, sX4_init_1 _, ?_⟩)
  rintro sh1 s1 ⟨rfl, e1⟩
  refine kX7_init_0_12 ⟨1, 6, 53, _, by decide, by decide, by decide, sX2_init_8 _, ?_⟩
  rintro sh2 s2 ⟨rfl, e2⟩
  refine kX7_init_0_27 ⟨2, 10, 85, _, by decide, by decide, by decide, sX0_init_15 _, ?_⟩
  rintro sh3 s3 ⟨rfl, u, e3, eu⟩
  refine kX7_init_0_42 ⟨1, 6, 104, _, by decide, by decide, by decide, sX5_init_26 _, ?_⟩
  rintro sh4 s4 ⟨rfl, e4⟩
  refine kX7_init_0_53 ⟨1, 5, 152, _, by decide, by decide, by decide, sX3_init_33 _, ?_⟩
  rintro sh5 s5 ⟨rfl, f, g, e5, hf, hg⟩
  refine kX7_init_0_64 ⟨1, 6, 50, _, by decide, by decide, by decide, sX1_init_39 _, ?_⟩
  rintro sh6 s6 ⟨rfl, e6⟩
  refine kX7_init_0_79 ⟨1, 2, 112, _, by decide, by decide, by decide, sX6_init_46 _, ?_⟩
  rintro sh7 s7 ⟨rfl, e7⟩
  refine kX7_init_0_90 ⟨rfl, ?_⟩
  subst e7 e6 e5 e4 e3 eu e2 e1
  refine ⟨fun k hk h7 h37 h38 j => ?_, rfl, hf, hg⟩
  match k, hk with
  | 0, _ => rfl
  | 1, _ => rfl
  | 2, _ => rfl
  | 3, _ => rfl
  | 4, _ => rfl
  | 5, _ => rfl
  | 6, _ => rfl
  | 7, _ => exact absurd rfl h7
  | 8, _ => rfl
  | 9, _ => rfl
  | 10, _ => rfl
  | 11, _ => rfl
  | 12, _ => rfl
  | 13, _ => rfl
  | 14, _ => rfl
  | 15, _ => rfl
  | 16, _ => rfl
  | 17, _ => rfl
  | 18, _ => rfl
  | 19, _ => rfl
  | 20, _ => rfl
  | 21, _ => rfl
  | 22, _ => rfl
  | 23, _ => rfl
  | 24, _ => rfl
  | 25, _ => rfl
  | 26, _ => rfl
  | 27, _ => rfl
  | 28, _ => rfl
  | 29, _ => rfl
  | 30, _ => rfl
  | 31, _ => rfl
  | 32, _ => rfl
  | 33, _ => rfl
  | 34, _ => rfl
  | 35, _ => rfl
  | 36, _ => rfl
  | 37, _ => exact absurd rfl h37
  | 38, _ => exact absurd rfl h38
  | 39, _ => rfl
  | 40, _ => rfl
  | 41, _ => rfl
  | 42, _ => rfl
  | 43, _ => rfl
  | 44, _ => rfl
  | 45, _ => rfl
  | 46, _ => rfl
  | 47, _ => rfl
  | 48, _ => rfl
  | k + 49, hk => omega
theorem cspec_post {l : Launch} {D : va_G} {cI cZ : ClassId} {d mc ms : Nat} {h : HD} {As : List Vl} {sh : List CO} {s : Mem} {post post' : List CO → Mem → Prop} (k : ∀ sh t, post sh t → post' sh t) (q : CSpec l D cI cZ d mc ms h As sh s post) : CSpec l D cI cZ d mc ms h As sh s post' := by
  refine ⟨q.1, q.2.1, fun as0 sz has => ?_⟩
  intro p e ha hc hk S m args below hf happ hP hT
  obtain ⟨n, o, h1, h2, h3, ⟨⟨⟨as, sh', s', e1, e2, e3⟩, e4⟩, e5⟩⟩ := q.2.2 as0 sz has p e ha hc hk S m args below hf happ hP hT
  exact ⟨n, o, h1, h2, h3, ⟨⟨⟨as, sh', s', e1, k sh' s' e2, e3⟩, e4⟩, e5⟩⟩
set_option maxRecDepth 100000 in
theorem sX8_J {l : Launch} {D : va_G} {cI cZ : ClassId} {s : Mem} (h : J49 s) : CSpec l D cI cZ 1 25 1858 hX8_init [.inr 49] SH_19 (stM s 49 (fun _ => 0)) (fun sh t => sh = SH_18 ∧ J75 t) := by
  refine cspec_post ?_ (sX8_init_49 (stM s 49 (fun _ => 0)))
  rintro sh t ⟨rfl, rfl⟩
  refine ⟨rfl, fun k hk h7 h37 h38 h55 j => ?_, h.2.1, h.2.2.1, h.2.2.2, fun q hq => ?_⟩
  · match k, hk with
    | 0, _ => exact h.1 0 (by decide) (by decide) (by decide) (by decide) j
    | 1, _ => exact h.1 1 (by decide) (by decide) (by decide) (by decide) j
    | 2, _ => exact h.1 2 (by decide) (by decide) (by decide) (by decide) j
    | 3, _ => exact h.1 3 (by decide) (by decide) (by decide) (by decide) j
    | 4, _ => exact h.1 4 (by decide) (by decide) (by decide) (by decide) j
    | 5, _ => exact h.1 5 (by decide) (by decide) (by decide) (by decide) j
    | 6, _ => exact h.1 6 (by decide) (by decide) (by decide) (by decide) j
    | 7, _ => exact absurd rfl h7
    | 8, _ => exact h.1 8 (by decide) (by decide) (by decide) (by decide) j
    | 9, _ => exact h.1 9 (by decide) (by decide) (by decide) (by decide) j
    | 10, _ => exact h.1 10 (by decide) (by decide) (by decide) (by decide) j
    | 11, _ => exact h.1 11 (by decide) (by decide) (by decide) (by decide) j
    | 12, _ => exact h.1 12 (by decide) (by decide) (by decide) (by decide) j
    | 13, _ => exact h.1 13 (by decide) (by decide) (by decide) (by decide) j
    | 14, _ => exact h.1 14 (by decide) (by decide) (by decide) (by decide) j
    | 15, _ => exact h.1 15 (by decide) (by decide) (by decide) (by decide) j
    | 16, _ => exact h.1 16 (by decide) (by decide) (by decide) (by decide) j
    | 17, _ => exact h.1 17 (by decide) (by decide) (by decide) (by decide) j
    | 18, _ => exact h.1 18 (by decide) (by decide) (by decide) (by decide) j
    | 19, _ => exact h.1 19 (by decide) (by decide) (by decide) (by decide) j
    | 20, _ => exact h.1 20 (by decide) (by decide) (by decide) (by decide) j
    | 21, _ => exact h.1 21 (by decide) (by decide) (by decide) (by decide) j
    | 22, _ => exact h.1 22 (by decide) (by decide) (by decide) (by decide) j
    | 23, _ => exact h.1 23 (by decide) (by decide) (by decide) (by decide) j
    | 24, _ => exact h.1 24 (by decide) (by decide) (by decide) (by decide) j
    | 25, _ => exact h.1 25 (by decide) (by decide) (by decide) (by decide) j
    | 26, _ => exact h.1 26 (by decide) (by decide) (by decide) (by decide) j
    | 27, _ => exact h.1 27 (by decide) (by decide) (by decide) (by decide) j
    | 28, _ => exact h.1 28 (by decide) (by decide) (by decide) (by decide) j
    | 29, _ => exact h.1 29 (by decide) (by decide) (by decide) (by decide) j
    | 30, _ => exact h.1 30 (by decide) (by decide) (by decide) (by decide) j
    | 31, _ => exact h.1 31 (by decide) (by decide) (by decide) (by decide) j
    | 32, _ => exact h.1 32 (by decide) (by decide) (by decide) (by decide) j
    | 33, _ => exact h.1 33 (by decide) (by decide) (by decide) (by decide) j
    | 34, _ => exact h.1 34 (by decide) (by decide) (by decide) (by decide) j
    | 35, _ => exact h.1 35 (by decide) (by decide) (by decide) (by decide) j
    | 36, _ => exact h.1 36 (by decide) (by decide) (by decide) (by decide) j
    | 37, _ => exact absurd rfl h37
    | 38, _ => exact absurd rfl h38
    | 39, _ => exact h.1 39 (by decide) (by decide) (by decide) (by decide) j
    | 40, _ => exact h.1 40 (by decide) (by decide) (by decide) (by decide) j
    | 41, _ => exact h.1 41 (by decide) (by decide) (by decide) (by decide) j
    | 42, _ => exact h.1 42 (by decide) (by decide) (by decide) (by decide) j
    | 43, _ => exact h.1 43 (by decide) (by decide) (by decide) (by decide) j
    | 44, _ => exact h.1 44 (by decide) (by decide) (by decide) (by decide) j
    | 45, _ => exact h.1 45 (by decide) (by decide) (by decide) (by decide) j
    | 46, _ => exact h.1 46 (by decide) (by decide) (by decide) (by decide) j
    | 47, _ => exact h.1 47 (by decide) (by decide) (by decide) (by decide) j
    | 48, _ => exact h.1 48 (by decide) (by decide) (by decide) (by decide) j
    | 49, _ => rfl
    | 50, _ => rfl
    | 51, _ => rfl
    | 52, _ => rfl
    | 53, _ => rfl
    | 54, _ => rfl
    | 55, _ => exact absurd rfl h55
    | 56, _ => rfl
    | 57, _ => rfl
    | 58, _ => rfl
    | 59, _ => rfl
    | 60, _ => rfl
    | 61, _ => rfl
    | 62, _ => rfl
    | 63, _ => rfl
    | 64, _ => rfl
    | 65, _ => rfl
    | 66, _ => rfl
    | 67, _ => rfl
    | 68, _ => rfl
    | 69, _ => rfl
    | 70, _ => rfl
    | 71, _ => rfl
    | 72, _ => rfl
    | 73, _ => rfl
    | 74, _ => rfl
    | k + 75, hk => omega
  · match q, hq with
    | 0, _ => rfl
    | 1, _ => rfl
    | 2, _ => rfl
    | 3, _ => rfl
    | 4, _ => rfl
    | 5, _ => rfl
    | 6, _ => rfl
    | 7, _ => rfl
    | 8, _ => rfl
    | 9, _ => rfl
    | q + 10, hq => omega
abbrev PairK (Inv : Nat → Mem → Prop) (l : Launch) (G : GG) (hx hm : HD) (As : List Vl) : Prop := ∀ (n : Nat) (s : Mem), n < 512 → Inv n s → Spec l G 100 hx (.inr 0 :: As) s (fun r t => Spec l G 100 hm (.inr 49 :: As) t (fun r' t' => r = r' ∧ Inv (n + 1) t'))
theorem fa_lt_le {a b : Int32} (h : a < 0) (h2 : 0 ≤ b) : a < b := by
  rw [Int32.lt_iff_toInt_lt] at h ⊢
  rw [Int32.le_iff_toInt_le] at h2
  exact Int.lt_of_lt_of_le h h2
set_option maxHeartbeats 4000000 in
theorem law_loop_open {p : Program} {l : Launch} {ev : Env} {S : State} {m : MethodId} {below : List Frame} {meth : Method} {c : Code} {b n : Nat} {xs : Nat → Int32} {G : GG} (Inv : Nat → Mem → Prop) (hn : n ≤ 2048) (C : LC p S m meth c b n xs G)
    (p_none : ∀ k s, Inv k s → Inv (k + 1) s)
    (p_act : ∀ a b c : Int32, PairK Inv l G hX7_act hX8_act [.inl a, .inl b, .inl c])
    (p_rests : ∀ a b : Int32, PairK Inv l G hX7_rests hX8_rests [.inl a, .inl b])
    (p_ban : ∀ a b c : Int32, c = 0 ∨ c = 1 → PairK Inv l G hX7_ban hX8_ban [.inl a, .inl b, .inl c])
    (p_judge : ∀ a b c : Int32, PairK Inv l G hX7_judge hX8_judge [.inl a, .inl b, .inl c])
    (p_gaps : ∀ a b : Int32, PairK Inv l G hX7_gaps hX8_gaps [.inl a, .inl b])
    (p_best : PairK Inv l G hX7_best hX8_best [])
    (p_bestAt : ∀ a : Int32, PairK Inv l G hX7_bestAt hX8_bestAt [.inl a])
    (p_load : ∀ a b : Int32, PairK Inv l G hX7_load hX8_load [.inl a, .inl b])
    (p_share : ∀ a b c : Int32, PairK Inv l G hX7_share hX8_share [.inl a, .inl b, .inl c])
    (p_exposed : ∀ a b : Int32, PairK Inv l G hX7_exposed hX8_exposed [.inl a, .inl b])
    (p_part : ∀ a b : Int32, PairK Inv l G hX7_part hX8_part [.inl a, .inl b])
    (p_slack : ∀ a b : Int32, PairK Inv l G hX7_slack hX8_slack [.inl a, .inl b])
    (p_gone : ∀ a : Int32, PairK Inv l G hX7_gone hX8_gone [.inl a])
    (p_town : ∀ a b c : Int32, PairK Inv l G hX7_town hX8_town [.inl a, .inl b, .inl c])
    (p_way : ∀ a b c : Int32, PairK Inv l G hX7_way hX8_way [.inl a, .inl b, .inl c])
    (p_hours : ∀ a b : Int32, PairK Inv l G hX7_hours hX8_hours [.inl a, .inl b])
    (p_route : PairK Inv l G hX7_route hX8_route [])
    (p_routeAt : ∀ a b : Int32, PairK Inv l G hX7_routeAt hX8_routeAt [.inl a, .inl b])
    (p_took : ∀ a b c : Int32, PairK Inv l G hX7_took hX8_took [.inl a, .inl b, .inl c])
    (p_foretold : ∀ a b c : Int32, PairK Inv l G hX7_foretold hX8_foretold [.inl a, .inl b, .inl c])
    (p_count : ∀ a : Int32, PairK Inv l G hX7_count hX8_count [.inl a]) :
    ∀ (f k : Nat), 513 - k < f → k ≤ 512 → ∀ s : Mem, Inv k s → AL p l ev S m below meth c b G 18 [some (.inr 1000), some (.inr 0), some (.inr 49), some (.inl (nI (4 * k)))] [] s := by
  intro f
  induction f with
  | zero => intro k h; omega
  | succ f ih =>
    intro k hf hk s hI
    refine vL_18 C ⟨fun _ => rfl, fun q => ?_⟩
    have hlt : 4 * k + 4 ≤ n := by
      rcases Nat.lt_or_ge n (4 * k + 4) with h | h
      · exfalso
        apply q
        rw [show (4 : Int32) = nI 4 from rfl, show Int32.ofNat n = nI n from rfl]
        rcases Nat.lt_or_ge n 4 with h4 | h4
        · have := pk_sneg (a := n) (b := 4) (by decide) h4
          exact fa_lt_le this (nI_pos' (by omega))
        · rw [pk_sub h4]
          exact nI_lt (by omega) (by omega)
      · exact h
    have hk2 : k < 512 := by omega
    have v0 : vp_in (nI (4 * k)) n := vp_in_nI (by omega) (by omega)
    have e1 : nI (4 * k) + (1 : Int32) = nI (4 * k + 1) := nI_add _ 1
    have e2 : nI (4 * k) + (2 : Int32) = nI (4 * k + 2) := nI_add _ 2
    have e3 : nI (4 * k) + (3 : Int32) = nI (4 * k + 3) := nI_add _ 3
    have e4 : nI (4 * k) + (4 : Int32) = nI (4 * (k + 1)) := by rw [show 4 * (k + 1) = 4 * k + 4 by omega]; exact nI_add _ 4
    have v1 : vp_in (nI (4 * k) + (1 : Int32)) n := by rw [e1]; exact vp_in_nI (by omega) (by omega)
    have v2 : vp_in (nI (4 * k) + (2 : Int32)) n := by rw [e2]; exact vp_in_nI (by omega) (by omega)
    have v3 : vp_in (nI (4 * k) + (3 : Int32)) n := by rw [e3]; exact vp_in_nI (by omega) (by omega)
    have nx : ∀ t : Mem, Inv (k + 1) t → AL p l ev S m below meth c b G 851 [some (.inr 1000), some (.inr 0), some (.inr 49), some (.inl (nI (4 * k)))] [] t := by
      intro t ht
      refine vL_851 C ?_
      rw [e4]
      exact ih (k + 1) (by omega) (by omega) t ht
    have fin : ∀ (r1 r2 : Int32) (t : Mem), (r1 = r2 ∧ Inv (k + 1) t) → (r1 = r2 → AL p l ev S m below meth c b G 851 [some (.inr 1000), some (.inr 0), some (.inr 49), some (.inl (nI (4 * k)))] [] t) ∧ (¬ r1 = r2 → (0 : Int32) = 1) := fun r1 r2 t q => ⟨fun _ => nx t q.2, fun z => absurd q.1 z⟩
    refine ⟨v0, fun _ => nx s (p_none k s hI), fun _ => vL_132 C ⟨v1, v2, v3, 100, _, by decide, p_act _ _ _ k s hk2 hI, fun r t q => ⟨v1, v2, v3, 100, _, by decide, q, fun r' t' q' => fin r r' t' q'⟩⟩,
      fun _ => vL_175 C ⟨v1, v2, 100, _, by decide, p_rests _ _ k s hk2 hI, fun r t q => ⟨v1, v2, 100, _, by decide, q, fun r' t' q' => fin r r' t' q'⟩⟩,
      fun _ => vL_208 C ⟨v1, v2, v3, fun hz => ⟨100, _, by decide, p_ban _ _ _ (Or.inl rfl) k s hk2 hI, fun r t q => ⟨v1, v2, v3, fun _ => ⟨100, _, by decide, q, fun r' t' q' => fin r r' t' q'⟩, fun z => absurd hz z⟩⟩, fun hz => ⟨100, _, by decide, p_ban _ _ _ (Or.inr rfl) k s hk2 hI, fun r t q => ⟨v1, v2, v3, fun z => absurd z hz, fun _ => ⟨100, _, by decide, q, fun r' t' q' => fin r r' t' q'⟩⟩⟩⟩,
      fun _ => vL_267 C ⟨v1, v2, v3, 100, _, by decide, p_judge _ _ _ k s hk2 hI, fun r t q => ⟨v1, v2, v3, 100, _, by decide, q, fun r' t' q' => fin r r' t' q'⟩⟩,
      fun _ => vL_310 C ⟨v1, v2, 100, _, by decide, p_gaps _ _ k s hk2 hI, fun r t q => ⟨v1, v2, 100, _, by decide, q, fun r' t' q' => fin r r' t' q'⟩⟩,
      fun _ => vL_343 C ⟨100, _, by decide, p_best  k s hk2 hI, fun r t q => ⟨100, _, by decide, q, fun r' t' q' => fin r r' t' q'⟩⟩,
      fun _ => vL_356 C ⟨v1, 100, _, by decide, p_bestAt _ k s hk2 hI, fun r t q => ⟨v1, 100, _, by decide, q, fun r' t' q' => fin r r' t' q'⟩⟩,
      fun _ => vL_379 C ⟨v1, v2, 100, _, by decide, p_load _ _ k s hk2 hI, fun r t q => ⟨v1, v2, 100, _, by decide, q, fun r' t' q' => fin r r' t' q'⟩⟩,
      fun _ => vL_412 C ⟨v1, v2, v3, 100, _, by decide, p_share _ _ _ k s hk2 hI, fun r t q => ⟨v1, v2, v3, 100, _, by decide, q, fun r' t' q' => fin r r' t' q'⟩⟩,
      fun _ => vL_455 C ⟨v1, v2, 100, _, by decide, p_exposed _ _ k s hk2 hI, fun r t q => ⟨v1, v2, 100, _, by decide, q, fun r' t' q' => fin r r' t' q'⟩⟩,
      fun _ => vL_488 C ⟨v1, v2, 100, _, by decide, p_part _ _ k s hk2 hI, fun r t q => ⟨v1, v2, 100, _, by decide, q, fun r' t' q' => fin r r' t' q'⟩⟩,
      fun _ => vL_521 C ⟨v1, v2, 100, _, by decide, p_slack _ _ k s hk2 hI, fun r t q => ⟨v1, v2, 100, _, by decide, q, fun r' t' q' => fin r r' t' q'⟩⟩,
      fun _ => vL_554 C ⟨v1, 100, _, by decide, p_gone _ k s hk2 hI, fun r t q => ⟨v1, 100, _, by decide, q, fun r' t' q' => fin r r' t' q'⟩⟩,
      fun _ => vL_577 C ⟨v1, v2, v3, 100, _, by decide, p_town _ _ _ k s hk2 hI, fun r t q => ⟨v1, v2, v3, 100, _, by decide, q, fun r' t' q' => fin r r' t' q'⟩⟩,
      fun _ => vL_620 C ⟨v1, v2, v3, 100, _, by decide, p_way _ _ _ k s hk2 hI, fun r t q => ⟨v1, v2, v3, 100, _, by decide, q, fun r' t' q' => fin r r' t' q'⟩⟩,
      fun _ => vL_663 C ⟨v1, v2, 100, _, by decide, p_hours _ _ k s hk2 hI, fun r t q => ⟨v1, v2, 100, _, by decide, q, fun r' t' q' => fin r r' t' q'⟩⟩,
      fun _ => vL_696 C ⟨100, _, by decide, p_route  k s hk2 hI, fun r t q => ⟨100, _, by decide, q, fun r' t' q' => fin r r' t' q'⟩⟩,
      fun _ => vL_709 C ⟨v1, v2, 100, _, by decide, p_routeAt _ _ k s hk2 hI, fun r t q => ⟨v1, v2, 100, _, by decide, q, fun r' t' q' => fin r r' t' q'⟩⟩,
      fun _ => vL_742 C ⟨v1, v2, v3, 100, _, by decide, p_took _ _ _ k s hk2 hI, fun r t q => ⟨v1, v2, v3, 100, _, by decide, q, fun r' t' q' => fin r r' t' q'⟩⟩,
      fun _ => vL_785 C ⟨v1, v2, v3, 100, _, by decide, p_foretold _ _ _ k s hk2 hI, fun r t q => ⟨v1, v2, v3, 100, _, by decide, q, fun r' t' q' => fin r r' t' q'⟩⟩,
      fun _ => vL_828 C ⟨v1, 100, _, by decide, p_count _ k s hk2 hI, fun r t q => ⟨v1, 100, _, by decide, q, fun r' t' q' => fin r r' t' q'⟩⟩,
      trivial⟩
end
section
theorem inst_all : ∀ q ∈ vwCl, Cond.instantiable q.1 q.2.2 ∈ lw_tbl := by decide +kernel
theorem arrI_in : Cond.arrayClass .int ∈ lw_tbl := by decide +kernel
theorem arrZ_in : Cond.arrayClass .boolean ∈ lw_tbl := by decide +kernel
theorem arr_known {S : State} {args : Array Value} {ty : FieldType} (h : (Cond.arrayClass ty).before args S = true) (ht : ty = .int ∨ ty = .boolean) : ∃ cA : ClassId, ArrOfT S cA ty ∧ va_RA S cA ty := by
  obtain ⟨cA, kA, comp, h1, h2, h3⟩ := Cond.arrayClass_spec h
  refine ⟨cA, fun n z => ⟨fun k h => (by cases h), kA, h2, comp, h3⟩, ?_⟩
  rcases ht with rfl | rfl <;> exact h1
theorem known_all {S : State} {args : Array Value} (hts : ∀ w ∈ lw_tbl, w.before args S = true) : ∃ (D : va_G) (cI cZ : ClassId), ∀ as, PK (gA D cI cZ as) S := by
  have h1 : ∀ k : Nat, ∃ (cC : ClassId), ∃ (iS : Nat → Nat), ∀ q : vw_C, vwCl[k]? = some q → u_Kn S q.1 q.2.1 q.2.2 cC iS := by
    intro k
    cases hk : vwCl[k]? with
    | none => exact ⟨0, fun _ => 0, fun q hq => by cases hq⟩
    | some q =>
      have hm := List.mem_of_getElem? hk
      obtain ⟨cC, iS, hkn⟩ := u_known (C := q.1) (T := q.2.1) (N := q.2.2) (n := q.2.2) hts (lay_all q hm) (hts _ (inst_all q hm))
      exact ⟨cC, iS, fun q' hq => by cases hq; exact hkn⟩
  obtain ⟨cI, hI⟩ := arr_known (hts _ arrI_in) (Or.inl rfl)
  obtain ⟨cZ, hZ⟩ := arr_known (hts _ arrZ_in) (Or.inr rfl)
  refine ⟨(fun k => Classical.choose (h1 k), fun k => Classical.choose (Classical.choose_spec (h1 k))), cI, cZ, fun as => ⟨fun k q hq => Classical.choose_spec (Classical.choose_spec (h1 k)) q hq, fun k q hq => ?_⟩⟩
  match k, hq with
  | 0, hq => cases hq; exact hI
  | 1, hq => cases hq; exact hZ
  | k + 2, hq => cases hq
theorem wd_wdC {D : va_G} {cI cZ : ClassId} {as : List Nat} {b : Nat} {s : Mem} : wd ((D, cI, cZ, fun k => if k = 1000 then b else as.getD k 0) : GG) s = wdC cI cZ as (SHl.map (fun c => match c with
    | .inl q => .inl q
    | .inr (ci, fs) => .inr (ci, fs.map (fun o => o.map some)))) s := by
  have hlen : SHl.length = 75 := rfl
  have hall : ∀ c ∈ SHl, match c with
      | .inl _ => True
      | .inr q => ∀ o ∈ q.2, ∀ k, o = some k → k < 75 := by
    have : SHl.all (fun c => match c with
      | .inl _ => true
      | .inr q => q.2.all (fun o => match o with
        | some k => decide (k < 75)
        | none => true)) = true := by decide +kernel
    intro c hc
    have h1 := List.all_eq_true.mp this c hc
    match c, h1 with
    | .inl _, _ => trivial
    | .inr q, h1 =>
      intro o ho k hk
      have h2 := List.all_eq_true.mp h1 o ho
      subst hk
      exact of_decide_eq_true h2
  apply List.ext_getElem?
  intro i
  simp only [wd, wdC, List.getElem?_mapIdx, List.getElem?_map]
  cases hc : SHl[i]? with
  | none => rfl
  | some c =>
    have hi : i < 75 := by
      have := (List.getElem?_eq_some_iff.mp hc).1
      rw [hlen] at this
      exact this
    have hi2 : ¬ i = 1000 := by omega
    have hm := hall c (List.mem_of_getElem? hc)
    simp only [Option.map_some, if_neg hi2]
    match c, hm with
    | .inl (t, n), _ => rfl
    | .inr (ci, fs), hm =>
      have e : fs.mapIdx (fld ((D, cI, cZ, fun k => if k = 1000 then b else as.getD k 0) : GG) (s i)) = (fs.map (fun o => o.map some)).mapIdx (fldC as (s i)) := by
        apply List.ext_getElem?
        intro j
        simp only [List.getElem?_mapIdx, List.getElem?_map]
        cases hf : fs[j]? with
        | none => rfl
        | some o =>
          cases o with
          | none => rfl
          | some k =>
            have hk := hm (some k) (List.mem_of_getElem? hf) k rfl
            have hk2 : ¬ k = 1000 := by omega
            simp only [Option.map_some, fld, fldC, if_neg hk2]
      simp only [ent, entC, e]
theorem dL_0 : decode code 0 = .ok (.new 7, 3) := by decide +kernel
theorem dL_3 : decode code 3 = .ok (.dup, 1) := by decide +kernel
theorem dL_4 : decode code 4 = .ok (.invokespecial 9, 3) := by decide +kernel
theorem dL_7 : decode code 7 = .ok (.astore_n 1, 1) := by decide +kernel
theorem dL_8 : decode code 8 = .ok (.new 10, 3) := by decide +kernel
theorem dL_11 : decode code 11 = .ok (.dup, 1) := by decide +kernel
theorem dL_12 : decode code 12 = .ok (.invokespecial 12, 3) := by decide +kernel
theorem dL_15 : decode code 15 = .ok (.astore_n 2, 1) := by decide +kernel
theorem dL_16 : decode code 16 = .ok (.iconst 0, 1) := by decide +kernel
theorem dL_17 : decode code 17 = .ok (.istore_n 3, 1) := by decide +kernel
theorem lnk7 : Cond.classLink R_law 7 RX7 ∈ lw_tbl := by decide +kernel
theorem lnk9 : Cond.methodLink R_law 9 yX7_init ∈ lw_tbl := by decide +kernel
theorem lnk10 : Cond.classLink R_law 10 RX8 ∈ lw_tbl := by decide +kernel
theorem lnk12 : Cond.methodLink R_law 12 yX8_init ∈ lw_tbl := by decide +kernel
theorem ini7 : Cond.initialized RX7 ∈ lw_tbl := by decide +kernel
theorem ini8 : Cond.initialized RX8 ∈ lw_tbl := by decide +kernel
theorem ins7 : Cond.instantiable RX7 7 ∈ lw_tbl := by decide +kernel
theorem ins8 : Cond.instantiable RX8 30 ∈ lw_tbl := by decide +kernel
theorem im7 : Cond.instanceMethod yX7_init ∈ lw_tbl := by decide +kernel
theorem im8 : Cond.instanceMethod yX8_init ∈ lw_tbl := by decide +kernel
theorem no7 : nameOk hX7_init 0 := by unfold nameOk; decide +kernel
theorem no8 : nameOk hX8_init 0 := by unfold nameOk; decide +kernel
set_option maxRecDepth 100000 in
set_option maxHeartbeats 4000000 in
/-- a constructor is called by the law: the world that comes back -/
theorem lw_ctor {p : Program} {l : Launch} {e : Env} {S : State} {m : MethodId} {below : List Frame} {meth : Method} {c : Code} {b n : Nat} {xs : Nat → Int32} (C0 : lw_At p S m meth c b n xs) {D : va_G} {cI cZ : ClassId} (K : ∀ as, PK (gA D cI cZ as) S) {Qw : State → Prop}
    {hc : HD} {d mc ms o pc i : Nat} {as : List Nat} {sh : List CO} {s : Mem} {post : List CO → Mem → Prop} {H : Heap} {ls : Array Slot} {st : List Value} {cells slots : Nat}
    (hd : decode code pc = .ok (.invokespecial i, 3)) (M : CSpec l D cI cZ d mc ms hc [.inr o] sh s post) (hl : as.length = sh.length) (P : va_P D vwCl (wdC cI cZ as sh s) H) (hD : va_D (fun q => S.heap.size ≤ q) (wdC cI cZ as sh s)) (Z : va_S (fun q => S.heap.size ≤ q) S.heap H []) (N : ls.size = 4)
    (hlk : Cond.methodLink R_law i hc.1 ∈ lw_tbl) (hini : Cond.initialized hc.1.cls ∈ lw_tbl) (him : Cond.instanceMethod hc.1 ∈ lw_tbl) (hnm : hc.1.name = "<init>") (hno : nameOk hc 0) (hmx : hc.2.2.1 ≤ 41) (hdd : d < 100) (hcells : cells + mc ≤ 600000) (hslots : slots + ms ≤ 7302250) (hst : (st.map fun v => v.category).sum ≤ 8)
    (k : ∀ (as' : List Nat) (sh' : List CO) (s' : Mem) (H' : Heap), post sh' s' → as <+: as' → as'.length = sh'.length → va_P D vwCl (wdC cI cZ as' sh' s') H' → va_D (fun q => S.heap.size ≤ q) (wdC cI cZ as' sh' s') → va_S (fun q => S.heap.size ≤ q) S.heap H' [] →
      W p l e room_1 S m #[Value.ref b] below meth c H' [] (cells + mc) (slots + ms) Qw (F0 m (pc + 3) ls st)) :
    W p l e room_1 S m #[Value.ref b] below meth c H [] cells slots Qw (F0 m pc ls (.ref (as.getD o 0) :: st)) := by
  obtain ⟨hx, hb, hr, hml, hown, hts, hX, hbl, hlocks, hgv⟩ := id C0
  obtain ⟨hin, hrt, M⟩ := M
  have htg : ∀ w ∈ WSg, w.before #[Value.ref b] S = true := fun w hw => hts w (List.mem_filter.mp hw).1
  have hN : NWS S := fun w hw hn => va_Nw.of (by cases w <;> first | (simp [isNest] at hn; done) | rfl) (hts w hw)
  have hroom : (rmC d mc ms).frames + 1 ≤ room_1.frames ∧ 8 + (hc.2.2.1 + 11) + (rmC d mc ms).locals ≤ room_1.locals := ⟨by show d + 1 ≤ 2048; omega, by show 8 + (hc.2.2.1 + 11) + 60 * d ≤ 84000; omega⟩
  have hsub : ∀ q, A0 as H.size q → S.heap.size ≤ q := by
    rintro q (hq | hq)
    · obtain ⟨j, hj⟩ := List.getElem?_of_mem hq
      have hjl := (List.getElem?_eq_some_iff.mp hj).1
      have hsj : ∃ cc, sh[j]? = some cc := ⟨_, List.getElem?_eq_getElem (by omega)⟩
      obtain ⟨cc, hcc⟩ := hsj
      have := hD.2 j _ (wdC_get hcc)
      simpa [List.getD_eq_getElem?_getD, hj] using this
    · exact Nat.le_trans Z.1 hq
  have hpre : PreS S H (va_Pc (([.inr o] : List Vl).map (vv (gA D cI cZ as))) (fun U => U.heap.size = H.size ∧ va_P D vwCl (wdC cI cZ as sh s) U.heap ∧ PK (gA D cI cZ as) U ∧ va_D (fun _ => True) (wdC cI cZ as sh s) ∧ NWS U)) [.ref (as.getD o 0)] := by
    refine ⟨?_, fun U hU hW => ⟨rfl, by rw [hU], by rw [hU]; exact P, va_K.moved hW.alike (K as), hD.weaken (fun _ _ _ _ => trivial), NWS.warm hW hN⟩⟩
    rintro a U g mk ⟨q0, q1, qP, qK, qD, qN⟩
    exact ⟨q0, q1, qP, va_K.moved (u := U) (U := U.calling g mk a) (Vm.Alike.refl U.vm) qK, qD, NWS.same (s := U) (U := U.calling g mk a) rfl qN⟩
  have hw2 : Cond.code hc.1 hc.2.1 hc.2.2.1 hc.2.2.2 :: WSg = Cond.code hc.1 hc.2.1 hc.2.2.1 none :: WSg := by rw [hrt]
  refine W.ctor (As := []) (rest := st) (nL := 4) (cc := code) (own := R_law) (Ts := WSg) ⟨hx, hb, hml, hown, htg⟩ (M as H.size hl) ⟨callB_of 0 htg (ws_good (h := hc) hin) hw2 rfl rfl (hts _ hini) (hts _ hlk) hno hroom, hnm, hts _ him⟩ hpre rfl rfl N rfl (lv_room hst) hd ⟨hcells, hslots⟩ hsub (fun v st₀ t T' h0 e1 e2 hW hq => ?_)
  obtain ⟨⟨as1, sh1, s1, hv, hp1, hpre1, hl1, hP1, hD1⟩, hz1, hk⟩ := hq
  rw [h0] at hz1 hk
  have hv' : v = none := Outcome.returned.inj hv
  subst hv'
  refine k as1 sh1 s1 T'.heap hp1 hpre1 hl1 (by rw [e1]; exact hP1) (hD1.weaken (fun _ q _ hq => hsub q.1 hq)) ⟨Nat.le_trans Z.1 (by rw [e1]; exact hz1), fun q h1 h2 => ?_, fun _ h => by cases h⟩
  rw [e1, hk q (Nat.lt_of_lt_of_le h1 Z.1) (fun z => h2 (hsub q z))]
  exact Z.2.1 q h1 h2
set_option maxRecDepth 100000 in
set_option maxHeartbeats 4000000 in
theorem whole_open {p : Program} {e : Env} {S : State} {m : MethodId} {below : List Frame} {meth : Method} {c : Code} (l : Launch) {b L : Nat} {xs : Nat → Int32} (C0 : lw_At p S m meth c b L xs)
    (loop : ∀ (G : GG) (s : Mem), LC p S m meth c b L xs G → J75 s → AL p l e S m below meth c b G 18 [some (.inr 1000), some (.inr 0), some (.inr 49), some (.inl (nI 0))] [] s) :
    W p l e room_1 S m #[Value.ref b] below meth c S.heap [] 0 0 (lw_Z below #[Value.ref b] S) (entryFrame m ([Value.ref b] : List Value).toArray 4) := by
  obtain ⟨hx, hb, hr, hml, hown, hts, hX, hbl, hlocks, hgv⟩ := id C0
  obtain ⟨D, cI, cZ, K⟩ := known_all hts
  have hA : ∀ q : Nat, S.heap.size ≤ q → (fun q : Nat => S.heap.size ≤ q) q := fun _ h => h
  have hS : va_S (fun q : Nat => S.heap.size ≤ q) S.heap S.heap [] := va_S.rf
  have hP : va_P D vwCl [] S.heap := fun k q h => by simp at h
  have hD : va_D (fun q : Nat => S.heap.size ≤ q) [] := ⟨fun i j p q h => by simp at h, fun k q h => by simp at h⟩
  have hl := lv_entry ([.ref b]) (n := 4) (Nat.le_of_ble_eq_true rfl)
  rw [lg_entry_eq]
  generalize (lg_sl ([.ref b]) ++ List.replicate (4 - (lg_sl ([.ref b])).length) Slot.unset).toArray = ls at hl ⊢
  have hl : lv_has ls 4 [(0, .ref b)] := hl
  obtain ⟨ty7, ht7, hb7⟩ := blk_ok 7 RX7 TX7 7 rfl
  obtain ⟨ty8, ht8, hb8⟩ := blk_ok 8 RX8 TX8 30 rfl
  refine va_new (ci := 7) (fs := (blk 7).mapIdx (fldC [] (fun _ => 0))) (C := RX7) (T := TX7) (N := 7) hx hb hts (lay_all _ (List.mem_of_getElem? (i := 7) rfl)) ty7 ht7 hown (hts _ lnk7) (hts _ ins7) (hts _ ini7) (K []) hP hD hS hA rfl hb7.1 (Nat.le_of_ble_eq_true rfl) (Nat.le_of_ble_eq_true rfl) dL_0 (fun q0 H1 P1 D1 Z1 => ?_)
  refine lv_dup hx hb dL_3 rfl ?_
  have P1 : va_P D vwCl (wdC cI cZ [q0] SH_1 (fun _ _ => 0)) H1 := P1
  have D1 : va_D (fun q : Nat => S.heap.size ≤ q) (wdC cI cZ [q0] SH_1 (fun _ _ => 0)) := D1
  refine lw_ctor (o := 0) (as := [q0]) C0 K dL_4 sX7_init_0 rfl P1 D1 Z1 hl.1 lnk9 ini7 im7 rfl no7 (by decide) (by decide) (by decide) (by decide) (by simp [Value.category]) (fun as1 sh1 s1 H2 hp1 hpr1 hl1 P2 D2 Z2 => ?_)
  obtain ⟨rfl, hJ⟩ := hp1
  have eq0 : as1.getD 0 0 = q0 := getD_pre (k := 0) hpr1 (Nat.zero_lt_one)
  refine lv_astore_n (lv' := [(1, .ref q0), (0, .ref b)]) hx hb dL_7 rfl hl (by decide) rfl (fun ls hl => ?_)
  refine va_new (ci := 8) (fs := (blk 8).mapIdx (fldC [] (fun _ => 0))) (C := RX8) (T := TX8) (N := 30) hx hb hts (lay_all _ (List.mem_of_getElem? (i := 8) rfl)) ty8 ht8 hown (hts _ lnk10) (hts _ ins8) (hts _ ini8) (K as1) P2 D2 Z2 hA rfl hb8.1 (Nat.le_of_ble_eq_true rfl) (Nat.le_of_ble_eq_true rfl) dL_8 (fun q1 H3 P3 D3 Z3 => ?_)
  refine lv_dup hx hb dL_11 rfl ?_
  have hl49 : as1.length = 49 := hl1
  have ew := wdC_ext (cI := cI) (cZ := cZ) (as := as1) (sh := SH_17) (s := s1) (q := q1) (c := .inr (8, blk 8)) (f := fun _ => 0) hl1 (by decide +kernel)
  have ee : entC cI cZ (as1 ++ [q1]) (stM s1 SH_17.length (fun _ => 0)) SH_17.length (.inr (8, blk 8)) = .inr (8, (blk 8).mapIdx (fldC [] (fun _ => 0))) := by
    simp only [entC, stM_self]
    rw [hb8.2 (as1 ++ [q1])]
  rw [ee] at ew
  have P3 : va_P D vwCl (wdC cI cZ (as1 ++ [q1]) SH_19 (stM s1 49 (fun _ => 0))) H3 := by
    have : wdC cI cZ (as1 ++ [q1]) SH_19 (stM s1 49 (fun _ => 0)) = wdC cI cZ (as1 ++ [q1]) (SH_17 ++ [.inr (8, blk 8)]) (stM s1 SH_17.length (fun _ => 0)) := rfl
    rw [this, ew]
    exact P3
  have D3 : va_D (fun q : Nat => S.heap.size ≤ q) (wdC cI cZ (as1 ++ [q1]) SH_19 (stM s1 49 (fun _ => 0))) := by
    have : wdC cI cZ (as1 ++ [q1]) SH_19 (stM s1 49 (fun _ => 0)) = wdC cI cZ (as1 ++ [q1]) (SH_17 ++ [.inr (8, blk 8)]) (stM s1 SH_17.length (fun _ => 0)) := rfl
    rw [this, ew]
    exact D3
  have eq1 : (as1 ++ [q1]).getD 49 0 = q1 := by rw [← hl49]; exact getD_new
  have hlq : (as1 ++ [q1]).length = SH_19.length := by simp [hl49]
  rw [← eq1]
  refine lw_ctor (o := 49) (as := as1 ++ [q1]) C0 K dL_12 (sX8_J hJ) hlq P3 D3 Z3 hl.1 lnk12 ini8 im8 rfl no8 (by decide) (by decide) (by decide) (by decide) (by simp [Value.category]) (fun as2 sh2 s2 H4 hp2 hpr2 hl2 P4 D4 Z4 => ?_)
  obtain ⟨rfl, hJ2⟩ := hp2
  have eq2 : as2.getD 49 0 = q1 := by rw [getD_pre hpr2 (by simp [hl49])]; exact eq1
  have eq3 : as2.getD 0 0 = q0 := by rw [getD_pre hpr2 (by simp [hl49]), getD_ext (by omega)]; exact eq0
  rw [eq1]
  refine lv_astore_n (lv' := [(2, .ref q1), (1, .ref q0), (0, .ref b)]) hx hb dL_15 rfl hl (by decide) rfl (fun ls hl => ?_)
  refine lv_iconst (v := 0) hx hb dL_16 (by decide) ?_
  refine lv_istore_n (lv' := [(3, .int 0), (2, .ref q1), (1, .ref q0), (0, .ref b)]) hx hb dL_17 rfl hl (by decide) rfl (fun ls hl => ?_)
  refine W.widen (k := 600000) (n := 7302250) (by decide) (by decide) ?_
  have ewd : wd ((D, cI, cZ, fun k => if k = 1000 then b else as2.getD k 0) : GG) s2 = wdC cI cZ as2 SH_18 s2 := wd_wdC
  have hlen : SHl.length = 75 := rfl
  have inj : adI ((D, cI, cZ, fun k => if k = 1000 then b else as2.getD k 0) : GG) := by
    intro i j hi hj hij
    have hi' : i < 75 := hi
    have hj' : j < 75 := hj
    have hi2 : ¬ i = 1000 := by omega
    have hj2 : ¬ j = 1000 := by omega
    have hij : (if i = 1000 then b else as2.getD i 0) = (if j = 1000 then b else as2.getD j 0) := hij
    rw [if_neg hi2, if_neg hj2] at hij
    have a1 : ∃ cc, SH_18[i]? = some cc := ⟨_, List.getElem?_eq_getElem (by exact hi')⟩
    have a2 : ∃ cc, SH_18[j]? = some cc := ⟨_, List.getElem?_eq_getElem (by exact hj')⟩
    obtain ⟨c1, h1⟩ := a1
    obtain ⟨c2, h2⟩ := a2
    exact D4.1 i j _ _ (wdC_get h1) (wdC_get h2) hij
  have old : ∀ k, k < SHl.length → S.heap.size ≤ (((D, cI, cZ, fun k => if k = 1000 then b else as2.getD k 0) : GG).2.2.2 k) := by
    intro i hi
    have hi' : i < 75 := hi
    have hi2 : ¬ i = 1000 := by omega
    have a1 : ∃ cc, SH_18[i]? = some cc := ⟨_, List.getElem?_eq_getElem (by exact hi')⟩
    obtain ⟨c1, h1⟩ := a1
    have := D4.2 i _ (wdC_get h1)
    show S.heap.size ≤ (if i = 1000 then b else as2.getD i 0)
    rw [if_neg hi2]
    exact this
  refine loop ((D, cI, cZ, fun k => if k = 1000 then b else as2.getD k 0) : GG) s2 ⟨C0, K as2, inj, rfl, old⟩ hJ2 H4 ls (by rw [ewd]; exact P4) Z4 ⟨hl.1, hl.2.1, fun i v hi => ?_⟩
  have g0 := lv_at hl 3 rfl
  have g1 := lv_at hl 2 rfl
  have g2 := lv_at hl 1 rfl
  have g3 := lv_at hl 0 rfl
  match i, hi with
  | 0, hi => cases hi; exact g0
  | 1, hi =>
    cases hi
    show ls[1]? = some (.val (.ref (as2.getD 0 0)))
    rw [eq3]
    exact g1
  | 2, hi =>
    cases hi
    show ls[2]? = some (.val (.ref (as2.getD 49 0)))
    rw [eq2]
    exact g2
  | 3, hi => cases hi; exact g3
  | i + 4, hi => simp at hi
end
section
-- began from the kit's laws/BITS.to-paste (bt family)
def bt (x : Int32) (i : Nat) : Bool := x.toBitVec.getLsbD i
theorem b_ext {x y : Int32} (h : ∀ i, i < 32 → bt x i = bt y i) : x = y := Int32.toBitVec_inj.mp (BitVec.eq_of_getLsbD_eq (fun i hi => h i hi))
theorem b_or (x y : Int32) (i : Nat) : bt (x ||| y) i = (bt x i || bt y i) := by unfold bt; rw [Int32.toBitVec_or, BitVec.getLsbD_or]
theorem b_and (x y : Int32) (i : Nat) : bt (x &&& y) i = (bt x i && bt y i) := by unfold bt; rw [Int32.toBitVec_and, BitVec.getLsbD_and]
theorem b_xor (x y : Int32) (i : Nat) : bt (x ^^^ y) i = (bt x i ^^ bt y i) := by unfold bt; rw [Int32.toBitVec_xor, BitVec.getLsbD_xor]
theorem b_big {x : Int32} {i : Nat} (h : 32 ≤ i) : bt x i = false := BitVec.getLsbD_of_ge _ _ h
theorem b_255 (i : Nat) : bt 255 i = decide (i < 8) := by
  rcases Nat.lt_or_ge i 32 with h | h
  · exact (by decide +kernel : ∀ i, i < 32 → bt 255 i = decide (i < 8)) i h
  · rw [b_big h, decide_eq_false (by omega)]
theorem b_65535 (i : Nat) : bt 65535 i = decide (i < 16) := by
  rcases Nat.lt_or_ge i 32 with h | h
  · exact (by decide +kernel : ∀ i, i < 32 → bt 65535 i = decide (i < 16)) i h
  · rw [b_big h, decide_eq_false (by omega)]
theorem b_m1 : ∀ i, i < 32 → bt (-1) i = true := by decide +kernel
theorem b_0 (i : Nat) : bt 0 i = false := BitVec.getLsbD_zero
theorem s_l : ∀ n, n < 32 → ((nI n &&& 31).toBitVec.smod 32).toNat = n := by decide +kernel
theorem s_u : ∀ n, n < 32 → (((nI n).toUInt32 &&& Int32.toUInt32 31).toBitVec % 32).toNat = n := by decide +kernel
theorem b_shl (n : Nat) (hn : n < 32) (x : Int32) {i : Nat} (hi : i < 32) : bt (x <<< (nI n &&& 31)) i = (decide (n ≤ i) && bt x (i - n)) := by
  unfold bt
  rw [Int32.toBitVec_shiftLeft]
  show (x.toBitVec <<< ((nI n &&& 31).toBitVec.smod 32).toNat).getLsbD i = _
  rw [s_l n hn, BitVec.getLsbD_shiftLeft]
  rcases Nat.lt_or_ge i n with h | h
  · simp [h, Nat.not_le.mpr h]
  · simp [hi, h, Nat.not_lt.mpr h]
theorem b_ushr (n : Nat) (hn : n < 32) (x : Int32) (i : Nat) : bt ((x.toUInt32 >>> ((nI n).toUInt32 &&& Int32.toUInt32 31)).toInt32) i = bt x (n + i) := by
  show (x.toUInt32 >>> ((nI n).toUInt32 &&& Int32.toUInt32 31)).toBitVec.getLsbD i = x.toUInt32.toBitVec.getLsbD (n + i)
  rw [UInt32.toBitVec_shiftRight]
  show (x.toUInt32.toBitVec >>> (((nI n).toUInt32 &&& Int32.toUInt32 31).toBitVec % 32).toNat).getLsbD i = _
  rw [s_u n hn, BitVec.getLsbD_ushiftRight]
theorem b_sshr (n : Nat) (hn : n < 32) (x : Int32) {i : Nat} (hi : i < 32) : bt (x >>> (nI n &&& 31)) i = if n + i < 32 then bt x (n + i) else bt x 31 := by
  unfold bt
  rw [Int32.toBitVec_shiftRight]
  show (x.toBitVec.sshiftRight ((nI n &&& 31).toBitVec.smod 32).toNat).getLsbD i = _
  rw [s_l n hn, BitVec.getLsbD_sshiftRight, BitVec.msb_eq_getLsbD_last]
  simp [hi]
theorem bt_1 (i : Nat) : bt 1 i = decide (i = 0) := by
  by_cases h : i < 32
  · have : ∀ i, i < 32 → bt 1 i = decide (i = 0) := by decide +kernel
    exact this i h
  · rw [b_big (by omega)]
    have : ¬ i = 0 := by omega
    simp [this]
theorem bt_one (n : Nat) (hn : n < 32) {i : Nat} (hi : i < 32) : bt ((1 : Int32) <<< (nI n &&& 31)) i = decide (i = n) := by
  rw [b_shl n hn 1 hi, bt_1]
  by_cases h : i = n
  · subst h; simp
  · by_cases h2 : n ≤ i
    · have h3 : ¬ i - n = 0 := by omega
      simp [h, h2, h3]
    · simp [h, h2]
theorem bt_zero {x : Int32} : x = 0 ↔ ∀ i, i < 32 → bt x i = false := ⟨fun h i _ => by rw [h, b_0], fun h => b_ext (fun i hi => by rw [h i hi, b_0])⟩
theorem bt_test (n : Nat) (hn : n < 32) (x : Int32) : ((x >>> (nI n &&& 31)) &&& 1) = 0 ↔ bt x n = false := by
  rw [bt_zero]
  constructor
  · intro h
    have h0 := h 0 (by decide)
    rw [b_and, bt_1, b_sshr n hn x (by decide)] at h0
    simpa [hn] using h0
  · intro h i hi
    rw [b_and, bt_1]
    by_cases hi0 : i = 0
    · subst hi0
      rw [b_sshr n hn x (by decide)]
      simp [hn, h]
    · simp [hi0]
theorem bt_test1 (n : Nat) (hn : n < 32) (x : Int32) : ((x >>> (nI n &&& 31)) &&& 1) = (if bt x n then 1 else 0) := by
  apply b_ext
  intro i hi
  rw [b_and, bt_1]
  by_cases hi0 : i = 0
  · subst hi0
    rw [b_sshr n hn x (by decide)]
    cases hb : bt x n <;> simp [hn, hb, b_0, bt_1]
  · cases hb : bt x n <;> simp [hi0, b_0, bt_1]
theorem bt_small {k n : Nat} (hn : n < 2 ^ k) {i : Nat} (hi : k ≤ i) : bt (nI n) i = false := by
  show (BitVec.ofNat 32 n).getLsbD i = false
  rw [BitVec.getLsbD_ofNat]
  have : n < 2 ^ i := Nat.lt_of_lt_of_le hn (Nat.pow_le_pow_right (by decide) hi)
  simp [Nat.testBit_lt_two_pow this]
theorem bt_nI {n i : Nat} (hi : i < 32) : bt (nI n) i = n.testBit i := by
  show (BitVec.ofNat 32 n).getLsbD i = n.testBit i
  rw [BitVec.getLsbD_ofNat]
  simp [hi]
end
section
/-! ===== small rows for the contracts ===== -/
theorem i01 {P : Prop} [Decidable P] : ((if P then (1 : Int32) else 0) = 0) ↔ ¬ P := by
  by_cases h : P <;> simp [h]
theorem down {A : Nat → Prop} (N : Nat) (h1 : A N) (h2 : ∀ k, k < N → A (k + 1) → A k) : ∀ k, k ≤ N → A k := by
  have h3 : ∀ j, j ≤ N → A (N - j) := by
    intro j
    induction j with
    | zero => intro _; exact h1
    | succ j ih =>
      intro hj
      have h4 := ih (by omega)
      rw [show N - j = (N - (j + 1)) + 1 by omega] at h4
      exact h2 _ (by omega) h4
  intro k hk
  have h5 := h3 (N - k) (by omega)
  rw [show N - (N - k) = k by omega] at h5
  exact h5
theorem down0 {A : Nat → Prop} (N : Nat) (h1 : A N) (h2 : ∀ k, k < N → A (k + 1) → A k) : A 0 := down N h1 h2 0 (Nat.zero_le _)
theorem c8t : (8 : Int32) ≤ nI 8 := by decide
theorem c8f {k : Nat} (h : k < 8) : ¬ (8 : Int32) ≤ nI k := nI_ge h (by decide)
theorem cl8 {k : Nat} (h : k < 8) : (nI k).toNatClampNeg = k := nI_clamp (by omega)
theorem vi8 {k : Nat} (h : k < 8) : vp_in (nI k) 8 := vp_in_nI h (by decide)
theorem ixa {a b : Nat} : nI a * (8 : Int32) + nI b = nI (a * 8 + b) := by
  rw [show (8 : Int32) = nI 8 from rfl, pk_mul, nI_add]
theorem ixb {a b : Nat} : (8 : Int32) * nI a + nI b = nI (a * 8 + b) := by
  rw [show (8 : Int32) = nI 8 from rfl, pk_mul, nI_add, Nat.mul_comm]
theorem vi64 {a b : Nat} (ha : a < 8) (hb : b < 8) : vp_in (nI (a * 8 + b)) 64 := vp_in_nI (by omega) (by decide)
theorem cl64 {a b : Nat} (ha : a < 8) (hb : b < 8) : (nI (a * 8 + b)).toNatClampNeg = a * 8 + b := nI_clamp (by omega)
theorem in8 {x : Int32} (h0 : ¬ x < 0) (h1 : ¬ (8 : Int32) ≤ x) : ∃ k : Nat, k < 8 ∧ x = nI k := by
  rcases pk_ix x (n := 8) (by decide) with h | h | ⟨j, hj, rfl⟩
  · exact absurd h h0
  · exact absurd h h1
  · exact ⟨j, hj, rfl⟩
theorem nb0 : vp_nar .boolean (0 : Int32) = 0 := by decide
theorem nb1 : vp_nar .boolean (1 : Int32) = 1 := by decide
theorem nbb (b : Bool) : vp_nar .boolean (if b then (1 : Int32) else 0) = if b then 1 else 0 := by cases b <;> decide
theorem b01 (b : Bool) : bool01 (if b then (1 : Int32) else 0) := by cases b <;> simp [bool01]
theorem ib0 (b : Bool) : ((if b then (1 : Int32) else 0) = 0) ↔ b = false := by cases b <;> decide
theorem upd_at {f : Nat → Int32} {k : Nat} {x : Int32} : upd f k x k = x := by simp [upd]
theorem upd_ne {f : Nat → Int32} {k j : Nat} {x : Int32} (h : j ≠ k) : upd f k x j = f j := by simp [upd, h]
theorem S_isIn {l : Launch} {G : GG} {d : Nat} (x n : Int32) (s : Mem) : Spec l G d hX7_isIn [.inl x, .inl n] s (fun r t => r = (if ¬ x < 0 ∧ ¬ n ≤ x then 1 else 0) ∧ s = t) := by
  refine spec_of iX7_isIn (by decide +kernel) (Nat.le_of_ble_eq_true rfl) (vX7_isIn_0 ?_)
  refine ⟨fun h => ⟨Or.inl rfl, by grind⟩, fun h => ⟨fun h2 => ⟨Or.inl rfl, by grind⟩, fun h2 => ⟨Or.inr rfl, by grind⟩⟩⟩
theorem S_in {l : Launch} {G : GG} {d : Nat} (v a b : Int32) (s : Mem) : Spec l G d hX8_in [.inl v, .inl a, .inl b] s (fun r t => r = (if a ≤ v ∧ v ≤ b then 1 else 0) ∧ s = t) := by
  refine spec_of iX8_in (by decide +kernel) (Nat.le_of_ble_eq_true rfl) (vX8_in_0 ?_)
  refine ⟨fun h => ⟨Or.inl rfl, by grind⟩, fun h => ⟨fun h2 => ⟨Or.inl rfl, by grind⟩, fun h2 => ⟨Or.inr rfl, by grind⟩⟩⟩
theorem S_isWind {l : Launch} {G : GG} {d : Nat} (w : Int32) (s : Mem) : Spec l G d hX5_isWind [.inl w] s (fun r t => r = (if (-100 : Int32) ≤ w ∧ w ≤ 100 then 1 else 0) ∧ s = t) := by
  refine spec_of iX5_isWind (by decide +kernel) (Nat.le_of_ble_eq_true rfl) (vX5_isWind_0 ?_)
  refine ⟨fun h => ⟨Or.inl rfl, by grind⟩, fun h => ⟨fun h2 => ⟨Or.inl rfl, by grind⟩, fun h2 => ⟨Or.inr rfl, by grind⟩⟩⟩
theorem S_isWind8 {l : Launch} {G : GG} {d : Nat} (hd : 1 ≤ d) (w : Int32) (s : Mem) : Spec l G d hX8_isWind [.inl w] s (fun r t => r = (if (-100 : Int32) ≤ w ∧ w ≤ 100 then 1 else 0) ∧ s = t) := by
  refine spec_of iX8_isWind (by decide +kernel) (Nat.le_of_ble_eq_true rfl) (vX8_isWind_0 ?_)
  refine ⟨d - 1, _, by omega, S_in _ _ _ _, ?_⟩
  rintro _ _ ⟨rfl, rfl⟩
  refine ⟨by unfold bool01; grind, rfl, rfl⟩
end
section
/-! ===== the tent: loads, shares, exposures; which ropes are up ===== -/
def sbN (f : Nat → Int32) (p : Nat) (q : Int32) : Nat → Int32
  | 0 => 0
  | n + 1 => sbN f p q n + (if nI n = q then 0 else f (p * 8 + n))
theorem S_setLoad {l : Launch} {G : GG} {d : Nat} (hd : 1 ≤ d) (p v : Int32) (s : Mem) : Spec l G d hX5_setLoad [.inr 26, .inl p, .inl v] s (fun r t => (r = 1 ∧ (0 ≤ p ∧ p ≤ 7 ∧ 0 ≤ v ∧ v ≤ 10000) ∧ t = wrM s 27 p.toNatClampNeg v) ∨ (r = 0 ∧ ¬ (0 ≤ p ∧ p ≤ 7 ∧ 0 ≤ v ∧ v ≤ 10000) ∧ t = s)) := by
  refine spec_of iX5_setLoad (by decide +kernel) (Nat.le_of_ble_eq_true rfl) (vX5_setLoad_0 ?_)
  refine ⟨d - 1, _, by omega, S_isIn _ _ _, ?_⟩
  rintro _ _ ⟨rfl, rfl⟩
  simp only [i01]
  refine ⟨fun h => ⟨Or.inl rfl, by grind⟩, fun h => ⟨fun h2 => ⟨Or.inl rfl, by grind⟩, fun h2 => ⟨fun h3 => ⟨?_, Or.inr rfl, ?_⟩, fun h3 => ⟨Or.inl rfl, by grind⟩⟩⟩⟩
  · obtain ⟨k, hk, rfl⟩ := in8 (x := p) (by grind) (by grind)
    exact vi8 hk
  · grind
theorem S_load {l : Launch} {G : GG} {d : Nat} (hd : 1 ≤ d) (p v : Int32) (s : Mem) : Spec l G d hX8_load [.inr 49, .inl p, .inl v] s (fun r t => (r = 1 ∧ (0 ≤ p ∧ p ≤ 7 ∧ 0 ≤ v ∧ v ≤ 10000) ∧ t = wrM s 57 p.toNatClampNeg v) ∨ (r = 0 ∧ ¬ (0 ≤ p ∧ p ≤ 7 ∧ 0 ≤ v ∧ v ≤ 10000) ∧ t = s)) := by
  refine spec_of iX8_load (by decide +kernel) (Nat.le_of_ble_eq_true rfl) (vX8_load_0 ?_)
  refine ⟨d - 1, _, by omega, S_in _ _ _ _, ?_⟩
  rintro _ _ ⟨rfl, rfl⟩
  simp only [i01]
  refine ⟨fun h => ⟨Or.inl rfl, by grind⟩, fun h => ?_⟩
  refine ⟨d - 1, _, by omega, S_in _ _ _ _, ?_⟩
  rintro _ _ ⟨rfl, rfl⟩
  simp only [i01]
  refine ⟨fun h2 => ⟨?_, Or.inr rfl, by grind⟩, fun h2 => ⟨Or.inl rfl, by grind⟩⟩
  obtain ⟨k, hk, rfl⟩ := in8 (x := p) (by grind) (by grind)
  exact vi8 hk
theorem S_setExposed {l : Launch} {G : GG} {d : Nat} (hd : 1 ≤ d) (p v : Int32) (s : Mem) : Spec l G d hX5_setExposed [.inr 26, .inl p, .inl v] s (fun r t => (r = 1 ∧ (0 ≤ p ∧ p ≤ 7 ∧ -9 ≤ v ∧ v ≤ 9) ∧ t = wrM s 29 p.toNatClampNeg v) ∨ (r = 0 ∧ ¬ (0 ≤ p ∧ p ≤ 7 ∧ -9 ≤ v ∧ v ≤ 9) ∧ t = s)) := by
  refine spec_of iX5_setExposed (by decide +kernel) (Nat.le_of_ble_eq_true rfl) (vX5_setExposed_0 ?_)
  refine ⟨d - 1, _, by omega, S_isIn _ _ _, ?_⟩
  rintro _ _ ⟨rfl, rfl⟩
  simp only [i01]
  refine ⟨fun h => ⟨Or.inl rfl, by grind⟩, fun h => ⟨fun h2 => ⟨Or.inl rfl, by grind⟩, fun h2 => ⟨fun h3 => ⟨?_, Or.inr rfl, ?_⟩, fun h3 => ⟨Or.inl rfl, by grind⟩⟩⟩⟩
  · obtain ⟨k, hk, rfl⟩ := in8 (x := p) (by grind) (by grind)
    exact vi8 hk
  · grind
theorem S_exposed {l : Launch} {G : GG} {d : Nat} (hd : 1 ≤ d) (p v : Int32) (s : Mem) : Spec l G d hX8_exposed [.inr 49, .inl p, .inl v] s (fun r t => (r = 1 ∧ (0 ≤ p ∧ p ≤ 7 ∧ -9 ≤ v ∧ v ≤ 9) ∧ t = wrM s 59 p.toNatClampNeg v) ∨ (r = 0 ∧ ¬ (0 ≤ p ∧ p ≤ 7 ∧ -9 ≤ v ∧ v ≤ 9) ∧ t = s)) := by
  refine spec_of iX8_exposed (by decide +kernel) (Nat.le_of_ble_eq_true rfl) (vX8_exposed_0 ?_)
  refine ⟨d - 1, _, by omega, S_in _ _ _ _, ?_⟩
  rintro _ _ ⟨rfl, rfl⟩
  simp only [i01]
  refine ⟨fun h => ⟨Or.inl rfl, by grind⟩, fun h => ?_⟩
  refine ⟨d - 1, _, by omega, S_in _ _ _ _, ?_⟩
  rintro _ _ ⟨rfl, rfl⟩
  simp only [i01]
  refine ⟨fun h2 => ⟨?_, Or.inr rfl, by grind⟩, fun h2 => ⟨Or.inl rfl, by grind⟩⟩
  obtain ⟨k, hk, rfl⟩ := in8 (x := p) (by grind) (by grind)
  exact vi8 hk
theorem S_sharesBeside {l : Launch} {G : GG} {d p : Nat} (hp : p < 8) (q : Int32) (s : Mem) : Spec l G d hX5_sharesBeside [.inr 26, .inl (nI p), .inl q] s (fun r t => r = sbN (s 28) p q 8 ∧ s = t) := by
  refine spec_of iX5_sharesBeside (by decide +kernel) (Nat.le_of_ble_eq_true rfl) (vX5_sharesBeside_0 ?_)
  refine down0 (A := fun k => AW l G d hX5_sharesBeside 5 [some (.inr 26), some (.inl (nI p)), some (.inl q), some (.inl (sbN (s 28) p q k)), some (.inl (nI k))] [] s _) 8 ?_ ?_
  · exact vX5_sharesBeside_5 ⟨fun _ => ⟨rfl, rfl⟩, fun h => absurd c8t h⟩
  · intro k hk ih
    refine vX5_sharesBeside_5 ⟨fun h => absurd h (c8f hk), fun _ => ⟨fun h => ?_, fun h => ?_⟩⟩
    · rw [nI_1]
      simpa only [sbN, if_pos h, Int32.add_zero] using ih
    · rw [ixa, cl64 hp hk, nI_1]
      exact ⟨vi64 hp hk, by simpa only [sbN, if_neg h] using ih⟩
theorem S_setShare {l : Launch} {G : GG} {d : Nat} (hd : 1 ≤ d) (p q v : Int32) (s : Mem) : Spec l G d hX5_setShare [.inr 26, .inl p, .inl q, .inl v] s (fun r t => (r = 1 ∧ (0 ≤ p ∧ p ≤ 7 ∧ 0 ≤ q ∧ q ≤ 7 ∧ 0 ≤ v ∧ v ≤ 100 ∧ v + sbN (s 28) p.toNatClampNeg q 8 ≤ 100) ∧ t = wrM s 28 (p.toNatClampNeg * 8 + q.toNatClampNeg) v) ∨ (r = 0 ∧ ¬ (0 ≤ p ∧ p ≤ 7 ∧ 0 ≤ q ∧ q ≤ 7 ∧ 0 ≤ v ∧ v ≤ 100 ∧ v + sbN (s 28) p.toNatClampNeg q 8 ≤ 100) ∧ t = s)) := by
  refine spec_of iX5_setShare (by decide +kernel) (Nat.le_of_ble_eq_true rfl) (vX5_setShare_0 ?_)
  refine ⟨d - 1, _, by omega, S_isIn _ _ _, ?_⟩
  rintro _ _ ⟨rfl, rfl⟩
  simp only [i01]
  refine ⟨fun h => ⟨Or.inl rfl, by grind⟩, fun h => ?_⟩
  refine ⟨d - 1, _, by omega, S_isIn _ _ _, ?_⟩
  rintro _ _ ⟨rfl, rfl⟩
  simp only [i01]
  refine ⟨fun h2 => ⟨Or.inl rfl, by grind⟩, fun h2 => ⟨fun h3 => ⟨Or.inl rfl, by grind⟩, fun h3 => ⟨fun h4 => ?_, fun h4 => ⟨Or.inl rfl, by grind⟩⟩⟩⟩
  obtain ⟨a, ha, rfl⟩ := in8 (x := p) (by grind) (by grind)
  obtain ⟨b, hb, rfl⟩ := in8 (x := q) (by grind) (by grind)
  refine ⟨d - 1, _, by omega, S_sharesBeside ha _ _, ?_⟩
  rintro _ _ ⟨rfl, rfl⟩
  rw [ixa, cl64 ha hb, cl8 ha, cl8 hb, Int32.add_comm (sbN _ _ _ _) v]
  refine ⟨fun h5 => ⟨vi64 ha hb, Or.inr rfl, Or.inl ⟨by simp, ⟨by grind, by grind, by grind, by grind, by grind, h4, h5⟩, rfl⟩⟩, fun h5 => ⟨Or.inl rfl, Or.inr ⟨by simp, fun z => h5 z.2.2.2.2.2.2, rfl⟩⟩⟩
theorem S_share {l : Launch} {G : GG} {d : Nat} (hd : 1 ≤ d) (p q v : Int32) (s : Mem) : Spec l G d hX8_share [.inr 49, .inl p, .inl q, .inl v] s (fun r t => (r = 1 ∧ (0 ≤ p ∧ p ≤ 7 ∧ 0 ≤ q ∧ q ≤ 7 ∧ 0 ≤ v ∧ v ≤ 100 ∧ v + sbN (s 58) p.toNatClampNeg q 8 ≤ 100) ∧ t = wrM s 58 (p.toNatClampNeg * 8 + q.toNatClampNeg) v) ∨ (r = 0 ∧ ¬ (0 ≤ p ∧ p ≤ 7 ∧ 0 ≤ q ∧ q ≤ 7 ∧ 0 ≤ v ∧ v ≤ 100 ∧ v + sbN (s 58) p.toNatClampNeg q 8 ≤ 100) ∧ t = s)) := by
  refine spec_of iX8_share (by decide +kernel) (Nat.le_of_ble_eq_true rfl) (vX8_share_0 ?_)
  refine ⟨d - 1, _, by omega, S_in _ _ _ _, ?_⟩
  rintro _ _ ⟨rfl, rfl⟩
  simp only [i01]
  refine ⟨fun h => ⟨Or.inl rfl, by grind⟩, fun h => ?_⟩
  refine ⟨d - 1, _, by omega, S_in _ _ _ _, ?_⟩
  rintro _ _ ⟨rfl, rfl⟩
  simp only [i01]
  refine ⟨fun h2 => ⟨Or.inl rfl, by grind⟩, fun h2 => ?_⟩
  refine ⟨d - 1, _, by omega, S_in _ _ _ _, ?_⟩
  rintro _ _ ⟨rfl, rfl⟩
  simp only [i01]
  refine ⟨fun h3 => ?_, fun h3 => ⟨Or.inl rfl, by grind⟩⟩
  obtain ⟨a, ha, rfl⟩ := in8 (x := p) (by grind) (by grind)
  obtain ⟨b, hb, rfl⟩ := in8 (x := q) (by grind) (by grind)
  rw [cl8 ha, cl8 hb]
  have key : AW l G d hX8_share 38 [some (.inr 49), some (.inl (nI a)), some (.inl (nI b)), some (.inl v), some (.inl (v + sbN (s 58) a (nI b) 0)), some (.inl (nI 0))] [] s (fun r t => (r = 1 ∧ (0 ≤ nI a ∧ nI a ≤ 7 ∧ 0 ≤ nI b ∧ nI b ≤ 7 ∧ 0 ≤ v ∧ v ≤ 100 ∧ v + sbN (s 58) a (nI b) 8 ≤ 100) ∧ t = wrM s 58 (a * 8 + b) v) ∨ (r = 0 ∧ ¬ (0 ≤ nI a ∧ nI a ≤ 7 ∧ 0 ≤ nI b ∧ nI b ≤ 7 ∧ 0 ≤ v ∧ v ≤ 100 ∧ v + sbN (s 58) a (nI b) 8 ≤ 100) ∧ t = s)) := by
    refine down0 (A := fun k => AW l G d hX8_share 38 [some (.inr 49), some (.inl (nI a)), some (.inl (nI b)), some (.inl v), some (.inl (v + sbN (s 58) a (nI b) k)), some (.inl (nI k))] [] s _) 8 ?_ ?_
    · refine vX8_share_38 ⟨fun _ => ?_, fun h => absurd c8t h⟩
      rw [ixb, cl64 ha hb]
      refine ⟨fun h5 => ⟨vi64 ha hb, Or.inr rfl, Or.inl ⟨rfl, ⟨by grind, by grind, by grind, by grind, by grind, by grind, h5⟩, rfl⟩⟩, fun h5 => ⟨Or.inl rfl, Or.inr ⟨rfl, fun z => h5 z.2.2.2.2.2.2, rfl⟩⟩⟩
    · intro k hk ih
      refine vX8_share_38 ⟨fun h => absurd h (c8f hk), fun _ => ⟨fun h => ?_, fun h => ?_⟩⟩
      · rw [ixb, cl64 ha hk, nI_1]
        exact ⟨vi64 ha hk, by simpa only [sbN, if_neg h, Int32.add_assoc] using ih⟩
      · rw [nI_1]
        simpa only [sbN, if_pos h, Int32.add_zero] using ih
  have k2 := key
  rw [show sbN (s 58) a (nI b) 0 = 0 from rfl, Int32.add_zero] at k2
  exact k2
def upN (sh : Nat → Int32) (r : Nat) : Nat → Bool
  | 0 => false
  | n + 1 => upN sh r n || !decide (sh (n * 8 + r) ≤ 0)
def upB (sh ex : Nat → Int32) (r : Nat) : Bool := upN sh r 8 || !decide (ex r = 0)
theorem upN_mono {sh : Nat → Int32} {r : Nat} : ∀ {k n : Nat}, k ≤ n → upN sh r k = true → upN sh r n = true
  | k, 0, h, q => by rw [show k = 0 by omega] at q; exact q
  | k, n + 1, h, q => by
    rcases Nat.lt_or_ge n k with h1 | h1
    · rw [show k = n + 1 by omega] at q; exact q
    · rw [upN, upN_mono h1 q]; rfl
theorem S_isUp5 {l : Launch} {G : GG} {d r : Nat} (hr : r < 8) (s : Mem) : Spec l G d hX5_isUp [.inr 26, .inl (nI r)] s (fun x t => x = (if upB (s 28) (s 29) r then 1 else 0) ∧ s = t) := by
  refine spec_of iX5_isUp (by decide +kernel) (Nat.le_of_ble_eq_true rfl) (vX5_isUp_0 ?_)
  refine down0 (A := fun k => upN (s 28) r k = false → AW l G d hX5_isUp 2 [some (.inr 26), some (.inl (nI r)), some (.inl (nI k))] [] s (fun x t => x = (if upB (s 28) (s 29) r then 1 else 0) ∧ s = t)) 8 ?_ ?_ rfl
  · intro h0
    refine vX5_isUp_2 ⟨fun _ => ?_, fun h => absurd c8t h⟩
    rw [cl8 hr]
    refine ⟨vi8 hr, fun h => ⟨Or.inl rfl, ?_, rfl⟩, fun h => ⟨Or.inr rfl, ?_, rfl⟩⟩
    · simp [upB, h0, h]
    · simp [upB, h0, h]
  · intro k hk ih h0
    refine vX5_isUp_2 ⟨fun h => absurd h (c8f hk), fun _ => ?_⟩
    rw [ixa, cl64 hk hr, nI_1]
    refine ⟨vi64 hk hr, fun h => ih ?_, fun h => ⟨Or.inr rfl, ?_, rfl⟩⟩
    · simp [upN, h0, h]
    · have h1 : upN (s 28) r (k + 1) = true := by simp only [upN, h, decide_false, Bool.not_false, Bool.or_true]
      have h2 := upN_mono (n := 8) (by omega) h1
      simp [upB, h2]
theorem S_isUp8 {l : Launch} {G : GG} {d r : Nat} (hr : r < 8) (s : Mem) : Spec l G d hX8_isUp [.inr 49, .inl (nI r)] s (fun x t => x = (if upB (s 58) (s 59) r then 1 else 0) ∧ s = t) := by
  refine spec_of iX8_isUp (by decide +kernel) (Nat.le_of_ble_eq_true rfl) (vX8_isUp_0 ?_)
  have key : ∀ k, k ≤ 8 → AW l G d hX8_isUp 17 [some (.inr 49), some (.inl (nI r)), some (.inl (if upN (s 58) r k || !decide (s 59 r = 0) then 1 else 0)), some (.inl (nI k))] [] s (fun x t => x = (if upB (s 58) (s 59) r then 1 else 0) ∧ s = t) := by
    refine down 8 ?_ ?_
    · exact vX8_isUp_17 ⟨fun _ => ⟨b01 _, rfl, rfl⟩, fun h => absurd c8t h⟩
    · intro k hk ih
      refine vX8_isUp_17 ⟨fun h => absurd h (c8f hk), fun _ => ?_⟩
      rw [ib0, ixb, cl64 hk hr, nI_1]
      refine ⟨fun h => ?_, fun h => ⟨vi64 hk hr, fun h2 => ?_, fun h2 => ?_⟩⟩
      · have h1 : (upN (s 58) r (k + 1) || !decide (s 59 r = 0)) = true := by
          simp only [upN]
          grind
        rw [h1] at ih
        exact ih
      · have h1 : (upN (s 58) r (k + 1) || !decide (s 59 r = 0)) = false := by
          simp only [upN]
          grind
        rw [h1] at ih
        exact ih
      · have h1 : (upN (s 58) r (k + 1) || !decide (s 59 r = 0)) = true := by
          simp only [upN]
          grind
        rw [h1] at ih
        exact ih
  have k0 := key 0 (by omega)
  rw [cl8 hr]
  refine ⟨vi8 hr, fun h => ?_, fun h => ?_⟩
  · have e : (upN (s 58) r 0 || !decide (s 59 r = 0)) = false := by simp [upN, h]
    rw [e] at k0
    exact k0
  · have e : (upN (s 58) r 0 || !decide (s 59 r = 0)) = true := by simp [upN, h]
    rw [e] at k0
    exact k0
end
section
/-! ===== ropes that go slack: the pure step, and the class's and the model's ways to it ===== -/
theorem upd_lt {f g : Nat → Int32} {k : Nat} {v : Int32} (h : ∀ j, j < k → f j = g j) (hv : v = g k) : ∀ j, j < k + 1 → upd f k v j = g j := by
  intro j hj
  by_cases hjk : j = k
  · subst hjk
    rw [upd_at, hv]
  · rw [upd_ne hjk]
    exact h j (by omega)
def cnB (B : Nat → Bool) : Nat → Nat
  | 0 => 0
  | n + 1 => cnB B n + (if B n then 1 else 0)
theorem cnB_le (B : Nat → Bool) : ∀ n, cnB B n ≤ n
  | 0 => Nat.le_refl _
  | n + 1 => by
    have := cnB_le B n
    simp only [cnB]
    split <;> omega
theorem cnB_zero {B : Nat → Bool} : ∀ {n : Nat}, cnB B n = 0 → ∀ j, j < n → B j = false
  | 0, _, j, hj => by omega
  | n + 1, h, j, hj => by
    simp only [cnB] at h
    cases hb : B n with
    | true => rw [hb] at h; simp at h
    | false =>
      rw [hb] at h
      by_cases hjn : j = n
      · rw [hjn]; exact hb
      · exact cnB_zero (n := n) (by simpa using h) j (by omega)
def slkB (B : Nat → Bool) (r : Nat) : Nat → Bool := fun j => if j = r then false else B j
theorem cnB_off {B : Nat → Bool} {r : Nat} : ∀ {n : Nat}, n ≤ r → cnB (slkB B r) n = cnB B n
  | 0, _ => rfl
  | n + 1, h => by
    have h1 : slkB B r n = B n := by simp only [slkB]; rw [if_neg (by omega)]
    have ih := cnB_off (B := B) (r := r) (n := n) (by omega)
    simp only [cnB, h1, ih]
theorem cnB_slk {B : Nat → Bool} {r : Nat} (hr : B r = true) : ∀ {n : Nat}, r < n → cnB (slkB B r) n + 1 = cnB B n
  | 0, h => by omega
  | n + 1, h => by
    by_cases hn : r = n
    · subst hn
      have h1 : slkB B r r = false := by simp [slkB]
      simp [cnB, h1, hr, cnB_off (Nat.le_refl r)]
    · have h1 : slkB B r n = B n := by simp only [slkB]; rw [if_neg (by omega)]
      have h2 := cnB_slk hr (n := n) (by omega)
      simp only [cnB, h1]
      omega
def spS (B : Nat → Bool) (e : Int32) (P : Nat → Int32) (o : Int32) : Nat → (Nat → Int32) × Int32
  | 0 => (P, o)
  | n + 1 => if B n = true then (if 0 ≤ (spS B e P o n).2 then (upd (spS B e P o n).1 n ((spS B e P o n).1 n + e), (spS B e P o n).2) else (upd (spS B e P o n).1 n ((spS B e P o n).1 n + e - 1), (spS B e P o n).2 + 1)) else spS B e P o n
theorem spS_off {B : Nat → Bool} {e : Int32} {P : Nat → Int32} {o : Int32} {j : Nat} (hj : B j = false) : ∀ n, (spS B e P o n).1 j = P j
  | 0 => rfl
  | n + 1 => by
    have ih := spS_off (e := e) (P := P) (o := o) hj n
    simp only [spS]
    by_cases hn : j = n
    · subst hn
      rw [hj]
      simpa using ih
    · split
      · split
        · show upd (spS B e P o n).1 n _ j = P j
          rw [upd_ne hn]; exact ih
        · show upd (spS B e P o n).1 n _ j = P j
          rw [upd_ne hn]; exact ih
      · exact ih
abbrev TX : Type := (Nat → Int32) × (Nat → Bool) × Int32
def slk (X : TX) (r : Nat) : TX :=
  if cnB (slkB X.2.1 r) 8 = 0 then (upd X.1 r 0, slkB X.2.1 r, X.1 r)
  else ((spS (slkB X.2.1 r) (X.1 r / nI (cnB (slkB X.2.1 r) 8)) (upd X.1 r 0) (X.1 r - X.1 r / nI (cnB (slkB X.2.1 r) 8) * nI (cnB (slkB X.2.1 r) 8)) 8).1, slkB X.2.1 r, X.2.2)
theorem slk_B (X : TX) (r : Nat) : (slk X r).2.1 = slkB X.2.1 r := by
  unfold slk
  split <;> rfl
def psh (X : TX) (j : Nat) : Bool := X.2.1 j && decide (X.1 j < 0)
def FinR : Nat → TX → TX → Prop
  | 0, X, Y => X = Y
  | n + 1, X, Y => (X = Y ∧ ∀ j, j < 8 → psh X j = false) ∨ ∃ k, k < 8 ∧ psh X k = true ∧ (∀ j, j < k → psh X j = false) ∧ FinR n (slk X k) Y
theorem finR_stop {X : TX} (h : ∀ j, j < 8 → psh X j = false) : ∀ n, FinR n X X
  | 0 => rfl
  | _ + 1 => Or.inl ⟨rfl, h⟩
theorem finR_det : ∀ {n : Nat} {X Y Z : TX}, FinR n X Y → FinR n X Z → Y = Z
  | 0, _, _, _, h1, h2 => h1.symm.trans h2
  | n + 1, X, Y, Z, h1, h2 => by
    rcases h1 with ⟨e1, p1⟩ | ⟨k1, l1, t1, f1, r1⟩ <;> rcases h2 with ⟨e2, p2⟩ | ⟨k2, l2, t2, f2, r2⟩
    · exact e1.symm.trans e2
    · rw [p1 k2 l2] at t2; cases t2
    · rw [p2 k1 l1] at t1; cases t1
    · rcases Nat.lt_trichotomy k1 k2 with h | h | h
      · rw [f2 k1 h] at t1; cases t1
      · subst h
        exact finR_det r1 r2
      · rw [f1 k2 h] at t2; cases t2
def ptN (ld sh ex : Nat → Int32) (w : Int32) (r : Nat) : Nat → Int32
  | 0 => (100 : Int32) * w * ex r
  | p + 1 => ptN ld sh ex w r p + ld p * sh (p * 8 + r)
def X0 (ld sh ex : Nat → Int32) (w : Int32) : TX := (fun r => ptN ld sh ex w r 8, upB sh ex, 0)
def UZ (U : Nat → Bool) (X : TX) : Prop := (∀ j, X.2.1 j = true → U j = true) ∧ ∀ j, j < 8 → U j = true → X.2.1 j = false → X.1 j = 0
theorem UZ_slk {U : Nat → Bool} {X : TX} {r : Nat} (h : UZ U X) : UZ U (slk X r) := by
  refine ⟨fun j hj => ?_, fun j hj hu hb => ?_⟩
  · rw [slk_B] at hj
    simp only [slkB] at hj
    split at hj
    · cases hj
    · exact h.1 j hj
  · rw [slk_B] at hb
    have h0 : upd X.1 r 0 j = 0 := by
      by_cases hjr : j = r
      · subst hjr; exact upd_at
      · rw [upd_ne hjr]
        simp only [slkB, if_neg hjr] at hb
        exact h.2 j hj hu hb
    unfold slk
    split
    · exact h0
    · show (spS _ _ _ _ 8).1 j = 0
      rw [spS_off hb]
      exact h0
theorem UZ_0 {ld sh ex : Nat → Int32} {w : Int32} : UZ (upB sh ex) (X0 ld sh ex w) := ⟨fun _ h => h, fun j _ h1 h2 => by
  have h2 : upB sh ex j = false := h2
  rw [h1] at h2; cases h2⟩
def Rc (U : Nat → Bool) (s : Mem) (X : TX) : Prop := (∀ j, j < 8 → s 30 j = X.1 j) ∧ (∀ j, j < 8 → s 31 j = if X.2.1 j then 1 else 0) ∧ (∀ j, j < 8 → s 32 j = if (U j && !X.2.1 j) then 1 else 0) ∧ s 26 6 = X.2.2
def FrC (s t : Mem) : Prop := ∀ q, q ≠ 26 → q ≠ 30 → q ≠ 31 → q ≠ 32 → t q = s q
theorem S_hang {l : Launch} {G : GG} {d : Nat} (hd : 1 ≤ d) (w : Int32) (s : Mem) : Spec l G d hX5_hang [.inr 26, .inl w] s (fun _ t => Rc (upB (s 28) (s 29)) t (X0 (s 27) (s 28) (s 29) w) ∧ FrC s t) := by
  refine spec_of iX5_hang (by decide +kernel) (Nat.le_of_ble_eq_true rfl) (vX5_hang_0 ?_)
  have key : ∀ k, k ≤ 8 → ∀ m : Mem, (∀ j, j < k → m 30 j = ptN (s 27) (s 28) (s 29) w j 8) → (∀ j, j < k → m 31 j = if upB (s 28) (s 29) j then 1 else 0) → (∀ j, j < k → m 32 j = 0) → m 26 6 = 0 → FrC s m →
      AW l G d hX5_hang 7 [some (.inr 26), some (.inl w), some (.inl (nI k)), none, none] [] m (fun _ t => Rc (upB (s 28) (s 29)) t (X0 (s 27) (s 28) (s 29) w) ∧ FrC s t) := by
    refine down 8 ?_ ?_
    · intro m h1 h2 h3 h4 h5
      refine vX5_hang_7 ⟨fun _ => ⟨⟨h1, h2, fun j hj => ?_, h4⟩, h5⟩, fun h => absurd c8t h⟩
      rw [h3 j hj]
      simp [X0]
    · intro k hk ih m h1 h2 h3 h4 h5
      refine vX5_hang_7 ⟨fun h => absurd h (c8f hk), fun _ => ⟨vi8 hk, ?_⟩⟩
      have e27 : m 27 = s 27 := h5 27 (by decide) (by decide) (by decide) (by decide)
      have e28 : m 28 = s 28 := h5 28 (by decide) (by decide) (by decide) (by decide)
      have e29 : m 29 = s 29 := h5 29 (by decide) (by decide) (by decide) (by decide)
      rw [cl8 hk, e29]
      refine down0 (A := fun p => AW l G d hX5_hang 28 [some (.inr 26), some (.inl w), some (.inl (nI k)), some (.inl (ptN (s 27) (s 28) (s 29) w k p)), some (.inl (nI p))] [] m _) 8 ?_ ?_
      · refine vX5_hang_28 ⟨fun _ => ⟨vi8 hk, d - 1, _, by omega, S_isUp5 hk _, ?_⟩, fun h => absurd c8t h⟩
        rintro _ _ ⟨rfl, rfl⟩
        refine ⟨vi8 hk, vi8 hk, ?_⟩
        rw [nI_1, cl8 hk, nb0]
        have e1 : (wrM m 30 k (ptN (s 27) (s 28) (s 29) w k 8)) 28 = s 28 := e28
        have e2 : (wrM m 30 k (ptN (s 27) (s 28) (s 29) w k 8)) 29 = s 29 := e29
        rw [e1, e2, nbb]
        refine aw_weak (L := [some (.inr 26), some (.inl w), some (.inl (nI (k + 1))), none, none]) ⟨rfl, rfl, rfl, trivial⟩ (ih _ (upd_lt h1 rfl) (upd_lt h2 rfl) (upd_lt (g := fun _ => 0) h3 rfl) h4 ?_)
        intro q q1 q2 q3 q4
        show stM (stM (stM m 30 _) 31 _) 32 _ q = s q
        rw [stM_ne q4, stM_ne q3, stM_ne q2]
        exact h5 q q1 q2 q3 q4
      · intro p hp ih2
        refine vX5_hang_28 ⟨fun h => absurd h (c8f hp), fun _ => ?_⟩
        rw [ixa, cl64 hp hk, cl8 hp, nI_1, e27, e28]
        exact ⟨vi8 hp, vi64 hp hk, ih2⟩
  refine key 0 (by omega) _ (fun j hj => by omega) (fun j hj => by omega) (fun j hj => by omega) rfl ?_
  intro q q1 _ _ _
  exact stM_ne q1
theorem S_first {l : Launch} {G : GG} {d : Nat} {U : Nat → Bool} {X : TX} {s : Mem} (h : Rc U s X) : Spec l G d hX5_firstThatPushes [.inr 26] s (fun r t => s = t ∧ ((r = -1 ∧ ∀ j, j < 8 → psh X j = false) ∨ ∃ k, k < 8 ∧ r = nI k ∧ psh X k = true ∧ ∀ j, j < k → psh X j = false)) := by
  refine spec_of iX5_firstThatPushes (by decide +kernel) (Nat.le_of_ble_eq_true rfl) (vX5_firstThatPushes_0 ?_)
  refine down0 (A := fun k => (∀ j, j < k → psh X j = false) → AW l G d hX5_firstThatPushes 2 [some (.inr 26), some (.inl (nI k))] [] s (fun r t => s = t ∧ ((r = -1 ∧ ∀ j, j < 8 → psh X j = false) ∨ ∃ k, k < 8 ∧ r = nI k ∧ psh X k = true ∧ ∀ j, j < k → psh X j = false))) 8 ?_ ?_ (fun j hj => by omega)
  · intro h0
    exact vX5_firstThatPushes_2 ⟨fun _ => ⟨rfl, Or.inl ⟨rfl, h0⟩⟩, fun h => absurd c8t h⟩
  · intro k hk ih h0
    refine vX5_firstThatPushes_2 ⟨fun h => absurd h (c8f hk), fun _ => ?_⟩
    rw [cl8 hk, nI_1, h.2.1 k hk, h.1 k hk, ib0]
    have nxt : psh X k = false → ∀ j, j < k + 1 → psh X j = false := fun q j hj => by
      by_cases hjk : j = k
      · rw [hjk]; exact q
      · exact h0 j (by omega)
    refine ⟨vi8 hk, fun q => ih (nxt (by simp [psh, q])), fun q => ⟨vi8 hk, fun q2 => ih (nxt ?_), fun q2 => ⟨rfl, Or.inr ⟨k, hk, rfl, ?_, h0⟩⟩⟩⟩
    · have : ¬ X.1 k < 0 := by grind
      simp [psh, this]
    · have h1 : X.1 k < 0 := by grind
      have h2 : X.2.1 k = true := by simpa using q
      simp only [psh, h1, h2, decide_true, Bool.and_true]
theorem S_bear {l : Launch} {G : GG} {d : Nat} {B : Nat → Bool} {s : Mem} (h : ∀ j, j < 8 → s 31 j = if B j then 1 else 0) : Spec l G d hX5_ropesThatBear [.inr 26] s (fun r t => r = nI (cnB B 8) ∧ s = t) := by
  refine spec_of iX5_ropesThatBear (by decide +kernel) (Nat.le_of_ble_eq_true rfl) (vX5_ropesThatBear_0 ?_)
  refine down0 (A := fun k => AW l G d hX5_ropesThatBear 4 [some (.inr 26), some (.inl (nI (cnB B k))), some (.inl (nI k))] [] s _) 8 ?_ ?_
  · exact vX5_ropesThatBear_4 ⟨fun _ => ⟨rfl, rfl⟩, fun h => absurd c8t h⟩
  · intro k hk ih
    refine vX5_ropesThatBear_4 ⟨fun h => absurd h (c8f hk), fun _ => ?_⟩
    rw [cl8 hk, nI_1, nI_1, h k hk, ib0]
    refine ⟨vi8 hk, fun q => ?_, fun q => ?_⟩
    · simpa [cnB, q] using ih
    · have h2 : B k = true := by simpa using q
      simpa [cnB, h2] using ih
theorem S_spread {l : Launch} {G : GG} {d : Nat} {B : Nat → Bool} {s : Mem} {P : Nat → Int32} (e o : Int32) (h : ∀ j, j < 8 → s 31 j = if B j then 1 else 0) (hP : ∀ j, j < 8 → s 30 j = P j) : Spec l G d hX5_spread [.inr 26, .inl e, .inl o] s (fun _ t => (∀ j, j < 8 → t 30 j = (spS B e P o 8).1 j) ∧ ∀ q, q ≠ 30 → t q = s q) := by
  refine spec_of iX5_spread (by decide +kernel) (Nat.le_of_ble_eq_true rfl) (vX5_spread_0 ?_)
  have key : ∀ k, k ≤ 8 → ∀ m : Mem, (∀ j, j < 8 → m 30 j = (spS B e P o k).1 j) → (∀ q, q ≠ 30 → m q = s q) →
      AW l G d hX5_spread 5 [some (.inr 26), some (.inl e), some (.inl o), some (.inl (spS B e P o k).2), some (.inl (nI k))] [] m (fun _ t => (∀ j, j < 8 → t 30 j = (spS B e P o 8).1 j) ∧ ∀ q, q ≠ 30 → t q = s q) := by
    refine down 8 ?_ ?_
    · intro m h1 h2
      exact vX5_spread_5 ⟨fun _ => ⟨h1, h2⟩, fun h => absurd c8t h⟩
    · intro k hk ih m h1 h2
      refine vX5_spread_5 ⟨fun h => absurd h (c8f hk), fun _ => ?_⟩
      rw [cl8 hk, nI_1, h2 31 (by decide), h k hk, ib0, h1 k hk]
      refine ⟨vi8 hk, fun q => ?_, fun q => ⟨vi8 hk, vi8 hk, fun q2 => ?_, fun q2 => ⟨vi8 hk, vi8 hk, ?_⟩⟩⟩
      · have e1 : spS B e P o (k + 1) = spS B e P o k := by simp [spS, q]
        rw [e1] at ih
        exact ih m h1 h2
      · have hb : B k = true := by simpa using q
        have e1 : spS B e P o (k + 1) = (upd (spS B e P o k).1 k ((spS B e P o k).1 k + e), (spS B e P o k).2) := by simp [spS, hb, q2]
        rw [e1] at ih
        refine ih _ (fun j hj => ?_) (fun q hq => by rw [← h2 q hq]; exact stM_ne hq)
        show upd (m 30) k _ j = upd _ k _ j
        by_cases hjk : j = k
        · subst hjk; rw [upd_at, upd_at]
        · rw [upd_ne hjk, upd_ne hjk]; exact h1 j hj
      · have hb : B k = true := by simpa using q
        have e1 : spS B e P o (k + 1) = (upd (spS B e P o k).1 k ((spS B e P o k).1 k + e - 1), (spS B e P o k).2 + 1) := by
          simp only [spS, hb, if_true, if_neg q2]
        rw [e1] at ih
        have e2 : (wrM m 30 k ((spS B e P o k).1 k + e)) 30 k = (spS B e P o k).1 k + e := by
          show upd (m 30) k _ k = _
          exact upd_at
        rw [e2]
        refine ih _ (fun j hj => ?_) (fun q hq => ?_)
        · show upd (upd (m 30) k _) k _ j = upd _ k _ j
          by_cases hjk : j = k
          · subst hjk; rw [upd_at, upd_at]
          · rw [upd_ne hjk, upd_ne hjk, upd_ne hjk]; exact h1 j hj
        · rw [← h2 q hq]
          show stM (stM m 30 _) 30 _ q = m q
          rw [stM_ne hq, stM_ne hq]
  exact key 0 (by omega) s hP (fun _ _ => rfl)
theorem S_slacken {l : Launch} {G : GG} {d r : Nat} (hd : 1 ≤ d) (hr : r < 8) {U : Nat → Bool} {X : TX} {s : Mem} (h : Rc U s X) (hU : U r = true) : Spec l G d hX5_slacken [.inr 26, .inl (nI r)] s (fun _ t => Rc U t (slk X r) ∧ FrC s t) := by
  refine spec_of iX5_slacken (by decide +kernel) (Nat.le_of_ble_eq_true rfl) (vX5_slacken_0 ?_)
  rw [cl8 hr, nb0, nb1]
  have hB : ∀ j, j < 8 → (wrM (wrM (wrM s 30 r 0) 31 r 0) 32 r 1) 31 j = if slkB X.2.1 r j then 1 else 0 := by
    intro j hj
    show upd (s 31) r 0 j = _
    by_cases hjr : j = r
    · subst hjr; rw [upd_at]; simp [slkB]
    · rw [upd_ne hjr, h.2.1 j hj]; simp [slkB, hjr]
  have hP : ∀ j, j < 8 → (wrM (wrM (wrM s 30 r 0) 31 r 0) 32 r 1) 30 j = upd X.1 r 0 j := by
    intro j hj
    show upd (s 30) r 0 j = _
    by_cases hjr : j = r
    · subst hjr; rw [upd_at, upd_at]
    · rw [upd_ne hjr, upd_ne hjr]; exact h.1 j hj
  have hS : ∀ j, j < 8 → (wrM (wrM (wrM s 30 r 0) 31 r 0) 32 r 1) 32 j = if (U j && !slkB X.2.1 r j) then 1 else 0 := by
    intro j hj
    show upd (s 32) r 1 j = _
    by_cases hjr : j = r
    · subst hjr; rw [upd_at]; simp [slkB, hU]
    · rw [upd_ne hjr, h.2.2.1 j hj]; simp [slkB, hjr]
  have hF : FrC s (wrM (wrM (wrM s 30 r 0) 31 r 0) 32 r 1) := by
    intro q q1 q2 q3 q4
    show stM (stM (stM s 30 _) 31 _) 32 _ q = s q
    rw [stM_ne q4, stM_ne q3, stM_ne q2]
  have hL : (wrM (wrM (wrM s 30 r 0) 31 r 0) 32 r 1) 26 6 = X.2.2 := h.2.2.2
  generalize wrM (wrM (wrM s 30 r 0) 31 r 0) 32 r 1 = m at hB hP hS hF hL ⊢
  refine ⟨vi8 hr, vi8 hr, vi8 hr, vi8 hr, d - 1, _, by omega, S_bear hB, ?_⟩
  rintro _ _ ⟨rfl, rfl⟩
  have hcn : nI (cnB (slkB X.2.1 r) 8) = 0 ↔ cnB (slkB X.2.1 r) 8 = 0 := by
    have h8 := cnB_le (slkB X.2.1 r) 8
    rw [show (0 : Int32) = nI 0 from rfl]
    exact nI_eq (by omega) (by decide)
  rw [h.1 r hr]
  refine ⟨fun q => ⟨q, q, d - 1, _, by omega, S_spread _ _ hB hP, ?_⟩, fun q => ?_⟩
  · rintro _ t ⟨ht1, ht2⟩
    have hc : ¬ cnB (slkB X.2.1 r) 8 = 0 := fun z => q (hcn.mpr z)
    have e1 : slk X r = ((spS (slkB X.2.1 r) (X.1 r / nI (cnB (slkB X.2.1 r) 8)) (upd X.1 r 0) (X.1 r - X.1 r / nI (cnB (slkB X.2.1 r) 8) * nI (cnB (slkB X.2.1 r) 8)) 8).1, slkB X.2.1 r, X.2.2) := by
      unfold slk; rw [if_neg hc]
    rw [e1]
    refine ⟨⟨ht1, ?_, ?_, ?_⟩, ?_⟩
    · rw [ht2 31 (by decide)]; exact hB
    · rw [ht2 32 (by decide)]; exact hS
    · rw [ht2 26 (by decide)]; exact hL
    · intro q q1 q2 q3 q4
      rw [ht2 q q2]
      exact hF q q1 q2 q3 q4
  · have e1 : slk X r = (upd X.1 r 0, slkB X.2.1 r, X.1 r) := by
      unfold slk; rw [if_pos (hcn.mp q)]
    rw [e1]
    refine ⟨⟨hP, hB, hS, rfl⟩, ?_⟩
    intro q q1 q2 q3 q4
    show stM _ 26 _ q = s q
    rw [stM_ne q1]
    exact hF q q1 q2 q3 q4
theorem S_settle {l : Launch} {G : GG} {d : Nat} (hd : 2 ≤ d) (w : Int32) (s : Mem) : Spec l G d hX5_settle [.inr 26, .inl w] s (fun _ t => ∃ Y, FinR 8 (X0 (s 27) (s 28) (s 29) w) Y ∧ UZ (upB (s 28) (s 29)) Y ∧ Rc (upB (s 28) (s 29)) t Y ∧ FrC s t) := by
  refine spec_of iX5_settle (by decide +kernel) (Nat.le_of_ble_eq_true rfl) (vX5_settle_0 ?_)
  refine ⟨d - 1, _, by omega, S_hang (by omega) w s, ?_⟩
  rintro _ m ⟨hR, hF⟩
  have key : ∀ k, k ≤ 8 → ∀ (m : Mem) (X : TX), Rc (upB (s 28) (s 29)) m X → UZ (upB (s 28) (s 29)) X → FrC s m → (∀ Y, FinR (8 - k) X Y → FinR 8 (X0 (s 27) (s 28) (s 29) w) Y) →
      AW l G d hX5_settle 7 [some (.inr 26), some (.inl w), some (.inl (nI k)), none] [] m (fun _ t => ∃ Y, FinR 8 (X0 (s 27) (s 28) (s 29) w) Y ∧ UZ (upB (s 28) (s 29)) Y ∧ Rc (upB (s 28) (s 29)) t Y ∧ FrC s t) := by
    refine down 8 ?_ ?_
    · intro m X h1 h2 h3 h4
      exact vX5_settle_7 ⟨fun _ => ⟨X, h4 X rfl, h2, h1, h3⟩, fun h => absurd c8t h⟩
    · intro k hk ih m X h1 h2 h3 h4
      refine vX5_settle_7 ⟨fun h => absurd h (c8f hk), fun _ => ⟨d - 1, _, by omega, S_first h1, ?_⟩⟩
      rintro r1 _ ⟨rfl, hr⟩
      rcases hr with ⟨rfl, hn⟩ | ⟨j, hj, rfl, hp, hb⟩
      · exact ⟨fun z => absurd rfl z, fun _ => ⟨X, h4 X (finR_stop hn _), h2, h1, h3⟩⟩
      · have hne : ¬ nI j = (-1 : Int32) := by
          intro z
          have := nI_pos (n := j) (by omega)
          rw [z] at this
          exact this (by decide)
        refine ⟨fun _ => ⟨d - 1, _, by omega, S_slacken (by omega) hj h1 (h2.1 j (by simp only [psh, Bool.and_eq_true] at hp; exact hp.1)), ?_⟩, fun z => absurd z hne⟩
        rintro _ t ⟨hR1, hF1⟩
        rw [nI_1]
        refine aw_weak (L := [some (.inr 26), some (.inl w), some (.inl (nI (k + 1))), none]) ⟨rfl, rfl, rfl, trivial⟩ (ih t (slk X j) hR1 (UZ_slk h2) (fun q q1 q2 q3 q4 => (hF1 q q1 q2 q3 q4).trans (h3 q q1 q2 q3 q4)) ?_)
        intro Y hY
        refine h4 Y ?_
        rw [show 8 - k = (8 - (k + 1)) + 1 by omega]
        exact Or.inr ⟨j, hj, hp, hb, hY⟩
  exact key 0 (by omega) m _ hR UZ_0 hF (fun Y hY => hY)
end
section
def Rm (U : Nat → Bool) (s : Mem) (X : TX) : Prop := (∀ j, j < 8 → s 73 j = X.1 j) ∧ (∀ j, j < 8 → s 74 j = if (U j && !X.2.1 j) then 1 else 0) ∧ s 49 29 = X.2.2
def FrM (s t : Mem) : Prop := (∀ q, q ≠ 49 → q ≠ 73 → q ≠ 74 → t q = s q) ∧ ∀ j, j ≠ 29 → t 49 j = s 49 j
theorem FrM.trans {s t u : Mem} (h1 : FrM s t) (h2 : FrM t u) : FrM s u := ⟨fun q q1 q2 q3 => (h2.1 q q1 q2 q3).trans (h1.1 q q1 q2 q3), fun j hj => (h2.2 j hj).trans (h1.2 j hj)⟩
theorem FrM.rfl {s : Mem} : FrM s s := ⟨fun _ _ _ _ => by rfl, fun _ _ => by rfl⟩
theorem S_slackens {l : Launch} {G : GG} {d r : Nat} (hd : 1 ≤ d) (hr : r < 8) {X : TX} {s : Mem} (h : Rm (upB (s 58) (s 59)) s X) (hU : UZ (upB (s 58) (s 59)) X) (hB : X.2.1 r = true) : Spec l G d hX8_slackens [.inr 49, .inl (nI r)] s (fun _ t => Rm (upB (s 58) (s 59)) t (slk X r) ∧ FrM s t) := by
  refine spec_of iX8_slackens (by decide +kernel) (Nat.le_of_ble_eq_true rfl) (vX8_slackens_0 ?_)
  rw [cl8 hr, nb1, h.1 r hr]
  refine ⟨vi8 hr, vi8 hr, vi8 hr, ?_⟩
  have hUr := hU.1 r hB
  have hsub : ∀ j, slkB X.2.1 r j = true → upB (s 58) (s 59) j = true := by
    intro j hj
    simp only [slkB] at hj
    split at hj
    · cases hj
    · exact hU.1 j hj
  have hP : ∀ j, j < 8 → (wrM (wrM s 73 r 0) 74 r 1) 73 j = upd X.1 r 0 j := by
    intro j hj
    show upd (s 73) r 0 j = _
    by_cases hjr : j = r
    · subst hjr; rw [upd_at, upd_at]
    · rw [upd_ne hjr, upd_ne hjr]; exact h.1 j hj
  have hS : ∀ j, j < 8 → (wrM (wrM s 73 r 0) 74 r 1) 74 j = if (upB (s 58) (s 59) j && !slkB X.2.1 r j) then 1 else 0 := by
    intro j hj
    show upd (s 74) r 1 j = _
    by_cases hjr : j = r
    · subst hjr; rw [upd_at]; simp [slkB, hUr]
    · rw [upd_ne hjr, h.2.1 j hj]; simp [slkB, hjr]
  have hF : FrM s (wrM (wrM s 73 r 0) 74 r 1) := by
    refine ⟨fun q q1 q2 q3 => ?_, fun j _ => rfl⟩
    show stM (stM s 73 _) 74 _ q = s q
    rw [stM_ne q3, stM_ne q2]
  have hL : (wrM (wrM s 73 r 0) 74 r 1) 49 29 = X.2.2 := h.2.2
  have e58 : (wrM (wrM s 73 r 0) 74 r 1) 58 = s 58 := rfl
  have e59 : (wrM (wrM s 73 r 0) 74 r 1) 59 = s 59 := rfl
  generalize wrM (wrM s 73 r 0) 74 r 1 = m at hP hS hF hL e58 e59 ⊢
  have slt : ∀ k, k < 8 → upB (s 58) (s 59) k = true → (m 74 k = 0 ↔ slkB X.2.1 r k = true) := by
    intro k hk hu
    rw [hS k hk, hu]
    cases slkB X.2.1 r k <;> simp
  have hcn : nI (cnB (slkB X.2.1 r) 8) = 0 ↔ cnB (slkB X.2.1 r) 8 = 0 := by
    have h8 := cnB_le (slkB X.2.1 r) 8
    rw [show (0 : Int32) = nI 0 from rfl]
    exact nI_eq (by omega) (by decide)
  refine down0 (A := fun k => AW l G d hX8_slackens 26 [some (.inr 49), some (.inl (nI r)), some (.inl (X.1 r)), some (.inl (nI (cnB (slkB X.2.1 r) k))), some (.inl (nI k)), none] [] m (fun _ t => Rm (upB (s 58) (s 59)) t (slk X r) ∧ FrM s t)) 8 ?_ ?_
  · refine vX8_slackens_26 ⟨fun _ => ⟨fun q => ⟨q, ?_⟩, fun q => ?_⟩, fun h => absurd c8t h⟩
    · have hc : ¬ cnB (slkB X.2.1 r) 8 = 0 := fun z => q (hcn.mpr z)
      have e1 : slk X r = ((spS (slkB X.2.1 r) (X.1 r / nI (cnB (slkB X.2.1 r) 8)) (upd X.1 r 0) (X.1 r - X.1 r / nI (cnB (slkB X.2.1 r) 8) * nI (cnB (slkB X.2.1 r) 8)) 8).1, slkB X.2.1 r, X.2.2) := by
        unfold slk; rw [if_neg hc]
      rw [e1]
      have qc := q
      generalize nI (cnB (slkB X.2.1 r) 8) = c at qc ⊢
      generalize ho : X.1 r - X.1 r / c * c = o
      generalize he : X.1 r / c = e
      have key : ∀ k, k ≤ 8 → ∀ m' : Mem, (∀ j, j < 8 → m' 73 j = (spS (slkB X.2.1 r) e (upd X.1 r 0) o k).1 j) → (∀ q, q ≠ 73 → m' q = m q) →
          AW l G d hX8_slackens 88 [some (.inr 49), some (.inl (nI r)), some (.inl (X.1 r)), some (.inl c), some (.inl (spS (slkB X.2.1 r) e (upd X.1 r 0) o k).2), some (.inl (nI k))] [] m' (fun _ t => Rm (upB (s 58) (s 59)) t ((spS (slkB X.2.1 r) e (upd X.1 r 0) o 8).1, slkB X.2.1 r, X.2.2) ∧ FrM s t) := by
        refine down 8 ?_ ?_
        · intro m' h1 h2
          refine vX8_slackens_88 ⟨fun _ => ⟨⟨h1, by rw [h2 74 (by decide)]; exact hS, by rw [h2 49 (by decide)]; exact hL⟩, fun q q1 q2 q3 => ?_, fun j hj => ?_⟩, fun h => absurd c8t h⟩
          · rw [h2 q q2]; exact hF.1 q q1 q2 q3
          · rw [h2 49 (by decide)]; exact hF.2 j hj
        · intro k hk ih m' h1 h2
          refine vX8_slackens_88 ⟨fun h => absurd h (c8f hk), fun _ => ⟨d - 1, _, by omega, S_isUp8 hk _, ?_⟩⟩
          rintro _ _ ⟨rfl, rfl⟩
          rw [h2 58 (by decide), h2 59 (by decide), e58, e59, cl8 hk, nI_1, ib0, h2 74 (by decide), h1 k hk, he]
          have skip : slkB X.2.1 r k = false → AW l G d hX8_slackens 88 [some (.inr 49), some (.inl (nI r)), some (.inl (X.1 r)), some (.inl c), some (.inl (spS (slkB X.2.1 r) e (upd X.1 r 0) o k).2), some (.inl (nI (k + 1)))] [] m' (fun _ t => Rm (upB (s 58) (s 59)) t ((spS (slkB X.2.1 r) e (upd X.1 r 0) o 8).1, slkB X.2.1 r, X.2.2) ∧ FrM s t) := by
            intro hb
            have e1 : spS (slkB X.2.1 r) e (upd X.1 r 0) o (k + 1) = spS (slkB X.2.1 r) e (upd X.1 r 0) o k := by simp [spS, hb]
            rw [e1] at ih
            exact ih m' h1 h2
          refine ⟨fun q => skip ?_, fun q => ⟨vi8 hk, fun q2 => ⟨vi8 hk, qc, vi8 hk, fun q3 => ?_, fun q3 => ⟨vi8 hk, vi8 hk, ?_⟩⟩, fun q2 => skip ?_⟩⟩
          · cases hb : slkB X.2.1 r k with
            | false => rfl
            | true => rw [hsub k hb] at q; cases q
          · have hu : upB (s 58) (s 59) k = true := by simpa using q
            have hb := (slt k hk hu).mp q2
            have e1 : spS (slkB X.2.1 r) e (upd X.1 r 0) o (k + 1) = (upd (spS (slkB X.2.1 r) e (upd X.1 r 0) o k).1 k ((spS (slkB X.2.1 r) e (upd X.1 r 0) o k).1 k + e), (spS (slkB X.2.1 r) e (upd X.1 r 0) o k).2) := by
              simp only [spS, hb, if_true, if_pos q3]
            rw [e1] at ih
            refine ih _ (fun j hj => ?_) (fun q hq => by rw [← h2 q hq]; exact stM_ne hq)
            show upd (m' 73) k _ j = upd _ k _ j
            by_cases hjk : j = k
            · subst hjk; rw [upd_at, upd_at]
            · rw [upd_ne hjk, upd_ne hjk]; exact h1 j hj
          · have hu : upB (s 58) (s 59) k = true := by simpa using q
            have hb := (slt k hk hu).mp q2
            have e1 : spS (slkB X.2.1 r) e (upd X.1 r 0) o (k + 1) = (upd (spS (slkB X.2.1 r) e (upd X.1 r 0) o k).1 k ((spS (slkB X.2.1 r) e (upd X.1 r 0) o k).1 k + e - 1), (spS (slkB X.2.1 r) e (upd X.1 r 0) o k).2 + 1) := by
              simp only [spS, hb, if_true, if_neg q3]
            rw [e1] at ih
            have e2 : ∀ v : Int32, (wrM m' 73 k v) 73 k = v := fun v => upd_at
            rw [e2]
            refine ih _ (fun j hj => ?_) (fun q hq => ?_)
            · show upd (upd (m' 73) k _) k _ j = upd _ k _ j
              by_cases hjk : j = k
              · subst hjk; rw [upd_at, upd_at]
              · rw [upd_ne hjk, upd_ne hjk, upd_ne hjk]; exact h1 j hj
            · rw [← h2 q hq]
              show stM (stM m' 73 _) 73 _ q = m' q
              rw [stM_ne hq, stM_ne hq]
          · have hu : upB (s 58) (s 59) k = true := by simpa using q
            cases hb : slkB X.2.1 r k with
            | false => rfl
            | true => exact absurd ((slt k hk hu).mpr hb) q2
      exact key 0 (by omega) m hP (fun _ _ => rfl)
    · have e1 : slk X r = (upd X.1 r 0, slkB X.2.1 r, X.1 r) := by
        unfold slk; rw [if_pos (hcn.mp q)]
      rw [e1]
      refine ⟨⟨hP, hS, rfl⟩, fun q q1 q2 q3 => ?_, fun j hj => ?_⟩
      · show stM m 49 _ q = s q
        rw [stM_ne q1]
        exact hF.1 q q1 q2 q3
      · show upd (m 49) 29 _ j = s 49 j
        rw [upd_ne hj]
        exact hF.2 j hj
  · intro k hk ih
    refine vX8_slackens_26 ⟨fun h => absurd h (c8f hk), fun _ => ⟨d - 1, _, by omega, S_isUp8 hk _, ?_⟩⟩
    rintro _ _ ⟨rfl, rfl⟩
    rw [e58, e59, cl8 hk, nI_1, nI_1, ib0, Int32.add_zero]
    refine ⟨fun q => ?_, fun q => ⟨vi8 hk, fun q2 => ?_, fun q2 => ?_⟩⟩
    · have hb : slkB X.2.1 r k = false := by
        cases hb : slkB X.2.1 r k with
        | false => rfl
        | true => rw [hsub k hb] at q; cases q
      simpa [cnB, hb] using ih
    · have hu : upB (s 58) (s 59) k = true := by simpa using q
      have hb : slkB X.2.1 r k = false := by
        cases hb : slkB X.2.1 r k with
        | false => rfl
        | true => exact absurd ((slt k hk hu).mpr hb) q2
      simpa [cnB, hb] using ih
    · have hu : upB (s 58) (s 59) k = true := by simpa using q
      have hb := (slt k hk hu).mp q2
      simpa [cnB, hb] using ih
theorem hangs_search {l : Launch} {G : GG} {d : Nat} (hd : 2 ≤ d) {w : Int32} {s : Mem} (m : Mem) (X : TX) (h1 : Rm (upB (s 58) (s 59)) m X) (h2 : UZ (upB (s 58) (s 59)) X) (h3 : FrM s m)
    (hstop : (∀ j, j < 8 → psh X j = false) → FinR 8 (X0 (s 57) (s 58) (s 59) w) X)
    (hgo : ∀ k, k < 8 → psh X k = true → (∀ j, j < k → psh X j = false) → ∀ t : Mem, Rm (upB (s 58) (s 59)) t (slk X k) → FrM m t → AW l G d hX8_hangs 86 [some (.inr 49), some (.inl w), some (.inl 1), none] [] t (fun _ t => ∃ Y, FinR 8 (X0 (s 57) (s 58) (s 59) w) Y ∧ UZ (upB (s 58) (s 59)) Y ∧ Rm (upB (s 58) (s 59)) t Y ∧ FrM s t)) :
    AW l G d hX8_hangs 86 [some (.inr 49), some (.inl w), some (.inl 1), none] [] m (fun _ t => ∃ Y, FinR 8 (X0 (s 57) (s 58) (s 59) w) Y ∧ UZ (upB (s 58) (s 59)) Y ∧ Rm (upB (s 58) (s 59)) t Y ∧ FrM s t) := by
  have e58 : m 58 = s 58 := h3.1 58 (by decide) (by decide) (by decide)
  have e59 : m 59 = s 59 := h3.1 59 (by decide) (by decide) (by decide)
  refine vX8_hangs_86 ⟨fun h => absurd h (by decide), fun _ => ?_⟩
  refine down0 (A := fun k => (∀ j, j < k → psh X j = false) → AW l G d hX8_hangs 92 [some (.inr 49), some (.inl w), some (.inl 1), some (.inl (nI k))] [] m (fun _ t => ∃ Y, FinR 8 (X0 (s 57) (s 58) (s 59) w) Y ∧ UZ (upB (s 58) (s 59)) Y ∧ Rm (upB (s 58) (s 59)) t Y ∧ FrM s t)) 8 ?_ ?_ (fun j hj => by omega)
  · intro hn
    refine vX8_hangs_92 ⟨fun _ => ⟨fun _ => ⟨fun _ => ?_, fun h => absurd rfl h⟩, fun h => absurd c8t h⟩, fun h => absurd c8t h⟩
    refine aw_weak (L := [some (.inr 49), some (.inl w), some (.inl 0), none]) ⟨rfl, rfl, rfl, trivial⟩ (vX8_hangs_86 ⟨fun _ => ⟨X, hstop hn, h2, h1, h3⟩, fun h => absurd rfl h⟩)
  · intro k hk ih hn
    refine vX8_hangs_92 ⟨fun h => absurd h (c8f hk), fun _ => ⟨d - 1, _, by omega, S_isUp8 hk _, ?_⟩⟩
    rintro _ _ ⟨rfl, rfl⟩
    rw [e58, e59, cl8 hk, nI_1, ib0, h1.1 k hk]
    have nxt : psh X k = false → ∀ j, j < k + 1 → psh X j = false := fun q j hj => by
      by_cases hjk : j = k
      · rw [hjk]; exact q
      · exact hn j (by omega)
    refine ⟨fun q => ih (nxt ?_), fun q => ⟨vi8 hk, fun q2 => ⟨fun h => absurd h (c8f hk), fun _ => ⟨fun h => absurd h (by decide), fun _ => ?_⟩⟩, fun q2 => ih (nxt ?_)⟩⟩
    · cases hb : X.2.1 k with
      | false => simp [psh, hb]
      | true => rw [h2.1 k hb] at q; cases q
    · have hu : upB (s 58) (s 59) k = true := by simpa using q
      have hb : X.2.1 k = true := by
        cases hb : X.2.1 k with
        | true => rfl
        | false =>
          rw [h2.2 k hk hu hb] at q2
          exact absurd q2 (by decide)
      have hp : psh X k = true := by simp only [psh, hb, q2, decide_true, Bool.and_true]
      have h1' : Rm (upB (m 58) (m 59)) m X := by rw [e58, e59]; exact h1
      have h2' : UZ (upB (m 58) (m 59)) X := by rw [e58, e59]; exact h2
      refine ⟨d - 1, _, by omega, S_slackens (by omega) hk h1' h2' hb, ?_⟩
      rintro _ t ⟨hR, hF⟩
      rw [e58, e59] at hR
      exact aw_weak (L := [some (.inr 49), some (.inl w), some (.inl 1), none]) ⟨rfl, rfl, rfl, trivial⟩ (hgo k hk hp hn t hR hF)
    · simp [psh, q2]
theorem S_hangs {l : Launch} {G : GG} {d : Nat} (hd : 2 ≤ d) (w : Int32) (s : Mem) : Spec l G d hX8_hangs [.inr 49, .inl w] s (fun _ t => ∃ Y, FinR 8 (X0 (s 57) (s 58) (s 59) w) Y ∧ UZ (upB (s 58) (s 59)) Y ∧ Rm (upB (s 58) (s 59)) t Y ∧ FrM s t) := by
  refine spec_of iX8_hangs (by decide +kernel) (Nat.le_of_ble_eq_true rfl) (vX8_hangs_0 ?_)
  have main : ∀ (n : Nat) (m : Mem) (X : TX), Rm (upB (s 58) (s 59)) m X → UZ (upB (s 58) (s 59)) X → FrM s m → cnB X.2.1 8 ≤ n → (∀ Y, FinR n X Y → FinR 8 (X0 (s 57) (s 58) (s 59) w) Y) →
      AW l G d hX8_hangs 86 [some (.inr 49), some (.inl w), some (.inl 1), none] [] m (fun _ t => ∃ Y, FinR 8 (X0 (s 57) (s 58) (s 59) w) Y ∧ UZ (upB (s 58) (s 59)) Y ∧ Rm (upB (s 58) (s 59)) t Y ∧ FrM s t) := by
    intro n
    induction n with
    | zero =>
      intro m X h1 h2 h3 h4 h5
      have hall : ∀ j, j < 8 → X.2.1 j = false := cnB_zero (by omega)
      exact hangs_search hd m X h1 h2 h3 (fun hn => h5 X (finR_stop hn _)) (fun k hk hp _ => by
        simp only [psh, Bool.and_eq_true] at hp
        rw [hall k hk] at hp
        cases hp.1)
    | succ n ihn =>
      intro m X h1 h2 h3 h4 h5
      refine hangs_search hd m X h1 h2 h3 (fun hn => h5 X (finR_stop hn _)) (fun k hk hp hb t hR hF => ?_)
      have hB : X.2.1 k = true := by
        simp only [psh, Bool.and_eq_true] at hp
        exact hp.1
      refine ihn t (slk X k) hR (UZ_slk h2) (h3.trans hF) ?_ (fun Y hY => h5 Y (Or.inr ⟨k, hk, hp, hb, hY⟩))
      rw [slk_B]
      have := cnB_slk hB (n := 8) hk
      omega
  have outer : ∀ k, k ≤ 8 → ∀ m : Mem, (∀ j, j < k → m 73 j = ptN (s 57) (s 58) (s 59) w j 8) → (∀ j, j < k → m 74 j = 0) → m 49 29 = 0 → FrM s m →
      AW l G d hX8_hangs 7 [some (.inr 49), some (.inl w), some (.inl (nI k)), none] [] m (fun _ t => ∃ Y, FinR 8 (X0 (s 57) (s 58) (s 59) w) Y ∧ UZ (upB (s 58) (s 59)) Y ∧ Rm (upB (s 58) (s 59)) t Y ∧ FrM s t) := by
    refine down 8 ?_ ?_
    · intro m h1 h2 h3 h4
      refine vX8_hangs_7 ⟨fun _ => ?_, fun h => absurd c8t h⟩
      refine main 8 m (X0 (s 57) (s 58) (s 59) w) ⟨h1, fun j hj => ?_, h3⟩ UZ_0 h4 (cnB_le _ 8) (fun _ h => h)
      rw [h2 j hj]
      simp [X0]
    · intro k hk ih m h1 h2 h3 h4
      refine vX8_hangs_7 ⟨fun h => absurd h (c8f hk), fun _ => ⟨vi8 hk, vi8 hk, vi8 hk, ?_⟩⟩
      rw [cl8 hk, nb0]
      have inner : ∀ p, p ≤ 8 → ∀ m' : Mem, (∀ j, j < k → m' 73 j = ptN (s 57) (s 58) (s 59) w j 8) → m' 73 k = ptN (s 57) (s 58) (s 59) w k p → (∀ j, j < k + 1 → m' 74 j = 0) → m' 49 29 = 0 → FrM s m' →
          AW l G d hX8_hangs 39 [some (.inr 49), some (.inl w), some (.inl (nI k)), some (.inl (nI p))] [] m' (fun _ t => ∃ Y, FinR 8 (X0 (s 57) (s 58) (s 59) w) Y ∧ UZ (upB (s 58) (s 59)) Y ∧ Rm (upB (s 58) (s 59)) t Y ∧ FrM s t) := by
        refine down 8 ?_ ?_
        · intro m' g1 g2 g3 g4 g5
          refine vX8_hangs_39 ⟨fun _ => ?_, fun h => absurd c8t h⟩
          rw [nI_1]
          refine aw_weak (L := [some (.inr 49), some (.inl w), some (.inl (nI (k + 1))), none]) ⟨rfl, rfl, rfl, trivial⟩ (ih m' (fun j hj => ?_) g3 g4 g5)
          by_cases hjk : j = k
          · rw [hjk]; exact g2
          · exact g1 j (by omega)
        · intro p hp ih2 m' g1 g2 g3 g4 g5
          refine vX8_hangs_39 ⟨fun h => absurd h (c8f hp), fun _ => ?_⟩
          rw [ixb, cl64 hp hk, cl8 hp, cl8 hk, nI_1, g2, g5.1 57 (by decide) (by decide) (by decide), g5.1 58 (by decide) (by decide) (by decide)]
          refine ⟨vi8 hk, vi8 hp, vi64 hp hk, vi8 hk, ih2 _ (fun j hj => ?_) upd_at g3 g4 ⟨fun q q1 q2 q3 => ?_, g5.2⟩⟩
          · show upd (m' 73) k _ j = _
            rw [upd_ne (by omega)]
            exact g1 j hj
          · show stM m' 73 _ q = s q
            rw [stM_ne q2]
            exact g5.1 q q1 q2 q3
      refine inner 0 (by omega) _ (fun j hj => ?_) ?_ (upd_lt (g := fun _ => 0) h2 rfl) h3 ⟨fun q q1 q2 q3 => ?_, h4.2⟩
      · show upd (m 73) k _ j = _
        rw [upd_ne (by omega)]
        exact h1 j hj
      · show upd (m 73) k ((100 : Int32) * w * (m 59 k)) k = _
        rw [upd_at, h4.1 59 (by decide) (by decide) (by decide)]
        rfl
      · show stM (stM m 74 _) 73 _ q = s q
        rw [stM_ne q2, stM_ne q3]
        exact h4.1 q q1 q2 q3
  refine outer 0 (by omega) _ (fun j hj => by omega) (fun j hj => by omega) rfl ⟨fun q q1 q2 q3 => stM_ne q1, fun j hj => ?_⟩
  show upd (s 49) 29 0 j = s 49 j
  exact upd_ne hj
end
section
/-! ===== the tent's questions, class and model side by side ===== -/
theorem finR_nu {U : Nat → Bool} : ∀ {n : Nat} {X Y : TX}, FinR n X Y → UZ U X → ∀ j, U j = false → Y.1 j = X.1 j
  | 0, X, Y, h, _, j, _ => by rw [show Y = X from h.symm]
  | n + 1, X, Y, h, hU, j, hj => by
    rcases h with ⟨rfl, _⟩ | ⟨k, hk, hp, _, hr⟩
    · rfl
    · have ih := finR_nu hr (UZ_slk (r := k) hU) j hj
      rw [ih]
      have hB : X.2.1 k = true := by
        simp only [psh, Bool.and_eq_true] at hp
        exact hp.1
      have hjk : j ≠ k := fun z => by
        rw [z, hU.1 k hB] at hj
        cases hj
      have hb : slkB X.2.1 k j = false := by
        cases hb : X.2.1 j with
        | false => simp [slkB, hb]
        | true => rw [hU.1 j hb] at hj; cases hj
      unfold slk
      split
      · exact upd_ne hjk
      · show (spS _ _ _ _ 8).1 j = X.1 j
        rw [spS_off hb]
        exact upd_ne hjk
theorem pt_nu {ld sh ex : Nat → Int32} {w : Int32} {r : Nat} (hsh : ∀ i, 0 ≤ sh i) (hu : upB sh ex r = false) : ptN ld sh ex w r 8 = 0 := by
  simp only [upB, Bool.or_eq_false_iff] at hu
  have he : ex r = 0 := by simpa using hu.2
  have key : ∀ n, n ≤ 8 → upN sh r n = false → ptN ld sh ex w r n = 0 := by
    intro n
    induction n with
    | zero => intro _ _; simp [ptN, he]
    | succ n ih =>
      intro hn h
      simp only [upN, Bool.or_eq_false_iff] at h
      have h1 : sh (n * 8 + r) ≤ 0 := by simpa using h.2
      have h2 : sh (n * 8 + r) = 0 := by
        have := hsh (n * 8 + r)
        grind
      simp [ptN, ih (by omega) h.1, h2]
  exact key 8 (Nat.le_refl _) hu.1
theorem S7_part {l : Launch} {G : GG} {d : Nat} (hd : 3 ≤ d) (r w : Int32) (s : Mem) : Spec l G d hX7_part [.inr 0, .inl r, .inl w] s (fun x t => (¬ (0 ≤ r ∧ r ≤ 7 ∧ -100 ≤ w ∧ w ≤ 100) ∧ x = -1 ∧ s = t) ∨ ∃ k, k < 8 ∧ r = nI k ∧ (-100 ≤ w ∧ w ≤ 100) ∧ (∃ Y, FinR 8 (X0 (s 27) (s 28) (s 29) w) Y ∧ UZ (upB (s 28) (s 29)) Y ∧ x = Y.1 k) ∧ FrC s t) := by
  refine spec_of iX7_part (by decide +kernel) (Nat.le_of_ble_eq_true rfl) (vX7_part_0 ?_)
  refine ⟨d - 1, _, by omega, S_isIn _ _ _, ?_⟩
  rintro _ _ ⟨rfl, rfl⟩
  rw [i01]
  refine ⟨fun h => Or.inl ⟨by grind, rfl, rfl⟩, fun h => ?_⟩
  refine ⟨d - 1, _, by omega, S_isWind _ _, ?_⟩
  rintro _ _ ⟨rfl, rfl⟩
  rw [i01]
  refine ⟨fun h2 => ?_, fun h2 => Or.inl ⟨by grind, rfl, rfl⟩⟩
  obtain ⟨k, hk, rfl⟩ := in8 (x := r) (by grind) (by grind)
  refine ⟨d - 1, _, by omega, S_settle (by omega) w s, ?_⟩
  rintro _ t ⟨Y, h3, h4, h5, h6⟩
  rw [cl8 hk]
  exact ⟨vi8 hk, Or.inr ⟨k, hk, rfl, by grind, ⟨Y, h3, h4, h5.1 k hk⟩, h6⟩⟩
theorem S8_part {l : Launch} {G : GG} {d : Nat} (hd : 3 ≤ d) (r w : Int32) (s : Mem) : Spec l G d hX8_part [.inr 49, .inl r, .inl w] s (fun x t => (¬ (0 ≤ r ∧ r ≤ 7 ∧ -100 ≤ w ∧ w ≤ 100) ∧ x = -1 ∧ s = t) ∨ ∃ k, k < 8 ∧ r = nI k ∧ (-100 ≤ w ∧ w ≤ 100) ∧ (∃ Y, FinR 8 (X0 (s 57) (s 58) (s 59) w) Y ∧ UZ (upB (s 58) (s 59)) Y ∧ x = if upB (s 58) (s 59) k then Y.1 k else 0) ∧ FrM s t) := by
  refine spec_of iX8_part (by decide +kernel) (Nat.le_of_ble_eq_true rfl) (vX8_part_0 ?_)
  refine ⟨d - 1, _, by omega, S_in _ _ _ _, ?_⟩
  rintro _ _ ⟨rfl, rfl⟩
  rw [i01]
  refine ⟨fun h => Or.inl ⟨by grind, rfl, rfl⟩, fun h => ?_⟩
  refine ⟨d - 1, _, by omega, S_isWind8 (by omega) _ _, ?_⟩
  rintro _ _ ⟨rfl, rfl⟩
  rw [i01]
  refine ⟨fun h2 => ?_, fun h2 => Or.inl ⟨by grind, rfl, rfl⟩⟩
  obtain ⟨k, hk, rfl⟩ := in8 (x := r) (by grind) (by grind)
  refine ⟨d - 1, _, by omega, S_hangs (by omega) w s, ?_⟩
  rintro _ t ⟨Y, h3, h4, h5, h6⟩
  refine ⟨d - 1, _, by omega, S_isUp8 hk _, ?_⟩
  rintro _ _ ⟨rfl, rfl⟩
  rw [cl8 hk, h6.1 58 (by decide) (by decide) (by decide), h6.1 59 (by decide) (by decide) (by decide), ib0]
  refine ⟨fun q => Or.inr ⟨k, hk, rfl, by grind, ⟨Y, h3, h4, by simp [q]⟩, h6⟩, fun q => ⟨vi8 hk, Or.inr ⟨k, hk, rfl, by grind, ⟨Y, h3, h4, ?_⟩, h6⟩⟩⟩
  have hu : upB (s 58) (s 59) k = true := by simpa using q
  rw [hu, h5.1 k hk]
  simp
theorem S7_slack {l : Launch} {G : GG} {d : Nat} (hd : 3 ≤ d) (r w : Int32) (s : Mem) : Spec l G d hX7_slack [.inr 0, .inl r, .inl w] s (fun x t => (¬ (0 ≤ r ∧ r ≤ 7 ∧ -100 ≤ w ∧ w ≤ 100) ∧ x = 0 ∧ s = t) ∨ ∃ k, k < 8 ∧ r = nI k ∧ (-100 ≤ w ∧ w ≤ 100) ∧ (∃ Y, FinR 8 (X0 (s 27) (s 28) (s 29) w) Y ∧ UZ (upB (s 28) (s 29)) Y ∧ x = if (upB (s 28) (s 29) k && !Y.2.1 k) then 1 else 0) ∧ FrC s t) := by
  refine spec_of iX7_slack (by decide +kernel) (Nat.le_of_ble_eq_true rfl) (vX7_slack_0 ?_)
  refine ⟨d - 1, _, by omega, S_isIn _ _ _, ?_⟩
  rintro _ _ ⟨rfl, rfl⟩
  rw [i01]
  refine ⟨fun h => ⟨Or.inl rfl, Or.inl ⟨by grind, rfl, rfl⟩⟩, fun h => ?_⟩
  refine ⟨d - 1, _, by omega, S_isWind _ _, ?_⟩
  rintro _ _ ⟨rfl, rfl⟩
  rw [i01]
  refine ⟨fun h2 => ?_, fun h2 => ⟨Or.inl rfl, Or.inl ⟨by grind, rfl, rfl⟩⟩⟩
  obtain ⟨k, hk, rfl⟩ := in8 (x := r) (by grind) (by grind)
  refine ⟨d - 1, _, by omega, S_settle (by omega) w s, ?_⟩
  rintro _ t ⟨Y, h3, h4, h5, h6⟩
  rw [cl8 hk, h5.2.2.1 k hk]
  exact ⟨vi8 hk, b01 _, Or.inr ⟨k, hk, rfl, by grind, ⟨Y, h3, h4, rfl⟩, h6⟩⟩
theorem S8_slack {l : Launch} {G : GG} {d : Nat} (hd : 3 ≤ d) (r w : Int32) (s : Mem) : Spec l G d hX8_slack [.inr 49, .inl r, .inl w] s (fun x t => (¬ (0 ≤ r ∧ r ≤ 7 ∧ -100 ≤ w ∧ w ≤ 100) ∧ x = 0 ∧ s = t) ∨ ∃ k, k < 8 ∧ r = nI k ∧ (-100 ≤ w ∧ w ≤ 100) ∧ (∃ Y, FinR 8 (X0 (s 57) (s 58) (s 59) w) Y ∧ UZ (upB (s 58) (s 59)) Y ∧ x = if (upB (s 58) (s 59) k && !Y.2.1 k) then 1 else 0) ∧ FrM s t) := by
  refine spec_of iX8_slack (by decide +kernel) (Nat.le_of_ble_eq_true rfl) (vX8_slack_0 ?_)
  refine ⟨d - 1, _, by omega, S_in _ _ _ _, ?_⟩
  rintro _ _ ⟨rfl, rfl⟩
  rw [i01]
  refine ⟨fun h => ⟨Or.inl rfl, Or.inl ⟨by grind, rfl, rfl⟩⟩, fun h => ?_⟩
  refine ⟨d - 1, _, by omega, S_isWind8 (by omega) _ _, ?_⟩
  rintro _ _ ⟨rfl, rfl⟩
  rw [i01]
  refine ⟨fun h2 => ?_, fun h2 => ⟨Or.inl rfl, Or.inl ⟨by grind, rfl, rfl⟩⟩⟩
  obtain ⟨k, hk, rfl⟩ := in8 (x := r) (by grind) (by grind)
  refine ⟨d - 1, _, by omega, S_hangs (by omega) w s, ?_⟩
  rintro _ t ⟨Y, h3, h4, h5, h6⟩
  rw [cl8 hk, h5.2.1 k hk]
  exact ⟨vi8 hk, b01 _, Or.inr ⟨k, hk, rfl, by grind, ⟨Y, h3, h4, rfl⟩, h6⟩⟩
theorem S7_gone {l : Launch} {G : GG} {d : Nat} (hd : 3 ≤ d) (w : Int32) (s : Mem) : Spec l G d hX7_gone [.inr 0, .inl w] s (fun x t => (¬ (-100 ≤ w ∧ w ≤ 100) ∧ x = 0 ∧ s = t) ∨ ((-100 ≤ w ∧ w ≤ 100) ∧ (∃ Y, FinR 8 (X0 (s 27) (s 28) (s 29) w) Y ∧ x = Y.2.2) ∧ FrC s t)) := by
  refine spec_of iX7_gone (by decide +kernel) (Nat.le_of_ble_eq_true rfl) (vX7_gone_0 ?_)
  refine ⟨d - 1, _, by omega, S_isWind _ _, ?_⟩
  rintro _ _ ⟨rfl, rfl⟩
  rw [i01]
  refine ⟨fun h2 => ?_, fun h2 => Or.inl ⟨by grind, rfl, rfl⟩⟩
  refine ⟨d - 1, _, by omega, S_settle (by omega) w s, ?_⟩
  rintro _ t ⟨Y, h3, h4, h5, h6⟩
  exact Or.inr ⟨by grind, ⟨Y, h3, h5.2.2.2⟩, h6⟩
theorem S8_gone {l : Launch} {G : GG} {d : Nat} (hd : 3 ≤ d) (w : Int32) (s : Mem) : Spec l G d hX8_gone [.inr 49, .inl w] s (fun x t => (¬ (-100 ≤ w ∧ w ≤ 100) ∧ x = 0 ∧ s = t) ∨ ((-100 ≤ w ∧ w ≤ 100) ∧ (∃ Y, FinR 8 (X0 (s 57) (s 58) (s 59) w) Y ∧ x = Y.2.2) ∧ FrM s t)) := by
  refine spec_of iX8_gone (by decide +kernel) (Nat.le_of_ble_eq_true rfl) (vX8_gone_0 ?_)
  refine ⟨d - 1, _, by omega, S_isWind8 (by omega) _ _, ?_⟩
  rintro _ _ ⟨rfl, rfl⟩
  rw [i01]
  refine ⟨fun h2 => ?_, fun h2 => Or.inl ⟨by grind, rfl, rfl⟩⟩
  refine ⟨d - 1, _, by omega, S_hangs (by omega) w s, ?_⟩
  rintro _ t ⟨Y, h3, h4, h5, h6⟩
  exact Or.inr ⟨by grind, ⟨Y, h3, h5.2.2⟩, h6⟩
end
section
/-! ===== acts come ===== -/
abbrev kdI (a : Int32) : Int32 := a / (100 : Int32) - a / (100 : Int32) / (10 : Int32) * (10 : Int32)
def canP (a b c : Int32) : Prop := ¬ a < 1000 ∧ a / 1000 ≤ 60 ∧ ¬ (4 : Int32) ≤ kdI a ∧ ¬ b < 0 ∧ b ≤ 1023 ∧ ¬ c < 0 ∧ (kdI a = 3 → ¬ 0 < c) ∧ (¬ kdI a = 3 → ¬ (255 : Int32) < c)
def canM (a b c : Int32) : Prop := ¬ a < 0 ∧ ((1 : Int32) ≤ a / 1000 ∧ a / 1000 ≤ 60) ∧ ¬ (3 : Int32) < kdI a ∧ (0 ≤ b ∧ b ≤ 1023) ∧ (kdI a = 3 → 0 ≤ c ∧ c ≤ 0) ∧ (¬ kdI a = 3 → 0 ≤ c ∧ c ≤ 255)
theorem th_ge {a : Int32} : ¬ a < 1000 ↔ (¬ a < 0 ∧ (1 : Int32) ≤ a / 1000) := by
  by_cases h : a < 0
  · constructor
    · intro h1
      grind
    · intro h1
      exact absurd h h1.1
  · obtain ⟨w, hw, rfl⟩ := nI_of h
    have e1 : nI w / (1000 : Int32) = nI (w / 1000) := pk_div (d := 1000) hw (by decide) (by decide)
    rw [e1]
    have e2 : nI w < (1000 : Int32) ↔ w < 1000 := nI_ltI hw (by decide)
    have e3 : (1 : Int32) ≤ nI (w / 1000) ↔ 1 ≤ w / 1000 := nI_leI (a := 1) (by decide) (by omega)
    rw [e2, e3]
    constructor
    · intro h1
      exact ⟨h, by omega⟩
    · intro h1
      omega
theorem can_iff {a b c : Int32} : canP a b c ↔ canM a b c := by
  unfold canP canM
  rw [th_ge]
  generalize kdI a = k
  generalize a / 1000 = m
  constructor
  · rintro ⟨⟨h1, h2⟩, h3, h4, h5, h6, h7, h8, h9⟩
    exact ⟨h1, ⟨h2, h3⟩, by grind, ⟨by grind, h6⟩, fun q => ⟨by grind, by have := h8 q; grind⟩, fun q => ⟨by grind, by have := h9 q; grind⟩⟩
  · rintro ⟨h1, ⟨h2, h3⟩, h4, ⟨h5, h6⟩, h7, h8⟩
    have hc : ¬ c < 0 := by
      by_cases q : k = 3
      · have := (h7 q).1; grind
      · have := (h8 q).1; grind
    exact ⟨⟨h1, h2⟩, h3, by grind, by grind, h6, hc, fun q => by have := (h7 q).2; grind, fun q => by have := (h8 q).2; grind⟩
theorem S_canBe {l : Launch} {G : GG} {d : Nat} (a b c : Int32) (s : Mem) : Spec l G d hX4_canBe [.inl a, .inl b, .inl c] s (fun r t => ((r = 1 ∧ canP a b c) ∨ (r = 0 ∧ ¬ canP a b c)) ∧ s = t) := by
  refine spec_of iX4_canBe (by decide +kernel) (Nat.le_of_ble_eq_true rfl) (vX4_canBe_0 ?_)
  refine ⟨fun h => ⟨Or.inl rfl, Or.inr ⟨rfl, fun q => q.1 h⟩, rfl⟩, fun h => ⟨by decide, fun h2 => ⟨by decide, by decide, fun h3 => ⟨Or.inl rfl, Or.inr ⟨rfl, fun q => q.2.2.1 h3⟩, rfl⟩, fun h3 => ⟨fun h4 => ⟨Or.inl rfl, Or.inr ⟨rfl, fun q => q.2.2.2.1 h4⟩, rfl⟩, fun h4 => ⟨fun h5 => ⟨fun h6 => ⟨Or.inl rfl, Or.inr ⟨rfl, fun q => q.2.2.2.2.2.1 h6⟩, rfl⟩, fun h6 => ⟨fun h7 => ⟨fun h8 => ⟨Or.inl rfl, Or.inr ⟨rfl, fun q => q.2.2.2.2.2.2.2 h7 h8⟩, rfl⟩, fun h8 => ⟨Or.inr rfl, Or.inl ⟨rfl, h, h2, h3, h4, h5, h6, fun q => absurd q h7, fun _ => h8⟩, rfl⟩⟩, fun h7 => ⟨fun h8 => ⟨Or.inl rfl, Or.inr ⟨rfl, fun q => q.2.2.2.2.2.2.1 h7 h8⟩, rfl⟩, fun h8 => ⟨Or.inr rfl, Or.inl ⟨rfl, h, h2, h3, h4, h5, h6, fun _ => h8, fun q => absurd h7 q⟩, rfl⟩⟩⟩⟩, fun h5 => ⟨Or.inl rfl, Or.inr ⟨rfl, fun q => h5 q.2.2.2.2.1⟩, rfl⟩⟩⟩⟩, fun h2 => ⟨Or.inl rfl, Or.inr ⟨rfl, fun q => h2 q.2.1⟩, rfl⟩⟩⟩
abbrev actC (s : Mem) (i : Nat) (a b c : Int32) : Mem := wrM (wrM (wrM (wrM (wrM (wrM (wrM s 2 i (a / 1000)) 3 i (kdI a)) 4 i (a - a / 100 * 100)) 5 i b) 6 i c) 1 0 (s 1 0 + 1)) 1 8 (s 1 8 + 1)
abbrev actM (s : Mem) (i : Nat) (a b c : Int32) : Mem := wrM (wrM (wrM (wrM (wrM (wrM s 50 i (a / 1000)) 51 i (kdI a)) 52 i (a - a / 100 * 100)) 53 i b) 54 i c) 49 0 (s 49 0 + 1)
theorem S4_add {l : Launch} {G : GG} {d k : Nat} (hd : 1 ≤ d) (hk : k ≤ 8) (a b c : Int32) {s : Mem} (hs : s 1 0 = nI k) : Spec l G d hX4_add [.inr 1, .inl a, .inl b, .inl c] s (fun r t => (canP a b c ∧ k < 8 ∧ r = nI k ∧ t = actC s k a b c) ∨ (¬ (canP a b c ∧ k < 8) ∧ r = -1 ∧ s = t)) := by
  refine spec_of iX4_add (by decide +kernel) (Nat.le_of_ble_eq_true rfl) (vX4_add_0 ?_)
  rw [hs]
  refine ⟨fun h => Or.inr ⟨fun q => c8f q.2 h, rfl, rfl⟩, fun h => ?_⟩
  have hk8 : k < 8 := by
    rcases Nat.lt_or_ge k 8 with q | q
    · exact q
    · exact absurd (by rw [show k = 8 by omega]; exact c8t) h
  refine ⟨d - 1, _, by omega, S_canBe a b c s, ?_⟩
  rintro r1 t1 ⟨hr, rfl⟩
  rw [hs, cl8 hk8]
  rcases hr with ⟨rfl, hc⟩ | ⟨rfl, hc⟩
  · refine ⟨fun _ => ⟨by decide, vi8 hk8, by decide, by decide, vi8 hk8, by decide, vi8 hk8, vi8 hk8, vi8 hk8, Or.inl ⟨hc, hk8, rfl, ?_⟩⟩, fun h => absurd h (by decide)⟩
    rfl
  · exact ⟨fun h => absurd rfl h, fun _ => Or.inr ⟨fun q => hc q.1, rfl, rfl⟩⟩
theorem S7_act {l : Launch} {G : GG} {d k : Nat} (hd : 2 ≤ d) (hk : k ≤ 8) (a b c : Int32) {s : Mem} (hs : s 1 0 = nI k) : Spec l G d hX7_act [.inr 0, .inl a, .inl b, .inl c] s (fun r t => (canP a b c ∧ k < 8 ∧ r = nI k ∧ t = actC s k a b c) ∨ (¬ (canP a b c ∧ k < 8) ∧ r = -1 ∧ s = t)) := by
  refine spec_of iX7_act (by decide +kernel) (Nat.le_of_ble_eq_true rfl) (vX7_act_0 ?_)
  exact ⟨d - 1, _, by omega, S4_add (by omega) hk a b c hs, fun _ _ q => q⟩
theorem S8_act {l : Launch} {G : GG} {d k : Nat} (hd : 1 ≤ d) (hk : k ≤ 8) (a b c : Int32) {s : Mem} (hs : s 49 0 = nI k) : Spec l G d hX8_act [.inr 49, .inl a, .inl b, .inl c] s (fun r t => (canM a b c ∧ k < 8 ∧ r = nI k ∧ t = actM s k a b c) ∨ (¬ (canM a b c ∧ k < 8) ∧ r = -1 ∧ s = t)) := by
  refine spec_of iX8_act (by decide +kernel) (Nat.le_of_ble_eq_true rfl) (vX8_act_0 ?_)
  refine ⟨by decide, by decide, by decide, fun h => Or.inr ⟨fun q => q.1.1 h, rfl, rfl⟩, fun h => ?_⟩
  refine ⟨d - 1, _, by omega, S_in _ _ _ _, ?_⟩
  rintro _ _ ⟨rfl, rfl⟩
  rw [i01]
  refine ⟨fun h2 => Or.inr ⟨fun q => h2 q.1.2.1, rfl, rfl⟩, fun h2 => ⟨fun h3 => Or.inr ⟨fun q => q.1.2.2.1 h3, rfl, rfl⟩, fun h3 => ?_⟩⟩
  have h2 := Classical.not_not.mp h2
  refine ⟨d - 1, _, by omega, S_in _ _ _ _, ?_⟩
  rintro _ _ ⟨rfl, rfl⟩
  rw [i01]
  refine ⟨fun h4 => Or.inr ⟨fun q => h4 q.1.2.2.2.1, rfl, rfl⟩, fun h4 => ?_⟩
  have h4 := Classical.not_not.mp h4
  have h8 : nI k = (8 : Int32) ↔ k = 8 := nI_eq (b := 8) (by omega) (by decide)
  have e1 : nI k + 1 - 1 = nI k := by rw [nI_1]; exact nI_pred k
  refine ⟨fun h5 => ?_, fun h5 => ?_⟩
  · refine ⟨d - 1, _, by omega, S_in _ _ _ _, ?_⟩
    rintro _ _ ⟨rfl, rfl⟩
    rw [i01]
    refine ⟨fun h6 => Or.inr ⟨fun q => h6 (q.1.2.2.2.2.2 h5), rfl, rfl⟩, fun h6 => ⟨fun h7 => ?_, fun h7 => Or.inr ⟨fun q => ?_, rfl, rfl⟩⟩⟩
    · rw [hs] at h7
      have hk8 : k < 8 := by
        rcases Nat.lt_or_ge k 8 with q | q
        · exact q
        · exact absurd (h8.mpr (by omega)) h7
      have hv : vp_in (s 49 0) 8 := by rw [hs]; exact vi8 hk8
      refine ⟨hv, hv, by decide, hv, hv, hv, Or.inl ⟨⟨h, h2, h3, h4, fun q => absurd q h5, fun _ => Classical.not_not.mp h6⟩, hk8, ?_, ?_⟩⟩
      · show s 49 0 + 1 - 1 = nI k
        rw [hs]
        exact e1
      · have e2 : (s 49 0).toNatClampNeg = k := by rw [hs]; exact cl8 hk8
        rw [← e2]
        rfl
    · rw [hs] at h7
      have := h8.mp h7
      omega
  · refine ⟨d - 1, _, by omega, S_in _ _ _ _, ?_⟩
    rintro _ _ ⟨rfl, rfl⟩
    rw [i01]
    refine ⟨fun h6 => Or.inr ⟨fun q => h6 (q.1.2.2.2.2.1 h5), rfl, rfl⟩, fun h6 => ⟨fun h7 => ?_, fun h7 => Or.inr ⟨fun q => ?_, rfl, rfl⟩⟩⟩
    · rw [hs] at h7
      have hk8 : k < 8 := by
        rcases Nat.lt_or_ge k 8 with q | q
        · exact q
        · exact absurd (h8.mpr (by omega)) h7
      have hv : vp_in (s 49 0) 8 := by rw [hs]; exact vi8 hk8
      refine ⟨hv, hv, by decide, hv, hv, hv, Or.inl ⟨⟨h, h2, h3, h4, fun _ => Classical.not_not.mp h6, fun q => absurd h5 q⟩, hk8, ?_, ?_⟩⟩
      · show s 49 0 + 1 - 1 = nI k
        rw [hs]
        exact e1
      · have e2 : (s 49 0).toNatClampNeg = k := by rw [hs]; exact cl8 hk8
        rw [← e2]
        rfl
    · rw [hs] at h7
      have := h8.mp h7
      omega
end
section
/-! ===== rests and bans ===== -/
abbrev bitI (p : Nat) : Int32 := (1 : Int32) <<< (nI p &&& 31)
def rsK (f : Nat → Int32) (p : Nat) (a : Int32) (k : Nat) : Nat → Int32 := fun b => if 1 ≤ b ∧ b < k then (if a < nI b then f b &&& (bitI p ^^^ (-1)) else f b ||| bitI p) else f b
theorem rsK_s {f : Nat → Int32} {p : Nat} {a : Int32} {k : Nat} (hk : 1 ≤ k) (v : Int32) (hv : v = if a < nI k then f k &&& (bitI p ^^^ (-1)) else f k ||| bitI p) : upd (rsK f p a k) k v = rsK f p a (k + 1) := by
  funext b
  by_cases hb : b = k
  · subst hb
    rw [upd_at, hv]
    simp only [rsK]
    rw [if_pos (show 1 ≤ b ∧ b < b + 1 by omega)]
  · rw [upd_ne hb]
    simp only [rsK]
    by_cases h1 : 1 ≤ b ∧ b < k
    · rw [if_pos h1, if_pos (show 1 ≤ b ∧ b < k + 1 by omega)]
    · rw [if_neg h1, if_neg (show ¬ (1 ≤ b ∧ b < k + 1) by omega)]
theorem rsK_at {f : Nat → Int32} {p : Nat} {a : Int32} {k : Nat} : rsK f p a k k = f k := by
  simp only [rsK]
  rw [if_neg (by omega)]
theorem S4_setRest {l : Launch} {G : GG} {d : Nat} (hd : 1 ≤ d) (q a : Int32) (s : Mem) : Spec l G d hX4_setRest [.inr 1, .inl q, .inl a] s (fun r t => (∃ p, p < 10 ∧ q = nI p ∧ (0 ≤ a ∧ a ≤ 3) ∧ r = 1 ∧ t = wrM (stM s 7 (rsK (s 7) p a 4)) 1 8 (s 1 8 + 1)) ∨ (¬ ((0 ≤ q ∧ q ≤ 9) ∧ 0 ≤ a ∧ a ≤ 3) ∧ r = 0 ∧ s = t)) := by
  refine spec_of iX4_setRest (by decide +kernel) (Nat.le_of_ble_eq_true rfl) (vX4_setRest_0 ?_)
  refine ⟨d - 1, _, by omega, S_isIn _ _ _, ?_⟩
  rintro _ _ ⟨rfl, rfl⟩
  rw [i01]
  refine ⟨fun h => ⟨Or.inl rfl, Or.inr ⟨by grind, rfl, rfl⟩⟩, fun h => ⟨fun h2 => ⟨Or.inl rfl, Or.inr ⟨by grind, rfl, rfl⟩⟩, fun h2 => ⟨fun h3 => ?_, fun h3 => ⟨Or.inl rfl, Or.inr ⟨by grind, rfl, rfl⟩⟩⟩⟩⟩
  have hq : ∃ p, p < 10 ∧ q = nI p := by
    rcases pk_ix q (n := 10) (by decide) with g | g | ⟨j, hj, g⟩
    · exact absurd g (by grind)
    · have g : (10 : Int32) ≤ q := g
      exact absurd g (by grind)
    · exact ⟨j, hj, g⟩
  obtain ⟨p, hp, rfl⟩ := hq
  have key : ∀ k, k ≤ 4 → 1 ≤ k → AW l G d hX4_setRest 22 [some (.inr 1), some (.inl (nI p)), some (.inl a), some (.inl (nI k))] [] (stM s 7 (rsK (s 7) p a k)) (fun r t => (∃ p', p' < 10 ∧ nI p = nI p' ∧ (0 ≤ a ∧ a ≤ 3) ∧ r = 1 ∧ t = wrM (stM s 7 (rsK (s 7) p' a 4)) 1 8 (s 1 8 + 1)) ∨ (¬ ((0 ≤ nI p ∧ nI p ≤ 9) ∧ 0 ≤ a ∧ a ≤ 3) ∧ r = 0 ∧ s = t)) := by
    refine down 4 ?_ ?_
    · intro _
      refine vX4_setRest_22 ⟨fun _ => ⟨Or.inr rfl, Or.inl ⟨p, hp, rfl, by grind, rfl, rfl⟩⟩, fun h => absurd (by decide) h⟩
    · intro k hk ih h1
      have hv : vp_in (nI k) 4 := vp_in_nI hk (by decide)
      have hc : (nI k).toNatClampNeg = k := nI_clamp (by omega)
      have h33 : ¬ (3 : Int32) < nI k := nI_nlt (b := k) (a := 3) (by omega) (by decide)
      have e7 : stM s 7 (rsK (s 7) p a k) 7 k = s 7 k := by
        rw [stM_self]; exact rsK_at
      have st : ∀ v : Int32, v = (if a < nI k then s 7 k &&& (bitI p ^^^ (-1)) else s 7 k ||| bitI p) → wrM (stM s 7 (rsK (s 7) p a k)) 7 k v = stM s 7 (rsK (s 7) p a (k + 1)) := by
        intro v hv
        rw [← rsK_s h1 v hv]
        funext q j
        by_cases h7 : q = 7
        · subst h7; rfl
        · simp [stM, h7]
      refine vX4_setRest_22 ⟨fun h => absurd h h33, fun _ => ?_⟩
      rw [hc, e7, nI_1]
      refine ⟨fun h => ⟨hv, hv, ?_⟩, fun h => ⟨hv, hv, ?_⟩⟩
      · rw [st _ (by rw [if_pos h])]
        exact ih (by omega)
      · rw [st _ (by rw [if_neg h])]
        exact ih (by omega)
  have k1 := key 1 (by omega) (by omega)
  have e1 : stM s 7 (rsK (s 7) p a 1) = s := by
    funext q j
    by_cases h7 : q = 7
    · subst h7
      rw [stM_self]
      simp only [rsK]
      rw [if_neg (by omega)]
    · simp [stM, h7]
  rw [e1] at k1
  exact k1
theorem S7_rests {l : Launch} {G : GG} {d : Nat} (hd : 2 ≤ d) (q a : Int32) (s : Mem) : Spec l G d hX7_rests [.inr 0, .inl q, .inl a] s (fun r t => (∃ p, p < 10 ∧ q = nI p ∧ (0 ≤ a ∧ a ≤ 3) ∧ r = 1 ∧ t = wrM (stM s 7 (rsK (s 7) p a 4)) 1 8 (s 1 8 + 1)) ∨ (¬ ((0 ≤ q ∧ q ≤ 9) ∧ 0 ≤ a ∧ a ≤ 3) ∧ r = 0 ∧ s = t)) := by
  refine spec_of iX7_rests (by decide +kernel) (Nat.le_of_ble_eq_true rfl) (vX7_rests_0 ?_)
  refine ⟨d - 1, _, by omega, S4_setRest (by omega) q a s, fun r t h => ⟨?_, h⟩⟩
  rcases h with ⟨_, _, _, _, rfl, _⟩ | ⟨_, rfl, _⟩
  · exact Or.inr rfl
  · exact Or.inl rfl
theorem S8_rests {l : Launch} {G : GG} {d : Nat} (hd : 1 ≤ d) (q a : Int32) (s : Mem) : Spec l G d hX8_rests [.inr 49, .inl q, .inl a] s (fun r t => (∃ p, p < 10 ∧ q = nI p ∧ (0 ≤ a ∧ a ≤ 3) ∧ r = 1 ∧ t = wrM s 55 p a) ∨ (¬ ((0 ≤ q ∧ q ≤ 9) ∧ 0 ≤ a ∧ a ≤ 3) ∧ r = 0 ∧ s = t)) := by
  refine spec_of iX8_rests (by decide +kernel) (Nat.le_of_ble_eq_true rfl) (vX8_rests_0 ?_)
  refine ⟨d - 1, _, by omega, S_in _ _ _ _, ?_⟩
  rintro _ _ ⟨rfl, rfl⟩
  rw [i01]
  refine ⟨fun h => ⟨Or.inl rfl, Or.inr ⟨fun z => h z.1, rfl, rfl⟩⟩, fun h => ?_⟩
  refine ⟨d - 1, _, by omega, S_in _ _ _ _, ?_⟩
  rintro _ _ ⟨rfl, rfl⟩
  rw [i01]
  refine ⟨fun h2 => ?_, fun h2 => ⟨Or.inl rfl, Or.inr ⟨fun z => h2 z.2, rfl, rfl⟩⟩⟩
  have hq : ∃ p, p < 10 ∧ q = nI p := by
    rcases pk_ix q (n := 10) (by decide) with g | g | ⟨j, hj, g⟩
    · exact absurd g (by grind)
    · have g : (10 : Int32) ≤ q := g
      exact absurd g (by grind)
    · exact ⟨j, hj, g⟩
  obtain ⟨p, hp, rfl⟩ := hq
  rw [nI_clamp (by omega)]
  exact ⟨vp_in_nI hp (by decide), Or.inr rfl, Or.inl ⟨p, hp, rfl, by grind, rfl, rfl⟩⟩
theorem in4 {x : Int32} (h0 : ¬ x < 0) (h1 : ¬ (4 : Int32) ≤ x) : ∃ k : Nat, k < 4 ∧ x = nI k := by
  rcases pk_ix x (n := 4) (by decide) with h | h | ⟨j, hj, rfl⟩
  · exact absurd h h0
  · exact absurd h h1
  · exact ⟨j, hj, rfl⟩
theorem ix4 {a b : Nat} : nI a * (4 : Int32) + nI b = nI (a * 4 + b) := by
  rw [show (4 : Int32) = nI 4 from rfl, pk_mul, nI_add]
theorem ix4b {a b : Nat} : (4 : Int32) * nI a + nI b = nI (a * 4 + b) := by
  rw [show (4 : Int32) = nI 4 from rfl, pk_mul, nI_add, Nat.mul_comm]
theorem S4_isBanned {l : Launch} {G : GG} {d i j : Nat} (hi : i < 4) (hj : j < 4) (s : Mem) : Spec l G d hX4_isBanned [.inr 1, .inl (nI i), .inl (nI j)] s (fun r t => r = (if bt (s 1 7) (i * 4 + j) then 1 else 0) ∧ s = t) := by
  refine spec_of iX4_isBanned (by decide +kernel) (Nat.le_of_ble_eq_true rfl) (vX4_isBanned_0 ?_)
  rw [ix4, bt_test (i * 4 + j) (by omega)]
  refine ⟨fun h => ⟨Or.inl rfl, by simp [h], rfl⟩, fun h => ⟨Or.inr rfl, ?_, rfl⟩⟩
  have h2 : bt (s 1 7) (i * 4 + j) = true := by simpa using h
  simp [h2]
theorem S7_ban {l : Launch} {G : GG} {d : Nat} (hd : 3 ≤ d) (a b c : Int32) (s : Mem) : Spec l G d hX7_ban [.inr 0, .inl a, .inl b, .inl c] s (fun r t => (∃ i j, i < 4 ∧ j < 4 ∧ a = nI i ∧ b = nI j ∧ ¬ (if bt (s 1 7) (i * 4 + j) then 1 else 0) = c ∧ r = 1 ∧ t = wrM (wrM s 1 7 (s 1 7 ^^^ bitI (i * 4 + j))) 1 8 (s 1 8 + 1)) ∨ (¬ ((0 ≤ a ∧ a ≤ 3) ∧ 0 ≤ b ∧ b ≤ 3) ∧ r = 0 ∧ s = t) ∨ (∃ i j, i < 4 ∧ j < 4 ∧ a = nI i ∧ b = nI j ∧ (if bt (s 1 7) (i * 4 + j) then 1 else 0) = c ∧ r = 0 ∧ s = t)) := by
  have inner : ∀ {d : Nat}, 1 ≤ d → Spec l G d hX4_setBan [.inr 1, .inl a, .inl b, .inl c] s (fun r t => (∃ i j, i < 4 ∧ j < 4 ∧ a = nI i ∧ b = nI j ∧ ¬ (if bt (s 1 7) (i * 4 + j) then 1 else 0) = c ∧ r = 1 ∧ t = wrM (wrM s 1 7 (s 1 7 ^^^ bitI (i * 4 + j))) 1 8 (s 1 8 + 1)) ∨ (¬ ((0 ≤ a ∧ a ≤ 3) ∧ 0 ≤ b ∧ b ≤ 3) ∧ r = 0 ∧ s = t) ∨ (∃ i j, i < 4 ∧ j < 4 ∧ a = nI i ∧ b = nI j ∧ (if bt (s 1 7) (i * 4 + j) then 1 else 0) = c ∧ r = 0 ∧ s = t)) := by
    intro d hd
    refine spec_of iX4_setBan (by decide +kernel) (Nat.le_of_ble_eq_true rfl) (vX4_setBan_0 ?_)
    refine ⟨d - 1, _, by omega, S_isIn _ _ _, ?_⟩
    rintro _ _ ⟨rfl, rfl⟩
    rw [i01]
    refine ⟨fun h => ⟨Or.inl rfl, Or.inr (Or.inl ⟨by grind, rfl, rfl⟩)⟩, fun h => ?_⟩
    refine ⟨d - 1, _, by omega, S_isIn _ _ _, ?_⟩
    rintro _ _ ⟨rfl, rfl⟩
    rw [i01]
    refine ⟨fun h2 => ⟨Or.inl rfl, Or.inr (Or.inl ⟨by grind, rfl, rfl⟩)⟩, fun h2 => ?_⟩
    obtain ⟨i, hi, rfl⟩ := in4 (x := a) (by grind) (by grind)
    obtain ⟨j, hj, rfl⟩ := in4 (x := b) (by grind) (by grind)
    refine ⟨d - 1, _, by omega, S4_isBanned hi hj s, ?_⟩
    rintro _ _ ⟨rfl, rfl⟩
    rw [ix4]
    exact ⟨fun q => ⟨Or.inr rfl, Or.inl ⟨i, j, hi, hj, rfl, rfl, q, rfl, rfl⟩⟩, fun q => ⟨Or.inl rfl, Or.inr (Or.inr ⟨i, j, hi, hj, rfl, rfl, q, rfl, rfl⟩)⟩⟩
  refine spec_of iX7_ban (by decide +kernel) (Nat.le_of_ble_eq_true rfl) (vX7_ban_0 ?_)
  refine ⟨d - 1, _, by omega, inner (by omega), fun r t h => ⟨?_, h⟩⟩
  rcases h with ⟨_, _, _, _, _, _, _, rfl, _⟩ | ⟨_, rfl, _⟩ | ⟨_, _, _, _, _, _, _, rfl, _⟩
  · exact Or.inr rfl
  · exact Or.inl rfl
  · exact Or.inl rfl
theorem S8_ban {l : Launch} {G : GG} {d : Nat} (hd : 1 ≤ d) (a b c : Int32) (s : Mem) : Spec l G d hX8_ban [.inr 49, .inl a, .inl b, .inl c] s (fun r t => (∃ i j, i < 4 ∧ j < 4 ∧ a = nI i ∧ b = nI j ∧ ¬ s 56 (i * 4 + j) = c ∧ r = 1 ∧ t = wrM s 56 (i * 4 + j) (vp_nar .boolean c)) ∨ (¬ ((0 ≤ a ∧ a ≤ 3) ∧ 0 ≤ b ∧ b ≤ 3) ∧ r = 0 ∧ s = t) ∨ (∃ i j, i < 4 ∧ j < 4 ∧ a = nI i ∧ b = nI j ∧ s 56 (i * 4 + j) = c ∧ r = 0 ∧ s = t)) := by
  refine spec_of iX8_ban (by decide +kernel) (Nat.le_of_ble_eq_true rfl) (vX8_ban_0 ?_)
  refine ⟨d - 1, _, by omega, S_in _ _ _ _, ?_⟩
  rintro _ _ ⟨rfl, rfl⟩
  rw [i01]
  refine ⟨fun h => ⟨Or.inl rfl, Or.inr (Or.inl ⟨fun z => h z.1, rfl, rfl⟩)⟩, fun h => ?_⟩
  refine ⟨d - 1, _, by omega, S_in _ _ _ _, ?_⟩
  rintro _ _ ⟨rfl, rfl⟩
  rw [i01]
  refine ⟨fun h2 => ⟨Or.inl rfl, Or.inr (Or.inl ⟨fun z => h2 z.2, rfl, rfl⟩)⟩, fun h2 => ?_⟩
  obtain ⟨i, hi, rfl⟩ := in4 (x := a) (by grind) (by grind)
  obtain ⟨j, hj, rfl⟩ := in4 (x := b) (by grind) (by grind)
  rw [ix4b, nI_clamp (show i * 4 + j < 2 ^ 31 by omega)]
  have hv : vp_in (nI (i * 4 + j)) 16 := vp_in_nI (by omega) (by decide)
  exact ⟨hv, fun q => ⟨hv, Or.inr rfl, Or.inl ⟨i, j, hi, hj, rfl, rfl, q, rfl, rfl⟩⟩, fun q => ⟨Or.inl rfl, Or.inr (Or.inr ⟨i, j, hi, hj, rfl, rfl, q, rfl, rfl⟩)⟩⟩
end
section
/-! ===== towns come; takings are told ===== -/
theorem inK {x : Int32} {k : Nat} (hk : k < 2 ^ 31) : (¬ x < 0 ∧ ¬ nI k ≤ x) ↔ ∃ j, j < k ∧ x = nI j := by
  constructor
  · rintro ⟨h0, h1⟩
    rcases pk_ix x (n := k) hk with h | h | ⟨j, hj, e⟩
    · exact absurd h h0
    · exact absurd h h1
    · exact ⟨j, hj, e⟩
  · rintro ⟨j, hj, rfl⟩
    exact ⟨nI_pos (by omega), nI_ge hj hk⟩
theorem inK1 {x : Int32} {k : Nat} (hk : k < 1000) : (0 ≤ x ∧ x ≤ nI k - 1) ↔ ∃ j, j < k ∧ x = nI j := by
  rw [← inK (by omega)]
  have h0 : 0 ≤ nI k := nI_pos' (by omega)
  have h1 : nI k ≤ (1000 : Int32) := (nI_leI (b := 1000) (by omega) (by decide)).mpr (by omega)
  generalize nI k = y at h0 h1
  constructor
  · rintro ⟨a, b⟩
    exact ⟨by grind, by grind⟩
  · rintro ⟨a, b⟩
    exact ⟨by grind, by grind⟩
theorem S3_has {l : Launch} {G : GG} {d k : Nat} (hd : 1 ≤ d) (hk : k ≤ 8) (x : Int32) {s : Mem} (hs : s 33 0 = nI k) : Spec l G d hX3_has [.inr 33, .inl x] s (fun r t => ((r = 1 ∧ ∃ j, j < k ∧ x = nI j) ∨ (r = 0 ∧ ¬ ∃ j, j < k ∧ x = nI j)) ∧ s = t) := by
  refine spec_of iX3_has (by decide +kernel) (Nat.le_of_ble_eq_true rfl) (vX3_has_0 ?_)
  refine ⟨d - 1, _, by omega, S_isIn _ _ _, ?_⟩
  rintro _ _ ⟨rfl, rfl⟩
  rw [hs]
  by_cases h : ¬ x < 0 ∧ ¬ nI k ≤ x
  · rw [if_pos h]
    exact ⟨Or.inr rfl, Or.inl ⟨rfl, (inK (by omega)).mp h⟩, rfl⟩
  · rw [if_neg h]
    exact ⟨Or.inl rfl, Or.inr ⟨rfl, fun q => h ((inK (by omega)).mpr q)⟩, rfl⟩
theorem S8_isTown {l : Launch} {G : GG} {d k : Nat} (hd : 1 ≤ d) (hk : k ≤ 8) (x : Int32) {s : Mem} (hs : s 49 11 = nI k) : Spec l G d hX8_isTown [.inr 49, .inl x] s (fun r t => ((r = 1 ∧ ∃ j, j < k ∧ x = nI j) ∨ (r = 0 ∧ ¬ ∃ j, j < k ∧ x = nI j)) ∧ s = t) := by
  refine spec_of iX8_isTown (by decide +kernel) (Nat.le_of_ble_eq_true rfl) (vX8_isTown_0 ?_)
  refine ⟨d - 1, _, by omega, S_in _ _ _ _, ?_⟩
  rintro _ _ ⟨rfl, rfl⟩
  rw [hs]
  by_cases h : 0 ≤ x ∧ x ≤ nI k - 1
  · rw [if_pos h]
    exact ⟨Or.inr rfl, Or.inl ⟨rfl, (inK1 (by omega)).mp h⟩, rfl⟩
  · rw [if_neg h]
    exact ⟨Or.inl rfl, Or.inr ⟨rfl, fun q => h ((inK1 (by omega)).mpr q)⟩, rfl⟩
def twP (a b c : Int32) : Prop := (0 ≤ a ∧ a ≤ 10000) ∧ (0 ≤ b ∧ b ≤ 29) ∧ b ≤ c ∧ c ≤ 29
abbrev twC (s : Mem) (i : Nat) (a b c : Int32) : Mem := wrM (wrM (wrM (wrM (wrM s 34 i a) 35 i b) 36 i c) 33 0 (s 33 0 + 1)) 33 6 (s 33 6 + 1)
abbrev twM (s : Mem) (i : Nat) (a b c : Int32) : Mem := wrM (wrM (wrM (wrM s 60 i a) 61 i b) 62 i c) 49 11 (s 49 11 + 1)
theorem S7_town {l : Launch} {G : GG} {d k : Nat} (hd : 2 ≤ d) (hk : k ≤ 8) (a b c : Int32) {s : Mem} (hs : s 33 0 = nI k) : Spec l G d hX7_town [.inr 0, .inl a, .inl b, .inl c] s (fun r t => (twP a b c ∧ k < 8 ∧ r = nI k ∧ t = twC s k a b c) ∨ (¬ (twP a b c ∧ k < 8) ∧ r = -1 ∧ s = t)) := by
  have inner : ∀ {d : Nat}, 1 ≤ d → Spec l G d hX3_add [.inr 33, .inl a, .inl b, .inl c] s (fun r t => (twP a b c ∧ k < 8 ∧ r = nI k ∧ t = twC s k a b c) ∨ (¬ (twP a b c ∧ k < 8) ∧ r = -1 ∧ s = t)) := by
    intro d hd
    refine spec_of iX3_add (by decide +kernel) (Nat.le_of_ble_eq_true rfl) (vX3_add_0 ?_)
    have e1 : (8 : Int32) ≤ s 33 0 ↔ ¬ k < 8 := by
      rw [hs]
      constructor
      · intro h q; exact c8f q h
      · intro h; rw [show k = 8 by omega]; exact c8t
    rw [e1]
    unfold twP
    refine ⟨fun h => Or.inr ⟨fun q => h q.2, rfl, rfl⟩, fun h => ⟨fun h2 => Or.inr ⟨by grind, rfl, rfl⟩, fun h2 => ⟨fun h3 => ?_, fun h3 => Or.inr ⟨by grind, rfl, rfl⟩⟩⟩⟩
    have hk8 := Classical.not_not.mp h
    refine ⟨d - 1, _, by omega, S_isIn _ _ _, ?_⟩
    rintro _ _ ⟨rfl, rfl⟩
    rw [i01]
    refine ⟨fun h4 => Or.inr ⟨by grind, rfl, rfl⟩, fun h4 => ?_⟩
    refine ⟨d - 1, _, by omega, S_isIn _ _ _, ?_⟩
    rintro _ _ ⟨rfl, rfl⟩
    rw [i01]
    refine ⟨fun h5 => Or.inr ⟨by grind, rfl, rfl⟩, fun h5 => ⟨fun h6 => ?_, fun h6 => Or.inr ⟨by grind, rfl, rfl⟩⟩⟩
    have hv : vp_in (s 33 0) 8 := by rw [hs]; exact vi8 hk8
    refine ⟨hv, hv, hv, Or.inl ⟨by grind, hk8, hs, ?_⟩⟩
    have e2 : (s 33 0).toNatClampNeg = k := by rw [hs]; exact cl8 hk8
    rw [← e2]
    rfl
  refine spec_of iX7_town (by decide +kernel) (Nat.le_of_ble_eq_true rfl) (vX7_town_0 ?_)
  exact ⟨d - 1, _, by omega, inner (by omega), fun _ _ q => q⟩
theorem S8_town {l : Launch} {G : GG} {d k : Nat} (hd : 1 ≤ d) (hk : k ≤ 8) (a b c : Int32) {s : Mem} (hs : s 49 11 = nI k) : Spec l G d hX8_town [.inr 49, .inl a, .inl b, .inl c] s (fun r t => (twP a b c ∧ k < 8 ∧ r = nI k ∧ t = twM s k a b c) ∨ (¬ (twP a b c ∧ k < 8) ∧ r = -1 ∧ s = t)) := by
  refine spec_of iX8_town (by decide +kernel) (Nat.le_of_ble_eq_true rfl) (vX8_town_0 ?_)
  unfold twP
  refine ⟨d - 1, _, by omega, S_in _ _ _ _, ?_⟩
  rintro _ _ ⟨rfl, rfl⟩
  rw [i01]
  refine ⟨fun h => Or.inr ⟨fun q => h q.1.1, rfl, rfl⟩, fun h => ?_⟩
  refine ⟨d - 1, _, by omega, S_in _ _ _ _, ?_⟩
  rintro _ _ ⟨rfl, rfl⟩
  rw [i01]
  refine ⟨fun h2 => Or.inr ⟨fun q => h2 q.1.2.1, rfl, rfl⟩, fun h2 => ?_⟩
  refine ⟨d - 1, _, by omega, S_in _ _ _ _, ?_⟩
  rintro _ _ ⟨rfl, rfl⟩
  rw [i01]
  have h8 : s 49 11 = (8 : Int32) ↔ k = 8 := by rw [hs]; exact nI_eq (b := 8) (by omega) (by decide)
  rw [h8]
  refine ⟨fun h3 => Or.inr ⟨fun q => h3 q.1.2.2, rfl, rfl⟩, fun h3 => ⟨fun h4 => ?_, fun h4 => Or.inr ⟨fun q => by omega, rfl, rfl⟩⟩⟩
  have hk8 : k < 8 := by omega
  have hv : vp_in (s 49 11) 8 := by rw [hs]; exact vi8 hk8
  refine ⟨hv, hv, hv, Or.inl ⟨⟨Classical.not_not.mp h, Classical.not_not.mp h2, Classical.not_not.mp h3⟩, hk8, ?_, ?_⟩⟩
  · show s 49 11 + 1 - 1 = nI k
    rw [hs, nI_1]
    exact nI_pred k
  · have e2 : (s 49 11).toNatClampNeg = k := by rw [hs]; exact cl8 hk8
    rw [← e2]
    rfl
def tkP (k : Nat) (a b c : Int32) : Prop := (∃ j, j < k ∧ a = nI j) ∧ (0 ≤ b ∧ b ≤ 6) ∧ 0 ≤ c ∧ c ≤ 1000000
abbrev tkC (s : Mem) (i : Nat) (c : Int32) : Mem := wrM (wrM (wrM s 47 i (s 47 i + c)) 48 i (s 48 i + 1)) 46 0 (s 46 0 + 1)
abbrev tkM (s : Mem) (i : Nat) (a b c : Int32) : Mem := wrM (wrM (wrM (wrM s 65 i a) 66 i b) 67 i c) 49 17 (s 49 17 + 1)
theorem ix7 {a b : Nat} : nI a * (7 : Int32) + nI b = nI (a * 7 + b) := by
  rw [show (7 : Int32) = nI 7 from rfl, pk_mul, nI_add]
theorem in7 {x : Int32} (h0 : 0 ≤ x) (h1 : x ≤ (6 : Int32)) : ∃ k : Nat, k < 7 ∧ x = nI k := by
  rcases pk_ix x (n := 7) (by decide) with h | h | ⟨j, hj, e⟩
  · exact absurd h (by grind)
  · have h : (7 : Int32) ≤ x := h
    exact absurd h (by grind)
  · exact ⟨j, hj, e⟩
theorem S7_took {l : Launch} {G : GG} {d k n : Nat} (hd : 2 ≤ d) (hk : k ≤ 8) (hn : n ≤ 500) (a b c : Int32) {s : Mem} (hs : s 33 0 = nI k) (hs2 : s 46 0 = nI n) : Spec l G d hX7_took [.inr 0, .inl a, .inl b, .inl c] s (fun r t => (∃ i j, i < k ∧ j < 7 ∧ a = nI i ∧ b = nI j ∧ (0 ≤ c ∧ c ≤ 1000000) ∧ n < 500 ∧ r = nI (n + 1) ∧ t = tkC s (i * 7 + j) c) ∨ (¬ (tkP k a b c ∧ n < 500) ∧ r = -1 ∧ s = t)) := by
  refine spec_of iX7_took (by decide +kernel) (Nat.le_of_ble_eq_true rfl) (vX7_took_0 ?_)
  refine ⟨d - 1, _, by omega, S3_has (by omega) hk a hs, ?_⟩
  rintro r1 _ ⟨hr, rfl⟩
  rcases hr with ⟨rfl, i, hi, rfl⟩ | ⟨rfl, hno⟩
  · refine ⟨fun h => absurd h (by decide), fun _ => ?_⟩
    have inner : ∀ {d : Nat}, 1 ≤ d → Spec l G d hX6_add [.inr 46, .inl (nI i), .inl b, .inl c] s (fun r t => (∃ j, j < 7 ∧ b = nI j ∧ (0 ≤ c ∧ c ≤ 1000000) ∧ n < 500 ∧ r = nI (n + 1) ∧ t = tkC s (i * 7 + j) c) ∨ (¬ (((0 ≤ b ∧ b ≤ 6) ∧ 0 ≤ c ∧ c ≤ 1000000) ∧ n < 500) ∧ r = -1 ∧ s = t)) := by
      intro d hd
      refine spec_of iX6_add (by decide +kernel) (Nat.le_of_ble_eq_true rfl) (vX6_add_0 ?_)
      have e1 : (500 : Int32) ≤ s 46 0 ↔ ¬ n < 500 := by
        rw [hs2]
        have := nI_leI (a := 500) (b := n) (by decide) (by omega)
        rw [show (500 : Int32) = nI 500 from rfl, this]
        omega
      rw [e1]
      refine ⟨fun h => Or.inr ⟨fun q => h q.2, rfl, rfl⟩, fun h => ?_⟩
      have hn5 := Classical.not_not.mp h
      refine ⟨d - 1, _, by omega, S_isIn _ _ _, ?_⟩
      rintro _ _ ⟨rfl, rfl⟩
      rw [i01]
      refine ⟨fun h4 => absurd ⟨nI_pos (by omega), c8f (by omega)⟩ h4, fun h4 => ?_⟩
      refine ⟨d - 1, _, by omega, S_isIn _ _ _, ?_⟩
      rintro _ _ ⟨rfl, rfl⟩
      rw [i01]
      refine ⟨fun h5 => ⟨fun h6 => Or.inr ⟨by grind, rfl, rfl⟩, fun h6 => ⟨fun h7 => ?_, fun h7 => Or.inr ⟨by grind, rfl, rfl⟩⟩⟩, fun h5 => Or.inr ⟨by grind, rfl, rfl⟩⟩
      obtain ⟨j, hj, rfl⟩ := in7 (x := b) (by grind) (by grind)
      rw [ix7, nI_clamp (show i * 7 + j < 2 ^ 31 by omega)]
      have hv : vp_in (nI (i * 7 + j)) 56 := vp_in_nI (by omega) (by decide)
      refine ⟨hv, hv, hv, hv, Or.inl ⟨j, hj, rfl, ⟨by grind, h7⟩, hn5, ?_, rfl⟩⟩
      show s 46 0 + 1 = nI (n + 1)
      rw [hs2, nI_1]
    refine ⟨d - 1, _, by omega, inner (by omega), ?_⟩
    rintro r t (⟨j, hj, rfl, h1, h2, h3, h4⟩ | ⟨h1, h2, h3⟩)
    · exact Or.inl ⟨i, j, hi, hj, rfl, rfl, h1, h2, h3, h4⟩
    · exact Or.inr ⟨fun q => h1 ⟨q.1.2, q.2⟩, h2, h3⟩
  · exact ⟨fun _ => Or.inr ⟨fun q => hno q.1.1, rfl, rfl⟩, fun h => absurd rfl h⟩
theorem S8_took {l : Launch} {G : GG} {d k n : Nat} (hd : 2 ≤ d) (hk : k ≤ 8) (hn : n ≤ 500) (a b c : Int32) {s : Mem} (hs : s 49 11 = nI k) (hs2 : s 49 17 = nI n) : Spec l G d hX8_took [.inr 49, .inl a, .inl b, .inl c] s (fun r t => (tkP k a b c ∧ n < 500 ∧ r = nI (n + 1) ∧ t = tkM s n a b c) ∨ (¬ (tkP k a b c ∧ n < 500) ∧ r = -1 ∧ s = t)) := by
  refine spec_of iX8_took (by decide +kernel) (Nat.le_of_ble_eq_true rfl) (vX8_took_0 ?_)
  refine ⟨d - 1, _, by omega, S8_isTown (by omega) hk a hs, ?_⟩
  rintro r1 _ ⟨hr, rfl⟩
  rcases hr with ⟨rfl, hyes⟩ | ⟨rfl, hno⟩
  · refine ⟨fun h => absurd h (by decide), fun _ => ?_⟩
    refine ⟨d - 1, _, by omega, S_in _ _ _ _, ?_⟩
    rintro _ _ ⟨rfl, rfl⟩
    rw [i01]
    refine ⟨fun h2 => Or.inr ⟨fun q => h2 q.1.2.1, rfl, rfl⟩, fun h2 => ?_⟩
    refine ⟨d - 1, _, by omega, S_in _ _ _ _, ?_⟩
    rintro _ _ ⟨rfl, rfl⟩
    rw [i01]
    have h8 : s 49 17 = (500 : Int32) ↔ n = 500 := by rw [hs2]; exact nI_eq (b := 500) (by omega) (by decide)
    rw [h8]
    refine ⟨fun h3 => Or.inr ⟨fun q => h3 q.1.2.2, rfl, rfl⟩, fun h3 => ⟨fun h4 => ?_, fun h4 => Or.inr ⟨fun q => by omega, rfl, rfl⟩⟩⟩
    have hv : vp_in (s 49 17) 500 := by rw [hs2]; exact vp_in_nI (by omega) (by decide)
    refine ⟨hv, hv, hv, Or.inl ⟨⟨hyes, Classical.not_not.mp h2, Classical.not_not.mp h3⟩, by omega, ?_, ?_⟩⟩
    · show s 49 17 + 1 = nI (n + 1)
      rw [hs2, nI_1]
    · have e2 : (s 49 17).toNatClampNeg = n := by rw [hs2]; exact nI_clamp (by omega)
      rw [← e2]
      rfl
  · exact ⟨fun _ => Or.inr ⟨fun q => hno q.1.1, rfl, rfl⟩, fun h => absurd rfl h⟩
end
section
/-! ===== takings gathered; the common divisor ===== -/
def SF (p : Nat → Bool) (f : Nat → Nat) : Nat → Nat
  | 0 => 0
  | n + 1 => SF p f n + (if p n then f n else 0)
theorem SF_cong {p q : Nat → Bool} {f : Nat → Nat} : ∀ {n : Nat}, (∀ i, i < n → p i = q i) → SF p f n = SF q f n
  | 0, _ => rfl
  | n + 1, h => by simp only [SF, SF_cong (n := n) (fun i hi => h i (by omega)), h n (by omega)]
theorem SF_or {p q : Nat → Bool} {f : Nat → Nat} : ∀ {n : Nat}, (∀ i, i < n → ¬ (p i = true ∧ q i = true)) → SF (fun i => p i || q i) f n = SF p f n + SF q f n
  | 0, _ => rfl
  | n + 1, h => by
    have ih := SF_or (p := p) (q := q) (f := f) (n := n) (fun i hi => h i (by omega))
    have h1 := h n (by omega)
    simp only [SF, ih]
    grind
theorem SF_zero {f : Nat → Nat} : ∀ n, SF (fun _ => false) f n = 0
  | 0 => rfl
  | n + 1 => by simp [SF, SF_zero n]
theorem SF_le {p : Nat → Bool} {f : Nat → Nat} {c : Nat} : ∀ {n : Nat}, (∀ i, i < n → f i ≤ c) → SF p f n ≤ n * c
  | 0, _ => Nat.zero_le _
  | n + 1, h => by
    have ih := SF_le (p := p) (f := f) (c := c) (n := n) (fun i hi => h i (by omega))
    have h1 := h n (by omega)
    rw [Nat.succ_mul]
    simp only [SF]
    split <;> omega
def TLc (s : Mem) (N : Nat) (tw dy sm : Nat → Nat) : Prop := ∀ a b, a < 8 → b < 7 → s 47 (a * 7 + b) = nI (SF (fun i => tw i == a && dy i == b) sm N) ∧ s 48 (a * 7 + b) = nI (SF (fun i => tw i == a && dy i == b) (fun _ => 1) N)
def ppB (tw dy : Nat → Nat) (f fd ld a b : Nat) : Nat → Bool := fun i => (decide (f ≤ tw i) && decide (tw i < a) && decide (fd ≤ dy i) && decide (dy i ≤ ld)) || (tw i == a && decide (fd ≤ dy i) && decide (dy i < b))
def rect (tw dy : Nat → Nat) (f g fd ld : Nat) : Nat → Bool := fun i => decide (f ≤ tw i) && decide (tw i ≤ g) && decide (fd ≤ dy i) && decide (dy i ≤ ld)
theorem ppB_next {tw dy : Nat → Nat} {f fd ld a : Nat} (h : f ≤ a) : ppB tw dy f fd ld a (ld + 1) = ppB tw dy f fd ld (a + 1) fd := by
  funext i
  simp only [ppB]
  grind
theorem ppB_step {tw dy : Nat → Nat} {f fd ld a b : Nat} (h : fd ≤ b) : ppB tw dy f fd ld a (b + 1) = fun i => ppB tw dy f fd ld a b i || (tw i == a && dy i == b) := by
  funext i
  simp only [ppB]
  grind
theorem ppB_0 {tw dy : Nat → Nat} {f fd ld : Nat} : ppB tw dy f fd ld f fd = fun _ => false := by
  funext i
  simp only [ppB]
  grind
theorem ppB_end {tw dy : Nat → Nat} {f g fd ld : Nat} : ppB tw dy f fd ld (g + 1) fd = rect tw dy f g fd ld := by
  funext i
  simp only [ppB, rect]
  grind
def FrT (s t : Mem) : Prop := (∀ q, q ≠ 46 → t q = s q) ∧ ∀ j, j ≠ 3 → j ≠ 4 → t 46 j = s 46 j
theorem FrT.trans {s t u : Mem} (h1 : FrT s t) (h2 : FrT t u) : FrT s u := ⟨fun q q1 => (h2.1 q q1).trans (h1.1 q q1), fun j j1 j2 => (h2.2 j j1 j2).trans (h1.2 j j1 j2)⟩
theorem S6_gather {l : Launch} {G : GG} {d f g fd ld N : Nat} {tw dy sm : Nat → Nat} {s : Mem} (hT : TLc s N tw dy sm) (h1 : f ≤ g) (h2 : g < 8) (h3 : fd ≤ ld) (h4 : ld < 7) : Spec l G d hX6_gather [.inr 46, .inl (nI f), .inl (nI g), .inl (nI fd), .inl (nI ld)] s (fun _ t => t 46 3 = nI (SF (rect tw dy f g fd ld) sm N) ∧ t 46 4 = nI (SF (rect tw dy f g fd ld) (fun _ => 1) N) ∧ FrT s t) := by
  refine spec_of iX6_gather (by decide +kernel) (Nat.le_of_ble_eq_true rfl) (vX6_gather_0 ?_)
  have key : ∀ a, a ≤ g + 1 → f ≤ a → ∀ m : Mem, m 46 3 = nI (SF (ppB tw dy f fd ld a fd) sm N) → m 46 4 = nI (SF (ppB tw dy f fd ld a fd) (fun _ => 1) N) → FrT s m →
      AW l G d hX6_gather 13 [some (.inr 46), some (.inl (nI f)), some (.inl (nI g)), some (.inl (nI fd)), some (.inl (nI ld)), some (.inl (nI a)), none] [] m (fun _ t => t 46 3 = nI (SF (rect tw dy f g fd ld) sm N) ∧ t 46 4 = nI (SF (rect tw dy f g fd ld) (fun _ => 1) N) ∧ FrT s t) := by
    refine down (g + 1) ?_ ?_
    · intro _ m e3 e4 hF
      rw [ppB_end] at e3 e4
      exact vX6_gather_13 ⟨fun _ => ⟨e3, e4, hF⟩, fun h => absurd (nI_lt (by omega) (by omega)) h⟩
    · intro a ha ih hfa m e3 e4 hF
      refine vX6_gather_13 ⟨fun h => absurd h (nI_nlt (by omega) (by omega)), fun _ => ?_⟩
      have inner : ∀ b, b ≤ ld + 1 → fd ≤ b → ∀ m : Mem, m 46 3 = nI (SF (ppB tw dy f fd ld a b) sm N) → m 46 4 = nI (SF (ppB tw dy f fd ld a b) (fun _ => 1) N) → FrT s m →
          AW l G d hX6_gather 22 [some (.inr 46), some (.inl (nI f)), some (.inl (nI g)), some (.inl (nI fd)), some (.inl (nI ld)), some (.inl (nI a)), some (.inl (nI b))] [] m (fun _ t => t 46 3 = nI (SF (rect tw dy f g fd ld) sm N) ∧ t 46 4 = nI (SF (rect tw dy f g fd ld) (fun _ => 1) N) ∧ FrT s t) := by
        refine down (ld + 1) ?_ ?_
        · intro _ m e3 e4 hF
          rw [ppB_next hfa] at e3 e4
          refine vX6_gather_22 ⟨fun _ => ?_, fun h => absurd (nI_lt (by omega) (by omega)) h⟩
          rw [nI_1]
          exact aw_weak (L := [some (.inr 46), some (.inl (nI f)), some (.inl (nI g)), some (.inl (nI fd)), some (.inl (nI ld)), some (.inl (nI (a + 1))), none]) ⟨rfl, rfl, rfl, rfl, rfl, rfl, trivial⟩ (ih (by omega) m e3 e4 hF)
        · intro b hb ih2 hfb m e3 e4 hF
          refine vX6_gather_22 ⟨fun h => absurd h (nI_nlt (by omega) (by omega)), fun _ => ?_⟩
          rw [ix7, nI_clamp (show a * 7 + b < 2 ^ 31 by omega), nI_1]
          have hv : vp_in (nI (a * 7 + b)) 56 := vp_in_nI (by omega) (by decide)
          have hc := hT a b (by omega) (by omega)
          have e47 : m 47 (a * 7 + b) = s 47 (a * 7 + b) := by rw [hF.1 47 (by decide)]
          have e48 : m 48 (a * 7 + b) = s 48 (a * 7 + b) := by rw [hF.1 48 (by decide)]
          have dis : ∀ i, i < N → ¬ (ppB tw dy f fd ld a b i = true ∧ (tw i == a && dy i == b) = true) := by
            intro i _
            simp only [ppB]
            grind
          refine ⟨hv, hv, ih2 (by omega) _ ?_ ?_ (hF.trans ⟨fun q hq => ?_, fun j j1 j2 => ?_⟩)⟩
          · show m 46 3 + m 47 (a * 7 + b) = _
            rw [e3, e47, hc.1, nI_add, ppB_step hfb, SF_or dis]
          · show m 46 4 + m 48 (a * 7 + b) = _
            rw [e4, e48, hc.2, nI_add, ppB_step hfb, SF_or dis]
          · show stM (stM m 46 _) 46 _ q = m q
            rw [stM_ne hq, stM_ne hq]
          · show upd (upd (m 46) 3 _) 4 _ j = m 46 j
            rw [upd_ne j2, upd_ne j1]
      exact inner fd (by omega) (Nat.le_refl _) m e3 e4 hF
  refine key f (by omega) (Nat.le_refl _) _ ?_ ?_ ⟨fun q hq => ?_, fun j j1 j2 => ?_⟩
  · rw [ppB_0, SF_zero]; rfl
  · rw [ppB_0, SF_zero]; rfl
  · show stM (stM s 46 _) 46 _ q = s q
    rw [stM_ne hq, stM_ne hq]
  · show upd (upd (s 46) 3 _) 4 _ j = s 46 j
    rw [upd_ne j2, upd_ne j1]
theorem gcd_s (g x : Nat) : Nat.gcd g x = Nat.gcd x (g % x) := by
  rw [Nat.gcd_comm g x, Nat.gcd_rec x g, Nat.gcd_comm]
theorem S6_cd {l : Launch} {G : GG} {d a b : Nat} (ha : a < 2 ^ 31) (hb : b ≤ 500) (s : Mem) : Spec l G d hX6_commonDivisor [.inl (nI a), .inl (nI b)] s (fun r t => r = nI (Nat.gcd a b) ∧ s = t) := by
  refine spec_of iX6_commonDivisor (by decide +kernel) (Nat.le_of_ble_eq_true rfl) (vX6_commonDivisor_0 ?_)
  have z : ∀ {x : Nat}, x < 2 ^ 31 → (nI x = 0 ↔ x = 0) := fun {x} hx => nI_eq (a := x) (b := 0) hx (by decide)
  have c64 : ∀ {k : Nat}, k < 64 → ¬ (64 : Int32) ≤ nI k := fun {k} h => nI_ge (b := 64) h (by decide)
  have key : ∀ (j g x k : Nat), x ≤ g → 0 < g → g < 2 ^ 31 → g * x < 2 ^ j → k + j ≤ 60 → Nat.gcd g x = Nat.gcd a b →
      AW l G d hX6_commonDivisor 7 [some (.inl (nI a)), some (.inl (nI b)), some (.inl (nI g)), some (.inl (nI x)), some (.inl (nI k)), none] [] s (fun r t => r = nI (Nat.gcd a b) ∧ s = t) := by
    intro j
    induction j with
    | zero =>
      intro g x k hx hg hg2 hm hk he
      have hx0 : x = 0 := by
        rcases Nat.eq_zero_or_pos x with q | q
        · exact q
        · have := Nat.mul_pos hg q
          omega
      subst hx0
      have e : nI g = nI (Nat.gcd a b) := by rw [← he, Nat.gcd_zero_right]
      exact vX6_commonDivisor_7 ⟨fun _ => ⟨e, rfl⟩, fun _ => ⟨fun _ => ⟨e, rfl⟩, fun h => absurd ((z (by omega)).mpr rfl) h⟩⟩
    | succ j ih =>
      intro g x k hx hg hg2 hm hk he
      refine vX6_commonDivisor_7 ⟨fun h => absurd h (c64 (by omega)), fun _ => ⟨fun h => ?_, fun h => ⟨h, ?_⟩⟩⟩
      · have hx0 := (z (by omega)).mp h
        subst hx0
        exact ⟨by rw [← he, Nat.gcd_zero_right], rfl⟩
      · have hx0 : 0 < x := by
          rcases Nat.eq_zero_or_pos x with q | q
          · exact absurd ((z (by omega)).mpr q) h
          · exact q
        rw [pk_rem hg2 hx0 (by omega), nI_1]
        have hlt := Nat.mod_lt g hx0
        refine aw_weak (L := [some (.inl (nI a)), some (.inl (nI b)), some (.inl (nI x)), some (.inl (nI (g % x))), some (.inl (nI (k + 1))), none]) ⟨rfl, rfl, rfl, rfl, rfl, trivial⟩ (ih x (g % x) (k + 1) (by omega) hx0 (by omega) ?_ (by omega) (by rw [← gcd_s]; exact he))
        have h5 : x + g % x ≤ g := by
          have := Nat.mod_add_div g x
          have h6 : 1 ≤ g / x := Nat.div_pos hx hx0
          have h7 : x * 1 ≤ x * (g / x) := Nat.mul_le_mul_left x h6
          omega
        have h8 : (x + g % x) * x ≤ g * x := Nat.mul_le_mul_right x h5
        have h9 : (g % x) * x ≤ x * x := Nat.mul_le_mul_right x (by omega)
        rw [Nat.add_mul] at h8
        have h10 : x * (g % x) = (g % x) * x := Nat.mul_comm _ _
        rw [Nat.pow_succ] at hm
        omega
  refine vX6_commonDivisor_7 ⟨fun h => absurd h (c64 (k := 0) (by decide)), fun _ => ⟨fun h => ?_, fun h => ⟨h, ?_⟩⟩⟩
  · have hb0 := (z (by omega)).mp h
    subst hb0
    exact ⟨by rw [Nat.gcd_zero_right], rfl⟩
  · have hb0 : 0 < b := by
      rcases Nat.eq_zero_or_pos b with q | q
      · exact absurd ((z (by omega)).mpr q) h
      · exact q
    rw [pk_rem ha hb0 (by omega)]
    have hlt := Nat.mod_lt a hb0
    refine aw_weak (L := [some (.inl (nI a)), some (.inl (nI b)), some (.inl (nI b)), some (.inl (nI (a % b))), some (.inl (nI (0 + 1))), none]) ⟨rfl, rfl, rfl, rfl, rfl, trivial⟩ (key 18 b (a % b) (0 + 1) (by omega) hb0 (by omega) ?_ (by omega) (gcd_s a b).symm)
    have h1 : b * (a % b) ≤ b * 500 := Nat.mul_le_mul_left b (by omega)
    have h2 : b * 500 ≤ 500 * 500 := Nat.mul_le_mul_right 500 hb
    omega
end
section
/-! ===== what is foretold, the class's way ===== -/
theorem TLc_fr {s t : Mem} {N : Nat} {tw dy sm : Nat → Nat} (h : TLc s N tw dy sm) (hF : FrT s t) : TLc t N tw dy sm := by
  intro a b ha hb
  rw [hF.1 47 (by decide), hF.1 48 (by decide)]
  exact h a b ha hb
def RRl (tw dy : Nat → Nat) (a b : Nat) : Nat → Nat → Bool
  | 0 => rect tw dy a a b b
  | 1 => rect tw dy a a 0 6
  | 2 => rect tw dy 0 7 b b
  | _ => rect tw dy 0 7 0 6
def pick (c : Nat → Nat) : Nat := if ¬ c 0 = 0 then 0 else if ¬ c 1 = 0 then 1 else if ¬ c 2 = 0 then 2 else 3
def fAb (S C : Nat) : Nat := S / Nat.gcd S C
def fBe (S C : Nat) : Nat := if Nat.gcd S C = 0 then 1 else C / Nat.gcd S C
theorem S6_reduce {l : Launch} {G : GG} {d S C : Nat} (hd : 1 ≤ d) (hS : S < 2 ^ 31) (hC : C ≤ 500) {s : Mem} (e3 : s 46 3 = nI S) (e4 : s 46 4 = nI C) : Spec l G d hX6_reduce [.inr 46] s (fun _ t => t 46 3 = nI (fAb S C) ∧ t 46 4 = nI (fBe S C) ∧ FrT s t) := by
  refine spec_of iX6_reduce (by decide +kernel) (Nat.le_of_ble_eq_true rfl) (vX6_reduce_0 ?_)
  rw [e3, e4]
  refine ⟨d - 1, _, by omega, S6_cd hS hC s, ?_⟩
  rintro _ _ ⟨rfl, rfl⟩
  have hg : Nat.gcd S C < 2 ^ 31 := by
    rcases Nat.eq_zero_or_pos C with q | q
    · subst q; rw [Nat.gcd_zero_right]; exact hS
    · have := Nat.gcd_le_right S q
      omega
  refine ⟨fun h => ?_, fun h => ?_⟩
  · have h0 : Nat.gcd S C = 0 := by
      rcases Nat.eq_zero_or_pos (Nat.gcd S C) with q | q
      · exact q
      · exact absurd h (nI_nle q hg)
    refine ⟨?_, ?_, fun q hq => ?_, fun j j1 j2 => ?_⟩
    · show s 46 3 = _
      rw [e3]
      have hS0 : S = 0 := Nat.eq_zero_of_gcd_eq_zero_left h0
      unfold fAb
      rw [hS0, Nat.zero_div]
    · show (1 : Int32) = _
      unfold fBe
      rw [if_pos h0]
      rfl
    · show stM s 46 _ q = s q
      rw [stM_ne hq]
    · show upd (s 46) 4 _ j = s 46 j
      rw [upd_ne j2]
  · have h0 : 0 < Nat.gcd S C := by
      rcases Nat.eq_zero_or_pos (Nat.gcd S C) with q | q
      · rw [q] at h; exact absurd (by decide) h
      · exact q
    have hne : ¬ nI (Nat.gcd S C) = 0 := nI_ne0 h0 hg
    refine ⟨hne, hne, ?_, ?_, fun q hq => ?_, fun j j1 j2 => ?_⟩
    · show s 46 3 / nI (Nat.gcd S C) = _
      rw [e3, pk_div hS h0 hg]
      rfl
    · show s 46 4 / nI (Nat.gcd S C) = _
      rw [e4, pk_div (by omega) h0 hg]
      unfold fBe
      rw [if_neg (by omega)]
    · show stM (stM s 46 _) 46 _ q = s q
      rw [stM_ne hq, stM_ne hq]
    · show upd (upd (s 46) 3 _) 4 _ j = s 46 j
      rw [upd_ne j2, upd_ne j1]
theorem S6_foretell {l : Launch} {G : GG} {d a b N : Nat} (hd : 2 ≤ d) (ha : a < 8) (hb : b < 7) (hN : N ≤ 500) {tw dy sm : Nat → Nat} (hsm : ∀ i, i < N → sm i ≤ 1000000) {s : Mem} (hT : TLc s N tw dy sm) : Spec l G d hX6_foretell [.inr 46, .inl (nI a), .inl (nI b)] s (fun _ t => t 46 3 = nI (fAb (SF (RRl tw dy a b (pick (fun k => SF (RRl tw dy a b k) (fun _ => 1) N))) sm N) (SF (RRl tw dy a b (pick (fun k => SF (RRl tw dy a b k) (fun _ => 1) N))) (fun _ => 1) N)) ∧ t 46 4 = nI (fBe (SF (RRl tw dy a b (pick (fun k => SF (RRl tw dy a b k) (fun _ => 1) N))) sm N) (SF (RRl tw dy a b (pick (fun k => SF (RRl tw dy a b k) (fun _ => 1) N))) (fun _ => 1) N)) ∧ FrT s t) := by
  refine spec_of iX6_foretell (by decide +kernel) (Nat.le_of_ble_eq_true rfl) (vX6_foretell_0 ?_)
  have hS : ∀ p, SF p sm N < 2 ^ 31 := fun p => by
    have := SF_le (p := p) hsm
    have h2 : N * 1000000 ≤ 500 * 1000000 := Nat.mul_le_mul_right _ hN
    omega
  have hC : ∀ p, SF p (fun _ => 1) N ≤ 500 := fun p => by
    have := SF_le (p := p) (f := fun _ => 1) (c := 1) (n := N) (fun _ _ => Nat.le_refl 1)
    omega
  have z : ∀ p, nI (SF p (fun _ => 1) N) = 0 ↔ SF p (fun _ => 1) N = 0 := fun p => nI_eq (b := 0) (by have := hC p; omega) (by decide)
  have g0 : ∀ {m : Mem}, TLc m N tw dy sm → Spec l G (d - 1) hX6_gather [.inr 46, .inl (nI a), .inl (nI a), .inl (nI b), .inl (nI b)] m (fun _ t => t 46 3 = nI (SF (RRl tw dy a b 0) sm N) ∧ t 46 4 = nI (SF (RRl tw dy a b 0) (fun _ => 1) N) ∧ FrT m t) := fun h => S6_gather h (Nat.le_refl _) ha (Nat.le_refl _) hb
  have g1 : ∀ {m : Mem}, TLc m N tw dy sm → Spec l G (d - 1) hX6_gather [.inr 46, .inl (nI a), .inl (nI a), .inl (0 : Int32), .inl (6 : Int32)] m (fun _ t => t 46 3 = nI (SF (RRl tw dy a b 1) sm N) ∧ t 46 4 = nI (SF (RRl tw dy a b 1) (fun _ => 1) N) ∧ FrT m t) := fun h => S6_gather (fd := 0) (ld := 6) h (Nat.le_refl _) ha (by omega) (by omega)
  have g2 : ∀ {m : Mem}, TLc m N tw dy sm → Spec l G (d - 1) hX6_gather [.inr 46, .inl (0 : Int32), .inl (7 : Int32), .inl (nI b), .inl (nI b)] m (fun _ t => t 46 3 = nI (SF (RRl tw dy a b 2) sm N) ∧ t 46 4 = nI (SF (RRl tw dy a b 2) (fun _ => 1) N) ∧ FrT m t) := fun h => S6_gather (f := 0) (g := 7) h (by omega) (by omega) (Nat.le_refl _) hb
  have g3 : ∀ {m : Mem}, TLc m N tw dy sm → Spec l G (d - 1) hX6_gather [.inr 46, .inl (0 : Int32), .inl (7 : Int32), .inl (0 : Int32), .inl (6 : Int32)] m (fun _ t => t 46 3 = nI (SF (RRl tw dy a b 3) sm N) ∧ t 46 4 = nI (SF (RRl tw dy a b 3) (fun _ => 1) N) ∧ FrT m t) := fun h => S6_gather (f := 0) (g := 7) (fd := 0) (ld := 6) h (by omega) (by omega) (by omega) (by omega)
  have fin : ∀ (k : Nat) (m : Mem), pick (fun k => SF (RRl tw dy a b k) (fun _ => 1) N) = k → m 46 3 = nI (SF (RRl tw dy a b k) sm N) → m 46 4 = nI (SF (RRl tw dy a b k) (fun _ => 1) N) → FrT s m →
      Spec l G (d - 1) hX6_reduce [.inr 46] m (fun _ t => t 46 3 = nI (fAb (SF (RRl tw dy a b (pick (fun k => SF (RRl tw dy a b k) (fun _ => 1) N))) sm N) (SF (RRl tw dy a b (pick (fun k => SF (RRl tw dy a b k) (fun _ => 1) N))) (fun _ => 1) N)) ∧ t 46 4 = nI (fBe (SF (RRl tw dy a b (pick (fun k => SF (RRl tw dy a b k) (fun _ => 1) N))) sm N) (SF (RRl tw dy a b (pick (fun k => SF (RRl tw dy a b k) (fun _ => 1) N))) (fun _ => 1) N)) ∧ FrT s t) := by
    intro k m hk e3 e4 hF
    rw [hk]
    exact spec_post (fun r t h => ⟨h.1, h.2.1, hF.trans h.2.2⟩) (S6_reduce (by omega) (hS _) (hC _) e3 e4)
  refine ⟨d - 1, _, by omega, g0 hT, ?_⟩
  rintro _ m0 ⟨p3, p4, pF⟩
  have hT0 := TLc_fr hT pF
  rw [p4, z]
  have tail2 : ∀ (m : Mem), TLc m N tw dy sm → FrT s m → SF (RRl tw dy a b 0) (fun _ => 1) N = 0 → SF (RRl tw dy a b 1) (fun _ => 1) N = 0 → True := fun _ _ _ _ _ => trivial
  refine ⟨fun h0 => ⟨fun _ => ⟨fun _ => ⟨d - 1, _, by omega, fin 0 m0 (by simp [pick, h0]) p3 p4 pF, fun _ _ q => q⟩, fun h => absurd h h0⟩, fun h => absurd h h0⟩, fun h0 => ?_⟩
  refine ⟨d - 1, _, by omega, g1 hT0, ?_⟩
  rintro _ m1 ⟨q3, q4, qF⟩
  have hF1 := pF.trans qF
  have hT1 := TLc_fr hT hF1
  rw [q4, z]
  refine ⟨fun h1 => ⟨fun _ => ⟨d - 1, _, by omega, fin 1 m1 (by simp [pick, h0, h1]) q3 q4 hF1, fun _ _ q => q⟩, fun h => absurd h h1⟩, fun h1 => ?_⟩
  refine ⟨d - 1, _, by omega, g2 hT1, ?_⟩
  rintro _ m2 ⟨u3, u4, uF⟩
  have hF2 := hF1.trans uF
  have hT2 := TLc_fr hT hF2
  rw [u4, z]
  refine ⟨fun h2 => ⟨d - 1, _, by omega, fin 2 m2 (by simp [pick, h0, h1, h2]) u3 u4 hF2, fun _ _ q => q⟩, fun h2 => ?_⟩
  refine ⟨d - 1, _, by omega, g3 hT2, ?_⟩
  rintro _ m3 ⟨w3, w4, wF⟩
  exact ⟨d - 1, _, by omega, fin 3 m3 (by simp [pick, h0, h1, h2]) w3 w4 (hF2.trans wF), fun _ _ q => q⟩
end
section
/-! ===== what is foretold: the question, class and model ===== -/
abbrev pkL (tw dy : Nat → Nat) (a b N : Nat) : Nat → Bool := RRl tw dy a b (pick (fun k => SF (RRl tw dy a b k) (fun _ => 1) N))
def fQ (tw dy sm : Nat → Nat) (a b N : Nat) (w r : Int32) : Prop := (w = 0 ∧ r = nI (fAb (SF (pkL tw dy a b N) sm N) (SF (pkL tw dy a b N) (fun _ => 1) N))) ∨ (w = 1 ∧ r = nI (fBe (SF (pkL tw dy a b N) sm N) (SF (pkL tw dy a b N) (fun _ => 1) N)))
theorem fQ_det {tw dy sm : Nat → Nat} {a b N : Nat} {w r r' : Int32} (h : fQ tw dy sm a b N w r) (h' : fQ tw dy sm a b N w r') : r = r' := by
  rcases h with ⟨h1, h2⟩ | ⟨h1, h2⟩ <;> rcases h' with ⟨h3, h4⟩ | ⟨h3, h4⟩
  · rw [h2, h4]
  · rw [h1] at h3; exact absurd h3 (by decide)
  · rw [h1] at h3; exact absurd h3 (by decide)
  · rw [h2, h4]
def foP (k : Nat) (x y w : Int32) : Prop := (∃ j, j < k ∧ x = nI j) ∧ (0 ≤ y ∧ y ≤ 6) ∧ 0 ≤ w ∧ w ≤ 1
theorem w01 {w : Int32} (h0 : 0 ≤ w) (h1 : w ≤ 1) : w = 0 ∨ w = 1 := by grind
theorem S7_foretold {l : Launch} {G : GG} {d k N : Nat} (hd : 3 ≤ d) (hk : k ≤ 8) (hN : N ≤ 500) {tw dy sm : Nat → Nat} (hsm : ∀ i, i < N → sm i ≤ 1000000) (x y w : Int32) {s : Mem} (hs : s 33 0 = nI k) (hT : TLc s N tw dy sm) : Spec l G d hX7_foretold [.inr 0, .inl x, .inl y, .inl w] s (fun r t => (¬ foP k x y w ∧ r = -1 ∧ s = t) ∨ (∃ a b, a < k ∧ b < 7 ∧ x = nI a ∧ y = nI b ∧ fQ tw dy sm a b N w r ∧ FrT s t)) := by
  refine spec_of iX7_foretold (by decide +kernel) (Nat.le_of_ble_eq_true rfl) (vX7_foretold_0 ?_)
  refine ⟨d - 1, _, by omega, S3_has (by omega) hk x hs, ?_⟩
  rintro r1 _ ⟨hr, rfl⟩
  rcases hr with ⟨rfl, a, ha, rfl⟩ | ⟨rfl, hno⟩
  · refine ⟨fun h => absurd h (by decide), fun _ => ?_⟩
    refine ⟨d - 1, _, by omega, S_isIn _ _ _, ?_⟩
    rintro _ _ ⟨rfl, rfl⟩
    rw [i01]
    unfold foP
    refine ⟨fun h => Or.inl ⟨by grind, rfl, rfl⟩, fun h => ⟨fun h2 => Or.inl ⟨by grind, rfl, rfl⟩, fun h2 => ⟨fun h3 => ?_, fun h3 => Or.inl ⟨by grind, rfl, rfl⟩⟩⟩⟩
    obtain ⟨b, hb, rfl⟩ := in7 (x := y) (by grind) (by grind)
    refine ⟨d - 1, _, by omega, S6_foretell (by omega) (by omega) hb hN hsm hT, ?_⟩
    rintro _ t ⟨e3, e4, hF⟩
    have hw := w01 (w := w) (by grind) h3
    refine ⟨fun q => Or.inr ⟨a, b, ha, hb, rfl, rfl, Or.inr ⟨hw.resolve_left q, e4⟩, hF⟩, fun q => Or.inr ⟨a, b, ha, hb, rfl, rfl, Or.inl ⟨q, e3⟩, hF⟩⟩
  · exact ⟨fun _ => Or.inl ⟨fun q => hno q.1, rfl, rfl⟩, fun h => absurd rfl h⟩
theorem SF_c0 {p : Nat → Bool} {f : Nat → Nat} : ∀ {n : Nat}, SF p (fun _ => 1) n = 0 → SF p f n = 0
  | 0, _ => rfl
  | n + 1, h => by
    simp only [SF] at h ⊢
    have h1 : SF p (fun _ => 1) n = 0 := by omega
    rw [SF_c0 h1]
    split at h
    · omega
    · rename_i hp
      simp [hp]
theorem RRl_at {tw dy : Nat → Nat} {a b i : Nat} (h1 : tw i < 8) (h2 : dy i < 7) : RRl tw dy a b 0 i = (tw i == a && dy i == b) ∧ RRl tw dy a b 1 i = (tw i == a) ∧ RRl tw dy a b 2 i = (dy i == b) ∧ RRl tw dy a b 3 i = true := by
  refine ⟨?_, ?_, ?_, ?_⟩ <;> (simp only [RRl, rect]; grind)
theorem S8_foretold {l : Launch} {G : GG} {d k N : Nat} (hd : 2 ≤ d) (hk : k ≤ 8) (hN : N ≤ 500) {tw dy sm : Nat → Nat} (x y w : Int32) {s : Mem} (hs : s 49 11 = nI k) (hs2 : s 49 17 = nI N)
    (hM : ∀ i, i < N → tw i < 8 ∧ dy i < 7 ∧ sm i ≤ 1000000 ∧ s 65 i = nI (tw i) ∧ s 66 i = nI (dy i) ∧ s 67 i = nI (sm i)) : Spec l G d hX8_foretold [.inr 49, .inl x, .inl y, .inl w] s (fun r t => (¬ foP k x y w ∧ r = -1 ∧ s = t) ∨ (∃ a b, a < k ∧ b < 7 ∧ x = nI a ∧ y = nI b ∧ fQ tw dy sm a b N w r ∧ s = t)) := by
  refine spec_of iX8_foretold (by decide +kernel) (Nat.le_of_ble_eq_true rfl) (vX8_foretold_0 ?_)
  refine ⟨d - 1, _, by omega, S8_isTown (by omega) hk x hs, ?_⟩
  rintro r1 _ ⟨hr, rfl⟩
  rcases hr with ⟨rfl, a, ha, rfl⟩ | ⟨rfl, hno⟩
  rotate_left
  · exact ⟨fun _ => Or.inl ⟨fun q => hno q.1, rfl, rfl⟩, fun h => absurd rfl h⟩
  refine ⟨fun h => absurd h (by decide), fun _ => ?_⟩
  refine ⟨d - 1, _, by omega, S_in _ _ _ _, ?_⟩
  rintro _ _ ⟨rfl, rfl⟩
  rw [i01]
  refine ⟨fun h => Or.inl ⟨fun q => h q.2.1, rfl, rfl⟩, fun h => ?_⟩
  refine ⟨d - 1, _, by omega, S_in _ _ _ _, ?_⟩
  rintro _ _ ⟨rfl, rfl⟩
  rw [i01]
  refine ⟨fun h2 => ?_, fun h2 => Or.inl ⟨fun q => h2 q.2.2, rfl, rfl⟩⟩
  obtain ⟨b, hb, rfl⟩ := in7 (x := y) (by grind) (by grind)
  have hw := w01 (w := w) (by grind) (by grind)
  have hS : ∀ p, SF p sm N < 2 ^ 31 := fun p => by
    have := SF_le (p := p) (fun i hi => (hM i hi).2.2.1)
    have h3 : N * 1000000 ≤ 500 * 1000000 := Nat.mul_le_mul_right _ hN
    omega
  have hC : ∀ p n, n ≤ N → SF p (fun _ => 1) n ≤ 500 := fun p n hn => by
    have := SF_le (p := p) (f := fun _ => 1) (c := 1) (n := n) (fun _ _ => Nat.le_refl 1)
    omega
  have z : ∀ {x : Nat}, x < 2 ^ 31 → (nI x = 0 ↔ x = 0) := fun {x} hx => nI_eq (a := x) (b := 0) hx (by decide)
  -- Euclid
  have euc : ∀ (S C : Nat), S < 2 ^ 31 → 0 < C → C ≤ 500 → S = SF (pkL tw dy a b N) sm N → C = SF (pkL tw dy a b N) (fun _ => 1) N → ∀ (x g : Nat), g < 2 ^ 31 → x < 2 ^ 31 → Nat.gcd g x = Nat.gcd S C →
      AW l G d hX8_foretold 158 [some (.inr 49), some (.inl (nI a)), some (.inl (nI b)), some (.inl w), some (.inl (nI S)), some (.inl (nI C)), some (.inl (nI g)), some (.inl (nI x)), none] [] s (fun r t => (¬ foP k (nI a) (nI b) w ∧ r = -1 ∧ s = t) ∨ (∃ a' b', a' < k ∧ b' < 7 ∧ nI a = nI a' ∧ nI b = nI b' ∧ fQ tw dy sm a' b' N w r ∧ s = t)) := by
    intro S C hS1 hC0 hC1 eS eC x
    induction x using Nat.strongRecOn with
    | _ x ih =>
      intro g hg hx he
      refine vX8_foretold_158 ⟨fun q => ?_, fun q => ⟨q, ?_⟩⟩
      · have hx0 := (z hx).mp q
        subst hx0
        rw [Nat.gcd_zero_right] at he
        have hgp : 0 < g := by rw [he]; exact Nat.gcd_pos_of_pos_right S hC0
        have hne := nI_ne0 hgp hg
        refine ⟨fun hw1 => ⟨hne, Or.inr ⟨a, b, ha, hb, rfl, rfl, Or.inr ⟨hw.resolve_left hw1, ?_⟩, rfl⟩⟩, fun hw0 => ⟨hne, Or.inr ⟨a, b, ha, hb, rfl, rfl, Or.inl ⟨hw0, ?_⟩, rfl⟩⟩⟩
        · rw [pk_div (by omega) hgp hg, ← eS, ← eC]
          unfold fBe
          rw [if_neg (by omega), ← he]
        · rw [pk_div hS1 hgp hg, ← eS, ← eC]
          unfold fAb
          rw [← he]
      · have hx0 : 0 < x := by
          rcases Nat.eq_zero_or_pos x with p | p
          · exact absurd ((z hx).mpr p) q
          · exact p
        rw [pk_rem hg hx0 hx]
        have hlt := Nat.mod_lt g hx0
        exact aw_weak (L := [some (.inr 49), some (.inl (nI a)), some (.inl (nI b)), some (.inl w), some (.inl (nI S)), some (.inl (nI C)), some (.inl (nI x)), some (.inl (nI (g % x))), none]) ⟨rfl, rfl, rfl, rfl, rfl, rfl, rfl, rfl, trivial⟩ (ih (g % x) hlt x hx (by omega) (by rw [← gcd_s]; exact he))
  -- the levels
  have lev : ∀ j, j ≤ 4 → (∀ i, i < j → SF (RRl tw dy a b i) (fun _ => 1) N = 0) →
      AW l G d hX8_foretold 38 [some (.inr 49), some (.inl (nI a)), some (.inl (nI b)), some (.inl w), some (.inl (nI 0)), some (.inl (nI 0)), some (.inl (nI j)), none, none] [] s (fun r t => (¬ foP k (nI a) (nI b) w ∧ r = -1 ∧ s = t) ∨ (∃ a' b', a' < k ∧ b' < 7 ∧ nI a = nI a' ∧ nI b = nI b' ∧ fQ tw dy sm a' b' N w r ∧ s = t)) := by
    refine down 4 ?_ ?_
    · intro h0
      have e0 := h0 0 (by omega)
      have e1 := h0 1 (by omega)
      have e2 := h0 2 (by omega)
      have e3 := h0 3 (by omega)
      have ep : pick (fun k => SF (RRl tw dy a b k) (fun _ => 1) N) = 3 := by simp [pick, e0, e1, e2]
      have fin : fQ tw dy sm a b N w w := by
        unfold fQ pkL
        rw [ep, e3, SF_c0 e3]
        rcases hw with q | q
        · exact Or.inl ⟨q, by rw [q]; rfl⟩
        · exact Or.inr ⟨q, by rw [q]; rfl⟩
      exact vX8_foretold_38 ⟨fun _ => ⟨fun q => absurd rfl q, fun _ => Or.inr ⟨a, b, ha, hb, rfl, rfl, fin, rfl⟩⟩, fun q => absurd (by decide) q⟩
    · intro j hj ih h0
      have c4 : ¬ (4 : Int32) ≤ nI j := nI_ge (b := 4) hj (by decide)
      refine vX8_foretold_38 ⟨fun q => absurd q c4, fun _ => ⟨fun q => absurd rfl q, fun _ => ?_⟩⟩
      have inner : ∀ n, n ≤ N → AW l G d hX8_foretold 52 [some (.inr 49), some (.inl (nI a)), some (.inl (nI b)), some (.inl w), some (.inl (nI (SF (RRl tw dy a b j) sm n))), some (.inl (nI (SF (RRl tw dy a b j) (fun _ => 1) n))), some (.inl (nI j)), some (.inl (nI n)), none] [] s (fun r t => (¬ foP k (nI a) (nI b) w ∧ r = -1 ∧ s = t) ∨ (∃ a' b', a' < k ∧ b' < 7 ∧ nI a = nI a' ∧ nI b = nI b' ∧ fQ tw dy sm a' b' N w r ∧ s = t)) := by
        refine down N ?_ ?_
        · refine vX8_foretold_52 ⟨fun _ => ?_, fun q => absurd (by rw [hs2]; exact nI_le (Nat.le_refl N) (by omega)) q⟩
          rw [nI_1]
          refine aw_weak (L := [some (.inr 49), some (.inl (nI a)), some (.inl (nI b)), some (.inl w), some (.inl (nI (SF (RRl tw dy a b j) sm N))), some (.inl (nI (SF (RRl tw dy a b j) (fun _ => 1) N))), some (.inl (nI (j + 1))), none, none]) ⟨rfl, rfl, rfl, rfl, rfl, rfl, rfl, trivial⟩ ?_
          by_cases hc : SF (RRl tw dy a b j) (fun _ => 1) N = 0
          · rw [SF_c0 hc, hc]
            refine ih (fun i hi => ?_)
            by_cases hij : i = j
            · rw [hij]; exact hc
            · exact h0 i (by omega)
          · have ep : pick (fun k => SF (RRl tw dy a b k) (fun _ => 1) N) = j := by
              unfold pick
              rcases (show j = 0 ∨ j = 1 ∨ j = 2 ∨ j = 3 by omega) with e | e | e | e
              · subst e; rw [if_pos hc]
              · subst e; rw [if_neg (fun q => q (h0 0 (by omega))), if_pos hc]
              · subst e; rw [if_neg (fun q => q (h0 0 (by omega))), if_neg (fun q => q (h0 1 (by omega))), if_pos hc]
              · subst e; rw [if_neg (fun q => q (h0 0 (by omega))), if_neg (fun q => q (h0 1 (by omega))), if_neg (fun q => q (h0 2 (by omega)))]
            have hC5 := hC (RRl tw dy a b j) N (Nat.le_refl _)
            have hne : ¬ nI (SF (RRl tw dy a b j) (fun _ => 1) N) = 0 := fun q => hc ((z (by omega)).mp q)
            have go := euc (SF (RRl tw dy a b j) sm N) (SF (RRl tw dy a b j) (fun _ => 1) N) (hS _) (by omega) hC5 (by unfold pkL; rw [ep]) (by unfold pkL; rw [ep]) _ _ (hS _) (by omega) rfl
            exact vX8_foretold_38 ⟨fun _ => ⟨fun _ => go, fun q => absurd q hne⟩, fun _ => ⟨fun _ => ⟨fun _ => go, fun q => absurd q hne⟩, fun q => absurd q hne⟩⟩
        · intro n hn ih2
          obtain ⟨t1, t2, t3, t4, t5, t6⟩ := hM n hn
          have hR := RRl_at (a := a) (b := b) t1 t2
          have hv : vp_in (nI n) 500 := vp_in_nI (by omega) (by decide)
          have hcn : (nI n).toNatClampNeg = n := nI_clamp (by omega)
          refine vX8_foretold_52 ⟨fun q => absurd q (by rw [hs2]; exact nI_ge hn (by omega)), fun _ => ?_⟩
          rw [hcn, t4, t5, t6, nI_1, nI_1, nI_add]
          have yes : RRl tw dy a b j n = true → ∀ v : Option Vl, AW l G d hX8_foretold 52 [some (.inr 49), some (.inl (nI a)), some (.inl (nI b)), some (.inl w), some (.inl (nI (SF (RRl tw dy a b j) sm n + sm n))), some (.inl (nI (SF (RRl tw dy a b j) (fun _ => 1) n + 1))), some (.inl (nI j)), some (.inl (nI (n + 1))), v] [] s (fun r t => (¬ foP k (nI a) (nI b) w ∧ r = -1 ∧ s = t) ∨ (∃ a' b', a' < k ∧ b' < 7 ∧ nI a = nI a' ∧ nI b = nI b' ∧ fQ tw dy sm a' b' N w r ∧ s = t)) := by
            intro hp v
            have e1 : SF (RRl tw dy a b j) sm (n + 1) = SF (RRl tw dy a b j) sm n + sm n := by simp [SF, hp]
            have e2 : SF (RRl tw dy a b j) (fun _ => 1) (n + 1) = SF (RRl tw dy a b j) (fun _ => 1) n + 1 := by simp [SF, hp]
            rw [e1, e2] at ih2
            exact aw_weak (L := [some (.inr 49), some (.inl (nI a)), some (.inl (nI b)), some (.inl w), some (.inl (nI (SF (RRl tw dy a b j) sm n + sm n))), some (.inl (nI (SF (RRl tw dy a b j) (fun _ => 1) n + 1))), some (.inl (nI j)), some (.inl (nI (n + 1))), none]) ⟨rfl, rfl, rfl, rfl, rfl, rfl, rfl, rfl, trivial⟩ ih2
          have no : RRl tw dy a b j n = false → ∀ v : Option Vl, AW l G d hX8_foretold 52 [some (.inr 49), some (.inl (nI a)), some (.inl (nI b)), some (.inl w), some (.inl (nI (SF (RRl tw dy a b j) sm n))), some (.inl (nI (SF (RRl tw dy a b j) (fun _ => 1) n))), some (.inl (nI j)), some (.inl (nI (n + 1))), v] [] s (fun r t => (¬ foP k (nI a) (nI b) w ∧ r = -1 ∧ s = t) ∨ (∃ a' b', a' < k ∧ b' < 7 ∧ nI a = nI a' ∧ nI b = nI b' ∧ fQ tw dy sm a' b' N w r ∧ s = t)) := by
            intro hp v
            have e1 : SF (RRl tw dy a b j) sm (n + 1) = SF (RRl tw dy a b j) sm n := by simp [SF, hp]
            have e2 : SF (RRl tw dy a b j) (fun _ => 1) (n + 1) = SF (RRl tw dy a b j) (fun _ => 1) n := by simp [SF, hp]
            rw [e1, e2] at ih2
            exact aw_weak (L := [some (.inr 49), some (.inl (nI a)), some (.inl (nI b)), some (.inl w), some (.inl (nI (SF (RRl tw dy a b j) sm n))), some (.inl (nI (SF (RRl tw dy a b j) (fun _ => 1) n))), some (.inl (nI j)), some (.inl (nI (n + 1))), none]) ⟨rfl, rfl, rfl, rfl, rfl, rfl, rfl, rfl, trivial⟩ ih2
          have ea : nI (tw n) = nI a ↔ tw n = a := nI_eq (by omega) (by omega)
          have eb : nI (dy n) = nI b ↔ dy n = b := nI_eq (by omega) (by omega)
          rw [ea, eb]
          rcases (show j = 0 ∨ j = 1 ∨ j = 2 ∨ j = 3 by omega) with e | e | e | e
          · subst e
            rw [hR.1] at yes no
            exact ⟨fun q => absurd q (by decide), fun _ => ⟨hv, fun h1 => ⟨fun q => absurd rfl q, fun _ => no (by simp [h1]) _⟩, fun h1 => ⟨fun q => absurd q (by decide), fun _ => ⟨fun q => absurd q (by decide), fun _ => ⟨hv, fun h2 => ⟨fun q => absurd rfl q, fun _ => no (by simp [h2]) _⟩, fun h2 => ⟨fun _ => ⟨hv, yes (by simp [h1, h2]) _⟩, fun q => absurd q (by decide)⟩⟩⟩⟩⟩⟩
          · subst e
            rw [hR.2.1] at yes no
            exact ⟨fun q => absurd q (by decide), fun _ => ⟨hv, fun h1 => ⟨fun q => absurd rfl q, fun _ => no (by simp [h1]) _⟩, fun h1 => ⟨fun _ => ⟨fun _ => ⟨hv, yes (by simp [h1]) _⟩, fun q => absurd q (by decide)⟩, fun q => absurd rfl q⟩⟩⟩
          · subst e
            rw [hR.2.2.1] at yes no
            exact ⟨fun _ => ⟨fun q => absurd q (by decide), fun _ => ⟨fun q => absurd q (by decide), fun _ => ⟨hv, fun h2 => ⟨fun q => absurd rfl q, fun _ => no (by simp [h2]) _⟩, fun h2 => ⟨fun _ => ⟨hv, yes (by simp [h2]) _⟩, fun q => absurd q (by decide)⟩⟩⟩⟩, fun q => absurd (by decide) q⟩
          · subst e
            rw [hR.2.2.2] at yes no
            exact ⟨fun _ => ⟨fun q => absurd q (by decide), fun _ => ⟨fun _ => ⟨fun _ => ⟨hv, yes rfl _⟩, fun q => absurd q (by decide)⟩, fun q => absurd rfl q⟩⟩, fun q => absurd (by decide) q⟩
      exact inner 0 (Nat.zero_le _)
  exact lev 0 (by omega) (fun i hi => by omega)
end
section
/-! ===== the tent's changes through the face; counts ===== -/
theorem S7_load {l : Launch} {G : GG} {d : Nat} (hd : 2 ≤ d) (p v : Int32) (s : Mem) : Spec l G d hX7_load [.inr 0, .inl p, .inl v] s (fun r t => (r = 1 ∧ (0 ≤ p ∧ p ≤ 7 ∧ 0 ≤ v ∧ v ≤ 10000) ∧ t = wrM s 27 p.toNatClampNeg v) ∨ (r = 0 ∧ ¬ (0 ≤ p ∧ p ≤ 7 ∧ 0 ≤ v ∧ v ≤ 10000) ∧ t = s)) := by
  refine spec_of iX7_load (by decide +kernel) (Nat.le_of_ble_eq_true rfl) (vX7_load_0 ?_)
  refine ⟨d - 1, _, by omega, S_setLoad (by omega) p v s, fun r t h => ⟨?_, h⟩⟩
  rcases h with ⟨rfl, _⟩ | ⟨rfl, _⟩
  · exact Or.inr rfl
  · exact Or.inl rfl
theorem S7_exposed {l : Launch} {G : GG} {d : Nat} (hd : 2 ≤ d) (p v : Int32) (s : Mem) : Spec l G d hX7_exposed [.inr 0, .inl p, .inl v] s (fun r t => (r = 1 ∧ (0 ≤ p ∧ p ≤ 7 ∧ -9 ≤ v ∧ v ≤ 9) ∧ t = wrM s 29 p.toNatClampNeg v) ∨ (r = 0 ∧ ¬ (0 ≤ p ∧ p ≤ 7 ∧ -9 ≤ v ∧ v ≤ 9) ∧ t = s)) := by
  refine spec_of iX7_exposed (by decide +kernel) (Nat.le_of_ble_eq_true rfl) (vX7_exposed_0 ?_)
  refine ⟨d - 1, _, by omega, S_setExposed (by omega) p v s, fun r t h => ⟨?_, h⟩⟩
  rcases h with ⟨rfl, _⟩ | ⟨rfl, _⟩
  · exact Or.inr rfl
  · exact Or.inl rfl
theorem S7_share {l : Launch} {G : GG} {d : Nat} (hd : 2 ≤ d) (p q v : Int32) (s : Mem) : Spec l G d hX7_share [.inr 0, .inl p, .inl q, .inl v] s (fun r t => (r = 1 ∧ (0 ≤ p ∧ p ≤ 7 ∧ 0 ≤ q ∧ q ≤ 7 ∧ 0 ≤ v ∧ v ≤ 100 ∧ v + sbN (s 28) p.toNatClampNeg q 8 ≤ 100) ∧ t = wrM s 28 (p.toNatClampNeg * 8 + q.toNatClampNeg) v) ∨ (r = 0 ∧ ¬ (0 ≤ p ∧ p ≤ 7 ∧ 0 ≤ q ∧ q ≤ 7 ∧ 0 ≤ v ∧ v ≤ 100 ∧ v + sbN (s 28) p.toNatClampNeg q 8 ≤ 100) ∧ t = s)) := by
  refine spec_of iX7_share (by decide +kernel) (Nat.le_of_ble_eq_true rfl) (vX7_share_0 ?_)
  refine ⟨d - 1, _, by omega, S_setShare (by omega) p q v s, fun r t h => ⟨?_, h⟩⟩
  rcases h with ⟨rfl, _⟩ | ⟨rfl, _⟩
  · exact Or.inr rfl
  · exact Or.inl rfl
def ctB (f : Nat → Bool) : Nat → Nat
  | 0 => 0
  | n + 1 => ctB f n + if f n then 1 else 0
theorem ctB_s0 {f : Nat → Bool} {n : Nat} (h : f n = false) : ctB f (n + 1) = ctB f n := by simp [ctB, h]
theorem ctB_s1 {f : Nat → Bool} {n : Nat} (h : f n = true) : ctB f (n + 1) = ctB f n + 1 := by simp [ctB, h]
theorem ctB_le {f : Nat → Bool} : ∀ n, ctB f n ≤ n
  | 0 => Nat.le_refl _
  | n + 1 => by
    have := ctB_le (f := f) n
    simp only [ctB]
    split <;> omega
theorem ctB_congr {f g : Nat → Bool} : ∀ {n : Nat}, (∀ i, i < n → f i = g i) → ctB f n = ctB g n
  | 0, _ => rfl
  | n + 1, h => by
    simp only [ctB]
    rw [ctB_congr (fun i hi => h i (by omega)), h n (by omega)]
theorem ctB_shift {f : Nat → Bool} : ∀ n, ctB f (n + 1) = (if f 0 then 1 else 0) + ctB (fun i => f (i + 1)) n
  | 0 => by simp [ctB]
  | n + 1 => by
    have ih := ctB_shift (f := f) n
    rw [ctB, ih]
    simp only [ctB]
    omega
theorem ctB_off {f : Nat → Bool} {n : Nat} (h : ∀ i, n ≤ i → f i = false) : ∀ m, ctB f (n + m) = ctB f n
  | 0 => rfl
  | m + 1 => by
    show ctB f (n + m) + (if f (n + m) then 1 else 0) = _
    rw [ctB_off h m, h (n + m) (by omega)]
    simp
/-- bits, written out -/
def ctX (n : Nat) : Nat := Nat.add (Nat.mod n 2) (Nat.add (Nat.mod (Nat.div n 2) 2) (Nat.add (Nat.mod (Nat.div n 4) 2) (Nat.add (Nat.mod (Nat.div n 8) 2) (Nat.add (Nat.mod (Nat.div n 16) 2) (Nat.add (Nat.mod (Nat.div n 32) 2) (Nat.add (Nat.mod (Nat.div n 64) 2) (Nat.add (Nat.mod (Nat.div n 128) 2) (Nat.add (Nat.mod (Nat.div n 256) 2) (Nat.add (Nat.mod (Nat.div n 512) 2) (Nat.add (Nat.mod (Nat.div n 1024) 2) (Nat.add (Nat.mod (Nat.div n 2048) 2) (Nat.add (Nat.mod (Nat.div n 4096) 2) (Nat.add (Nat.mod (Nat.div n 8192) 2) (Nat.add (Nat.mod (Nat.div n 16384) 2) (Nat.mod (Nat.div n 32768) 2)))))))))))))))
theorem ctX_B (n : Nat) : ctX n = ctB n.testBit 16 := by
  have h : ∀ k : Nat, (if n.testBit k then 1 else 0) = n / 2 ^ k % 2 := by
    intro k
    rw [Nat.testBit_eq_decide_div_mod_eq]
    have : n / 2 ^ k % 2 = 0 ∨ n / 2 ^ k % 2 = 1 := by omega
    rcases this with h | h <;> simp [h]
  simp only [ctB, h]
  unfold ctX
  show _ = 0 + n / 1 % 2 + n / 2 % 2 + n / 4 % 2 + n / 8 % 2 + n / 16 % 2 + n / 32 % 2 + n / 64 % 2 + n / 128 % 2 + n / 256 % 2 + n / 512 % 2 + n / 1024 % 2 + n / 2048 % 2 + n / 4096 % 2 + n / 8192 % 2 + n / 16384 % 2 + n / 32768 % 2
  show n % 2 + (n / 2 % 2 + (n / 4 % 2 + (n / 8 % 2 + (n / 16 % 2 + (n / 32 % 2 + (n / 64 % 2 + (n / 128 % 2 + (n / 256 % 2 + (n / 512 % 2 + (n / 1024 % 2 + (n / 2048 % 2 + (n / 4096 % 2 + (n / 8192 % 2 + (n / 16384 % 2 + n / 32768 % 2)))))))))))))) = _
  rw [Nat.div_one]
  omega
def bcI (a0 : Int32) : Int32 :=
  let a1 := a0 - (((a0.toUInt32 >>> ((1 : Int32).toUInt32 &&& Int32.toUInt32 31)).toInt32) &&& (1431655765 : Int32))
  let a2 := (a1 &&& (858993459 : Int32)) + (((a1.toUInt32 >>> ((2 : Int32).toUInt32 &&& Int32.toUInt32 31)).toInt32) &&& (858993459 : Int32))
  let a3 := (a2 + ((a2.toUInt32 >>> ((4 : Int32).toUInt32 &&& Int32.toUInt32 31)).toInt32)) &&& (252645135 : Int32)
  let a4 := a3 + ((a3.toUInt32 >>> ((8 : Int32).toUInt32 &&& Int32.toUInt32 31)).toInt32)
  let a5 := a4 + ((a4.toUInt32 >>> ((16 : Int32).toUInt32 &&& Int32.toUInt32 31)).toInt32)
  a5 &&& (63 : Int32)
def bcN (a0 : Nat) : Nat :=
  (fun a1 => (fun a2 => (fun a3 => (fun a4 => (fun a5 => Nat.land a5 63) (Nat.add a4 (Nat.shiftRight a4 16))) (Nat.add a3 (Nat.shiftRight a3 8))) (Nat.land (Nat.add a2 (Nat.shiftRight a2 4)) 252645135)) (Nat.add (Nat.land a1 858993459) (Nat.land (Nat.shiftRight a1 2) 858993459))) (Nat.sub a0 (Nat.land (Nat.shiftRight a0 1) 1431655765))
theorem bcN_eq (a0 : Nat) : bcN a0 =
  (let a1 := a0 - (Nat.land (Nat.shiftRight a0 1) 1431655765)
  let a2 := Nat.land a1 858993459 + Nat.land (Nat.shiftRight a1 2) 858993459
  let a3 := Nat.land (a2 + Nat.shiftRight a2 4) 252645135
  let a4 := a3 + Nat.shiftRight a3 8
  let a5 := a4 + Nat.shiftRight a4 16
  Nat.land a5 63) := rfl
theorem nI_and (a b : Nat) : nI a &&& nI b = nI (Nat.land a b) := by
  apply b_ext
  intro i hi
  rw [b_and, bt_nI hi, bt_nI hi, bt_nI hi]
  exact (Nat.testBit_and a b i).symm
theorem nI_ushr {a k : Nat} (ha : a < 2 ^ 32) (hk : k < 32) : ((nI a).toUInt32 >>> ((nI k).toUInt32 &&& Int32.toUInt32 31)).toInt32 = nI (Nat.shiftRight a k) := by
  apply b_ext
  intro i hi
  rw [b_ushr k hk, bt_nI hi]
  have e : (Nat.shiftRight a k).testBit i = a.testBit (k + i) := Nat.testBit_shiftRight a
  rw [e]
  rcases Nat.lt_or_ge (k + i) 32 with h | h
  · exact bt_nI h
  · rw [b_big h]
    exact (Nat.testBit_lt_two_pow (Nat.lt_of_lt_of_le ha (Nat.pow_le_pow_right (by decide) h))).symm
theorem shr_le (a k : Nat) : Nat.shiftRight a k ≤ a := by
  have : Nat.shiftRight a k = a / 2 ^ k := Nat.shiftRight_eq_div_pow a k
  rw [this]
  exact Nat.div_le_self _ _
theorem bcI_N {n : Nat} (hn : n < 65536) : bcI (nI n) = nI (bcN n) := by
  rw [bcN_eq]
  unfold bcI
  have h1 : Nat.land (Nat.shiftRight n 1) 1431655765 ≤ n := Nat.le_trans Nat.and_le_left (shr_le _ _)
  have e1 : nI n - (((nI n).toUInt32 >>> ((1 : Int32).toUInt32 &&& Int32.toUInt32 31)).toInt32 &&& (1431655765 : Int32)) = nI (n - Nat.land (Nat.shiftRight n 1) 1431655765) := by
    rw [show (1 : Int32) = nI 1 from rfl, nI_ushr (by omega) (by decide), show (1431655765 : Int32) = nI 1431655765 from rfl, nI_and, pk_sub h1]
  have g1 : n - Nat.land (Nat.shiftRight n 1) 1431655765 < 65536 := by omega
  simp only [e1]
  generalize n - Nat.land (Nat.shiftRight n 1) 1431655765 = m at g1
  have e2 : (nI m &&& (858993459 : Int32)) + (((nI m).toUInt32 >>> ((2 : Int32).toUInt32 &&& Int32.toUInt32 31)).toInt32 &&& (858993459 : Int32)) = nI (Nat.land m 858993459 + Nat.land (Nat.shiftRight m 2) 858993459) := by
    rw [show (2 : Int32) = nI 2 from rfl, nI_ushr (by omega) (by decide), show (858993459 : Int32) = nI 858993459 from rfl, nI_and, nI_and, nI_add]
  have g2 : Nat.land m 858993459 + Nat.land (Nat.shiftRight m 2) 858993459 < 131072 := by
    have q1 : Nat.land m 858993459 ≤ m := Nat.and_le_left
    have q2 : Nat.land (Nat.shiftRight m 2) 858993459 ≤ m := Nat.le_trans Nat.and_le_left (shr_le _ _)
    omega
  simp only [e2]
  generalize Nat.land m 858993459 + Nat.land (Nat.shiftRight m 2) 858993459 = m2 at g2
  have e3 : (nI m2 + ((nI m2).toUInt32 >>> ((4 : Int32).toUInt32 &&& Int32.toUInt32 31)).toInt32) &&& (252645135 : Int32) = nI (Nat.land (m2 + Nat.shiftRight m2 4) 252645135) := by
    rw [show (4 : Int32) = nI 4 from rfl, nI_ushr (by omega) (by decide), nI_add, show (252645135 : Int32) = nI 252645135 from rfl, nI_and]
  have g3 : Nat.land (m2 + Nat.shiftRight m2 4) 252645135 < 262144 := by
    have q1 : Nat.land (m2 + Nat.shiftRight m2 4) 252645135 ≤ m2 + Nat.shiftRight m2 4 := Nat.and_le_left
    have q2 := shr_le m2 4
    omega
  simp only [e3]
  generalize Nat.land (m2 + Nat.shiftRight m2 4) 252645135 = m3 at g3
  have e4 : nI m3 + ((nI m3).toUInt32 >>> ((8 : Int32).toUInt32 &&& Int32.toUInt32 31)).toInt32 = nI (m3 + Nat.shiftRight m3 8) := by
    rw [show (8 : Int32) = nI 8 from rfl, nI_ushr (by omega) (by decide), nI_add]
  have g4 : m3 + Nat.shiftRight m3 8 < 524288 := by
    have q2 := shr_le m3 8
    omega
  simp only [e4]
  generalize m3 + Nat.shiftRight m3 8 = m4 at g4
  rw [show (16 : Int32) = nI 16 from rfl, nI_ushr (by omega) (by decide), nI_add, show (63 : Int32) = nI 63 from rfl, nI_and]
noncomputable def bcChk (b n : Nat) : Bool := Nat.rec true (fun n ih => Bool.rec false ih (Nat.beq (bcN (Nat.add b n)) (ctX (Nat.add b n)))) n
theorem bcChk_at {b : Nat} : ∀ {n : Nat}, bcChk b n = true → ∀ i, i < n → bcN (b + i) = ctX (b + i)
  | 0, _, i, hi => absurd hi (Nat.not_lt_zero i)
  | n + 1, h, i, hi => by
    have h : Bool.rec false (bcChk b n) (Nat.beq (bcN (b + n)) (ctX (b + n))) = true := h
    cases hq : Nat.beq (bcN (b + n)) (ctX (b + n)) with
    | false => rw [hq] at h; cases h
    | true =>
      rw [hq] at h
      by_cases e : i = n
      · subst e; exact Nat.eq_of_beq_eq_true hq
      · exact bcChk_at h i (by omega)
set_option maxRecDepth 100000 in
theorem bc_all : ∀ k, k < 16 → bcChk (Nat.mul k 4096) 4096 = true := by decide +kernel
theorem bcN_ok {n : Nat} (hn : n < 65536) : bcN n = ctB n.testBit 16 := by
  rw [← ctX_B]
  have h := bcChk_at (bc_all (n / 4096) (by omega)) (n % 4096) (Nat.mod_lt _ (by decide))
  rw [show Nat.mul (n / 4096) 4096 + n % 4096 = n from (by show n / 4096 * 4096 + n % 4096 = n; omega)] at h
  exact h
theorem bcI_ok {n : Nat} (hn : n < 65536) : bcI (nI n) = nI (ctB n.testBit 16) := by rw [bcI_N hn, bcN_ok hn]
theorem S_bitCount {l : Launch} {G : GG} {d : Nat} {n : Nat} (hn : n < 65536) (s : Mem) : Spec l G d hJ6_bitCount_0f7a4 [.inl (nI n)] s (fun r t => r = nI (ctB n.testBit 16) ∧ s = t) := by
  refine spec_of iJ6_bitCount_0f7a4 (by decide +kernel) (Nat.le_of_ble_eq_true rfl) (vJ6_bitCount_0f7a4_0 ?_)
  exact ⟨bcI_ok hn, rfl⟩
theorem S5_ropesUp {l : Launch} {G : GG} {d : Nat} (hd : 1 ≤ d) (s : Mem) : Spec l G d hX5_ropesUp [.inr 26] s (fun r t => r = nI (ctB (upB (s 28) (s 29)) 8) ∧ s = t) := by
  refine spec_of iX5_ropesUp (by decide +kernel) (Nat.le_of_ble_eq_true rfl) (vX5_ropesUp_0 ?_)
  refine down0 (A := fun k => AW l G d hX5_ropesUp 4 [some (.inr 26), some (.inl (nI (ctB (upB (s 28) (s 29)) k))), some (.inl (nI k))] [] s (fun r t => r = nI (ctB (upB (s 28) (s 29)) 8) ∧ s = t)) 8 ?_ ?_
  · exact vX5_ropesUp_4 ⟨fun _ => ⟨rfl, rfl⟩, fun h => absurd c8t h⟩
  · intro k hk ih
    refine vX5_ropesUp_4 ⟨fun h => absurd h (c8f hk), fun _ => ⟨d - 1, _, by omega, S_isUp5 hk s, ?_⟩⟩
    rintro _ _ ⟨rfl, rfl⟩
    rw [nI_1, nI_1, ib0]
    refine ⟨fun h => ?_, fun h => ?_⟩
    · rw [ctB_s0 h] at ih
      exact ih
    · rw [ctB_s1 (by simpa using h)] at ih
      exact ih
def cntV (x0 x1 x2 x3 x4 a : Int32) : Int32 := if a.toInt = 0 then x0 else if a.toInt = 1 then x1 else if a.toInt = 2 then x2 else if a.toInt = 3 then x3 else if a.toInt = 4 then x4 else -1
theorem S7_count {l : Launch} {G : GG} {d n : Nat} (hd : 2 ≤ d) (hn : n < 65536) (a : Int32) {s : Mem} (hb : s 1 7 = nI n) : Spec l G d hX7_count [.inr 0, .inl a] s (fun r t => r = cntV (s 1 0) (s 33 0) (nI (ctB n.testBit 16)) (nI (ctB (upB (s 28) (s 29)) 8)) (s 46 0) a ∧ s = t) := by
  refine spec_of iX7_count (by decide +kernel) (Nat.le_of_ble_eq_true rfl) (vX7_count_0 ?_)
  refine ⟨fun h => ⟨?_, rfl⟩, fun h => ⟨?_, rfl⟩, fun h => ⟨?_, rfl⟩, fun h => ⟨d - 1, _, by omega, by rw [hb]; exact S_bitCount hn s, ?_⟩, fun h => ⟨d - 1, _, by omega, S5_ropesUp (by omega) s, ?_⟩, fun h => ⟨?_, rfl⟩, trivial⟩
  · unfold cntV
    rw [if_neg (by omega), if_neg (by omega), if_neg (by omega), if_neg (by omega), if_neg (by omega)]
  · unfold cntV
    rw [if_pos h]
  · unfold cntV
    rw [if_neg (by omega), if_pos (by omega)]
  · rintro _ _ ⟨rfl, rfl⟩
    refine ⟨?_, rfl⟩
    unfold cntV
    rw [if_neg (by omega), if_neg (by omega), if_pos (by omega)]
  · rintro _ _ ⟨rfl, rfl⟩
    refine ⟨?_, rfl⟩
    unfold cntV
    rw [if_neg (by omega), if_neg (by omega), if_neg (by omega), if_pos (by omega)]
  · unfold cntV
    rw [if_neg (by omega), if_neg (by omega), if_neg (by omega), if_neg (by omega), if_pos (by omega)]
theorem S8_count {l : Launch} {G : GG} {d : Nat} (hd : 2 ≤ d) (a : Int32) {s : Mem} : Spec l G d hX8_count [.inr 49, .inl a] s (fun r t => r = cntV (s 49 0) (s 49 11) (nI (ctB (fun k => !decide (s 56 k = 0)) 16)) (nI (ctB (upB (s 58) (s 59)) 8)) (s 49 17) a ∧ s = t) := by
  refine spec_of iX8_count (by decide +kernel) (Nat.le_of_ble_eq_true rfl) (vX8_count_0 ?_)
  refine ⟨fun h => ⟨?_, rfl⟩, fun h => ⟨?_, rfl⟩, fun h => ⟨?_, rfl⟩, fun h => ?_, fun h => ?_, fun h => ⟨?_, rfl⟩, trivial⟩
  · unfold cntV
    rw [if_neg (by omega), if_neg (by omega), if_neg (by omega), if_neg (by omega), if_neg (by omega)]
  · unfold cntV
    rw [if_pos h]
  · unfold cntV
    rw [if_neg (by omega), if_pos (by omega)]
  · have hv : nI (ctB (fun k => !decide (s 56 k = 0)) 16) = cntV (s 49 0) (s 49 11) (nI (ctB (fun k => !decide (s 56 k = 0)) 16)) (nI (ctB (upB (s 58) (s 59)) 8)) (s 49 17) a := by
      unfold cntV
      rw [if_neg (by omega), if_neg (by omega), if_pos (by omega)]
    rw [← hv]
    refine down0 (A := fun k => AW l G d hX8_count 48 [some (.inr 49), some (.inl a), some (.inl (nI (ctB (fun k => !decide (s 56 k = 0)) k))), some (.inl (nI k))] [] s (fun r t => r = nI (ctB (fun k => !decide (s 56 k = 0)) 16) ∧ s = t)) 16 ?_ ?_
    · exact vX8_count_48 ⟨fun _ => ⟨rfl, rfl⟩, fun h => absurd (by decide) h⟩
    · intro k hk ih
      refine vX8_count_48 ⟨fun h => absurd h (nI_ge (b := 16) hk (by decide)), fun _ => ⟨vp_in_nI hk (by decide), ?_⟩⟩
      rw [nI_clamp (by omega), nI_1, nI_1, Int32.add_zero]
      refine ⟨fun h => ?_, fun h => ?_⟩
      · rw [ctB_s0 (by simp [h])] at ih
        exact ih
      · rw [ctB_s1 (by simp [h])] at ih
        exact ih
  · have hv : nI (ctB (upB (s 58) (s 59)) 8) = cntV (s 49 0) (s 49 11) (nI (ctB (fun k => !decide (s 56 k = 0)) 16)) (nI (ctB (upB (s 58) (s 59)) 8)) (s 49 17) a := by
      unfold cntV
      rw [if_neg (by omega), if_neg (by omega), if_neg (by omega), if_pos (by omega)]
    rw [← hv]
    refine down0 (A := fun k => AW l G d hX8_count 81 [some (.inr 49), some (.inl a), some (.inl (nI (ctB (upB (s 58) (s 59)) k))), some (.inl (nI k))] [] s (fun r t => r = nI (ctB (upB (s 58) (s 59)) 8) ∧ s = t)) 8 ?_ ?_
    · exact vX8_count_81 ⟨fun _ => ⟨rfl, rfl⟩, fun h => absurd c8t h⟩
    · intro k hk ih
      refine vX8_count_81 ⟨fun h => absurd h (c8f hk), fun _ => ⟨d - 1, _, by omega, S_isUp8 hk s, ?_⟩⟩
      rintro _ _ ⟨rfl, rfl⟩
      rw [nI_1, nI_1, ib0, Int32.add_zero]
      refine ⟨fun h => ?_, fun h => ?_⟩
      · rw [ctB_s0 h] at ih
        exact ih
      · rw [ctB_s1 (by simpa using h)] at ih
        exact ih
  · unfold cntV
    rw [if_neg (by omega), if_neg (by omega), if_neg (by omega), if_neg (by omega), if_pos (by omega)]
end
section
/-! ===== the least hours: matrices of numbers ===== -/
def fwS (M : Nat → Nat → Nat) (k : Nat) : Nat → Nat → Nat := fun a b => if M a k + M k b < M a b then M a k + M k b else M a b
def fwN (W : Nat → Nat → Nat) : Nat → Nat → Nat → Nat
  | 0 => W
  | k + 1 => fwS (fwN W k) k
def WOk (W : Nat → Nat → Nat) (n : Nat) : Prop := (∀ a, W a a = 0) ∧ (∀ a b, W a b ≤ 1000000) ∧ ∀ a k, n ≤ k → a ≠ k → W a k = 1000000 ∧ W k a = 1000000
theorem WOk.mono {W : Nat → Nat → Nat} {n m : Nat} (h : WOk W n) (hm : n ≤ m) : WOk W m := ⟨h.1, h.2.1, fun a k hk => h.2.2 a k (by omega)⟩
theorem fwS_ok {W : Nat → Nat → Nat} {n k : Nat} (h : WOk W n) (hk : k < n) : WOk (fwS W k) n := by
  obtain ⟨h1, h2, h3⟩ := h
  refine ⟨fun a => ?_, fun a b => ?_, fun a j hj ha => ?_⟩
  · simp only [fwS, h1 a]; split <;> omega
  · have := h2 a b
    simp only [fwS]; split <;> omega
  · have hj1 := (h3 k j hj (by omega))
    have hj2 := h3 a j hj ha
    simp only [fwS, hj1.1, hj1.2, hj2.1, hj2.2]
    constructor <;> (split <;> omega)
theorem fwN_ok {W : Nat → Nat → Nat} {n : Nat} (h : WOk W n) : ∀ k, k ≤ n → WOk (fwN W k) n
  | 0, _ => h
  | k + 1, hk => fwS_ok (fwN_ok h k (by omega)) (by omega)
theorem fwS_iso {W : Nat → Nat → Nat} {n k : Nat} (h : WOk W n) (hk : n ≤ k) : fwS W k = W := by
  obtain ⟨h1, h2, h3⟩ := h
  funext a b
  simp only [fwS]
  have := h2 a b
  by_cases ha : a = k
  · subst ha
    rw [h1 a]
    split <;> omega
  · rw [(h3 a k hk ha).1]
    split <;> omega
theorem fwN_iso {W : Nat → Nat → Nat} {n : Nat} (h : WOk W n) : ∀ m, fwN W (n + m) = fwN W n
  | 0 => rfl
  | m + 1 => by
    show fwS (fwN W (n + m)) (n + m) = _
    rw [fwN_iso h m]
    exact fwS_iso (fwN_ok h n (Nat.le_refl _)) (by omega)
def fB (M : Nat → Nat → Nat) (B : Nat) : Prop := ∀ a b, M a b = 1000000 ∨ M a b ≤ B
theorem fwS_B {M : Nat → Nat → Nat} {B k : Nat} (h : fB M B) (hm : ∀ a b, M a b ≤ 1000000) : fB (fwS M k) (2 * B) := by
  intro a b
  simp only [fwS]
  have h1 := h a b
  have h2 := h a k
  have h3 := h k b
  have h4 := hm a b
  split <;> omega
theorem fwN_B {W : Nat → Nat → Nat} {n : Nat} (h : WOk W n) (hB : fB W 99) : ∀ k, k ≤ n → fB (fwN W k) (99 * 2 ^ k)
  | 0, _ => hB
  | k + 1, hk => by
    have := fwS_B (k := k) (fwN_B h hB k (by omega)) (fwN_ok h k (by omega)).2.1
    rw [show 2 * (99 * 2 ^ k) = 99 * 2 ^ (k + 1) by rw [Nat.pow_succ]; omega] at this
    exact this
theorem fwN_B8 {W : Nat → Nat → Nat} {n : Nat} (hn : n ≤ 8) (h : WOk W n) (hB : fB W 99) {k : Nat} (hk : k ≤ n) : fB (fwN W k) 25344 := by
  intro a b
  have h1 := fwN_B h hB k hk a b
  have h2 : 2 ^ k ≤ 2 ^ 8 := Nat.pow_le_pow_right (by decide) (by omega)
  omega
theorem fw_tri {W : Nat → Nat → Nat} {n : Nat} (h : WOk W n) : ∀ m, m ≤ n → ∀ a b k, k < m → fwN W m a b ≤ fwN W m a k + fwN W m k b
  | 0, _, _, _, k, hk => absurd hk (Nat.not_lt_zero k)
  | m + 1, hm, a, b, k, hk => by
    have ih := fw_tri h m (by omega)
    have h0 := (fwN_ok h m (by omega)).1
    show fwS (fwN W m) m a b ≤ fwS (fwN W m) m a k + fwS (fwN W m) m k b
    generalize fwN W m = M at ih h0
    by_cases hkm : k = m
    · subst hkm
      simp only [fwS, h0 k]
      split <;> split <;> split <;> omega
    · have i1 := ih a b k (by omega)
      have i2 := ih m b k (by omega)
      have i3 := ih a m k (by omega)
      simp only [fwS]
      split <;> split <;> split <;> omega
theorem fw_tri8 {W : Nat → Nat → Nat} (h : WOk W 8) {a b k : Nat} (hk : k < 8) : fwN W 8 a b ≤ fwN W 8 a k + fwN W 8 k b := fw_tri h 8 (Nat.le_refl _) a b k hk
theorem fwN_8 {W : Nat → Nat → Nat} {n : Nat} (hn : n ≤ 8) (h : WOk W n) : fwN W 8 = fwN W n := by
  have := fwN_iso h (8 - n)
  rw [show n + (8 - n) = 8 by omega] at this
  exact this
def fwX (M : Nat → Nat → Nat) (k n a b : Nat) : Nat → Nat → Nat := fun x y => if (x < a ∨ (x = a ∧ y < b)) ∧ x < n ∧ y < n then fwS M k x y else M x y
theorem fwX_0 {M : Nat → Nat → Nat} {k n : Nat} : fwX M k n 0 0 = M := by
  funext x y
  simp [fwX]
theorem fwX_row {M : Nat → Nat → Nat} {k n a : Nat} : fwX M k n a n = fwX M k n (a + 1) 0 := by
  funext x y
  simp only [fwX]
  have e : ((x < a ∨ (x = a ∧ y < n)) ∧ x < n ∧ y < n) ↔ ((x < a + 1 ∨ (x = a + 1 ∧ y < 0)) ∧ x < n ∧ y < n) := by omega
  simp only [e]
theorem fwX_end {M : Nat → Nat → Nat} {k n : Nat} (h : WOk M n) (hk : k < n) : fwX M k n n 0 = fwS M k := by
  funext x y
  simp only [fwX]
  split
  · rfl
  · rename_i hq
    have h2 := h.2.1 x y
    simp only [fwS]
    by_cases hxy : x = y
    · subst hxy
      rw [h.1 x]
      split <;> omega
    · rcases (show n ≤ x ∨ n ≤ y by omega) with hx | hy
      · rw [(h.2.2 k x hx (by omega)).2]
        split <;> omega
      · rw [(h.2.2 k y hy (by omega)).1]
        split <;> omega
theorem fwX_at {M : Nat → Nat → Nat} {k n a b : Nat} (h0 : M k k = 0) : fwX M k n a b a b = M a b ∧ fwX M k n a b a k = M a k ∧ fwX M k n a b k b = M k b := by
  refine ⟨?_, ?_, ?_⟩
  · simp only [fwX]
    rw [if_neg (by omega)]
  · simp only [fwX]
    split
    · simp only [fwS, h0]; split <;> omega
    · rfl
  · simp only [fwX]
    split
    · simp only [fwS, h0]; split <;> omega
    · rfl
theorem fwX_step {M : Nat → Nat → Nat} {k n a b : Nat} (ha : a < n) (hb : b < n) : (fun x y => if x = a ∧ y = b then fwS M k a b else fwX M k n a b x y) = fwX M k n a (b + 1) := by
  funext x y
  simp only [fwX]
  by_cases h : x = a ∧ y = b
  · rw [if_pos h, if_pos (by omega), h.1, h.2]
  · rw [if_neg h]
    have e : ((x < a ∨ (x = a ∧ y < b)) ∧ x < n ∧ y < n) ↔ ((x < a ∨ (x = a ∧ y < b + 1)) ∧ x < n ∧ y < n) := by omega
    simp only [e]
def encI (v : Nat) : Int32 := if v < 1000000 then nI v else -1
def MatE (f : Nat → Int32) (M : Nat → Nat → Nat) : Prop := ∀ a b, a < 8 → b < 8 → f (a * 8 + b) = encI (M a b)
def MatN (f : Nat → Int32) (M : Nat → Nat → Nat) : Prop := ∀ a b, a < 8 → b < 8 → f (a * 8 + b) = nI (M a b)
theorem MatE_upd {f : Nat → Int32} {M : Nat → Nat → Nat} (h : MatE f M) {a b v : Nat} (hb : b < 8) : MatE (upd f (a * 8 + b) (encI v)) (fun x y => if x = a ∧ y = b then v else M x y) := by
  intro x y hx hy
  show _ = encI (if x = a ∧ y = b then v else M x y)
  by_cases q : x = a ∧ y = b
  · rw [if_pos q, q.1, q.2, upd_at]
  · rw [if_neg q, upd_ne (by omega)]
    exact h x y hx hy
theorem MatN_upd {f : Nat → Int32} {M : Nat → Nat → Nat} (h : MatN f M) {a b v : Nat} (hb : b < 8) : MatN (upd f (a * 8 + b) (nI v)) (fun x y => if x = a ∧ y = b then v else M x y) := by
  intro x y hx hy
  show _ = nI (if x = a ∧ y = b then v else M x y)
  by_cases q : x = a ∧ y = b
  · rw [if_pos q, q.1, q.2, upd_at]
  · rw [if_neg q, upd_ne (by omega)]
    exact h x y hx hy
theorem enc_none {v : Nat} (hv : v = 1000000 ∨ v ≤ 25344) : encI v = -1 ↔ v = 1000000 := by
  unfold encI
  constructor
  · intro h
    rcases hv with h1 | h1
    · exact h1
    · rw [if_pos (by omega)] at h
      have h2 : ¬ nI v < 0 := nI_pos (by omega)
      rw [h] at h2
      exact absurd (by decide) h2
  · intro h
    rw [if_neg (by omega)]
theorem stM_wr {s : Mem} {k i : Nat} {f : Nat → Int32} {v : Int32} : wrM (stM s k f) k i v = stM s k (upd f i v) := by
  funext q j
  by_cases h : q = k
  · subst h; simp [stM]
  · simp [stM, h]
theorem stM_id {s : Mem} {k : Nat} : stM s k (s k) = s := by
  funext q j
  by_cases h : q = k
  · subst h; simp [stM]
  · simp [stM, h]
theorem upd_id {f : Nat → Int32} {i : Nat} : upd f i (f i) = f := by
  funext j
  by_cases h : j = i
  · subst h; rw [upd_at]
  · rw [upd_ne h]
theorem S3_goBy {l : Launch} {G : GG} {d a k b n : Nat} (ha : a < 8) (hk : k < 8) (hb : b < 8) {s : Mem} {f : Nat → Int32} {M : Nat → Nat → Nat} (h0 : M k k = 0) (hB : fB M 25344) (hM : MatE f (fwX M k n a b)) : Spec l G d hX3_goBy [.inr 33, .inl (nI a), .inl (nI k), .inl (nI b)] (stM s 38 f) (fun _ t => t = stM s 38 (upd f (a * 8 + b) (encI (fwS M k a b)))) := by
  refine spec_of iX3_goBy (by decide +kernel) (Nat.le_of_ble_eq_true rfl) (vX3_goBy_0 ?_)
  rw [ixa, ixa, ixa, cl64 ha hk, cl64 hk hb, cl64 ha hb, stM_self]
  have hx := fwX_at (n := n) (a := a) (b := b) h0
  have e1 := hM a k ha hk
  have e2 := hM k b hk hb
  have e3 := hM a b ha hb
  rw [hx.2.1] at e1
  rw [hx.2.2] at e2
  rw [hx.1] at e3
  rw [e1, e2, e3, enc_none (hB a k), enc_none (hB k b), enc_none (hB a b), stM_wr]
  have b1 := hB a k
  have b2 := hB k b
  have b3 := hB a b
  have same : fwS M k a b = M a b → stM s 38 f = stM s 38 (upd f (a * 8 + b) (encI (fwS M k a b))) := by
    intro q
    rw [q, ← e3, upd_id]
  refine ⟨vi64 ha hk, vi64 hk hb, vi64 ha hb, fun h1 => same ?_, fun h1 => ⟨fun h2 => same ?_, fun h2 => ?_⟩⟩
  · simp only [fwS]; split <;> omega
  · simp only [fwS]; split <;> omega
  have p1 : encI (M a k) = nI (M a k) := by unfold encI; rw [if_pos (by omega)]
  have p2 : encI (M k b) = nI (M k b) := by unfold encI; rw [if_pos (by omega)]
  have p3 : M a k + M k b < 1000000 := by omega
  rw [p1, p2, nI_add]
  refine ⟨fun h3 => ⟨vi64 ha hb, ?_⟩, fun h3 => ?_⟩
  · have : fwS M k a b = M a k + M k b := by
      simp only [fwS]; rw [if_pos (by omega)]
    rw [this]
    unfold encI
    rw [if_pos p3]
  · have p4 : encI (M a b) = nI (M a b) := by unfold encI; rw [if_pos (by omega)]
    rw [p4, nI_leI (by omega) (by omega)]
    refine ⟨fun h4 => same ?_, fun h4 => ⟨vi64 ha hb, ?_⟩⟩
    · simp only [fwS]; rw [if_neg (by omega)]
    · have : fwS M k a b = M a k + M k b := by
        simp only [fwS]; rw [if_pos (by omega)]
      rw [this]
      unfold encI
      rw [if_pos p3]
theorem S3_measure {l : Launch} {G : GG} {d n : Nat} (hd : 1 ≤ d) (hn : n ≤ 8) {s : Mem} (hs : s 33 0 = nI n) {W : Nat → Nat → Nat} (hW : WOk W n) (hB : fB W 99) (hM : MatE (s 37) W) : Spec l G d hX3_measure [.inr 33] s (fun _ t => ∃ f, t = stM s 38 f ∧ MatE f (fwN W 8)) := by
  refine spec_of iX3_measure (by decide +kernel) (Nat.le_of_ble_eq_true rfl) (vX3_measure_0 ⟨⟨hd, by decide, by decide, by decide, by decide, by decide⟩, ?_⟩)
  have sz : ∀ f : Nat → Int32, stM s 38 f 33 0 = nI n := fun f => by rw [stM_ne (by decide)]; exact hs
  have key : ∀ k, k ≤ n → ∀ f, MatE f (fwN W k) → AW l G d hX3_measure 17 [some (.inr 33), some (.inl (nI k)), none, none] [] (stM s 38 f) (fun _ t => ∃ f, t = stM s 38 f ∧ MatE f (fwN W 8)) := by
    refine down n ?_ ?_
    · intro f hf
      refine vX3_measure_17 ⟨fun _ => ⟨f, rfl, ?_⟩, fun h => absurd (by rw [sz]; exact nI_le (Nat.le_refl n) (by omega)) h⟩
      rw [fwN_8 hn hW]
      exact hf
    · intro k hk ih f hf
      refine vX3_measure_17 ⟨fun h => absurd h (by rw [sz]; exact nI_ge hk (by omega)), fun _ => ?_⟩
      have hok := fwN_ok hW k (by omega)
      have hbd := fwN_B8 hn hW hB (k := k) (by omega)
      have rows : ∀ a, a ≤ n → ∀ f, MatE f (fwX (fwN W k) k n a 0) → AW l G d hX3_measure 27 [some (.inr 33), some (.inl (nI k)), some (.inl (nI a)), none] [] (stM s 38 f) (fun _ t => ∃ f, t = stM s 38 f ∧ MatE f (fwN W 8)) := by
        refine down n ?_ ?_
        · intro f hf
          refine vX3_measure_27 ⟨fun _ => ?_, fun h => absurd (by rw [sz]; exact nI_le (Nat.le_refl n) (by omega)) h⟩
          rw [nI_1]
          rw [fwX_end hok hk] at hf
          exact aw_weak (L := [some (.inr 33), some (.inl (nI (k + 1))), none, none]) ⟨rfl, rfl, trivial⟩ (ih f hf)
        · intro a ha iha f hf
          refine vX3_measure_27 ⟨fun h => absurd h (by rw [sz]; exact nI_ge ha (by omega)), fun _ => ?_⟩
          have cols : ∀ b, b ≤ n → ∀ f, MatE f (fwX (fwN W k) k n a b) → AW l G d hX3_measure 37 [some (.inr 33), some (.inl (nI k)), some (.inl (nI a)), some (.inl (nI b))] [] (stM s 38 f) (fun _ t => ∃ f, t = stM s 38 f ∧ MatE f (fwN W 8)) := by
            refine down n ?_ ?_
            · intro f hf
              refine vX3_measure_37 ⟨fun _ => ?_, fun h => absurd (by rw [sz]; exact nI_le (Nat.le_refl n) (by omega)) h⟩
              rw [nI_1]
              rw [fwX_row] at hf
              exact aw_weak (L := [some (.inr 33), some (.inl (nI k)), some (.inl (nI (a + 1))), none]) ⟨rfl, rfl, rfl, trivial⟩ (iha f hf)
            · intro b hb ihb f hf
              refine vX3_measure_37 ⟨fun h => absurd h (by rw [sz]; exact nI_ge hb (by omega)), fun _ => ⟨d - 1, _, by omega, S3_goBy (n := n) (by omega) (by omega) (by omega) (hok.1 k) hbd hf, ?_⟩⟩
              rintro _ _ rfl
              rw [nI_1]
              refine ihb _ ?_
              rw [← fwX_step ha hb]
              exact MatE_upd hf (by omega)
          exact cols 0 (Nat.zero_le _) f hf
      exact rows 0 (Nat.zero_le _) f (by rw [fwX_0]; exact hf)
  refine key 0 (Nat.zero_le _) _ ?_
  intro a b ha hb
  have e : va_cpy (s 37) (s 38) (0 : Int32).toNatClampNeg (0 : Int32).toNatClampNeg (64 : Int32).toNatClampNeg (a * 8 + b) = s 37 (a * 8 + b) := by
    show va_cpy (s 37) (s 38) 0 0 64 (a * 8 + b) = _
    unfold va_cpy
    rw [if_pos (by omega)]
    congr 1
    omega
  rw [e]
  exact hM a b ha hb
end
section
/-! ===== ways and hours ===== -/
def wyP (n : Nat) (x y v : Int32) : Prop := (∃ j, j < n ∧ x = nI j) ∧ (∃ j, j < n ∧ y = nI j) ∧ ¬ x = y ∧ 1 ≤ v ∧ v ≤ 99
def wset (W : Nat → Nat → Nat) (a b h : Nat) : Nat → Nat → Nat := fun x y => if (x = a ∧ y = b) ∨ (x = b ∧ y = a) then h else W x y
theorem wset_ok {W : Nat → Nat → Nat} {n a b h : Nat} (hW : WOk W n) (ha : a < n) (hb : b < n) (hab : a ≠ b) (hh : h ≤ 99) : WOk (wset W a b h) n := by
  obtain ⟨h1, h2, h3⟩ := hW
  refine ⟨fun x => ?_, fun x y => ?_, fun x k hk hx => ⟨?_, ?_⟩⟩
  · simp only [wset]
    rw [if_neg (by omega)]
    exact h1 x
  · simp only [wset]
    have := h2 x y
    split <;> omega
  · simp only [wset]
    rw [if_neg (by omega)]
    exact (h3 x k hk hx).1
  · simp only [wset]
    rw [if_neg (by omega)]
    exact (h3 x k hk hx).2
theorem wset_B {W : Nat → Nat → Nat} {a b h : Nat} (hB : fB W 99) (hh : h ≤ 99) : fB (wset W a b h) 99 := by
  intro x y
  simp only [wset]
  split
  · exact Or.inr hh
  · exact hB x y
theorem wset_E {f : Nat → Int32} {W : Nat → Nat → Nat} {a b h : Nat} (hM : MatE f W) (ha : a < 8) (hb : b < 8) (hh : h ≤ 99) : MatE (upd (upd f (a * 8 + b) (nI h)) (b * 8 + a) (nI h)) (wset W a b h) := by
  intro x y hx hy
  have e : encI h = nI h := by unfold encI; rw [if_pos (by omega)]
  simp only [wset]
  by_cases q1 : x = b ∧ y = a
  · rw [if_pos (Or.inr q1), q1.1, q1.2, upd_at, e]
  · rw [upd_ne (by omega)]
    by_cases q2 : x = a ∧ y = b
    · rw [if_pos (Or.inl q2), q2.1, q2.2, upd_at, e]
    · rw [upd_ne (by omega), if_neg (by omega)]
      exact hM x y hx hy
def MatH (f : Nat → Int32) (W : Nat → Nat → Nat) : Prop := ∀ a b, a < 8 → b < 8 → ∃ h : Nat, h ≤ 99 ∧ f (a * 8 + b) = nI h ∧ W a b = if a = b then 0 else if h = 0 then 1000000 else h
theorem wset_H {f : Nat → Int32} {W : Nat → Nat → Nat} {a b h : Nat} (hM : MatH f W) (ha : a < 8) (hb : b < 8) (hab : a ≠ b) (h0 : 1 ≤ h) (hh : h ≤ 99) : MatH (upd (upd f (a * 8 + b) (nI h)) (b * 8 + a) (nI h)) (wset W a b h) := by
  intro x y hx hy
  simp only [wset]
  by_cases q1 : x = b ∧ y = a
  · refine ⟨h, hh, by rw [q1.1, q1.2, upd_at], ?_⟩
    rw [if_pos (Or.inr q1), if_neg (by omega), if_neg (by omega)]
  · rw [upd_ne (by omega)]
    by_cases q2 : x = a ∧ y = b
    · refine ⟨h, hh, by rw [q2.1, q2.2, upd_at], ?_⟩
      rw [if_pos (Or.inl q2), if_neg (by omega), if_neg (by omega)]
    · rw [upd_ne (by omega), if_neg (by omega)]
      exact hM x y hx hy
theorem in99 {v : Int32} (h0 : 1 ≤ v) (h1 : v ≤ 99) : ∃ h : Nat, 1 ≤ h ∧ h ≤ 99 ∧ v = nI h := by
  obtain ⟨j, hj, rfl⟩ := nI_of2 (x := v) (M := 99) (n := 99) (by decide) (by grind) h1
  refine ⟨j, ?_, hj, rfl⟩
  have := (nI_leI (a := 1) (b := j) (by decide) (by omega)).mp h0
  exact this
abbrev wyC (s : Mem) (a b : Nat) (v : Int32) : Mem := wrM (wrM (wrM s 37 (a * 8 + b) v) 37 (b * 8 + a) v) 33 6 (s 33 6 + 1)
abbrev wyM (s : Mem) (a b : Nat) (v : Int32) : Mem := wrM (wrM s 63 (a * 8 + b) v) 63 (b * 8 + a) v
theorem S7_way {l : Launch} {G : GG} {d n : Nat} (hd : 3 ≤ d) (hn : n ≤ 8) (x y v : Int32) {s : Mem} (hs : s 33 0 = nI n) {W : Nat → Nat → Nat} (hW : WOk W n) (hB : fB W 99) (hM : MatE (s 37) W) : Spec l G d hX7_way [.inr 0, .inl x, .inl y, .inl v] s (fun r t => (∃ a b h, a < n ∧ b < n ∧ a ≠ b ∧ 1 ≤ h ∧ h ≤ 99 ∧ x = nI a ∧ y = nI b ∧ v = nI h ∧ r = 1 ∧ ∃ f, t = stM (wyC s a b v) 38 f ∧ MatE f (fwN (wset W a b h) 8)) ∨ (¬ wyP n x y v ∧ r = 0 ∧ s = t)) := by
  have inner : ∀ {d : Nat}, 2 ≤ d → Spec l G d hX3_join [.inr 33, .inl x, .inl y, .inl v] s (fun r t => (∃ a b h, a < n ∧ b < n ∧ a ≠ b ∧ 1 ≤ h ∧ h ≤ 99 ∧ x = nI a ∧ y = nI b ∧ v = nI h ∧ r = 1 ∧ ∃ f, t = stM (wyC s a b v) 38 f ∧ MatE f (fwN (wset W a b h) 8)) ∨ (¬ wyP n x y v ∧ r = 0 ∧ s = t)) := by
    intro d hd
    refine spec_of iX3_join (by decide +kernel) (Nat.le_of_ble_eq_true rfl) (vX3_join_0 ?_)
    refine ⟨d - 1, _, by omega, S3_has (by omega) hn x hs, ?_⟩
    rintro r1 _ ⟨hr1, rfl⟩
    rcases hr1 with ⟨rfl, a, ha, rfl⟩ | ⟨rfl, hno⟩
    rotate_left
    · exact ⟨fun _ => ⟨Or.inl rfl, Or.inr ⟨fun q => hno q.1, rfl, rfl⟩⟩, fun h => absurd rfl h⟩
    refine ⟨fun h => absurd h (by decide), fun _ => ?_⟩
    refine ⟨d - 1, _, by omega, S3_has (by omega) hn y hs, ?_⟩
    rintro r2 _ ⟨hr2, rfl⟩
    rcases hr2 with ⟨rfl, b, hb, rfl⟩ | ⟨rfl, hno⟩
    rotate_left
    · exact ⟨fun _ => ⟨Or.inl rfl, Or.inr ⟨fun q => hno q.2.1, rfl, rfl⟩⟩, fun h => absurd rfl h⟩
    refine ⟨fun h => absurd h (by decide), fun _ => ⟨fun h => ⟨Or.inl rfl, Or.inr ⟨fun q => q.2.2.1 h, rfl, rfl⟩⟩, fun hab => ⟨fun h => ⟨Or.inl rfl, Or.inr ⟨fun q => ?_, rfl, rfl⟩⟩, fun h1 => ⟨fun h2 => ?_, fun h => ⟨Or.inl rfl, Or.inr ⟨fun q => h q.2.2.2.2, rfl, rfl⟩⟩⟩⟩⟩⟩
    · have := q.2.2.2.1; grind
    obtain ⟨h, h0, hh, rfl⟩ := in99 (v := v) (by grind) h2
    have hab' : a ≠ b := fun q => hab (by rw [q])
    have ha8 : a < 8 := by omega
    have hb8 : b < 8 := by omega
    rw [ixa, ixa, cl64 ha8 hb8, cl64 hb8 ha8]
    refine ⟨vi64 ha8 hb8, vi64 hb8 ha8, d - 1, _, by omega, S3_measure (n := n) (W := wset W a b h) (by omega) hn ?_ (wset_ok hW ha hb hab' hh) (wset_B hB hh) ?_, ?_⟩
    · exact hs
    · exact wset_E hM ha8 hb8 hh
    · rintro _ _ ⟨f, rfl, hf⟩
      exact ⟨Or.inr rfl, Or.inl ⟨a, b, h, ha, hb, hab', h0, hh, rfl, rfl, rfl, rfl, f, rfl, hf⟩⟩
  refine spec_of iX7_way (by decide +kernel) (Nat.le_of_ble_eq_true rfl) (vX7_way_0 ?_)
  refine ⟨d - 1, _, by omega, inner (by omega), fun r t h => ⟨?_, h⟩⟩
  rcases h with ⟨_, _, _, _, _, _, _, _, _, _, _, rfl, _⟩ | ⟨_, rfl, _⟩
  · exact Or.inr rfl
  · exact Or.inl rfl
theorem S8_way {l : Launch} {G : GG} {d n : Nat} (hd : 2 ≤ d) (hn : n ≤ 8) (x y v : Int32) {s : Mem} (hs : s 49 11 = nI n) : Spec l G d hX8_way [.inr 49, .inl x, .inl y, .inl v] s (fun r t => (∃ a b h, a < n ∧ b < n ∧ a ≠ b ∧ 1 ≤ h ∧ h ≤ 99 ∧ x = nI a ∧ y = nI b ∧ v = nI h ∧ r = 1 ∧ t = wyM s a b v) ∨ (¬ wyP n x y v ∧ r = 0 ∧ s = t)) := by
  refine spec_of iX8_way (by decide +kernel) (Nat.le_of_ble_eq_true rfl) (vX8_way_0 ?_)
  refine ⟨d - 1, _, by omega, S8_isTown (by omega) hn x hs, ?_⟩
  rintro r1 _ ⟨hr1, rfl⟩
  rcases hr1 with ⟨rfl, a, ha, rfl⟩ | ⟨rfl, hno⟩
  rotate_left
  · exact ⟨fun _ => ⟨Or.inl rfl, Or.inr ⟨fun q => hno q.1, rfl, rfl⟩⟩, fun h => absurd rfl h⟩
  refine ⟨fun h => absurd h (by decide), fun _ => ?_⟩
  refine ⟨d - 1, _, by omega, S8_isTown (by omega) hn y hs, ?_⟩
  rintro r2 _ ⟨hr2, rfl⟩
  rcases hr2 with ⟨rfl, b, hb, rfl⟩ | ⟨rfl, hno⟩
  rotate_left
  · exact ⟨fun _ => ⟨Or.inl rfl, Or.inr ⟨fun q => hno q.2.1, rfl, rfl⟩⟩, fun h => absurd rfl h⟩
  refine ⟨fun h => absurd h (by decide), fun _ => ⟨fun h => ⟨Or.inl rfl, Or.inr ⟨fun q => q.2.2.1 h, rfl, rfl⟩⟩, fun hab => ?_⟩⟩
  refine ⟨d - 1, _, by omega, S_in _ _ _ _, ?_⟩
  rintro _ _ ⟨rfl, rfl⟩
  rw [i01]
  refine ⟨fun h1 => ?_, fun h1 => ⟨Or.inl rfl, Or.inr ⟨fun q => h1 q.2.2.2, rfl, rfl⟩⟩⟩
  have h1 := Classical.not_not.mp h1
  obtain ⟨h, h0, hh, rfl⟩ := in99 h1.1 h1.2
  have ha8 : a < 8 := by omega
  have hb8 : b < 8 := by omega
  rw [ixb, ixb, cl64 ha8 hb8, cl64 hb8 ha8]
  exact ⟨vi64 ha8 hb8, vi64 hb8 ha8, Or.inr rfl, Or.inl ⟨a, b, h, ha, hb, fun q => hab (by rw [q]), h0, hh, rfl, rfl, rfl, rfl, rfl⟩⟩
theorem S8_reckons {l : Launch} {G : GG} {d : Nat} {s : Mem} {W : Nat → Nat → Nat} (hW : WOk W 8) (hB : fB W 99) (hM : MatH (s 63) W) : Spec l G d hX8_reckons [.inr 49] s (fun _ t => ∃ f, t = stM s 64 f ∧ MatN f (fwN W 8)) := by
  refine spec_of iX8_reckons (by decide +kernel) (Nat.le_of_ble_eq_true rfl) (vX8_reckons_0 ?_)
  have key : ∀ k, k ≤ 8 → ∀ f, MatN f (fwN W k) → AW l G d hX8_reckons 80 [some (.inr 49), some (.inl (nI k)), none, none, none] [] (stM s 64 f) (fun _ t => ∃ f, t = stM s 64 f ∧ MatN f (fwN W 8)) := by
    refine down 8 ?_ ?_
    · intro f hf
      exact vX8_reckons_80 ⟨fun _ => ⟨f, rfl, hf⟩, fun h => absurd c8t h⟩
    · intro k hk ih f hf
      refine vX8_reckons_80 ⟨fun h => absurd h (c8f hk), fun _ => ?_⟩
      have hok := fwN_ok hW k (by omega)
      have rows : ∀ a, a ≤ 8 → ∀ f, MatN f (fwX (fwN W k) k 8 a 0) → AW l G d hX8_reckons 88 [some (.inr 49), some (.inl (nI k)), some (.inl (nI a)), none, none] [] (stM s 64 f) (fun _ t => ∃ f, t = stM s 64 f ∧ MatN f (fwN W 8)) := by
        refine down 8 ?_ ?_
        · intro f hf
          refine vX8_reckons_88 ⟨fun _ => ?_, fun h => absurd c8t h⟩
          rw [nI_1]
          rw [fwX_end hok hk] at hf
          exact aw_weak (L := [some (.inr 49), some (.inl (nI (k + 1))), none, none, none]) ⟨rfl, rfl, trivial⟩ (ih f hf)
        · intro a ha iha f hf
          refine vX8_reckons_88 ⟨fun h => absurd h (c8f ha), fun _ => ?_⟩
          have cols : ∀ b, b ≤ 8 → ∀ f, MatN f (fwX (fwN W k) k 8 a b) → AW l G d hX8_reckons 96 [some (.inr 49), some (.inl (nI k)), some (.inl (nI a)), some (.inl (nI b)), none] [] (stM s 64 f) (fun _ t => ∃ f, t = stM s 64 f ∧ MatN f (fwN W 8)) := by
            refine down 8 ?_ ?_
            · intro f hf
              refine vX8_reckons_96 ⟨fun _ => ?_, fun h => absurd c8t h⟩
              rw [nI_1]
              rw [fwX_row] at hf
              exact aw_weak (L := [some (.inr 49), some (.inl (nI k)), some (.inl (nI (a + 1))), none, none]) ⟨rfl, rfl, rfl, trivial⟩ (iha f hf)
            · intro b hb ihb f hf
              have hx := fwX_at (n := 8) (a := a) (b := b) (hok.1 k)
              have e1 := hf a k ha hk
              have e2 := hf k b hk hb
              have e3 := hf a b ha hb
              rw [hx.2.1] at e1
              rw [hx.2.2] at e2
              rw [hx.1] at e3
              have b1 := hok.2.1 a k
              have b2 := hok.2.1 k b
              have b3 := hok.2.1 a b
              have fin := ihb (upd f (a * 8 + b) (nI (fwS (fwN W k) k a b))) (by
                rw [← fwX_step ha hb]
                exact MatN_upd hf hb)
              refine vX8_reckons_96 ⟨fun h => absurd h (c8f hb), fun _ => ?_⟩
              rw [ixb, ixb, ixb, cl64 ha hk, cl64 hk hb, cl64 ha hb, stM_self, e1, e2, e3, nI_add, nI_leI (by omega) (by omega), stM_wr, nI_1]
              refine ⟨vi64 ha hk, vi64 hk hb, vi64 ha hb, fun h => ?_, fun h => ⟨vi64 ha hb, ?_⟩⟩
              · have q : fwS (fwN W k) k a b = fwN W k a b := by simp only [fwS]; rw [if_neg (by omega)]
                rw [q, ← e3, upd_id] at fin
                exact aw_weak (L := [some (.inr 49), some (.inl (nI k)), some (.inl (nI a)), some (.inl (nI (b + 1))), none]) ⟨rfl, rfl, rfl, rfl, trivial⟩ fin
              · have q : fwS (fwN W k) k a b = fwN W k a k + fwN W k k b := by simp only [fwS]; rw [if_pos (by omega)]
                rw [q] at fin
                exact aw_weak (L := [some (.inr 49), some (.inl (nI k)), some (.inl (nI a)), some (.inl (nI (b + 1))), none]) ⟨rfl, rfl, rfl, rfl, trivial⟩ fin
          exact cols 0 (Nat.zero_le _) f hf
      exact rows 0 (Nat.zero_le _) f (by rw [fwX_0]; exact hf)
  have ini : ∀ a, a ≤ 8 → ∀ f : Nat → Int32, (∀ x y, x < 8 → y < 8 → x < a → f (x * 8 + y) = nI (W x y)) → AW l G d hX8_reckons 2 [some (.inr 49), some (.inl (nI a)), none, none, none] [] (stM s 64 f) (fun _ t => ∃ f, t = stM s 64 f ∧ MatN f (fwN W 8)) := by
    refine down 8 ?_ ?_
    · intro f hf
      exact vX8_reckons_2 ⟨fun _ => key 0 (Nat.zero_le _) f (fun x y hx hy => hf x y hx hy hx), fun h => absurd c8t h⟩
    · intro a ha ih f hf
      refine vX8_reckons_2 ⟨fun h => absurd h (c8f ha), fun _ => ?_⟩
      have cols : ∀ b, b ≤ 8 → ∀ f : Nat → Int32, (∀ x y, x < 8 → y < 8 → (x < a ∨ (x = a ∧ y < b)) → f (x * 8 + y) = nI (W x y)) → AW l G d hX8_reckons 10 [some (.inr 49), some (.inl (nI a)), some (.inl (nI b)), none, none] [] (stM s 64 f) (fun _ t => ∃ f, t = stM s 64 f ∧ MatN f (fwN W 8)) := by
        refine down 8 ?_ ?_
        · intro f hf
          refine vX8_reckons_10 ⟨fun _ => ?_, fun h => absurd c8t h⟩
          rw [nI_1]
          exact aw_weak (L := [some (.inr 49), some (.inl (nI (a + 1))), none, none, none]) ⟨rfl, rfl, trivial⟩ (ih f (fun x y hx hy q => hf x y hx hy (by omega)))
        · intro b hb ihb f hf
          obtain ⟨h, hh, eh, ew⟩ := hM a b ha hb
          refine vX8_reckons_10 ⟨fun h => absurd h (c8f hb), fun _ => ?_⟩
          have e63 : stM s 64 f 63 (a * 8 + b) = nI h := by rw [stM_ne (by decide)]; exact eh
          rw [ixb, cl64 ha hb, e63, nI_eq (by omega) (by omega), nI_1, stM_wr, stM_wr, stM_wr]
          have fin := ihb (upd f (a * 8 + b) (nI (W a b))) (fun x y hx hy q => by
            by_cases p : x = a ∧ y = b
            · rw [p.1, p.2, upd_at]
            · rw [upd_ne (by omega)]
              exact hf x y hx hy (by omega))
          rw [ew] at fin
          have h00 : nI h ≤ 0 ↔ h ≤ 0 := nI_leI (b := 0) (by omega) (by decide)
          rw [h00]
          refine ⟨fun hab => ⟨vi64 ha hb, fun h1 => ⟨vi64 ha hb, ?_⟩, fun h1 => ⟨vi64 ha hb, vi64 ha hb, ?_⟩⟩, fun hab => ⟨vi64 ha hb, ?_⟩⟩
          · rw [if_neg hab, if_pos (by omega)] at fin
            exact fin
          · rw [if_neg hab, if_neg (by omega)] at fin
            exact fin
          · rw [if_pos hab] at fin
            exact fin
      exact cols 0 (Nat.zero_le _) f (fun x y hx hy q => hf x y hx hy (by omega))
  have k0 := ini 0 (Nat.zero_le _) (s 64) (fun x y _ _ q => absurd q (Nat.not_lt_zero x))
  rw [stM_id] at k0
  exact k0
def hrP (n : Nat) (x y : Int32) : Prop := (∃ j, j < n ∧ x = nI j) ∧ ∃ j, j < n ∧ y = nI j
theorem S3_leastHours {l : Launch} {G : GG} {d a b : Nat} (ha : a < 8) (hb : b < 8) {s : Mem} {M : Nat → Nat → Nat} (hM : MatE (s 38) M) : Spec l G d hX3_leastHours [.inr 33, .inl (nI a), .inl (nI b)] s (fun r t => r = encI (M a b) ∧ s = t) := by
  refine spec_of iX3_leastHours (by decide +kernel) (Nat.le_of_ble_eq_true rfl) (vX3_leastHours_0 ?_)
  rw [ixa, cl64 ha hb]
  exact ⟨vi64 ha hb, hM a b ha hb, rfl⟩
theorem S7_hours {l : Launch} {G : GG} {d n : Nat} (hd : 2 ≤ d) (hn : n ≤ 8) (x y : Int32) {s : Mem} (hs : s 33 0 = nI n) {M : Nat → Nat → Nat} (hM : MatE (s 38) M) : Spec l G d hX7_hours [.inr 0, .inl x, .inl y] s (fun r t => ((∃ a b, a < n ∧ b < n ∧ x = nI a ∧ y = nI b ∧ r = encI (M a b)) ∨ (¬ hrP n x y ∧ r = -1)) ∧ s = t) := by
  refine spec_of iX7_hours (by decide +kernel) (Nat.le_of_ble_eq_true rfl) (vX7_hours_0 ?_)
  refine ⟨d - 1, _, by omega, S3_has (by omega) hn x hs, ?_⟩
  rintro r1 _ ⟨hr1, rfl⟩
  rcases hr1 with ⟨rfl, a, ha, rfl⟩ | ⟨rfl, hno⟩
  rotate_left
  · exact ⟨fun _ => ⟨Or.inr ⟨fun q => hno q.1, rfl⟩, rfl⟩, fun h => absurd rfl h⟩
  refine ⟨fun h => absurd h (by decide), fun _ => ?_⟩
  refine ⟨d - 1, _, by omega, S3_has (by omega) hn y hs, ?_⟩
  rintro r2 _ ⟨hr2, rfl⟩
  rcases hr2 with ⟨rfl, b, hb, rfl⟩ | ⟨rfl, hno⟩
  rotate_left
  · exact ⟨fun h => absurd rfl h, fun _ => ⟨Or.inr ⟨fun q => hno q.2, rfl⟩, rfl⟩⟩
  refine ⟨fun _ => ⟨d - 1, _, by omega, S3_leastHours (by omega) (by omega) hM, ?_⟩, fun h => absurd h (by decide)⟩
  rintro _ _ ⟨rfl, rfl⟩
  exact ⟨Or.inl ⟨a, b, ha, hb, rfl, rfl, rfl⟩, rfl⟩
theorem S8_hours {l : Launch} {G : GG} {d n : Nat} (hd : 2 ≤ d) (hn : n ≤ 8) (x y : Int32) {s : Mem} (hs : s 49 11 = nI n) {W : Nat → Nat → Nat} (hW : WOk W 8) (hB : fB W 99) (hM : MatH (s 63) W) : Spec l G d hX8_hours [.inr 49, .inl x, .inl y] s (fun r t => ((∃ a b, a < n ∧ b < n ∧ x = nI a ∧ y = nI b ∧ r = encI (fwN W 8 a b)) ∨ (¬ hrP n x y ∧ r = -1)) ∧ ∃ f, t = stM s 64 f) := by
  refine spec_of iX8_hours (by decide +kernel) (Nat.le_of_ble_eq_true rfl) (vX8_hours_0 ?_)
  refine ⟨d - 1, _, by omega, S8_isTown (by omega) hn x hs, ?_⟩
  rintro r1 _ ⟨hr1, rfl⟩
  rcases hr1 with ⟨rfl, a, ha, rfl⟩ | ⟨rfl, hno⟩
  rotate_left
  · exact ⟨fun _ => ⟨Or.inr ⟨fun q => hno q.1, rfl⟩, _, stM_id.symm⟩, fun h => absurd rfl h⟩
  refine ⟨fun h => absurd h (by decide), fun _ => ?_⟩
  refine ⟨d - 1, _, by omega, S8_isTown (by omega) hn y hs, ?_⟩
  rintro r2 _ ⟨hr2, rfl⟩
  rcases hr2 with ⟨rfl, b, hb, rfl⟩ | ⟨rfl, hno⟩
  rotate_left
  · exact ⟨fun h => absurd rfl h, fun _ => ⟨Or.inr ⟨fun q => hno q.2, rfl⟩, _, stM_id.symm⟩⟩
  have ha8 : a < 8 := by omega
  have hb8 : b < 8 := by omega
  refine ⟨fun _ => ⟨d - 1, _, by omega, S8_reckons hW hB hM, ?_⟩, fun h => absurd h (by decide)⟩
  rintro _ _ ⟨f, rfl, hf⟩
  have hv := (fwN_ok hW 8 (Nat.le_refl _)).2.1 a b
  have h6 : nI (fwN W 8 a b) < (1000000 : Int32) ↔ fwN W 8 a b < 1000000 := nI_ltI (b := 1000000) (by omega) (by decide)
  rw [ixb, cl64 ha8 hb8, stM_self, hf a b ha8 hb8, h6]
  refine ⟨vi64 ha8 hb8, fun h => ⟨vi64 ha8 hb8, Or.inl ⟨a, b, ha, hb, rfl, rfl, ?_⟩, f, rfl⟩, fun h => ⟨Or.inl ⟨a, b, ha, hb, rfl, rfl, ?_⟩, f, rfl⟩⟩
  · unfold encI; rw [if_pos h]
  · unfold encI; rw [if_neg h]
end
