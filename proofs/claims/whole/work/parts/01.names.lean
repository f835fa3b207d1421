-- ===== PART A: goes FIRST, ahead of the names: the tables' words, and 'selects' of the private methods out of them =====
/-- a private method of a class that the tables say can be made, by its rows of tables_1 -/
def lw_okq (q : MethodName × Nat) : Prop := (q.1.cls ≠ "java/lang/invoke/MethodHandle" ∧ q.1.cls ≠ "java/lang/invoke/VarHandle") ∧ Cond.instantiable q.1.cls q.2 ∈ tables_1 ∧ Cond.privateMethod q.1 ∈ tables_1 ∧ Cond.instanceMethod q.1 ∈ tables_1
theorem lw_p0 : lw_okq (⟨"CircusRoad$Show", "add", "(III)I"⟩, 9) := ⟨⟨by decide +kernel, by decide +kernel⟩, List.mem_of_getElem? (i := 22) (by decide +kernel), List.mem_of_getElem? (i := 304) (by decide +kernel), List.mem_of_getElem? (i := 305) (by decide +kernel)⟩
theorem lw_p1 : lw_okq (⟨"CircusRoad$Show", "setRest", "(II)Z"⟩, 9) := ⟨⟨by decide +kernel, by decide +kernel⟩, List.mem_of_getElem? (i := 22) (by decide +kernel), List.mem_of_getElem? (i := 315) (by decide +kernel), List.mem_of_getElem? (i := 316) (by decide +kernel)⟩
theorem lw_p2 : lw_okq (⟨"CircusRoad$Show", "setBan", "(IIZ)Z"⟩, 9) := ⟨⟨by decide +kernel, by decide +kernel⟩, List.mem_of_getElem? (i := 22) (by decide +kernel), List.mem_of_getElem? (i := 326) (by decide +kernel), List.mem_of_getElem? (i := 327) (by decide +kernel)⟩
theorem lw_p3 : lw_okq (⟨"CircusRoad$Show", "isBanned", "(II)Z"⟩, 9) := ⟨⟨by decide +kernel, by decide +kernel⟩, List.mem_of_getElem? (i := 22) (by decide +kernel), List.mem_of_getElem? (i := 330) (by decide +kernel), List.mem_of_getElem? (i := 331) (by decide +kernel)⟩
theorem lw_p4 : lw_okq (⟨"CircusRoad$Order", "read", "(II)I"⟩, 8) := ⟨⟨by decide +kernel, by decide +kernel⟩, List.mem_of_getElem? (i := 71) (by decide +kernel), List.mem_of_getElem? (i := 341) (by decide +kernel), List.mem_of_getElem? (i := 342) (by decide +kernel)⟩
theorem lw_p5 : lw_okq (⟨"CircusRoad$Order", "put", "(II)I"⟩, 8) := ⟨⟨by decide +kernel, by decide +kernel⟩, List.mem_of_getElem? (i := 71) (by decide +kernel), List.mem_of_getElem? (i := 345) (by decide +kernel), List.mem_of_getElem? (i := 346) (by decide +kernel)⟩
theorem lw_p6 : lw_okq (⟨"CircusRoad$Order", "breakAt", "(II)I"⟩, 8) := ⟨⟨by decide +kernel, by decide +kernel⟩, List.mem_of_getElem? (i := 71) (by decide +kernel), List.mem_of_getElem? (i := 349) (by decide +kernel), List.mem_of_getElem? (i := 350) (by decide +kernel)⟩
theorem lw_p7 : lw_okq (⟨"CircusRoad$Order", "set", "(II)V"⟩, 8) := ⟨⟨by decide +kernel, by decide +kernel⟩, List.mem_of_getElem? (i := 71) (by decide +kernel), List.mem_of_getElem? (i := 355) (by decide +kernel), List.mem_of_getElem? (i := 356) (by decide +kernel)⟩
theorem lw_p8 : lw_okq (⟨"CircusRoad$Show", "isClowns", "(I)Z"⟩, 9) := ⟨⟨by decide +kernel, by decide +kernel⟩, List.mem_of_getElem? (i := 22) (by decide +kernel), List.mem_of_getElem? (i := 359) (by decide +kernel), List.mem_of_getElem? (i := 360) (by decide +kernel)⟩
theorem lw_p9 : lw_okq (⟨"CircusRoad$BestOrder", "refresh", "()V"⟩, 9) := ⟨⟨by decide +kernel, by decide +kernel⟩, List.mem_of_getElem? (i := 109) (by decide +kernel), List.mem_of_getElem? (i := 380) (by decide +kernel), List.mem_of_getElem? (i := 381) (by decide +kernel)⟩
theorem lw_p10 : lw_okq (⟨"CircusRoad$BestOrder", "readLeastChanges", "()V"⟩, 9) := ⟨⟨by decide +kernel, by decide +kernel⟩, List.mem_of_getElem? (i := 109) (by decide +kernel), List.mem_of_getElem? (i := 384) (by decide +kernel), List.mem_of_getElem? (i := 385) (by decide +kernel)⟩
theorem lw_p11 : lw_okq (⟨"CircusRoad$BestOrder", "sortByWorth", "()V"⟩, 9) := ⟨⟨by decide +kernel, by decide +kernel⟩, List.mem_of_getElem? (i := 109) (by decide +kernel), List.mem_of_getElem? (i := 393) (by decide +kernel), List.mem_of_getElem? (i := 394) (by decide +kernel)⟩
theorem lw_p12 : lw_okq (⟨"CircusRoad$BestOrder", "keep", "()V"⟩, 9) := ⟨⟨by decide +kernel, by decide +kernel⟩, List.mem_of_getElem? (i := 109) (by decide +kernel), List.mem_of_getElem? (i := 400) (by decide +kernel), List.mem_of_getElem? (i := 401) (by decide +kernel)⟩
theorem lw_p13 : lw_okq (⟨"CircusRoad$BestOrder", "canWin", "(I)Z"⟩, 9) := ⟨⟨by decide +kernel, by decide +kernel⟩, List.mem_of_getElem? (i := 109) (by decide +kernel), List.mem_of_getElem? (i := 408) (by decide +kernel), List.mem_of_getElem? (i := 409) (by decide +kernel)⟩
theorem lw_p14 : lw_okq (⟨"CircusRoad$BestOrder", "leastGapsBehind", "(I)I"⟩, 9) := ⟨⟨by decide +kernel, by decide +kernel⟩, List.mem_of_getElem? (i := 109) (by decide +kernel), List.mem_of_getElem? (i := 412) (by decide +kernel), List.mem_of_getElem? (i := 413) (by decide +kernel)⟩
theorem lw_p15 : lw_okq (⟨"CircusRoad$BestOrder", "mostWorthBehind", "(I)I"⟩, 9) := ⟨⟨by decide +kernel, by decide +kernel⟩, List.mem_of_getElem? (i := 109) (by decide +kernel), List.mem_of_getElem? (i := 417) (by decide +kernel), List.mem_of_getElem? (i := 418) (by decide +kernel)⟩
def lw_privs_1 : List (MethodName × Nat) := [(⟨"CircusRoad$Show", "add", "(III)I"⟩, 9), (⟨"CircusRoad$Show", "setRest", "(II)Z"⟩, 9), (⟨"CircusRoad$Show", "setBan", "(IIZ)Z"⟩, 9), (⟨"CircusRoad$Show", "isBanned", "(II)Z"⟩, 9), (⟨"CircusRoad$Order", "read", "(II)I"⟩, 8), (⟨"CircusRoad$Order", "put", "(II)I"⟩, 8), (⟨"CircusRoad$Order", "breakAt", "(II)I"⟩, 8), (⟨"CircusRoad$Order", "set", "(II)V"⟩, 8), (⟨"CircusRoad$Show", "isClowns", "(I)Z"⟩, 9), (⟨"CircusRoad$BestOrder", "refresh", "()V"⟩, 9), (⟨"CircusRoad$BestOrder", "readLeastChanges", "()V"⟩, 9), (⟨"CircusRoad$BestOrder", "sortByWorth", "()V"⟩, 9), (⟨"CircusRoad$BestOrder", "keep", "()V"⟩, 9), (⟨"CircusRoad$BestOrder", "canWin", "(I)Z"⟩, 9), (⟨"CircusRoad$BestOrder", "leastGapsBehind", "(I)I"⟩, 9), (⟨"CircusRoad$BestOrder", "mostWorthBehind", "(I)I"⟩, 9)]
theorem lw_r1 : ∀ q ∈ lw_privs_1, lw_okq q := List.forall_mem_cons.mpr ⟨lw_p0, List.forall_mem_cons.mpr ⟨lw_p1, List.forall_mem_cons.mpr ⟨lw_p2, List.forall_mem_cons.mpr ⟨lw_p3, List.forall_mem_cons.mpr ⟨lw_p4, List.forall_mem_cons.mpr ⟨lw_p5, List.forall_mem_cons.mpr ⟨lw_p6, List.forall_mem_cons.mpr ⟨lw_p7, List.forall_mem_cons.mpr ⟨lw_p8, List.forall_mem_cons.mpr ⟨lw_p9, List.forall_mem_cons.mpr ⟨lw_p10, List.forall_mem_cons.mpr ⟨lw_p11, List.forall_mem_cons.mpr ⟨lw_p12, List.forall_mem_cons.mpr ⟨lw_p13, List.forall_mem_cons.mpr ⟨lw_p14, List.forall_mem_cons.mpr ⟨lw_p15, fun _ h => absurd h List.not_mem_nil⟩⟩⟩⟩⟩⟩⟩⟩⟩⟩⟩⟩⟩⟩⟩⟩
theorem lw_p16 : lw_okq (⟨"CircusRoad$Tent", "setLoad", "(II)Z"⟩, 7) := ⟨⟨by decide +kernel, by decide +kernel⟩, List.mem_of_getElem? (i := 148) (by decide +kernel), List.mem_of_getElem? (i := 429) (by decide +kernel), List.mem_of_getElem? (i := 430) (by decide +kernel)⟩
theorem lw_p17 : lw_okq (⟨"CircusRoad$Tent", "setShare", "(III)Z"⟩, 7) := ⟨⟨by decide +kernel, by decide +kernel⟩, List.mem_of_getElem? (i := 148) (by decide +kernel), List.mem_of_getElem? (i := 438) (by decide +kernel), List.mem_of_getElem? (i := 439) (by decide +kernel)⟩
theorem lw_p18 : lw_okq (⟨"CircusRoad$Tent", "sharesBeside", "(II)I"⟩, 7) := ⟨⟨by decide +kernel, by decide +kernel⟩, List.mem_of_getElem? (i := 148) (by decide +kernel), List.mem_of_getElem? (i := 442) (by decide +kernel), List.mem_of_getElem? (i := 443) (by decide +kernel)⟩
theorem lw_p19 : lw_okq (⟨"CircusRoad$Tent", "setExposed", "(II)Z"⟩, 7) := ⟨⟨by decide +kernel, by decide +kernel⟩, List.mem_of_getElem? (i := 148) (by decide +kernel), List.mem_of_getElem? (i := 450) (by decide +kernel), List.mem_of_getElem? (i := 451) (by decide +kernel)⟩
theorem lw_p20 : lw_okq (⟨"CircusRoad$Tent", "settle", "(I)V"⟩, 7) := ⟨⟨by decide +kernel, by decide +kernel⟩, List.mem_of_getElem? (i := 148) (by decide +kernel), List.mem_of_getElem? (i := 462) (by decide +kernel), List.mem_of_getElem? (i := 463) (by decide +kernel)⟩
theorem lw_p21 : lw_okq (⟨"CircusRoad$Tent", "hang", "(I)V"⟩, 7) := ⟨⟨by decide +kernel, by decide +kernel⟩, List.mem_of_getElem? (i := 148) (by decide +kernel), List.mem_of_getElem? (i := 466) (by decide +kernel), List.mem_of_getElem? (i := 467) (by decide +kernel)⟩
theorem lw_p22 : lw_okq (⟨"CircusRoad$Tent", "isUp", "(I)Z"⟩, 7) := ⟨⟨by decide +kernel, by decide +kernel⟩, List.mem_of_getElem? (i := 148) (by decide +kernel), List.mem_of_getElem? (i := 470) (by decide +kernel), List.mem_of_getElem? (i := 471) (by decide +kernel)⟩
theorem lw_p23 : lw_okq (⟨"CircusRoad$Tent", "firstThatPushes", "()I"⟩, 7) := ⟨⟨by decide +kernel, by decide +kernel⟩, List.mem_of_getElem? (i := 148) (by decide +kernel), List.mem_of_getElem? (i := 474) (by decide +kernel), List.mem_of_getElem? (i := 475) (by decide +kernel)⟩
theorem lw_p24 : lw_okq (⟨"CircusRoad$Tent", "slacken", "(I)V"⟩, 7) := ⟨⟨by decide +kernel, by decide +kernel⟩, List.mem_of_getElem? (i := 148) (by decide +kernel), List.mem_of_getElem? (i := 478) (by decide +kernel), List.mem_of_getElem? (i := 479) (by decide +kernel)⟩
theorem lw_p25 : lw_okq (⟨"CircusRoad$Tent", "ropesThatBear", "()I"⟩, 7) := ⟨⟨by decide +kernel, by decide +kernel⟩, List.mem_of_getElem? (i := 148) (by decide +kernel), List.mem_of_getElem? (i := 482) (by decide +kernel), List.mem_of_getElem? (i := 483) (by decide +kernel)⟩
theorem lw_p26 : lw_okq (⟨"CircusRoad$Tent", "spread", "(II)V"⟩, 7) := ⟨⟨by decide +kernel, by decide +kernel⟩, List.mem_of_getElem? (i := 148) (by decide +kernel), List.mem_of_getElem? (i := 486) (by decide +kernel), List.mem_of_getElem? (i := 487) (by decide +kernel)⟩
theorem lw_p27 : lw_okq (⟨"CircusRoad$Road", "add", "(III)I"⟩, 7) := ⟨⟨by decide +kernel, by decide +kernel⟩, List.mem_of_getElem? (i := 180) (by decide +kernel), List.mem_of_getElem? (i := 502) (by decide +kernel), List.mem_of_getElem? (i := 503) (by decide +kernel)⟩
theorem lw_p28 : lw_okq (⟨"CircusRoad$Road", "join", "(III)Z"⟩, 7) := ⟨⟨by decide +kernel, by decide +kernel⟩, List.mem_of_getElem? (i := 180) (by decide +kernel), List.mem_of_getElem? (i := 511) (by decide +kernel), List.mem_of_getElem? (i := 512) (by decide +kernel)⟩
theorem lw_p29 : lw_okq (⟨"CircusRoad$Road", "has", "(I)Z"⟩, 7) := ⟨⟨by decide +kernel, by decide +kernel⟩, List.mem_of_getElem? (i := 180) (by decide +kernel), List.mem_of_getElem? (i := 515) (by decide +kernel), List.mem_of_getElem? (i := 516) (by decide +kernel)⟩
theorem lw_p30 : lw_okq (⟨"CircusRoad$Road", "measure", "()V"⟩, 7) := ⟨⟨by decide +kernel, by decide +kernel⟩, List.mem_of_getElem? (i := 180) (by decide +kernel), List.mem_of_getElem? (i := 519) (by decide +kernel), List.mem_of_getElem? (i := 520) (by decide +kernel)⟩
theorem lw_p31 : lw_okq (⟨"CircusRoad$Road", "goBy", "(III)V"⟩, 7) := ⟨⟨by decide +kernel, by decide +kernel⟩, List.mem_of_getElem? (i := 180) (by decide +kernel), List.mem_of_getElem? (i := 524) (by decide +kernel), List.mem_of_getElem? (i := 525) (by decide +kernel)⟩
def lw_privs_2 : List (MethodName × Nat) := [(⟨"CircusRoad$Tent", "setLoad", "(II)Z"⟩, 7), (⟨"CircusRoad$Tent", "setShare", "(III)Z"⟩, 7), (⟨"CircusRoad$Tent", "sharesBeside", "(II)I"⟩, 7), (⟨"CircusRoad$Tent", "setExposed", "(II)Z"⟩, 7), (⟨"CircusRoad$Tent", "settle", "(I)V"⟩, 7), (⟨"CircusRoad$Tent", "hang", "(I)V"⟩, 7), (⟨"CircusRoad$Tent", "isUp", "(I)Z"⟩, 7), (⟨"CircusRoad$Tent", "firstThatPushes", "()I"⟩, 7), (⟨"CircusRoad$Tent", "slacken", "(I)V"⟩, 7), (⟨"CircusRoad$Tent", "ropesThatBear", "()I"⟩, 7), (⟨"CircusRoad$Tent", "spread", "(II)V"⟩, 7), (⟨"CircusRoad$Road", "add", "(III)I"⟩, 7), (⟨"CircusRoad$Road", "join", "(III)Z"⟩, 7), (⟨"CircusRoad$Road", "has", "(I)Z"⟩, 7), (⟨"CircusRoad$Road", "measure", "()V"⟩, 7), (⟨"CircusRoad$Road", "goBy", "(III)V"⟩, 7)]
theorem lw_r2 : ∀ q ∈ lw_privs_2, lw_okq q := List.forall_mem_cons.mpr ⟨lw_p16, List.forall_mem_cons.mpr ⟨lw_p17, List.forall_mem_cons.mpr ⟨lw_p18, List.forall_mem_cons.mpr ⟨lw_p19, List.forall_mem_cons.mpr ⟨lw_p20, List.forall_mem_cons.mpr ⟨lw_p21, List.forall_mem_cons.mpr ⟨lw_p22, List.forall_mem_cons.mpr ⟨lw_p23, List.forall_mem_cons.mpr ⟨lw_p24, List.forall_mem_cons.mpr ⟨lw_p25, List.forall_mem_cons.mpr ⟨lw_p26, List.forall_mem_cons.mpr ⟨lw_p27, List.forall_mem_cons.mpr ⟨lw_p28, List.forall_mem_cons.mpr ⟨lw_p29, List.forall_mem_cons.mpr ⟨lw_p30, List.forall_mem_cons.mpr ⟨lw_p31, fun _ h => absurd h List.not_mem_nil⟩⟩⟩⟩⟩⟩⟩⟩⟩⟩⟩⟩⟩⟩⟩⟩
theorem lw_p32 : lw_okq (⟨"CircusRoad$Road", "leastHours", "(II)I"⟩, 7) := ⟨⟨by decide +kernel, by decide +kernel⟩, List.mem_of_getElem? (i := 180) (by decide +kernel), List.mem_of_getElem? (i := 533) (by decide +kernel), List.mem_of_getElem? (i := 534) (by decide +kernel)⟩
theorem lw_p33 : lw_okq (⟨"CircusRoad$BestRoute", "refresh", "()V"⟩, 10) := ⟨⟨by decide +kernel, by decide +kernel⟩, List.mem_of_getElem? (i := 213) (by decide +kernel), List.mem_of_getElem? (i := 541) (by decide +kernel), List.mem_of_getElem? (i := 542) (by decide +kernel)⟩
theorem lw_p34 : lw_okq (⟨"CircusRoad$BestRoute", "keepIfBetter", "(I)V"⟩, 10) := ⟨⟨by decide +kernel, by decide +kernel⟩, List.mem_of_getElem? (i := 213) (by decide +kernel), List.mem_of_getElem? (i := 548) (by decide +kernel), List.mem_of_getElem? (i := 549) (by decide +kernel)⟩
theorem lw_p35 : lw_okq (⟨"CircusRoad$BestRoute", "isBetter", "(II)Z"⟩, 10) := ⟨⟨by decide +kernel, by decide +kernel⟩, List.mem_of_getElem? (i := 213) (by decide +kernel), List.mem_of_getElem? (i := 552) (by decide +kernel), List.mem_of_getElem? (i := 553) (by decide +kernel)⟩
theorem lw_p36 : lw_okq (⟨"CircusRoad$BestRoute", "put", "(II)Z"⟩, 10) := ⟨⟨by decide +kernel, by decide +kernel⟩, List.mem_of_getElem? (i := 213) (by decide +kernel), List.mem_of_getElem? (i := 557) (by decide +kernel), List.mem_of_getElem? (i := 558) (by decide +kernel)⟩
theorem lw_p37 : lw_okq (⟨"CircusRoad$BestRoute", "nightAt", "(II)I"⟩, 10) := ⟨⟨by decide +kernel, by decide +kernel⟩, List.mem_of_getElem? (i := 213) (by decide +kernel), List.mem_of_getElem? (i := 561) (by decide +kernel), List.mem_of_getElem? (i := 562) (by decide +kernel)⟩
theorem lw_p38 : lw_okq (⟨"CircusRoad$Road", "nightBehind", "(III)I"⟩, 7) := ⟨⟨by decide +kernel, by decide +kernel⟩, List.mem_of_getElem? (i := 180) (by decide +kernel), List.mem_of_getElem? (i := 565) (by decide +kernel), List.mem_of_getElem? (i := 566) (by decide +kernel)⟩
theorem lw_p39 : lw_okq (⟨"CircusRoad$BestRoute", "canWin", "(I)Z"⟩, 10) := ⟨⟨by decide +kernel, by decide +kernel⟩, List.mem_of_getElem? (i := 213) (by decide +kernel), List.mem_of_getElem? (i := 571) (by decide +kernel), List.mem_of_getElem? (i := 572) (by decide +kernel)⟩
theorem lw_p40 : lw_okq (⟨"CircusRoad$Till", "add", "(III)I"⟩, 5) := ⟨⟨by decide +kernel, by decide +kernel⟩, List.mem_of_getElem? (i := 253) (by decide +kernel), List.mem_of_getElem? (i := 583) (by decide +kernel), List.mem_of_getElem? (i := 584) (by decide +kernel)⟩
theorem lw_p41 : lw_okq (⟨"CircusRoad$Till", "foretell", "(II)V"⟩, 5) := ⟨⟨by decide +kernel, by decide +kernel⟩, List.mem_of_getElem? (i := 253) (by decide +kernel), List.mem_of_getElem? (i := 593) (by decide +kernel), List.mem_of_getElem? (i := 594) (by decide +kernel)⟩
theorem lw_p42 : lw_okq (⟨"CircusRoad$Till", "gather", "(IIII)V"⟩, 5) := ⟨⟨by decide +kernel, by decide +kernel⟩, List.mem_of_getElem? (i := 253) (by decide +kernel), List.mem_of_getElem? (i := 597) (by decide +kernel), List.mem_of_getElem? (i := 598) (by decide +kernel)⟩
theorem lw_p43 : lw_okq (⟨"CircusRoad$Till", "reduce", "()V"⟩, 5) := ⟨⟨by decide +kernel, by decide +kernel⟩, List.mem_of_getElem? (i := 253) (by decide +kernel), List.mem_of_getElem? (i := 601) (by decide +kernel), List.mem_of_getElem? (i := 602) (by decide +kernel)⟩
theorem lw_p44 : lw_okq (⟨"CircusRoad$Tent", "ropesUp", "()I"⟩, 7) := ⟨⟨by decide +kernel, by decide +kernel⟩, List.mem_of_getElem? (i := 148) (by decide +kernel), List.mem_of_getElem? (i := 613) (by decide +kernel), List.mem_of_getElem? (i := 614) (by decide +kernel)⟩
theorem lw_p45 : lw_okq (⟨"CircusRoadModel", "reads", "(II)Z"⟩, 30) := ⟨⟨by decide +kernel, by decide +kernel⟩, List.mem_of_getElem? (i := 617) (by decide +kernel), List.mem_of_getElem? (i := 733) (by decide +kernel), List.mem_of_getElem? (i := 734) (by decide +kernel)⟩
theorem lw_p46 : lw_okq (⟨"CircusRoadModel", "breaksAt", "(I)I"⟩, 30) := ⟨⟨by decide +kernel, by decide +kernel⟩, List.mem_of_getElem? (i := 617) (by decide +kernel), List.mem_of_getElem? (i := 737) (by decide +kernel), List.mem_of_getElem? (i := 738) (by decide +kernel)⟩
theorem lw_p47 : lw_okq (⟨"CircusRoadModel", "gapsOf", "(I)I"⟩, 30) := ⟨⟨by decide +kernel, by decide +kernel⟩, List.mem_of_getElem? (i := 617) (by decide +kernel), List.mem_of_getElem? (i := 746) (by decide +kernel), List.mem_of_getElem? (i := 747) (by decide +kernel)⟩
def lw_privs_3 : List (MethodName × Nat) := [(⟨"CircusRoad$Road", "leastHours", "(II)I"⟩, 7), (⟨"CircusRoad$BestRoute", "refresh", "()V"⟩, 10), (⟨"CircusRoad$BestRoute", "keepIfBetter", "(I)V"⟩, 10), (⟨"CircusRoad$BestRoute", "isBetter", "(II)Z"⟩, 10), (⟨"CircusRoad$BestRoute", "put", "(II)Z"⟩, 10), (⟨"CircusRoad$BestRoute", "nightAt", "(II)I"⟩, 10), (⟨"CircusRoad$Road", "nightBehind", "(III)I"⟩, 7), (⟨"CircusRoad$BestRoute", "canWin", "(I)Z"⟩, 10), (⟨"CircusRoad$Till", "add", "(III)I"⟩, 5), (⟨"CircusRoad$Till", "foretell", "(II)V"⟩, 5), (⟨"CircusRoad$Till", "gather", "(IIII)V"⟩, 5), (⟨"CircusRoad$Till", "reduce", "()V"⟩, 5), (⟨"CircusRoad$Tent", "ropesUp", "()I"⟩, 7), (⟨"CircusRoadModel", "reads", "(II)Z"⟩, 30), (⟨"CircusRoadModel", "breaksAt", "(I)I"⟩, 30), (⟨"CircusRoadModel", "gapsOf", "(I)I"⟩, 30)]
theorem lw_r3 : ∀ q ∈ lw_privs_3, lw_okq q := List.forall_mem_cons.mpr ⟨lw_p32, List.forall_mem_cons.mpr ⟨lw_p33, List.forall_mem_cons.mpr ⟨lw_p34, List.forall_mem_cons.mpr ⟨lw_p35, List.forall_mem_cons.mpr ⟨lw_p36, List.forall_mem_cons.mpr ⟨lw_p37, List.forall_mem_cons.mpr ⟨lw_p38, List.forall_mem_cons.mpr ⟨lw_p39, List.forall_mem_cons.mpr ⟨lw_p40, List.forall_mem_cons.mpr ⟨lw_p41, List.forall_mem_cons.mpr ⟨lw_p42, List.forall_mem_cons.mpr ⟨lw_p43, List.forall_mem_cons.mpr ⟨lw_p44, List.forall_mem_cons.mpr ⟨lw_p45, List.forall_mem_cons.mpr ⟨lw_p46, List.forall_mem_cons.mpr ⟨lw_p47, fun _ h => absurd h List.not_mem_nil⟩⟩⟩⟩⟩⟩⟩⟩⟩⟩⟩⟩⟩⟩⟩⟩
theorem lw_p48 : lw_okq (⟨"CircusRoadModel", "seeks", "()Z"⟩, 30) := ⟨⟨by decide +kernel, by decide +kernel⟩, List.mem_of_getElem? (i := 617) (by decide +kernel), List.mem_of_getElem? (i := 757) (by decide +kernel), List.mem_of_getElem? (i := 758) (by decide +kernel)⟩
theorem lw_p49 : lw_okq (⟨"CircusRoadModel", "hangs", "(I)V"⟩, 30) := ⟨⟨by decide +kernel, by decide +kernel⟩, List.mem_of_getElem? (i := 617) (by decide +kernel), List.mem_of_getElem? (i := 784) (by decide +kernel), List.mem_of_getElem? (i := 785) (by decide +kernel)⟩
theorem lw_p50 : lw_okq (⟨"CircusRoadModel", "isUp", "(I)Z"⟩, 30) := ⟨⟨by decide +kernel, by decide +kernel⟩, List.mem_of_getElem? (i := 617) (by decide +kernel), List.mem_of_getElem? (i := 788) (by decide +kernel), List.mem_of_getElem? (i := 789) (by decide +kernel)⟩
theorem lw_p51 : lw_okq (⟨"CircusRoadModel", "slackens", "(I)V"⟩, 30) := ⟨⟨by decide +kernel, by decide +kernel⟩, List.mem_of_getElem? (i := 617) (by decide +kernel), List.mem_of_getElem? (i := 792) (by decide +kernel), List.mem_of_getElem? (i := 793) (by decide +kernel)⟩
theorem lw_p52 : lw_okq (⟨"CircusRoadModel", "isTown", "(I)Z"⟩, 30) := ⟨⟨by decide +kernel, by decide +kernel⟩, List.mem_of_getElem? (i := 617) (by decide +kernel), List.mem_of_getElem? (i := 812) (by decide +kernel), List.mem_of_getElem? (i := 813) (by decide +kernel)⟩
theorem lw_p53 : lw_okq (⟨"CircusRoadModel", "reckons", "()V"⟩, 30) := ⟨⟨by decide +kernel, by decide +kernel⟩, List.mem_of_getElem? (i := 617) (by decide +kernel), List.mem_of_getElem? (i := 820) (by decide +kernel), List.mem_of_getElem? (i := 821) (by decide +kernel)⟩
theorem lw_p54 : lw_okq (⟨"CircusRoadModel", "goes", "()I"⟩, 30) := ⟨⟨by decide +kernel, by decide +kernel⟩, List.mem_of_getElem? (i := 617) (by decide +kernel), List.mem_of_getElem? (i := 829) (by decide +kernel), List.mem_of_getElem? (i := 830) (by decide +kernel)⟩
theorem lw_p55 : lw_okq (⟨"CircusRoadModel", "nightOf", "(II)I"⟩, 30) := ⟨⟨by decide +kernel, by decide +kernel⟩, List.mem_of_getElem? (i := 617) (by decide +kernel), List.mem_of_getElem? (i := 833) (by decide +kernel), List.mem_of_getElem? (i := 834) (by decide +kernel)⟩
def lw_privs_4 : List (MethodName × Nat) := [(⟨"CircusRoadModel", "seeks", "()Z"⟩, 30), (⟨"CircusRoadModel", "hangs", "(I)V"⟩, 30), (⟨"CircusRoadModel", "isUp", "(I)Z"⟩, 30), (⟨"CircusRoadModel", "slackens", "(I)V"⟩, 30), (⟨"CircusRoadModel", "isTown", "(I)Z"⟩, 30), (⟨"CircusRoadModel", "reckons", "()V"⟩, 30), (⟨"CircusRoadModel", "goes", "()I"⟩, 30), (⟨"CircusRoadModel", "nightOf", "(II)I"⟩, 30)]
theorem lw_r4 : ∀ q ∈ lw_privs_4, lw_okq q := List.forall_mem_cons.mpr ⟨lw_p48, List.forall_mem_cons.mpr ⟨lw_p49, List.forall_mem_cons.mpr ⟨lw_p50, List.forall_mem_cons.mpr ⟨lw_p51, List.forall_mem_cons.mpr ⟨lw_p52, List.forall_mem_cons.mpr ⟨lw_p53, List.forall_mem_cons.mpr ⟨lw_p54, List.forall_mem_cons.mpr ⟨lw_p55, fun _ h => absurd h List.not_mem_nil⟩⟩⟩⟩⟩⟩⟩⟩
def lw_privs : List (MethodName × Nat) := lw_privs_1 ++ (lw_privs_2 ++ (lw_privs_3 ++ (lw_privs_4)))
def lw_tbl : List Cond := k2_sels lw_privs ++ tables_1
theorem lw_privs_ok : ∀ q ∈ lw_privs, lw_okq q := by
  show ∀ q ∈ lw_privs_1 ++ (lw_privs_2 ++ (lw_privs_3 ++ (lw_privs_4))), lw_okq q
  exact List.forall_mem_append.mpr ⟨lw_r1, List.forall_mem_append.mpr ⟨lw_r2, List.forall_mem_append.mpr ⟨lw_r3, lw_r4⟩⟩⟩

def RX0 : String := "CircusRoad$BestOrder"
def TX0 : u_T := fun k => match k with
  | 0 => ("CircusRoad$BestOrder", "show", "LCircusRoad$Show;", true)
  | 1 => ("CircusRoad$BestOrder", "row", "LCircusRoad$Order;", true)
  | 2 => ("CircusRoad$BestOrder", "seen", "I", false)
  | 3 => ("CircusRoad$BestOrder", "found", "Z", false)
  | 4 => ("CircusRoad$BestOrder", "leastGaps", "I", false)
  | 5 => ("CircusRoad$BestOrder", "mostWorth", "I", false)
  | 6 => ("CircusRoad$BestOrder", "acts", "[I", true)
  | 7 => ("CircusRoad$BestOrder", "leastChange", "[I", true)
  | _ => ("CircusRoad$BestOrder", "byWorth", "[I", true)
def tyX0 : Nat → FieldType := fun k => match k with
  | 0 => .object "CircusRoad$Show"
  | 1 => .object "CircusRoad$Order"
  | 2 => .int
  | 3 => .boolean
  | 4 => .int
  | 5 => .int
  | 6 => .array .int
  | 7 => .array .int
  | _ => .array .int
abbrev wsX00 : List Cond := u_ws RX0 TX0 9
theorem nmX0 : ∀ a, a < 9 → ∀ b, b < 9 → a ≠ b → (TX0 a).2.1 ≠ (TX0 b).2.1 := by decide +kernel
theorem tyX0_ok : ∀ k, k < 9 → parseFieldDescriptor (TX0 k).2.2.1 = some (tyX0 k) := by decide +kernel
abbrev cX0_init : ByteArray := prog_2_method_1_code
def yX0_init : MethodName := ⟨RX0, "<init>", "(LCircusRoad$Show;)V"⟩
abbrev cX0_refresh : ByteArray := prog_2_method_2_code
def yX0_refresh : MethodName := ⟨RX0, "refresh", "()V"⟩
abbrev cX0_extend : ByteArray := prog_2_method_3_code
def yX0_extend : MethodName := ⟨RX0, "extend", "(LCircusRoad$BestOrder;I)V"⟩
abbrev cX0_keep : ByteArray := prog_2_method_4_code
def yX0_keep : MethodName := ⟨RX0, "keep", "()V"⟩
abbrev cX0_canWin : ByteArray := prog_2_method_5_code
def yX0_canWin : MethodName := ⟨RX0, "canWin", "(I)Z"⟩
abbrev cX0_leastGapsBehind : ByteArray := prog_2_method_6_code
def yX0_leastGapsBehind : MethodName := ⟨RX0, "leastGapsBehind", "(I)I"⟩
abbrev cX0_mostWorthBehind : ByteArray := prog_2_method_7_code
def yX0_mostWorthBehind : MethodName := ⟨RX0, "mostWorthBehind", "(I)I"⟩
abbrev cX0_readLeastChanges : ByteArray := prog_2_method_8_code
def yX0_readLeastChanges : MethodName := ⟨RX0, "readLeastChanges", "()V"⟩
abbrev cX0_sortByWorth : ByteArray := prog_2_method_9_code
def yX0_sortByWorth : MethodName := ⟨RX0, "sortByWorth", "()V"⟩
def RX1 : String := "CircusRoad$BestRoute"
def TX1 : u_T := fun k => match k with
  | 0 => ("CircusRoad$BestRoute", "road", "LCircusRoad$Road;", true)
  | 1 => ("CircusRoad$BestRoute", "seen", "I", false)
  | 2 => ("CircusRoad$BestRoute", "length", "I", false)
  | 3 => ("CircusRoad$BestRoute", "take", "I", false)
  | 4 => ("CircusRoad$BestRoute", "towns", "[I", true)
  | 5 => ("CircusRoad$BestRoute", "nights", "[I", true)
  | 6 => ("CircusRoad$BestRoute", "row", "[I", true)
  | 7 => ("CircusRoad$BestRoute", "rowNights", "[I", true)
  | 8 => ("CircusRoad$BestRoute", "used", "[I", true)
  | _ => ("CircusRoad$BestRoute", "takeSum", "[I", true)
def tyX1 : Nat → FieldType := fun k => match k with
  | 0 => .object "CircusRoad$Road"
  | 1 => .int
  | 2 => .int
  | 3 => .int
  | 4 => .array .int
  | 5 => .array .int
  | 6 => .array .int
  | 7 => .array .int
  | 8 => .array .int
  | _ => .array .int
abbrev wsX10 : List Cond := u_ws RX1 TX1 10
theorem nmX1 : ∀ a, a < 10 → ∀ b, b < 10 → a ≠ b → (TX1 a).2.1 ≠ (TX1 b).2.1 := by decide +kernel
theorem tyX1_ok : ∀ k, k < 10 → parseFieldDescriptor (TX1 k).2.2.1 = some (tyX1 k) := by decide +kernel
abbrev cX1_init : ByteArray := prog_3_method_1_code
def yX1_init : MethodName := ⟨RX1, "<init>", "(LCircusRoad$Road;)V"⟩
abbrev cX1_refresh : ByteArray := prog_3_method_2_code
def yX1_refresh : MethodName := ⟨RX1, "refresh", "()V"⟩
abbrev cX1_extend : ByteArray := prog_3_method_3_code
def yX1_extend : MethodName := ⟨RX1, "extend", "(LCircusRoad$BestRoute;I)V"⟩
abbrev cX1_put : ByteArray := prog_3_method_4_code
def yX1_put : MethodName := ⟨RX1, "put", "(II)Z"⟩
abbrev cX1_nightAt : ByteArray := prog_3_method_5_code
def yX1_nightAt : MethodName := ⟨RX1, "nightAt", "(II)I"⟩
abbrev cX1_keepIfBetter : ByteArray := prog_3_method_6_code
def yX1_keepIfBetter : MethodName := ⟨RX1, "keepIfBetter", "(I)V"⟩
abbrev cX1_isBetter : ByteArray := prog_3_method_7_code
def yX1_isBetter : MethodName := ⟨RX1, "isBetter", "(II)Z"⟩
abbrev cX1_canWin : ByteArray := prog_3_method_8_code
def yX1_canWin : MethodName := ⟨RX1, "canWin", "(I)Z"⟩
def RX2 : String := "CircusRoad$Order"
def TX2 : u_T := fun k => match k with
  | 0 => ("CircusRoad$Order", "show", "LCircusRoad$Show;", true)
  | 1 => ("CircusRoad$Order", "acts", "[I", true)
  | 2 => ("CircusRoad$Order", "used", "[I", true)
  | 3 => ("CircusRoad$Order", "ring", "[I", true)
  | 4 => ("CircusRoad$Order", "pause", "[I", true)
  | 5 => ("CircusRoad$Order", "gapSum", "[I", true)
  | 6 => ("CircusRoad$Order", "worthSum", "[I", true)
  | _ => ("CircusRoad$Order", "breakPlace", "I", false)
def tyX2 : Nat → FieldType := fun k => match k with
  | 0 => .object "CircusRoad$Show"
  | 1 => .array .int
  | 2 => .array .int
  | 3 => .array .int
  | 4 => .array .int
  | 5 => .array .int
  | 6 => .array .int
  | _ => .int
abbrev wsX20 : List Cond := u_ws RX2 TX2 8
theorem nmX2 : ∀ a, a < 8 → ∀ b, b < 8 → a ≠ b → (TX2 a).2.1 ≠ (TX2 b).2.1 := by decide +kernel
theorem tyX2_ok : ∀ k, k < 8 → parseFieldDescriptor (TX2 k).2.2.1 = some (tyX2 k) := by decide +kernel
abbrev cX2_init : ByteArray := prog_4_method_1_code
def yX2_init : MethodName := ⟨RX2, "<init>", "(LCircusRoad$Show;)V"⟩
abbrev cX2_canBeTold : ByteArray := prog_4_method_2_code
def yX2_canBeTold : MethodName := ⟨RX2, "canBeTold", "(II)Z"⟩
abbrev cX2_read : ByteArray := prog_4_method_3_code
def yX2_read : MethodName := ⟨RX2, "read", "(II)I"⟩
abbrev cX2_put : ByteArray := prog_4_method_4_code
def yX2_put : MethodName := ⟨RX2, "put", "(II)I"⟩
abbrev cX2_breakAt : ByteArray := prog_4_method_5_code
def yX2_breakAt : MethodName := ⟨RX2, "breakAt", "(II)I"⟩
abbrev cX2_set : ByteArray := prog_4_method_6_code
def yX2_set : MethodName := ⟨RX2, "set", "(II)V"⟩
def RX3 : String := "CircusRoad$Road"
def TX3 : u_T := fun k => match k with
  | 0 => ("CircusRoad$Road", "size", "I", false)
  | 1 => ("CircusRoad$Road", "takes", "[I", true)
  | 2 => ("CircusRoad$Road", "firsts", "[I", true)
  | 3 => ("CircusRoad$Road", "lasts", "[I", true)
  | 4 => ("CircusRoad$Road", "ways", "[I", true)
  | 5 => ("CircusRoad$Road", "least", "[I", true)
  | _ => ("CircusRoad$Road", "changes", "I", false)
def tyX3 : Nat → FieldType := fun k => match k with
  | 0 => .int
  | 1 => .array .int
  | 2 => .array .int
  | 3 => .array .int
  | 4 => .array .int
  | 5 => .array .int
  | _ => .int
abbrev wsX30 : List Cond := u_ws RX3 TX3 7
theorem nmX3 : ∀ a, a < 7 → ∀ b, b < 7 → a ≠ b → (TX3 a).2.1 ≠ (TX3 b).2.1 := by decide +kernel
theorem tyX3_ok : ∀ k, k < 7 → parseFieldDescriptor (TX3 k).2.2.1 = some (tyX3 k) := by decide +kernel
abbrev cX3_init : ByteArray := prog_5_method_1_code
def yX3_init : MethodName := ⟨RX3, "<init>", "()V"⟩
abbrev cX3_has : ByteArray := prog_5_method_2_code
def yX3_has : MethodName := ⟨RX3, "has", "(I)Z"⟩
abbrev cX3_add : ByteArray := prog_5_method_3_code
def yX3_add : MethodName := ⟨RX3, "add", "(III)I"⟩
abbrev cX3_join : ByteArray := prog_5_method_4_code
def yX3_join : MethodName := ⟨RX3, "join", "(III)Z"⟩
abbrev cX3_measure : ByteArray := prog_5_method_5_code
def yX3_measure : MethodName := ⟨RX3, "measure", "()V"⟩
abbrev cX3_goBy : ByteArray := prog_5_method_6_code
def yX3_goBy : MethodName := ⟨RX3, "goBy", "(III)V"⟩
abbrev cX3_leastHours : ByteArray := prog_5_method_7_code
def yX3_leastHours : MethodName := ⟨RX3, "leastHours", "(II)I"⟩
abbrev cX3_nightBehind : ByteArray := prog_5_method_8_code
def yX3_nightBehind : MethodName := ⟨RX3, "nightBehind", "(III)I"⟩
def RX4 : String := "CircusRoad$Show"
def TX4 : u_T := fun k => match k with
  | 0 => ("CircusRoad$Show", "size", "I", false)
  | 1 => ("CircusRoad$Show", "minutes", "[I", true)
  | 2 => ("CircusRoad$Show", "kinds", "[I", true)
  | 3 => ("CircusRoad$Show", "worths", "[I", true)
  | 4 => ("CircusRoad$Show", "people", "[I", true)
  | 5 => ("CircusRoad$Show", "props", "[I", true)
  | 6 => ("CircusRoad$Show", "resters", "[I", true)
  | 7 => ("CircusRoad$Show", "bans", "I", false)
  | _ => ("CircusRoad$Show", "changes", "I", false)
def tyX4 : Nat → FieldType := fun k => match k with
  | 0 => .int
  | 1 => .array .int
  | 2 => .array .int
  | 3 => .array .int
  | 4 => .array .int
  | 5 => .array .int
  | 6 => .array .int
  | 7 => .int
  | _ => .int
abbrev wsX40 : List Cond := u_ws RX4 TX4 9
theorem nmX4 : ∀ a, a < 9 → ∀ b, b < 9 → a ≠ b → (TX4 a).2.1 ≠ (TX4 b).2.1 := by decide +kernel
theorem tyX4_ok : ∀ k, k < 9 → parseFieldDescriptor (TX4 k).2.2.1 = some (tyX4 k) := by decide +kernel
abbrev cX4_init : ByteArray := prog_6_method_1_code
def yX4_init : MethodName := ⟨RX4, "<init>", "()V"⟩
abbrev cX4_add : ByteArray := prog_6_method_2_code
def yX4_add : MethodName := ⟨RX4, "add", "(III)I"⟩
abbrev cX4_canBe : ByteArray := prog_6_method_3_code
def yX4_canBe : MethodName := ⟨RX4, "canBe", "(III)Z"⟩
abbrev cX4_setRest : ByteArray := prog_6_method_4_code
def yX4_setRest : MethodName := ⟨RX4, "setRest", "(II)Z"⟩
abbrev cX4_setBan : ByteArray := prog_6_method_5_code
def yX4_setBan : MethodName := ⟨RX4, "setBan", "(IIZ)Z"⟩
abbrev cX4_isBanned : ByteArray := prog_6_method_6_code
def yX4_isBanned : MethodName := ⟨RX4, "isBanned", "(II)Z"⟩
abbrev cX4_isClowns : ByteArray := prog_6_method_7_code
def yX4_isClowns : MethodName := ⟨RX4, "isClowns", "(I)Z"⟩
def RX5 : String := "CircusRoad$Tent"
def TX5 : u_T := fun k => match k with
  | 0 => ("CircusRoad$Tent", "loads", "[I", true)
  | 1 => ("CircusRoad$Tent", "shares", "[I", true)
  | 2 => ("CircusRoad$Tent", "exposures", "[I", true)
  | 3 => ("CircusRoad$Tent", "parts", "[I", true)
  | 4 => ("CircusRoad$Tent", "bears", "[Z", true)
  | 5 => ("CircusRoad$Tent", "slackened", "[Z", true)
  | _ => ("CircusRoad$Tent", "lost", "I", false)
def tyX5 : Nat → FieldType := fun k => match k with
  | 0 => .array .int
  | 1 => .array .int
  | 2 => .array .int
  | 3 => .array .int
  | 4 => .array .boolean
  | 5 => .array .boolean
  | _ => .int
abbrev wsX50 : List Cond := u_ws RX5 TX5 7
theorem nmX5 : ∀ a, a < 7 → ∀ b, b < 7 → a ≠ b → (TX5 a).2.1 ≠ (TX5 b).2.1 := by decide +kernel
theorem tyX5_ok : ∀ k, k < 7 → parseFieldDescriptor (TX5 k).2.2.1 = some (tyX5 k) := by decide +kernel
abbrev cX5_init : ByteArray := prog_7_method_1_code
def yX5_init : MethodName := ⟨RX5, "<init>", "()V"⟩
abbrev cX5_isWind : ByteArray := prog_7_method_2_code
def yX5_isWind : MethodName := ⟨RX5, "isWind", "(I)Z"⟩
abbrev cX5_setLoad : ByteArray := prog_7_method_3_code
def yX5_setLoad : MethodName := ⟨RX5, "setLoad", "(II)Z"⟩
abbrev cX5_setShare : ByteArray := prog_7_method_4_code
def yX5_setShare : MethodName := ⟨RX5, "setShare", "(III)Z"⟩
abbrev cX5_sharesBeside : ByteArray := prog_7_method_5_code
def yX5_sharesBeside : MethodName := ⟨RX5, "sharesBeside", "(II)I"⟩
abbrev cX5_setExposed : ByteArray := prog_7_method_6_code
def yX5_setExposed : MethodName := ⟨RX5, "setExposed", "(II)Z"⟩
abbrev cX5_isUp : ByteArray := prog_7_method_7_code
def yX5_isUp : MethodName := ⟨RX5, "isUp", "(I)Z"⟩
abbrev cX5_ropesUp : ByteArray := prog_7_method_8_code
def yX5_ropesUp : MethodName := ⟨RX5, "ropesUp", "()I"⟩
abbrev cX5_settle : ByteArray := prog_7_method_9_code
def yX5_settle : MethodName := ⟨RX5, "settle", "(I)V"⟩
abbrev cX5_hang : ByteArray := prog_7_method_10_code
def yX5_hang : MethodName := ⟨RX5, "hang", "(I)V"⟩
abbrev cX5_firstThatPushes : ByteArray := prog_7_method_11_code
def yX5_firstThatPushes : MethodName := ⟨RX5, "firstThatPushes", "()I"⟩
abbrev cX5_slacken : ByteArray := prog_7_method_12_code
def yX5_slacken : MethodName := ⟨RX5, "slacken", "(I)V"⟩
abbrev cX5_ropesThatBear : ByteArray := prog_7_method_13_code
def yX5_ropesThatBear : MethodName := ⟨RX5, "ropesThatBear", "()I"⟩
abbrev cX5_spread : ByteArray := prog_7_method_14_code
def yX5_spread : MethodName := ⟨RX5, "spread", "(II)V"⟩
def RX6 : String := "CircusRoad$Till"
def TX6 : u_T := fun k => match k with
  | 0 => ("CircusRoad$Till", "told", "I", false)
  | 1 => ("CircusRoad$Till", "sums", "[I", true)
  | 2 => ("CircusRoad$Till", "times", "[I", true)
  | 3 => ("CircusRoad$Till", "above", "I", false)
  | _ => ("CircusRoad$Till", "below", "I", false)
def tyX6 : Nat → FieldType := fun k => match k with
  | 0 => .int
  | 1 => .array .int
  | 2 => .array .int
  | 3 => .int
  | _ => .int
abbrev wsX60 : List Cond := u_ws RX6 TX6 5
theorem nmX6 : ∀ a, a < 5 → ∀ b, b < 5 → a ≠ b → (TX6 a).2.1 ≠ (TX6 b).2.1 := by decide +kernel
theorem tyX6_ok : ∀ k, k < 5 → parseFieldDescriptor (TX6 k).2.2.1 = some (tyX6 k) := by decide +kernel
abbrev cX6_init : ByteArray := prog_8_method_1_code
def yX6_init : MethodName := ⟨RX6, "<init>", "()V"⟩
abbrev cX6_add : ByteArray := prog_8_method_2_code
def yX6_add : MethodName := ⟨RX6, "add", "(III)I"⟩
abbrev cX6_foretell : ByteArray := prog_8_method_3_code
def yX6_foretell : MethodName := ⟨RX6, "foretell", "(II)V"⟩
abbrev cX6_gather : ByteArray := prog_8_method_4_code
def yX6_gather : MethodName := ⟨RX6, "gather", "(IIII)V"⟩
abbrev cX6_reduce : ByteArray := prog_8_method_5_code
def yX6_reduce : MethodName := ⟨RX6, "reduce", "()V"⟩
abbrev cX6_commonDivisor : ByteArray := prog_8_method_6_code
def yX6_commonDivisor : MethodName := ⟨RX6, "commonDivisor", "(II)I"⟩
def RX7 : String := "CircusRoad"
def TX7 : u_T := fun k => match k with
  | 0 => ("CircusRoad", "show", "LCircusRoad$Show;", true)
  | 1 => ("CircusRoad", "told", "LCircusRoad$Order;", true)
  | 2 => ("CircusRoad", "bestOrder", "LCircusRoad$BestOrder;", true)
  | 3 => ("CircusRoad", "tent", "LCircusRoad$Tent;", true)
  | 4 => ("CircusRoad", "road", "LCircusRoad$Road;", true)
  | 5 => ("CircusRoad", "bestRoute", "LCircusRoad$BestRoute;", true)
  | _ => ("CircusRoad", "till", "LCircusRoad$Till;", true)
def tyX7 : Nat → FieldType := fun k => match k with
  | 0 => .object "CircusRoad$Show"
  | 1 => .object "CircusRoad$Order"
  | 2 => .object "CircusRoad$BestOrder"
  | 3 => .object "CircusRoad$Tent"
  | 4 => .object "CircusRoad$Road"
  | 5 => .object "CircusRoad$BestRoute"
  | _ => .object "CircusRoad$Till"
abbrev wsX70 : List Cond := u_ws RX7 TX7 7
theorem nmX7 : ∀ a, a < 7 → ∀ b, b < 7 → a ≠ b → (TX7 a).2.1 ≠ (TX7 b).2.1 := by decide +kernel
theorem tyX7_ok : ∀ k, k < 7 → parseFieldDescriptor (TX7 k).2.2.1 = some (tyX7 k) := by decide +kernel
abbrev cX7_init : ByteArray := prog_1_method_1_code
def yX7_init : MethodName := ⟨RX7, "<init>", "()V"⟩
abbrev cX7_act : ByteArray := prog_1_method_2_code
def yX7_act : MethodName := ⟨RX7, "act", "(III)I"⟩
abbrev cX7_rests : ByteArray := prog_1_method_3_code
def yX7_rests : MethodName := ⟨RX7, "rests", "(II)Z"⟩
abbrev cX7_ban : ByteArray := prog_1_method_4_code
def yX7_ban : MethodName := ⟨RX7, "ban", "(IIZ)Z"⟩
abbrev cX7_judge : ByteArray := prog_1_method_5_code
def yX7_judge : MethodName := ⟨RX7, "judge", "(III)I"⟩
abbrev cX7_gaps : ByteArray := prog_1_method_6_code
def yX7_gaps : MethodName := ⟨RX7, "gaps", "(II)I"⟩
abbrev cX7_best : ByteArray := prog_1_method_7_code
def yX7_best : MethodName := ⟨RX7, "best", "()I"⟩
abbrev cX7_bestAt : ByteArray := prog_1_method_8_code
def yX7_bestAt : MethodName := ⟨RX7, "bestAt", "(I)I"⟩
abbrev cX7_load : ByteArray := prog_1_method_9_code
def yX7_load : MethodName := ⟨RX7, "load", "(II)Z"⟩
abbrev cX7_share : ByteArray := prog_1_method_10_code
def yX7_share : MethodName := ⟨RX7, "share", "(III)Z"⟩
abbrev cX7_exposed : ByteArray := prog_1_method_11_code
def yX7_exposed : MethodName := ⟨RX7, "exposed", "(II)Z"⟩
abbrev cX7_part : ByteArray := prog_1_method_12_code
def yX7_part : MethodName := ⟨RX7, "part", "(II)I"⟩
abbrev cX7_slack : ByteArray := prog_1_method_13_code
def yX7_slack : MethodName := ⟨RX7, "slack", "(II)Z"⟩
abbrev cX7_gone : ByteArray := prog_1_method_14_code
def yX7_gone : MethodName := ⟨RX7, "gone", "(I)I"⟩
abbrev cX7_town : ByteArray := prog_1_method_15_code
def yX7_town : MethodName := ⟨RX7, "town", "(III)I"⟩
abbrev cX7_way : ByteArray := prog_1_method_16_code
def yX7_way : MethodName := ⟨RX7, "way", "(III)Z"⟩
abbrev cX7_hours : ByteArray := prog_1_method_17_code
def yX7_hours : MethodName := ⟨RX7, "hours", "(II)I"⟩
abbrev cX7_route : ByteArray := prog_1_method_18_code
def yX7_route : MethodName := ⟨RX7, "route", "()I"⟩
abbrev cX7_routeAt : ByteArray := prog_1_method_19_code
def yX7_routeAt : MethodName := ⟨RX7, "routeAt", "(II)I"⟩
abbrev cX7_took : ByteArray := prog_1_method_20_code
def yX7_took : MethodName := ⟨RX7, "took", "(III)I"⟩
abbrev cX7_foretold : ByteArray := prog_1_method_21_code
def yX7_foretold : MethodName := ⟨RX7, "foretold", "(III)I"⟩
abbrev cX7_count : ByteArray := prog_1_method_22_code
def yX7_count : MethodName := ⟨RX7, "count", "(I)I"⟩
abbrev cX7_isIn : ByteArray := prog_1_method_23_code
def yX7_isIn : MethodName := ⟨RX7, "isIn", "(II)Z"⟩
def RX8 : String := "CircusRoadModel"
def TX8 : u_T := fun k => match k with
  | 0 => ("CircusRoadModel", "acts", "I", false)
  | 1 => ("CircusRoadModel", "minutes", "[I", true)
  | 2 => ("CircusRoadModel", "kind", "[I", true)
  | 3 => ("CircusRoadModel", "worth", "[I", true)
  | 4 => ("CircusRoadModel", "who", "[I", true)
  | 5 => ("CircusRoadModel", "props", "[I", true)
  | 6 => ("CircusRoadModel", "rest", "[I", true)
  | 7 => ("CircusRoadModel", "isBanned", "[Z", true)
  | 8 => ("CircusRoadModel", "loads", "[I", true)
  | 9 => ("CircusRoadModel", "shares", "[I", true)
  | 10 => ("CircusRoadModel", "exposed", "[I", true)
  | 11 => ("CircusRoadModel", "towns", "I", false)
  | 12 => ("CircusRoadModel", "take", "[I", true)
  | 13 => ("CircusRoadModel", "first", "[I", true)
  | 14 => ("CircusRoadModel", "last", "[I", true)
  | 15 => ("CircusRoadModel", "hours", "[I", true)
  | 16 => ("CircusRoadModel", "least", "[I", true)
  | 17 => ("CircusRoadModel", "takings", "I", false)
  | 18 => ("CircusRoadModel", "takenTown", "[I", true)
  | 19 => ("CircusRoadModel", "takenDay", "[I", true)
  | 20 => ("CircusRoadModel", "takenSum", "[I", true)
  | 21 => ("CircusRoadModel", "row", "[I", true)
  | 22 => ("CircusRoadModel", "choice", "[I", true)
  | 23 => ("CircusRoadModel", "found", "[I", true)
  | 24 => ("CircusRoadModel", "foundAt", "[I", true)
  | 25 => ("CircusRoadModel", "night", "[I", true)
  | 26 => ("CircusRoadModel", "bestGaps", "I", false)
  | 27 => ("CircusRoadModel", "parts", "[I", true)
  | 28 => ("CircusRoadModel", "isSlack", "[Z", true)
  | _ => ("CircusRoadModel", "gone", "I", false)
def tyX8 : Nat → FieldType := fun k => match k with
  | 0 => .int
  | 1 => .array .int
  | 2 => .array .int
  | 3 => .array .int
  | 4 => .array .int
  | 5 => .array .int
  | 6 => .array .int
  | 7 => .array .boolean
  | 8 => .array .int
  | 9 => .array .int
  | 10 => .array .int
  | 11 => .int
  | 12 => .array .int
  | 13 => .array .int
  | 14 => .array .int
  | 15 => .array .int
  | 16 => .array .int
  | 17 => .int
  | 18 => .array .int
  | 19 => .array .int
  | 20 => .array .int
  | 21 => .array .int
  | 22 => .array .int
  | 23 => .array .int
  | 24 => .array .int
  | 25 => .array .int
  | 26 => .int
  | 27 => .array .int
  | 28 => .array .boolean
  | _ => .int
abbrev wsX80 : List Cond := u_ws RX8 TX8 30
theorem nmX8 : ∀ a, a < 30 → ∀ b, b < 30 → a ≠ b → (TX8 a).2.1 ≠ (TX8 b).2.1 := by decide +kernel
theorem tyX8_ok : ∀ k, k < 30 → parseFieldDescriptor (TX8 k).2.2.1 = some (tyX8 k) := by decide +kernel
abbrev cX8_init : ByteArray := prog_10_method_1_code
def yX8_init : MethodName := ⟨RX8, "<init>", "()V"⟩
abbrev cX8_in : ByteArray := prog_10_method_2_code
def yX8_in : MethodName := ⟨RX8, "in", "(III)Z"⟩
abbrev cX8_bits : ByteArray := prog_10_method_3_code
def yX8_bits : MethodName := ⟨RX8, "bits", "(I)I"⟩
abbrev cX8_act : ByteArray := prog_10_method_4_code
def yX8_act : MethodName := ⟨RX8, "act", "(III)I"⟩
abbrev cX8_rests : ByteArray := prog_10_method_5_code
def yX8_rests : MethodName := ⟨RX8, "rests", "(II)Z"⟩
abbrev cX8_ban : ByteArray := prog_10_method_6_code
def yX8_ban : MethodName := ⟨RX8, "ban", "(IIZ)Z"⟩
abbrev cX8_breaksAt : ByteArray := prog_10_method_7_code
def yX8_breaksAt : MethodName := ⟨RX8, "breaksAt", "(I)I"⟩
abbrev cX8_reads : ByteArray := prog_10_method_8_code
def yX8_reads : MethodName := ⟨RX8, "reads", "(II)Z"⟩
abbrev cX8_judge : ByteArray := prog_10_method_9_code
def yX8_judge : MethodName := ⟨RX8, "judge", "(III)I"⟩
abbrev cX8_gapsOf : ByteArray := prog_10_method_10_code
def yX8_gapsOf : MethodName := ⟨RX8, "gapsOf", "(I)I"⟩
abbrev cX8_gaps : ByteArray := prog_10_method_11_code
def yX8_gaps : MethodName := ⟨RX8, "gaps", "(II)I"⟩
abbrev cX8_seeks : ByteArray := prog_10_method_12_code
def yX8_seeks : MethodName := ⟨RX8, "seeks", "()Z"⟩
abbrev cX8_best : ByteArray := prog_10_method_13_code
def yX8_best : MethodName := ⟨RX8, "best", "()I"⟩
abbrev cX8_bestAt : ByteArray := prog_10_method_14_code
def yX8_bestAt : MethodName := ⟨RX8, "bestAt", "(I)I"⟩
abbrev cX8_load : ByteArray := prog_10_method_15_code
def yX8_load : MethodName := ⟨RX8, "load", "(II)Z"⟩
abbrev cX8_share : ByteArray := prog_10_method_16_code
def yX8_share : MethodName := ⟨RX8, "share", "(III)Z"⟩
abbrev cX8_exposed : ByteArray := prog_10_method_17_code
def yX8_exposed : MethodName := ⟨RX8, "exposed", "(II)Z"⟩
abbrev cX8_isUp : ByteArray := prog_10_method_18_code
def yX8_isUp : MethodName := ⟨RX8, "isUp", "(I)Z"⟩
abbrev cX8_hangs : ByteArray := prog_10_method_19_code
def yX8_hangs : MethodName := ⟨RX8, "hangs", "(I)V"⟩
abbrev cX8_slackens : ByteArray := prog_10_method_20_code
def yX8_slackens : MethodName := ⟨RX8, "slackens", "(I)V"⟩
abbrev cX8_isWind : ByteArray := prog_10_method_21_code
def yX8_isWind : MethodName := ⟨RX8, "isWind", "(I)Z"⟩
abbrev cX8_part : ByteArray := prog_10_method_22_code
def yX8_part : MethodName := ⟨RX8, "part", "(II)I"⟩
abbrev cX8_slack : ByteArray := prog_10_method_23_code
def yX8_slack : MethodName := ⟨RX8, "slack", "(II)Z"⟩
abbrev cX8_gone : ByteArray := prog_10_method_24_code
def yX8_gone : MethodName := ⟨RX8, "gone", "(I)I"⟩
abbrev cX8_isTown : ByteArray := prog_10_method_25_code
def yX8_isTown : MethodName := ⟨RX8, "isTown", "(I)Z"⟩
abbrev cX8_town : ByteArray := prog_10_method_26_code
def yX8_town : MethodName := ⟨RX8, "town", "(III)I"⟩
abbrev cX8_way : ByteArray := prog_10_method_27_code
def yX8_way : MethodName := ⟨RX8, "way", "(III)Z"⟩
abbrev cX8_reckons : ByteArray := prog_10_method_28_code
def yX8_reckons : MethodName := ⟨RX8, "reckons", "()V"⟩
abbrev cX8_hours : ByteArray := prog_10_method_29_code
def yX8_hours : MethodName := ⟨RX8, "hours", "(II)I"⟩
abbrev cX8_nightOf : ByteArray := prog_10_method_30_code
def yX8_nightOf : MethodName := ⟨RX8, "nightOf", "(II)I"⟩
abbrev cX8_goes : ByteArray := prog_10_method_31_code
def yX8_goes : MethodName := ⟨RX8, "goes", "()I"⟩
abbrev cX8_route : ByteArray := prog_10_method_32_code
def yX8_route : MethodName := ⟨RX8, "route", "()I"⟩
abbrev cX8_routeAt : ByteArray := prog_10_method_33_code
def yX8_routeAt : MethodName := ⟨RX8, "routeAt", "(II)I"⟩
abbrev cX8_took : ByteArray := prog_10_method_34_code
def yX8_took : MethodName := ⟨RX8, "took", "(III)I"⟩
abbrev cX8_foretold : ByteArray := prog_10_method_35_code
def yX8_foretold : MethodName := ⟨RX8, "foretold", "(III)I"⟩
abbrev cX8_count : ByteArray := prog_10_method_36_code
def yX8_count : MethodName := ⟨RX8, "count", "(I)I"⟩
def RJ6 : String := "java/lang/Integer"
def TJ6 : u_T := fun k => match k with
  | _ => ("", "", "", false)
def tyJ6 : Nat → FieldType := fun k => match k with
  | _ => .int
abbrev wsJ60 : List Cond := u_ws RJ6 TJ6 0
theorem nmJ6 : ∀ a, a < 0 → ∀ b, b < 0 → a ≠ b → (TJ6 a).2.1 ≠ (TJ6 b).2.1 := by decide +kernel
theorem tyJ6_ok : ∀ k, k < 0 → parseFieldDescriptor (TJ6 k).2.2.1 = some (tyJ6 k) := by decide +kernel
abbrev cJ6_bitCount_0f7a4 : ByteArray := prog_11_method_49_code
def yJ6_bitCount_0f7a4 : MethodName := ⟨RJ6, "bitCount", "(I)I"⟩
def RJ9 : String := "java/lang/Math"
def TJ9 : u_T := fun k => match k with
  | _ => ("", "", "", false)
def tyJ9 : Nat → FieldType := fun k => match k with
  | _ => .int
abbrev wsJ90 : List Cond := u_ws RJ9 TJ9 0
theorem nmJ9 : ∀ a, a < 0 → ∀ b, b < 0 → a ≠ b → (TJ9 a).2.1 ≠ (TJ9 b).2.1 := by decide +kernel
theorem tyJ9_ok : ∀ k, k < 0 → parseFieldDescriptor (TJ9 k).2.2.1 = some (tyJ9 k) := by decide +kernel
abbrev cJ9_max_7cf53 : ByteArray := prog_12_method_65_code
def yJ9_max_7cf53 : MethodName := ⟨RJ9, "max", "(II)I"⟩
abbrev cJ9_min_7cf53 : ByteArray := prog_12_method_69_code
def yJ9_min_7cf53 : MethodName := ⟨RJ9, "min", "(II)I"⟩
def RJ10 : String := "java/lang/System"
def TJ10 : u_T := fun k => match k with
  | _ => ("", "", "", false)
def tyJ10 : Nat → FieldType := fun k => match k with
  | _ => .int
abbrev wsJ100 : List Cond := u_ws RJ10 TJ10 0
theorem nmJ10 : ∀ a, a < 0 → ∀ b, b < 0 → a ≠ b → (TJ10 a).2.1 ≠ (TJ10 b).2.1 := by decide +kernel
theorem tyJ10_ok : ∀ k, k < 0 → parseFieldDescriptor (TJ10 k).2.2.1 = some (tyJ10 k) := by decide +kernel
abbrev vwCl : List vw_C := [(RX0, TX0, 9), (RX1, TX1, 10), (RX2, TX2, 8), (RX3, TX3, 7), (RX4, TX4, 9), (RX5, TX5, 7), (RX6, TX6, 5), (RX7, TX7, 7), (RX8, TX8, 30)]
