-- ===== PART A: goes FIRST, ahead of the names: the tables' words, and 'selects' of the private methods out of them =====
/-- a private method of a class that the tables say can be made, by its rows of tables_1 -/
def lw_okq (q : MethodName × Nat) : Prop := (q.1.cls ≠ "java/lang/invoke/MethodHandle" ∧ q.1.cls ≠ "java/lang/invoke/VarHandle") ∧ Cond.instantiable q.1.cls q.2 ∈ tables_1 ∧ Cond.privateMethod q.1 ∈ tables_1 ∧ Cond.instanceMethod q.1 ∈ tables_1
theorem lw_p0 : lw_okq (⟨"NamesBack$World", "addPlace", "(III)I"⟩, 13) := ⟨⟨by decide +kernel, by decide +kernel⟩, List.mem_of_getElem? (i := 33) (by decide +kernel), List.mem_of_getElem? (i := 292) (by decide +kernel), List.mem_of_getElem? (i := 293) (by decide +kernel)⟩
theorem lw_p1 : lw_okq (⟨"NamesBack$World", "has", "(I)Z"⟩, 13) := ⟨⟨by decide +kernel, by decide +kernel⟩, List.mem_of_getElem? (i := 33) (by decide +kernel), List.mem_of_getElem? (i := 300) (by decide +kernel), List.mem_of_getElem? (i := 301) (by decide +kernel)⟩
theorem lw_p2 : lw_okq (⟨"NamesBack", "look", "()LNamesBack$Journeys;"⟩, 10) := ⟨⟨by decide +kernel, by decide +kernel⟩, List.mem_of_getElem? (i := 19) (by decide +kernel), List.mem_of_getElem? (i := 304) (by decide +kernel), List.mem_of_getElem? (i := 305) (by decide +kernel)⟩
theorem lw_p3 : lw_okq (⟨"NamesBack", "holding", "()LNamesBack$Land;"⟩, 10) := ⟨⟨by decide +kernel, by decide +kernel⟩, List.mem_of_getElem? (i := 19) (by decide +kernel), List.mem_of_getElem? (i := 308) (by decide +kernel), List.mem_of_getElem? (i := 309) (by decide +kernel)⟩
theorem lw_p4 : lw_okq (⟨"NamesBack$Journeys", "findSizes", "(LNamesBack$Land;)V"⟩, 15) := ⟨⟨by decide +kernel, by decide +kernel⟩, List.mem_of_getElem? (i := 27) (by decide +kernel), List.mem_of_getElem? (i := 312) (by decide +kernel), List.mem_of_getElem? (i := 313) (by decide +kernel)⟩
theorem lw_p5 : lw_okq (⟨"NamesBack$World", "tellFacts", "(I[I)V"⟩, 13) := ⟨⟨by decide +kernel, by decide +kernel⟩, List.mem_of_getElem? (i := 33) (by decide +kernel), List.mem_of_getElem? (i := 316) (by decide +kernel), List.mem_of_getElem? (i := 317) (by decide +kernel)⟩
theorem lw_p6 : lw_okq (⟨"NamesBack$World", "roadsOf", "(I)I"⟩, 13) := ⟨⟨by decide +kernel, by decide +kernel⟩, List.mem_of_getElem? (i := 33) (by decide +kernel), List.mem_of_getElem? (i := 326) (by decide +kernel), List.mem_of_getElem? (i := 327) (by decide +kernel)⟩
theorem lw_p7 : lw_okq (⟨"NamesBack$Land", "together", "(I[I)I"⟩, 7) := ⟨⟨by decide +kernel, by decide +kernel⟩, List.mem_of_getElem? (i := 160) (by decide +kernel), List.mem_of_getElem? (i := 333) (by decide +kernel), List.mem_of_getElem? (i := 334) (by decide +kernel)⟩
theorem lw_p8 : lw_okq (⟨"NamesBack$Land", "holds", "(II[I)Z"⟩, 7) := ⟨⟨by decide +kernel, by decide +kernel⟩, List.mem_of_getElem? (i := 160) (by decide +kernel), List.mem_of_getElem? (i := 337) (by decide +kernel), List.mem_of_getElem? (i := 338) (by decide +kernel)⟩
theorem lw_p9 : lw_okq (⟨"NamesBack$Journeys", "findLongs", "()V"⟩, 15) := ⟨⟨by decide +kernel, by decide +kernel⟩, List.mem_of_getElem? (i := 27) (by decide +kernel), List.mem_of_getElem? (i := 344) (by decide +kernel), List.mem_of_getElem? (i := 345) (by decide +kernel)⟩
theorem lw_p10 : lw_okq (⟨"NamesBack$Journeys", "findWays", "()V"⟩, 15) := ⟨⟨by decide +kernel, by decide +kernel⟩, List.mem_of_getElem? (i := 27) (by decide +kernel), List.mem_of_getElem? (i := 352) (by decide +kernel), List.mem_of_getElem? (i := 353) (by decide +kernel)⟩
theorem lw_p11 : lw_okq (⟨"NamesBack$Journeys", "findTowards", "()V"⟩, 15) := ⟨⟨by decide +kernel, by decide +kernel⟩, List.mem_of_getElem? (i := 27) (by decide +kernel), List.mem_of_getElem? (i := 357) (by decide +kernel), List.mem_of_getElem? (i := 358) (by decide +kernel)⟩
theorem lw_p12 : lw_okq (⟨"NamesBack$Journeys", "firstOfWay", "(II)I"⟩, 15) := ⟨⟨by decide +kernel, by decide +kernel⟩, List.mem_of_getElem? (i := 27) (by decide +kernel), List.mem_of_getElem? (i := 361) (by decide +kernel), List.mem_of_getElem? (i := 362) (by decide +kernel)⟩
theorem lw_p13 : lw_okq (⟨"NamesBack$Journeys", "leads", "(II)Z"⟩, 15) := ⟨⟨by decide +kernel, by decide +kernel⟩, List.mem_of_getElem? (i := 27) (by decide +kernel), List.mem_of_getElem? (i := 365) (by decide +kernel), List.mem_of_getElem? (i := 366) (by decide +kernel)⟩
theorem lw_p14 : lw_okq (⟨"NamesBack$Journeys", "findSteps", "()V"⟩, 15) := ⟨⟨by decide +kernel, by decide +kernel⟩, List.mem_of_getElem? (i := 27) (by decide +kernel), List.mem_of_getElem? (i := 369) (by decide +kernel), List.mem_of_getElem? (i := 370) (by decide +kernel)⟩
theorem lw_p15 : lw_okq (⟨"NamesBack$Journeys", "aimAt", "(II)I"⟩, 15) := ⟨⟨by decide +kernel, by decide +kernel⟩, List.mem_of_getElem? (i := 27) (by decide +kernel), List.mem_of_getElem? (i := 373) (by decide +kernel), List.mem_of_getElem? (i := 374) (by decide +kernel)⟩
def lw_privs_1 : List (MethodName × Nat) := [(⟨"NamesBack$World", "addPlace", "(III)I"⟩, 13), (⟨"NamesBack$World", "has", "(I)Z"⟩, 13), (⟨"NamesBack", "look", "()LNamesBack$Journeys;"⟩, 10), (⟨"NamesBack", "holding", "()LNamesBack$Land;"⟩, 10), (⟨"NamesBack$Journeys", "findSizes", "(LNamesBack$Land;)V"⟩, 15), (⟨"NamesBack$World", "tellFacts", "(I[I)V"⟩, 13), (⟨"NamesBack$World", "roadsOf", "(I)I"⟩, 13), (⟨"NamesBack$Land", "together", "(I[I)I"⟩, 7), (⟨"NamesBack$Land", "holds", "(II[I)Z"⟩, 7), (⟨"NamesBack$Journeys", "findLongs", "()V"⟩, 15), (⟨"NamesBack$Journeys", "findWays", "()V"⟩, 15), (⟨"NamesBack$Journeys", "findTowards", "()V"⟩, 15), (⟨"NamesBack$Journeys", "firstOfWay", "(II)I"⟩, 15), (⟨"NamesBack$Journeys", "leads", "(II)Z"⟩, 15), (⟨"NamesBack$Journeys", "findSteps", "()V"⟩, 15), (⟨"NamesBack$Journeys", "aimAt", "(II)I"⟩, 15)]
theorem lw_r1 : ∀ q ∈ lw_privs_1, lw_okq q := List.forall_mem_cons.mpr ⟨lw_p0, List.forall_mem_cons.mpr ⟨lw_p1, List.forall_mem_cons.mpr ⟨lw_p2, List.forall_mem_cons.mpr ⟨lw_p3, List.forall_mem_cons.mpr ⟨lw_p4, List.forall_mem_cons.mpr ⟨lw_p5, List.forall_mem_cons.mpr ⟨lw_p6, List.forall_mem_cons.mpr ⟨lw_p7, List.forall_mem_cons.mpr ⟨lw_p8, List.forall_mem_cons.mpr ⟨lw_p9, List.forall_mem_cons.mpr ⟨lw_p10, List.forall_mem_cons.mpr ⟨lw_p11, List.forall_mem_cons.mpr ⟨lw_p12, List.forall_mem_cons.mpr ⟨lw_p13, List.forall_mem_cons.mpr ⟨lw_p14, List.forall_mem_cons.mpr ⟨lw_p15, fun _ h => absurd h List.not_mem_nil⟩⟩⟩⟩⟩⟩⟩⟩⟩⟩⟩⟩⟩⟩⟩⟩
theorem lw_p16 : lw_okq (⟨"NamesBack$World", "names", "(II)Z"⟩, 13) := ⟨⟨by decide +kernel, by decide +kernel⟩, List.mem_of_getElem? (i := 33) (by decide +kernel), List.mem_of_getElem? (i := 377) (by decide +kernel), List.mem_of_getElem? (i := 378) (by decide +kernel)⟩
theorem lw_p17 : lw_okq (⟨"NamesBack$Journeys", "capitalOf", "(I)I"⟩, 15) := ⟨⟨by decide +kernel, by decide +kernel⟩, List.mem_of_getElem? (i := 27) (by decide +kernel), List.mem_of_getElem? (i := 381) (by decide +kernel), List.mem_of_getElem? (i := 382) (by decide +kernel)⟩
theorem lw_p18 : lw_okq (⟨"NamesBack$Journeys", "leastNamed", "(I)I"⟩, 15) := ⟨⟨by decide +kernel, by decide +kernel⟩, List.mem_of_getElem? (i := 27) (by decide +kernel), List.mem_of_getElem? (i := 385) (by decide +kernel), List.mem_of_getElem? (i := 386) (by decide +kernel)⟩
theorem lw_p19 : lw_okq (⟨"NamesBack$Journeys", "nearestNamed", "(I)I"⟩, 15) := ⟨⟨by decide +kernel, by decide +kernel⟩, List.mem_of_getElem? (i := 27) (by decide +kernel), List.mem_of_getElem? (i := 389) (by decide +kernel), List.mem_of_getElem? (i := 390) (by decide +kernel)⟩
theorem lw_p20 : lw_okq (⟨"NamesBack$Journeys", "greatestNamed", "(I)I"⟩, 15) := ⟨⟨by decide +kernel, by decide +kernel⟩, List.mem_of_getElem? (i := 27) (by decide +kernel), List.mem_of_getElem? (i := 393) (by decide +kernel), List.mem_of_getElem? (i := 394) (by decide +kernel)⟩
theorem lw_p21 : lw_okq (⟨"NamesBack$Journeys", "lastNamed", "(I)I"⟩, 15) := ⟨⟨by decide +kernel, by decide +kernel⟩, List.mem_of_getElem? (i := 27) (by decide +kernel), List.mem_of_getElem? (i := 397) (by decide +kernel), List.mem_of_getElem? (i := 398) (by decide +kernel)⟩
theorem lw_p22 : lw_okq (⟨"NamesBack$World", "setMiles", "(III)V"⟩, 13) := ⟨⟨by decide +kernel, by decide +kernel⟩, List.mem_of_getElem? (i := 33) (by decide +kernel), List.mem_of_getElem? (i := 407) (by decide +kernel), List.mem_of_getElem? (i := 408) (by decide +kernel)⟩
theorem lw_p23 : lw_okq (⟨"NamesBack", "hasArmFree", "(I)Z"⟩, 10) := ⟨⟨by decide +kernel, by decide +kernel⟩, List.mem_of_getElem? (i := 19) (by decide +kernel), List.mem_of_getElem? (i := 420) (by decide +kernel), List.mem_of_getElem? (i := 421) (by decide +kernel)⟩
theorem lw_p24 : lw_okq (⟨"NamesBack$World", "turnName", "(II)V"⟩, 13) := ⟨⟨by decide +kernel, by decide +kernel⟩, List.mem_of_getElem? (i := 33) (by decide +kernel), List.mem_of_getElem? (i := 425) (by decide +kernel), List.mem_of_getElem? (i := 426) (by decide +kernel)⟩
theorem lw_p25 : lw_okq (⟨"NamesBack$World", "addTraveller", "(III)I"⟩, 13) := ⟨⟨by decide +kernel, by decide +kernel⟩, List.mem_of_getElem? (i := 33) (by decide +kernel), List.mem_of_getElem? (i := 437) (by decide +kernel), List.mem_of_getElem? (i := 438) (by decide +kernel)⟩
theorem lw_p26 : lw_okq (⟨"NamesBack$LandReader", "addSign", "(C)I"⟩, 4) := ⟨⟨by decide +kernel, by decide +kernel⟩, List.mem_of_getElem? (i := 190) (by decide +kernel), List.mem_of_getElem? (i := 445) (by decide +kernel), List.mem_of_getElem? (i := 446) (by decide +kernel)⟩
theorem lw_p27 : lw_okq (⟨"NamesBack$LandReader", "faultOf", "(LNamesBack$Land;)I"⟩, 4) := ⟨⟨by decide +kernel, by decide +kernel⟩, List.mem_of_getElem? (i := 190) (by decide +kernel), List.mem_of_getElem? (i := 453) (by decide +kernel), List.mem_of_getElem? (i := 454) (by decide +kernel)⟩
theorem lw_p28 : lw_okq (⟨"NamesBack$Land", "clear", "()V"⟩, 7) := ⟨⟨by decide +kernel, by decide +kernel⟩, List.mem_of_getElem? (i := 160) (by decide +kernel), List.mem_of_getElem? (i := 457) (by decide +kernel), List.mem_of_getElem? (i := 458) (by decide +kernel)⟩
theorem lw_p29 : lw_okq (⟨"NamesBack$LandReader", "takes", "(C)Z"⟩, 4) := ⟨⟨by decide +kernel, by decide +kernel⟩, List.mem_of_getElem? (i := 190) (by decide +kernel), List.mem_of_getElem? (i := 461) (by decide +kernel), List.mem_of_getElem? (i := 462) (by decide +kernel)⟩
theorem lw_p30 : lw_okq (⟨"NamesBack$LandReader", "ahead", "()C"⟩, 4) := ⟨⟨by decide +kernel, by decide +kernel⟩, List.mem_of_getElem? (i := 190) (by decide +kernel), List.mem_of_getElem? (i := 465) (by decide +kernel), List.mem_of_getElem? (i := 466) (by decide +kernel)⟩
theorem lw_p31 : lw_okq (⟨"NamesBack$LandReader", "readsClause", "()Z"⟩, 4) := ⟨⟨by decide +kernel, by decide +kernel⟩, List.mem_of_getElem? (i := 190) (by decide +kernel), List.mem_of_getElem? (i := 469) (by decide +kernel), List.mem_of_getElem? (i := 470) (by decide +kernel)⟩
def lw_privs_2 : List (MethodName × Nat) := [(⟨"NamesBack$World", "names", "(II)Z"⟩, 13), (⟨"NamesBack$Journeys", "capitalOf", "(I)I"⟩, 15), (⟨"NamesBack$Journeys", "leastNamed", "(I)I"⟩, 15), (⟨"NamesBack$Journeys", "nearestNamed", "(I)I"⟩, 15), (⟨"NamesBack$Journeys", "greatestNamed", "(I)I"⟩, 15), (⟨"NamesBack$Journeys", "lastNamed", "(I)I"⟩, 15), (⟨"NamesBack$World", "setMiles", "(III)V"⟩, 13), (⟨"NamesBack", "hasArmFree", "(I)Z"⟩, 10), (⟨"NamesBack$World", "turnName", "(II)V"⟩, 13), (⟨"NamesBack$World", "addTraveller", "(III)I"⟩, 13), (⟨"NamesBack$LandReader", "addSign", "(C)I"⟩, 4), (⟨"NamesBack$LandReader", "faultOf", "(LNamesBack$Land;)I"⟩, 4), (⟨"NamesBack$Land", "clear", "()V"⟩, 7), (⟨"NamesBack$LandReader", "takes", "(C)Z"⟩, 4), (⟨"NamesBack$LandReader", "ahead", "()C"⟩, 4), (⟨"NamesBack$LandReader", "readsClause", "()Z"⟩, 4)]
theorem lw_r2 : ∀ q ∈ lw_privs_2, lw_okq q := List.forall_mem_cons.mpr ⟨lw_p16, List.forall_mem_cons.mpr ⟨lw_p17, List.forall_mem_cons.mpr ⟨lw_p18, List.forall_mem_cons.mpr ⟨lw_p19, List.forall_mem_cons.mpr ⟨lw_p20, List.forall_mem_cons.mpr ⟨lw_p21, List.forall_mem_cons.mpr ⟨lw_p22, List.forall_mem_cons.mpr ⟨lw_p23, List.forall_mem_cons.mpr ⟨lw_p24, List.forall_mem_cons.mpr ⟨lw_p25, List.forall_mem_cons.mpr ⟨lw_p26, List.forall_mem_cons.mpr ⟨lw_p27, List.forall_mem_cons.mpr ⟨lw_p28, List.forall_mem_cons.mpr ⟨lw_p29, List.forall_mem_cons.mpr ⟨lw_p30, List.forall_mem_cons.mpr ⟨lw_p31, fun _ h => absurd h List.not_mem_nil⟩⟩⟩⟩⟩⟩⟩⟩⟩⟩⟩⟩⟩⟩⟩⟩
theorem lw_p32 : lw_okq (⟨"NamesBack$LandReader", "takesWord", "(Ljava/lang/String;)Z"⟩, 4) := ⟨⟨by decide +kernel, by decide +kernel⟩, List.mem_of_getElem? (i := 190) (by decide +kernel), List.mem_of_getElem? (i := 561) (by decide +kernel), List.mem_of_getElem? (i := 562) (by decide +kernel)⟩
theorem lw_p33 : lw_okq (⟨"NamesBack$LandReader", "takeNumber", "()I"⟩, 4) := ⟨⟨by decide +kernel, by decide +kernel⟩, List.mem_of_getElem? (i := 190) (by decide +kernel), List.mem_of_getElem? (i := 586) (by decide +kernel), List.mem_of_getElem? (i := 587) (by decide +kernel)⟩
theorem lw_p34 : lw_okq (⟨"NamesBack$LandReader", "readsEither", "(I)Z"⟩, 4) := ⟨⟨by decide +kernel, by decide +kernel⟩, List.mem_of_getElem? (i := 190) (by decide +kernel), List.mem_of_getElem? (i := 591) (by decide +kernel), List.mem_of_getElem? (i := 592) (by decide +kernel)⟩
theorem lw_p35 : lw_okq (⟨"NamesBack$LandReader", "readsPart", "(I)Z"⟩, 4) := ⟨⟨by decide +kernel, by decide +kernel⟩, List.mem_of_getElem? (i := 190) (by decide +kernel), List.mem_of_getElem? (i := 595) (by decide +kernel), List.mem_of_getElem? (i := 596) (by decide +kernel)⟩
theorem lw_p36 : lw_okq (⟨"NamesBack$LandReader", "readsTest", "()Z"⟩, 4) := ⟨⟨by decide +kernel, by decide +kernel⟩, List.mem_of_getElem? (i := 190) (by decide +kernel), List.mem_of_getElem? (i := 599) (by decide +kernel), List.mem_of_getElem? (i := 600) (by decide +kernel)⟩
theorem lw_p37 : lw_okq (⟨"NamesBack$Land", "addTest", "(III)V"⟩, 7) := ⟨⟨by decide +kernel, by decide +kernel⟩, List.mem_of_getElem? (i := 160) (by decide +kernel), List.mem_of_getElem? (i := 605) (by decide +kernel), List.mem_of_getElem? (i := 606) (by decide +kernel)⟩
theorem lw_p38 : lw_okq (⟨"NamesBack$Land", "addCode", "(I)V"⟩, 7) := ⟨⟨by decide +kernel, by decide +kernel⟩, List.mem_of_getElem? (i := 160) (by decide +kernel), List.mem_of_getElem? (i := 609) (by decide +kernel), List.mem_of_getElem? (i := 610) (by decide +kernel)⟩
theorem lw_p39 : lw_okq (⟨"NamesBack$Land", "addClause", "(II)V"⟩, 7) := ⟨⟨by decide +kernel, by decide +kernel⟩, List.mem_of_getElem? (i := 160) (by decide +kernel), List.mem_of_getElem? (i := 614) (by decide +kernel), List.mem_of_getElem? (i := 615) (by decide +kernel)⟩
theorem lw_p40 : lw_okq (⟨"NamesBack$LandReader", "empty", "()V"⟩, 4) := ⟨⟨by decide +kernel, by decide +kernel⟩, List.mem_of_getElem? (i := 190) (by decide +kernel), List.mem_of_getElem? (i := 618) (by decide +kernel), List.mem_of_getElem? (i := 619) (by decide +kernel)⟩
theorem lw_p41 : lw_okq (⟨"NamesBack$World", "countNames", "()I"⟩, 13) := ⟨⟨by decide +kernel, by decide +kernel⟩, List.mem_of_getElem? (i := 33) (by decide +kernel), List.mem_of_getElem? (i := 627) (by decide +kernel), List.mem_of_getElem? (i := 628) (by decide +kernel)⟩
theorem lw_p42 : lw_okq (⟨"NamesBack$Journeys", "walk", "(II)I"⟩, 15) := ⟨⟨by decide +kernel, by decide +kernel⟩, List.mem_of_getElem? (i := 27) (by decide +kernel), List.mem_of_getElem? (i := 651) (by decide +kernel), List.mem_of_getElem? (i := 652) (by decide +kernel)⟩
theorem lw_p43 : lw_okq (⟨"NamesBack$Journeys", "lostTravellers", "()I"⟩, 15) := ⟨⟨by decide +kernel, by decide +kernel⟩, List.mem_of_getElem? (i := 27) (by decide +kernel), List.mem_of_getElem? (i := 659) (by decide +kernel), List.mem_of_getElem? (i := 660) (by decide +kernel)⟩
theorem lw_p44 : lw_okq (⟨"NamesBack$Journeys", "lostPairs", "()I"⟩, 15) := ⟨⟨by decide +kernel, by decide +kernel⟩, List.mem_of_getElem? (i := 27) (by decide +kernel), List.mem_of_getElem? (i := 664) (by decide +kernel), List.mem_of_getElem? (i := 665) (by decide +kernel)⟩
theorem lw_p45 : lw_okq (⟨"NamesBack$Journeys", "longestPair", "()I"⟩, 15) := ⟨⟨by decide +kernel, by decide +kernel⟩, List.mem_of_getElem? (i := 27) (by decide +kernel), List.mem_of_getElem? (i := 672) (by decide +kernel), List.mem_of_getElem? (i := 673) (by decide +kernel)⟩
theorem lw_p46 : lw_okq (⟨"NamesBack", "bestTurn", "(ZI)I"⟩, 10) := ⟨⟨by decide +kernel, by decide +kernel⟩, List.mem_of_getElem? (i := 19) (by decide +kernel), List.mem_of_getElem? (i := 680) (by decide +kernel), List.mem_of_getElem? (i := 681) (by decide +kernel)⟩
theorem lw_p47 : lw_okq (⟨"NamesBack", "mayName", "(II)Z"⟩, 10) := ⟨⟨by decide +kernel, by decide +kernel⟩, List.mem_of_getElem? (i := 19) (by decide +kernel), List.mem_of_getElem? (i := 684) (by decide +kernel), List.mem_of_getElem? (i := 685) (by decide +kernel)⟩
def lw_privs_3 : List (MethodName × Nat) := [(⟨"NamesBack$LandReader", "takesWord", "(Ljava/lang/String;)Z"⟩, 4), (⟨"NamesBack$LandReader", "takeNumber", "()I"⟩, 4), (⟨"NamesBack$LandReader", "readsEither", "(I)Z"⟩, 4), (⟨"NamesBack$LandReader", "readsPart", "(I)Z"⟩, 4), (⟨"NamesBack$LandReader", "readsTest", "()Z"⟩, 4), (⟨"NamesBack$Land", "addTest", "(III)V"⟩, 7), (⟨"NamesBack$Land", "addCode", "(I)V"⟩, 7), (⟨"NamesBack$Land", "addClause", "(II)V"⟩, 7), (⟨"NamesBack$LandReader", "empty", "()V"⟩, 4), (⟨"NamesBack$World", "countNames", "()I"⟩, 13), (⟨"NamesBack$Journeys", "walk", "(II)I"⟩, 15), (⟨"NamesBack$Journeys", "lostTravellers", "()I"⟩, 15), (⟨"NamesBack$Journeys", "lostPairs", "()I"⟩, 15), (⟨"NamesBack$Journeys", "longestPair", "()I"⟩, 15), (⟨"NamesBack", "bestTurn", "(ZI)I"⟩, 10), (⟨"NamesBack", "mayName", "(II)Z"⟩, 10)]
theorem lw_r3 : ∀ q ∈ lw_privs_3, lw_okq q := List.forall_mem_cons.mpr ⟨lw_p32, List.forall_mem_cons.mpr ⟨lw_p33, List.forall_mem_cons.mpr ⟨lw_p34, List.forall_mem_cons.mpr ⟨lw_p35, List.forall_mem_cons.mpr ⟨lw_p36, List.forall_mem_cons.mpr ⟨lw_p37, List.forall_mem_cons.mpr ⟨lw_p38, List.forall_mem_cons.mpr ⟨lw_p39, List.forall_mem_cons.mpr ⟨lw_p40, List.forall_mem_cons.mpr ⟨lw_p41, List.forall_mem_cons.mpr ⟨lw_p42, List.forall_mem_cons.mpr ⟨lw_p43, List.forall_mem_cons.mpr ⟨lw_p44, List.forall_mem_cons.mpr ⟨lw_p45, List.forall_mem_cons.mpr ⟨lw_p46, List.forall_mem_cons.mpr ⟨lw_p47, fun _ h => absurd h List.not_mem_nil⟩⟩⟩⟩⟩⟩⟩⟩⟩⟩⟩⟩⟩⟩⟩⟩
theorem lw_p48 : lw_okq (⟨"NamesBack$Journeys", "setFalseArm", "(II)V"⟩, 15) := ⟨⟨by decide +kernel, by decide +kernel⟩, List.mem_of_getElem? (i := 27) (by decide +kernel), List.mem_of_getElem? (i := 696) (by decide +kernel), List.mem_of_getElem? (i := 697) (by decide +kernel)⟩
theorem lw_p49 : lw_okq (⟨"NamesBack$Journeys", "behind", "(I)I"⟩, 15) := ⟨⟨by decide +kernel, by decide +kernel⟩, List.mem_of_getElem? (i := 27) (by decide +kernel), List.mem_of_getElem? (i := 700) (by decide +kernel), List.mem_of_getElem? (i := 701) (by decide +kernel)⟩
theorem lw_p50 : lw_okq (⟨"NamesBack$Journeys", "dropFalseArm", "()V"⟩, 15) := ⟨⟨by decide +kernel, by decide +kernel⟩, List.mem_of_getElem? (i := 27) (by decide +kernel), List.mem_of_getElem? (i := 704) (by decide +kernel), List.mem_of_getElem? (i := 705) (by decide +kernel)⟩
theorem lw_p51 : lw_okq (⟨"NamesBack$World", "comeToBy", "(II)I"⟩, 13) := ⟨⟨by decide +kernel, by decide +kernel⟩, List.mem_of_getElem? (i := 33) (by decide +kernel), List.mem_of_getElem? (i := 712) (by decide +kernel), List.mem_of_getElem? (i := 713) (by decide +kernel)⟩
theorem lw_p52 : lw_okq (⟨"NamesBack$Journeys", "allWays", "()I"⟩, 15) := ⟨⟨by decide +kernel, by decide +kernel⟩, List.mem_of_getElem? (i := 27) (by decide +kernel), List.mem_of_getElem? (i := 728) (by decide +kernel), List.mem_of_getElem? (i := 729) (by decide +kernel)⟩
theorem lw_p53 : lw_okq (⟨"NamesBack", "allWaysWith", "(III)I"⟩, 10) := ⟨⟨by decide +kernel, by decide +kernel⟩, List.mem_of_getElem? (i := 19) (by decide +kernel), List.mem_of_getElem? (i := 732) (by decide +kernel), List.mem_of_getElem? (i := 733) (by decide +kernel)⟩
theorem lw_p54 : lw_okq (⟨"NamesBack$Journeys", "sharesAt", "(III)J"⟩, 15) := ⟨⟨by decide +kernel, by decide +kernel⟩, List.mem_of_getElem? (i := 27) (by decide +kernel), List.mem_of_getElem? (i := 745) (by decide +kernel), List.mem_of_getElem? (i := 746) (by decide +kernel)⟩
theorem lw_p55 : lw_okq (⟨"NamesBack$Journeys", "spread", "(I)V"⟩, 15) := ⟨⟨by decide +kernel, by decide +kernel⟩, List.mem_of_getElem? (i := 27) (by decide +kernel), List.mem_of_getElem? (i := 752) (by decide +kernel), List.mem_of_getElem? (i := 753) (by decide +kernel)⟩
theorem lw_p56 : lw_okq (⟨"NamesBack$World", "becomeAs", "(LNamesBack$World;)V"⟩, 13) := ⟨⟨by decide +kernel, by decide +kernel⟩, List.mem_of_getElem? (i := 33) (by decide +kernel), List.mem_of_getElem? (i := 788) (by decide +kernel), List.mem_of_getElem? (i := 789) (by decide +kernel)⟩
theorem lw_p57 : lw_okq (⟨"NamesBack$Acts", "forget", "()V"⟩, 5) := ⟨⟨by decide +kernel, by decide +kernel⟩, List.mem_of_getElem? (i := 213) (by decide +kernel), List.mem_of_getElem? (i := 801) (by decide +kernel), List.mem_of_getElem? (i := 802) (by decide +kernel)⟩
theorem lw_p58 : lw_okq (⟨"NamesBack$Acts", "standAt", "(III)V"⟩, 5) := ⟨⟨by decide +kernel, by decide +kernel⟩, List.mem_of_getElem? (i := 213) (by decide +kernel), List.mem_of_getElem? (i := 805) (by decide +kernel), List.mem_of_getElem? (i := 806) (by decide +kernel)⟩
theorem lw_p59 : lw_okq (⟨"NamesBack$Acts", "points", "(III)I"⟩, 5) := ⟨⟨by decide +kernel, by decide +kernel⟩, List.mem_of_getElem? (i := 213) (by decide +kernel), List.mem_of_getElem? (i := 809) (by decide +kernel), List.mem_of_getElem? (i := 810) (by decide +kernel)⟩
theorem lw_p60 : lw_okq (⟨"NamesBack$Acts", "begin", "(I)V"⟩, 5) := ⟨⟨by decide +kernel, by decide +kernel⟩, List.mem_of_getElem? (i := 213) (by decide +kernel), List.mem_of_getElem? (i := 813) (by decide +kernel), List.mem_of_getElem? (i := 814) (by decide +kernel)⟩
theorem lw_p61 : lw_okq (⟨"NamesBack$Acts", "names", "(III)I"⟩, 5) := ⟨⟨by decide +kernel, by decide +kernel⟩, List.mem_of_getElem? (i := 213) (by decide +kernel), List.mem_of_getElem? (i := 818) (by decide +kernel), List.mem_of_getElem? (i := 819) (by decide +kernel)⟩
theorem lw_p62 : lw_okq (⟨"NamesBack$Acts", "tells", "(III)I"⟩, 5) := ⟨⟨by decide +kernel, by decide +kernel⟩, List.mem_of_getElem? (i := 213) (by decide +kernel), List.mem_of_getElem? (i := 823) (by decide +kernel), List.mem_of_getElem? (i := 824) (by decide +kernel)⟩
theorem lw_p63 : lw_okq (⟨"NamesBack$Tape", "become", "(II)V"⟩, 3) := ⟨⟨by decide +kernel, by decide +kernel⟩, List.mem_of_getElem? (i := 238) (by decide +kernel), List.mem_of_getElem? (i := 849) (by decide +kernel), List.mem_of_getElem? (i := 850) (by decide +kernel)⟩
def lw_privs_4 : List (MethodName × Nat) := [(⟨"NamesBack$Journeys", "setFalseArm", "(II)V"⟩, 15), (⟨"NamesBack$Journeys", "behind", "(I)I"⟩, 15), (⟨"NamesBack$Journeys", "dropFalseArm", "()V"⟩, 15), (⟨"NamesBack$World", "comeToBy", "(II)I"⟩, 13), (⟨"NamesBack$Journeys", "allWays", "()I"⟩, 15), (⟨"NamesBack", "allWaysWith", "(III)I"⟩, 10), (⟨"NamesBack$Journeys", "sharesAt", "(III)J"⟩, 15), (⟨"NamesBack$Journeys", "spread", "(I)V"⟩, 15), (⟨"NamesBack$World", "becomeAs", "(LNamesBack$World;)V"⟩, 13), (⟨"NamesBack$Acts", "forget", "()V"⟩, 5), (⟨"NamesBack$Acts", "standAt", "(III)V"⟩, 5), (⟨"NamesBack$Acts", "points", "(III)I"⟩, 5), (⟨"NamesBack$Acts", "begin", "(I)V"⟩, 5), (⟨"NamesBack$Acts", "names", "(III)I"⟩, 5), (⟨"NamesBack$Acts", "tells", "(III)I"⟩, 5), (⟨"NamesBack$Tape", "become", "(II)V"⟩, 3)]
theorem lw_r4 : ∀ q ∈ lw_privs_4, lw_okq q := List.forall_mem_cons.mpr ⟨lw_p48, List.forall_mem_cons.mpr ⟨lw_p49, List.forall_mem_cons.mpr ⟨lw_p50, List.forall_mem_cons.mpr ⟨lw_p51, List.forall_mem_cons.mpr ⟨lw_p52, List.forall_mem_cons.mpr ⟨lw_p53, List.forall_mem_cons.mpr ⟨lw_p54, List.forall_mem_cons.mpr ⟨lw_p55, List.forall_mem_cons.mpr ⟨lw_p56, List.forall_mem_cons.mpr ⟨lw_p57, List.forall_mem_cons.mpr ⟨lw_p58, List.forall_mem_cons.mpr ⟨lw_p59, List.forall_mem_cons.mpr ⟨lw_p60, List.forall_mem_cons.mpr ⟨lw_p61, List.forall_mem_cons.mpr ⟨lw_p62, List.forall_mem_cons.mpr ⟨lw_p63, fun _ h => absurd h List.not_mem_nil⟩⟩⟩⟩⟩⟩⟩⟩⟩⟩⟩⟩⟩⟩⟩⟩
theorem lw_p64 : lw_okq (⟨"NamesBack$Tape", "spans", "(II)Z"⟩, 3) := ⟨⟨by decide +kernel, by decide +kernel⟩, List.mem_of_getElem? (i := 238) (by decide +kernel), List.mem_of_getElem? (i := 858) (by decide +kernel), List.mem_of_getElem? (i := 859) (by decide +kernel)⟩
theorem lw_p65 : lw_okq (⟨"NamesBack$Tape", "asItem", "(J)J"⟩, 3) := ⟨⟨by decide +kernel, by decide +kernel⟩, List.mem_of_getElem? (i := 238) (by decide +kernel), List.mem_of_getElem? (i := 862) (by decide +kernel), List.mem_of_getElem? (i := 863) (by decide +kernel)⟩
theorem lw_p66 : lw_okq (⟨"NamesBackModel", "in", "(III)Z"⟩, 61) := ⟨⟨by decide +kernel, by decide +kernel⟩, List.mem_of_getElem? (i := 875) (by decide +kernel), List.mem_of_getElem? (i := 1070) (by decide +kernel), List.mem_of_getElem? (i := 1071) (by decide +kernel)⟩
theorem lw_p67 : lw_okq (⟨"NamesBackModel", "arePlaces", "(II)Z"⟩, 61) := ⟨⟨by decide +kernel, by decide +kernel⟩, List.mem_of_getElem? (i := 875) (by decide +kernel), List.mem_of_getElem? (i := 1078) (by decide +kernel), List.mem_of_getElem? (i := 1079) (by decide +kernel)⟩
theorem lw_p68 : lw_okq (⟨"NamesBackModel", "isPlace", "(I)Z"⟩, 61) := ⟨⟨by decide +kernel, by decide +kernel⟩, List.mem_of_getElem? (i := 875) (by decide +kernel), List.mem_of_getElem? (i := 1082) (by decide +kernel), List.mem_of_getElem? (i := 1083) (by decide +kernel)⟩
theorem lw_p69 : lw_okq (⟨"NamesBackModel", "has", "(II)Z"⟩, 61) := ⟨⟨by decide +kernel, by decide +kernel⟩, List.mem_of_getElem? (i := 875) (by decide +kernel), List.mem_of_getElem? (i := 1090) (by decide +kernel), List.mem_of_getElem? (i := 1091) (by decide +kernel)⟩
theorem lw_p70 : lw_okq (⟨"NamesBackModel", "ones", "(I)I"⟩, 61) := ⟨⟨by decide +kernel, by decide +kernel⟩, List.mem_of_getElem? (i := 875) (by decide +kernel), List.mem_of_getElem? (i := 1094) (by decide +kernel), List.mem_of_getElem? (i := 1095) (by decide +kernel)⟩
theorem lw_p71 : lw_okq (⟨"NamesBackModel", "armsNow", "()I"⟩, 61) := ⟨⟨by decide +kernel, by decide +kernel⟩, List.mem_of_getElem? (i := 875) (by decide +kernel), List.mem_of_getElem? (i := 1098) (by decide +kernel), List.mem_of_getElem? (i := 1099) (by decide +kernel)⟩
theorem lw_p72 : lw_okq (⟨"NamesBackModel", "begin", "()I"⟩, 61) := ⟨⟨by decide +kernel, by decide +kernel⟩, List.mem_of_getElem? (i := 875) (by decide +kernel), List.mem_of_getElem? (i := 1102) (by decide +kernel), List.mem_of_getElem? (i := 1103) (by decide +kernel)⟩
theorem lw_p73 : lw_okq (⟨"NamesBackModel", "behind", "()I"⟩, 61) := ⟨⟨by decide +kernel, by decide +kernel⟩, List.mem_of_getElem? (i := 875) (by decide +kernel), List.mem_of_getElem? (i := 1106) (by decide +kernel), List.mem_of_getElem? (i := 1107) (by decide +kernel)⟩
theorem lw_p74 : lw_okq (⟨"NamesBackModel", "lays", "(IIZ)V"⟩, 61) := ⟨⟨by decide +kernel, by decide +kernel⟩, List.mem_of_getElem? (i := 875) (by decide +kernel), List.mem_of_getElem? (i := 1110) (by decide +kernel), List.mem_of_getElem? (i := 1111) (by decide +kernel)⟩
theorem lw_p75 : lw_okq (⟨"NamesBackModel", "goesText", "(I)Z"⟩, 61) := ⟨⟨by decide +kernel, by decide +kernel⟩, List.mem_of_getElem? (i := 875) (by decide +kernel), List.mem_of_getElem? (i := 1130) (by decide +kernel), List.mem_of_getElem? (i := 1131) (by decide +kernel)⟩
theorem lw_p76 : lw_okq (⟨"NamesBackModel", "takesClause", "(I)Z"⟩, 61) := ⟨⟨by decide +kernel, by decide +kernel⟩, List.mem_of_getElem? (i := 875) (by decide +kernel), List.mem_of_getElem? (i := 1134) (by decide +kernel), List.mem_of_getElem? (i := 1135) (by decide +kernel)⟩
theorem lw_p77 : lw_okq (⟨"NamesBackModel", "takesHead", "(I)Z"⟩, 61) := ⟨⟨by decide +kernel, by decide +kernel⟩, List.mem_of_getElem? (i := 875) (by decide +kernel), List.mem_of_getElem? (i := 1138) (by decide +kernel), List.mem_of_getElem? (i := 1139) (by decide +kernel)⟩
theorem lw_p78 : lw_okq (⟨"NamesBackModel", "peek", "()I"⟩, 61) := ⟨⟨by decide +kernel, by decide +kernel⟩, List.mem_of_getElem? (i := 875) (by decide +kernel), List.mem_of_getElem? (i := 1142) (by decide +kernel), List.mem_of_getElem? (i := 1143) (by decide +kernel)⟩
theorem lw_p79 : lw_okq (⟨"NamesBackModel", "takesWord", "(II)Z"⟩, 61) := ⟨⟨by decide +kernel, by decide +kernel⟩, List.mem_of_getElem? (i := 875) (by decide +kernel), List.mem_of_getElem? (i := 1146) (by decide +kernel), List.mem_of_getElem? (i := 1147) (by decide +kernel)⟩
def lw_privs_5 : List (MethodName × Nat) := [(⟨"NamesBack$Tape", "spans", "(II)Z"⟩, 3), (⟨"NamesBack$Tape", "asItem", "(J)J"⟩, 3), (⟨"NamesBackModel", "in", "(III)Z"⟩, 61), (⟨"NamesBackModel", "arePlaces", "(II)Z"⟩, 61), (⟨"NamesBackModel", "isPlace", "(I)Z"⟩, 61), (⟨"NamesBackModel", "has", "(II)Z"⟩, 61), (⟨"NamesBackModel", "ones", "(I)I"⟩, 61), (⟨"NamesBackModel", "armsNow", "()I"⟩, 61), (⟨"NamesBackModel", "begin", "()I"⟩, 61), (⟨"NamesBackModel", "behind", "()I"⟩, 61), (⟨"NamesBackModel", "lays", "(IIZ)V"⟩, 61), (⟨"NamesBackModel", "goesText", "(I)Z"⟩, 61), (⟨"NamesBackModel", "takesClause", "(I)Z"⟩, 61), (⟨"NamesBackModel", "takesHead", "(I)Z"⟩, 61), (⟨"NamesBackModel", "peek", "()I"⟩, 61), (⟨"NamesBackModel", "takesWord", "(II)Z"⟩, 61)]
theorem lw_r5 : ∀ q ∈ lw_privs_5, lw_okq q := List.forall_mem_cons.mpr ⟨lw_p64, List.forall_mem_cons.mpr ⟨lw_p65, List.forall_mem_cons.mpr ⟨lw_p66, List.forall_mem_cons.mpr ⟨lw_p67, List.forall_mem_cons.mpr ⟨lw_p68, List.forall_mem_cons.mpr ⟨lw_p69, List.forall_mem_cons.mpr ⟨lw_p70, List.forall_mem_cons.mpr ⟨lw_p71, List.forall_mem_cons.mpr ⟨lw_p72, List.forall_mem_cons.mpr ⟨lw_p73, List.forall_mem_cons.mpr ⟨lw_p74, List.forall_mem_cons.mpr ⟨lw_p75, List.forall_mem_cons.mpr ⟨lw_p76, List.forall_mem_cons.mpr ⟨lw_p77, List.forall_mem_cons.mpr ⟨lw_p78, List.forall_mem_cons.mpr ⟨lw_p79, fun _ h => absurd h List.not_mem_nil⟩⟩⟩⟩⟩⟩⟩⟩⟩⟩⟩⟩⟩⟩⟩⟩
theorem lw_p80 : lw_okq (⟨"NamesBackModel", "takes", "(I)Z"⟩, 61) := ⟨⟨by decide +kernel, by decide +kernel⟩, List.mem_of_getElem? (i := 875) (by decide +kernel), List.mem_of_getElem? (i := 1150) (by decide +kernel), List.mem_of_getElem? (i := 1151) (by decide +kernel)⟩
theorem lw_p81 : lw_okq (⟨"NamesBackModel", "takesNumber", "()Z"⟩, 61) := ⟨⟨by decide +kernel, by decide +kernel⟩, List.mem_of_getElem? (i := 875) (by decide +kernel), List.mem_of_getElem? (i := 1154) (by decide +kernel), List.mem_of_getElem? (i := 1155) (by decide +kernel)⟩
theorem lw_p82 : lw_okq (⟨"NamesBackModel", "isDigit", "()Z"⟩, 61) := ⟨⟨by decide +kernel, by decide +kernel⟩, List.mem_of_getElem? (i := 875) (by decide +kernel), List.mem_of_getElem? (i := 1158) (by decide +kernel), List.mem_of_getElem? (i := 1159) (by decide +kernel)⟩
theorem lw_p83 : lw_okq (⟨"NamesBackModel", "takesE", "(I)Z"⟩, 61) := ⟨⟨by decide +kernel, by decide +kernel⟩, List.mem_of_getElem? (i := 875) (by decide +kernel), List.mem_of_getElem? (i := 1162) (by decide +kernel), List.mem_of_getElem? (i := 1163) (by decide +kernel)⟩
theorem lw_p84 : lw_okq (⟨"NamesBackModel", "takesTest", "()Z"⟩, 61) := ⟨⟨by decide +kernel, by decide +kernel⟩, List.mem_of_getElem? (i := 875) (by decide +kernel), List.mem_of_getElem? (i := 1166) (by decide +kernel), List.mem_of_getElem? (i := 1167) (by decide +kernel)⟩
theorem lw_p85 : lw_okq (⟨"NamesBackModel", "letterOf", "(I)I"⟩, 61) := ⟨⟨by decide +kernel, by decide +kernel⟩, List.mem_of_getElem? (i := 875) (by decide +kernel), List.mem_of_getElem? (i := 1170) (by decide +kernel), List.mem_of_getElem? (i := 1171) (by decide +kernel)⟩
theorem lw_p86 : lw_okq (⟨"NamesBackModel", "emits", "(I)V"⟩, 61) := ⟨⟨by decide +kernel, by decide +kernel⟩, List.mem_of_getElem? (i := 875) (by decide +kernel), List.mem_of_getElem? (i := 1174) (by decide +kernel), List.mem_of_getElem? (i := 1175) (by decide +kernel)⟩
theorem lw_p87 : lw_okq (⟨"NamesBackModel", "whole", "()V"⟩, 61) := ⟨⟨by decide +kernel, by decide +kernel⟩, List.mem_of_getElem? (i := 875) (by decide +kernel), List.mem_of_getElem? (i := 1178) (by decide +kernel), List.mem_of_getElem? (i := 1179) (by decide +kernel)⟩
theorem lw_p88 : lw_okq (⟨"NamesBackModel", "settle", "(I)V"⟩, 61) := ⟨⟨by decide +kernel, by decide +kernel⟩, List.mem_of_getElem? (i := 875) (by decide +kernel), List.mem_of_getElem? (i := 1182) (by decide +kernel), List.mem_of_getElem? (i := 1183) (by decide +kernel)⟩
theorem lw_p89 : lw_okq (⟨"NamesBackModel", "sumOf", "(II)I"⟩, 61) := ⟨⟨by decide +kernel, by decide +kernel⟩, List.mem_of_getElem? (i := 875) (by decide +kernel), List.mem_of_getElem? (i := 1190) (by decide +kernel), List.mem_of_getElem? (i := 1191) (by decide +kernel)⟩
theorem lw_p90 : lw_okq (⟨"NamesBackModel", "holds", "(II)Z"⟩, 61) := ⟨⟨by decide +kernel, by decide +kernel⟩, List.mem_of_getElem? (i := 875) (by decide +kernel), List.mem_of_getElem? (i := 1194) (by decide +kernel), List.mem_of_getElem? (i := 1195) (by decide +kernel)⟩
theorem lw_p91 : lw_okq (⟨"NamesBackModel", "factOf", "(II)I"⟩, 61) := ⟨⟨by decide +kernel, by decide +kernel⟩, List.mem_of_getElem? (i := 875) (by decide +kernel), List.mem_of_getElem? (i := 1198) (by decide +kernel), List.mem_of_getElem? (i := 1199) (by decide +kernel)⟩
theorem lw_p92 : lw_okq (⟨"NamesBackModel", "roadsOf", "(I)I"⟩, 61) := ⟨⟨by decide +kernel, by decide +kernel⟩, List.mem_of_getElem? (i := 875) (by decide +kernel), List.mem_of_getElem? (i := 1202) (by decide +kernel), List.mem_of_getElem? (i := 1203) (by decide +kernel)⟩
theorem lw_p93 : lw_okq (⟨"NamesBackModel", "namesNow", "()I"⟩, 61) := ⟨⟨by decide +kernel, by decide +kernel⟩, List.mem_of_getElem? (i := 875) (by decide +kernel), List.mem_of_getElem? (i := 1210) (by decide +kernel), List.mem_of_getElem? (i := 1211) (by decide +kernel)⟩
theorem lw_p94 : lw_okq (⟨"NamesBackModel", "layLand", "()V"⟩, 61) := ⟨⟨by decide +kernel, by decide +kernel⟩, List.mem_of_getElem? (i := 875) (by decide +kernel), List.mem_of_getElem? (i := 1218) (by decide +kernel), List.mem_of_getElem? (i := 1219) (by decide +kernel)⟩
theorem lw_p95 : lw_okq (⟨"NamesBackModel", "shorten", "(III)V"⟩, 61) := ⟨⟨by decide +kernel, by decide +kernel⟩, List.mem_of_getElem? (i := 875) (by decide +kernel), List.mem_of_getElem? (i := 1222) (by decide +kernel), List.mem_of_getElem? (i := 1223) (by decide +kernel)⟩
def lw_privs_6 : List (MethodName × Nat) := [(⟨"NamesBackModel", "takes", "(I)Z"⟩, 61), (⟨"NamesBackModel", "takesNumber", "()Z"⟩, 61), (⟨"NamesBackModel", "isDigit", "()Z"⟩, 61), (⟨"NamesBackModel", "takesE", "(I)Z"⟩, 61), (⟨"NamesBackModel", "takesTest", "()Z"⟩, 61), (⟨"NamesBackModel", "letterOf", "(I)I"⟩, 61), (⟨"NamesBackModel", "emits", "(I)V"⟩, 61), (⟨"NamesBackModel", "whole", "()V"⟩, 61), (⟨"NamesBackModel", "settle", "(I)V"⟩, 61), (⟨"NamesBackModel", "sumOf", "(II)I"⟩, 61), (⟨"NamesBackModel", "holds", "(II)Z"⟩, 61), (⟨"NamesBackModel", "factOf", "(II)I"⟩, 61), (⟨"NamesBackModel", "roadsOf", "(I)I"⟩, 61), (⟨"NamesBackModel", "namesNow", "()I"⟩, 61), (⟨"NamesBackModel", "layLand", "()V"⟩, 61), (⟨"NamesBackModel", "shorten", "(III)V"⟩, 61)]
theorem lw_r6 : ∀ q ∈ lw_privs_6, lw_okq q := List.forall_mem_cons.mpr ⟨lw_p80, List.forall_mem_cons.mpr ⟨lw_p81, List.forall_mem_cons.mpr ⟨lw_p82, List.forall_mem_cons.mpr ⟨lw_p83, List.forall_mem_cons.mpr ⟨lw_p84, List.forall_mem_cons.mpr ⟨lw_p85, List.forall_mem_cons.mpr ⟨lw_p86, List.forall_mem_cons.mpr ⟨lw_p87, List.forall_mem_cons.mpr ⟨lw_p88, List.forall_mem_cons.mpr ⟨lw_p89, List.forall_mem_cons.mpr ⟨lw_p90, List.forall_mem_cons.mpr ⟨lw_p91, List.forall_mem_cons.mpr ⟨lw_p92, List.forall_mem_cons.mpr ⟨lw_p93, List.forall_mem_cons.mpr ⟨lw_p94, List.forall_mem_cons.mpr ⟨lw_p95, fun _ h => absurd h List.not_mem_nil⟩⟩⟩⟩⟩⟩⟩⟩⟩⟩⟩⟩⟩⟩⟩⟩
theorem lw_p96 : lw_okq (⟨"NamesBackModel", "towardOf", "(II)I"⟩, 61) := ⟨⟨by decide +kernel, by decide +kernel⟩, List.mem_of_getElem? (i := 875) (by decide +kernel), List.mem_of_getElem? (i := 1234) (by decide +kernel), List.mem_of_getElem? (i := 1235) (by decide +kernel)⟩
theorem lw_p97 : lw_okq (⟨"NamesBackModel", "nextOf", "(II)I"⟩, 61) := ⟨⟨by decide +kernel, by decide +kernel⟩, List.mem_of_getElem? (i := 875) (by decide +kernel), List.mem_of_getElem? (i := 1242) (by decide +kernel), List.mem_of_getElem? (i := 1243) (by decide +kernel)⟩
theorem lw_p98 : lw_okq (⟨"NamesBackModel", "goalOf", "(II)I"⟩, 61) := ⟨⟨by decide +kernel, by decide +kernel⟩, List.mem_of_getElem? (i := 875) (by decide +kernel), List.mem_of_getElem? (i := 1246) (by decide +kernel), List.mem_of_getElem? (i := 1247) (by decide +kernel)⟩
theorem lw_p99 : lw_okq (⟨"NamesBackModel", "nearestNamed", "(I)I"⟩, 61) := ⟨⟨by decide +kernel, by decide +kernel⟩, List.mem_of_getElem? (i := 875) (by decide +kernel), List.mem_of_getElem? (i := 1250) (by decide +kernel), List.mem_of_getElem? (i := 1251) (by decide +kernel)⟩
theorem lw_p100 : lw_okq (⟨"NamesBackModel", "greatestNamed", "(I)I"⟩, 61) := ⟨⟨by decide +kernel, by decide +kernel⟩, List.mem_of_getElem? (i := 875) (by decide +kernel), List.mem_of_getElem? (i := 1254) (by decide +kernel), List.mem_of_getElem? (i := 1255) (by decide +kernel)⟩
theorem lw_p101 : lw_okq (⟨"NamesBackModel", "lastNamed", "(I)I"⟩, 61) := ⟨⟨by decide +kernel, by decide +kernel⟩, List.mem_of_getElem? (i := 875) (by decide +kernel), List.mem_of_getElem? (i := 1258) (by decide +kernel), List.mem_of_getElem? (i := 1259) (by decide +kernel)⟩
theorem lw_p102 : lw_okq (⟨"NamesBackModel", "leastNamed", "(I)I"⟩, 61) := ⟨⟨by decide +kernel, by decide +kernel⟩, List.mem_of_getElem? (i := 875) (by decide +kernel), List.mem_of_getElem? (i := 1262) (by decide +kernel), List.mem_of_getElem? (i := 1263) (by decide +kernel)⟩
theorem lw_p103 : lw_okq (⟨"NamesBackModel", "turnedTo", "()I"⟩, 61) := ⟨⟨by decide +kernel, by decide +kernel⟩, List.mem_of_getElem? (i := 875) (by decide +kernel), List.mem_of_getElem? (i := 1266) (by decide +kernel), List.mem_of_getElem? (i := 1267) (by decide +kernel)⟩
theorem lw_p104 : lw_okq (⟨"NamesBackModel", "goes", "(II)Z"⟩, 61) := ⟨⟨by decide +kernel, by decide +kernel⟩, List.mem_of_getElem? (i := 875) (by decide +kernel), List.mem_of_getElem? (i := 1274) (by decide +kernel), List.mem_of_getElem? (i := 1275) (by decide +kernel)⟩
theorem lw_p105 : lw_okq (⟨"NamesBackModel", "lostMany", "()I"⟩, 61) := ⟨⟨by decide +kernel, by decide +kernel⟩, List.mem_of_getElem? (i := 875) (by decide +kernel), List.mem_of_getElem? (i := 1282) (by decide +kernel), List.mem_of_getElem? (i := 1283) (by decide +kernel)⟩
theorem lw_p106 : lw_okq (⟨"NamesBackModel", "lostPairs", "()I"⟩, 61) := ⟨⟨by decide +kernel, by decide +kernel⟩, List.mem_of_getElem? (i := 875) (by decide +kernel), List.mem_of_getElem? (i := 1286) (by decide +kernel), List.mem_of_getElem? (i := 1287) (by decide +kernel)⟩
theorem lw_p107 : lw_okq (⟨"NamesBackModel", "chainOf", "(II)I"⟩, 61) := ⟨⟨by decide +kernel, by decide +kernel⟩, List.mem_of_getElem? (i := 875) (by decide +kernel), List.mem_of_getElem? (i := 1310) (by decide +kernel), List.mem_of_getElem? (i := 1311) (by decide +kernel)⟩
theorem lw_p108 : lw_okq (⟨"NamesBackModel", "allWays", "()I"⟩, 61) := ⟨⟨by decide +kernel, by decide +kernel⟩, List.mem_of_getElem? (i := 875) (by decide +kernel), List.mem_of_getElem? (i := 1326) (by decide +kernel), List.mem_of_getElem? (i := 1327) (by decide +kernel)⟩
theorem lw_p109 : lw_okq (⟨"NamesBackModel", "goStep", "()V"⟩, 61) := ⟨⟨by decide +kernel, by decide +kernel⟩, List.mem_of_getElem? (i := 875) (by decide +kernel), List.mem_of_getElem? (i := 1339) (by decide +kernel), List.mem_of_getElem? (i := 1340) (by decide +kernel)⟩
theorem lw_p110 : lw_okq (⟨"NamesBackModel", "lowest", "(JJI)J"⟩, 61) := ⟨⟨by decide +kernel, by decide +kernel⟩, List.mem_of_getElem? (i := 875) (by decide +kernel), List.mem_of_getElem? (i := 1344) (by decide +kernel), List.mem_of_getElem? (i := 1345) (by decide +kernel)⟩
theorem lw_p111 : lw_okq (⟨"NamesBackModel", "divisor", "(JJ)J"⟩, 61) := ⟨⟨by decide +kernel, by decide +kernel⟩, List.mem_of_getElem? (i := 875) (by decide +kernel), List.mem_of_getElem? (i := 1348) (by decide +kernel), List.mem_of_getElem? (i := 1349) (by decide +kernel)⟩
def lw_privs_7 : List (MethodName × Nat) := [(⟨"NamesBackModel", "towardOf", "(II)I"⟩, 61), (⟨"NamesBackModel", "nextOf", "(II)I"⟩, 61), (⟨"NamesBackModel", "goalOf", "(II)I"⟩, 61), (⟨"NamesBackModel", "nearestNamed", "(I)I"⟩, 61), (⟨"NamesBackModel", "greatestNamed", "(I)I"⟩, 61), (⟨"NamesBackModel", "lastNamed", "(I)I"⟩, 61), (⟨"NamesBackModel", "leastNamed", "(I)I"⟩, 61), (⟨"NamesBackModel", "turnedTo", "()I"⟩, 61), (⟨"NamesBackModel", "goes", "(II)Z"⟩, 61), (⟨"NamesBackModel", "lostMany", "()I"⟩, 61), (⟨"NamesBackModel", "lostPairs", "()I"⟩, 61), (⟨"NamesBackModel", "chainOf", "(II)I"⟩, 61), (⟨"NamesBackModel", "allWays", "()I"⟩, 61), (⟨"NamesBackModel", "goStep", "()V"⟩, 61), (⟨"NamesBackModel", "lowest", "(JJI)J"⟩, 61), (⟨"NamesBackModel", "divisor", "(JJ)J"⟩, 61)]
theorem lw_r7 : ∀ q ∈ lw_privs_7, lw_okq q := List.forall_mem_cons.mpr ⟨lw_p96, List.forall_mem_cons.mpr ⟨lw_p97, List.forall_mem_cons.mpr ⟨lw_p98, List.forall_mem_cons.mpr ⟨lw_p99, List.forall_mem_cons.mpr ⟨lw_p100, List.forall_mem_cons.mpr ⟨lw_p101, List.forall_mem_cons.mpr ⟨lw_p102, List.forall_mem_cons.mpr ⟨lw_p103, List.forall_mem_cons.mpr ⟨lw_p104, List.forall_mem_cons.mpr ⟨lw_p105, List.forall_mem_cons.mpr ⟨lw_p106, List.forall_mem_cons.mpr ⟨lw_p107, List.forall_mem_cons.mpr ⟨lw_p108, List.forall_mem_cons.mpr ⟨lw_p109, List.forall_mem_cons.mpr ⟨lw_p110, List.forall_mem_cons.mpr ⟨lw_p111, fun _ h => absurd h List.not_mem_nil⟩⟩⟩⟩⟩⟩⟩⟩⟩⟩⟩⟩⟩⟩⟩⟩
theorem lw_p112 : lw_okq (⟨"NamesBackModel", "isTape", "(I)Z"⟩, 61) := ⟨⟨by decide +kernel, by decide +kernel⟩, List.mem_of_getElem? (i := 875) (by decide +kernel), List.mem_of_getElem? (i := 1368) (by decide +kernel), List.mem_of_getElem? (i := 1369) (by decide +kernel)⟩
theorem lw_p113 : lw_okq (⟨"NamesBackModel", "pointsAct", "(II)I"⟩, 61) := ⟨⟨by decide +kernel, by decide +kernel⟩, List.mem_of_getElem? (i := 875) (by decide +kernel), List.mem_of_getElem? (i := 1384) (by decide +kernel), List.mem_of_getElem? (i := 1385) (by decide +kernel)⟩
theorem lw_p114 : lw_okq (⟨"NamesBackModel", "body", "(I)V"⟩, 61) := ⟨⟨by decide +kernel, by decide +kernel⟩, List.mem_of_getElem? (i := 875) (by decide +kernel), List.mem_of_getElem? (i := 1388) (by decide +kernel), List.mem_of_getElem? (i := 1389) (by decide +kernel)⟩
theorem lw_p115 : lw_okq (⟨"NamesBackModel", "placePoints", "(II)I"⟩, 61) := ⟨⟨by decide +kernel, by decide +kernel⟩, List.mem_of_getElem? (i := 875) (by decide +kernel), List.mem_of_getElem? (i := 1392) (by decide +kernel), List.mem_of_getElem? (i := 1393) (by decide +kernel)⟩
theorem lw_p116 : lw_okq (⟨"NamesBackModel", "namesAct", "(II)I"⟩, 61) := ⟨⟨by decide +kernel, by decide +kernel⟩, List.mem_of_getElem? (i := 875) (by decide +kernel), List.mem_of_getElem? (i := 1396) (by decide +kernel), List.mem_of_getElem? (i := 1397) (by decide +kernel)⟩
theorem lw_p117 : lw_okq (⟨"NamesBackModel", "nearNames", "(II)I"⟩, 61) := ⟨⟨by decide +kernel, by decide +kernel⟩, List.mem_of_getElem? (i := 875) (by decide +kernel), List.mem_of_getElem? (i := 1400) (by decide +kernel), List.mem_of_getElem? (i := 1401) (by decide +kernel)⟩
theorem lw_p118 : lw_okq (⟨"NamesBackModel", "placeNames", "(II)I"⟩, 61) := ⟨⟨by decide +kernel, by decide +kernel⟩, List.mem_of_getElem? (i := 875) (by decide +kernel), List.mem_of_getElem? (i := 1404) (by decide +kernel), List.mem_of_getElem? (i := 1405) (by decide +kernel)⟩
theorem lw_p119 : lw_okq (⟨"NamesBackModel", "tellsAct", "(II)I"⟩, 61) := ⟨⟨by decide +kernel, by decide +kernel⟩, List.mem_of_getElem? (i := 875) (by decide +kernel), List.mem_of_getElem? (i := 1408) (by decide +kernel), List.mem_of_getElem? (i := 1409) (by decide +kernel)⟩
theorem lw_p120 : lw_okq (⟨"NamesBackModel", "placeTells", "(II)I"⟩, 61) := ⟨⟨by decide +kernel, by decide +kernel⟩, List.mem_of_getElem? (i := 875) (by decide +kernel), List.mem_of_getElem? (i := 1412) (by decide +kernel), List.mem_of_getElem? (i := 1413) (by decide +kernel)⟩
theorem lw_p121 : lw_okq (⟨"NamesBackModel", "narrow", "(IJ)J"⟩, 61) := ⟨⟨by decide +kernel, by decide +kernel⟩, List.mem_of_getElem? (i := 875) (by decide +kernel), List.mem_of_getElem? (i := 1436) (by decide +kernel), List.mem_of_getElem? (i := 1437) (by decide +kernel)⟩
def lw_privs_8 : List (MethodName × Nat) := [(⟨"NamesBackModel", "isTape", "(I)Z"⟩, 61), (⟨"NamesBackModel", "pointsAct", "(II)I"⟩, 61), (⟨"NamesBackModel", "body", "(I)V"⟩, 61), (⟨"NamesBackModel", "placePoints", "(II)I"⟩, 61), (⟨"NamesBackModel", "namesAct", "(II)I"⟩, 61), (⟨"NamesBackModel", "nearNames", "(II)I"⟩, 61), (⟨"NamesBackModel", "placeNames", "(II)I"⟩, 61), (⟨"NamesBackModel", "tellsAct", "(II)I"⟩, 61), (⟨"NamesBackModel", "placeTells", "(II)I"⟩, 61), (⟨"NamesBackModel", "narrow", "(IJ)J"⟩, 61)]
theorem lw_r8 : ∀ q ∈ lw_privs_8, lw_okq q := List.forall_mem_cons.mpr ⟨lw_p112, List.forall_mem_cons.mpr ⟨lw_p113, List.forall_mem_cons.mpr ⟨lw_p114, List.forall_mem_cons.mpr ⟨lw_p115, List.forall_mem_cons.mpr ⟨lw_p116, List.forall_mem_cons.mpr ⟨lw_p117, List.forall_mem_cons.mpr ⟨lw_p118, List.forall_mem_cons.mpr ⟨lw_p119, List.forall_mem_cons.mpr ⟨lw_p120, List.forall_mem_cons.mpr ⟨lw_p121, fun _ h => absurd h List.not_mem_nil⟩⟩⟩⟩⟩⟩⟩⟩⟩⟩
def lw_privs : List (MethodName × Nat) := lw_privs_1 ++ (lw_privs_2 ++ (lw_privs_3 ++ (lw_privs_4 ++ (lw_privs_5 ++ (lw_privs_6 ++ (lw_privs_7 ++ (lw_privs_8)))))))
def lw_tbl : List Cond := k2_sels lw_privs ++ tables_1
theorem lw_privs_ok : ∀ q ∈ lw_privs, lw_okq q := by
  show ∀ q ∈ lw_privs_1 ++ (lw_privs_2 ++ (lw_privs_3 ++ (lw_privs_4 ++ (lw_privs_5 ++ (lw_privs_6 ++ (lw_privs_7 ++ (lw_privs_8))))))), lw_okq q
  exact List.forall_mem_append.mpr ⟨lw_r1, List.forall_mem_append.mpr ⟨lw_r2, List.forall_mem_append.mpr ⟨lw_r3, List.forall_mem_append.mpr ⟨lw_r4, List.forall_mem_append.mpr ⟨lw_r5, List.forall_mem_append.mpr ⟨lw_r6, List.forall_mem_append.mpr ⟨lw_r7, lw_r8⟩⟩⟩⟩⟩⟩⟩
def RX0 : String := "NamesBack$Acts"
def TX0 : u_T := fun k => match k with
  | 0 => ("NamesBack$Acts", "bodies", "[I", true)
  | 1 => ("NamesBack$Acts", "ran", "I", false)
  | 2 => ("NamesBack$Acts", "number", "I", false)
  | 3 => ("NamesBack$Acts", "kind", "I", false)
  | _ => ("NamesBack$Acts", "v", "I", false)
def tyX0 : Nat → FieldType := fun k => match k with
  | 0 => .array .int
  | 1 => .int
  | 2 => .int
  | 3 => .int
  | _ => .int
abbrev wsX00 : List Cond := u_ws RX0 TX0 5
theorem nmX0 : ∀ a, a < 5 → ∀ b, b < 5 → a ≠ b → (TX0 a).2.1 ≠ (TX0 b).2.1 := by decide +kernel
theorem tyX0_ok : ∀ k, k < 5 → parseFieldDescriptor (TX0 k).2.2.1 = some (tyX0 k) := by decide +kernel
abbrev cX0_init : ByteArray := prog_2_method_1_code
def yX0_init : MethodName := ⟨RX0, "<init>", "()V"⟩
abbrev cX0_forget : ByteArray := prog_2_method_2_code
def yX0_forget : MethodName := ⟨RX0, "forget", "()V"⟩
abbrev cX0_standAt : ByteArray := prog_2_method_3_code
def yX0_standAt : MethodName := ⟨RX0, "standAt", "(III)V"⟩
abbrev cX0_begin : ByteArray := prog_2_method_4_code
def yX0_begin : MethodName := ⟨RX0, "begin", "(I)V"⟩
abbrev cX0_points : ByteArray := prog_2_method_5_code
def yX0_points : MethodName := ⟨RX0, "points", "(III)I"⟩
abbrev cX0_names : ByteArray := prog_2_method_6_code
def yX0_names : MethodName := ⟨RX0, "names", "(III)I"⟩
abbrev cX0_tells : ByteArray := prog_2_method_7_code
def yX0_tells : MethodName := ⟨RX0, "tells", "(III)I"⟩
def RX1 : String := "NamesBack$Journeys"
def TX1 : u_T := fun k => match k with
  | 0 => ("NamesBack$Journeys", "world", "LNamesBack$World;", true)
  | 1 => ("NamesBack$Journeys", "facts", "[I", true)
  | 2 => ("NamesBack$Journeys", "sizes", "[I", true)
  | 3 => ("NamesBack$Journeys", "extra", "[I", true)
  | 4 => ("NamesBack$Journeys", "longs", "[I", true)
  | 5 => ("NamesBack$Journeys", "ways", "[I", true)
  | 6 => ("NamesBack$Journeys", "towards", "[I", true)
  | 7 => ("NamesBack$Journeys", "steps", "[I", true)
  | 8 => ("NamesBack$Journeys", "shares", "[J", true)
  | 9 => ("NamesBack$Journeys", "sharesThen", "[J", true)
  | 10 => ("NamesBack$Journeys", "falseAt", "I", false)
  | 11 => ("NamesBack$Journeys", "falseNamed", "I", false)
  | 12 => ("NamesBack$Journeys", "falseInstead", "I", false)
  | 13 => ("NamesBack$Journeys", "walkedRoads", "I", false)
  | _ => ("NamesBack$Journeys", "walkedLong", "I", false)
def tyX1 : Nat → FieldType := fun k => match k with
  | 0 => .object "NamesBack$World"
  | 1 => .array .int
  | 2 => .array .int
  | 3 => .array .int
  | 4 => .array .int
  | 5 => .array .int
  | 6 => .array .int
  | 7 => .array .int
  | 8 => .array .long
  | 9 => .array .long
  | 10 => .int
  | 11 => .int
  | 12 => .int
  | 13 => .int
  | _ => .int
abbrev wsX10 : List Cond := u_ws RX1 TX1 15
theorem nmX1 : ∀ a, a < 15 → ∀ b, b < 15 → a ≠ b → (TX1 a).2.1 ≠ (TX1 b).2.1 := by decide +kernel
theorem tyX1_ok : ∀ k, k < 15 → parseFieldDescriptor (TX1 k).2.2.1 = some (tyX1 k) := by decide +kernel
abbrev cX1_init : ByteArray := prog_3_method_1_code
def yX1_init : MethodName := ⟨RX1, "<init>", "()V"⟩
abbrev cX1_findSizes : ByteArray := prog_3_method_2_code
def yX1_findSizes : MethodName := ⟨RX1, "findSizes", "(LNamesBack$Land;)V"⟩
abbrev cX1_findLongs : ByteArray := prog_3_method_3_code
def yX1_findLongs : MethodName := ⟨RX1, "findLongs", "()V"⟩
abbrev cX1_findWays : ByteArray := prog_3_method_4_code
def yX1_findWays : MethodName := ⟨RX1, "findWays", "()V"⟩
abbrev cX1_leads : ByteArray := prog_3_method_5_code
def yX1_leads : MethodName := ⟨RX1, "leads", "(II)Z"⟩
abbrev cX1_findTowards : ByteArray := prog_3_method_6_code
def yX1_findTowards : MethodName := ⟨RX1, "findTowards", "()V"⟩
abbrev cX1_firstOfWay : ByteArray := prog_3_method_7_code
def yX1_firstOfWay : MethodName := ⟨RX1, "firstOfWay", "(II)I"⟩
abbrev cX1_findSteps : ByteArray := prog_3_method_8_code
def yX1_findSteps : MethodName := ⟨RX1, "findSteps", "()V"⟩
abbrev cX1_aimAt : ByteArray := prog_3_method_9_code
def yX1_aimAt : MethodName := ⟨RX1, "aimAt", "(II)I"⟩
abbrev cX1_capitalOf : ByteArray := prog_3_method_10_code
def yX1_capitalOf : MethodName := ⟨RX1, "capitalOf", "(I)I"⟩
abbrev cX1_leastNamed : ByteArray := prog_3_method_11_code
def yX1_leastNamed : MethodName := ⟨RX1, "leastNamed", "(I)I"⟩
abbrev cX1_lastNamed : ByteArray := prog_3_method_12_code
def yX1_lastNamed : MethodName := ⟨RX1, "lastNamed", "(I)I"⟩
abbrev cX1_nearestNamed : ByteArray := prog_3_method_13_code
def yX1_nearestNamed : MethodName := ⟨RX1, "nearestNamed", "(I)I"⟩
abbrev cX1_greatestNamed : ByteArray := prog_3_method_14_code
def yX1_greatestNamed : MethodName := ⟨RX1, "greatestNamed", "(I)I"⟩
abbrev cX1_setFalseArm : ByteArray := prog_3_method_15_code
def yX1_setFalseArm : MethodName := ⟨RX1, "setFalseArm", "(II)V"⟩
abbrev cX1_dropFalseArm : ByteArray := prog_3_method_16_code
def yX1_dropFalseArm : MethodName := ⟨RX1, "dropFalseArm", "()V"⟩
abbrev cX1_behind : ByteArray := prog_3_method_17_code
def yX1_behind : MethodName := ⟨RX1, "behind", "(I)I"⟩
abbrev cX1_walk : ByteArray := prog_3_method_18_code
def yX1_walk : MethodName := ⟨RX1, "walk", "(II)I"⟩
abbrev cX1_lostTravellers : ByteArray := prog_3_method_19_code
def yX1_lostTravellers : MethodName := ⟨RX1, "lostTravellers", "()I"⟩
abbrev cX1_lostPairs : ByteArray := prog_3_method_20_code
def yX1_lostPairs : MethodName := ⟨RX1, "lostPairs", "()I"⟩
abbrev cX1_longestPair : ByteArray := prog_3_method_21_code
def yX1_longestPair : MethodName := ⟨RX1, "longestPair", "()I"⟩
abbrev cX1_allWays : ByteArray := prog_3_method_22_code
def yX1_allWays : MethodName := ⟨RX1, "allWays", "()I"⟩
abbrev cX1_sharesAt : ByteArray := prog_3_method_23_code
def yX1_sharesAt : MethodName := ⟨RX1, "sharesAt", "(III)J"⟩
abbrev cX1_spread : ByteArray := prog_3_method_24_code
def yX1_spread : MethodName := ⟨RX1, "spread", "(I)V"⟩
def RX2 : String := "NamesBack$Land"
def TX2 : u_T := fun k => match k with
  | 0 => ("NamesBack$Land", "codes", "[I", true)
  | 1 => ("NamesBack$Land", "codeCount", "I", false)
  | 2 => ("NamesBack$Land", "sort", "[I", true)
  | 3 => ("NamesBack$Land", "n", "[I", true)
  | 4 => ("NamesBack$Land", "end", "[I", true)
  | 5 => ("NamesBack$Land", "clauses", "I", false)
  | _ => ("NamesBack$Land", "arms", "I", false)
def tyX2 : Nat → FieldType := fun k => match k with
  | 0 => .array .int
  | 1 => .int
  | 2 => .array .int
  | 3 => .array .int
  | 4 => .array .int
  | 5 => .int
  | _ => .int
abbrev wsX20 : List Cond := u_ws RX2 TX2 7
theorem nmX2 : ∀ a, a < 7 → ∀ b, b < 7 → a ≠ b → (TX2 a).2.1 ≠ (TX2 b).2.1 := by decide +kernel
theorem tyX2_ok : ∀ k, k < 7 → parseFieldDescriptor (TX2 k).2.2.1 = some (tyX2 k) := by decide +kernel
abbrev cX2_init : ByteArray := prog_4_method_1_code
def yX2_init : MethodName := ⟨RX2, "<init>", "()V"⟩
abbrev cX2_clear : ByteArray := prog_4_method_2_code
def yX2_clear : MethodName := ⟨RX2, "clear", "()V"⟩
abbrev cX2_addCode : ByteArray := prog_4_method_3_code
def yX2_addCode : MethodName := ⟨RX2, "addCode", "(I)V"⟩
abbrev cX2_addTest : ByteArray := prog_4_method_4_code
def yX2_addTest : MethodName := ⟨RX2, "addTest", "(III)V"⟩
abbrev cX2_addClause : ByteArray := prog_4_method_5_code
def yX2_addClause : MethodName := ⟨RX2, "addClause", "(II)V"⟩
abbrev cX2_together : ByteArray := prog_4_method_6_code
def yX2_together : MethodName := ⟨RX2, "together", "(I[I)I"⟩
abbrev cX2_holds : ByteArray := prog_4_method_7_code
def yX2_holds : MethodName := ⟨RX2, "holds", "(II[I)Z"⟩
abbrev cX2_passes : ByteArray := prog_4_method_8_code
def yX2_passes : MethodName := ⟨RX2, "passes", "(I[I)Z"⟩
def RX3 : String := "NamesBack$LandReader"
def TX3 : u_T := fun k => match k with
  | 0 => ("NamesBack$LandReader", "text", "[C", true)
  | 1 => ("NamesBack$LandReader", "length", "I", false)
  | 2 => ("NamesBack$LandReader", "at", "I", false)
  | _ => ("NamesBack$LandReader", "land", "LNamesBack$Land;", false)
def tyX3 : Nat → FieldType := fun k => match k with
  | 0 => .array .char
  | 1 => .int
  | 2 => .int
  | _ => .object "NamesBack$Land"
abbrev wsX30 : List Cond := u_ws RX3 TX3 4
theorem nmX3 : ∀ a, a < 4 → ∀ b, b < 4 → a ≠ b → (TX3 a).2.1 ≠ (TX3 b).2.1 := by decide +kernel
theorem tyX3_ok : ∀ k, k < 4 → parseFieldDescriptor (TX3 k).2.2.1 = some (tyX3 k) := by decide +kernel
abbrev cX3_init : ByteArray := prog_5_method_1_code
def yX3_init : MethodName := ⟨RX3, "<init>", "()V"⟩
abbrev cX3_addSign : ByteArray := prog_5_method_2_code
def yX3_addSign : MethodName := ⟨RX3, "addSign", "(C)I"⟩
abbrev cX3_empty : ByteArray := prog_5_method_3_code
def yX3_empty : MethodName := ⟨RX3, "empty", "()V"⟩
abbrev cX3_faultOf : ByteArray := prog_5_method_4_code
def yX3_faultOf : MethodName := ⟨RX3, "faultOf", "(LNamesBack$Land;)I"⟩
abbrev cX3_ahead : ByteArray := prog_5_method_5_code
def yX3_ahead : MethodName := ⟨RX3, "ahead", "()C"⟩
abbrev cX3_takes : ByteArray := prog_5_method_6_code
def yX3_takes : MethodName := ⟨RX3, "takes", "(C)Z"⟩
abbrev cX3_takesWord : ByteArray := prog_5_method_7_code
def yX3_takesWord : MethodName := ⟨RX3, "takesWord", "(Ljava/lang/String;)Z"⟩
abbrev cX3_readsClause : ByteArray := prog_5_method_8_code
def yX3_readsClause : MethodName := ⟨RX3, "readsClause", "()Z"⟩
abbrev cX3_takeNumber : ByteArray := prog_5_method_9_code
def yX3_takeNumber : MethodName := ⟨RX3, "takeNumber", "()I"⟩
abbrev cX3_readsEither : ByteArray := prog_5_method_10_code
def yX3_readsEither : MethodName := ⟨RX3, "readsEither", "(I)Z"⟩
abbrev cX3_readsPart : ByteArray := prog_5_method_11_code
def yX3_readsPart : MethodName := ⟨RX3, "readsPart", "(I)Z"⟩
abbrev cX3_readsTest : ByteArray := prog_5_method_12_code
def yX3_readsTest : MethodName := ⟨RX3, "readsTest", "()Z"⟩
def RX4 : String := "NamesBack$Tape"
def TX4 : u_T := fun k => match k with
  | 0 => ("NamesBack$Tape", "sort", "I", false)
  | 1 => ("NamesBack$Tape", "length", "I", false)
  | _ => ("NamesBack$Tape", "items", "[J", true)
def tyX4 : Nat → FieldType := fun k => match k with
  | 0 => .int
  | 1 => .int
  | _ => .array .long
abbrev wsX40 : List Cond := u_ws RX4 TX4 3
theorem nmX4 : ∀ a, a < 3 → ∀ b, b < 3 → a ≠ b → (TX4 a).2.1 ≠ (TX4 b).2.1 := by decide +kernel
theorem tyX4_ok : ∀ k, k < 3 → parseFieldDescriptor (TX4 k).2.2.1 = some (tyX4 k) := by decide +kernel
abbrev cX4_init : ByteArray := prog_6_method_1_code
def yX4_init : MethodName := ⟨RX4, "<init>", "()V"⟩
abbrev cX4_become : ByteArray := prog_6_method_2_code
def yX4_become : MethodName := ⟨RX4, "become", "(II)V"⟩
abbrev cX4_spans : ByteArray := prog_6_method_3_code
def yX4_spans : MethodName := ⟨RX4, "spans", "(II)Z"⟩
abbrev cX4_asItem : ByteArray := prog_6_method_4_code
def yX4_asItem : MethodName := ⟨RX4, "asItem", "(J)J"⟩
def RX5 : String := "NamesBack$World"
def TX5 : u_T := fun k => match k with
  | 0 => ("NamesBack$World", "places", "I", false)
  | 1 => ("NamesBack$World", "kind", "[I", true)
  | 2 => ("NamesBack$World", "v", "[I", true)
  | 3 => ("NamesBack$World", "people", "[I", true)
  | 4 => ("NamesBack$World", "miles", "[I", true)
  | 5 => ("NamesBack$World", "named", "[I", true)
  | 6 => ("NamesBack$World", "travellers", "I", false)
  | 7 => ("NamesBack$World", "from", "[I", true)
  | 8 => ("NamesBack$World", "to", "[I", true)
  | 9 => ("NamesBack$World", "many", "[I", true)
  | 10 => ("NamesBack$World", "rows", "I", false)
  | 11 => ("NamesBack$World", "book", "[I", true)
  | _ => ("NamesBack$World", "land", "I", false)
def tyX5 : Nat → FieldType := fun k => match k with
  | 0 => .int
  | 1 => .array .int
  | 2 => .array .int
  | 3 => .array .int
  | 4 => .array .int
  | 5 => .array .int
  | 6 => .int
  | 7 => .array .int
  | 8 => .array .int
  | 9 => .array .int
  | 10 => .int
  | 11 => .array .int
  | _ => .int
abbrev wsX50 : List Cond := u_ws RX5 TX5 13
theorem nmX5 : ∀ a, a < 13 → ∀ b, b < 13 → a ≠ b → (TX5 a).2.1 ≠ (TX5 b).2.1 := by decide +kernel
theorem tyX5_ok : ∀ k, k < 13 → parseFieldDescriptor (TX5 k).2.2.1 = some (tyX5 k) := by decide +kernel
abbrev cX5_init : ByteArray := prog_7_method_1_code
def yX5_init : MethodName := ⟨RX5, "<init>", "()V"⟩
abbrev cX5_has : ByteArray := prog_7_method_2_code
def yX5_has : MethodName := ⟨RX5, "has", "(I)Z"⟩
abbrev cX5_addPlace : ByteArray := prog_7_method_3_code
def yX5_addPlace : MethodName := ⟨RX5, "addPlace", "(III)I"⟩
abbrev cX5_addTraveller : ByteArray := prog_7_method_4_code
def yX5_addTraveller : MethodName := ⟨RX5, "addTraveller", "(III)I"⟩
abbrev cX5_setMiles : ByteArray := prog_7_method_5_code
def yX5_setMiles : MethodName := ⟨RX5, "setMiles", "(III)V"⟩
abbrev cX5_names : ByteArray := prog_7_method_6_code
def yX5_names : MethodName := ⟨RX5, "names", "(II)Z"⟩
abbrev cX5_turnName : ByteArray := prog_7_method_7_code
def yX5_turnName : MethodName := ⟨RX5, "turnName", "(II)V"⟩
abbrev cX5_countNames : ByteArray := prog_7_method_8_code
def yX5_countNames : MethodName := ⟨RX5, "countNames", "()I"⟩
abbrev cX5_roadsOf : ByteArray := prog_7_method_9_code
def yX5_roadsOf : MethodName := ⟨RX5, "roadsOf", "(I)I"⟩
abbrev cX5_comeToBy : ByteArray := prog_7_method_10_code
def yX5_comeToBy : MethodName := ⟨RX5, "comeToBy", "(II)I"⟩
abbrev cX5_tellFacts : ByteArray := prog_7_method_11_code
def yX5_tellFacts : MethodName := ⟨RX5, "tellFacts", "(I[I)V"⟩
abbrev cX5_becomeAs : ByteArray := prog_7_method_12_code
def yX5_becomeAs : MethodName := ⟨RX5, "becomeAs", "(LNamesBack$World;)V"⟩
def RX6 : String := "NamesBack"
def TX6 : u_T := fun k => match k with
  | 0 => ("NamesBack", "journeys", "LNamesBack$Journeys;", true)
  | 1 => ("NamesBack", "world", "LNamesBack$World;", true)
  | 2 => ("NamesBack", "kept", "LNamesBack$World;", true)
  | 3 => ("NamesBack", "imaged", "Z", false)
  | 4 => ("NamesBack", "noLand", "LNamesBack$Land;", true)
  | 5 => ("NamesBack", "lands", "[LNamesBack$Land;", true)
  | 6 => ("NamesBack", "landCount", "I", false)
  | 7 => ("NamesBack", "reader", "LNamesBack$LandReader;", true)
  | 8 => ("NamesBack", "acts", "LNamesBack$Acts;", true)
  | _ => ("NamesBack", "tapes", "[LNamesBack$Tape;", true)
def tyX6 : Nat → FieldType := fun k => match k with
  | 0 => .object "NamesBack$Journeys"
  | 1 => .object "NamesBack$World"
  | 2 => .object "NamesBack$World"
  | 3 => .boolean
  | 4 => .object "NamesBack$Land"
  | 5 => .array (.object "NamesBack$Land")
  | 6 => .int
  | 7 => .object "NamesBack$LandReader"
  | 8 => .object "NamesBack$Acts"
  | _ => .array (.object "NamesBack$Tape")
abbrev wsX60 : List Cond := u_ws RX6 TX6 10
theorem nmX6 : ∀ a, a < 10 → ∀ b, b < 10 → a ≠ b → (TX6 a).2.1 ≠ (TX6 b).2.1 := by decide +kernel
theorem tyX6_ok : ∀ k, k < 10 → parseFieldDescriptor (TX6 k).2.2.1 = some (tyX6 k) := by decide +kernel
abbrev cX6_init : ByteArray := prog_1_method_1_code
def yX6_init : MethodName := ⟨RX6, "<init>", "()V"⟩
abbrev cX6_place : ByteArray := prog_1_method_2_code
def yX6_place : MethodName := ⟨RX6, "place", "(III)I"⟩
abbrev cX6_of : ByteArray := prog_1_method_3_code
def yX6_of : MethodName := ⟨RX6, "of", "(II)I"⟩
abbrev cX6_road : ByteArray := prog_1_method_4_code
def yX6_road : MethodName := ⟨RX6, "road", "(III)I"⟩
abbrev cX6_far : ByteArray := prog_1_method_5_code
def yX6_far : MethodName := ⟨RX6, "far", "(II)I"⟩
abbrev cX6_name : ByteArray := prog_1_method_6_code
def yX6_name : MethodName := ⟨RX6, "name", "(II)I"⟩
abbrev cX6_strike : ByteArray := prog_1_method_7_code
def yX6_strike : MethodName := ⟨RX6, "strike", "(II)I"⟩
abbrev cX6_traveller : ByteArray := prog_1_method_8_code
def yX6_traveller : MethodName := ⟨RX6, "traveller", "(III)I"⟩
abbrev cX6_feed : ByteArray := prog_1_method_9_code
def yX6_feed : MethodName := ⟨RX6, "feed", "(I)I"⟩
abbrev cX6_land : ByteArray := prog_1_method_10_code
def yX6_land : MethodName := ⟨RX6, "land", "()I"⟩
abbrev cX6_told : ByteArray := prog_1_method_11_code
def yX6_told : MethodName := ⟨RX6, "told", "(I)I"⟩
abbrev cX6_way : ByteArray := prog_1_method_12_code
def yX6_way : MethodName := ⟨RX6, "way", "(II)I"⟩
abbrev cX6_toward : ByteArray := prog_1_method_13_code
def yX6_toward : MethodName := ⟨RX6, "toward", "(II)I"⟩
abbrev cX6_next : ByteArray := prog_1_method_14_code
def yX6_next : MethodName := ⟨RX6, "next", "(II)I"⟩
abbrev cX6_gone : ByteArray := prog_1_method_15_code
def yX6_gone : MethodName := ⟨RX6, "gone", "(III)I"⟩
abbrev cX6_lost : ByteArray := prog_1_method_16_code
def yX6_lost : MethodName := ⟨RX6, "lost", "(I)I"⟩
abbrev cX6_longest : ByteArray := prog_1_method_17_code
def yX6_longest : MethodName := ⟨RX6, "longest", "(I)I"⟩
abbrev cX6_put : ByteArray := prog_1_method_18_code
def yX6_put : MethodName := ⟨RX6, "put", "(I)I"⟩
abbrev cX6_worst : ByteArray := prog_1_method_19_code
def yX6_worst : MethodName := ⟨RX6, "worst", "(I)I"⟩
abbrev cX6_turned : ByteArray := prog_1_method_20_code
def yX6_turned : MethodName := ⟨RX6, "turned", "(II)I"⟩
abbrev cX6_chain : ByteArray := prog_1_method_21_code
def yX6_chain : MethodName := ⟨RX6, "chain", "(II)I"⟩
abbrev cX6_allIn : ByteArray := prog_1_method_22_code
def yX6_allIn : MethodName := ⟨RX6, "allIn", "(I)I"⟩
abbrev cX6_capitals : ByteArray := prog_1_method_23_code
def yX6_capitals : MethodName := ⟨RX6, "capitals", "()I"⟩
abbrev cX6_newRoad : ByteArray := prog_1_method_24_code
def yX6_newRoad : MethodName := ⟨RX6, "newRoad", "(II)I"⟩
abbrev cX6_gets : ByteArray := prog_1_method_25_code
def yX6_gets : MethodName := ⟨RX6, "gets", "(I)I"⟩
abbrev cX6_odds : ByteArray := prog_1_method_26_code
def yX6_odds : MethodName := ⟨RX6, "odds", "(IIII)J"⟩
abbrev cX6_mean : ByteArray := prog_1_method_27_code
def yX6_mean : MethodName := ⟨RX6, "mean", "(I)J"⟩
abbrev cX6_book : ByteArray := prog_1_method_28_code
def yX6_book : MethodName := ⟨RX6, "book", "(I)I"⟩
abbrev cX6_looked : ByteArray := prog_1_method_29_code
def yX6_looked : MethodName := ⟨RX6, "looked", "(I)I"⟩
abbrev cX6_judge : ByteArray := prog_1_method_30_code
def yX6_judge : MethodName := ⟨RX6, "judge", "(II)I"⟩
abbrev cX6_image : ByteArray := prog_1_method_31_code
def yX6_image : MethodName := ⟨RX6, "image", "()I"⟩
abbrev cX6_undo : ByteArray := prog_1_method_32_code
def yX6_undo : MethodName := ⟨RX6, "undo", "()I"⟩
abbrev cX6_act : ByteArray := prog_1_method_33_code
def yX6_act : MethodName := ⟨RX6, "act", "(III)I"⟩
abbrev cX6_trace : ByteArray := prog_1_method_34_code
def yX6_trace : MethodName := ⟨RX6, "trace", "(I)I"⟩
abbrev cX6_taken : ByteArray := prog_1_method_35_code
def yX6_taken : MethodName := ⟨RX6, "taken", "(II)I"⟩
abbrev cX6_count : ByteArray := prog_1_method_36_code
def yX6_count : MethodName := ⟨RX6, "count", "(I)I"⟩
abbrev cX6_tape : ByteArray := prog_1_method_37_code
def yX6_tape : MethodName := ⟨RX6, "tape", "(III)I"⟩
abbrev cX6_item : ByteArray := prog_1_method_38_code
def yX6_item : MethodName := ⟨RX6, "item", "(IIJ)I"⟩
abbrev cX6_read : ByteArray := prog_1_method_39_code
def yX6_read : MethodName := ⟨RX6, "read", "(II)J"⟩
abbrev cX6_shift : ByteArray := prog_1_method_40_code
def yX6_shift : MethodName := ⟨RX6, "shift", "(IIIII)I"⟩
abbrev cX6_index : ByteArray := prog_1_method_41_code
def yX6_index : MethodName := ⟨RX6, "index", "(II)I"⟩
abbrev cX6_isPart : ByteArray := prog_1_method_42_code
def yX6_isPart : MethodName := ⟨RX6, "isPart", "(I)Z"⟩
abbrev cX6_isTape : ByteArray := prog_1_method_43_code
def yX6_isTape : MethodName := ⟨RX6, "isTape", "(I)Z"⟩
abbrev cX6_isUnder : ByteArray := prog_1_method_44_code
def yX6_isUnder : MethodName := ⟨RX6, "isUnder", "(II)Z"⟩
abbrev cX6_inLowestTerms : ByteArray := prog_1_method_45_code
def yX6_inLowestTerms : MethodName := ⟨RX6, "inLowestTerms", "(JJI)J"⟩
abbrev cX6_holding : ByteArray := prog_1_method_46_code
def yX6_holding : MethodName := ⟨RX6, "holding", "()LNamesBack$Land;"⟩
abbrev cX6_look : ByteArray := prog_1_method_47_code
def yX6_look : MethodName := ⟨RX6, "look", "()LNamesBack$Journeys;"⟩
abbrev cX6_hasArmFree : ByteArray := prog_1_method_48_code
def yX6_hasArmFree : MethodName := ⟨RX6, "hasArmFree", "(I)Z"⟩
abbrev cX6_bestTurn : ByteArray := prog_1_method_49_code
def yX6_bestTurn : MethodName := ⟨RX6, "bestTurn", "(ZI)I"⟩
abbrev cX6_mayName : ByteArray := prog_1_method_50_code
def yX6_mayName : MethodName := ⟨RX6, "mayName", "(II)Z"⟩
abbrev cX6_allWaysWith : ByteArray := prog_1_method_51_code
def yX6_allWaysWith : MethodName := ⟨RX6, "allWaysWith", "(III)I"⟩
def RX7 : String := "NamesBackModel"
def TX7 : u_T := fun k => match k with
  | 0 => ("NamesBackModel", "places", "I", false)
  | 1 => ("NamesBackModel", "travellers", "I", false)
  | 2 => ("NamesBackModel", "kind", "[I", true)
  | 3 => ("NamesBackModel", "v", "[I", true)
  | 4 => ("NamesBackModel", "folk", "[I", true)
  | 5 => ("NamesBackModel", "named", "[I", true)
  | 6 => ("NamesBackModel", "miles", "[I", true)
  | 7 => ("NamesBackModel", "from0", "[I", true)
  | 8 => ("NamesBackModel", "to0", "[I", true)
  | 9 => ("NamesBackModel", "many", "[I", true)
  | 10 => ("NamesBackModel", "lands", "I", false)
  | 11 => ("NamesBackModel", "the", "I", false)
  | 12 => ("NamesBackModel", "fed", "I", false)
  | 13 => ("NamesBackModel", "at", "I", false)
  | 14 => ("NamesBackModel", "digits", "I", false)
  | 15 => ("NamesBackModel", "text", "[I", true)
  | 16 => ("NamesBackModel", "clauses", "[I", true)
  | 17 => ("NamesBackModel", "word", "[I", true)
  | 18 => ("NamesBackModel", "number", "[I", true)
  | 19 => ("NamesBackModel", "from", "[I", true)
  | 20 => ("NamesBackModel", "to", "[I", true)
  | 21 => ("NamesBackModel", "sign", "[I", true)
  | 22 => ("NamesBackModel", "waits", "[I", true)
  | 23 => ("NamesBackModel", "signs", "I", false)
  | 24 => ("NamesBackModel", "waiting", "I", false)
  | 25 => ("NamesBackModel", "open", "I", false)
  | 26 => ("NamesBackModel", "letters", "[I", true)
  | 27 => ("NamesBackModel", "pile", "[Z", true)
  | 28 => ("NamesBackModel", "longs", "[I", true)
  | 29 => ("NamesBackModel", "ways", "[I", true)
  | 30 => ("NamesBackModel", "sizes", "[I", true)
  | 31 => ("NamesBackModel", "more", "[I", true)
  | 32 => ("NamesBackModel", "turnedAt", "I", false)
  | 33 => ("NamesBackModel", "turnedArm", "I", false)
  | 34 => ("NamesBackModel", "goneLong", "I", false)
  | 35 => ("NamesBackModel", "goneRoads", "I", false)
  | 36 => ("NamesBackModel", "goneTo", "I", false)
  | 37 => ("NamesBackModel", "often", "[J", true)
  | 38 => ("NamesBackModel", "then", "[J", true)
  | 39 => ("NamesBackModel", "books", "I", false)
  | 40 => ("NamesBackModel", "book", "[I", true)
  | 41 => ("NamesBackModel", "hasImage", "Z", false)
  | 42 => ("NamesBackModel", "imageThe", "I", false)
  | 43 => ("NamesBackModel", "imagePlaces", "I", false)
  | 44 => ("NamesBackModel", "imageTravellers", "I", false)
  | 45 => ("NamesBackModel", "imageBooks", "I", false)
  | 46 => ("NamesBackModel", "imageKind", "[I", true)
  | 47 => ("NamesBackModel", "imageV", "[I", true)
  | 48 => ("NamesBackModel", "imageFolk", "[I", true)
  | 49 => ("NamesBackModel", "imageNamed", "[I", true)
  | 50 => ("NamesBackModel", "imageMiles", "[I", true)
  | 51 => ("NamesBackModel", "imageFrom", "[I", true)
  | 52 => ("NamesBackModel", "imageTo", "[I", true)
  | 53 => ("NamesBackModel", "imageMany", "[I", true)
  | 54 => ("NamesBackModel", "imageBook", "[I", true)
  | 55 => ("NamesBackModel", "ran", "I", false)
  | 56 => ("NamesBackModel", "bodies", "[I", true)
  | 57 => ("NamesBackModel", "sort", "[I", true)
  | 58 => ("NamesBackModel", "length", "[I", true)
  | 59 => ("NamesBackModel", "item", "[J", true)
  | _ => ("NamesBackModel", "aside", "[J", true)
def tyX7 : Nat → FieldType := fun k => match k with
  | 0 => .int
  | 1 => .int
  | 2 => .array .int
  | 3 => .array .int
  | 4 => .array .int
  | 5 => .array .int
  | 6 => .array .int
  | 7 => .array .int
  | 8 => .array .int
  | 9 => .array .int
  | 10 => .int
  | 11 => .int
  | 12 => .int
  | 13 => .int
  | 14 => .int
  | 15 => .array .int
  | 16 => .array .int
  | 17 => .array .int
  | 18 => .array .int
  | 19 => .array .int
  | 20 => .array .int
  | 21 => .array .int
  | 22 => .array .int
  | 23 => .int
  | 24 => .int
  | 25 => .int
  | 26 => .array .int
  | 27 => .array .boolean
  | 28 => .array .int
  | 29 => .array .int
  | 30 => .array .int
  | 31 => .array .int
  | 32 => .int
  | 33 => .int
  | 34 => .int
  | 35 => .int
  | 36 => .int
  | 37 => .array .long
  | 38 => .array .long
  | 39 => .int
  | 40 => .array .int
  | 41 => .boolean
  | 42 => .int
  | 43 => .int
  | 44 => .int
  | 45 => .int
  | 46 => .array .int
  | 47 => .array .int
  | 48 => .array .int
  | 49 => .array .int
  | 50 => .array .int
  | 51 => .array .int
  | 52 => .array .int
  | 53 => .array .int
  | 54 => .array .int
  | 55 => .int
  | 56 => .array .int
  | 57 => .array .int
  | 58 => .array .int
  | 59 => .array .long
  | _ => .array .long
abbrev wsX70 : List Cond := u_ws RX7 TX7 61
theorem nmX7 : ∀ a, a < 61 → ∀ b, b < 61 → a ≠ b → (TX7 a).2.1 ≠ (TX7 b).2.1 := by decide +kernel
theorem tyX7_ok : ∀ k, k < 61 → parseFieldDescriptor (TX7 k).2.2.1 = some (tyX7 k) := by decide +kernel
abbrev cX7_init : ByteArray := prog_9_method_1_code
def yX7_init : MethodName := ⟨RX7, "<init>", "()V"⟩
abbrev cX7_in : ByteArray := prog_9_method_2_code
def yX7_in : MethodName := ⟨RX7, "in", "(III)Z"⟩
abbrev cX7_has : ByteArray := prog_9_method_3_code
def yX7_has : MethodName := ⟨RX7, "has", "(II)Z"⟩
abbrev cX7_ones : ByteArray := prog_9_method_4_code
def yX7_ones : MethodName := ⟨RX7, "ones", "(I)I"⟩
abbrev cX7_isPlace : ByteArray := prog_9_method_5_code
def yX7_isPlace : MethodName := ⟨RX7, "isPlace", "(I)Z"⟩
abbrev cX7_arePlaces : ByteArray := prog_9_method_6_code
def yX7_arePlaces : MethodName := ⟨RX7, "arePlaces", "(II)Z"⟩
abbrev cX7_place : ByteArray := prog_9_method_7_code
def yX7_place : MethodName := ⟨RX7, "place", "(III)I"⟩
abbrev cX7_road : ByteArray := prog_9_method_8_code
def yX7_road : MethodName := ⟨RX7, "road", "(III)I"⟩
abbrev cX7_roadsOf : ByteArray := prog_9_method_9_code
def yX7_roadsOf : MethodName := ⟨RX7, "roadsOf", "(I)I"⟩
abbrev cX7_lays : ByteArray := prog_9_method_10_code
def yX7_lays : MethodName := ⟨RX7, "lays", "(IIZ)V"⟩
abbrev cX7_name : ByteArray := prog_9_method_11_code
def yX7_name : MethodName := ⟨RX7, "name", "(II)I"⟩
abbrev cX7_strike : ByteArray := prog_9_method_12_code
def yX7_strike : MethodName := ⟨RX7, "strike", "(II)I"⟩
abbrev cX7_traveller : ByteArray := prog_9_method_13_code
def yX7_traveller : MethodName := ⟨RX7, "traveller", "(III)I"⟩
abbrev cX7_feed : ByteArray := prog_9_method_14_code
def yX7_feed : MethodName := ⟨RX7, "feed", "(I)I"⟩
abbrev cX7_peek : ByteArray := prog_9_method_15_code
def yX7_peek : MethodName := ⟨RX7, "peek", "()I"⟩
abbrev cX7_takes : ByteArray := prog_9_method_16_code
def yX7_takes : MethodName := ⟨RX7, "takes", "(I)Z"⟩
abbrev cX7_takesWord : ByteArray := prog_9_method_17_code
def yX7_takesWord : MethodName := ⟨RX7, "takesWord", "(II)Z"⟩
abbrev cX7_isDigit : ByteArray := prog_9_method_18_code
def yX7_isDigit : MethodName := ⟨RX7, "isDigit", "()Z"⟩
abbrev cX7_takesNumber : ByteArray := prog_9_method_19_code
def yX7_takesNumber : MethodName := ⟨RX7, "takesNumber", "()Z"⟩
abbrev cX7_emits : ByteArray := prog_9_method_20_code
def yX7_emits : MethodName := ⟨RX7, "emits", "(I)V"⟩
abbrev cX7_whole : ByteArray := prog_9_method_21_code
def yX7_whole : MethodName := ⟨RX7, "whole", "()V"⟩
abbrev cX7_settle : ByteArray := prog_9_method_22_code
def yX7_settle : MethodName := ⟨RX7, "settle", "(I)V"⟩
abbrev cX7_letterOf : ByteArray := prog_9_method_23_code
def yX7_letterOf : MethodName := ⟨RX7, "letterOf", "(I)I"⟩
abbrev cX7_takesTest : ByteArray := prog_9_method_24_code
def yX7_takesTest : MethodName := ⟨RX7, "takesTest", "()Z"⟩
abbrev cX7_takesE : ByteArray := prog_9_method_25_code
def yX7_takesE : MethodName := ⟨RX7, "takesE", "(I)Z"⟩
abbrev cX7_takesHead : ByteArray := prog_9_method_26_code
def yX7_takesHead : MethodName := ⟨RX7, "takesHead", "(I)Z"⟩
abbrev cX7_takesClause : ByteArray := prog_9_method_27_code
def yX7_takesClause : MethodName := ⟨RX7, "takesClause", "(I)Z"⟩
abbrev cX7_goesText : ByteArray := prog_9_method_28_code
def yX7_goesText : MethodName := ⟨RX7, "goesText", "(I)Z"⟩
abbrev cX7_land : ByteArray := prog_9_method_29_code
def yX7_land : MethodName := ⟨RX7, "land", "()I"⟩
abbrev cX7_begin : ByteArray := prog_9_method_30_code
def yX7_begin : MethodName := ⟨RX7, "begin", "()I"⟩
abbrev cX7_behind : ByteArray := prog_9_method_31_code
def yX7_behind : MethodName := ⟨RX7, "behind", "()I"⟩
abbrev cX7_armsNow : ByteArray := prog_9_method_32_code
def yX7_armsNow : MethodName := ⟨RX7, "armsNow", "()I"⟩
abbrev cX7_factOf : ByteArray := prog_9_method_33_code
def yX7_factOf : MethodName := ⟨RX7, "factOf", "(II)I"⟩
abbrev cX7_holds : ByteArray := prog_9_method_34_code
def yX7_holds : MethodName := ⟨RX7, "holds", "(II)Z"⟩
abbrev cX7_sumOf : ByteArray := prog_9_method_35_code
def yX7_sumOf : MethodName := ⟨RX7, "sumOf", "(II)I"⟩
abbrev cX7_layLand : ByteArray := prog_9_method_36_code
def yX7_layLand : MethodName := ⟨RX7, "layLand", "()V"⟩
abbrev cX7_shorten : ByteArray := prog_9_method_37_code
def yX7_shorten : MethodName := ⟨RX7, "shorten", "(III)V"⟩
abbrev cX7_of : ByteArray := prog_9_method_38_code
def yX7_of : MethodName := ⟨RX7, "of", "(II)I"⟩
abbrev cX7_namesNow : ByteArray := prog_9_method_39_code
def yX7_namesNow : MethodName := ⟨RX7, "namesNow", "()I"⟩
abbrev cX7_told : ByteArray := prog_9_method_40_code
def yX7_told : MethodName := ⟨RX7, "told", "(I)I"⟩
abbrev cX7_far : ByteArray := prog_9_method_41_code
def yX7_far : MethodName := ⟨RX7, "far", "(II)I"⟩
abbrev cX7_way : ByteArray := prog_9_method_42_code
def yX7_way : MethodName := ⟨RX7, "way", "(II)I"⟩
abbrev cX7_towardOf : ByteArray := prog_9_method_43_code
def yX7_towardOf : MethodName := ⟨RX7, "towardOf", "(II)I"⟩
abbrev cX7_toward : ByteArray := prog_9_method_44_code
def yX7_toward : MethodName := ⟨RX7, "toward", "(II)I"⟩
abbrev cX7_leastNamed : ByteArray := prog_9_method_45_code
def yX7_leastNamed : MethodName := ⟨RX7, "leastNamed", "(I)I"⟩
abbrev cX7_lastNamed : ByteArray := prog_9_method_46_code
def yX7_lastNamed : MethodName := ⟨RX7, "lastNamed", "(I)I"⟩
abbrev cX7_nearestNamed : ByteArray := prog_9_method_47_code
def yX7_nearestNamed : MethodName := ⟨RX7, "nearestNamed", "(I)I"⟩
abbrev cX7_greatestNamed : ByteArray := prog_9_method_48_code
def yX7_greatestNamed : MethodName := ⟨RX7, "greatestNamed", "(I)I"⟩
abbrev cX7_goalOf : ByteArray := prog_9_method_49_code
def yX7_goalOf : MethodName := ⟨RX7, "goalOf", "(II)I"⟩
abbrev cX7_turnedTo : ByteArray := prog_9_method_50_code
def yX7_turnedTo : MethodName := ⟨RX7, "turnedTo", "()I"⟩
abbrev cX7_nextOf : ByteArray := prog_9_method_51_code
def yX7_nextOf : MethodName := ⟨RX7, "nextOf", "(II)I"⟩
abbrev cX7_next : ByteArray := prog_9_method_52_code
def yX7_next : MethodName := ⟨RX7, "next", "(II)I"⟩
abbrev cX7_goes : ByteArray := prog_9_method_53_code
def yX7_goes : MethodName := ⟨RX7, "goes", "(II)Z"⟩
abbrev cX7_gone : ByteArray := prog_9_method_54_code
def yX7_gone : MethodName := ⟨RX7, "gone", "(III)I"⟩
abbrev cX7_lostPairs : ByteArray := prog_9_method_55_code
def yX7_lostPairs : MethodName := ⟨RX7, "lostPairs", "()I"⟩
abbrev cX7_lostMany : ByteArray := prog_9_method_56_code
def yX7_lostMany : MethodName := ⟨RX7, "lostMany", "()I"⟩
abbrev cX7_lost : ByteArray := prog_9_method_57_code
def yX7_lost : MethodName := ⟨RX7, "lost", "(I)I"⟩
abbrev cX7_longest : ByteArray := prog_9_method_58_code
def yX7_longest : MethodName := ⟨RX7, "longest", "(I)I"⟩
abbrev cX7_put : ByteArray := prog_9_method_59_code
def yX7_put : MethodName := ⟨RX7, "put", "(I)I"⟩
abbrev cX7_worst : ByteArray := prog_9_method_60_code
def yX7_worst : MethodName := ⟨RX7, "worst", "(I)I"⟩
abbrev cX7_turned : ByteArray := prog_9_method_61_code
def yX7_turned : MethodName := ⟨RX7, "turned", "(II)I"⟩
abbrev cX7_chainOf : ByteArray := prog_9_method_62_code
def yX7_chainOf : MethodName := ⟨RX7, "chainOf", "(II)I"⟩
abbrev cX7_chain : ByteArray := prog_9_method_63_code
def yX7_chain : MethodName := ⟨RX7, "chain", "(II)I"⟩
abbrev cX7_allIn : ByteArray := prog_9_method_64_code
def yX7_allIn : MethodName := ⟨RX7, "allIn", "(I)I"⟩
abbrev cX7_capitals : ByteArray := prog_9_method_65_code
def yX7_capitals : MethodName := ⟨RX7, "capitals", "()I"⟩
abbrev cX7_allWays : ByteArray := prog_9_method_66_code
def yX7_allWays : MethodName := ⟨RX7, "allWays", "()I"⟩
abbrev cX7_newRoad : ByteArray := prog_9_method_67_code
def yX7_newRoad : MethodName := ⟨RX7, "newRoad", "(II)I"⟩
abbrev cX7_gets : ByteArray := prog_9_method_68_code
def yX7_gets : MethodName := ⟨RX7, "gets", "(I)I"⟩
abbrev cX7_divisor : ByteArray := prog_9_method_69_code
def yX7_divisor : MethodName := ⟨RX7, "divisor", "(JJ)J"⟩
abbrev cX7_lowest : ByteArray := prog_9_method_70_code
def yX7_lowest : MethodName := ⟨RX7, "lowest", "(JJI)J"⟩
abbrev cX7_goStep : ByteArray := prog_9_method_71_code
def yX7_goStep : MethodName := ⟨RX7, "goStep", "()V"⟩
abbrev cX7_odds : ByteArray := prog_9_method_72_code
def yX7_odds : MethodName := ⟨RX7, "odds", "(IIII)J"⟩
abbrev cX7_mean : ByteArray := prog_9_method_73_code
def yX7_mean : MethodName := ⟨RX7, "mean", "(I)J"⟩
abbrev cX7_book : ByteArray := prog_9_method_74_code
def yX7_book : MethodName := ⟨RX7, "book", "(I)I"⟩
abbrev cX7_looked : ByteArray := prog_9_method_75_code
def yX7_looked : MethodName := ⟨RX7, "looked", "(I)I"⟩
abbrev cX7_judge : ByteArray := prog_9_method_76_code
def yX7_judge : MethodName := ⟨RX7, "judge", "(II)I"⟩
abbrev cX7_image : ByteArray := prog_9_method_77_code
def yX7_image : MethodName := ⟨RX7, "image", "()I"⟩
abbrev cX7_undo : ByteArray := prog_9_method_78_code
def yX7_undo : MethodName := ⟨RX7, "undo", "()I"⟩
abbrev cX7_body : ByteArray := prog_9_method_79_code
def yX7_body : MethodName := ⟨RX7, "body", "(I)V"⟩
abbrev cX7_placePoints : ByteArray := prog_9_method_80_code
def yX7_placePoints : MethodName := ⟨RX7, "placePoints", "(II)I"⟩
abbrev cX7_pointsAct : ByteArray := prog_9_method_81_code
def yX7_pointsAct : MethodName := ⟨RX7, "pointsAct", "(II)I"⟩
abbrev cX7_placeNames : ByteArray := prog_9_method_82_code
def yX7_placeNames : MethodName := ⟨RX7, "placeNames", "(II)I"⟩
abbrev cX7_nearNames : ByteArray := prog_9_method_83_code
def yX7_nearNames : MethodName := ⟨RX7, "nearNames", "(II)I"⟩
abbrev cX7_namesAct : ByteArray := prog_9_method_84_code
def yX7_namesAct : MethodName := ⟨RX7, "namesAct", "(II)I"⟩
abbrev cX7_placeTells : ByteArray := prog_9_method_85_code
def yX7_placeTells : MethodName := ⟨RX7, "placeTells", "(II)I"⟩
abbrev cX7_tellsAct : ByteArray := prog_9_method_86_code
def yX7_tellsAct : MethodName := ⟨RX7, "tellsAct", "(II)I"⟩
abbrev cX7_act : ByteArray := prog_9_method_87_code
def yX7_act : MethodName := ⟨RX7, "act", "(III)I"⟩
abbrev cX7_trace : ByteArray := prog_9_method_88_code
def yX7_trace : MethodName := ⟨RX7, "trace", "(I)I"⟩
abbrev cX7_taken : ByteArray := prog_9_method_89_code
def yX7_taken : MethodName := ⟨RX7, "taken", "(II)I"⟩
abbrev cX7_count : ByteArray := prog_9_method_90_code
def yX7_count : MethodName := ⟨RX7, "count", "(I)I"⟩
abbrev cX7_isTape : ByteArray := prog_9_method_91_code
def yX7_isTape : MethodName := ⟨RX7, "isTape", "(I)Z"⟩
abbrev cX7_tape : ByteArray := prog_9_method_92_code
def yX7_tape : MethodName := ⟨RX7, "tape", "(III)I"⟩
abbrev cX7_narrow : ByteArray := prog_9_method_93_code
def yX7_narrow : MethodName := ⟨RX7, "narrow", "(IJ)J"⟩
abbrev cX7_item : ByteArray := prog_9_method_94_code
def yX7_item : MethodName := ⟨RX7, "item", "(IIJ)I"⟩
abbrev cX7_read : ByteArray := prog_9_method_95_code
def yX7_read : MethodName := ⟨RX7, "read", "(II)J"⟩
abbrev cX7_shift : ByteArray := prog_9_method_96_code
def yX7_shift : MethodName := ⟨RX7, "shift", "(IIIII)I"⟩
def RJ11 : String := "java/lang/Character"
def TJ11 : u_T := fun k => match k with
  | _ => ("", "", "", false)
def tyJ11 : Nat → FieldType := fun k => match k with
  | _ => .int
abbrev wsJ110 : List Cond := u_ws RJ11 TJ11 0
theorem nmJ11 : ∀ a, a < 0 → ∀ b, b < 0 → a ≠ b → (TJ11 a).2.1 ≠ (TJ11 b).2.1 := by decide +kernel
theorem tyJ11_ok : ∀ k, k < 0 → parseFieldDescriptor (TJ11 k).2.2.1 = some (tyJ11 k) := by decide +kernel
abbrev cJ11_isValidCodePoint_9a6ad : ByteArray := prog_10_method_11_code
def yJ11_isValidCodePoint_9a6ad : MethodName := ⟨RJ11, "isValidCodePoint", "(I)Z"⟩
abbrev cJ11_highSurrogate_5068e : ByteArray := prog_10_method_28_code
def yJ11_highSurrogate_5068e : MethodName := ⟨RJ11, "highSurrogate", "(I)C"⟩
abbrev cJ11_lowSurrogate_5068e : ByteArray := prog_10_method_29_code
def yJ11_lowSurrogate_5068e : MethodName := ⟨RJ11, "lowSurrogate", "(I)C"⟩
def RJ6 : String := "java/lang/Integer"
def TJ6 : u_T := fun k => match k with
  | _ => ("", "", "", false)
def tyJ6 : Nat → FieldType := fun k => match k with
  | _ => .int
abbrev wsJ60 : List Cond := u_ws RJ6 TJ6 0
theorem nmJ6 : ∀ a, a < 0 → ∀ b, b < 0 → a ≠ b → (TJ6 a).2.1 ≠ (TJ6 b).2.1 := by decide +kernel
theorem tyJ6_ok : ∀ k, k < 0 → parseFieldDescriptor (TJ6 k).2.2.1 = some (tyJ6 k) := by decide +kernel
abbrev cJ6_bitCount_0f7a4 : ByteArray := prog_11_method_49_code
def yJ6_bitCount_0f7a4 : MethodName := ⟨RJ6, "bitCount", "(I)I"⟩
def RJ9 : String := "java/lang/Math"
def TJ9 : u_T := fun k => match k with
  | _ => ("", "", "", false)
def tyJ9 : Nat → FieldType := fun k => match k with
  | _ => .int
abbrev wsJ90 : List Cond := u_ws RJ9 TJ9 0
theorem nmJ9 : ∀ a, a < 0 → ∀ b, b < 0 → a ≠ b → (TJ9 a).2.1 ≠ (TJ9 b).2.1 := by decide +kernel
theorem tyJ9_ok : ∀ k, k < 0 → parseFieldDescriptor (TJ9 k).2.2.1 = some (tyJ9 k) := by decide +kernel
abbrev cJ9_max_7cf53 : ByteArray := prog_12_method_65_code
def yJ9_max_7cf53 : MethodName := ⟨RJ9, "max", "(II)I"⟩
abbrev cJ9_min_7cf53 : ByteArray := prog_12_method_69_code
def yJ9_min_7cf53 : MethodName := ⟨RJ9, "min", "(II)I"⟩
def RJ0 : String := "java/lang/String"
def TJ0 : u_T := fun k => match k with
  | _ => ("", "", "", false)
def tyJ0 : Nat → FieldType := fun k => match k with
  | _ => .int
abbrev wsJ00 : List Cond := u_ws RJ0 TJ0 0
theorem nmJ0 : ∀ a, a < 0 → ∀ b, b < 0 → a ≠ b → (TJ0 a).2.1 ≠ (TJ0 b).2.1 := by decide +kernel
theorem tyJ0_ok : ∀ k, k < 0 → parseFieldDescriptor (TJ0 k).2.2.1 = some (tyJ0 k) := by decide +kernel
abbrev cJ0_length_8abf5 : ByteArray := prog_13_method_54_code
def yJ0_length_8abf5 : MethodName := ⟨RJ0, "length", "()I"⟩
abbrev cJ0_charAt_5068e : ByteArray := prog_13_method_56_code
def yJ0_charAt_5068e : MethodName := ⟨RJ0, "charAt", "(I)C"⟩
abbrev cJ0_indexOf_0f7a4 : ByteArray := prog_13_method_79_code
def yJ0_indexOf_0f7a4 : MethodName := ⟨RJ0, "indexOf", "(I)I"⟩
abbrev cJ0_indexOf_7cf53 : ByteArray := prog_13_method_80_code
def yJ0_indexOf_7cf53 : MethodName := ⟨RJ0, "indexOf", "(II)I"⟩
abbrev cJ0_coder_7d493 : ByteArray := prog_13_method_152_code
def yJ0_coder_7d493 : MethodName := ⟨RJ0, "coder", "()B"⟩
abbrev cJ0_isLatin1_aae02 : ByteArray := prog_13_method_154_code
def yJ0_isLatin1_aae02 : MethodName := ⟨RJ0, "isLatin1", "()Z"⟩
abbrev cJ0_checkIndex_df160 : ByteArray := prog_13_method_155_code
def yJ0_checkIndex_df160 : MethodName := ⟨RJ0, "checkIndex", "(II)V"⟩
abbrev cJ0_checkBoundsBeginEnd_23922 : ByteArray := prog_13_method_158_code
def yJ0_checkBoundsBeginEnd_23922 : MethodName := ⟨RJ0, "checkBoundsBeginEnd", "(III)V"⟩
def RJ1 : String := "java/lang/StringLatin1"
def TJ1 : u_T := fun k => match k with
  | _ => ("", "", "", false)
def tyJ1 : Nat → FieldType := fun k => match k with
  | _ => .int
abbrev wsJ10 : List Cond := u_ws RJ1 TJ1 0
theorem nmJ1 : ∀ a, a < 0 → ∀ b, b < 0 → a ≠ b → (TJ1 a).2.1 ≠ (TJ1 b).2.1 := by decide +kernel
theorem tyJ1_ok : ∀ k, k < 0 → parseFieldDescriptor (TJ1 k).2.2.1 = some (tyJ1 k) := by decide +kernel
abbrev cJ1_charAt_3b067 : ByteArray := prog_14_method_2_code
def yJ1_charAt_3b067 : MethodName := ⟨RJ1, "charAt", "([BI)C"⟩
abbrev cJ1_canEncode_9a6ad : ByteArray := prog_14_method_4_code
def yJ1_canEncode_9a6ad : MethodName := ⟨RJ1, "canEncode", "(I)Z"⟩
abbrev cJ1_indexOf_4cfef : ByteArray := prog_14_method_22_code
def yJ1_indexOf_4cfef : MethodName := ⟨RJ1, "indexOf", "([BIII)I"⟩
abbrev cJ1_indexOfChar_4cfef : ByteArray := prog_14_method_23_code
def yJ1_indexOfChar_4cfef : MethodName := ⟨RJ1, "indexOfChar", "([BIII)I"⟩
def RJ2 : String := "java/lang/StringUTF16"
def TJ2 : u_T := fun k => match k with
  | _ => ("", "", "", false)
def tyJ2 : Nat → FieldType := fun k => match k with
  | _ => .int
abbrev wsJ20 : List Cond := u_ws RJ2 TJ2 0
theorem nmJ2 : ∀ a, a < 0 → ∀ b, b < 0 → a ≠ b → (TJ2 a).2.1 ≠ (TJ2 b).2.1 := by decide +kernel
theorem tyJ2_ok : ∀ k, k < 0 → parseFieldDescriptor (TJ2 k).2.2.1 = some (tyJ2 k) := by decide +kernel
abbrev cJ2_getChar_3b067 : ByteArray := prog_15_method_5_code
def yJ2_getChar_3b067 : MethodName := ⟨RJ2, "getChar", "([BI)C"⟩
abbrev cJ2_length_9d52b : ByteArray := prog_15_method_6_code
def yJ2_length_9d52b : MethodName := ⟨RJ2, "length", "([B)I"⟩
abbrev cJ2_indexOf_4cfef : ByteArray := prog_15_method_40_code
def yJ2_indexOf_4cfef : MethodName := ⟨RJ2, "indexOf", "([BIII)I"⟩
abbrev cJ2_indexOfChar_4cfef : ByteArray := prog_15_method_47_code
def yJ2_indexOfChar_4cfef : MethodName := ⟨RJ2, "indexOfChar", "([BIII)I"⟩
abbrev cJ2_indexOfCharUnsafe_4cfef : ByteArray := prog_15_method_48_code
def yJ2_indexOfCharUnsafe_4cfef : MethodName := ⟨RJ2, "indexOfCharUnsafe", "([BIII)I"⟩
abbrev cJ2_indexOfSupplementary_4cfef : ByteArray := prog_15_method_49_code
def yJ2_indexOfSupplementary_4cfef : MethodName := ⟨RJ2, "indexOfSupplementary", "([BIII)I"⟩
abbrev cJ2_charAt_3b067 : ByteArray := prog_15_method_83_code
def yJ2_charAt_3b067 : MethodName := ⟨RJ2, "charAt", "([BI)C"⟩
abbrev cJ2_checkIndex_2214a : ByteArray := prog_15_method_91_code
def yJ2_checkIndex_2214a : MethodName := ⟨RJ2, "checkIndex", "(I[B)V"⟩
abbrev cJ2_checkBoundsBeginEnd_d044e : ByteArray := prog_15_method_93_code
def yJ2_checkBoundsBeginEnd_d044e : MethodName := ⟨RJ2, "checkBoundsBeginEnd", "(II[B)V"⟩
def RJ10 : String := "java/lang/System"
def TJ10 : u_T := fun k => match k with
  | _ => ("", "", "", false)
def tyJ10 : Nat → FieldType := fun k => match k with
  | _ => .int
abbrev wsJ100 : List Cond := u_ws RJ10 TJ10 0
theorem nmJ10 : ∀ a, a < 0 → ∀ b, b < 0 → a ≠ b → (TJ10 a).2.1 ≠ (TJ10 b).2.1 := by decide +kernel
theorem tyJ10_ok : ∀ k, k < 0 → parseFieldDescriptor (TJ10 k).2.2.1 = some (tyJ10 k) := by decide +kernel
def RJ7 : String := "java/util/Arrays"
def TJ7 : u_T := fun k => match k with
  | _ => ("", "", "", false)
def tyJ7 : Nat → FieldType := fun k => match k with
  | _ => .int
abbrev wsJ70 : List Cond := u_ws RJ7 TJ7 0
theorem nmJ7 : ∀ a, a < 0 → ∀ b, b < 0 → a ≠ b → (TJ7 a).2.1 ≠ (TJ7 b).2.1 := by decide +kernel
theorem tyJ7_ok : ∀ k, k < 0 → parseFieldDescriptor (TJ7 k).2.2.1 = some (tyJ7 k) := by decide +kernel
abbrev cJ7_fill_d0a16 : ByteArray := prog_17_method_101_code
def yJ7_fill_d0a16 : MethodName := ⟨RJ7, "fill", "([JJ)V"⟩
def RJ3 : String := "jdk/internal/util/Preconditions"
def TJ3 : u_T := fun k => match k with
  | _ => ("", "", "", false)
def tyJ3 : Nat → FieldType := fun k => match k with
  | _ => .int
abbrev wsJ30 : List Cond := u_ws RJ3 TJ3 0
theorem nmJ3 : ∀ a, a < 0 → ∀ b, b < 0 → a ≠ b → (TJ3 a).2.1 ≠ (TJ3 b).2.1 := by decide +kernel
theorem tyJ3_ok : ∀ k, k < 0 → parseFieldDescriptor (TJ3 k).2.2.1 = some (tyJ3 k) := by decide +kernel
abbrev cJ3_checkIndex_8e157 : ByteArray := prog_18_method_11_code
def yJ3_checkIndex_8e157 : MethodName := ⟨RJ3, "checkIndex", "(IILjava/util/function/BiFunction;)I"⟩
abbrev cJ3_checkFromToIndex_8c36e : ByteArray := prog_18_method_12_code
def yJ3_checkFromToIndex_8c36e : MethodName := ⟨RJ3, "checkFromToIndex", "(IIILjava/util/function/BiFunction;)I"⟩
def RL : String := "NamesBackLaw"
abbrev cL_law : ByteArray := code
def yL_law : MethodName := ⟨RL, "law", "([I)Z"⟩
abbrev vwCl : List vw_C := [(RX0, TX0, 5), (RX1, TX1, 15), (RX2, TX2, 7), (RX3, TX3, 4), (RX4, TX4, 3), (RX5, TX5, 13), (RX6, TX6, 10), (RX7, TX7, 61)]
