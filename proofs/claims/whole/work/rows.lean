section
-- ===== PART A: goes FIRST, ahead of the names: the tables' words, and 'selects' of the private methods out of them =====
/-- a private method of a class that the tables say can be made, by its rows of tables_1 -/
def lw_okq (q : MethodName × Nat) : Prop := (q.1.cls ≠ "java/lang/invoke/MethodHandle" ∧ q.1.cls ≠ "java/lang/invoke/VarHandle") ∧ Cond.instantiable q.1.cls q.2 ∈ tables_1 ∧ Cond.privateMethod q.1 ∈ tables_1 ∧ Cond.instanceMethod q.1 ∈ tables_1
theorem lw_p0 : lw_okq (⟨"NamesBack$World", "addPlace", "(III)I"⟩, 13) := ⟨⟨by decide +kernel, by decide +kernel⟩, List.mem_of_getElem? (i := 33) (by decide +kernel), List.mem_of_getElem? (i := 292) (by decide +kernel), List.mem_of_getElem? (i := 293) (by decide +kernel)⟩
theorem lw_p1 : lw_okq (⟨"NamesBack$World", "has", "(I)Z"⟩, 13) := ⟨⟨by decide +kernel, by decide +kernel⟩, List.mem_of_getElem? (i := 33) (by decide +kernel), List.mem_of_getElem? (i := 300) (by decide +kernel), List.mem_of_getElem? (i := 301) (by decide +kernel)⟩
theorem lw_p2 : lw_okq (⟨"NamesBack", "look", "()LNamesBack$Journeys;"⟩, 10) := ⟨⟨by decide +kernel, by decide +kernel⟩, List.mem_of_getElem? (i := 19) (by decide +kernel), List.mem_of_getElem? (i := 304) (by decide +kernel), List.mem_of_getElem? (i := 305) (by decide +kernel)⟩
theorem lw_p3 : lw_okq (⟨"NamesBack", "holding", "()LNamesBack$Land;"⟩, 10) := ⟨⟨by decide +kernel, by decide +kernel⟩, List.mem_of_getElem? (i := 19) (by decide +kernel), List.mem_of_getElem? (i := 308) (by decide +kernel), List.mem_of_getElem? (i := 309) (by decide +kernel)⟩
theorem lw_p4 : lw_okq (⟨"NamesBack$Journeys", "findSizes", "(LNamesBack$Land;)V"⟩, 15) := ⟨⟨by decide +kernel, by decide +kernel⟩, List.mem_of_getElem? (i := 27) (by decide +kernel), List.mem_of_getElem? (i := 312) (by decide +kernel), List.mem_of_getElem? (i := 313) (by decide +kernel)⟩
theorem lw_p5 : lw_okq (⟨"NamesBack$World", "tellFacts", "(I[I)V"⟩, 13) := ⟨⟨by decide +kernel, by decide +kernel⟩, List.mem_of_getElem? (i := 33) (by decide +kernel), List.mem_of_getElem? (i := 316) (by decide +kernel), List.mem_of_getElem? (i := 317) (by decide +kernel)⟩
theorem lw_p6 : lw_okq (⟨"NamesBack$World", "roadsOf", "(I)I"⟩, 13) := ⟨⟨by decide +kernel, by decide +kernel⟩, List.mem_of_getElem? (i := 33) (by decide +kernel), List.mem_of_getElem? (i := 326) (by decide +kernel), List.mem_of_getElem? (i := 327) (by decide +kernel)⟩
theorem lw_p7 : lw_okq (⟨"NamesBack$Land", "together", "(I[I)I"⟩, 7) := ⟨⟨by decide +kernel, by decide +kernel⟩, List.mem_of_getElem? (i := 160) (by decide +kernel), List.mem_of_getElem? (i := 333) (by decide +kernel), List.mem_of_getElem? (i := 334) (by decide +kernel)⟩
theorem lw_p8 : lw_okq (⟨"NamesBack$Land", "holds", "(II[I)Z"⟩, 7) := ⟨⟨by decide +kernel, by decide +kernel⟩, List.mem_of_getElem? (i := 160) (by decide +kernel), List.mem_of_getElem? (i := 337) (by decide +kernel), List.mem_of_getElem? (i := 338) (by decide +kernel)⟩
theorem lw_p9 : lw_okq (⟨"NamesBack$Journeys", "findLongs", "()V"⟩, 15) := ⟨⟨by decide +kernel, by decide +kernel⟩, List.mem_of_getElem? (i := 27) (by decide +kernel), List.mem_of_getElem? (i := 344) (by decide +kernel), List.mem_of_getElem? (i := 345) (by decide +kernel)⟩
theorem lw_p10 : lw_okq (⟨"NamesBack$Journeys", "findWays", "()V"⟩, 15) := ⟨⟨by decide +kernel, by decide +kernel⟩, List.mem_of_getElem? (i := 27) (by decide +kernel), List.mem_of_getElem? (i := 352) (by decide +kernel), List.mem_of_getElem? (i := 353) (by decide +kernel)⟩
theorem lw_p11 : lw_okq (⟨"NamesBack$Journeys", "findTowards", "()V"⟩, 15) := ⟨⟨by decide +kernel, by decide +kernel⟩, List.mem_of_getElem? (i := 27) (by decide +kernel), List.mem_of_getElem? (i := 357) (by decide +kernel), List.mem_of_getElem? (i := 358) (by decide +kernel)⟩
theorem lw_p12 : lw_okq (⟨"NamesBack$Journeys", "firstOfWay", "(II)I"⟩, 15) := ⟨⟨by decide +kernel, by decide +kernel⟩, List.mem_of_getElem? (i := 27) (by decide +kernel), List.mem_of_getElem? (i := 361) (by decide +kernel), List.mem_of_getElem? (i := 362) (by decide +kernel)⟩
theorem lw_p13 : lw_okq (⟨"NamesBack$Journeys", "leads", "(II)Z"⟩, 15) := ⟨⟨by decide +kernel, by decide +kernel⟩, List.mem_of_getElem? (i := 27) (by decide +kernel), List.mem_of_getElem? (i := 365) (by decide +kernel), List.mem_of_getElem? (i := 366) (by decide +kernel)⟩
theorem lw_p14 : lw_okq (⟨"NamesBack$Journeys", "findSteps", "()V"⟩, 15) := ⟨⟨by decide +kernel, by decide +kernel⟩, List.mem_of_getElem? (i := 27) (by decide +kernel), List.mem_of_getElem? (i := 369) (by decide +kernel), List.mem_of_getElem? (i := 370) (by decide +kernel)⟩
theorem lw_p15 : lw_okq (⟨"NamesBack$Journeys", "aimAt", "(II)I"⟩, 15) := ⟨⟨by decide +kernel, by decide +kernel⟩, List.mem_of_getElem? (i := 27) (by decide +kernel), List.mem_of_getElem? (i := 373) (by decide +kernel), List.mem_of_getElem? (i := 374) (by decide +kernel)⟩
def lw_privs_1 : List (MethodName × Nat) := [(⟨"NamesBack$World", "addPlace", "(III)I"⟩, 13), (⟨"NamesBack$World", "has", "(I)Z"⟩, 13), (⟨"NamesBack", "look", "()LNamesBack$Journeys;"⟩, 10), (⟨"NamesBack", "holding", "()LNamesBack$Land;"⟩, 10), (⟨"NamesBack$Journeys", "findSizes", "(LNamesBack$Land;)V"⟩, 15), (⟨"NamesBack$World", "tellFacts", "(I[I)V"⟩, 13), (⟨"NamesBack$World", "roadsOf", "(I)I"⟩, 13), (⟨"NamesBack$Land", "together", "(I[I)I"⟩, 7), (⟨"NamesBack$Land", "holds", "(II[I)Z"⟩, 7), (⟨"NamesBack$Journeys", "findLongs", "()V"⟩, 15), (⟨"NamesBack$Journeys", "findWays", "()V"⟩, 15), (⟨"NamesBack$Journeys", "findTowards", "()V"⟩, 15), (⟨"NamesBack$Journeys", "firstOfWay", "(II)I"⟩, 15), (⟨"NamesBack$Journeys", "leads", "(II)Z"⟩, 15), (⟨"NamesBack$Journeys", "findSteps", "()V"⟩, 15), (⟨"NamesBack$Journeys", "aimAt", "(II)I"⟩, 15)]
theorem lw_r1 : ∀ q ∈ lw_privs_1, lw_okq q := List.forall_mem_cons.mpr ⟨lw_p0, List.forall_mem_cons.mpr ⟨lw_p1, List.forall_mem_cons.mpr ⟨lw_p2, List.forall_mem_cons.mpr ⟨lw_p3, List.forall_mem_cons.mpr ⟨lw_p4, List.forall_mem_cons.mpr ⟨lw_p5, List.forall_mem_cons.mpr ⟨lw_p6, List.forall_mem_cons.mpr ⟨lw_p7, List.forall_mem_cons.mpr ⟨lw_p8, List.forall_mem_cons.mpr ⟨lw_p9, List.forall_mem_cons.mpr ⟨lw_p10, List.forall_mem_cons.mpr ⟨lw_p11, List.forall_mem_cons.mpr ⟨lw_p12, List.forall_mem_cons.mpr ⟨lw_p13, List.forall_mem_cons.mpr ⟨lw_p14, List.forall_mem_cons.mpr ⟨lw_p15, fun _ h => absurd h List.not_mem_nil⟩⟩⟩⟩⟩⟩⟩⟩⟩⟩⟩⟩⟩⟩⟩⟩
theorem lw_p16 : lw_okq (⟨"NamesBack$World", "names", "(II)Z"⟩, 13) := ⟨⟨by decide +kernel, by decide +kernel⟩, List.mem_of_getElem? (i := 33) (by decide +kernel), List.mem_of_getElem? (i := 377) (by decide +kernel), List.mem_of_getElem? (i := 378) (by decide +kernel)⟩
theorem lw_p17 : lw_okq (⟨"NamesBack$Journeys", "capitalOf", "(I)I"⟩, 15) := ⟨⟨by decide +kernel, by decide +kernel⟩, List.mem_of_getElem? (i := 27) (by decide +kernel), List.mem_of_getElem? (i := 381) (by decide +kernel), List.mem_of_getElem? (i := 382) (by decide +kernel)⟩
theorem lw_p18 : lw_okq (⟨"NamesBack$Journeys", "leastNamed", "(I)I"⟩, 15) := ⟨⟨by decide +kernel, by decide +kernel⟩, List.mem_of_getElem? (i := 27) (by decide +kernel), List.mem_of_getElem? (i := 385) (by decide +kernel), List.mem_of_getElem? (i := 386) (by decide +kernel)⟩
theorem lw_p19 : lw_okq (⟨"NamesBack$Journeys", "nearestNamed", "(I)I"⟩, 15) := ⟨⟨by decide +kernel, by decide +kernel⟩, List.mem_of_getElem? (i := 27) (by decide +kernel), List.mem_of_getElem? (i := 389) (by decide +kernel), List.mem_of_getElem? (i := 390) (by decide +kernel)⟩
theorem lw_p20 : lw_okq (⟨"NamesBack$Journeys", "greatestNamed", "(I)I"⟩, 15) := ⟨⟨by decide +kernel, by decide +kernel⟩, List.mem_of_getElem? (i := 27) (by decide +kernel), List.mem_of_getElem? (i := 393) (by decide +kernel), List.mem_of_getElem? (i := 394) (by decide +kernel)⟩
theorem lw_p21 : lw_okq (⟨"NamesBack$Journeys", "lastNamed", "(I)I"⟩, 15) := ⟨⟨by decide +kernel, by decide +kernel⟩, List.mem_of_getElem? (i := 27) (by decide +kernel), List.mem_of_getElem? (i := 397) (by decide +kernel), List.mem_of_getElem? (i := 398) (by decide +kernel)⟩
theorem lw_p22 : lw_okq (⟨"NamesBack$World", "setMiles", "(III)V"⟩, 13) := ⟨⟨by decide +kernel, by decide +kernel⟩, List.mem_of_getElem? (i := 33) (by decide +kernel), List.mem_of_getElem? (i := 407) (by decide +kernel), List.mem_of_getElem? (i := 408) (by decide +kernel)⟩
theorem lw_p23 : lw_okq (⟨"NamesBack", "hasArmFree", "(I)Z"⟩, 10) := ⟨⟨by decide +kernel, by decide +kernel⟩, List.mem_of_getElem? (i := 19) (by decide +kernel), List.mem_of_getElem? (i := 420) (by decide +kernel), List.mem_of_getElem? (i := 421) (by decide +kernel)⟩
theorem lw_p24 : lw_okq (⟨"NamesBack$World", "turnName", "(II)V"⟩, 13) := ⟨⟨by decide +kernel, by decide +kernel⟩, List.mem_of_getElem? (i := 33) (by decide +kernel), List.mem_of_getElem? (i := 425) (by decide +kernel), List.mem_of_getElem? (i := 426) (by decide +kernel)⟩
theorem lw_p25 : lw_okq (⟨"NamesBack$World", "addTraveller", "(III)I"⟩, 13) := ⟨⟨by decide +kernel, by decide +kernel⟩, List.mem_of_getElem? (i := 33) (by decide +kernel), List.mem_of_getElem? (i := 437) (by decide +kernel), List.mem_of_getElem? (i := 438) (by decide +kernel)⟩
theorem lw_p26 : lw_okq (⟨"NamesBack$LandReader", "addSign", "(C)I"⟩, 4) := ⟨⟨by decide +kernel, by decide +kernel⟩, List.mem_of_getElem? (i := 190) (by decide +kernel), List.mem_of_getElem? (i := 445) (by decide +kernel), List.mem_of_getElem? (i := 446) (by decide +kernel)⟩
theorem lw_p27 : lw_okq (⟨"NamesBack$LandReader", "faultOf", "(LNamesBack$Land;)I"⟩, 4) := ⟨⟨by decide +kernel, by decide +kernel⟩, List.mem_of_getElem? (i := 190) (by decide +kernel), List.mem_of_getElem? (i := 453) (by decide +kernel), List.mem_of_getElem? (i := 454) (by decide +kernel)⟩
theorem lw_p28 : lw_okq (⟨"NamesBack$Land", "clear", "()V"⟩, 7) := ⟨⟨by decide +kernel, by decide +kernel⟩, List.mem_of_getElem? (i := 160) (by decide +kernel), List.mem_of_getElem? (i := 457) (by decide +kernel), List.mem_of_getElem? (i := 458) (by decide +kernel)⟩
theorem lw_p29 : lw_okq (⟨"NamesBack$LandReader", "takes", "(C)Z"⟩, 4) := ⟨⟨by decide +kernel, by decide +kernel⟩, List.mem_of_getElem? (i := 190) (by decide +kernel), List.mem_of_getElem? (i := 461) (by decide +kernel), List.mem_of_getElem? (i := 462) (by decide +kernel)⟩
theorem lw_p30 : lw_okq (⟨"NamesBack$LandReader", "ahead", "()C"⟩, 4) := ⟨⟨by decide +kernel, by decide +kernel⟩, List.mem_of_getElem? (i := 190) (by decide +kernel), List.mem_of_getElem? (i := 465) (by decide +kernel), List.mem_of_getElem? (i := 466) (by decide +kernel)⟩
theorem lw_p31 : lw_okq (⟨"NamesBack$LandReader", "readsClause", "()Z"⟩, 4) := ⟨⟨by decide +kernel, by decide +kernel⟩, List.mem_of_getElem? (i := 190) (by decide +kernel), List.mem_of_getElem? (i := 469) (by decide +kernel), List.mem_of_getElem? (i := 470) (by decide +kernel)⟩
def lw_privs_2 : List (MethodName × Nat) := [(⟨"NamesBack$World", "names", "(II)Z"⟩, 13), (⟨"NamesBack$Journeys", "capitalOf", "(I)I"⟩, 15), (⟨"NamesBack$Journeys", "leastNamed", "(I)I"⟩, 15), (⟨"NamesBack$Journeys", "nearestNamed", "(I)I"⟩, 15), (⟨"NamesBack$Journeys", "greatestNamed", "(I)I"⟩, 15), (⟨"NamesBack$Journeys", "lastNamed", "(I)I"⟩, 15), (⟨"NamesBack$World", "setMiles", "(III)V"⟩, 13), (⟨"NamesBack", "hasArmFree", "(I)Z"⟩, 10), (⟨"NamesBack$World", "turnName", "(II)V"⟩, 13), (⟨"NamesBack$World", "addTraveller", "(III)I"⟩, 13), (⟨"NamesBack$LandReader", "addSign", "(C)I"⟩, 4), (⟨"NamesBack$LandReader", "faultOf", "(LNamesBack$Land;)I"⟩, 4), (⟨"NamesBack$Land", "clear", "()V"⟩, 7), (⟨"NamesBack$LandReader", "takes", "(C)Z"⟩, 4), (⟨"NamesBack$LandReader", "ahead", "()C"⟩, 4), (⟨"NamesBack$LandReader", "readsClause", "()Z"⟩, 4)]
theorem lw_r2 : ∀ q ∈ lw_privs_2, lw_okq q := List.forall_mem_cons.mpr ⟨lw_p16, List.forall_mem_cons.mpr ⟨lw_p17, List.forall_mem_cons.mpr ⟨lw_p18, List.forall_mem_cons.mpr ⟨lw_p19, List.forall_mem_cons.mpr ⟨lw_p20, List.forall_mem_cons.mpr ⟨lw_p21, List.forall_mem_cons.mpr ⟨lw_p22, List.forall_mem_cons.mpr ⟨lw_p23, List.forall_mem_cons.mpr ⟨lw_p24, List.forall_mem_cons.mpr ⟨lw_p25, List.forall_mem_cons.mpr ⟨lw_p26, List.forall_mem_cons.mpr ⟨lw_p27, List.forall_mem_cons.mpr ⟨lw_p28, List.forall_mem_cons.mpr ⟨lw_p29, List.forall_mem_cons.mpr ⟨lw_p30, List.forall_mem_cons.mpr ⟨lw_p31, fun _ h => absurd h List.not_mem_nil⟩⟩⟩⟩⟩⟩⟩⟩⟩⟩⟩⟩⟩⟩⟩⟩
theorem lw_p32 : lw_okq (⟨"NamesBack$LandReader", "takesWord", "(Ljava/lang/String;)Z"⟩, 4) := ⟨⟨by decide +kernel, by decide +kernel⟩, List.mem_of_getElem? (i := 190) (by decide +kernel), List.mem_of_getElem? (i := 561) (by decide +kernel), List.mem_of_getElem? (i := 562) (by decide +kernel)⟩
theorem lw_p33 : lw_okq (⟨"NamesBack$LandReader", "takeNumber", "()I"⟩, 4) := ⟨⟨by decide +kernel, by decide +kernel⟩, List.mem_of_getElem? (i := 190) (by decide +kernel), List.mem_of_getElem? (i := 586) (by decide +kernel), List.mem_of_getElem? (i := 587) (by decide +kernel)⟩
theorem lw_p34 : lw_okq (⟨"NamesBack$LandReader", "readsEither", "(I)Z"⟩, 4) := ⟨⟨by decide +kernel, by decide +kernel⟩, List.mem_of_getElem? (i := 190) (by decide +kernel), List.mem_of_getElem? (i := 591) (by decide +kernel), List.mem_of_getElem? (i := 592) (by decide +kernel)⟩
theorem lw_p35 : lw_okq (⟨"NamesBack$LandReader", "readsPart", "(I)Z"⟩, 4) := ⟨⟨by decide +kernel, by decide +kernel⟩, List.mem_of_getElem? (i := 190) (by decide +kernel), List.mem_of_getElem? (i := 595) (by decide +kernel), List.mem_of_getElem? (i := 596) (by decide +kernel)⟩
theorem lw_p36 : lw_okq (⟨"NamesBack$LandReader", "readsTest", "()Z"⟩, 4) := ⟨⟨by decide +kernel, by decide +kernel⟩, List.mem_of_getElem? (i := 190) (by decide +kernel), List.mem_of_getElem? (i := 599) (by decide +kernel), List.mem_of_getElem? (i := 600) (by decide +kernel)⟩
theorem lw_p37 : lw_okq (⟨"NamesBack$Land", "addTest", "(III)V"⟩, 7) := ⟨⟨by decide +kernel, by decide +kernel⟩, List.mem_of_getElem? (i := 160) (by decide +kernel), List.mem_of_getElem? (i := 605) (by decide +kernel), List.mem_of_getElem? (i := 606) (by decide +kernel)⟩
theorem lw_p38 : lw_okq (⟨"NamesBack$Land", "addCode", "(I)V"⟩, 7) := ⟨⟨by decide +kernel, by decide +kernel⟩, List.mem_of_getElem? (i := 160) (by decide +kernel), List.mem_of_getElem? (i := 609) (by decide +kernel), List.mem_of_getElem? (i := 610) (by decide +kernel)⟩
theorem lw_p39 : lw_okq (⟨"NamesBack$Land", "addClause", "(II)V"⟩, 7) := ⟨⟨by decide +kernel, by decide +kernel⟩, List.mem_of_getElem? (i := 160) (by decide +kernel), List.mem_of_getElem? (i := 614) (by decide +kernel), List.mem_of_getElem? (i := 615) (by decide +kernel)⟩
theorem lw_p40 : lw_okq (⟨"NamesBack$LandReader", "empty", "()V"⟩, 4) := ⟨⟨by decide +kernel, by decide +kernel⟩, List.mem_of_getElem? (i := 190) (by decide +kernel), List.mem_of_getElem? (i := 618) (by decide +kernel), List.mem_of_getElem? (i := 619) (by decide +kernel)⟩
theorem lw_p41 : lw_okq (⟨"NamesBack$World", "countNames", "()I"⟩, 13) := ⟨⟨by decide +kernel, by decide +kernel⟩, List.mem_of_getElem? (i := 33) (by decide +kernel), List.mem_of_getElem? (i := 627) (by decide +kernel), List.mem_of_getElem? (i := 628) (by decide +kernel)⟩
theorem lw_p42 : lw_okq (⟨"NamesBack$Journeys", "walk", "(II)I"⟩, 15) := ⟨⟨by decide +kernel, by decide +kernel⟩, List.mem_of_getElem? (i := 27) (by decide +kernel), List.mem_of_getElem? (i := 651) (by decide +kernel), List.mem_of_getElem? (i := 652) (by decide +kernel)⟩
theorem lw_p43 : lw_okq (⟨"NamesBack$Journeys", "lostTravellers", "()I"⟩, 15) := ⟨⟨by decide +kernel, by decide +kernel⟩, List.mem_of_getElem? (i := 27) (by decide +kernel), List.mem_of_getElem? (i := 659) (by decide +kernel), List.mem_of_getElem? (i := 660) (by decide +kernel)⟩
theorem lw_p44 : lw_okq (⟨"NamesBack$Journeys", "lostPairs", "()I"⟩, 15) := ⟨⟨by decide +kernel, by decide +kernel⟩, List.mem_of_getElem? (i := 27) (by decide +kernel), List.mem_of_getElem? (i := 664) (by decide +kernel), List.mem_of_getElem? (i := 665) (by decide +kernel)⟩
theorem lw_p45 : lw_okq (⟨"NamesBack$Journeys", "longestPair", "()I"⟩, 15) := ⟨⟨by decide +kernel, by decide +kernel⟩, List.mem_of_getElem? (i := 27) (by decide +kernel), List.mem_of_getElem? (i := 672) (by decide +kernel), List.mem_of_getElem? (i := 673) (by decide +kernel)⟩
theorem lw_p46 : lw_okq (⟨"NamesBack", "bestTurn", "(ZI)I"⟩, 10) := ⟨⟨by decide +kernel, by decide +kernel⟩, List.mem_of_getElem? (i := 19) (by decide +kernel), List.mem_of_getElem? (i := 680) (by decide +kernel), List.mem_of_getElem? (i := 681) (by decide +kernel)⟩
theorem lw_p47 : lw_okq (⟨"NamesBack", "mayName", "(II)Z"⟩, 10) := ⟨⟨by decide +kernel, by decide +kernel⟩, List.mem_of_getElem? (i := 19) (by decide +kernel), List.mem_of_getElem? (i := 684) (by decide +kernel), List.mem_of_getElem? (i := 685) (by decide +kernel)⟩
def lw_privs_3 : List (MethodName × Nat) := [(⟨"NamesBack$LandReader", "takesWord", "(Ljava/lang/String;)Z"⟩, 4), (⟨"NamesBack$LandReader", "takeNumber", "()I"⟩, 4), (⟨"NamesBack$LandReader", "readsEither", "(I)Z"⟩, 4), (⟨"NamesBack$LandReader", "readsPart", "(I)Z"⟩, 4), (⟨"NamesBack$LandReader", "readsTest", "()Z"⟩, 4), (⟨"NamesBack$Land", "addTest", "(III)V"⟩, 7), (⟨"NamesBack$Land", "addCode", "(I)V"⟩, 7), (⟨"NamesBack$Land", "addClause", "(II)V"⟩, 7), (⟨"NamesBack$LandReader", "empty", "()V"⟩, 4), (⟨"NamesBack$World", "countNames", "()I"⟩, 13), (⟨"NamesBack$Journeys", "walk", "(II)I"⟩, 15), (⟨"NamesBack$Journeys", "lostTravellers", "()I"⟩, 15), (⟨"NamesBack$Journeys", "lostPairs", "()I"⟩, 15), (⟨"NamesBack$Journeys", "longestPair", "()I"⟩, 15), (⟨"NamesBack", "bestTurn", "(ZI)I"⟩, 10), (⟨"NamesBack", "mayName", "(II)Z"⟩, 10)]
theorem lw_r3 : ∀ q ∈ lw_privs_3, lw_okq q := List.forall_mem_cons.mpr ⟨lw_p32, List.forall_mem_cons.mpr ⟨lw_p33, List.forall_mem_cons.mpr ⟨lw_p34, List.forall_mem_cons.mpr ⟨lw_p35, List.forall_mem_cons.mpr ⟨lw_p36, List.forall_mem_cons.mpr ⟨lw_p37, List.forall_mem_cons.mpr ⟨lw_p38, List.forall_mem_cons.mpr ⟨lw_p39, List.forall_mem_cons.mpr ⟨lw_p40, List.forall_mem_cons.mpr ⟨lw_p41, List.forall_mem_cons.mpr ⟨lw_p42, List.forall_mem_cons.mpr ⟨lw_p43, List.forall_mem_cons.mpr ⟨lw_p44, List.forall_mem_cons.mpr ⟨lw_p45, List.forall_mem_cons.mpr ⟨lw_p46, List.forall_mem_cons.mpr ⟨lw_p47, fun _ h => absurd h List.not_mem_nil⟩⟩⟩⟩⟩⟩⟩⟩⟩⟩⟩⟩⟩⟩⟩⟩
theorem lw_p48 : lw_okq (⟨"NamesBack$Journeys", "setFalseArm", "(II)V"⟩, 15) := ⟨⟨by decide +kernel, by decide +kernel⟩, List.mem_of_getElem? (i := 27) (by decide +kernel), List.mem_of_getElem? (i := 696) (by decide +kernel), List.mem_of_getElem? (i := 697) (by decide +kernel)⟩
theorem lw_p49 : lw_okq (⟨"NamesBack$Journeys", "behind", "(I)I"⟩, 15) := ⟨⟨by decide +kernel, by decide +kernel⟩, List.mem_of_getElem? (i := 27) (by decide +kernel), List.mem_of_getElem? (i := 700) (by decide +kernel), List.mem_of_getElem? (i := 701) (by decide +kernel)⟩
theorem lw_p50 : lw_okq (⟨"NamesBack$Journeys", "dropFalseArm", "()V"⟩, 15) := ⟨⟨by decide +kernel, by decide +kernel⟩, List.mem_of_getElem? (i := 27) (by decide +kernel), List.mem_of_getElem? (i := 704) (by decide +kernel), List.mem_of_getElem? (i := 705) (by decide +kernel)⟩
theorem lw_p51 : lw_okq (⟨"NamesBack$World", "comeToBy", "(II)I"⟩, 13) := ⟨⟨by decide +kernel, by decide +kernel⟩, List.mem_of_getElem? (i := 33) (by decide +kernel), List.mem_of_getElem? (i := 712) (by decide +kernel), List.mem_of_getElem? (i := 713) (by decide +kernel)⟩
theorem lw_p52 : lw_okq (⟨"NamesBack$Journeys", "allWays", "()I"⟩, 15) := ⟨⟨by decide +kernel, by decide +kernel⟩, List.mem_of_getElem? (i := 27) (by decide +kernel), List.mem_of_getElem? (i := 728) (by decide +kernel), List.mem_of_getElem? (i := 729) (by decide +kernel)⟩
theorem lw_p53 : lw_okq (⟨"NamesBack", "allWaysWith", "(III)I"⟩, 10) := ⟨⟨by decide +kernel, by decide +kernel⟩, List.mem_of_getElem? (i := 19) (by decide +kernel), List.mem_of_getElem? (i := 732) (by decide +kernel), List.mem_of_getElem? (i := 733) (by decide +kernel)⟩
theorem lw_p54 : lw_okq (⟨"NamesBack$Journeys", "sharesAt", "(III)J"⟩, 15) := ⟨⟨by decide +kernel, by decide +kernel⟩, List.mem_of_getElem? (i := 27) (by decide +kernel), List.mem_of_getElem? (i := 745) (by decide +kernel), List.mem_of_getElem? (i := 746) (by decide +kernel)⟩
theorem lw_p55 : lw_okq (⟨"NamesBack$Journeys", "spread", "(I)V"⟩, 15) := ⟨⟨by decide +kernel, by decide +kernel⟩, List.mem_of_getElem? (i := 27) (by decide +kernel), List.mem_of_getElem? (i := 752) (by decide +kernel), List.mem_of_getElem? (i := 753) (by decide +kernel)⟩
theorem lw_p56 : lw_okq (⟨"NamesBack$World", "becomeAs", "(LNamesBack$World;)V"⟩, 13) := ⟨⟨by decide +kernel, by decide +kernel⟩, List.mem_of_getElem? (i := 33) (by decide +kernel), List.mem_of_getElem? (i := 788) (by decide +kernel), List.mem_of_getElem? (i := 789) (by decide +kernel)⟩
theorem lw_p57 : lw_okq (⟨"NamesBack$Acts", "forget", "()V"⟩, 5) := ⟨⟨by decide +kernel, by decide +kernel⟩, List.mem_of_getElem? (i := 213) (by decide +kernel), List.mem_of_getElem? (i := 801) (by decide +kernel), List.mem_of_getElem? (i := 802) (by decide +kernel)⟩
theorem lw_p58 : lw_okq (⟨"NamesBack$Acts", "standAt", "(III)V"⟩, 5) := ⟨⟨by decide +kernel, by decide +kernel⟩, List.mem_of_getElem? (i := 213) (by decide +kernel), List.mem_of_getElem? (i := 805) (by decide +kernel), List.mem_of_getElem? (i := 806) (by decide +kernel)⟩
theorem lw_p59 : lw_okq (⟨"NamesBack$Acts", "points", "(III)I"⟩, 5) := ⟨⟨by decide +kernel, by decide +kernel⟩, List.mem_of_getElem? (i := 213) (by decide +kernel), List.mem_of_getElem? (i := 809) (by decide +kernel), List.mem_of_getElem? (i := 810) (by decide +kernel)⟩
theorem lw_p60 : lw_okq (⟨"NamesBack$Acts", "begin", "(I)V"⟩, 5) := ⟨⟨by decide +kernel, by decide +kernel⟩, List.mem_of_getElem? (i := 213) (by decide +kernel), List.mem_of_getElem? (i := 813) (by decide +kernel), List.mem_of_getElem? (i := 814) (by decide +kernel)⟩
theorem lw_p61 : lw_okq (⟨"NamesBack$Acts", "names", "(III)I"⟩, 5) := ⟨⟨by decide +kernel, by decide +kernel⟩, List.mem_of_getElem? (i := 213) (by decide +kernel), List.mem_of_getElem? (i := 818) (by decide +kernel), List.mem_of_getElem? (i := 819) (by decide +kernel)⟩
theorem lw_p62 : lw_okq (⟨"NamesBack$Acts", "tells", "(III)I"⟩, 5) := ⟨⟨by decide +kernel, by decide +kernel⟩, List.mem_of_getElem? (i := 213) (by decide +kernel), List.mem_of_getElem? (i := 823) (by decide +kernel), List.mem_of_getElem? (i := 824) (by decide +kernel)⟩
theorem lw_p63 : lw_okq (⟨"NamesBack$Tape", "become", "(II)V"⟩, 3) := ⟨⟨by decide +kernel, by decide +kernel⟩, List.mem_of_getElem? (i := 238) (by decide +kernel), List.mem_of_getElem? (i := 849) (by decide +kernel), List.mem_of_getElem? (i := 850) (by decide +kernel)⟩
def lw_privs_4 : List (MethodName × Nat) := [(⟨"NamesBack$Journeys", "setFalseArm", "(II)V"⟩, 15), (⟨"NamesBack$Journeys", "behind", "(I)I"⟩, 15), (⟨"NamesBack$Journeys", "dropFalseArm", "()V"⟩, 15), (⟨"NamesBack$World", "comeToBy", "(II)I"⟩, 13), (⟨"NamesBack$Journeys", "allWays", "()I"⟩, 15), (⟨"NamesBack", "allWaysWith", "(III)I"⟩, 10), (⟨"NamesBack$Journeys", "sharesAt", "(III)J"⟩, 15), (⟨"NamesBack$Journeys", "spread", "(I)V"⟩, 15), (⟨"NamesBack$World", "becomeAs", "(LNamesBack$World;)V"⟩, 13), (⟨"NamesBack$Acts", "forget", "()V"⟩, 5), (⟨"NamesBack$Acts", "standAt", "(III)V"⟩, 5), (⟨"NamesBack$Acts", "points", "(III)I"⟩, 5), (⟨"NamesBack$Acts", "begin", "(I)V"⟩, 5), (⟨"NamesBack$Acts", "names", "(III)I"⟩, 5), (⟨"NamesBack$Acts", "tells", "(III)I"⟩, 5), (⟨"NamesBack$Tape", "become", "(II)V"⟩, 3)]
theorem lw_r4 : ∀ q ∈ lw_privs_4, lw_okq q := List.forall_mem_cons.mpr ⟨lw_p48, List.forall_mem_cons.mpr ⟨lw_p49, List.forall_mem_cons.mpr ⟨lw_p50, List.forall_mem_cons.mpr ⟨lw_p51, List.forall_mem_cons.mpr ⟨lw_p52, List.forall_mem_cons.mpr ⟨lw_p53, List.forall_mem_cons.mpr ⟨lw_p54, List.forall_mem_cons.mpr ⟨lw_p55, List.forall_mem_cons.mpr ⟨lw_p56, List.forall_mem_cons.mpr ⟨lw_p57, List.forall_mem_cons.mpr ⟨lw_p58, List.forall_mem_cons.mpr ⟨lw_p59, List.forall_mem_cons.mpr ⟨lw_p60, List.forall_mem_cons.mpr ⟨lw_p61, List.forall_mem_cons.mpr ⟨lw_p62, List.forall_mem_cons.mpr ⟨lw_p63, fun _ h => absurd h List.not_mem_nil⟩⟩⟩⟩⟩⟩⟩⟩⟩⟩⟩⟩⟩⟩⟩⟩
theorem lw_p64 : lw_okq (⟨"NamesBack$Tape", "spans", "(II)Z"⟩, 3) := ⟨⟨by decide +kernel, by decide +kernel⟩, List.mem_of_getElem? (i := 238) (by decide +kernel), List.mem_of_getElem? (i := 858) (by decide +kernel), List.mem_of_getElem? (i := 859) (by decide +kernel)⟩
theorem lw_p65 : lw_okq (⟨"NamesBack$Tape", "asItem", "(J)J"⟩, 3) := ⟨⟨by decide +kernel, by decide +kernel⟩, List.mem_of_getElem? (i := 238) (by decide +kernel), List.mem_of_getElem? (i := 862) (by decide +kernel), List.mem_of_getElem? (i := 863) (by decide +kernel)⟩
theorem lw_p66 : lw_okq (⟨"NamesBackModel", "in", "(III)Z"⟩, 61) := ⟨⟨by decide +kernel, by decide +kernel⟩, List.mem_of_getElem? (i := 875) (by decide +kernel), List.mem_of_getElem? (i := 1070) (by decide +kernel), List.mem_of_getElem? (i := 1071) (by decide +kernel)⟩
theorem lw_p67 : lw_okq (⟨"NamesBackModel", "arePlaces", "(II)Z"⟩, 61) := ⟨⟨by decide +kernel, by decide +kernel⟩, List.mem_of_getElem? (i := 875) (by decide +kernel), List.mem_of_getElem? (i := 1078) (by decide +kernel), List.mem_of_getElem? (i := 1079) (by decide +kernel)⟩
theorem lw_p68 : lw_okq (⟨"NamesBackModel", "isPlace", "(I)Z"⟩, 61) := ⟨⟨by decide +kernel, by decide +kernel⟩, List.mem_of_getElem? (i := 875) (by decide +kernel), List.mem_of_getElem? (i := 1082) (by decide +kernel), List.mem_of_getElem? (i := 1083) (by decide +kernel)⟩
theorem lw_p69 : lw_okq (⟨"NamesBackModel", "has", "(II)Z"⟩, 61) := ⟨⟨by decide +kernel, by decide +kernel⟩, List.mem_of_getElem? (i := 875) (by decide +kernel), List.mem_of_getElem? (i := 1090) (by decide +kernel), List.mem_of_getElem? (i := 1091) (by decide +kernel)⟩
theorem lw_p70 : lw_okq (⟨"NamesBackModel", "ones", "(I)I"⟩, 61) := ⟨⟨by decide +kernel, by decide +kernel⟩, List.mem_of_getElem? (i := 875) (by decide +kernel), List.mem_of_getElem? (i := 1094) (by decide +kernel), List.mem_of_getElem? (i := 1095) (by decide +kernel)⟩
theorem lw_p71 : lw_okq (⟨"NamesBackModel", "armsNow", "()I"⟩, 61) := ⟨⟨by decide +kernel, by decide +kernel⟩, List.mem_of_getElem? (i := 875) (by decide +kernel), List.mem_of_getElem? (i := 1098) (by decide +kernel), List.mem_of_getElem? (i := 1099) (by decide +kernel)⟩
theorem lw_p72 : lw_okq (⟨"NamesBackModel", "begin", "()I"⟩, 61) := ⟨⟨by decide +kernel, by decide +kernel⟩, List.mem_of_getElem? (i := 875) (by decide +kernel), List.mem_of_getElem? (i := 1102) (by decide +kernel), List.mem_of_getElem? (i := 1103) (by decide +kernel)⟩
theorem lw_p73 : lw_okq (⟨"NamesBackModel", "behind", "()I"⟩, 61) := ⟨⟨by decide +kernel, by decide +kernel⟩, List.mem_of_getElem? (i := 875) (by decide +kernel), List.mem_of_getElem? (i := 1106) (by decide +kernel), List.mem_of_getElem? (i := 1107) (by decide +kernel)⟩
theorem lw_p74 : lw_okq (⟨"NamesBackModel", "lays", "(IIZ)V"⟩, 61) := ⟨⟨by decide +kernel, by decide +kernel⟩, List.mem_of_getElem? (i := 875) (by decide +kernel), List.mem_of_getElem? (i := 1110) (by decide +kernel), List.mem_of_getElem? (i := 1111) (by decide +kernel)⟩
theorem lw_p75 : lw_okq (⟨"NamesBackModel", "goesText", "(I)Z"⟩, 61) := ⟨⟨by decide +kernel, by decide +kernel⟩, List.mem_of_getElem? (i := 875) (by decide +kernel), List.mem_of_getElem? (i := 1130) (by decide +kernel), List.mem_of_getElem? (i := 1131) (by decide +kernel)⟩
theorem lw_p76 : lw_okq (⟨"NamesBackModel", "takesClause", "(I)Z"⟩, 61) := ⟨⟨by decide +kernel, by decide +kernel⟩, List.mem_of_getElem? (i := 875) (by decide +kernel), List.mem_of_getElem? (i := 1134) (by decide +kernel), List.mem_of_getElem? (i := 1135) (by decide +kernel)⟩
theorem lw_p77 : lw_okq (⟨"NamesBackModel", "takesHead", "(I)Z"⟩, 61) := ⟨⟨by decide +kernel, by decide +kernel⟩, List.mem_of_getElem? (i := 875) (by decide +kernel), List.mem_of_getElem? (i := 1138) (by decide +kernel), List.mem_of_getElem? (i := 1139) (by decide +kernel)⟩
theorem lw_p78 : lw_okq (⟨"NamesBackModel", "peek", "()I"⟩, 61) := ⟨⟨by decide +kernel, by decide +kernel⟩, List.mem_of_getElem? (i := 875) (by decide +kernel), List.mem_of_getElem? (i := 1142) (by decide +kernel), List.mem_of_getElem? (i := 1143) (by decide +kernel)⟩
theorem lw_p79 : lw_okq (⟨"NamesBackModel", "takesWord", "(II)Z"⟩, 61) := ⟨⟨by decide +kernel, by decide +kernel⟩, List.mem_of_getElem? (i := 875) (by decide +kernel), List.mem_of_getElem? (i := 1146) (by decide +kernel), List.mem_of_getElem? (i := 1147) (by decide +kernel)⟩
def lw_privs_5 : List (MethodName × Nat) := [(⟨"NamesBack$Tape", "spans", "(II)Z"⟩, 3), (⟨"NamesBack$Tape", "asItem", "(J)J"⟩, 3), (⟨"NamesBackModel", "in", "(III)Z"⟩, 61), (⟨"NamesBackModel", "arePlaces", "(II)Z"⟩, 61), (⟨"NamesBackModel", "isPlace", "(I)Z"⟩, 61), (⟨"NamesBackModel", "has", "(II)Z"⟩, 61), (⟨"NamesBackModel", "ones", "(I)I"⟩, 61), (⟨"NamesBackModel", "armsNow", "()I"⟩, 61), (⟨"NamesBackModel", "begin", "()I"⟩, 61), (⟨"NamesBackModel", "behind", "()I"⟩, 61), (⟨"NamesBackModel", "lays", "(IIZ)V"⟩, 61), (⟨"NamesBackModel", "goesText", "(I)Z"⟩, 61), (⟨"NamesBackModel", "takesClause", "(I)Z"⟩, 61), (⟨"NamesBackModel", "takesHead", "(I)Z"⟩, 61), (⟨"NamesBackModel", "peek", "()I"⟩, 61), (⟨"NamesBackModel", "takesWord", "(II)Z"⟩, 61)]
theorem lw_r5 : ∀ q ∈ lw_privs_5, lw_okq q := List.forall_mem_cons.mpr ⟨lw_p64, List.forall_mem_cons.mpr ⟨lw_p65, List.forall_mem_cons.mpr ⟨lw_p66, List.forall_mem_cons.mpr ⟨lw_p67, List.forall_mem_cons.mpr ⟨lw_p68, List.forall_mem_cons.mpr ⟨lw_p69, List.forall_mem_cons.mpr ⟨lw_p70, List.forall_mem_cons.mpr ⟨lw_p71, List.forall_mem_cons.mpr ⟨lw_p72, List.forall_mem_cons.mpr ⟨lw_p73, List.forall_mem_cons.mpr ⟨lw_p74, List.forall_mem_cons.mpr ⟨lw_p75, List.forall_mem_cons.mpr ⟨lw_p76, List.forall_mem_cons.mpr ⟨lw_p77, List.forall_mem_cons.mpr ⟨lw_p78, List.forall_mem_cons.mpr ⟨lw_p79, fun _ h => absurd h List.not_mem_nil⟩⟩⟩⟩⟩⟩⟩⟩⟩⟩⟩⟩⟩⟩⟩⟩
theorem lw_p80 : lw_okq (⟨"NamesBackModel", "takes", "(I)Z"⟩, 61) := ⟨⟨by decide +kernel, by decide +kernel⟩, List.mem_of_getElem? (i := 875) (by decide +kernel), List.mem_of_getElem? (i := 1150) (by decide +kernel), List.mem_of_getElem? (i := 1151) (by decide +kernel)⟩
theorem lw_p81 : lw_okq (⟨"NamesBackModel", "takesNumber", "()Z"⟩, 61) := ⟨⟨by decide +kernel, by decide +kernel⟩, List.mem_of_getElem? (i := 875) (by decide +kernel), List.mem_of_getElem? (i := 1154) (by decide +kernel), List.mem_of_getElem? (i := 1155) (by decide +kernel)⟩
theorem lw_p82 : lw_okq (⟨"NamesBackModel", "isDigit", "()Z"⟩, 61) := ⟨⟨by decide +kernel, by decide +kernel⟩, List.mem_of_getElem? (i := 875) (by decide +kernel), List.mem_of_getElem? (i := 1158) (by decide +kernel), List.mem_of_getElem? (i := 1159) (by decide +kernel)⟩
theorem lw_p83 : lw_okq (⟨"NamesBackModel", "takesE", "(I)Z"⟩, 61) := ⟨⟨by decide +kernel, by decide +kernel⟩, List.mem_of_getElem? (i := 875) (by decide +kernel), List.mem_of_getElem? (i := 1162) (by decide +kernel), List.mem_of_getElem? (i := 1163) (by decide +kernel)⟩
theorem lw_p84 : lw_okq (⟨"NamesBackModel", "takesTest", "()Z"⟩, 61) := ⟨⟨by decide +kernel, by decide +kernel⟩, List.mem_of_getElem? (i := 875) (by decide +kernel), List.mem_of_getElem? (i := 1166) (by decide +kernel), List.mem_of_getElem? (i := 1167) (by decide +kernel)⟩
theorem lw_p85 : lw_okq (⟨"NamesBackModel", "letterOf", "(I)I"⟩, 61) := ⟨⟨by decide +kernel, by decide +kernel⟩, List.mem_of_getElem? (i := 875) (by decide +kernel), List.mem_of_getElem? (i := 1170) (by decide +kernel), List.mem_of_getElem? (i := 1171) (by decide +kernel)⟩
theorem lw_p86 : lw_okq (⟨"NamesBackModel", "emits", "(I)V"⟩, 61) := ⟨⟨by decide +kernel, by decide +kernel⟩, List.mem_of_getElem? (i := 875) (by decide +kernel), List.mem_of_getElem? (i := 1174) (by decide +kernel), List.mem_of_getElem? (i := 1175) (by decide +kernel)⟩
theorem lw_p87 : lw_okq (⟨"NamesBackModel", "whole", "()V"⟩, 61) := ⟨⟨by decide +kernel, by decide +kernel⟩, List.mem_of_getElem? (i := 875) (by decide +kernel), List.mem_of_getElem? (i := 1178) (by decide +kernel), List.mem_of_getElem? (i := 1179) (by decide +kernel)⟩
theorem lw_p88 : lw_okq (⟨"NamesBackModel", "settle", "(I)V"⟩, 61) := ⟨⟨by decide +kernel, by decide +kernel⟩, List.mem_of_getElem? (i := 875) (by decide +kernel), List.mem_of_getElem? (i := 1182) (by decide +kernel), List.mem_of_getElem? (i := 1183) (by decide +kernel)⟩
theorem lw_p89 : lw_okq (⟨"NamesBackModel", "sumOf", "(II)I"⟩, 61) := ⟨⟨by decide +kernel, by decide +kernel⟩, List.mem_of_getElem? (i := 875) (by decide +kernel), List.mem_of_getElem? (i := 1190) (by decide +kernel), List.mem_of_getElem? (i := 1191) (by decide +kernel)⟩
theorem lw_p90 : lw_okq (⟨"NamesBackModel", "holds", "(II)Z"⟩, 61) := ⟨⟨by decide +kernel, by decide +kernel⟩, List.mem_of_getElem? (i := 875) (by decide +kernel), List.mem_of_getElem? (i := 1194) (by decide +kernel), List.mem_of_getElem? (i := 1195) (by decide +kernel)⟩
theorem lw_p91 : lw_okq (⟨"NamesBackModel", "factOf", "(II)I"⟩, 61) := ⟨⟨by decide +kernel, by decide +kernel⟩, List.mem_of_getElem? (i := 875) (by decide +kernel), List.mem_of_getElem? (i := 1198) (by decide +kernel), List.mem_of_getElem? (i := 1199) (by decide +kernel)⟩
theorem lw_p92 : lw_okq (⟨"NamesBackModel", "roadsOf", "(I)I"⟩, 61) := ⟨⟨by decide +kernel, by decide +kernel⟩, List.mem_of_getElem? (i := 875) (by decide +kernel), List.mem_of_getElem? (i := 1202) (by decide +kernel), List.mem_of_getElem? (i := 1203) (by decide +kernel)⟩
theorem lw_p93 : lw_okq (⟨"NamesBackModel", "namesNow", "()I"⟩, 61) := ⟨⟨by decide +kernel, by decide +kernel⟩, List.mem_of_getElem? (i := 875) (by decide +kernel), List.mem_of_getElem? (i := 1210) (by decide +kernel), List.mem_of_getElem? (i := 1211) (by decide +kernel)⟩
theorem lw_p94 : lw_okq (⟨"NamesBackModel", "layLand", "()V"⟩, 61) := ⟨⟨by decide +kernel, by decide +kernel⟩, List.mem_of_getElem? (i := 875) (by decide +kernel), List.mem_of_getElem? (i := 1218) (by decide +kernel), List.mem_of_getElem? (i := 1219) (by decide +kernel)⟩
theorem lw_p95 : lw_okq (⟨"NamesBackModel", "shorten", "(III)V"⟩, 61) := ⟨⟨by decide +kernel, by decide +kernel⟩, List.mem_of_getElem? (i := 875) (by decide +kernel), List.mem_of_getElem? (i := 1222) (by decide +kernel), List.mem_of_getElem? (i := 1223) (by decide +kernel)⟩
def lw_privs_6 : List (MethodName × Nat) := [(⟨"NamesBackModel", "takes", "(I)Z"⟩, 61), (⟨"NamesBackModel", "takesNumber", "()Z"⟩, 61), (⟨"NamesBackModel", "isDigit", "()Z"⟩, 61), (⟨"NamesBackModel", "takesE", "(I)Z"⟩, 61), (⟨"NamesBackModel", "takesTest", "()Z"⟩, 61), (⟨"NamesBackModel", "letterOf", "(I)I"⟩, 61), (⟨"NamesBackModel", "emits", "(I)V"⟩, 61), (⟨"NamesBackModel", "whole", "()V"⟩, 61), (⟨"NamesBackModel", "settle", "(I)V"⟩, 61), (⟨"NamesBackModel", "sumOf", "(II)I"⟩, 61), (⟨"NamesBackModel", "holds", "(II)Z"⟩, 61), (⟨"NamesBackModel", "factOf", "(II)I"⟩, 61), (⟨"NamesBackModel", "roadsOf", "(I)I"⟩, 61), (⟨"NamesBackModel", "namesNow", "()I"⟩, 61), (⟨"NamesBackModel", "layLand", "()V"⟩, 61), (⟨"NamesBackModel", "shorten", "(III)V"⟩, 61)]
theorem lw_r6 : ∀ q ∈ lw_privs_6, lw_okq q := List.forall_mem_cons.mpr ⟨lw_p80, List.forall_mem_cons.mpr ⟨lw_p81, List.forall_mem_cons.mpr ⟨lw_p82, List.forall_mem_cons.mpr ⟨lw_p83, List.forall_mem_cons.mpr ⟨lw_p84, List.forall_mem_cons.mpr ⟨lw_p85, List.forall_mem_cons.mpr ⟨lw_p86, List.forall_mem_cons.mpr ⟨lw_p87, List.forall_mem_cons.mpr ⟨lw_p88, List.forall_mem_cons.mpr ⟨lw_p89, List.forall_mem_cons.mpr ⟨lw_p90, List.forall_mem_cons.mpr ⟨lw_p91, List.forall_mem_cons.mpr ⟨lw_p92, List.forall_mem_cons.mpr ⟨lw_p93, List.forall_mem_cons.mpr ⟨lw_p94, List.forall_mem_cons.mpr ⟨lw_p95, fun _ h => absurd h List.not_mem_nil⟩⟩⟩⟩⟩⟩⟩⟩⟩⟩⟩⟩⟩⟩⟩⟩
theorem lw_p96 : lw_okq (⟨"NamesBackModel", "towardOf", "(II)I"⟩, 61) := ⟨⟨by decide +kernel, by decide +kernel⟩, List.mem_of_getElem? (i := 875) (by decide +kernel), List.mem_of_getElem? (i := 1234) (by decide +kernel), List.mem_of_getElem? (i := 1235) (by decide +kernel)⟩
theorem lw_p97 : lw_okq (⟨"NamesBackModel", "nextOf", "(II)I"⟩, 61) := ⟨⟨by decide +kernel, by decide +kernel⟩, List.mem_of_getElem? (i := 875) (by decide +kernel), List.mem_of_getElem? (i := 1242) (by decide +kernel), List.mem_of_getElem? (i := 1243) (by decide +kernel)⟩
theorem lw_p98 : lw_okq (⟨"NamesBackModel", "goalOf", "(II)I"⟩, 61) := ⟨⟨by decide +kernel, by decide +kernel⟩, List.mem_of_getElem? (i := 875) (by decide +kernel), List.mem_of_getElem? (i := 1246) (by decide +kernel), List.mem_of_getElem? (i := 1247) (by decide +kernel)⟩
theorem lw_p99 : lw_okq (⟨"NamesBackModel", "nearestNamed", "(I)I"⟩, 61) := ⟨⟨by decide +kernel, by decide +kernel⟩, List.mem_of_getElem? (i := 875) (by decide +kernel), List.mem_of_getElem? (i := 1250) (by decide +kernel), List.mem_of_getElem? (i := 1251) (by decide +kernel)⟩
theorem lw_p100 : lw_okq (⟨"NamesBackModel", "greatestNamed", "(I)I"⟩, 61) := ⟨⟨by decide +kernel, by decide +kernel⟩, List.mem_of_getElem? (i := 875) (by decide +kernel), List.mem_of_getElem? (i := 1254) (by decide +kernel), List.mem_of_getElem? (i := 1255) (by decide +kernel)⟩
theorem lw_p101 : lw_okq (⟨"NamesBackModel", "lastNamed", "(I)I"⟩, 61) := ⟨⟨by decide +kernel, by decide +kernel⟩, List.mem_of_getElem? (i := 875) (by decide +kernel), List.mem_of_getElem? (i := 1258) (by decide +kernel), List.mem_of_getElem? (i := 1259) (by decide +kernel)⟩
theorem lw_p102 : lw_okq (⟨"NamesBackModel", "leastNamed", "(I)I"⟩, 61) := ⟨⟨by decide +kernel, by decide +kernel⟩, List.mem_of_getElem? (i := 875) (by decide +kernel), List.mem_of_getElem? (i := 1262) (by decide +kernel), List.mem_of_getElem? (i := 1263) (by decide +kernel)⟩
theorem lw_p103 : lw_okq (⟨"NamesBackModel", "turnedTo", "()I"⟩, 61) := ⟨⟨by decide +kernel, by decide +kernel⟩, List.mem_of_getElem? (i := 875) (by decide +kernel), List.mem_of_getElem? (i := 1266) (by decide +kernel), List.mem_of_getElem? (i := 1267) (by decide +kernel)⟩
theorem lw_p104 : lw_okq (⟨"NamesBackModel", "goes", "(II)Z"⟩, 61) := ⟨⟨by decide +kernel, by decide +kernel⟩, List.mem_of_getElem? (i := 875) (by decide +kernel), List.mem_of_getElem? (i := 1274) (by decide +kernel), List.mem_of_getElem? (i := 1275) (by decide +kernel)⟩
theorem lw_p105 : lw_okq (⟨"NamesBackModel", "lostMany", "()I"⟩, 61) := ⟨⟨by decide +kernel, by decide +kernel⟩, List.mem_of_getElem? (i := 875) (by decide +kernel), List.mem_of_getElem? (i := 1282) (by decide +kernel), List.mem_of_getElem? (i := 1283) (by decide +kernel)⟩
theorem lw_p106 : lw_okq (⟨"NamesBackModel", "lostPairs", "()I"⟩, 61) := ⟨⟨by decide +kernel, by decide +kernel⟩, List.mem_of_getElem? (i := 875) (by decide +kernel), List.mem_of_getElem? (i := 1286) (by decide +kernel), List.mem_of_getElem? (i := 1287) (by decide +kernel)⟩
theorem lw_p107 : lw_okq (⟨"NamesBackModel", "chainOf", "(II)I"⟩, 61) := ⟨⟨by decide +kernel, by decide +kernel⟩, List.mem_of_getElem? (i := 875) (by decide +kernel), List.mem_of_getElem? (i := 1310) (by decide +kernel), List.mem_of_getElem? (i := 1311) (by decide +kernel)⟩
theorem lw_p108 : lw_okq (⟨"NamesBackModel", "allWays", "()I"⟩, 61) := ⟨⟨by decide +kernel, by decide +kernel⟩, List.mem_of_getElem? (i := 875) (by decide +kernel), List.mem_of_getElem? (i := 1326) (by decide +kernel), List.mem_of_getElem? (i := 1327) (by decide +kernel)⟩
theorem lw_p109 : lw_okq (⟨"NamesBackModel", "goStep", "()V"⟩, 61) := ⟨⟨by decide +kernel, by decide +kernel⟩, List.mem_of_getElem? (i := 875) (by decide +kernel), List.mem_of_getElem? (i := 1339) (by decide +kernel), List.mem_of_getElem? (i := 1340) (by decide +kernel)⟩
theorem lw_p110 : lw_okq (⟨"NamesBackModel", "lowest", "(JJI)J"⟩, 61) := ⟨⟨by decide +kernel, by decide +kernel⟩, List.mem_of_getElem? (i := 875) (by decide +kernel), List.mem_of_getElem? (i := 1344) (by decide +kernel), List.mem_of_getElem? (i := 1345) (by decide +kernel)⟩
theorem lw_p111 : lw_okq (⟨"NamesBackModel", "divisor", "(JJ)J"⟩, 61) := ⟨⟨by decide +kernel, by decide +kernel⟩, List.mem_of_getElem? (i := 875) (by decide +kernel), List.mem_of_getElem? (i := 1348) (by decide +kernel), List.mem_of_getElem? (i := 1349) (by decide +kernel)⟩
def lw_privs_7 : List (MethodName × Nat) := [(⟨"NamesBackModel", "towardOf", "(II)I"⟩, 61), (⟨"NamesBackModel", "nextOf", "(II)I"⟩, 61), (⟨"NamesBackModel", "goalOf", "(II)I"⟩, 61), (⟨"NamesBackModel", "nearestNamed", "(I)I"⟩, 61), (⟨"NamesBackModel", "greatestNamed", "(I)I"⟩, 61), (⟨"NamesBackModel", "lastNamed", "(I)I"⟩, 61), (⟨"NamesBackModel", "leastNamed", "(I)I"⟩, 61), (⟨"NamesBackModel", "turnedTo", "()I"⟩, 61), (⟨"NamesBackModel", "goes", "(II)Z"⟩, 61), (⟨"NamesBackModel", "lostMany", "()I"⟩, 61), (⟨"NamesBackModel", "lostPairs", "()I"⟩, 61), (⟨"NamesBackModel", "chainOf", "(II)I"⟩, 61), (⟨"NamesBackModel", "allWays", "()I"⟩, 61), (⟨"NamesBackModel", "goStep", "()V"⟩, 61), (⟨"NamesBackModel", "lowest", "(JJI)J"⟩, 61), (⟨"NamesBackModel", "divisor", "(JJ)J"⟩, 61)]
theorem lw_r7 : ∀ q ∈ lw_privs_7, lw_okq q := List.forall_mem_cons.mpr ⟨lw_p96, List.forall_mem_cons.mpr ⟨lw_p97, List.forall_mem_cons.mpr ⟨lw_p98, List.forall_mem_cons.mpr ⟨lw_p99, List.forall_mem_cons.mpr ⟨lw_p100, List.forall_mem_cons.mpr ⟨lw_p101, List.forall_mem_cons.mpr ⟨lw_p102, List.forall_mem_cons.mpr ⟨lw_p103, List.forall_mem_cons.mpr ⟨lw_p104, List.forall_mem_cons.mpr ⟨lw_p105, List.forall_mem_cons.mpr ⟨lw_p106, List.forall_mem_cons.mpr ⟨lw_p107, List.forall_mem_cons.mpr ⟨lw_p108, List.forall_mem_cons.mpr ⟨lw_p109, List.forall_mem_cons.mpr ⟨lw_p110, List.forall_mem_cons.mpr ⟨lw_p111, fun _ h => absurd h List.not_mem_nil⟩⟩⟩⟩⟩⟩⟩⟩⟩⟩⟩⟩⟩⟩⟩⟩
theorem lw_p112 : lw_okq (⟨"NamesBackModel", "isTape", "(I)Z"⟩, 61) := ⟨⟨by decide +kernel, by decide +kernel⟩, List.mem_of_getElem? (i := 875) (by decide +kernel), List.mem_of_getElem? (i := 1368) (by decide +kernel), List.mem_of_getElem? (i := 1369) (by decide +kernel)⟩
theorem lw_p113 : lw_okq (⟨"NamesBackModel", "pointsAct", "(II)I"⟩, 61) := ⟨⟨by decide +kernel, by decide +kernel⟩, List.mem_of_getElem? (i := 875) (by decide +kernel), List.mem_of_getElem? (i := 1384) (by decide +kernel), List.mem_of_getElem? (i := 1385) (by decide +kernel)⟩
theorem lw_p114 : lw_okq (⟨"NamesBackModel", "body", "(I)V"⟩, 61) := ⟨⟨by decide +kernel, by decide +kernel⟩, List.mem_of_getElem? (i := 875) (by decide +kernel), List.mem_of_getElem? (i := 1388) (by decide +kernel), List.mem_of_getElem? (i := 1389) (by decide +kernel)⟩
theorem lw_p115 : lw_okq (⟨"NamesBackModel", "placePoints", "(II)I"⟩, 61) := ⟨⟨by decide +kernel, by decide +kernel⟩, List.mem_of_getElem? (i := 875) (by decide +kernel), List.mem_of_getElem? (i := 1392) (by decide +kernel), List.mem_of_getElem? (i := 1393) (by decide +kernel)⟩
theorem lw_p116 : lw_okq (⟨"NamesBackModel", "namesAct", "(II)I"⟩, 61) := ⟨⟨by decide +kernel, by decide +kernel⟩, List.mem_of_getElem? (i := 875) (by decide +kernel), List.mem_of_getElem? (i := 1396) (by decide +kernel), List.mem_of_getElem? (i := 1397) (by decide +kernel)⟩
theorem lw_p117 : lw_okq (⟨"NamesBackModel", "nearNames", "(II)I"⟩, 61) := ⟨⟨by decide +kernel, by decide +kernel⟩, List.mem_of_getElem? (i := 875) (by decide +kernel), List.mem_of_getElem? (i := 1400) (by decide +kernel), List.mem_of_getElem? (i := 1401) (by decide +kernel)⟩
theorem lw_p118 : lw_okq (⟨"NamesBackModel", "placeNames", "(II)I"⟩, 61) := ⟨⟨by decide +kernel, by decide +kernel⟩, List.mem_of_getElem? (i := 875) (by decide +kernel), List.mem_of_getElem? (i := 1404) (by decide +kernel), List.mem_of_getElem? (i := 1405) (by decide +kernel)⟩
theorem lw_p119 : lw_okq (⟨"NamesBackModel", "tellsAct", "(II)I"⟩, 61) := ⟨⟨by decide +kernel, by decide +kernel⟩, List.mem_of_getElem? (i := 875) (by decide +kernel), List.mem_of_getElem? (i := 1408) (by decide +kernel), List.mem_of_getElem? (i := 1409) (by decide +kernel)⟩
theorem lw_p120 : lw_okq (⟨"NamesBackModel", "placeTells", "(II)I"⟩, 61) := ⟨⟨by decide +kernel, by decide +kernel⟩, List.mem_of_getElem? (i := 875) (by decide +kernel), List.mem_of_getElem? (i := 1412) (by decide +kernel), List.mem_of_getElem? (i := 1413) (by decide +kernel)⟩
theorem lw_p121 : lw_okq (⟨"NamesBackModel", "narrow", "(IJ)J"⟩, 61) := ⟨⟨by decide +kernel, by decide +kernel⟩, List.mem_of_getElem? (i := 875) (by decide +kernel), List.mem_of_getElem? (i := 1436) (by decide +kernel), List.mem_of_getElem? (i := 1437) (by decide +kernel)⟩
def lw_privs_8 : List (MethodName × Nat) := [(⟨"NamesBackModel", "isTape", "(I)Z"⟩, 61), (⟨"NamesBackModel", "pointsAct", "(II)I"⟩, 61), (⟨"NamesBackModel", "body", "(I)V"⟩, 61), (⟨"NamesBackModel", "placePoints", "(II)I"⟩, 61), (⟨"NamesBackModel", "namesAct", "(II)I"⟩, 61), (⟨"NamesBackModel", "nearNames", "(II)I"⟩, 61), (⟨"NamesBackModel", "placeNames", "(II)I"⟩, 61), (⟨"NamesBackModel", "tellsAct", "(II)I"⟩, 61), (⟨"NamesBackModel", "placeTells", "(II)I"⟩, 61), (⟨"NamesBackModel", "narrow", "(IJ)J"⟩, 61)]
theorem lw_r8 : ∀ q ∈ lw_privs_8, lw_okq q := List.forall_mem_cons.mpr ⟨lw_p112, List.forall_mem_cons.mpr ⟨lw_p113, List.forall_mem_cons.mpr ⟨lw_p114, List.forall_mem_cons.mpr ⟨lw_p115, List.forall_mem_cons.mpr ⟨lw_p116, List.forall_mem_cons.mpr ⟨lw_p117, List.forall_mem_cons.mpr ⟨lw_p118, List.forall_mem_cons.mpr ⟨lw_p119, List.forall_mem_cons.mpr ⟨lw_p120, List.forall_mem_cons.mpr ⟨lw_p121, fun _ h => absurd h List.not_mem_nil⟩⟩⟩⟩⟩⟩⟩⟩⟩⟩
def lw_privs : List (MethodName × Nat) := lw_privs_1 ++ (lw_privs_2 ++ (lw_privs_3 ++ (lw_privs_4 ++ (lw_privs_5 ++ (lw_privs_6 ++ (lw_privs_7 ++ (lw_privs_8)))))))
def lw_tbl : List Cond := k2_sels lw_privs ++ tables_1
theorem lw_privs_ok : ∀ q ∈ lw_privs, lw_okq q := by
  show ∀ q ∈ lw_privs_1 ++ (lw_privs_2 ++ (lw_privs_3 ++ (lw_privs_4 ++ (lw_privs_5 ++ (lw_privs_6 ++ (lw_privs_7 ++ (lw_privs_8))))))), lw_okq q
  exact List.forall_mem_append.mpr ⟨lw_r1, List.forall_mem_append.mpr ⟨lw_r2, List.forall_mem_append.mpr ⟨lw_r3, List.forall_mem_append.mpr ⟨lw_r4, List.forall_mem_append.mpr ⟨lw_r5, List.forall_mem_append.mpr ⟨lw_r6, List.forall_mem_append.mpr ⟨lw_r7, lw_r8⟩⟩⟩⟩⟩⟩⟩
def RX0 : String := "NamesBack$Acts"
def TX0 : u_T := fun k => match k with
  | 0 => ("NamesBack$Acts", "bodies", "[I", true)
  | 1 => ("NamesBack$Acts", "ran", "I", false)
  | 2 => ("NamesBack$Acts", "number", "I", false)
  | 3 => ("NamesBack$Acts", "kind", "I", false)
  | _ => ("NamesBack$Acts", "v", "I", false)
def tyX0 : Nat → FieldType := fun k => match k with
  | 0 => .array .int
  | 1 => .int
  | 2 => .int
  | 3 => .int
  | _ => .int
abbrev wsX00 : List Cond := u_ws RX0 TX0 5
theorem nmX0 : ∀ a, a < 5 → ∀ b, b < 5 → a ≠ b → (TX0 a).2.1 ≠ (TX0 b).2.1 := by decide +kernel
theorem tyX0_ok : ∀ k, k < 5 → parseFieldDescriptor (TX0 k).2.2.1 = some (tyX0 k) := by decide +kernel
abbrev cX0_init : ByteArray := prog_2_method_1_code
def yX0_init : MethodName := ⟨RX0, "<init>", "()V"⟩
abbrev cX0_forget : ByteArray := prog_2_method_2_code
def yX0_forget : MethodName := ⟨RX0, "forget", "()V"⟩
abbrev cX0_standAt : ByteArray := prog_2_method_3_code
def yX0_standAt : MethodName := ⟨RX0, "standAt", "(III)V"⟩
abbrev cX0_begin : ByteArray := prog_2_method_4_code
def yX0_begin : MethodName := ⟨RX0, "begin", "(I)V"⟩
abbrev cX0_points : ByteArray := prog_2_method_5_code
def yX0_points : MethodName := ⟨RX0, "points", "(III)I"⟩
abbrev cX0_names : ByteArray := prog_2_method_6_code
def yX0_names : MethodName := ⟨RX0, "names", "(III)I"⟩
abbrev cX0_tells : ByteArray := prog_2_method_7_code
def yX0_tells : MethodName := ⟨RX0, "tells", "(III)I"⟩
def RX1 : String := "NamesBack$Journeys"
def TX1 : u_T := fun k => match k with
  | 0 => ("NamesBack$Journeys", "world", "LNamesBack$World;", true)
  | 1 => ("NamesBack$Journeys", "facts", "[I", true)
  | 2 => ("NamesBack$Journeys", "sizes", "[I", true)
  | 3 => ("NamesBack$Journeys", "extra", "[I", true)
  | 4 => ("NamesBack$Journeys", "longs", "[I", true)
  | 5 => ("NamesBack$Journeys", "ways", "[I", true)
  | 6 => ("NamesBack$Journeys", "towards", "[I", true)
  | 7 => ("NamesBack$Journeys", "steps", "[I", true)
  | 8 => ("NamesBack$Journeys", "shares", "[J", true)
  | 9 => ("NamesBack$Journeys", "sharesThen", "[J", true)
  | 10 => ("NamesBack$Journeys", "falseAt", "I", false)
  | 11 => ("NamesBack$Journeys", "falseNamed", "I", false)
  | 12 => ("NamesBack$Journeys", "falseInstead", "I", false)
  | 13 => ("NamesBack$Journeys", "walkedRoads", "I", false)
  | _ => ("NamesBack$Journeys", "walkedLong", "I", false)
def tyX1 : Nat → FieldType := fun k => match k with
  | 0 => .object "NamesBack$World"
  | 1 => .array .int
  | 2 => .array .int
  | 3 => .array .int
  | 4 => .array .int
  | 5 => .array .int
  | 6 => .array .int
  | 7 => .array .int
  | 8 => .array .long
  | 9 => .array .long
  | 10 => .int
  | 11 => .int
  | 12 => .int
  | 13 => .int
  | _ => .int
abbrev wsX10 : List Cond := u_ws RX1 TX1 15
theorem nmX1 : ∀ a, a < 15 → ∀ b, b < 15 → a ≠ b → (TX1 a).2.1 ≠ (TX1 b).2.1 := by decide +kernel
theorem tyX1_ok : ∀ k, k < 15 → parseFieldDescriptor (TX1 k).2.2.1 = some (tyX1 k) := by decide +kernel
abbrev cX1_init : ByteArray := prog_3_method_1_code
def yX1_init : MethodName := ⟨RX1, "<init>", "()V"⟩
abbrev cX1_findSizes : ByteArray := prog_3_method_2_code
def yX1_findSizes : MethodName := ⟨RX1, "findSizes", "(LNamesBack$Land;)V"⟩
abbrev cX1_findLongs : ByteArray := prog_3_method_3_code
def yX1_findLongs : MethodName := ⟨RX1, "findLongs", "()V"⟩
abbrev cX1_findWays : ByteArray := prog_3_method_4_code
def yX1_findWays : MethodName := ⟨RX1, "findWays", "()V"⟩
abbrev cX1_leads : ByteArray := prog_3_method_5_code
def yX1_leads : MethodName := ⟨RX1, "leads", "(II)Z"⟩
abbrev cX1_findTowards : ByteArray := prog_3_method_6_code
def yX1_findTowards : MethodName := ⟨RX1, "findTowards", "()V"⟩
abbrev cX1_firstOfWay : ByteArray := prog_3_method_7_code
def yX1_firstOfWay : MethodName := ⟨RX1, "firstOfWay", "(II)I"⟩
abbrev cX1_findSteps : ByteArray := prog_3_method_8_code
def yX1_findSteps : MethodName := ⟨RX1, "findSteps", "()V"⟩
abbrev cX1_aimAt : ByteArray := prog_3_method_9_code
def yX1_aimAt : MethodName := ⟨RX1, "aimAt", "(II)I"⟩
abbrev cX1_capitalOf : ByteArray := prog_3_method_10_code
def yX1_capitalOf : MethodName := ⟨RX1, "capitalOf", "(I)I"⟩
abbrev cX1_leastNamed : ByteArray := prog_3_method_11_code
def yX1_leastNamed : MethodName := ⟨RX1, "leastNamed", "(I)I"⟩
abbrev cX1_lastNamed : ByteArray := prog_3_method_12_code
def yX1_lastNamed : MethodName := ⟨RX1, "lastNamed", "(I)I"⟩
abbrev cX1_nearestNamed : ByteArray := prog_3_method_13_code
def yX1_nearestNamed : MethodName := ⟨RX1, "nearestNamed", "(I)I"⟩
abbrev cX1_greatestNamed : ByteArray := prog_3_method_14_code
def yX1_greatestNamed : MethodName := ⟨RX1, "greatestNamed", "(I)I"⟩
abbrev cX1_setFalseArm : ByteArray := prog_3_method_15_code
def yX1_setFalseArm : MethodName := ⟨RX1, "setFalseArm", "(II)V"⟩
abbrev cX1_dropFalseArm : ByteArray := prog_3_method_16_code
def yX1_dropFalseArm : MethodName := ⟨RX1, "dropFalseArm", "()V"⟩
abbrev cX1_behind : ByteArray := prog_3_method_17_code
def yX1_behind : MethodName := ⟨RX1, "behind", "(I)I"⟩
abbrev cX1_walk : ByteArray := prog_3_method_18_code
def yX1_walk : MethodName := ⟨RX1, "walk", "(II)I"⟩
abbrev cX1_lostTravellers : ByteArray := prog_3_method_19_code
def yX1_lostTravellers : MethodName := ⟨RX1, "lostTravellers", "()I"⟩
abbrev cX1_lostPairs : ByteArray := prog_3_method_20_code
def yX1_lostPairs : MethodName := ⟨RX1, "lostPairs", "()I"⟩
abbrev cX1_longestPair : ByteArray := prog_3_method_21_code
def yX1_longestPair : MethodName := ⟨RX1, "longestPair", "()I"⟩
abbrev cX1_allWays : ByteArray := prog_3_method_22_code
def yX1_allWays : MethodName := ⟨RX1, "allWays", "()I"⟩
abbrev cX1_sharesAt : ByteArray := prog_3_method_23_code
def yX1_sharesAt : MethodName := ⟨RX1, "sharesAt", "(III)J"⟩
abbrev cX1_spread : ByteArray := prog_3_method_24_code
def yX1_spread : MethodName := ⟨RX1, "spread", "(I)V"⟩
def RX2 : String := "NamesBack$Land"
def TX2 : u_T := fun k => match k with
  | 0 => ("NamesBack$Land", "codes", "[I", true)
  | 1 => ("NamesBack$Land", "codeCount", "I", false)
  | 2 => ("NamesBack$Land", "sort", "[I", true)
  | 3 => ("NamesBack$Land", "n", "[I", true)
  | 4 => ("NamesBack$Land", "end", "[I", true)
  | 5 => ("NamesBack$Land", "clauses", "I", false)
  | _ => ("NamesBack$Land", "arms", "I", false)
def tyX2 : Nat → FieldType := fun k => match k with
  | 0 => .array .int
  | 1 => .int
  | 2 => .array .int
  | 3 => .array .int
  | 4 => .array .int
  | 5 => .int
  | _ => .int
abbrev wsX20 : List Cond := u_ws RX2 TX2 7
theorem nmX2 : ∀ a, a < 7 → ∀ b, b < 7 → a ≠ b → (TX2 a).2.1 ≠ (TX2 b).2.1 := by decide +kernel
theorem tyX2_ok : ∀ k, k < 7 → parseFieldDescriptor (TX2 k).2.2.1 = some (tyX2 k) := by decide +kernel
abbrev cX2_init : ByteArray := prog_4_method_1_code
def yX2_init : MethodName := ⟨RX2, "<init>", "()V"⟩
abbrev cX2_clear : ByteArray := prog_4_method_2_code
def yX2_clear : MethodName := ⟨RX2, "clear", "()V"⟩
abbrev cX2_addCode : ByteArray := prog_4_method_3_code
def yX2_addCode : MethodName := ⟨RX2, "addCode", "(I)V"⟩
abbrev cX2_addTest : ByteArray := prog_4_method_4_code
def yX2_addTest : MethodName := ⟨RX2, "addTest", "(III)V"⟩
abbrev cX2_addClause : ByteArray := prog_4_method_5_code
def yX2_addClause : MethodName := ⟨RX2, "addClause", "(II)V"⟩
abbrev cX2_together : ByteArray := prog_4_method_6_code
def yX2_together : MethodName := ⟨RX2, "together", "(I[I)I"⟩
abbrev cX2_holds : ByteArray := prog_4_method_7_code
def yX2_holds : MethodName := ⟨RX2, "holds", "(II[I)Z"⟩
abbrev cX2_passes : ByteArray := prog_4_method_8_code
def yX2_passes : MethodName := ⟨RX2, "passes", "(I[I)Z"⟩
def RX3 : String := "NamesBack$LandReader"
def TX3 : u_T := fun k => match k with
  | 0 => ("NamesBack$LandReader", "text", "[C", true)
  | 1 => ("NamesBack$LandReader", "length", "I", false)
  | 2 => ("NamesBack$LandReader", "at", "I", false)
  | _ => ("NamesBack$LandReader", "land", "LNamesBack$Land;", false)
def tyX3 : Nat → FieldType := fun k => match k with
  | 0 => .array .char
  | 1 => .int
  | 2 => .int
  | _ => .object "NamesBack$Land"
abbrev wsX30 : List Cond := u_ws RX3 TX3 4
theorem nmX3 : ∀ a, a < 4 → ∀ b, b < 4 → a ≠ b → (TX3 a).2.1 ≠ (TX3 b).2.1 := by decide +kernel
theorem tyX3_ok : ∀ k, k < 4 → parseFieldDescriptor (TX3 k).2.2.1 = some (tyX3 k) := by decide +kernel
abbrev cX3_init : ByteArray := prog_5_method_1_code
def yX3_init : MethodName := ⟨RX3, "<init>", "()V"⟩
abbrev cX3_addSign : ByteArray := prog_5_method_2_code
def yX3_addSign : MethodName := ⟨RX3, "addSign", "(C)I"⟩
abbrev cX3_empty : ByteArray := prog_5_method_3_code
def yX3_empty : MethodName := ⟨RX3, "empty", "()V"⟩
abbrev cX3_faultOf : ByteArray := prog_5_method_4_code
def yX3_faultOf : MethodName := ⟨RX3, "faultOf", "(LNamesBack$Land;)I"⟩
abbrev cX3_ahead : ByteArray := prog_5_method_5_code
def yX3_ahead : MethodName := ⟨RX3, "ahead", "()C"⟩
abbrev cX3_takes : ByteArray := prog_5_method_6_code
def yX3_takes : MethodName := ⟨RX3, "takes", "(C)Z"⟩
abbrev cX3_takesWord : ByteArray := prog_5_method_7_code
def yX3_takesWord : MethodName := ⟨RX3, "takesWord", "(Ljava/lang/String;)Z"⟩
abbrev cX3_readsClause : ByteArray := prog_5_method_8_code
def yX3_readsClause : MethodName := ⟨RX3, "readsClause", "()Z"⟩
abbrev cX3_takeNumber : ByteArray := prog_5_method_9_code
def yX3_takeNumber : MethodName := ⟨RX3, "takeNumber", "()I"⟩
abbrev cX3_readsEither : ByteArray := prog_5_method_10_code
def yX3_readsEither : MethodName := ⟨RX3, "readsEither", "(I)Z"⟩
abbrev cX3_readsPart : ByteArray := prog_5_method_11_code
def yX3_readsPart : MethodName := ⟨RX3, "readsPart", "(I)Z"⟩
abbrev cX3_readsTest : ByteArray := prog_5_method_12_code
def yX3_readsTest : MethodName := ⟨RX3, "readsTest", "()Z"⟩
def RX4 : String := "NamesBack$Tape"
def TX4 : u_T := fun k => match k with
  | 0 => ("NamesBack$Tape", "sort", "I", false)
  | 1 => ("NamesBack$Tape", "length", "I", false)
  | _ => ("NamesBack$Tape", "items", "[J", true)
def tyX4 : Nat → FieldType := fun k => match k with
  | 0 => .int
  | 1 => .int
  | _ => .array .long
abbrev wsX40 : List Cond := u_ws RX4 TX4 3
theorem nmX4 : ∀ a, a < 3 → ∀ b, b < 3 → a ≠ b → (TX4 a).2.1 ≠ (TX4 b).2.1 := by decide +kernel
theorem tyX4_ok : ∀ k, k < 3 → parseFieldDescriptor (TX4 k).2.2.1 = some (tyX4 k) := by decide +kernel
abbrev cX4_init : ByteArray := prog_6_method_1_code
def yX4_init : MethodName := ⟨RX4, "<init>", "()V"⟩
abbrev cX4_become : ByteArray := prog_6_method_2_code
def yX4_become : MethodName := ⟨RX4, "become", "(II)V"⟩
abbrev cX4_spans : ByteArray := prog_6_method_3_code
def yX4_spans : MethodName := ⟨RX4, "spans", "(II)Z"⟩
abbrev cX4_asItem : ByteArray := prog_6_method_4_code
def yX4_asItem : MethodName := ⟨RX4, "asItem", "(J)J"⟩
def RX5 : String := "NamesBack$World"
def TX5 : u_T := fun k => match k with
  | 0 => ("NamesBack$World", "places", "I", false)
  | 1 => ("NamesBack$World", "kind", "[I", true)
  | 2 => ("NamesBack$World", "v", "[I", true)
  | 3 => ("NamesBack$World", "people", "[I", true)
  | 4 => ("NamesBack$World", "miles", "[I", true)
  | 5 => ("NamesBack$World", "named", "[I", true)
  | 6 => ("NamesBack$World", "travellers", "I", false)
  | 7 => ("NamesBack$World", "from", "[I", true)
  | 8 => ("NamesBack$World", "to", "[I", true)
  | 9 => ("NamesBack$World", "many", "[I", true)
  | 10 => ("NamesBack$World", "rows", "I", false)
  | 11 => ("NamesBack$World", "book", "[I", true)
  | _ => ("NamesBack$World", "land", "I", false)
def tyX5 : Nat → FieldType := fun k => match k with
  | 0 => .int
  | 1 => .array .int
  | 2 => .array .int
  | 3 => .array .int
  | 4 => .array .int
  | 5 => .array .int
  | 6 => .int
  | 7 => .array .int
  | 8 => .array .int
  | 9 => .array .int
  | 10 => .int
  | 11 => .array .int
  | _ => .int
abbrev wsX50 : List Cond := u_ws RX5 TX5 13
theorem nmX5 : ∀ a, a < 13 → ∀ b, b < 13 → a ≠ b → (TX5 a).2.1 ≠ (TX5 b).2.1 := by decide +kernel
theorem tyX5_ok : ∀ k, k < 13 → parseFieldDescriptor (TX5 k).2.2.1 = some (tyX5 k) := by decide +kernel
abbrev cX5_init : ByteArray := prog_7_method_1_code
def yX5_init : MethodName := ⟨RX5, "<init>", "()V"⟩
abbrev cX5_has : ByteArray := prog_7_method_2_code
def yX5_has : MethodName := ⟨RX5, "has", "(I)Z"⟩
abbrev cX5_addPlace : ByteArray := prog_7_method_3_code
def yX5_addPlace : MethodName := ⟨RX5, "addPlace", "(III)I"⟩
abbrev cX5_addTraveller : ByteArray := prog_7_method_4_code
def yX5_addTraveller : MethodName := ⟨RX5, "addTraveller", "(III)I"⟩
abbrev cX5_setMiles : ByteArray := prog_7_method_5_code
def yX5_setMiles : MethodName := ⟨RX5, "setMiles", "(III)V"⟩
abbrev cX5_names : ByteArray := prog_7_method_6_code
def yX5_names : MethodName := ⟨RX5, "names", "(II)Z"⟩
abbrev cX5_turnName : ByteArray := prog_7_method_7_code
def yX5_turnName : MethodName := ⟨RX5, "turnName", "(II)V"⟩
abbrev cX5_countNames : ByteArray := prog_7_method_8_code
def yX5_countNames : MethodName := ⟨RX5, "countNames", "()I"⟩
abbrev cX5_roadsOf : ByteArray := prog_7_method_9_code
def yX5_roadsOf : MethodName := ⟨RX5, "roadsOf", "(I)I"⟩
abbrev cX5_comeToBy : ByteArray := prog_7_method_10_code
def yX5_comeToBy : MethodName := ⟨RX5, "comeToBy", "(II)I"⟩
abbrev cX5_tellFacts : ByteArray := prog_7_method_11_code
def yX5_tellFacts : MethodName := ⟨RX5, "tellFacts", "(I[I)V"⟩
abbrev cX5_becomeAs : ByteArray := prog_7_method_12_code
def yX5_becomeAs : MethodName := ⟨RX5, "becomeAs", "(LNamesBack$World;)V"⟩
def RX6 : String := "NamesBack"
def TX6 : u_T := fun k => match k with
  | 0 => ("NamesBack", "journeys", "LNamesBack$Journeys;", true)
  | 1 => ("NamesBack", "world", "LNamesBack$World;", true)
  | 2 => ("NamesBack", "kept", "LNamesBack$World;", true)
  | 3 => ("NamesBack", "imaged", "Z", false)
  | 4 => ("NamesBack", "noLand", "LNamesBack$Land;", true)
  | 5 => ("NamesBack", "lands", "[LNamesBack$Land;", true)
  | 6 => ("NamesBack", "landCount", "I", false)
  | 7 => ("NamesBack", "reader", "LNamesBack$LandReader;", true)
  | 8 => ("NamesBack", "acts", "LNamesBack$Acts;", true)
  | _ => ("NamesBack", "tapes", "[LNamesBack$Tape;", true)
def tyX6 : Nat → FieldType := fun k => match k with
  | 0 => .object "NamesBack$Journeys"
  | 1 => .object "NamesBack$World"
  | 2 => .object "NamesBack$World"
  | 3 => .boolean
  | 4 => .object "NamesBack$Land"
  | 5 => .array (.object "NamesBack$Land")
  | 6 => .int
  | 7 => .object "NamesBack$LandReader"
  | 8 => .object "NamesBack$Acts"
  | _ => .array (.object "NamesBack$Tape")
abbrev wsX60 : List Cond := u_ws RX6 TX6 10
theorem nmX6 : ∀ a, a < 10 → ∀ b, b < 10 → a ≠ b → (TX6 a).2.1 ≠ (TX6 b).2.1 := by decide +kernel
theorem tyX6_ok : ∀ k, k < 10 → parseFieldDescriptor (TX6 k).2.2.1 = some (tyX6 k) := by decide +kernel
abbrev cX6_init : ByteArray := prog_1_method_1_code
def yX6_init : MethodName := ⟨RX6, "<init>", "()V"⟩
abbrev cX6_place : ByteArray := prog_1_method_2_code
def yX6_place : MethodName := ⟨RX6, "place", "(III)I"⟩
abbrev cX6_of : ByteArray := prog_1_method_3_code
def yX6_of : MethodName := ⟨RX6, "of", "(II)I"⟩
abbrev cX6_road : ByteArray := prog_1_method_4_code
def yX6_road : MethodName := ⟨RX6, "road", "(III)I"⟩
abbrev cX6_far : ByteArray := prog_1_method_5_code
def yX6_far : MethodName := ⟨RX6, "far", "(II)I"⟩
abbrev cX6_name : ByteArray := prog_1_method_6_code
def yX6_name : MethodName := ⟨RX6, "name", "(II)I"⟩
abbrev cX6_strike : ByteArray := prog_1_method_7_code
def yX6_strike : MethodName := ⟨RX6, "strike", "(II)I"⟩
abbrev cX6_traveller : ByteArray := prog_1_method_8_code
def yX6_traveller : MethodName := ⟨RX6, "traveller", "(III)I"⟩
abbrev cX6_feed : ByteArray := prog_1_method_9_code
def yX6_feed : MethodName := ⟨RX6, "feed", "(I)I"⟩
abbrev cX6_land : ByteArray := prog_1_method_10_code
def yX6_land : MethodName := ⟨RX6, "land", "()I"⟩
abbrev cX6_told : ByteArray := prog_1_method_11_code
def yX6_told : MethodName := ⟨RX6, "told", "(I)I"⟩
abbrev cX6_way : ByteArray := prog_1_method_12_code
def yX6_way : MethodName := ⟨RX6, "way", "(II)I"⟩
abbrev cX6_toward : ByteArray := prog_1_method_13_code
def yX6_toward : MethodName := ⟨RX6, "toward", "(II)I"⟩
abbrev cX6_next : ByteArray := prog_1_method_14_code
def yX6_next : MethodName := ⟨RX6, "next", "(II)I"⟩
abbrev cX6_gone : ByteArray := prog_1_method_15_code
def yX6_gone : MethodName := ⟨RX6, "gone", "(III)I"⟩
abbrev cX6_lost : ByteArray := prog_1_method_16_code
def yX6_lost : MethodName := ⟨RX6, "lost", "(I)I"⟩
abbrev cX6_longest : ByteArray := prog_1_method_17_code
def yX6_longest : MethodName := ⟨RX6, "longest", "(I)I"⟩
abbrev cX6_put : ByteArray := prog_1_method_18_code
def yX6_put : MethodName := ⟨RX6, "put", "(I)I"⟩
abbrev cX6_worst : ByteArray := prog_1_method_19_code
def yX6_worst : MethodName := ⟨RX6, "worst", "(I)I"⟩
abbrev cX6_turned : ByteArray := prog_1_method_20_code
def yX6_turned : MethodName := ⟨RX6, "turned", "(II)I"⟩
abbrev cX6_chain : ByteArray := prog_1_method_21_code
def yX6_chain : MethodName := ⟨RX6, "chain", "(II)I"⟩
abbrev cX6_allIn : ByteArray := prog_1_method_22_code
def yX6_allIn : MethodName := ⟨RX6, "allIn", "(I)I"⟩
abbrev cX6_capitals : ByteArray := prog_1_method_23_code
def yX6_capitals : MethodName := ⟨RX6, "capitals", "()I"⟩
abbrev cX6_newRoad : ByteArray := prog_1_method_24_code
def yX6_newRoad : MethodName := ⟨RX6, "newRoad", "(II)I"⟩
abbrev cX6_gets : ByteArray := prog_1_method_25_code
def yX6_gets : MethodName := ⟨RX6, "gets", "(I)I"⟩
abbrev cX6_odds : ByteArray := prog_1_method_26_code
def yX6_odds : MethodName := ⟨RX6, "odds", "(IIII)J"⟩
abbrev cX6_mean : ByteArray := prog_1_method_27_code
def yX6_mean : MethodName := ⟨RX6, "mean", "(I)J"⟩
abbrev cX6_book : ByteArray := prog_1_method_28_code
def yX6_book : MethodName := ⟨RX6, "book", "(I)I"⟩
abbrev cX6_looked : ByteArray := prog_1_method_29_code
def yX6_looked : MethodName := ⟨RX6, "looked", "(I)I"⟩
abbrev cX6_judge : ByteArray := prog_1_method_30_code
def yX6_judge : MethodName := ⟨RX6, "judge", "(II)I"⟩
abbrev cX6_image : ByteArray := prog_1_method_31_code
def yX6_image : MethodName := ⟨RX6, "image", "()I"⟩
abbrev cX6_undo : ByteArray := prog_1_method_32_code
def yX6_undo : MethodName := ⟨RX6, "undo", "()I"⟩
abbrev cX6_act : ByteArray := prog_1_method_33_code
def yX6_act : MethodName := ⟨RX6, "act", "(III)I"⟩
abbrev cX6_trace : ByteArray := prog_1_method_34_code
def yX6_trace : MethodName := ⟨RX6, "trace", "(I)I"⟩
abbrev cX6_taken : ByteArray := prog_1_method_35_code
def yX6_taken : MethodName := ⟨RX6, "taken", "(II)I"⟩
abbrev cX6_count : ByteArray := prog_1_method_36_code
def yX6_count : MethodName := ⟨RX6, "count", "(I)I"⟩
abbrev cX6_tape : ByteArray := prog_1_method_37_code
def yX6_tape : MethodName := ⟨RX6, "tape", "(III)I"⟩
abbrev cX6_item : ByteArray := prog_1_method_38_code
def yX6_item : MethodName := ⟨RX6, "item", "(IIJ)I"⟩
abbrev cX6_read : ByteArray := prog_1_method_39_code
def yX6_read : MethodName := ⟨RX6, "read", "(II)J"⟩
abbrev cX6_shift : ByteArray := prog_1_method_40_code
def yX6_shift : MethodName := ⟨RX6, "shift", "(IIIII)I"⟩
abbrev cX6_index : ByteArray := prog_1_method_41_code
def yX6_index : MethodName := ⟨RX6, "index", "(II)I"⟩
abbrev cX6_isPart : ByteArray := prog_1_method_42_code
def yX6_isPart : MethodName := ⟨RX6, "isPart", "(I)Z"⟩
abbrev cX6_isTape : ByteArray := prog_1_method_43_code
def yX6_isTape : MethodName := ⟨RX6, "isTape", "(I)Z"⟩
abbrev cX6_isUnder : ByteArray := prog_1_method_44_code
def yX6_isUnder : MethodName := ⟨RX6, "isUnder", "(II)Z"⟩
abbrev cX6_inLowestTerms : ByteArray := prog_1_method_45_code
def yX6_inLowestTerms : MethodName := ⟨RX6, "inLowestTerms", "(JJI)J"⟩
abbrev cX6_holding : ByteArray := prog_1_method_46_code
def yX6_holding : MethodName := ⟨RX6, "holding", "()LNamesBack$Land;"⟩
abbrev cX6_look : ByteArray := prog_1_method_47_code
def yX6_look : MethodName := ⟨RX6, "look", "()LNamesBack$Journeys;"⟩
abbrev cX6_hasArmFree : ByteArray := prog_1_method_48_code
def yX6_hasArmFree : MethodName := ⟨RX6, "hasArmFree", "(I)Z"⟩
abbrev cX6_bestTurn : ByteArray := prog_1_method_49_code
def yX6_bestTurn : MethodName := ⟨RX6, "bestTurn", "(ZI)I"⟩
abbrev cX6_mayName : ByteArray := prog_1_method_50_code
def yX6_mayName : MethodName := ⟨RX6, "mayName", "(II)Z"⟩
abbrev cX6_allWaysWith : ByteArray := prog_1_method_51_code
def yX6_allWaysWith : MethodName := ⟨RX6, "allWaysWith", "(III)I"⟩
def RX7 : String := "NamesBackModel"
def TX7 : u_T := fun k => match k with
  | 0 => ("NamesBackModel", "places", "I", false)
  | 1 => ("NamesBackModel", "travellers", "I", false)
  | 2 => ("NamesBackModel", "kind", "[I", true)
  | 3 => ("NamesBackModel", "v", "[I", true)
  | 4 => ("NamesBackModel", "folk", "[I", true)
  | 5 => ("NamesBackModel", "named", "[I", true)
  | 6 => ("NamesBackModel", "miles", "[I", true)
  | 7 => ("NamesBackModel", "from0", "[I", true)
  | 8 => ("NamesBackModel", "to0", "[I", true)
  | 9 => ("NamesBackModel", "many", "[I", true)
  | 10 => ("NamesBackModel", "lands", "I", false)
  | 11 => ("NamesBackModel", "the", "I", false)
  | 12 => ("NamesBackModel", "fed", "I", false)
  | 13 => ("NamesBackModel", "at", "I", false)
  | 14 => ("NamesBackModel", "digits", "I", false)
  | 15 => ("NamesBackModel", "text", "[I", true)
  | 16 => ("NamesBackModel", "clauses", "[I", true)
  | 17 => ("NamesBackModel", "word", "[I", true)
  | 18 => ("NamesBackModel", "number", "[I", true)
  | 19 => ("NamesBackModel", "from", "[I", true)
  | 20 => ("NamesBackModel", "to", "[I", true)
  | 21 => ("NamesBackModel", "sign", "[I", true)
  | 22 => ("NamesBackModel", "waits", "[I", true)
  | 23 => ("NamesBackModel", "signs", "I", false)
  | 24 => ("NamesBackModel", "waiting", "I", false)
  | 25 => ("NamesBackModel", "open", "I", false)
  | 26 => ("NamesBackModel", "letters", "[I", true)
  | 27 => ("NamesBackModel", "pile", "[Z", true)
  | 28 => ("NamesBackModel", "longs", "[I", true)
  | 29 => ("NamesBackModel", "ways", "[I", true)
  | 30 => ("NamesBackModel", "sizes", "[I", true)
  | 31 => ("NamesBackModel", "more", "[I", true)
  | 32 => ("NamesBackModel", "turnedAt", "I", false)
  | 33 => ("NamesBackModel", "turnedArm", "I", false)
  | 34 => ("NamesBackModel", "goneLong", "I", false)
  | 35 => ("NamesBackModel", "goneRoads", "I", false)
  | 36 => ("NamesBackModel", "goneTo", "I", false)
  | 37 => ("NamesBackModel", "often", "[J", true)
  | 38 => ("NamesBackModel", "then", "[J", true)
  | 39 => ("NamesBackModel", "books", "I", false)
  | 40 => ("NamesBackModel", "book", "[I", true)
  | 41 => ("NamesBackModel", "hasImage", "Z", false)
  | 42 => ("NamesBackModel", "imageThe", "I", false)
  | 43 => ("NamesBackModel", "imagePlaces", "I", false)
  | 44 => ("NamesBackModel", "imageTravellers", "I", false)
  | 45 => ("NamesBackModel", "imageBooks", "I", false)
  | 46 => ("NamesBackModel", "imageKind", "[I", true)
  | 47 => ("NamesBackModel", "imageV", "[I", true)
  | 48 => ("NamesBackModel", "imageFolk", "[I", true)
  | 49 => ("NamesBackModel", "imageNamed", "[I", true)
  | 50 => ("NamesBackModel", "imageMiles", "[I", true)
  | 51 => ("NamesBackModel", "imageFrom", "[I", true)
  | 52 => ("NamesBackModel", "imageTo", "[I", true)
  | 53 => ("NamesBackModel", "imageMany", "[I", true)
  | 54 => ("NamesBackModel", "imageBook", "[I", true)
  | 55 => ("NamesBackModel", "ran", "I", false)
  | 56 => ("NamesBackModel", "bodies", "[I", true)
  | 57 => ("NamesBackModel", "sort", "[I", true)
  | 58 => ("NamesBackModel", "length", "[I", true)
  | 59 => ("NamesBackModel", "item", "[J", true)
  | _ => ("NamesBackModel", "aside", "[J", true)
def tyX7 : Nat → FieldType := fun k => match k with
  | 0 => .int
  | 1 => .int
  | 2 => .array .int
  | 3 => .array .int
  | 4 => .array .int
  | 5 => .array .int
  | 6 => .array .int
  | 7 => .array .int
  | 8 => .array .int
  | 9 => .array .int
  | 10 => .int
  | 11 => .int
  | 12 => .int
  | 13 => .int
  | 14 => .int
  | 15 => .array .int
  | 16 => .array .int
  | 17 => .array .int
  | 18 => .array .int
  | 19 => .array .int
  | 20 => .array .int
  | 21 => .array .int
  | 22 => .array .int
  | 23 => .int
  | 24 => .int
  | 25 => .int
  | 26 => .array .int
  | 27 => .array .boolean
  | 28 => .array .int
  | 29 => .array .int
  | 30 => .array .int
  | 31 => .array .int
  | 32 => .int
  | 33 => .int
  | 34 => .int
  | 35 => .int
  | 36 => .int
  | 37 => .array .long
  | 38 => .array .long
  | 39 => .int
  | 40 => .array .int
  | 41 => .boolean
  | 42 => .int
  | 43 => .int
  | 44 => .int
  | 45 => .int
  | 46 => .array .int
  | 47 => .array .int
  | 48 => .array .int
  | 49 => .array .int
  | 50 => .array .int
  | 51 => .array .int
  | 52 => .array .int
  | 53 => .array .int
  | 54 => .array .int
  | 55 => .int
  | 56 => .array .int
  | 57 => .array .int
  | 58 => .array .int
  | 59 => .array .long
  | _ => .array .long
abbrev wsX70 : List Cond := u_ws RX7 TX7 61
theorem nmX7 : ∀ a, a < 61 → ∀ b, b < 61 → a ≠ b → (TX7 a).2.1 ≠ (TX7 b).2.1 := by decide +kernel
theorem tyX7_ok : ∀ k, k < 61 → parseFieldDescriptor (TX7 k).2.2.1 = some (tyX7 k) := by decide +kernel
abbrev cX7_init : ByteArray := prog_9_method_1_code
def yX7_init : MethodName := ⟨RX7, "<init>", "()V"⟩
abbrev cX7_in : ByteArray := prog_9_method_2_code
def yX7_in : MethodName := ⟨RX7, "in", "(III)Z"⟩
abbrev cX7_has : ByteArray := prog_9_method_3_code
def yX7_has : MethodName := ⟨RX7, "has", "(II)Z"⟩
abbrev cX7_ones : ByteArray := prog_9_method_4_code
def yX7_ones : MethodName := ⟨RX7, "ones", "(I)I"⟩
abbrev cX7_isPlace : ByteArray := prog_9_method_5_code
def yX7_isPlace : MethodName := ⟨RX7, "isPlace", "(I)Z"⟩
abbrev cX7_arePlaces : ByteArray := prog_9_method_6_code
def yX7_arePlaces : MethodName := ⟨RX7, "arePlaces", "(II)Z"⟩
abbrev cX7_place : ByteArray := prog_9_method_7_code
def yX7_place : MethodName := ⟨RX7, "place", "(III)I"⟩
abbrev cX7_road : ByteArray := prog_9_method_8_code
def yX7_road : MethodName := ⟨RX7, "road", "(III)I"⟩
abbrev cX7_roadsOf : ByteArray := prog_9_method_9_code
def yX7_roadsOf : MethodName := ⟨RX7, "roadsOf", "(I)I"⟩
abbrev cX7_lays : ByteArray := prog_9_method_10_code
def yX7_lays : MethodName := ⟨RX7, "lays", "(IIZ)V"⟩
abbrev cX7_name : ByteArray := prog_9_method_11_code
def yX7_name : MethodName := ⟨RX7, "name", "(II)I"⟩
abbrev cX7_strike : ByteArray := prog_9_method_12_code
def yX7_strike : MethodName := ⟨RX7, "strike", "(II)I"⟩
abbrev cX7_traveller : ByteArray := prog_9_method_13_code
def yX7_traveller : MethodName := ⟨RX7, "traveller", "(III)I"⟩
abbrev cX7_feed : ByteArray := prog_9_method_14_code
def yX7_feed : MethodName := ⟨RX7, "feed", "(I)I"⟩
abbrev cX7_peek : ByteArray := prog_9_method_15_code
def yX7_peek : MethodName := ⟨RX7, "peek", "()I"⟩
abbrev cX7_takes : ByteArray := prog_9_method_16_code
def yX7_takes : MethodName := ⟨RX7, "takes", "(I)Z"⟩
abbrev cX7_takesWord : ByteArray := prog_9_method_17_code
def yX7_takesWord : MethodName := ⟨RX7, "takesWord", "(II)Z"⟩
abbrev cX7_isDigit : ByteArray := prog_9_method_18_code
def yX7_isDigit : MethodName := ⟨RX7, "isDigit", "()Z"⟩
abbrev cX7_takesNumber : ByteArray := prog_9_method_19_code
def yX7_takesNumber : MethodName := ⟨RX7, "takesNumber", "()Z"⟩
abbrev cX7_emits : ByteArray := prog_9_method_20_code
def yX7_emits : MethodName := ⟨RX7, "emits", "(I)V"⟩
abbrev cX7_whole : ByteArray := prog_9_method_21_code
def yX7_whole : MethodName := ⟨RX7, "whole", "()V"⟩
abbrev cX7_settle : ByteArray := prog_9_method_22_code
def yX7_settle : MethodName := ⟨RX7, "settle", "(I)V"⟩
abbrev cX7_letterOf : ByteArray := prog_9_method_23_code
def yX7_letterOf : MethodName := ⟨RX7, "letterOf", "(I)I"⟩
abbrev cX7_takesTest : ByteArray := prog_9_method_24_code
def yX7_takesTest : MethodName := ⟨RX7, "takesTest", "()Z"⟩
abbrev cX7_takesE : ByteArray := prog_9_method_25_code
def yX7_takesE : MethodName := ⟨RX7, "takesE", "(I)Z"⟩
abbrev cX7_takesHead : ByteArray := prog_9_method_26_code
def yX7_takesHead : MethodName := ⟨RX7, "takesHead", "(I)Z"⟩
abbrev cX7_takesClause : ByteArray := prog_9_method_27_code
def yX7_takesClause : MethodName := ⟨RX7, "takesClause", "(I)Z"⟩
abbrev cX7_goesText : ByteArray := prog_9_method_28_code
def yX7_goesText : MethodName := ⟨RX7, "goesText", "(I)Z"⟩
abbrev cX7_land : ByteArray := prog_9_method_29_code
def yX7_land : MethodName := ⟨RX7, "land", "()I"⟩
abbrev cX7_begin : ByteArray := prog_9_method_30_code
def yX7_begin : MethodName := ⟨RX7, "begin", "()I"⟩
abbrev cX7_behind : ByteArray := prog_9_method_31_code
def yX7_behind : MethodName := ⟨RX7, "behind", "()I"⟩
abbrev cX7_armsNow : ByteArray := prog_9_method_32_code
def yX7_armsNow : MethodName := ⟨RX7, "armsNow", "()I"⟩
abbrev cX7_factOf : ByteArray := prog_9_method_33_code
def yX7_factOf : MethodName := ⟨RX7, "factOf", "(II)I"⟩
abbrev cX7_holds : ByteArray := prog_9_method_34_code
def yX7_holds : MethodName := ⟨RX7, "holds", "(II)Z"⟩
abbrev cX7_sumOf : ByteArray := prog_9_method_35_code
def yX7_sumOf : MethodName := ⟨RX7, "sumOf", "(II)I"⟩
abbrev cX7_layLand : ByteArray := prog_9_method_36_code
def yX7_layLand : MethodName := ⟨RX7, "layLand", "()V"⟩
abbrev cX7_shorten : ByteArray := prog_9_method_37_code
def yX7_shorten : MethodName := ⟨RX7, "shorten", "(III)V"⟩
abbrev cX7_of : ByteArray := prog_9_method_38_code
def yX7_of : MethodName := ⟨RX7, "of", "(II)I"⟩
abbrev cX7_namesNow : ByteArray := prog_9_method_39_code
def yX7_namesNow : MethodName := ⟨RX7, "namesNow", "()I"⟩
abbrev cX7_told : ByteArray := prog_9_method_40_code
def yX7_told : MethodName := ⟨RX7, "told", "(I)I"⟩
abbrev cX7_far : ByteArray := prog_9_method_41_code
def yX7_far : MethodName := ⟨RX7, "far", "(II)I"⟩
abbrev cX7_way : ByteArray := prog_9_method_42_code
def yX7_way : MethodName := ⟨RX7, "way", "(II)I"⟩
abbrev cX7_towardOf : ByteArray := prog_9_method_43_code
def yX7_towardOf : MethodName := ⟨RX7, "towardOf", "(II)I"⟩
abbrev cX7_toward : ByteArray := prog_9_method_44_code
def yX7_toward : MethodName := ⟨RX7, "toward", "(II)I"⟩
abbrev cX7_leastNamed : ByteArray := prog_9_method_45_code
def yX7_leastNamed : MethodName := ⟨RX7, "leastNamed", "(I)I"⟩
abbrev cX7_lastNamed : ByteArray := prog_9_method_46_code
def yX7_lastNamed : MethodName := ⟨RX7, "lastNamed", "(I)I"⟩
abbrev cX7_nearestNamed : ByteArray := prog_9_method_47_code
def yX7_nearestNamed : MethodName := ⟨RX7, "nearestNamed", "(I)I"⟩
abbrev cX7_greatestNamed : ByteArray := prog_9_method_48_code
def yX7_greatestNamed : MethodName := ⟨RX7, "greatestNamed", "(I)I"⟩
abbrev cX7_goalOf : ByteArray := prog_9_method_49_code
def yX7_goalOf : MethodName := ⟨RX7, "goalOf", "(II)I"⟩
abbrev cX7_turnedTo : ByteArray := prog_9_method_50_code
def yX7_turnedTo : MethodName := ⟨RX7, "turnedTo", "()I"⟩
abbrev cX7_nextOf : ByteArray := prog_9_method_51_code
def yX7_nextOf : MethodName := ⟨RX7, "nextOf", "(II)I"⟩
abbrev cX7_next : ByteArray := prog_9_method_52_code
def yX7_next : MethodName := ⟨RX7, "next", "(II)I"⟩
abbrev cX7_goes : ByteArray := prog_9_method_53_code
def yX7_goes : MethodName := ⟨RX7, "goes", "(II)Z"⟩
abbrev cX7_gone : ByteArray := prog_9_method_54_code
def yX7_gone : MethodName := ⟨RX7, "gone", "(III)I"⟩
abbrev cX7_lostPairs : ByteArray := prog_9_method_55_code
def yX7_lostPairs : MethodName := ⟨RX7, "lostPairs", "()I"⟩
abbrev cX7_lostMany : ByteArray := prog_9_method_56_code
def yX7_lostMany : MethodName := ⟨RX7, "lostMany", "()I"⟩
abbrev cX7_lost : ByteArray := prog_9_method_57_code
def yX7_lost : MethodName := ⟨RX7, "lost", "(I)I"⟩
abbrev cX7_longest : ByteArray := prog_9_method_58_code
def yX7_longest : MethodName := ⟨RX7, "longest", "(I)I"⟩
abbrev cX7_put : ByteArray := prog_9_method_59_code
def yX7_put : MethodName := ⟨RX7, "put", "(I)I"⟩
abbrev cX7_worst : ByteArray := prog_9_method_60_code
def yX7_worst : MethodName := ⟨RX7, "worst", "(I)I"⟩
abbrev cX7_turned : ByteArray := prog_9_method_61_code
def yX7_turned : MethodName := ⟨RX7, "turned", "(II)I"⟩
abbrev cX7_chainOf : ByteArray := prog_9_method_62_code
def yX7_chainOf : MethodName := ⟨RX7, "chainOf", "(II)I"⟩
abbrev cX7_chain : ByteArray := prog_9_method_63_code
def yX7_chain : MethodName := ⟨RX7, "chain", "(II)I"⟩
abbrev cX7_allIn : ByteArray := prog_9_method_64_code
def yX7_allIn : MethodName := ⟨RX7, "allIn", "(I)I"⟩
abbrev cX7_capitals : ByteArray := prog_9_method_65_code
def yX7_capitals : MethodName := ⟨RX7, "capitals", "()I"⟩
abbrev cX7_allWays : ByteArray := prog_9_method_66_code
def yX7_allWays : MethodName := ⟨RX7, "allWays", "()I"⟩
abbrev cX7_newRoad : ByteArray := prog_9_method_67_code
def yX7_newRoad : MethodName := ⟨RX7, "newRoad", "(II)I"⟩
abbrev cX7_gets : ByteArray := prog_9_method_68_code
def yX7_gets : MethodName := ⟨RX7, "gets", "(I)I"⟩
abbrev cX7_divisor : ByteArray := prog_9_method_69_code
def yX7_divisor : MethodName := ⟨RX7, "divisor", "(JJ)J"⟩
abbrev cX7_lowest : ByteArray := prog_9_method_70_code
def yX7_lowest : MethodName := ⟨RX7, "lowest", "(JJI)J"⟩
abbrev cX7_goStep : ByteArray := prog_9_method_71_code
def yX7_goStep : MethodName := ⟨RX7, "goStep", "()V"⟩
abbrev cX7_odds : ByteArray := prog_9_method_72_code
def yX7_odds : MethodName := ⟨RX7, "odds", "(IIII)J"⟩
abbrev cX7_mean : ByteArray := prog_9_method_73_code
def yX7_mean : MethodName := ⟨RX7, "mean", "(I)J"⟩
abbrev cX7_book : ByteArray := prog_9_method_74_code
def yX7_book : MethodName := ⟨RX7, "book", "(I)I"⟩
abbrev cX7_looked : ByteArray := prog_9_method_75_code
def yX7_looked : MethodName := ⟨RX7, "looked", "(I)I"⟩
abbrev cX7_judge : ByteArray := prog_9_method_76_code
def yX7_judge : MethodName := ⟨RX7, "judge", "(II)I"⟩
abbrev cX7_image : ByteArray := prog_9_method_77_code
def yX7_image : MethodName := ⟨RX7, "image", "()I"⟩
abbrev cX7_undo : ByteArray := prog_9_method_78_code
def yX7_undo : MethodName := ⟨RX7, "undo", "()I"⟩
abbrev cX7_body : ByteArray := prog_9_method_79_code
def yX7_body : MethodName := ⟨RX7, "body", "(I)V"⟩
abbrev cX7_placePoints : ByteArray := prog_9_method_80_code
def yX7_placePoints : MethodName := ⟨RX7, "placePoints", "(II)I"⟩
abbrev cX7_pointsAct : ByteArray := prog_9_method_81_code
def yX7_pointsAct : MethodName := ⟨RX7, "pointsAct", "(II)I"⟩
abbrev cX7_placeNames : ByteArray := prog_9_method_82_code
def yX7_placeNames : MethodName := ⟨RX7, "placeNames", "(II)I"⟩
abbrev cX7_nearNames : ByteArray := prog_9_method_83_code
def yX7_nearNames : MethodName := ⟨RX7, "nearNames", "(II)I"⟩
abbrev cX7_namesAct : ByteArray := prog_9_method_84_code
def yX7_namesAct : MethodName := ⟨RX7, "namesAct", "(II)I"⟩
abbrev cX7_placeTells : ByteArray := prog_9_method_85_code
def yX7_placeTells : MethodName := ⟨RX7, "placeTells", "(II)I"⟩
abbrev cX7_tellsAct : ByteArray := prog_9_method_86_code
def yX7_tellsAct : MethodName := ⟨RX7, "tellsAct", "(II)I"⟩
abbrev cX7_act : ByteArray := prog_9_method_87_code
def yX7_act : MethodName := ⟨RX7, "act", "(III)I"⟩
abbrev cX7_trace : ByteArray := prog_9_method_88_code
def yX7_trace : MethodName := ⟨RX7, "trace", "(I)I"⟩
abbrev cX7_taken : ByteArray := prog_9_method_89_code
def yX7_taken : MethodName := ⟨RX7, "taken", "(II)I"⟩
abbrev cX7_count : ByteArray := prog_9_method_90_code
def yX7_count : MethodName := ⟨RX7, "count", "(I)I"⟩
abbrev cX7_isTape : ByteArray := prog_9_method_91_code
def yX7_isTape : MethodName := ⟨RX7, "isTape", "(I)Z"⟩
abbrev cX7_tape : ByteArray := prog_9_method_92_code
def yX7_tape : MethodName := ⟨RX7, "tape", "(III)I"⟩
abbrev cX7_narrow : ByteArray := prog_9_method_93_code
def yX7_narrow : MethodName := ⟨RX7, "narrow", "(IJ)J"⟩
abbrev cX7_item : ByteArray := prog_9_method_94_code
def yX7_item : MethodName := ⟨RX7, "item", "(IIJ)I"⟩
abbrev cX7_read : ByteArray := prog_9_method_95_code
def yX7_read : MethodName := ⟨RX7, "read", "(II)J"⟩
abbrev cX7_shift : ByteArray := prog_9_method_96_code
def yX7_shift : MethodName := ⟨RX7, "shift", "(IIIII)I"⟩
def RJ11 : String := "java/lang/Character"
def TJ11 : u_T := fun k => match k with
  | _ => ("", "", "", false)
def tyJ11 : Nat → FieldType := fun k => match k with
  | _ => .int
abbrev wsJ110 : List Cond := u_ws RJ11 TJ11 0
theorem nmJ11 : ∀ a, a < 0 → ∀ b, b < 0 → a ≠ b → (TJ11 a).2.1 ≠ (TJ11 b).2.1 := by decide +kernel
theorem tyJ11_ok : ∀ k, k < 0 → parseFieldDescriptor (TJ11 k).2.2.1 = some (tyJ11 k) := by decide +kernel
abbrev cJ11_isValidCodePoint_9a6ad : ByteArray := prog_10_method_11_code
def yJ11_isValidCodePoint_9a6ad : MethodName := ⟨RJ11, "isValidCodePoint", "(I)Z"⟩
abbrev cJ11_highSurrogate_5068e : ByteArray := prog_10_method_28_code
def yJ11_highSurrogate_5068e : MethodName := ⟨RJ11, "highSurrogate", "(I)C"⟩
abbrev cJ11_lowSurrogate_5068e : ByteArray := prog_10_method_29_code
def yJ11_lowSurrogate_5068e : MethodName := ⟨RJ11, "lowSurrogate", "(I)C"⟩
def RJ6 : String := "java/lang/Integer"
def TJ6 : u_T := fun k => match k with
  | _ => ("", "", "", false)
def tyJ6 : Nat → FieldType := fun k => match k with
  | _ => .int
abbrev wsJ60 : List Cond := u_ws RJ6 TJ6 0
theorem nmJ6 : ∀ a, a < 0 → ∀ b, b < 0 → a ≠ b → (TJ6 a).2.1 ≠ (TJ6 b).2.1 := by decide +kernel
theorem tyJ6_ok : ∀ k, k < 0 → parseFieldDescriptor (TJ6 k).2.2.1 = some (tyJ6 k) := by decide +kernel
abbrev cJ6_bitCount_0f7a4 : ByteArray := prog_11_method_49_code
def yJ6_bitCount_0f7a4 : MethodName := ⟨RJ6, "bitCount", "(I)I"⟩
def RJ9 : String := "java/lang/Math"
def TJ9 : u_T := fun k => match k with
  | _ => ("", "", "", false)
def tyJ9 : Nat → FieldType := fun k => match k with
  | _ => .int
abbrev wsJ90 : List Cond := u_ws RJ9 TJ9 0
theorem nmJ9 : ∀ a, a < 0 → ∀ b, b < 0 → a ≠ b → (TJ9 a).2.1 ≠ (TJ9 b).2.1 := by decide +kernel
theorem tyJ9_ok : ∀ k, k < 0 → parseFieldDescriptor (TJ9 k).2.2.1 = some (tyJ9 k) := by decide +kernel
abbrev cJ9_max_7cf53 : ByteArray := prog_12_method_65_code
def yJ9_max_7cf53 : MethodName := ⟨RJ9, "max", "(II)I"⟩
abbrev cJ9_min_7cf53 : ByteArray := prog_12_method_69_code
def yJ9_min_7cf53 : MethodName := ⟨RJ9, "min", "(II)I"⟩
def RJ0 : String := "java/lang/String"
def TJ0 : u_T := fun k => match k with
  | _ => ("", "", "", false)
def tyJ0 : Nat → FieldType := fun k => match k with
  | _ => .int
abbrev wsJ00 : List Cond := u_ws RJ0 TJ0 0
theorem nmJ0 : ∀ a, a < 0 → ∀ b, b < 0 → a ≠ b → (TJ0 a).2.1 ≠ (TJ0 b).2.1 := by decide +kernel
theorem tyJ0_ok : ∀ k, k < 0 → parseFieldDescriptor (TJ0 k).2.2.1 = some (tyJ0 k) := by decide +kernel
abbrev cJ0_length_8abf5 : ByteArray := prog_13_method_54_code
def yJ0_length_8abf5 : MethodName := ⟨RJ0, "length", "()I"⟩
abbrev cJ0_charAt_5068e : ByteArray := prog_13_method_56_code
def yJ0_charAt_5068e : MethodName := ⟨RJ0, "charAt", "(I)C"⟩
abbrev cJ0_indexOf_0f7a4 : ByteArray := prog_13_method_79_code
def yJ0_indexOf_0f7a4 : MethodName := ⟨RJ0, "indexOf", "(I)I"⟩
abbrev cJ0_indexOf_7cf53 : ByteArray := prog_13_method_80_code
def yJ0_indexOf_7cf53 : MethodName := ⟨RJ0, "indexOf", "(II)I"⟩
abbrev cJ0_coder_7d493 : ByteArray := prog_13_method_152_code
def yJ0_coder_7d493 : MethodName := ⟨RJ0, "coder", "()B"⟩
abbrev cJ0_isLatin1_aae02 : ByteArray := prog_13_method_154_code
def yJ0_isLatin1_aae02 : MethodName := ⟨RJ0, "isLatin1", "()Z"⟩
abbrev cJ0_checkIndex_df160 : ByteArray := prog_13_method_155_code
def yJ0_checkIndex_df160 : MethodName := ⟨RJ0, "checkIndex", "(II)V"⟩
abbrev cJ0_checkBoundsBeginEnd_23922 : ByteArray := prog_13_method_158_code
def yJ0_checkBoundsBeginEnd_23922 : MethodName := ⟨RJ0, "checkBoundsBeginEnd", "(III)V"⟩
def RJ1 : String := "java/lang/StringLatin1"
def TJ1 : u_T := fun k => match k with
  | _ => ("", "", "", false)
def tyJ1 : Nat → FieldType := fun k => match k with
  | _ => .int
abbrev wsJ10 : List Cond := u_ws RJ1 TJ1 0
theorem nmJ1 : ∀ a, a < 0 → ∀ b, b < 0 → a ≠ b → (TJ1 a).2.1 ≠ (TJ1 b).2.1 := by decide +kernel
theorem tyJ1_ok : ∀ k, k < 0 → parseFieldDescriptor (TJ1 k).2.2.1 = some (tyJ1 k) := by decide +kernel
abbrev cJ1_charAt_3b067 : ByteArray := prog_14_method_2_code
def yJ1_charAt_3b067 : MethodName := ⟨RJ1, "charAt", "([BI)C"⟩
abbrev cJ1_canEncode_9a6ad : ByteArray := prog_14_method_4_code
def yJ1_canEncode_9a6ad : MethodName := ⟨RJ1, "canEncode", "(I)Z"⟩
abbrev cJ1_indexOf_4cfef : ByteArray := prog_14_method_22_code
def yJ1_indexOf_4cfef : MethodName := ⟨RJ1, "indexOf", "([BIII)I"⟩
abbrev cJ1_indexOfChar_4cfef : ByteArray := prog_14_method_23_code
def yJ1_indexOfChar_4cfef : MethodName := ⟨RJ1, "indexOfChar", "([BIII)I"⟩
def RJ2 : String := "java/lang/StringUTF16"
def TJ2 : u_T := fun k => match k with
  | _ => ("", "", "", false)
def tyJ2 : Nat → FieldType := fun k => match k with
  | _ => .int
abbrev wsJ20 : List Cond := u_ws RJ2 TJ2 0
theorem nmJ2 : ∀ a, a < 0 → ∀ b, b < 0 → a ≠ b → (TJ2 a).2.1 ≠ (TJ2 b).2.1 := by decide +kernel
theorem tyJ2_ok : ∀ k, k < 0 → parseFieldDescriptor (TJ2 k).2.2.1 = some (tyJ2 k) := by decide +kernel
abbrev cJ2_getChar_3b067 : ByteArray := prog_15_method_5_code
def yJ2_getChar_3b067 : MethodName := ⟨RJ2, "getChar", "([BI)C"⟩
abbrev cJ2_length_9d52b : ByteArray := prog_15_method_6_code
def yJ2_length_9d52b : MethodName := ⟨RJ2, "length", "([B)I"⟩
abbrev cJ2_indexOf_4cfef : ByteArray := prog_15_method_40_code
def yJ2_indexOf_4cfef : MethodName := ⟨RJ2, "indexOf", "([BIII)I"⟩
abbrev cJ2_indexOfChar_4cfef : ByteArray := prog_15_method_47_code
def yJ2_indexOfChar_4cfef : MethodName := ⟨RJ2, "indexOfChar", "([BIII)I"⟩
abbrev cJ2_indexOfCharUnsafe_4cfef : ByteArray := prog_15_method_48_code
def yJ2_indexOfCharUnsafe_4cfef : MethodName := ⟨RJ2, "indexOfCharUnsafe", "([BIII)I"⟩
abbrev cJ2_indexOfSupplementary_4cfef : ByteArray := prog_15_method_49_code
def yJ2_indexOfSupplementary_4cfef : MethodName := ⟨RJ2, "indexOfSupplementary", "([BIII)I"⟩
abbrev cJ2_charAt_3b067 : ByteArray := prog_15_method_83_code
def yJ2_charAt_3b067 : MethodName := ⟨RJ2, "charAt", "([BI)C"⟩
abbrev cJ2_checkIndex_2214a : ByteArray := prog_15_method_91_code
def yJ2_checkIndex_2214a : MethodName := ⟨RJ2, "checkIndex", "(I[B)V"⟩
abbrev cJ2_checkBoundsBeginEnd_d044e : ByteArray := prog_15_method_93_code
def yJ2_checkBoundsBeginEnd_d044e : MethodName := ⟨RJ2, "checkBoundsBeginEnd", "(II[B)V"⟩
def RJ10 : String := "java/lang/System"
def TJ10 : u_T := fun k => match k with
  | _ => ("", "", "", false)
def tyJ10 : Nat → FieldType := fun k => match k with
  | _ => .int
abbrev wsJ100 : List Cond := u_ws RJ10 TJ10 0
theorem nmJ10 : ∀ a, a < 0 → ∀ b, b < 0 → a ≠ b → (TJ10 a).2.1 ≠ (TJ10 b).2.1 := by decide +kernel
theorem tyJ10_ok : ∀ k, k < 0 → parseFieldDescriptor (TJ10 k).2.2.1 = some (tyJ10 k) := by decide +kernel
def RJ7 : String := "java/util/Arrays"
def TJ7 : u_T := fun k => match k with
  | _ => ("", "", "", false)
def tyJ7 : Nat → FieldType := fun k => match k with
  | _ => .int
abbrev wsJ70 : List Cond := u_ws RJ7 TJ7 0
theorem nmJ7 : ∀ a, a < 0 → ∀ b, b < 0 → a ≠ b → (TJ7 a).2.1 ≠ (TJ7 b).2.1 := by decide +kernel
theorem tyJ7_ok : ∀ k, k < 0 → parseFieldDescriptor (TJ7 k).2.2.1 = some (tyJ7 k) := by decide +kernel
abbrev cJ7_fill_d0a16 : ByteArray := prog_17_method_101_code
def yJ7_fill_d0a16 : MethodName := ⟨RJ7, "fill", "([JJ)V"⟩
def RJ3 : String := "jdk/internal/util/Preconditions"
def TJ3 : u_T := fun k => match k with
  | _ => ("", "", "", false)
def tyJ3 : Nat → FieldType := fun k => match k with
  | _ => .int
abbrev wsJ30 : List Cond := u_ws RJ3 TJ3 0
theorem nmJ3 : ∀ a, a < 0 → ∀ b, b < 0 → a ≠ b → (TJ3 a).2.1 ≠ (TJ3 b).2.1 := by decide +kernel
theorem tyJ3_ok : ∀ k, k < 0 → parseFieldDescriptor (TJ3 k).2.2.1 = some (tyJ3 k) := by decide +kernel
abbrev cJ3_checkIndex_8e157 : ByteArray := prog_18_method_11_code
def yJ3_checkIndex_8e157 : MethodName := ⟨RJ3, "checkIndex", "(IILjava/util/function/BiFunction;)I"⟩
abbrev cJ3_checkFromToIndex_8c36e : ByteArray := prog_18_method_12_code
def yJ3_checkFromToIndex_8c36e : MethodName := ⟨RJ3, "checkFromToIndex", "(IIILjava/util/function/BiFunction;)I"⟩
def RL : String := "NamesBackLaw"
abbrev cL_law : ByteArray := code
def yL_law : MethodName := ⟨RL, "law", "([I)Z"⟩
abbrev vwCl : List vw_C := [(RX0, TX0, 5), (RX1, TX1, 15), (RX2, TX2, 7), (RX3, TX3, 4), (RX4, TX4, 3), (RX5, TX5, 13), (RX6, TX6, 10), (RX7, TX7, 61)]
end
section
theorem dX0_init_0 : decode cX0_init 0 = .ok (.aload_n 0, 1) := by decide +kernel
theorem dX0_init_1 : decode cX0_init 1 = .ok (.invokespecial 3, 3) := by decide +kernel
theorem dX0_init_4 : decode cX0_init 4 = .ok (.aload_n 0, 1) := by decide +kernel
theorem dX0_init_5 : decode cX0_init 5 = .ok (.bipush 20, 2) := by decide +kernel
theorem dX0_init_7 : decode cX0_init 7 = .ok (.newarray .int, 2) := by decide +kernel
theorem dX0_init_9 : decode cX0_init 9 = .ok (.putfield 11, 3) := by decide +kernel
theorem dX0_init_12 : decode cX0_init 12 = .ok (.return_, 1) := by decide +kernel
theorem dX0_forget_0 : decode cX0_forget 0 = .ok (.aload_n 0, 1) := by decide +kernel
theorem dX0_forget_1 : decode cX0_forget 1 = .ok (.iconst 0, 1) := by decide +kernel
theorem dX0_forget_2 : decode cX0_forget 2 = .ok (.putfield 15, 3) := by decide +kernel
theorem dX0_forget_5 : decode cX0_forget 5 = .ok (.return_, 1) := by decide +kernel
theorem dX0_standAt_0 : decode cX0_standAt 0 = .ok (.aload_n 0, 1) := by decide +kernel
theorem dX0_standAt_1 : decode cX0_standAt 1 = .ok (.iload_n 1, 1) := by decide +kernel
theorem dX0_standAt_2 : decode cX0_standAt 2 = .ok (.putfield 19, 3) := by decide +kernel
theorem dX0_standAt_5 : decode cX0_standAt 5 = .ok (.aload_n 0, 1) := by decide +kernel
theorem dX0_standAt_6 : decode cX0_standAt 6 = .ok (.iload_n 2, 1) := by decide +kernel
theorem dX0_standAt_7 : decode cX0_standAt 7 = .ok (.putfield 22, 3) := by decide +kernel
theorem dX0_standAt_10 : decode cX0_standAt 10 = .ok (.aload_n 0, 1) := by decide +kernel
theorem dX0_standAt_11 : decode cX0_standAt 11 = .ok (.iload_n 3, 1) := by decide +kernel
theorem dX0_standAt_12 : decode cX0_standAt 12 = .ok (.putfield 25, 3) := by decide +kernel
theorem dX0_standAt_15 : decode cX0_standAt 15 = .ok (.return_, 1) := by decide +kernel
theorem dX0_begin_0 : decode cX0_begin 0 = .ok (.aload_n 0, 1) := by decide +kernel
theorem dX0_begin_1 : decode cX0_begin 1 = .ok (.getfield 15, 3) := by decide +kernel
theorem dX0_begin_4 : decode cX0_begin 4 = .ok (.bipush 20, 2) := by decide +kernel
theorem dX0_begin_6 : decode cX0_begin 6 = .ok (.if_icmp .ge 13, 3) := by decide +kernel
theorem dX0_begin_9 : decode cX0_begin 9 = .ok (.aload_n 0, 1) := by decide +kernel
theorem dX0_begin_10 : decode cX0_begin 10 = .ok (.getfield 11, 3) := by decide +kernel
theorem dX0_begin_13 : decode cX0_begin 13 = .ok (.aload_n 0, 1) := by decide +kernel
theorem dX0_begin_14 : decode cX0_begin 14 = .ok (.getfield 15, 3) := by decide +kernel
theorem dX0_begin_17 : decode cX0_begin 17 = .ok (.iload_n 1, 1) := by decide +kernel
theorem dX0_begin_18 : decode cX0_begin 18 = .ok (.iastore, 1) := by decide +kernel
theorem dX0_begin_19 : decode cX0_begin 19 = .ok (.aload_n 0, 1) := by decide +kernel
theorem dX0_begin_20 : decode cX0_begin 20 = .ok (.dup, 1) := by decide +kernel
theorem dX0_begin_21 : decode cX0_begin 21 = .ok (.getfield 15, 3) := by decide +kernel
theorem dX0_begin_24 : decode cX0_begin 24 = .ok (.iconst 1, 1) := by decide +kernel
theorem dX0_begin_25 : decode cX0_begin 25 = .ok (.iadd, 1) := by decide +kernel
theorem dX0_begin_26 : decode cX0_begin 26 = .ok (.putfield 15, 3) := by decide +kernel
theorem dX0_begin_29 : decode cX0_begin 29 = .ok (.return_, 1) := by decide +kernel
theorem dX0_points_0 : decode cX0_points 0 = .ok (.iload_n 3, 1) := by decide +kernel
theorem dX0_points_1 : decode cX0_points 1 = .ok (.bipush 40, 2) := by decide +kernel
theorem dX0_points_3 : decode cX0_points 3 = .ok (.if_icmp .le 5, 3) := by decide +kernel
theorem dX0_points_6 : decode cX0_points 6 = .ok (.iconst 0, 1) := by decide +kernel
theorem dX0_points_7 : decode cX0_points 7 = .ok (.ireturn, 1) := by decide +kernel
theorem dX0_points_8 : decode cX0_points 8 = .ok (.iload_n 1, 1) := by decide +kernel
theorem dX0_points_9 : decode cX0_points 9 = .ok (.tableswitch 91 2 6 #[35, 91, 53, 35, 70], 35) := by decide +kernel
theorem dX0_points_44 : decode cX0_points 44 = .ok (.aload_n 0, 1) := by decide +kernel
theorem dX0_points_45 : decode cX0_points 45 = .ok (.bipush 30, 2) := by decide +kernel
theorem dX0_points_47 : decode cX0_points 47 = .ok (.invokevirtual 28, 3) := by decide +kernel
theorem dX0_points_50 : decode cX0_points 50 = .ok (.aload_n 0, 1) := by decide +kernel
theorem dX0_points_51 : decode cX0_points 51 = .ok (.iconst 0, 1) := by decide +kernel
theorem dX0_points_52 : decode cX0_points 52 = .ok (.iload_n 2, 1) := by decide +kernel
theorem dX0_points_53 : decode cX0_points 53 = .ok (.iconst 3, 1) := by decide +kernel
theorem dX0_points_54 : decode cX0_points 54 = .ok (.imul, 1) := by decide +kernel
theorem dX0_points_55 : decode cX0_points 55 = .ok (.iload_n 3, 1) := by decide +kernel
theorem dX0_points_56 : decode cX0_points 56 = .ok (.iconst 1, 1) := by decide +kernel
theorem dX0_points_57 : decode cX0_points 57 = .ok (.iadd, 1) := by decide +kernel
theorem dX0_points_58 : decode cX0_points 58 = .ok (.invokevirtual 32, 3) := by decide +kernel
theorem dX0_points_61 : decode cX0_points 61 = .ok (.ireturn, 1) := by decide +kernel
theorem dX0_points_62 : decode cX0_points 62 = .ok (.aload_n 0, 1) := by decide +kernel
theorem dX0_points_63 : decode cX0_points 63 = .ok (.bipush 50, 2) := by decide +kernel
theorem dX0_points_65 : decode cX0_points 65 = .ok (.invokevirtual 28, 3) := by decide +kernel
theorem dX0_points_68 : decode cX0_points 68 = .ok (.aload_n 0, 1) := by decide +kernel
theorem dX0_points_69 : decode cX0_points 69 = .ok (.iconst 1, 1) := by decide +kernel
theorem dX0_points_70 : decode cX0_points 70 = .ok (.iload_n 2, 1) := by decide +kernel
theorem dX0_points_71 : decode cX0_points 71 = .ok (.iload_n 3, 1) := by decide +kernel
theorem dX0_points_72 : decode cX0_points 72 = .ok (.iconst 1, 1) := by decide +kernel
theorem dX0_points_73 : decode cX0_points 73 = .ok (.iadd, 1) := by decide +kernel
theorem dX0_points_74 : decode cX0_points 74 = .ok (.invokevirtual 32, 3) := by decide +kernel
theorem dX0_points_77 : decode cX0_points 77 = .ok (.ineg, 1) := by decide +kernel
theorem dX0_points_78 : decode cX0_points 78 = .ok (.ireturn, 1) := by decide +kernel
theorem dX0_points_79 : decode cX0_points 79 = .ok (.aload_n 0, 1) := by decide +kernel
theorem dX0_points_80 : decode cX0_points 80 = .ok (.bipush 71, 2) := by decide +kernel
theorem dX0_points_82 : decode cX0_points 82 = .ok (.invokevirtual 28, 3) := by decide +kernel
theorem dX0_points_85 : decode cX0_points 85 = .ok (.aload_n 0, 1) := by decide +kernel
theorem dX0_points_86 : decode cX0_points 86 = .ok (.iconst 3, 1) := by decide +kernel
theorem dX0_points_87 : decode cX0_points 87 = .ok (.iload_n 2, 1) := by decide +kernel
theorem dX0_points_88 : decode cX0_points 88 = .ok (.iload_n 3, 1) := by decide +kernel
theorem dX0_points_89 : decode cX0_points 89 = .ok (.iconst 1, 1) := by decide +kernel
theorem dX0_points_90 : decode cX0_points 90 = .ok (.iadd, 1) := by decide +kernel
theorem dX0_points_91 : decode cX0_points 91 = .ok (.invokevirtual 32, 3) := by decide +kernel
theorem dX0_points_94 : decode cX0_points 94 = .ok (.aload_n 0, 1) := by decide +kernel
theorem dX0_points_95 : decode cX0_points 95 = .ok (.getfield 25, 3) := by decide +kernel
theorem dX0_points_98 : decode cX0_points 98 = .ok (.ixor, 1) := by decide +kernel
theorem dX0_points_99 : decode cX0_points 99 = .ok (.ireturn, 1) := by decide +kernel
theorem dX0_points_100 : decode cX0_points 100 = .ok (.aload_n 0, 1) := by decide +kernel
theorem dX0_points_101 : decode cX0_points 101 = .ok (.bipush 10, 2) := by decide +kernel
theorem dX0_points_103 : decode cX0_points 103 = .ok (.invokevirtual 28, 3) := by decide +kernel
theorem dX0_points_106 : decode cX0_points 106 = .ok (.iload_n 2, 1) := by decide +kernel
theorem dX0_points_107 : decode cX0_points 107 = .ok (.aload_n 0, 1) := by decide +kernel
theorem dX0_points_108 : decode cX0_points 108 = .ok (.getfield 19, 3) := by decide +kernel
theorem dX0_points_111 : decode cX0_points 111 = .ok (.iadd, 1) := by decide +kernel
theorem dX0_points_112 : decode cX0_points 112 = .ok (.ireturn, 1) := by decide +kernel
theorem dX0_names_0 : decode cX0_names 0 = .ok (.iload_n 3, 1) := by decide +kernel
theorem dX0_names_1 : decode cX0_names 1 = .ok (.bipush 40, 2) := by decide +kernel
theorem dX0_names_3 : decode cX0_names 3 = .ok (.if_icmp .le 5, 3) := by decide +kernel
theorem dX0_names_6 : decode cX0_names 6 = .ok (.iconst 0, 1) := by decide +kernel
theorem dX0_names_7 : decode cX0_names 7 = .ok (.ireturn, 1) := by decide +kernel
theorem dX0_names_8 : decode cX0_names 8 = .ok (.iload_n 1, 1) := by decide +kernel
theorem dX0_names_9 : decode cX0_names 9 = .ok (.lookupswitch 98 #[(1, 35), (4, 54), (6, 72)], 35) := by decide +kernel
theorem dX0_names_44 : decode cX0_names 44 = .ok (.aload_n 0, 1) := by decide +kernel
theorem dX0_names_45 : decode cX0_names 45 = .ok (.bipush 20, 2) := by decide +kernel
theorem dX0_names_47 : decode cX0_names 47 = .ok (.invokevirtual 28, 3) := by decide +kernel
theorem dX0_names_50 : decode cX0_names 50 = .ok (.aload_n 0, 1) := by decide +kernel
theorem dX0_names_51 : decode cX0_names 51 = .ok (.iconst 0, 1) := by decide +kernel
theorem dX0_names_52 : decode cX0_names 52 = .ok (.iload_n 2, 1) := by decide +kernel
theorem dX0_names_53 : decode cX0_names 53 = .ok (.iload_n 3, 1) := by decide +kernel
theorem dX0_names_54 : decode cX0_names 54 = .ok (.iconst 1, 1) := by decide +kernel
theorem dX0_names_55 : decode cX0_names 55 = .ok (.iadd, 1) := by decide +kernel
theorem dX0_names_56 : decode cX0_names 56 = .ok (.invokevirtual 36, 3) := by decide +kernel
theorem dX0_names_59 : decode cX0_names 59 = .ok (.bipush 6, 2) := by decide +kernel
theorem dX0_names_61 : decode cX0_names 61 = .ok (.ixor, 1) := by decide +kernel
theorem dX0_names_62 : decode cX0_names 62 = .ok (.ireturn, 1) := by decide +kernel
theorem dX0_names_63 : decode cX0_names 63 = .ok (.aload_n 0, 1) := by decide +kernel
theorem dX0_names_64 : decode cX0_names 64 = .ok (.bipush 51, 2) := by decide +kernel
theorem dX0_names_66 : decode cX0_names 66 = .ok (.invokevirtual 28, 3) := by decide +kernel
theorem dX0_names_69 : decode cX0_names 69 = .ok (.aload_n 0, 1) := by decide +kernel
theorem dX0_names_70 : decode cX0_names 70 = .ok (.iconst 1, 1) := by decide +kernel
theorem dX0_names_71 : decode cX0_names 71 = .ok (.iload_n 2, 1) := by decide +kernel
theorem dX0_names_72 : decode cX0_names 72 = .ok (.iconst 1, 1) := by decide +kernel
theorem dX0_names_73 : decode cX0_names 73 = .ok (.iadd, 1) := by decide +kernel
theorem dX0_names_74 : decode cX0_names 74 = .ok (.iload_n 3, 1) := by decide +kernel
theorem dX0_names_75 : decode cX0_names 75 = .ok (.iconst 1, 1) := by decide +kernel
theorem dX0_names_76 : decode cX0_names 76 = .ok (.iadd, 1) := by decide +kernel
theorem dX0_names_77 : decode cX0_names 77 = .ok (.invokevirtual 36, 3) := by decide +kernel
theorem dX0_names_80 : decode cX0_names 80 = .ok (.ireturn, 1) := by decide +kernel
theorem dX0_names_81 : decode cX0_names 81 = .ok (.aload_n 0, 1) := by decide +kernel
theorem dX0_names_82 : decode cX0_names 82 = .ok (.bipush 70, 2) := by decide +kernel
theorem dX0_names_84 : decode cX0_names 84 = .ok (.invokevirtual 28, 3) := by decide +kernel
theorem dX0_names_87 : decode cX0_names 87 = .ok (.aload_n 0, 1) := by decide +kernel
theorem dX0_names_88 : decode cX0_names 88 = .ok (.iconst 3, 1) := by decide +kernel
theorem dX0_names_89 : decode cX0_names 89 = .ok (.iload_n 2, 1) := by decide +kernel
theorem dX0_names_90 : decode cX0_names 90 = .ok (.iload_n 3, 1) := by decide +kernel
theorem dX0_names_91 : decode cX0_names 91 = .ok (.iconst 1, 1) := by decide +kernel
theorem dX0_names_92 : decode cX0_names 92 = .ok (.iadd, 1) := by decide +kernel
theorem dX0_names_93 : decode cX0_names 93 = .ok (.invokevirtual 36, 3) := by decide +kernel
theorem dX0_names_96 : decode cX0_names 96 = .ok (.aload_n 0, 1) := by decide +kernel
theorem dX0_names_97 : decode cX0_names 97 = .ok (.iconst 3, 1) := by decide +kernel
theorem dX0_names_98 : decode cX0_names 98 = .ok (.iconst 2, 1) := by decide +kernel
theorem dX0_names_99 : decode cX0_names 99 = .ok (.iload_n 3, 1) := by decide +kernel
theorem dX0_names_100 : decode cX0_names 100 = .ok (.iconst 1, 1) := by decide +kernel
theorem dX0_names_101 : decode cX0_names 101 = .ok (.iadd, 1) := by decide +kernel
theorem dX0_names_102 : decode cX0_names 102 = .ok (.invokevirtual 32, 3) := by decide +kernel
theorem dX0_names_105 : decode cX0_names 105 = .ok (.iadd, 1) := by decide +kernel
theorem dX0_names_106 : decode cX0_names 106 = .ok (.ireturn, 1) := by decide +kernel
theorem dX0_names_107 : decode cX0_names 107 = .ok (.aload_n 0, 1) := by decide +kernel
theorem dX0_names_108 : decode cX0_names 108 = .ok (.bipush 11, 2) := by decide +kernel
theorem dX0_names_110 : decode cX0_names 110 = .ok (.invokevirtual 28, 3) := by decide +kernel
theorem dX0_names_113 : decode cX0_names 113 = .ok (.aload_n 0, 1) := by decide +kernel
theorem dX0_names_114 : decode cX0_names 114 = .ok (.aload_n 0, 1) := by decide +kernel
theorem dX0_names_115 : decode cX0_names 115 = .ok (.getfield 22, 3) := by decide +kernel
theorem dX0_names_118 : decode cX0_names 118 = .ok (.iload_n 2, 1) := by decide +kernel
theorem dX0_names_119 : decode cX0_names 119 = .ok (.iload_n 3, 1) := by decide +kernel
theorem dX0_names_120 : decode cX0_names 120 = .ok (.iconst 1, 1) := by decide +kernel
theorem dX0_names_121 : decode cX0_names 121 = .ok (.iadd, 1) := by decide +kernel
theorem dX0_names_122 : decode cX0_names 122 = .ok (.invokevirtual 32, 3) := by decide +kernel
theorem dX0_names_125 : decode cX0_names 125 = .ok (.aload_n 0, 1) := by decide +kernel
theorem dX0_names_126 : decode cX0_names 126 = .ok (.getfield 25, 3) := by decide +kernel
theorem dX0_names_129 : decode cX0_names 129 = .ok (.isub, 1) := by decide +kernel
theorem dX0_names_130 : decode cX0_names 130 = .ok (.ireturn, 1) := by decide +kernel
theorem dX0_tells_0 : decode cX0_tells 0 = .ok (.iload_n 3, 1) := by decide +kernel
theorem dX0_tells_1 : decode cX0_tells 1 = .ok (.bipush 40, 2) := by decide +kernel
theorem dX0_tells_3 : decode cX0_tells 3 = .ok (.if_icmp .le 5, 3) := by decide +kernel
theorem dX0_tells_6 : decode cX0_tells 6 = .ok (.iconst 0, 1) := by decide +kernel
theorem dX0_tells_7 : decode cX0_tells 7 = .ok (.ireturn, 1) := by decide +kernel
theorem dX0_tells_8 : decode cX0_tells 8 = .ok (.iload_n 1, 1) := by decide +kernel
theorem dX0_tells_9 : decode cX0_tells 9 = .ok (.tableswitch 81 3 6 #[31, 81, 60, 31], 31) := by decide +kernel
theorem dX0_tells_40 : decode cX0_tells 40 = .ok (.aload_n 0, 1) := by decide +kernel
theorem dX0_tells_41 : decode cX0_tells 41 = .ok (.bipush 40, 2) := by decide +kernel
theorem dX0_tells_43 : decode cX0_tells 43 = .ok (.invokevirtual 28, 3) := by decide +kernel
theorem dX0_tells_46 : decode cX0_tells 46 = .ok (.aload_n 0, 1) := by decide +kernel
theorem dX0_tells_47 : decode cX0_tells 47 = .ok (.iconst 0, 1) := by decide +kernel
theorem dX0_tells_48 : decode cX0_tells 48 = .ok (.iload_n 2, 1) := by decide +kernel
theorem dX0_tells_49 : decode cX0_tells 49 = .ok (.iload_n 3, 1) := by decide +kernel
theorem dX0_tells_50 : decode cX0_tells 50 = .ok (.iconst 1, 1) := by decide +kernel
theorem dX0_tells_51 : decode cX0_tells 51 = .ok (.iadd, 1) := by decide +kernel
theorem dX0_tells_52 : decode cX0_tells 52 = .ok (.invokevirtual 39, 3) := by decide +kernel
theorem dX0_tells_55 : decode cX0_tells 55 = .ok (.aload_n 0, 1) := by decide +kernel
theorem dX0_tells_56 : decode cX0_tells 56 = .ok (.aload_n 0, 1) := by decide +kernel
theorem dX0_tells_57 : decode cX0_tells 57 = .ok (.getfield 22, 3) := by decide +kernel
theorem dX0_tells_60 : decode cX0_tells 60 = .ok (.iconst 1, 1) := by decide +kernel
theorem dX0_tells_61 : decode cX0_tells 61 = .ok (.iload_n 3, 1) := by decide +kernel
theorem dX0_tells_62 : decode cX0_tells 62 = .ok (.iconst 1, 1) := by decide +kernel
theorem dX0_tells_63 : decode cX0_tells 63 = .ok (.iadd, 1) := by decide +kernel
theorem dX0_tells_64 : decode cX0_tells 64 = .ok (.invokevirtual 36, 3) := by decide +kernel
theorem dX0_tells_67 : decode cX0_tells 67 = .ok (.iadd, 1) := by decide +kernel
theorem dX0_tells_68 : decode cX0_tells 68 = .ok (.ireturn, 1) := by decide +kernel
theorem dX0_tells_69 : decode cX0_tells 69 = .ok (.aload_n 0, 1) := by decide +kernel
theorem dX0_tells_70 : decode cX0_tells 70 = .ok (.bipush 60, 2) := by decide +kernel
theorem dX0_tells_72 : decode cX0_tells 72 = .ok (.invokevirtual 28, 3) := by decide +kernel
theorem dX0_tells_75 : decode cX0_tells 75 = .ok (.aload_n 0, 1) := by decide +kernel
theorem dX0_tells_76 : decode cX0_tells 76 = .ok (.iconst 2, 1) := by decide +kernel
theorem dX0_tells_77 : decode cX0_tells 77 = .ok (.iload_n 2, 1) := by decide +kernel
theorem dX0_tells_78 : decode cX0_tells 78 = .ok (.aload_n 0, 1) := by decide +kernel
theorem dX0_tells_79 : decode cX0_tells 79 = .ok (.getfield 19, 3) := by decide +kernel
theorem dX0_tells_82 : decode cX0_tells 82 = .ok (.isub, 1) := by decide +kernel
theorem dX0_tells_83 : decode cX0_tells 83 = .ok (.iload_n 3, 1) := by decide +kernel
theorem dX0_tells_84 : decode cX0_tells 84 = .ok (.iconst 1, 1) := by decide +kernel
theorem dX0_tells_85 : decode cX0_tells 85 = .ok (.iadd, 1) := by decide +kernel
theorem dX0_tells_86 : decode cX0_tells 86 = .ok (.invokevirtual 39, 3) := by decide +kernel
theorem dX0_tells_89 : decode cX0_tells 89 = .ok (.ireturn, 1) := by decide +kernel
theorem dX0_tells_90 : decode cX0_tells 90 = .ok (.aload_n 0, 1) := by decide +kernel
theorem dX0_tells_91 : decode cX0_tells 91 = .ok (.bipush 12, 2) := by decide +kernel
theorem dX0_tells_93 : decode cX0_tells 93 = .ok (.invokevirtual 28, 3) := by decide +kernel
theorem dX0_tells_96 : decode cX0_tells 96 = .ok (.aload_n 0, 1) := by decide +kernel
theorem dX0_tells_97 : decode cX0_tells 97 = .ok (.aload_n 0, 1) := by decide +kernel
theorem dX0_tells_98 : decode cX0_tells 98 = .ok (.getfield 22, 3) := by decide +kernel
theorem dX0_tells_101 : decode cX0_tells 101 = .ok (.iload_n 2, 1) := by decide +kernel
theorem dX0_tells_102 : decode cX0_tells 102 = .ok (.iload_n 3, 1) := by decide +kernel
theorem dX0_tells_103 : decode cX0_tells 103 = .ok (.iconst 1, 1) := by decide +kernel
theorem dX0_tells_104 : decode cX0_tells 104 = .ok (.iadd, 1) := by decide +kernel
theorem dX0_tells_105 : decode cX0_tells 105 = .ok (.invokevirtual 36, 3) := by decide +kernel
theorem dX0_tells_108 : decode cX0_tells 108 = .ok (.iconst 2, 1) := by decide +kernel
theorem dX0_tells_109 : decode cX0_tells 109 = .ok (.imul, 1) := by decide +kernel
theorem dX0_tells_110 : decode cX0_tells 110 = .ok (.ireturn, 1) := by decide +kernel
theorem dX1_init_0 : decode cX1_init 0 = .ok (.aload_n 0, 1) := by decide +kernel
theorem dX1_init_1 : decode cX1_init 1 = .ok (.invokespecial 3, 3) := by decide +kernel
theorem dX1_init_4 : decode cX1_init 4 = .ok (.aload_n 0, 1) := by decide +kernel
theorem dX1_init_5 : decode cX1_init 5 = .ok (.new 9, 3) := by decide +kernel
theorem dX1_init_8 : decode cX1_init 8 = .ok (.dup, 1) := by decide +kernel
theorem dX1_init_9 : decode cX1_init 9 = .ok (.invokespecial 11, 3) := by decide +kernel
theorem dX1_init_12 : decode cX1_init 12 = .ok (.putfield 12, 3) := by decide +kernel
theorem dX1_init_15 : decode cX1_init 15 = .ok (.aload_n 0, 1) := by decide +kernel
theorem dX1_init_16 : decode cX1_init 16 = .ok (.bipush 6, 2) := by decide +kernel
theorem dX1_init_18 : decode cX1_init 18 = .ok (.newarray .int, 2) := by decide +kernel
theorem dX1_init_20 : decode cX1_init 20 = .ok (.putfield 18, 3) := by decide +kernel
theorem dX1_init_23 : decode cX1_init 23 = .ok (.aload_n 0, 1) := by decide +kernel
theorem dX1_init_24 : decode cX1_init 24 = .ok (.bipush 7, 2) := by decide +kernel
theorem dX1_init_26 : decode cX1_init 26 = .ok (.newarray .int, 2) := by decide +kernel
theorem dX1_init_28 : decode cX1_init 28 = .ok (.putfield 22, 3) := by decide +kernel
theorem dX1_init_31 : decode cX1_init 31 = .ok (.aload_n 0, 1) := by decide +kernel
theorem dX1_init_32 : decode cX1_init 32 = .ok (.bipush 7, 2) := by decide +kernel
theorem dX1_init_34 : decode cX1_init 34 = .ok (.newarray .int, 2) := by decide +kernel
theorem dX1_init_36 : decode cX1_init 36 = .ok (.putfield 25, 3) := by decide +kernel
theorem dX1_init_39 : decode cX1_init 39 = .ok (.aload_n 0, 1) := by decide +kernel
theorem dX1_init_40 : decode cX1_init 40 = .ok (.bipush 49, 2) := by decide +kernel
theorem dX1_init_42 : decode cX1_init 42 = .ok (.newarray .int, 2) := by decide +kernel
theorem dX1_init_44 : decode cX1_init 44 = .ok (.putfield 28, 3) := by decide +kernel
theorem dX1_init_47 : decode cX1_init 47 = .ok (.aload_n 0, 1) := by decide +kernel
theorem dX1_init_48 : decode cX1_init 48 = .ok (.bipush 49, 2) := by decide +kernel
theorem dX1_init_50 : decode cX1_init 50 = .ok (.newarray .int, 2) := by decide +kernel
theorem dX1_init_52 : decode cX1_init 52 = .ok (.putfield 31, 3) := by decide +kernel
theorem dX1_init_55 : decode cX1_init 55 = .ok (.aload_n 0, 1) := by decide +kernel
theorem dX1_init_56 : decode cX1_init 56 = .ok (.bipush 49, 2) := by decide +kernel
theorem dX1_init_58 : decode cX1_init 58 = .ok (.newarray .int, 2) := by decide +kernel
theorem dX1_init_60 : decode cX1_init 60 = .ok (.putfield 34, 3) := by decide +kernel
theorem dX1_init_63 : decode cX1_init 63 = .ok (.aload_n 0, 1) := by decide +kernel
theorem dX1_init_64 : decode cX1_init 64 = .ok (.bipush 49, 2) := by decide +kernel
theorem dX1_init_66 : decode cX1_init 66 = .ok (.newarray .int, 2) := by decide +kernel
theorem dX1_init_68 : decode cX1_init 68 = .ok (.putfield 37, 3) := by decide +kernel
theorem dX1_init_71 : decode cX1_init 71 = .ok (.aload_n 0, 1) := by decide +kernel
theorem dX1_init_72 : decode cX1_init 72 = .ok (.bipush 7, 2) := by decide +kernel
theorem dX1_init_74 : decode cX1_init 74 = .ok (.newarray .long, 2) := by decide +kernel
theorem dX1_init_76 : decode cX1_init 76 = .ok (.putfield 40, 3) := by decide +kernel
theorem dX1_init_79 : decode cX1_init 79 = .ok (.aload_n 0, 1) := by decide +kernel
theorem dX1_init_80 : decode cX1_init 80 = .ok (.bipush 7, 2) := by decide +kernel
theorem dX1_init_82 : decode cX1_init 82 = .ok (.newarray .long, 2) := by decide +kernel
theorem dX1_init_84 : decode cX1_init 84 = .ok (.putfield 44, 3) := by decide +kernel
theorem dX1_init_87 : decode cX1_init 87 = .ok (.aload_n 0, 1) := by decide +kernel
theorem dX1_init_88 : decode cX1_init 88 = .ok (.iconst (-1), 1) := by decide +kernel
theorem dX1_init_89 : decode cX1_init 89 = .ok (.putfield 47, 3) := by decide +kernel
theorem dX1_init_92 : decode cX1_init 92 = .ok (.return_, 1) := by decide +kernel
theorem dX1_findSizes_0 : decode cX1_findSizes 0 = .ok (.iconst 0, 1) := by decide +kernel
theorem dX1_findSizes_1 : decode cX1_findSizes 1 = .ok (.istore_n 2, 1) := by decide +kernel
theorem dX1_findSizes_2 : decode cX1_findSizes 2 = .ok (.iload_n 2, 1) := by decide +kernel
theorem dX1_findSizes_3 : decode cX1_findSizes 3 = .ok (.aload_n 0, 1) := by decide +kernel
theorem dX1_findSizes_4 : decode cX1_findSizes 4 = .ok (.getfield 12, 3) := by decide +kernel
theorem dX1_findSizes_7 : decode cX1_findSizes 7 = .ok (.getfield 51, 3) := by decide +kernel
theorem dX1_findSizes_10 : decode cX1_findSizes 10 = .ok (.if_icmp .ge 61, 3) := by decide +kernel
theorem dX1_findSizes_13 : decode cX1_findSizes 13 = .ok (.aload_n 0, 1) := by decide +kernel
theorem dX1_findSizes_14 : decode cX1_findSizes 14 = .ok (.getfield 12, 3) := by decide +kernel
theorem dX1_findSizes_17 : decode cX1_findSizes 17 = .ok (.iload_n 2, 1) := by decide +kernel
theorem dX1_findSizes_18 : decode cX1_findSizes 18 = .ok (.aload_n 0, 1) := by decide +kernel
theorem dX1_findSizes_19 : decode cX1_findSizes 19 = .ok (.getfield 18, 3) := by decide +kernel
theorem dX1_findSizes_22 : decode cX1_findSizes 22 = .ok (.invokevirtual 54, 3) := by decide +kernel
theorem dX1_findSizes_25 : decode cX1_findSizes 25 = .ok (.aload_n 0, 1) := by decide +kernel
theorem dX1_findSizes_26 : decode cX1_findSizes 26 = .ok (.getfield 22, 3) := by decide +kernel
theorem dX1_findSizes_29 : decode cX1_findSizes 29 = .ok (.iload_n 2, 1) := by decide +kernel
theorem dX1_findSizes_30 : decode cX1_findSizes 30 = .ok (.aload_n 0, 1) := by decide +kernel
theorem dX1_findSizes_31 : decode cX1_findSizes 31 = .ok (.getfield 12, 3) := by decide +kernel
theorem dX1_findSizes_34 : decode cX1_findSizes 34 = .ok (.getfield 58, 3) := by decide +kernel
theorem dX1_findSizes_37 : decode cX1_findSizes 37 = .ok (.iload_n 2, 1) := by decide +kernel
theorem dX1_findSizes_38 : decode cX1_findSizes 38 = .ok (.iaload, 1) := by decide +kernel
theorem dX1_findSizes_39 : decode cX1_findSizes 39 = .ok (.aload_n 1, 1) := by decide +kernel
theorem dX1_findSizes_40 : decode cX1_findSizes 40 = .ok (.iconst 0, 1) := by decide +kernel
theorem dX1_findSizes_41 : decode cX1_findSizes 41 = .ok (.aload_n 0, 1) := by decide +kernel
theorem dX1_findSizes_42 : decode cX1_findSizes 42 = .ok (.getfield 18, 3) := by decide +kernel
theorem dX1_findSizes_45 : decode cX1_findSizes 45 = .ok (.invokevirtual 61, 3) := by decide +kernel
theorem dX1_findSizes_48 : decode cX1_findSizes 48 = .ok (.iadd, 1) := by decide +kernel
theorem dX1_findSizes_49 : decode cX1_findSizes 49 = .ok (.iastore, 1) := by decide +kernel
theorem dX1_findSizes_50 : decode cX1_findSizes 50 = .ok (.aload_n 0, 1) := by decide +kernel
theorem dX1_findSizes_51 : decode cX1_findSizes 51 = .ok (.getfield 25, 3) := by decide +kernel
theorem dX1_findSizes_54 : decode cX1_findSizes 54 = .ok (.iload_n 2, 1) := by decide +kernel
theorem dX1_findSizes_55 : decode cX1_findSizes 55 = .ok (.aload_n 1, 1) := by decide +kernel
theorem dX1_findSizes_56 : decode cX1_findSizes 56 = .ok (.iconst 1, 1) := by decide +kernel
theorem dX1_findSizes_57 : decode cX1_findSizes 57 = .ok (.aload_n 0, 1) := by decide +kernel
theorem dX1_findSizes_58 : decode cX1_findSizes 58 = .ok (.getfield 18, 3) := by decide +kernel
theorem dX1_findSizes_61 : decode cX1_findSizes 61 = .ok (.invokevirtual 61, 3) := by decide +kernel
theorem dX1_findSizes_64 : decode cX1_findSizes 64 = .ok (.iastore, 1) := by decide +kernel
theorem dX1_findSizes_65 : decode cX1_findSizes 65 = .ok (.iinc 2 1, 3) := by decide +kernel
theorem dX1_findSizes_68 : decode cX1_findSizes 68 = .ok (.goto (-66), 3) := by decide +kernel
theorem dX1_findSizes_71 : decode cX1_findSizes 71 = .ok (.return_, 1) := by decide +kernel
theorem dX1_findLongs_0 : decode cX1_findLongs 0 = .ok (.iconst 0, 1) := by decide +kernel
theorem dX1_findLongs_1 : decode cX1_findLongs 1 = .ok (.istore_n 1, 1) := by decide +kernel
theorem dX1_findLongs_2 : decode cX1_findLongs 2 = .ok (.iload_n 1, 1) := by decide +kernel
theorem dX1_findLongs_3 : decode cX1_findLongs 3 = .ok (.aload_n 0, 1) := by decide +kernel
theorem dX1_findLongs_4 : decode cX1_findLongs 4 = .ok (.getfield 12, 3) := by decide +kernel
theorem dX1_findLongs_7 : decode cX1_findLongs 7 = .ok (.getfield 51, 3) := by decide +kernel
theorem dX1_findLongs_10 : decode cX1_findLongs 10 = .ok (.if_icmp .ge 72, 3) := by decide +kernel
theorem dX1_findLongs_13 : decode cX1_findLongs 13 = .ok (.iconst 0, 1) := by decide +kernel
theorem dX1_findLongs_14 : decode cX1_findLongs 14 = .ok (.istore_n 2, 1) := by decide +kernel
theorem dX1_findLongs_15 : decode cX1_findLongs 15 = .ok (.iload_n 2, 1) := by decide +kernel
theorem dX1_findLongs_16 : decode cX1_findLongs 16 = .ok (.aload_n 0, 1) := by decide +kernel
theorem dX1_findLongs_17 : decode cX1_findLongs 17 = .ok (.getfield 12, 3) := by decide +kernel
theorem dX1_findLongs_20 : decode cX1_findLongs 20 = .ok (.getfield 51, 3) := by decide +kernel
theorem dX1_findLongs_23 : decode cX1_findLongs 23 = .ok (.if_icmp .ge 53, 3) := by decide +kernel
theorem dX1_findLongs_26 : decode cX1_findLongs 26 = .ok (.aload_n 0, 1) := by decide +kernel
theorem dX1_findLongs_27 : decode cX1_findLongs 27 = .ok (.getfield 12, 3) := by decide +kernel
theorem dX1_findLongs_30 : decode cX1_findLongs 30 = .ok (.getfield 67, 3) := by decide +kernel
theorem dX1_findLongs_33 : decode cX1_findLongs 33 = .ok (.iload_n 1, 1) := by decide +kernel
theorem dX1_findLongs_34 : decode cX1_findLongs 34 = .ok (.iload_n 2, 1) := by decide +kernel
theorem dX1_findLongs_35 : decode cX1_findLongs 35 = .ok (.invokestatic 70, 3) := by decide +kernel
theorem dX1_findLongs_38 : decode cX1_findLongs 38 = .ok (.iaload, 1) := by decide +kernel
theorem dX1_findLongs_39 : decode cX1_findLongs 39 = .ok (.istore_n 3, 1) := by decide +kernel
theorem dX1_findLongs_40 : decode cX1_findLongs 40 = .ok (.aload_n 0, 1) := by decide +kernel
theorem dX1_findLongs_41 : decode cX1_findLongs 41 = .ok (.getfield 28, 3) := by decide +kernel
theorem dX1_findLongs_44 : decode cX1_findLongs 44 = .ok (.iload_n 1, 1) := by decide +kernel
theorem dX1_findLongs_45 : decode cX1_findLongs 45 = .ok (.iload_n 2, 1) := by decide +kernel
theorem dX1_findLongs_46 : decode cX1_findLongs 46 = .ok (.invokestatic 70, 3) := by decide +kernel
theorem dX1_findLongs_49 : decode cX1_findLongs 49 = .ok (.iload_n 3, 1) := by decide +kernel
theorem dX1_findLongs_50 : decode cX1_findLongs 50 = .ok (.ifCond .ne 7, 3) := by decide +kernel
theorem dX1_findLongs_53 : decode cX1_findLongs 53 = .ok (.iconst 0, 1) := by decide +kernel
theorem dX1_findLongs_54 : decode cX1_findLongs 54 = .ok (.goto 15, 3) := by decide +kernel
theorem dX1_findLongs_57 : decode cX1_findLongs 57 = .ok (.iload_n 3, 1) := by decide +kernel
theorem dX1_findLongs_58 : decode cX1_findLongs 58 = .ok (.aload_n 0, 1) := by decide +kernel
theorem dX1_findLongs_59 : decode cX1_findLongs 59 = .ok (.getfield 25, 3) := by decide +kernel
theorem dX1_findLongs_62 : decode cX1_findLongs 62 = .ok (.iload_n 1, 1) := by decide +kernel
theorem dX1_findLongs_63 : decode cX1_findLongs 63 = .ok (.iload_n 2, 1) := by decide +kernel
theorem dX1_findLongs_64 : decode cX1_findLongs 64 = .ok (.invokestatic 74, 3) := by decide +kernel
theorem dX1_findLongs_67 : decode cX1_findLongs 67 = .ok (.iaload, 1) := by decide +kernel
theorem dX1_findLongs_68 : decode cX1_findLongs 68 = .ok (.iadd, 1) := by decide +kernel
theorem dX1_findLongs_69 : decode cX1_findLongs 69 = .ok (.iastore, 1) := by decide +kernel
theorem dX1_findLongs_70 : decode cX1_findLongs 70 = .ok (.iinc 2 1, 3) := by decide +kernel
theorem dX1_findLongs_73 : decode cX1_findLongs 73 = .ok (.goto (-58), 3) := by decide +kernel
theorem dX1_findLongs_76 : decode cX1_findLongs 76 = .ok (.iinc 1 1, 3) := by decide +kernel
theorem dX1_findLongs_79 : decode cX1_findLongs 79 = .ok (.goto (-77), 3) := by decide +kernel
theorem dX1_findLongs_82 : decode cX1_findLongs 82 = .ok (.return_, 1) := by decide +kernel
theorem dX1_findWays_0 : decode cX1_findWays 0 = .ok (.iconst 0, 1) := by decide +kernel
theorem dX1_findWays_1 : decode cX1_findWays 1 = .ok (.istore_n 1, 1) := by decide +kernel
theorem dX1_findWays_2 : decode cX1_findWays 2 = .ok (.iload_n 1, 1) := by decide +kernel
theorem dX1_findWays_3 : decode cX1_findWays 3 = .ok (.aload_n 0, 1) := by decide +kernel
theorem dX1_findWays_4 : decode cX1_findWays 4 = .ok (.getfield 12, 3) := by decide +kernel
theorem dX1_findWays_7 : decode cX1_findWays 7 = .ok (.getfield 51, 3) := by decide +kernel
theorem dX1_findWays_10 : decode cX1_findWays 10 = .ok (.if_icmp .ge 68, 3) := by decide +kernel
theorem dX1_findWays_13 : decode cX1_findWays 13 = .ok (.iconst 0, 1) := by decide +kernel
theorem dX1_findWays_14 : decode cX1_findWays 14 = .ok (.istore_n 2, 1) := by decide +kernel
theorem dX1_findWays_15 : decode cX1_findWays 15 = .ok (.iload_n 2, 1) := by decide +kernel
theorem dX1_findWays_16 : decode cX1_findWays 16 = .ok (.aload_n 0, 1) := by decide +kernel
theorem dX1_findWays_17 : decode cX1_findWays 17 = .ok (.getfield 12, 3) := by decide +kernel
theorem dX1_findWays_20 : decode cX1_findWays 20 = .ok (.getfield 51, 3) := by decide +kernel
theorem dX1_findWays_23 : decode cX1_findWays 23 = .ok (.if_icmp .ge 49, 3) := by decide +kernel
theorem dX1_findWays_26 : decode cX1_findWays 26 = .ok (.aload_n 0, 1) := by decide +kernel
theorem dX1_findWays_27 : decode cX1_findWays 27 = .ok (.getfield 28, 3) := by decide +kernel
theorem dX1_findWays_30 : decode cX1_findWays 30 = .ok (.iload_n 1, 1) := by decide +kernel
theorem dX1_findWays_31 : decode cX1_findWays 31 = .ok (.iload_n 2, 1) := by decide +kernel
theorem dX1_findWays_32 : decode cX1_findWays 32 = .ok (.invokestatic 70, 3) := by decide +kernel
theorem dX1_findWays_35 : decode cX1_findWays 35 = .ok (.iaload, 1) := by decide +kernel
theorem dX1_findWays_36 : decode cX1_findWays 36 = .ok (.istore_n 3, 1) := by decide +kernel
theorem dX1_findWays_37 : decode cX1_findWays 37 = .ok (.aload_n 0, 1) := by decide +kernel
theorem dX1_findWays_38 : decode cX1_findWays 38 = .ok (.getfield 31, 3) := by decide +kernel
theorem dX1_findWays_41 : decode cX1_findWays 41 = .ok (.iload_n 1, 1) := by decide +kernel
theorem dX1_findWays_42 : decode cX1_findWays 42 = .ok (.iload_n 2, 1) := by decide +kernel
theorem dX1_findWays_43 : decode cX1_findWays 43 = .ok (.invokestatic 70, 3) := by decide +kernel
theorem dX1_findWays_46 : decode cX1_findWays 46 = .ok (.iload_n 1, 1) := by decide +kernel
theorem dX1_findWays_47 : decode cX1_findWays 47 = .ok (.iload_n 2, 1) := by decide +kernel
theorem dX1_findWays_48 : decode cX1_findWays 48 = .ok (.if_icmp .ne 7, 3) := by decide +kernel
theorem dX1_findWays_51 : decode cX1_findWays 51 = .ok (.iconst 0, 1) := by decide +kernel
theorem dX1_findWays_52 : decode cX1_findWays 52 = .ok (.goto 13, 3) := by decide +kernel
theorem dX1_findWays_55 : decode cX1_findWays 55 = .ok (.iload_n 3, 1) := by decide +kernel
theorem dX1_findWays_56 : decode cX1_findWays 56 = .ok (.ifCond .le 7, 3) := by decide +kernel
theorem dX1_findWays_59 : decode cX1_findWays 59 = .ok (.iload_n 3, 1) := by decide +kernel
theorem dX1_findWays_60 : decode cX1_findWays 60 = .ok (.goto 5, 3) := by decide +kernel
theorem dX1_findWays_63 : decode cX1_findWays 63 = .ok (.ldc 79, 2) := by decide +kernel
theorem dX1_findWays_65 : decode cX1_findWays 65 = .ok (.iastore, 1) := by decide +kernel
theorem dX1_findWays_66 : decode cX1_findWays 66 = .ok (.iinc 2 1, 3) := by decide +kernel
theorem dX1_findWays_69 : decode cX1_findWays 69 = .ok (.goto (-54), 3) := by decide +kernel
theorem dX1_findWays_72 : decode cX1_findWays 72 = .ok (.iinc 1 1, 3) := by decide +kernel
theorem dX1_findWays_75 : decode cX1_findWays 75 = .ok (.goto (-73), 3) := by decide +kernel
theorem dX1_findWays_78 : decode cX1_findWays 78 = .ok (.iconst 0, 1) := by decide +kernel
theorem dX1_findWays_79 : decode cX1_findWays 79 = .ok (.istore_n 1, 1) := by decide +kernel
theorem dX1_findWays_80 : decode cX1_findWays 80 = .ok (.iload_n 1, 1) := by decide +kernel
theorem dX1_findWays_81 : decode cX1_findWays 81 = .ok (.aload_n 0, 1) := by decide +kernel
theorem dX1_findWays_82 : decode cX1_findWays 82 = .ok (.getfield 12, 3) := by decide +kernel
theorem dX1_findWays_85 : decode cX1_findWays 85 = .ok (.getfield 51, 3) := by decide +kernel
theorem dX1_findWays_88 : decode cX1_findWays 88 = .ok (.if_icmp .ge 95, 3) := by decide +kernel
theorem dX1_findWays_91 : decode cX1_findWays 91 = .ok (.iconst 0, 1) := by decide +kernel
theorem dX1_findWays_92 : decode cX1_findWays 92 = .ok (.istore_n 2, 1) := by decide +kernel
theorem dX1_findWays_93 : decode cX1_findWays 93 = .ok (.iload_n 2, 1) := by decide +kernel
theorem dX1_findWays_94 : decode cX1_findWays 94 = .ok (.aload_n 0, 1) := by decide +kernel
theorem dX1_findWays_95 : decode cX1_findWays 95 = .ok (.getfield 12, 3) := by decide +kernel
theorem dX1_findWays_98 : decode cX1_findWays 98 = .ok (.getfield 51, 3) := by decide +kernel
theorem dX1_findWays_101 : decode cX1_findWays 101 = .ok (.if_icmp .ge 76, 3) := by decide +kernel
theorem dX1_findWays_104 : decode cX1_findWays 104 = .ok (.iconst 0, 1) := by decide +kernel
theorem dX1_findWays_105 : decode cX1_findWays 105 = .ok (.istore_n 3, 1) := by decide +kernel
theorem dX1_findWays_106 : decode cX1_findWays 106 = .ok (.iload_n 3, 1) := by decide +kernel
theorem dX1_findWays_107 : decode cX1_findWays 107 = .ok (.aload_n 0, 1) := by decide +kernel
theorem dX1_findWays_108 : decode cX1_findWays 108 = .ok (.getfield 12, 3) := by decide +kernel
theorem dX1_findWays_111 : decode cX1_findWays 111 = .ok (.getfield 51, 3) := by decide +kernel
theorem dX1_findWays_114 : decode cX1_findWays 114 = .ok (.if_icmp .ge 57, 3) := by decide +kernel
theorem dX1_findWays_117 : decode cX1_findWays 117 = .ok (.aload_n 0, 1) := by decide +kernel
theorem dX1_findWays_118 : decode cX1_findWays 118 = .ok (.getfield 31, 3) := by decide +kernel
theorem dX1_findWays_121 : decode cX1_findWays 121 = .ok (.iload_n 2, 1) := by decide +kernel
theorem dX1_findWays_122 : decode cX1_findWays 122 = .ok (.iload_n 1, 1) := by decide +kernel
theorem dX1_findWays_123 : decode cX1_findWays 123 = .ok (.invokestatic 70, 3) := by decide +kernel
theorem dX1_findWays_126 : decode cX1_findWays 126 = .ok (.iaload, 1) := by decide +kernel
theorem dX1_findWays_127 : decode cX1_findWays 127 = .ok (.aload_n 0, 1) := by decide +kernel
theorem dX1_findWays_128 : decode cX1_findWays 128 = .ok (.getfield 31, 3) := by decide +kernel
theorem dX1_findWays_131 : decode cX1_findWays 131 = .ok (.iload_n 1, 1) := by decide +kernel
theorem dX1_findWays_132 : decode cX1_findWays 132 = .ok (.iload_n 3, 1) := by decide +kernel
theorem dX1_findWays_133 : decode cX1_findWays 133 = .ok (.invokestatic 70, 3) := by decide +kernel
theorem dX1_findWays_136 : decode cX1_findWays 136 = .ok (.iaload, 1) := by decide +kernel
theorem dX1_findWays_137 : decode cX1_findWays 137 = .ok (.iadd, 1) := by decide +kernel
theorem dX1_findWays_138 : decode cX1_findWays 138 = .ok (.istore 4, 2) := by decide +kernel
theorem dX1_findWays_140 : decode cX1_findWays 140 = .ok (.aload_n 0, 1) := by decide +kernel
theorem dX1_findWays_141 : decode cX1_findWays 141 = .ok (.getfield 31, 3) := by decide +kernel
theorem dX1_findWays_144 : decode cX1_findWays 144 = .ok (.iload_n 2, 1) := by decide +kernel
theorem dX1_findWays_145 : decode cX1_findWays 145 = .ok (.iload_n 3, 1) := by decide +kernel
theorem dX1_findWays_146 : decode cX1_findWays 146 = .ok (.invokestatic 70, 3) := by decide +kernel
theorem dX1_findWays_149 : decode cX1_findWays 149 = .ok (.aload_n 0, 1) := by decide +kernel
theorem dX1_findWays_150 : decode cX1_findWays 150 = .ok (.getfield 31, 3) := by decide +kernel
theorem dX1_findWays_153 : decode cX1_findWays 153 = .ok (.iload_n 2, 1) := by decide +kernel
theorem dX1_findWays_154 : decode cX1_findWays 154 = .ok (.iload_n 3, 1) := by decide +kernel
theorem dX1_findWays_155 : decode cX1_findWays 155 = .ok (.invokestatic 70, 3) := by decide +kernel
theorem dX1_findWays_158 : decode cX1_findWays 158 = .ok (.iaload, 1) := by decide +kernel
theorem dX1_findWays_159 : decode cX1_findWays 159 = .ok (.iload 4, 2) := by decide +kernel
theorem dX1_findWays_161 : decode cX1_findWays 161 = .ok (.invokestatic 74, 3) := by decide +kernel
theorem dX1_findWays_164 : decode cX1_findWays 164 = .ok (.iastore, 1) := by decide +kernel
theorem dX1_findWays_165 : decode cX1_findWays 165 = .ok (.iinc 3 1, 3) := by decide +kernel
theorem dX1_findWays_168 : decode cX1_findWays 168 = .ok (.goto (-62), 3) := by decide +kernel
theorem dX1_findWays_171 : decode cX1_findWays 171 = .ok (.iinc 2 1, 3) := by decide +kernel
theorem dX1_findWays_174 : decode cX1_findWays 174 = .ok (.goto (-81), 3) := by decide +kernel
theorem dX1_findWays_177 : decode cX1_findWays 177 = .ok (.iinc 1 1, 3) := by decide +kernel
theorem dX1_findWays_180 : decode cX1_findWays 180 = .ok (.goto (-100), 3) := by decide +kernel
theorem dX1_findWays_183 : decode cX1_findWays 183 = .ok (.return_, 1) := by decide +kernel
theorem dX1_leads_0 : decode cX1_leads 0 = .ok (.aload_n 0, 1) := by decide +kernel
theorem dX1_leads_1 : decode cX1_leads 1 = .ok (.getfield 31, 3) := by decide +kernel
theorem dX1_leads_4 : decode cX1_leads 4 = .ok (.iload_n 1, 1) := by decide +kernel
theorem dX1_leads_5 : decode cX1_leads 5 = .ok (.iload_n 2, 1) := by decide +kernel
theorem dX1_leads_6 : decode cX1_leads 6 = .ok (.invokestatic 70, 3) := by decide +kernel
theorem dX1_leads_9 : decode cX1_leads 9 = .ok (.iaload, 1) := by decide +kernel
theorem dX1_leads_10 : decode cX1_leads 10 = .ok (.ldc 79, 2) := by decide +kernel
theorem dX1_leads_12 : decode cX1_leads 12 = .ok (.if_icmp .ge 7, 3) := by decide +kernel
theorem dX1_leads_15 : decode cX1_leads 15 = .ok (.iconst 1, 1) := by decide +kernel
theorem dX1_leads_16 : decode cX1_leads 16 = .ok (.goto 4, 3) := by decide +kernel
theorem dX1_leads_19 : decode cX1_leads 19 = .ok (.iconst 0, 1) := by decide +kernel
theorem dX1_leads_20 : decode cX1_leads 20 = .ok (.ireturn, 1) := by decide +kernel
theorem dX1_findTowards_0 : decode cX1_findTowards 0 = .ok (.iconst 0, 1) := by decide +kernel
theorem dX1_findTowards_1 : decode cX1_findTowards 1 = .ok (.istore_n 1, 1) := by decide +kernel
theorem dX1_findTowards_2 : decode cX1_findTowards 2 = .ok (.iload_n 1, 1) := by decide +kernel
theorem dX1_findTowards_3 : decode cX1_findTowards 3 = .ok (.aload_n 0, 1) := by decide +kernel
theorem dX1_findTowards_4 : decode cX1_findTowards 4 = .ok (.getfield 12, 3) := by decide +kernel
theorem dX1_findTowards_7 : decode cX1_findTowards 7 = .ok (.getfield 51, 3) := by decide +kernel
theorem dX1_findTowards_10 : decode cX1_findTowards 10 = .ok (.if_icmp .ge 44, 3) := by decide +kernel
theorem dX1_findTowards_13 : decode cX1_findTowards 13 = .ok (.iconst 0, 1) := by decide +kernel
theorem dX1_findTowards_14 : decode cX1_findTowards 14 = .ok (.istore_n 2, 1) := by decide +kernel
theorem dX1_findTowards_15 : decode cX1_findTowards 15 = .ok (.iload_n 2, 1) := by decide +kernel
theorem dX1_findTowards_16 : decode cX1_findTowards 16 = .ok (.aload_n 0, 1) := by decide +kernel
theorem dX1_findTowards_17 : decode cX1_findTowards 17 = .ok (.getfield 12, 3) := by decide +kernel
theorem dX1_findTowards_20 : decode cX1_findTowards 20 = .ok (.getfield 51, 3) := by decide +kernel
theorem dX1_findTowards_23 : decode cX1_findTowards 23 = .ok (.if_icmp .ge 25, 3) := by decide +kernel
theorem dX1_findTowards_26 : decode cX1_findTowards 26 = .ok (.aload_n 0, 1) := by decide +kernel
theorem dX1_findTowards_27 : decode cX1_findTowards 27 = .ok (.getfield 34, 3) := by decide +kernel
theorem dX1_findTowards_30 : decode cX1_findTowards 30 = .ok (.iload_n 1, 1) := by decide +kernel
theorem dX1_findTowards_31 : decode cX1_findTowards 31 = .ok (.iload_n 2, 1) := by decide +kernel
theorem dX1_findTowards_32 : decode cX1_findTowards 32 = .ok (.invokestatic 70, 3) := by decide +kernel
theorem dX1_findTowards_35 : decode cX1_findTowards 35 = .ok (.aload_n 0, 1) := by decide +kernel
theorem dX1_findTowards_36 : decode cX1_findTowards 36 = .ok (.iload_n 1, 1) := by decide +kernel
theorem dX1_findTowards_37 : decode cX1_findTowards 37 = .ok (.iload_n 2, 1) := by decide +kernel
theorem dX1_findTowards_38 : decode cX1_findTowards 38 = .ok (.invokevirtual 80, 3) := by decide +kernel
theorem dX1_findTowards_41 : decode cX1_findTowards 41 = .ok (.iastore, 1) := by decide +kernel
theorem dX1_findTowards_42 : decode cX1_findTowards 42 = .ok (.iinc 2 1, 3) := by decide +kernel
theorem dX1_findTowards_45 : decode cX1_findTowards 45 = .ok (.goto (-30), 3) := by decide +kernel
theorem dX1_findTowards_48 : decode cX1_findTowards 48 = .ok (.iinc 1 1, 3) := by decide +kernel
theorem dX1_findTowards_51 : decode cX1_findTowards 51 = .ok (.goto (-49), 3) := by decide +kernel
theorem dX1_findTowards_54 : decode cX1_findTowards 54 = .ok (.return_, 1) := by decide +kernel
theorem dX1_firstOfWay_0 : decode cX1_firstOfWay 0 = .ok (.iload_n 1, 1) := by decide +kernel
theorem dX1_firstOfWay_1 : decode cX1_firstOfWay 1 = .ok (.iload_n 2, 1) := by decide +kernel
theorem dX1_firstOfWay_2 : decode cX1_firstOfWay 2 = .ok (.if_icmp .eq 12, 3) := by decide +kernel
theorem dX1_firstOfWay_5 : decode cX1_firstOfWay 5 = .ok (.aload_n 0, 1) := by decide +kernel
theorem dX1_firstOfWay_6 : decode cX1_firstOfWay 6 = .ok (.iload_n 1, 1) := by decide +kernel
theorem dX1_firstOfWay_7 : decode cX1_firstOfWay 7 = .ok (.iload_n 2, 1) := by decide +kernel
theorem dX1_firstOfWay_8 : decode cX1_firstOfWay 8 = .ok (.invokevirtual 83, 3) := by decide +kernel
theorem dX1_firstOfWay_11 : decode cX1_firstOfWay 11 = .ok (.ifCond .ne 6, 3) := by decide +kernel
theorem dX1_firstOfWay_14 : decode cX1_firstOfWay 14 = .ok (.bipush (-5), 2) := by decide +kernel
theorem dX1_firstOfWay_16 : decode cX1_firstOfWay 16 = .ok (.ireturn, 1) := by decide +kernel
theorem dX1_firstOfWay_17 : decode cX1_firstOfWay 17 = .ok (.iconst 0, 1) := by decide +kernel
theorem dX1_firstOfWay_18 : decode cX1_firstOfWay 18 = .ok (.istore_n 3, 1) := by decide +kernel
theorem dX1_firstOfWay_19 : decode cX1_firstOfWay 19 = .ok (.iload_n 3, 1) := by decide +kernel
theorem dX1_firstOfWay_20 : decode cX1_firstOfWay 20 = .ok (.aload_n 0, 1) := by decide +kernel
theorem dX1_firstOfWay_21 : decode cX1_firstOfWay 21 = .ok (.getfield 12, 3) := by decide +kernel
theorem dX1_firstOfWay_24 : decode cX1_firstOfWay 24 = .ok (.getfield 51, 3) := by decide +kernel
theorem dX1_firstOfWay_27 : decode cX1_firstOfWay 27 = .ok (.if_icmp .ge 54, 3) := by decide +kernel
theorem dX1_firstOfWay_30 : decode cX1_firstOfWay 30 = .ok (.aload_n 0, 1) := by decide +kernel
theorem dX1_firstOfWay_31 : decode cX1_firstOfWay 31 = .ok (.getfield 28, 3) := by decide +kernel
theorem dX1_firstOfWay_34 : decode cX1_firstOfWay 34 = .ok (.iload_n 1, 1) := by decide +kernel
theorem dX1_firstOfWay_35 : decode cX1_firstOfWay 35 = .ok (.iload_n 3, 1) := by decide +kernel
theorem dX1_firstOfWay_36 : decode cX1_firstOfWay 36 = .ok (.invokestatic 70, 3) := by decide +kernel
theorem dX1_firstOfWay_39 : decode cX1_firstOfWay 39 = .ok (.iaload, 1) := by decide +kernel
theorem dX1_firstOfWay_40 : decode cX1_firstOfWay 40 = .ok (.istore 4, 2) := by decide +kernel
theorem dX1_firstOfWay_42 : decode cX1_firstOfWay 42 = .ok (.iload 4, 2) := by decide +kernel
theorem dX1_firstOfWay_44 : decode cX1_firstOfWay 44 = .ok (.ifCond .le 31, 3) := by decide +kernel
theorem dX1_firstOfWay_47 : decode cX1_firstOfWay 47 = .ok (.iload 4, 2) := by decide +kernel
theorem dX1_firstOfWay_49 : decode cX1_firstOfWay 49 = .ok (.aload_n 0, 1) := by decide +kernel
theorem dX1_firstOfWay_50 : decode cX1_firstOfWay 50 = .ok (.getfield 31, 3) := by decide +kernel
theorem dX1_firstOfWay_53 : decode cX1_firstOfWay 53 = .ok (.iload_n 3, 1) := by decide +kernel
theorem dX1_firstOfWay_54 : decode cX1_firstOfWay 54 = .ok (.iload_n 2, 1) := by decide +kernel
theorem dX1_firstOfWay_55 : decode cX1_firstOfWay 55 = .ok (.invokestatic 70, 3) := by decide +kernel
theorem dX1_firstOfWay_58 : decode cX1_firstOfWay 58 = .ok (.iaload, 1) := by decide +kernel
theorem dX1_firstOfWay_59 : decode cX1_firstOfWay 59 = .ok (.iadd, 1) := by decide +kernel
theorem dX1_firstOfWay_60 : decode cX1_firstOfWay 60 = .ok (.aload_n 0, 1) := by decide +kernel
theorem dX1_firstOfWay_61 : decode cX1_firstOfWay 61 = .ok (.getfield 31, 3) := by decide +kernel
theorem dX1_firstOfWay_64 : decode cX1_firstOfWay 64 = .ok (.iload_n 1, 1) := by decide +kernel
theorem dX1_firstOfWay_65 : decode cX1_firstOfWay 65 = .ok (.iload_n 2, 1) := by decide +kernel
theorem dX1_firstOfWay_66 : decode cX1_firstOfWay 66 = .ok (.invokestatic 70, 3) := by decide +kernel
theorem dX1_firstOfWay_69 : decode cX1_firstOfWay 69 = .ok (.iaload, 1) := by decide +kernel
theorem dX1_firstOfWay_70 : decode cX1_firstOfWay 70 = .ok (.if_icmp .ne 5, 3) := by decide +kernel
theorem dX1_firstOfWay_73 : decode cX1_firstOfWay 73 = .ok (.iload_n 3, 1) := by decide +kernel
theorem dX1_firstOfWay_74 : decode cX1_firstOfWay 74 = .ok (.ireturn, 1) := by decide +kernel
theorem dX1_firstOfWay_75 : decode cX1_firstOfWay 75 = .ok (.iinc 3 1, 3) := by decide +kernel
theorem dX1_firstOfWay_78 : decode cX1_firstOfWay 78 = .ok (.goto (-59), 3) := by decide +kernel
theorem dX1_firstOfWay_81 : decode cX1_firstOfWay 81 = .ok (.bipush (-5), 2) := by decide +kernel
theorem dX1_firstOfWay_83 : decode cX1_firstOfWay 83 = .ok (.ireturn, 1) := by decide +kernel
theorem dX1_findSteps_0 : decode cX1_findSteps 0 = .ok (.iconst 0, 1) := by decide +kernel
theorem dX1_findSteps_1 : decode cX1_findSteps 1 = .ok (.istore_n 1, 1) := by decide +kernel
theorem dX1_findSteps_2 : decode cX1_findSteps 2 = .ok (.iload_n 1, 1) := by decide +kernel
theorem dX1_findSteps_3 : decode cX1_findSteps 3 = .ok (.aload_n 0, 1) := by decide +kernel
theorem dX1_findSteps_4 : decode cX1_findSteps 4 = .ok (.getfield 12, 3) := by decide +kernel
theorem dX1_findSteps_7 : decode cX1_findSteps 7 = .ok (.getfield 51, 3) := by decide +kernel
theorem dX1_findSteps_10 : decode cX1_findSteps 10 = .ok (.if_icmp .ge 94, 3) := by decide +kernel
theorem dX1_findSteps_13 : decode cX1_findSteps 13 = .ok (.iconst 0, 1) := by decide +kernel
theorem dX1_findSteps_14 : decode cX1_findSteps 14 = .ok (.istore_n 2, 1) := by decide +kernel
theorem dX1_findSteps_15 : decode cX1_findSteps 15 = .ok (.iload_n 2, 1) := by decide +kernel
theorem dX1_findSteps_16 : decode cX1_findSteps 16 = .ok (.aload_n 0, 1) := by decide +kernel
theorem dX1_findSteps_17 : decode cX1_findSteps 17 = .ok (.getfield 12, 3) := by decide +kernel
theorem dX1_findSteps_20 : decode cX1_findSteps 20 = .ok (.getfield 51, 3) := by decide +kernel
theorem dX1_findSteps_23 : decode cX1_findSteps 23 = .ok (.if_icmp .ge 75, 3) := by decide +kernel
theorem dX1_findSteps_26 : decode cX1_findSteps 26 = .ok (.iload_n 1, 1) := by decide +kernel
theorem dX1_findSteps_27 : decode cX1_findSteps 27 = .ok (.iload_n 2, 1) := by decide +kernel
theorem dX1_findSteps_28 : decode cX1_findSteps 28 = .ok (.if_icmp .ne 7, 3) := by decide +kernel
theorem dX1_findSteps_31 : decode cX1_findSteps 31 = .ok (.iconst (-1), 1) := by decide +kernel
theorem dX1_findSteps_32 : decode cX1_findSteps 32 = .ok (.goto 9, 3) := by decide +kernel
theorem dX1_findSteps_35 : decode cX1_findSteps 35 = .ok (.aload_n 0, 1) := by decide +kernel
theorem dX1_findSteps_36 : decode cX1_findSteps 36 = .ok (.iload_n 1, 1) := by decide +kernel
theorem dX1_findSteps_37 : decode cX1_findSteps 37 = .ok (.iload_n 2, 1) := by decide +kernel
theorem dX1_findSteps_38 : decode cX1_findSteps 38 = .ok (.invokevirtual 87, 3) := by decide +kernel
theorem dX1_findSteps_41 : decode cX1_findSteps 41 = .ok (.istore_n 3, 1) := by decide +kernel
theorem dX1_findSteps_42 : decode cX1_findSteps 42 = .ok (.iload_n 1, 1) := by decide +kernel
theorem dX1_findSteps_43 : decode cX1_findSteps 43 = .ok (.aload_n 0, 1) := by decide +kernel
theorem dX1_findSteps_44 : decode cX1_findSteps 44 = .ok (.getfield 47, 3) := by decide +kernel
theorem dX1_findSteps_47 : decode cX1_findSteps 47 = .ok (.if_icmp .ne 16, 3) := by decide +kernel
theorem dX1_findSteps_50 : decode cX1_findSteps 50 = .ok (.iload_n 3, 1) := by decide +kernel
theorem dX1_findSteps_51 : decode cX1_findSteps 51 = .ok (.aload_n 0, 1) := by decide +kernel
theorem dX1_findSteps_52 : decode cX1_findSteps 52 = .ok (.getfield 90, 3) := by decide +kernel
theorem dX1_findSteps_55 : decode cX1_findSteps 55 = .ok (.if_icmp .ne 8, 3) := by decide +kernel
theorem dX1_findSteps_58 : decode cX1_findSteps 58 = .ok (.aload_n 0, 1) := by decide +kernel
theorem dX1_findSteps_59 : decode cX1_findSteps 59 = .ok (.getfield 93, 3) := by decide +kernel
theorem dX1_findSteps_62 : decode cX1_findSteps 62 = .ok (.istore_n 3, 1) := by decide +kernel
theorem dX1_findSteps_63 : decode cX1_findSteps 63 = .ok (.aload_n 0, 1) := by decide +kernel
theorem dX1_findSteps_64 : decode cX1_findSteps 64 = .ok (.getfield 37, 3) := by decide +kernel
theorem dX1_findSteps_67 : decode cX1_findSteps 67 = .ok (.iload_n 1, 1) := by decide +kernel
theorem dX1_findSteps_68 : decode cX1_findSteps 68 = .ok (.iload_n 2, 1) := by decide +kernel
theorem dX1_findSteps_69 : decode cX1_findSteps 69 = .ok (.invokestatic 70, 3) := by decide +kernel
theorem dX1_findSteps_72 : decode cX1_findSteps 72 = .ok (.iload_n 3, 1) := by decide +kernel
theorem dX1_findSteps_73 : decode cX1_findSteps 73 = .ok (.ifCond .ge 8, 3) := by decide +kernel
theorem dX1_findSteps_76 : decode cX1_findSteps 76 = .ok (.bipush (-5), 2) := by decide +kernel
theorem dX1_findSteps_78 : decode cX1_findSteps 78 = .ok (.goto 13, 3) := by decide +kernel
theorem dX1_findSteps_81 : decode cX1_findSteps 81 = .ok (.aload_n 0, 1) := by decide +kernel
theorem dX1_findSteps_82 : decode cX1_findSteps 82 = .ok (.getfield 34, 3) := by decide +kernel
theorem dX1_findSteps_85 : decode cX1_findSteps 85 = .ok (.iload_n 1, 1) := by decide +kernel
theorem dX1_findSteps_86 : decode cX1_findSteps 86 = .ok (.iload_n 3, 1) := by decide +kernel
theorem dX1_findSteps_87 : decode cX1_findSteps 87 = .ok (.invokestatic 70, 3) := by decide +kernel
theorem dX1_findSteps_90 : decode cX1_findSteps 90 = .ok (.iaload, 1) := by decide +kernel
theorem dX1_findSteps_91 : decode cX1_findSteps 91 = .ok (.iastore, 1) := by decide +kernel
theorem dX1_findSteps_92 : decode cX1_findSteps 92 = .ok (.iinc 2 1, 3) := by decide +kernel
theorem dX1_findSteps_95 : decode cX1_findSteps 95 = .ok (.goto (-80), 3) := by decide +kernel
theorem dX1_findSteps_98 : decode cX1_findSteps 98 = .ok (.iinc 1 1, 3) := by decide +kernel
theorem dX1_findSteps_101 : decode cX1_findSteps 101 = .ok (.goto (-99), 3) := by decide +kernel
theorem dX1_findSteps_104 : decode cX1_findSteps 104 = .ok (.return_, 1) := by decide +kernel
theorem dX1_aimAt_0 : decode cX1_aimAt 0 = .ok (.aload_n 0, 1) := by decide +kernel
theorem dX1_aimAt_1 : decode cX1_aimAt 1 = .ok (.getfield 12, 3) := by decide +kernel
theorem dX1_aimAt_4 : decode cX1_aimAt 4 = .ok (.iload_n 1, 1) := by decide +kernel
theorem dX1_aimAt_5 : decode cX1_aimAt 5 = .ok (.iload_n 2, 1) := by decide +kernel
theorem dX1_aimAt_6 : decode cX1_aimAt 6 = .ok (.invokevirtual 96, 3) := by decide +kernel
theorem dX1_aimAt_9 : decode cX1_aimAt 9 = .ok (.ifCond .ne 16, 3) := by decide +kernel
theorem dX1_aimAt_12 : decode cX1_aimAt 12 = .ok (.aload_n 0, 1) := by decide +kernel
theorem dX1_aimAt_13 : decode cX1_aimAt 13 = .ok (.getfield 28, 3) := by decide +kernel
theorem dX1_aimAt_16 : decode cX1_aimAt 16 = .ok (.iload_n 1, 1) := by decide +kernel
theorem dX1_aimAt_17 : decode cX1_aimAt 17 = .ok (.iload_n 2, 1) := by decide +kernel
theorem dX1_aimAt_18 : decode cX1_aimAt 18 = .ok (.invokestatic 70, 3) := by decide +kernel
theorem dX1_aimAt_21 : decode cX1_aimAt 21 = .ok (.iaload, 1) := by decide +kernel
theorem dX1_aimAt_22 : decode cX1_aimAt 22 = .ok (.ifCond .le 5, 3) := by decide +kernel
theorem dX1_aimAt_25 : decode cX1_aimAt 25 = .ok (.iload_n 2, 1) := by decide +kernel
theorem dX1_aimAt_26 : decode cX1_aimAt 26 = .ok (.ireturn, 1) := by decide +kernel
theorem dX1_aimAt_27 : decode cX1_aimAt 27 = .ok (.aload_n 0, 1) := by decide +kernel
theorem dX1_aimAt_28 : decode cX1_aimAt 28 = .ok (.getfield 12, 3) := by decide +kernel
theorem dX1_aimAt_31 : decode cX1_aimAt 31 = .ok (.getfield 99, 3) := by decide +kernel
theorem dX1_aimAt_34 : decode cX1_aimAt 34 = .ok (.iload_n 1, 1) := by decide +kernel
theorem dX1_aimAt_35 : decode cX1_aimAt 35 = .ok (.iaload, 1) := by decide +kernel
theorem dX1_aimAt_36 : decode cX1_aimAt 36 = .ok (.iconst 5, 1) := by decide +kernel
theorem dX1_aimAt_37 : decode cX1_aimAt 37 = .ok (.if_icmp .ne 18, 3) := by decide +kernel
theorem dX1_aimAt_40 : decode cX1_aimAt 40 = .ok (.aload_n 0, 1) := by decide +kernel
theorem dX1_aimAt_41 : decode cX1_aimAt 41 = .ok (.iload_n 1, 1) := by decide +kernel
theorem dX1_aimAt_42 : decode cX1_aimAt 42 = .ok (.invokevirtual 102, 3) := by decide +kernel
theorem dX1_aimAt_45 : decode cX1_aimAt 45 = .ok (.iload_n 1, 1) := by decide +kernel
theorem dX1_aimAt_46 : decode cX1_aimAt 46 = .ok (.if_icmp .eq 9, 3) := by decide +kernel
theorem dX1_aimAt_49 : decode cX1_aimAt 49 = .ok (.aload_n 0, 1) := by decide +kernel
theorem dX1_aimAt_50 : decode cX1_aimAt 50 = .ok (.iload_n 1, 1) := by decide +kernel
theorem dX1_aimAt_51 : decode cX1_aimAt 51 = .ok (.invokevirtual 102, 3) := by decide +kernel
theorem dX1_aimAt_54 : decode cX1_aimAt 54 = .ok (.ireturn, 1) := by decide +kernel
theorem dX1_aimAt_55 : decode cX1_aimAt 55 = .ok (.aload_n 0, 1) := by decide +kernel
theorem dX1_aimAt_56 : decode cX1_aimAt 56 = .ok (.getfield 12, 3) := by decide +kernel
theorem dX1_aimAt_59 : decode cX1_aimAt 59 = .ok (.getfield 99, 3) := by decide +kernel
theorem dX1_aimAt_62 : decode cX1_aimAt 62 = .ok (.iload_n 1, 1) := by decide +kernel
theorem dX1_aimAt_63 : decode cX1_aimAt 63 = .ok (.iaload, 1) := by decide +kernel
theorem dX1_aimAt_64 : decode cX1_aimAt 64 = .ok (.tableswitch 72 0 5 #[40, 46, 52, 58, 64, 66], 40) := by decide +kernel
theorem dX1_aimAt_104 : decode cX1_aimAt 104 = .ok (.aload_n 0, 1) := by decide +kernel
theorem dX1_aimAt_105 : decode cX1_aimAt 105 = .ok (.iload_n 1, 1) := by decide +kernel
theorem dX1_aimAt_106 : decode cX1_aimAt 106 = .ok (.invokevirtual 106, 3) := by decide +kernel
theorem dX1_aimAt_109 : decode cX1_aimAt 109 = .ok (.ireturn, 1) := by decide +kernel
theorem dX1_aimAt_110 : decode cX1_aimAt 110 = .ok (.aload_n 0, 1) := by decide +kernel
theorem dX1_aimAt_111 : decode cX1_aimAt 111 = .ok (.iload_n 1, 1) := by decide +kernel
theorem dX1_aimAt_112 : decode cX1_aimAt 112 = .ok (.invokevirtual 109, 3) := by decide +kernel
theorem dX1_aimAt_115 : decode cX1_aimAt 115 = .ok (.ireturn, 1) := by decide +kernel
theorem dX1_aimAt_116 : decode cX1_aimAt 116 = .ok (.aload_n 0, 1) := by decide +kernel
theorem dX1_aimAt_117 : decode cX1_aimAt 117 = .ok (.iload_n 1, 1) := by decide +kernel
theorem dX1_aimAt_118 : decode cX1_aimAt 118 = .ok (.invokevirtual 112, 3) := by decide +kernel
theorem dX1_aimAt_121 : decode cX1_aimAt 121 = .ok (.ireturn, 1) := by decide +kernel
theorem dX1_aimAt_122 : decode cX1_aimAt 122 = .ok (.aload_n 0, 1) := by decide +kernel
theorem dX1_aimAt_123 : decode cX1_aimAt 123 = .ok (.iload_n 1, 1) := by decide +kernel
theorem dX1_aimAt_124 : decode cX1_aimAt 124 = .ok (.invokevirtual 115, 3) := by decide +kernel
theorem dX1_aimAt_127 : decode cX1_aimAt 127 = .ok (.ireturn, 1) := by decide +kernel
theorem dX1_aimAt_128 : decode cX1_aimAt 128 = .ok (.iload_n 2, 1) := by decide +kernel
theorem dX1_aimAt_129 : decode cX1_aimAt 129 = .ok (.ireturn, 1) := by decide +kernel
theorem dX1_aimAt_130 : decode cX1_aimAt 130 = .ok (.aload_n 0, 1) := by decide +kernel
theorem dX1_aimAt_131 : decode cX1_aimAt 131 = .ok (.iload_n 1, 1) := by decide +kernel
theorem dX1_aimAt_132 : decode cX1_aimAt 132 = .ok (.invokevirtual 112, 3) := by decide +kernel
theorem dX1_aimAt_135 : decode cX1_aimAt 135 = .ok (.ireturn, 1) := by decide +kernel
theorem dX1_aimAt_136 : decode cX1_aimAt 136 = .ok (.aload_n 0, 1) := by decide +kernel
theorem dX1_aimAt_137 : decode cX1_aimAt 137 = .ok (.getfield 12, 3) := by decide +kernel
theorem dX1_aimAt_140 : decode cX1_aimAt 140 = .ok (.getfield 118, 3) := by decide +kernel
theorem dX1_aimAt_143 : decode cX1_aimAt 143 = .ok (.iload_n 1, 1) := by decide +kernel
theorem dX1_aimAt_144 : decode cX1_aimAt 144 = .ok (.iaload, 1) := by decide +kernel
theorem dX1_aimAt_145 : decode cX1_aimAt 145 = .ok (.iconst 4, 1) := by decide +kernel
theorem dX1_aimAt_146 : decode cX1_aimAt 146 = .ok (.if_icmp .le 11, 3) := by decide +kernel
theorem dX1_aimAt_149 : decode cX1_aimAt 149 = .ok (.aload_n 0, 1) := by decide +kernel
theorem dX1_aimAt_150 : decode cX1_aimAt 150 = .ok (.iload_n 1, 1) := by decide +kernel
theorem dX1_aimAt_151 : decode cX1_aimAt 151 = .ok (.invokevirtual 115, 3) := by decide +kernel
theorem dX1_aimAt_154 : decode cX1_aimAt 154 = .ok (.goto 4, 3) := by decide +kernel
theorem dX1_aimAt_157 : decode cX1_aimAt 157 = .ok (.iconst (-1), 1) := by decide +kernel
theorem dX1_aimAt_158 : decode cX1_aimAt 158 = .ok (.ireturn, 1) := by decide +kernel
theorem dX1_capitalOf_0 : decode cX1_capitalOf 0 = .ok (.aload_n 0, 1) := by decide +kernel
theorem dX1_capitalOf_1 : decode cX1_capitalOf 1 = .ok (.getfield 12, 3) := by decide +kernel
theorem dX1_capitalOf_4 : decode cX1_capitalOf 4 = .ok (.getfield 51, 3) := by decide +kernel
theorem dX1_capitalOf_7 : decode cX1_capitalOf 7 = .ok (.ifCond .le 23, 3) := by decide +kernel
theorem dX1_capitalOf_10 : decode cX1_capitalOf 10 = .ok (.aload_n 0, 1) := by decide +kernel
theorem dX1_capitalOf_11 : decode cX1_capitalOf 11 = .ok (.getfield 12, 3) := by decide +kernel
theorem dX1_capitalOf_14 : decode cX1_capitalOf 14 = .ok (.getfield 118, 3) := by decide +kernel
theorem dX1_capitalOf_17 : decode cX1_capitalOf 17 = .ok (.iload_n 1, 1) := by decide +kernel
theorem dX1_capitalOf_18 : decode cX1_capitalOf 18 = .ok (.iaload, 1) := by decide +kernel
theorem dX1_capitalOf_19 : decode cX1_capitalOf 19 = .ok (.aload_n 0, 1) := by decide +kernel
theorem dX1_capitalOf_20 : decode cX1_capitalOf 20 = .ok (.getfield 12, 3) := by decide +kernel
theorem dX1_capitalOf_23 : decode cX1_capitalOf 23 = .ok (.getfield 51, 3) := by decide +kernel
theorem dX1_capitalOf_26 : decode cX1_capitalOf 26 = .ok (.irem, 1) := by decide +kernel
theorem dX1_capitalOf_27 : decode cX1_capitalOf 27 = .ok (.goto 4, 3) := by decide +kernel
theorem dX1_capitalOf_30 : decode cX1_capitalOf 30 = .ok (.iload_n 1, 1) := by decide +kernel
theorem dX1_capitalOf_31 : decode cX1_capitalOf 31 = .ok (.ireturn, 1) := by decide +kernel
theorem dX1_leastNamed_0 : decode cX1_leastNamed 0 = .ok (.iconst 0, 1) := by decide +kernel
theorem dX1_leastNamed_1 : decode cX1_leastNamed 1 = .ok (.istore_n 2, 1) := by decide +kernel
theorem dX1_leastNamed_2 : decode cX1_leastNamed 2 = .ok (.iload_n 2, 1) := by decide +kernel
theorem dX1_leastNamed_3 : decode cX1_leastNamed 3 = .ok (.aload_n 0, 1) := by decide +kernel
theorem dX1_leastNamed_4 : decode cX1_leastNamed 4 = .ok (.getfield 12, 3) := by decide +kernel
theorem dX1_leastNamed_7 : decode cX1_leastNamed 7 = .ok (.getfield 51, 3) := by decide +kernel
theorem dX1_leastNamed_10 : decode cX1_leastNamed 10 = .ok (.if_icmp .ge 23, 3) := by decide +kernel
theorem dX1_leastNamed_13 : decode cX1_leastNamed 13 = .ok (.aload_n 0, 1) := by decide +kernel
theorem dX1_leastNamed_14 : decode cX1_leastNamed 14 = .ok (.getfield 12, 3) := by decide +kernel
theorem dX1_leastNamed_17 : decode cX1_leastNamed 17 = .ok (.iload_n 1, 1) := by decide +kernel
theorem dX1_leastNamed_18 : decode cX1_leastNamed 18 = .ok (.iload_n 2, 1) := by decide +kernel
theorem dX1_leastNamed_19 : decode cX1_leastNamed 19 = .ok (.invokevirtual 96, 3) := by decide +kernel
theorem dX1_leastNamed_22 : decode cX1_leastNamed 22 = .ok (.ifCond .eq 5, 3) := by decide +kernel
theorem dX1_leastNamed_25 : decode cX1_leastNamed 25 = .ok (.iload_n 2, 1) := by decide +kernel
theorem dX1_leastNamed_26 : decode cX1_leastNamed 26 = .ok (.ireturn, 1) := by decide +kernel
theorem dX1_leastNamed_27 : decode cX1_leastNamed 27 = .ok (.iinc 2 1, 3) := by decide +kernel
theorem dX1_leastNamed_30 : decode cX1_leastNamed 30 = .ok (.goto (-28), 3) := by decide +kernel
theorem dX1_leastNamed_33 : decode cX1_leastNamed 33 = .ok (.iconst (-1), 1) := by decide +kernel
theorem dX1_leastNamed_34 : decode cX1_leastNamed 34 = .ok (.ireturn, 1) := by decide +kernel
theorem dX1_lastNamed_0 : decode cX1_lastNamed 0 = .ok (.aload_n 0, 1) := by decide +kernel
theorem dX1_lastNamed_1 : decode cX1_lastNamed 1 = .ok (.getfield 12, 3) := by decide +kernel
theorem dX1_lastNamed_4 : decode cX1_lastNamed 4 = .ok (.getfield 51, 3) := by decide +kernel
theorem dX1_lastNamed_7 : decode cX1_lastNamed 7 = .ok (.iconst 1, 1) := by decide +kernel
theorem dX1_lastNamed_8 : decode cX1_lastNamed 8 = .ok (.isub, 1) := by decide +kernel
theorem dX1_lastNamed_9 : decode cX1_lastNamed 9 = .ok (.istore_n 2, 1) := by decide +kernel
theorem dX1_lastNamed_10 : decode cX1_lastNamed 10 = .ok (.iload_n 2, 1) := by decide +kernel
theorem dX1_lastNamed_11 : decode cX1_lastNamed 11 = .ok (.ifCond .lt 23, 3) := by decide +kernel
theorem dX1_lastNamed_14 : decode cX1_lastNamed 14 = .ok (.aload_n 0, 1) := by decide +kernel
theorem dX1_lastNamed_15 : decode cX1_lastNamed 15 = .ok (.getfield 12, 3) := by decide +kernel
theorem dX1_lastNamed_18 : decode cX1_lastNamed 18 = .ok (.iload_n 1, 1) := by decide +kernel
theorem dX1_lastNamed_19 : decode cX1_lastNamed 19 = .ok (.iload_n 2, 1) := by decide +kernel
theorem dX1_lastNamed_20 : decode cX1_lastNamed 20 = .ok (.invokevirtual 96, 3) := by decide +kernel
theorem dX1_lastNamed_23 : decode cX1_lastNamed 23 = .ok (.ifCond .eq 5, 3) := by decide +kernel
theorem dX1_lastNamed_26 : decode cX1_lastNamed 26 = .ok (.iload_n 2, 1) := by decide +kernel
theorem dX1_lastNamed_27 : decode cX1_lastNamed 27 = .ok (.ireturn, 1) := by decide +kernel
theorem dX1_lastNamed_28 : decode cX1_lastNamed 28 = .ok (.iinc 2 (-1), 3) := by decide +kernel
theorem dX1_lastNamed_31 : decode cX1_lastNamed 31 = .ok (.goto (-21), 3) := by decide +kernel
theorem dX1_lastNamed_34 : decode cX1_lastNamed 34 = .ok (.iconst (-1), 1) := by decide +kernel
theorem dX1_lastNamed_35 : decode cX1_lastNamed 35 = .ok (.ireturn, 1) := by decide +kernel
theorem dX1_nearestNamed_0 : decode cX1_nearestNamed 0 = .ok (.iconst (-1), 1) := by decide +kernel
theorem dX1_nearestNamed_1 : decode cX1_nearestNamed 1 = .ok (.istore_n 2, 1) := by decide +kernel
theorem dX1_nearestNamed_2 : decode cX1_nearestNamed 2 = .ok (.ldc 79, 2) := by decide +kernel
theorem dX1_nearestNamed_4 : decode cX1_nearestNamed 4 = .ok (.istore_n 3, 1) := by decide +kernel
theorem dX1_nearestNamed_5 : decode cX1_nearestNamed 5 = .ok (.iconst 0, 1) := by decide +kernel
theorem dX1_nearestNamed_6 : decode cX1_nearestNamed 6 = .ok (.istore 4, 2) := by decide +kernel
theorem dX1_nearestNamed_8 : decode cX1_nearestNamed 8 = .ok (.iload 4, 2) := by decide +kernel
theorem dX1_nearestNamed_10 : decode cX1_nearestNamed 10 = .ok (.aload_n 0, 1) := by decide +kernel
theorem dX1_nearestNamed_11 : decode cX1_nearestNamed 11 = .ok (.getfield 12, 3) := by decide +kernel
theorem dX1_nearestNamed_14 : decode cX1_nearestNamed 14 = .ok (.getfield 51, 3) := by decide +kernel
theorem dX1_nearestNamed_17 : decode cX1_nearestNamed 17 = .ok (.if_icmp .ge 52, 3) := by decide +kernel
theorem dX1_nearestNamed_20 : decode cX1_nearestNamed 20 = .ok (.aload_n 0, 1) := by decide +kernel
theorem dX1_nearestNamed_21 : decode cX1_nearestNamed 21 = .ok (.getfield 12, 3) := by decide +kernel
theorem dX1_nearestNamed_24 : decode cX1_nearestNamed 24 = .ok (.iload_n 1, 1) := by decide +kernel
theorem dX1_nearestNamed_25 : decode cX1_nearestNamed 25 = .ok (.iload 4, 2) := by decide +kernel
theorem dX1_nearestNamed_27 : decode cX1_nearestNamed 27 = .ok (.invokevirtual 96, 3) := by decide +kernel
theorem dX1_nearestNamed_30 : decode cX1_nearestNamed 30 = .ok (.ifCond .eq 33, 3) := by decide +kernel
theorem dX1_nearestNamed_33 : decode cX1_nearestNamed 33 = .ok (.aload_n 0, 1) := by decide +kernel
theorem dX1_nearestNamed_34 : decode cX1_nearestNamed 34 = .ok (.getfield 31, 3) := by decide +kernel
theorem dX1_nearestNamed_37 : decode cX1_nearestNamed 37 = .ok (.iload_n 1, 1) := by decide +kernel
theorem dX1_nearestNamed_38 : decode cX1_nearestNamed 38 = .ok (.iload 4, 2) := by decide +kernel
theorem dX1_nearestNamed_40 : decode cX1_nearestNamed 40 = .ok (.invokestatic 70, 3) := by decide +kernel
theorem dX1_nearestNamed_43 : decode cX1_nearestNamed 43 = .ok (.iaload, 1) := by decide +kernel
theorem dX1_nearestNamed_44 : decode cX1_nearestNamed 44 = .ok (.iload_n 3, 1) := by decide +kernel
theorem dX1_nearestNamed_45 : decode cX1_nearestNamed 45 = .ok (.if_icmp .ge 18, 3) := by decide +kernel
theorem dX1_nearestNamed_48 : decode cX1_nearestNamed 48 = .ok (.iload 4, 2) := by decide +kernel
theorem dX1_nearestNamed_50 : decode cX1_nearestNamed 50 = .ok (.istore_n 2, 1) := by decide +kernel
theorem dX1_nearestNamed_51 : decode cX1_nearestNamed 51 = .ok (.aload_n 0, 1) := by decide +kernel
theorem dX1_nearestNamed_52 : decode cX1_nearestNamed 52 = .ok (.getfield 31, 3) := by decide +kernel
theorem dX1_nearestNamed_55 : decode cX1_nearestNamed 55 = .ok (.iload_n 1, 1) := by decide +kernel
theorem dX1_nearestNamed_56 : decode cX1_nearestNamed 56 = .ok (.iload 4, 2) := by decide +kernel
theorem dX1_nearestNamed_58 : decode cX1_nearestNamed 58 = .ok (.invokestatic 70, 3) := by decide +kernel
theorem dX1_nearestNamed_61 : decode cX1_nearestNamed 61 = .ok (.iaload, 1) := by decide +kernel
theorem dX1_nearestNamed_62 : decode cX1_nearestNamed 62 = .ok (.istore_n 3, 1) := by decide +kernel
theorem dX1_nearestNamed_63 : decode cX1_nearestNamed 63 = .ok (.iinc 4 1, 3) := by decide +kernel
theorem dX1_nearestNamed_66 : decode cX1_nearestNamed 66 = .ok (.goto (-58), 3) := by decide +kernel
theorem dX1_nearestNamed_69 : decode cX1_nearestNamed 69 = .ok (.iload_n 2, 1) := by decide +kernel
theorem dX1_nearestNamed_70 : decode cX1_nearestNamed 70 = .ok (.ireturn, 1) := by decide +kernel
theorem dX1_greatestNamed_0 : decode cX1_greatestNamed 0 = .ok (.iconst (-1), 1) := by decide +kernel
theorem dX1_greatestNamed_1 : decode cX1_greatestNamed 1 = .ok (.istore_n 2, 1) := by decide +kernel
theorem dX1_greatestNamed_2 : decode cX1_greatestNamed 2 = .ok (.iconst (-1), 1) := by decide +kernel
theorem dX1_greatestNamed_3 : decode cX1_greatestNamed 3 = .ok (.istore_n 3, 1) := by decide +kernel
theorem dX1_greatestNamed_4 : decode cX1_greatestNamed 4 = .ok (.iconst 0, 1) := by decide +kernel
theorem dX1_greatestNamed_5 : decode cX1_greatestNamed 5 = .ok (.istore 4, 2) := by decide +kernel
theorem dX1_greatestNamed_7 : decode cX1_greatestNamed 7 = .ok (.iload 4, 2) := by decide +kernel
theorem dX1_greatestNamed_9 : decode cX1_greatestNamed 9 = .ok (.aload_n 0, 1) := by decide +kernel
theorem dX1_greatestNamed_10 : decode cX1_greatestNamed 10 = .ok (.getfield 12, 3) := by decide +kernel
theorem dX1_greatestNamed_13 : decode cX1_greatestNamed 13 = .ok (.getfield 51, 3) := by decide +kernel
theorem dX1_greatestNamed_16 : decode cX1_greatestNamed 16 = .ok (.if_icmp .ge 44, 3) := by decide +kernel
theorem dX1_greatestNamed_19 : decode cX1_greatestNamed 19 = .ok (.aload_n 0, 1) := by decide +kernel
theorem dX1_greatestNamed_20 : decode cX1_greatestNamed 20 = .ok (.getfield 12, 3) := by decide +kernel
theorem dX1_greatestNamed_23 : decode cX1_greatestNamed 23 = .ok (.iload_n 1, 1) := by decide +kernel
theorem dX1_greatestNamed_24 : decode cX1_greatestNamed 24 = .ok (.iload 4, 2) := by decide +kernel
theorem dX1_greatestNamed_26 : decode cX1_greatestNamed 26 = .ok (.invokevirtual 96, 3) := by decide +kernel
theorem dX1_greatestNamed_29 : decode cX1_greatestNamed 29 = .ok (.ifCond .eq 25, 3) := by decide +kernel
theorem dX1_greatestNamed_32 : decode cX1_greatestNamed 32 = .ok (.aload_n 0, 1) := by decide +kernel
theorem dX1_greatestNamed_33 : decode cX1_greatestNamed 33 = .ok (.getfield 22, 3) := by decide +kernel
theorem dX1_greatestNamed_36 : decode cX1_greatestNamed 36 = .ok (.iload 4, 2) := by decide +kernel
theorem dX1_greatestNamed_38 : decode cX1_greatestNamed 38 = .ok (.iaload, 1) := by decide +kernel
theorem dX1_greatestNamed_39 : decode cX1_greatestNamed 39 = .ok (.iload_n 3, 1) := by decide +kernel
theorem dX1_greatestNamed_40 : decode cX1_greatestNamed 40 = .ok (.if_icmp .le 14, 3) := by decide +kernel
theorem dX1_greatestNamed_43 : decode cX1_greatestNamed 43 = .ok (.iload 4, 2) := by decide +kernel
theorem dX1_greatestNamed_45 : decode cX1_greatestNamed 45 = .ok (.istore_n 2, 1) := by decide +kernel
theorem dX1_greatestNamed_46 : decode cX1_greatestNamed 46 = .ok (.aload_n 0, 1) := by decide +kernel
theorem dX1_greatestNamed_47 : decode cX1_greatestNamed 47 = .ok (.getfield 22, 3) := by decide +kernel
theorem dX1_greatestNamed_50 : decode cX1_greatestNamed 50 = .ok (.iload 4, 2) := by decide +kernel
theorem dX1_greatestNamed_52 : decode cX1_greatestNamed 52 = .ok (.iaload, 1) := by decide +kernel
theorem dX1_greatestNamed_53 : decode cX1_greatestNamed 53 = .ok (.istore_n 3, 1) := by decide +kernel
theorem dX1_greatestNamed_54 : decode cX1_greatestNamed 54 = .ok (.iinc 4 1, 3) := by decide +kernel
theorem dX1_greatestNamed_57 : decode cX1_greatestNamed 57 = .ok (.goto (-50), 3) := by decide +kernel
theorem dX1_greatestNamed_60 : decode cX1_greatestNamed 60 = .ok (.iload_n 2, 1) := by decide +kernel
theorem dX1_greatestNamed_61 : decode cX1_greatestNamed 61 = .ok (.ireturn, 1) := by decide +kernel
theorem dX1_setFalseArm_0 : decode cX1_setFalseArm 0 = .ok (.aload_n 0, 1) := by decide +kernel
theorem dX1_setFalseArm_1 : decode cX1_setFalseArm 1 = .ok (.iload_n 1, 1) := by decide +kernel
theorem dX1_setFalseArm_2 : decode cX1_setFalseArm 2 = .ok (.putfield 47, 3) := by decide +kernel
theorem dX1_setFalseArm_5 : decode cX1_setFalseArm 5 = .ok (.aload_n 0, 1) := by decide +kernel
theorem dX1_setFalseArm_6 : decode cX1_setFalseArm 6 = .ok (.iload_n 2, 1) := by decide +kernel
theorem dX1_setFalseArm_7 : decode cX1_setFalseArm 7 = .ok (.putfield 90, 3) := by decide +kernel
theorem dX1_setFalseArm_10 : decode cX1_setFalseArm 10 = .ok (.aload_n 0, 1) := by decide +kernel
theorem dX1_setFalseArm_11 : decode cX1_setFalseArm 11 = .ok (.aload_n 0, 1) := by decide +kernel
theorem dX1_setFalseArm_12 : decode cX1_setFalseArm 12 = .ok (.iload_n 2, 1) := by decide +kernel
theorem dX1_setFalseArm_13 : decode cX1_setFalseArm 13 = .ok (.invokevirtual 121, 3) := by decide +kernel
theorem dX1_setFalseArm_16 : decode cX1_setFalseArm 16 = .ok (.putfield 93, 3) := by decide +kernel
theorem dX1_setFalseArm_19 : decode cX1_setFalseArm 19 = .ok (.aload_n 0, 1) := by decide +kernel
theorem dX1_setFalseArm_20 : decode cX1_setFalseArm 20 = .ok (.getfield 93, 3) := by decide +kernel
theorem dX1_setFalseArm_23 : decode cX1_setFalseArm 23 = .ok (.iload_n 1, 1) := by decide +kernel
theorem dX1_setFalseArm_24 : decode cX1_setFalseArm 24 = .ok (.if_icmp .ne 12, 3) := by decide +kernel
theorem dX1_setFalseArm_27 : decode cX1_setFalseArm 27 = .ok (.aload_n 0, 1) := by decide +kernel
theorem dX1_setFalseArm_28 : decode cX1_setFalseArm 28 = .ok (.aload_n 0, 1) := by decide +kernel
theorem dX1_setFalseArm_29 : decode cX1_setFalseArm 29 = .ok (.iload_n 1, 1) := by decide +kernel
theorem dX1_setFalseArm_30 : decode cX1_setFalseArm 30 = .ok (.invokevirtual 121, 3) := by decide +kernel
theorem dX1_setFalseArm_33 : decode cX1_setFalseArm 33 = .ok (.putfield 93, 3) := by decide +kernel
theorem dX1_setFalseArm_36 : decode cX1_setFalseArm 36 = .ok (.return_, 1) := by decide +kernel
theorem dX1_dropFalseArm_0 : decode cX1_dropFalseArm 0 = .ok (.aload_n 0, 1) := by decide +kernel
theorem dX1_dropFalseArm_1 : decode cX1_dropFalseArm 1 = .ok (.iconst (-1), 1) := by decide +kernel
theorem dX1_dropFalseArm_2 : decode cX1_dropFalseArm 2 = .ok (.putfield 47, 3) := by decide +kernel
theorem dX1_dropFalseArm_5 : decode cX1_dropFalseArm 5 = .ok (.return_, 1) := by decide +kernel
theorem dX1_behind_0 : decode cX1_behind 0 = .ok (.iload_n 1, 1) := by decide +kernel
theorem dX1_behind_1 : decode cX1_behind 1 = .ok (.iconst 1, 1) := by decide +kernel
theorem dX1_behind_2 : decode cX1_behind 2 = .ok (.iadd, 1) := by decide +kernel
theorem dX1_behind_3 : decode cX1_behind 3 = .ok (.aload_n 0, 1) := by decide +kernel
theorem dX1_behind_4 : decode cX1_behind 4 = .ok (.getfield 12, 3) := by decide +kernel
theorem dX1_behind_7 : decode cX1_behind 7 = .ok (.getfield 51, 3) := by decide +kernel
theorem dX1_behind_10 : decode cX1_behind 10 = .ok (.if_icmp .ge 9, 3) := by decide +kernel
theorem dX1_behind_13 : decode cX1_behind 13 = .ok (.iload_n 1, 1) := by decide +kernel
theorem dX1_behind_14 : decode cX1_behind 14 = .ok (.iconst 1, 1) := by decide +kernel
theorem dX1_behind_15 : decode cX1_behind 15 = .ok (.iadd, 1) := by decide +kernel
theorem dX1_behind_16 : decode cX1_behind 16 = .ok (.goto 4, 3) := by decide +kernel
theorem dX1_behind_19 : decode cX1_behind 19 = .ok (.iconst 0, 1) := by decide +kernel
theorem dX1_behind_20 : decode cX1_behind 20 = .ok (.ireturn, 1) := by decide +kernel
theorem dX1_walk_0 : decode cX1_walk 0 = .ok (.iload_n 1, 1) := by decide +kernel
theorem dX1_walk_1 : decode cX1_walk 1 = .ok (.istore_n 3, 1) := by decide +kernel
theorem dX1_walk_2 : decode cX1_walk 2 = .ok (.aload_n 0, 1) := by decide +kernel
theorem dX1_walk_3 : decode cX1_walk 3 = .ok (.iconst 0, 1) := by decide +kernel
theorem dX1_walk_4 : decode cX1_walk 4 = .ok (.putfield 124, 3) := by decide +kernel
theorem dX1_walk_7 : decode cX1_walk 7 = .ok (.aload_n 0, 1) := by decide +kernel
theorem dX1_walk_8 : decode cX1_walk 8 = .ok (.iconst 0, 1) := by decide +kernel
theorem dX1_walk_9 : decode cX1_walk 9 = .ok (.putfield 127, 3) := by decide +kernel
theorem dX1_walk_12 : decode cX1_walk 12 = .ok (.iconst 0, 1) := by decide +kernel
theorem dX1_walk_13 : decode cX1_walk 13 = .ok (.istore 4, 2) := by decide +kernel
theorem dX1_walk_15 : decode cX1_walk 15 = .ok (.iload 4, 2) := by decide +kernel
theorem dX1_walk_17 : decode cX1_walk 17 = .ok (.bipush 20, 2) := by decide +kernel
theorem dX1_walk_19 : decode cX1_walk 19 = .ok (.if_icmp .ge 66, 3) := by decide +kernel
theorem dX1_walk_22 : decode cX1_walk 22 = .ok (.iload_n 3, 1) := by decide +kernel
theorem dX1_walk_23 : decode cX1_walk 23 = .ok (.iload_n 2, 1) := by decide +kernel
theorem dX1_walk_24 : decode cX1_walk 24 = .ok (.if_icmp .eq 61, 3) := by decide +kernel
theorem dX1_walk_27 : decode cX1_walk 27 = .ok (.aload_n 0, 1) := by decide +kernel
theorem dX1_walk_28 : decode cX1_walk 28 = .ok (.getfield 37, 3) := by decide +kernel
theorem dX1_walk_31 : decode cX1_walk 31 = .ok (.iload_n 3, 1) := by decide +kernel
theorem dX1_walk_32 : decode cX1_walk 32 = .ok (.iload_n 2, 1) := by decide +kernel
theorem dX1_walk_33 : decode cX1_walk 33 = .ok (.invokestatic 70, 3) := by decide +kernel
theorem dX1_walk_36 : decode cX1_walk 36 = .ok (.iaload, 1) := by decide +kernel
theorem dX1_walk_37 : decode cX1_walk 37 = .ok (.istore 5, 2) := by decide +kernel
theorem dX1_walk_39 : decode cX1_walk 39 = .ok (.iload 5, 2) := by decide +kernel
theorem dX1_walk_41 : decode cX1_walk 41 = .ok (.ifCond .ge 5, 3) := by decide +kernel
theorem dX1_walk_44 : decode cX1_walk 44 = .ok (.iload_n 3, 1) := by decide +kernel
theorem dX1_walk_45 : decode cX1_walk 45 = .ok (.ireturn, 1) := by decide +kernel
theorem dX1_walk_46 : decode cX1_walk 46 = .ok (.aload_n 0, 1) := by decide +kernel
theorem dX1_walk_47 : decode cX1_walk 47 = .ok (.dup, 1) := by decide +kernel
theorem dX1_walk_48 : decode cX1_walk 48 = .ok (.getfield 124, 3) := by decide +kernel
theorem dX1_walk_51 : decode cX1_walk 51 = .ok (.iconst 1, 1) := by decide +kernel
theorem dX1_walk_52 : decode cX1_walk 52 = .ok (.iadd, 1) := by decide +kernel
theorem dX1_walk_53 : decode cX1_walk 53 = .ok (.putfield 124, 3) := by decide +kernel
theorem dX1_walk_56 : decode cX1_walk 56 = .ok (.aload_n 0, 1) := by decide +kernel
theorem dX1_walk_57 : decode cX1_walk 57 = .ok (.dup, 1) := by decide +kernel
theorem dX1_walk_58 : decode cX1_walk 58 = .ok (.getfield 127, 3) := by decide +kernel
theorem dX1_walk_61 : decode cX1_walk 61 = .ok (.aload_n 0, 1) := by decide +kernel
theorem dX1_walk_62 : decode cX1_walk 62 = .ok (.getfield 28, 3) := by decide +kernel
theorem dX1_walk_65 : decode cX1_walk 65 = .ok (.iload_n 3, 1) := by decide +kernel
theorem dX1_walk_66 : decode cX1_walk 66 = .ok (.iload 5, 2) := by decide +kernel
theorem dX1_walk_68 : decode cX1_walk 68 = .ok (.invokestatic 70, 3) := by decide +kernel
theorem dX1_walk_71 : decode cX1_walk 71 = .ok (.iaload, 1) := by decide +kernel
theorem dX1_walk_72 : decode cX1_walk 72 = .ok (.iadd, 1) := by decide +kernel
theorem dX1_walk_73 : decode cX1_walk 73 = .ok (.putfield 127, 3) := by decide +kernel
theorem dX1_walk_76 : decode cX1_walk 76 = .ok (.iload 5, 2) := by decide +kernel
theorem dX1_walk_78 : decode cX1_walk 78 = .ok (.istore_n 3, 1) := by decide +kernel
theorem dX1_walk_79 : decode cX1_walk 79 = .ok (.iinc 4 1, 3) := by decide +kernel
theorem dX1_walk_82 : decode cX1_walk 82 = .ok (.goto (-67), 3) := by decide +kernel
theorem dX1_walk_85 : decode cX1_walk 85 = .ok (.iload_n 3, 1) := by decide +kernel
theorem dX1_walk_86 : decode cX1_walk 86 = .ok (.ireturn, 1) := by decide +kernel
theorem dX1_lostTravellers_0 : decode cX1_lostTravellers 0 = .ok (.iconst 0, 1) := by decide +kernel
theorem dX1_lostTravellers_1 : decode cX1_lostTravellers 1 = .ok (.istore_n 1, 1) := by decide +kernel
theorem dX1_lostTravellers_2 : decode cX1_lostTravellers 2 = .ok (.iconst 0, 1) := by decide +kernel
theorem dX1_lostTravellers_3 : decode cX1_lostTravellers 3 = .ok (.istore_n 2, 1) := by decide +kernel
theorem dX1_lostTravellers_4 : decode cX1_lostTravellers 4 = .ok (.iload_n 2, 1) := by decide +kernel
theorem dX1_lostTravellers_5 : decode cX1_lostTravellers 5 = .ok (.aload_n 0, 1) := by decide +kernel
theorem dX1_lostTravellers_6 : decode cX1_lostTravellers 6 = .ok (.getfield 12, 3) := by decide +kernel
theorem dX1_lostTravellers_9 : decode cX1_lostTravellers 9 = .ok (.getfield 130, 3) := by decide +kernel
theorem dX1_lostTravellers_12 : decode cX1_lostTravellers 12 = .ok (.if_icmp .ge 55, 3) := by decide +kernel
theorem dX1_lostTravellers_15 : decode cX1_lostTravellers 15 = .ok (.aload_n 0, 1) := by decide +kernel
theorem dX1_lostTravellers_16 : decode cX1_lostTravellers 16 = .ok (.aload_n 0, 1) := by decide +kernel
theorem dX1_lostTravellers_17 : decode cX1_lostTravellers 17 = .ok (.getfield 12, 3) := by decide +kernel
theorem dX1_lostTravellers_20 : decode cX1_lostTravellers 20 = .ok (.getfield 133, 3) := by decide +kernel
theorem dX1_lostTravellers_23 : decode cX1_lostTravellers 23 = .ok (.iload_n 2, 1) := by decide +kernel
theorem dX1_lostTravellers_24 : decode cX1_lostTravellers 24 = .ok (.iaload, 1) := by decide +kernel
theorem dX1_lostTravellers_25 : decode cX1_lostTravellers 25 = .ok (.aload_n 0, 1) := by decide +kernel
theorem dX1_lostTravellers_26 : decode cX1_lostTravellers 26 = .ok (.getfield 12, 3) := by decide +kernel
theorem dX1_lostTravellers_29 : decode cX1_lostTravellers 29 = .ok (.getfield 136, 3) := by decide +kernel
theorem dX1_lostTravellers_32 : decode cX1_lostTravellers 32 = .ok (.iload_n 2, 1) := by decide +kernel
theorem dX1_lostTravellers_33 : decode cX1_lostTravellers 33 = .ok (.iaload, 1) := by decide +kernel
theorem dX1_lostTravellers_34 : decode cX1_lostTravellers 34 = .ok (.invokevirtual 139, 3) := by decide +kernel
theorem dX1_lostTravellers_37 : decode cX1_lostTravellers 37 = .ok (.aload_n 0, 1) := by decide +kernel
theorem dX1_lostTravellers_38 : decode cX1_lostTravellers 38 = .ok (.getfield 12, 3) := by decide +kernel
theorem dX1_lostTravellers_41 : decode cX1_lostTravellers 41 = .ok (.getfield 136, 3) := by decide +kernel
theorem dX1_lostTravellers_44 : decode cX1_lostTravellers 44 = .ok (.iload_n 2, 1) := by decide +kernel
theorem dX1_lostTravellers_45 : decode cX1_lostTravellers 45 = .ok (.iaload, 1) := by decide +kernel
theorem dX1_lostTravellers_46 : decode cX1_lostTravellers 46 = .ok (.if_icmp .eq 15, 3) := by decide +kernel
theorem dX1_lostTravellers_49 : decode cX1_lostTravellers 49 = .ok (.iload_n 1, 1) := by decide +kernel
theorem dX1_lostTravellers_50 : decode cX1_lostTravellers 50 = .ok (.aload_n 0, 1) := by decide +kernel
theorem dX1_lostTravellers_51 : decode cX1_lostTravellers 51 = .ok (.getfield 12, 3) := by decide +kernel
theorem dX1_lostTravellers_54 : decode cX1_lostTravellers 54 = .ok (.getfield 142, 3) := by decide +kernel
theorem dX1_lostTravellers_57 : decode cX1_lostTravellers 57 = .ok (.iload_n 2, 1) := by decide +kernel
theorem dX1_lostTravellers_58 : decode cX1_lostTravellers 58 = .ok (.iaload, 1) := by decide +kernel
theorem dX1_lostTravellers_59 : decode cX1_lostTravellers 59 = .ok (.iadd, 1) := by decide +kernel
theorem dX1_lostTravellers_60 : decode cX1_lostTravellers 60 = .ok (.istore_n 1, 1) := by decide +kernel
theorem dX1_lostTravellers_61 : decode cX1_lostTravellers 61 = .ok (.iinc 2 1, 3) := by decide +kernel
theorem dX1_lostTravellers_64 : decode cX1_lostTravellers 64 = .ok (.goto (-60), 3) := by decide +kernel
theorem dX1_lostTravellers_67 : decode cX1_lostTravellers 67 = .ok (.iload_n 1, 1) := by decide +kernel
theorem dX1_lostTravellers_68 : decode cX1_lostTravellers 68 = .ok (.ireturn, 1) := by decide +kernel
theorem dX1_lostPairs_0 : decode cX1_lostPairs 0 = .ok (.iconst 0, 1) := by decide +kernel
theorem dX1_lostPairs_1 : decode cX1_lostPairs 1 = .ok (.istore_n 1, 1) := by decide +kernel
theorem dX1_lostPairs_2 : decode cX1_lostPairs 2 = .ok (.iconst 0, 1) := by decide +kernel
theorem dX1_lostPairs_3 : decode cX1_lostPairs 3 = .ok (.istore_n 2, 1) := by decide +kernel
theorem dX1_lostPairs_4 : decode cX1_lostPairs 4 = .ok (.iload_n 2, 1) := by decide +kernel
theorem dX1_lostPairs_5 : decode cX1_lostPairs 5 = .ok (.aload_n 0, 1) := by decide +kernel
theorem dX1_lostPairs_6 : decode cX1_lostPairs 6 = .ok (.getfield 12, 3) := by decide +kernel
theorem dX1_lostPairs_9 : decode cX1_lostPairs 9 = .ok (.getfield 51, 3) := by decide +kernel
theorem dX1_lostPairs_12 : decode cX1_lostPairs 12 = .ok (.if_icmp .ge 41, 3) := by decide +kernel
theorem dX1_lostPairs_15 : decode cX1_lostPairs 15 = .ok (.iconst 0, 1) := by decide +kernel
theorem dX1_lostPairs_16 : decode cX1_lostPairs 16 = .ok (.istore_n 3, 1) := by decide +kernel
theorem dX1_lostPairs_17 : decode cX1_lostPairs 17 = .ok (.iload_n 3, 1) := by decide +kernel
theorem dX1_lostPairs_18 : decode cX1_lostPairs 18 = .ok (.aload_n 0, 1) := by decide +kernel
theorem dX1_lostPairs_19 : decode cX1_lostPairs 19 = .ok (.getfield 12, 3) := by decide +kernel
theorem dX1_lostPairs_22 : decode cX1_lostPairs 22 = .ok (.getfield 51, 3) := by decide +kernel
theorem dX1_lostPairs_25 : decode cX1_lostPairs 25 = .ok (.if_icmp .ge 22, 3) := by decide +kernel
theorem dX1_lostPairs_28 : decode cX1_lostPairs 28 = .ok (.aload_n 0, 1) := by decide +kernel
theorem dX1_lostPairs_29 : decode cX1_lostPairs 29 = .ok (.iload_n 2, 1) := by decide +kernel
theorem dX1_lostPairs_30 : decode cX1_lostPairs 30 = .ok (.iload_n 3, 1) := by decide +kernel
theorem dX1_lostPairs_31 : decode cX1_lostPairs 31 = .ok (.invokevirtual 139, 3) := by decide +kernel
theorem dX1_lostPairs_34 : decode cX1_lostPairs 34 = .ok (.iload_n 3, 1) := by decide +kernel
theorem dX1_lostPairs_35 : decode cX1_lostPairs 35 = .ok (.if_icmp .eq 6, 3) := by decide +kernel
theorem dX1_lostPairs_38 : decode cX1_lostPairs 38 = .ok (.iinc 1 1, 3) := by decide +kernel
theorem dX1_lostPairs_41 : decode cX1_lostPairs 41 = .ok (.iinc 3 1, 3) := by decide +kernel
theorem dX1_lostPairs_44 : decode cX1_lostPairs 44 = .ok (.goto (-27), 3) := by decide +kernel
theorem dX1_lostPairs_47 : decode cX1_lostPairs 47 = .ok (.iinc 2 1, 3) := by decide +kernel
theorem dX1_lostPairs_50 : decode cX1_lostPairs 50 = .ok (.goto (-46), 3) := by decide +kernel
theorem dX1_lostPairs_53 : decode cX1_lostPairs 53 = .ok (.iload_n 1, 1) := by decide +kernel
theorem dX1_lostPairs_54 : decode cX1_lostPairs 54 = .ok (.ireturn, 1) := by decide +kernel
theorem dX1_longestPair_0 : decode cX1_longestPair 0 = .ok (.bipush (-5), 2) := by decide +kernel
theorem dX1_longestPair_2 : decode cX1_longestPair 2 = .ok (.istore_n 1, 1) := by decide +kernel
theorem dX1_longestPair_3 : decode cX1_longestPair 3 = .ok (.iconst 0, 1) := by decide +kernel
theorem dX1_longestPair_4 : decode cX1_longestPair 4 = .ok (.istore_n 2, 1) := by decide +kernel
theorem dX1_longestPair_5 : decode cX1_longestPair 5 = .ok (.iconst 0, 1) := by decide +kernel
theorem dX1_longestPair_6 : decode cX1_longestPair 6 = .ok (.istore_n 3, 1) := by decide +kernel
theorem dX1_longestPair_7 : decode cX1_longestPair 7 = .ok (.iload_n 3, 1) := by decide +kernel
theorem dX1_longestPair_8 : decode cX1_longestPair 8 = .ok (.aload_n 0, 1) := by decide +kernel
theorem dX1_longestPair_9 : decode cX1_longestPair 9 = .ok (.getfield 12, 3) := by decide +kernel
theorem dX1_longestPair_12 : decode cX1_longestPair 12 = .ok (.getfield 51, 3) := by decide +kernel
theorem dX1_longestPair_15 : decode cX1_longestPair 15 = .ok (.if_icmp .ge 63, 3) := by decide +kernel
theorem dX1_longestPair_18 : decode cX1_longestPair 18 = .ok (.iconst 0, 1) := by decide +kernel
theorem dX1_longestPair_19 : decode cX1_longestPair 19 = .ok (.istore 4, 2) := by decide +kernel
theorem dX1_longestPair_21 : decode cX1_longestPair 21 = .ok (.iload 4, 2) := by decide +kernel
theorem dX1_longestPair_23 : decode cX1_longestPair 23 = .ok (.aload_n 0, 1) := by decide +kernel
theorem dX1_longestPair_24 : decode cX1_longestPair 24 = .ok (.getfield 12, 3) := by decide +kernel
theorem dX1_longestPair_27 : decode cX1_longestPair 27 = .ok (.getfield 51, 3) := by decide +kernel
theorem dX1_longestPair_30 : decode cX1_longestPair 30 = .ok (.if_icmp .ge 42, 3) := by decide +kernel
theorem dX1_longestPair_33 : decode cX1_longestPair 33 = .ok (.aload_n 0, 1) := by decide +kernel
theorem dX1_longestPair_34 : decode cX1_longestPair 34 = .ok (.iload_n 3, 1) := by decide +kernel
theorem dX1_longestPair_35 : decode cX1_longestPair 35 = .ok (.iload 4, 2) := by decide +kernel
theorem dX1_longestPair_37 : decode cX1_longestPair 37 = .ok (.invokevirtual 139, 3) := by decide +kernel
theorem dX1_longestPair_40 : decode cX1_longestPair 40 = .ok (.iload 4, 2) := by decide +kernel
theorem dX1_longestPair_42 : decode cX1_longestPair 42 = .ok (.if_icmp .ne 24, 3) := by decide +kernel
theorem dX1_longestPair_45 : decode cX1_longestPair 45 = .ok (.aload_n 0, 1) := by decide +kernel
theorem dX1_longestPair_46 : decode cX1_longestPair 46 = .ok (.getfield 127, 3) := by decide +kernel
theorem dX1_longestPair_49 : decode cX1_longestPair 49 = .ok (.iload_n 2, 1) := by decide +kernel
theorem dX1_longestPair_50 : decode cX1_longestPair 50 = .ok (.if_icmp .le 16, 3) := by decide +kernel
theorem dX1_longestPair_53 : decode cX1_longestPair 53 = .ok (.bipush 10, 2) := by decide +kernel
theorem dX1_longestPair_55 : decode cX1_longestPair 55 = .ok (.iload_n 3, 1) := by decide +kernel
theorem dX1_longestPair_56 : decode cX1_longestPair 56 = .ok (.imul, 1) := by decide +kernel
theorem dX1_longestPair_57 : decode cX1_longestPair 57 = .ok (.iload 4, 2) := by decide +kernel
theorem dX1_longestPair_59 : decode cX1_longestPair 59 = .ok (.iadd, 1) := by decide +kernel
theorem dX1_longestPair_60 : decode cX1_longestPair 60 = .ok (.istore_n 1, 1) := by decide +kernel
theorem dX1_longestPair_61 : decode cX1_longestPair 61 = .ok (.aload_n 0, 1) := by decide +kernel
theorem dX1_longestPair_62 : decode cX1_longestPair 62 = .ok (.getfield 127, 3) := by decide +kernel
theorem dX1_longestPair_65 : decode cX1_longestPair 65 = .ok (.istore_n 2, 1) := by decide +kernel
theorem dX1_longestPair_66 : decode cX1_longestPair 66 = .ok (.iinc 4 1, 3) := by decide +kernel
theorem dX1_longestPair_69 : decode cX1_longestPair 69 = .ok (.goto (-48), 3) := by decide +kernel
theorem dX1_longestPair_72 : decode cX1_longestPair 72 = .ok (.iinc 3 1, 3) := by decide +kernel
theorem dX1_longestPair_75 : decode cX1_longestPair 75 = .ok (.goto (-68), 3) := by decide +kernel
theorem dX1_longestPair_78 : decode cX1_longestPair 78 = .ok (.iload_n 1, 1) := by decide +kernel
theorem dX1_longestPair_79 : decode cX1_longestPair 79 = .ok (.ireturn, 1) := by decide +kernel
theorem dX1_allWays_0 : decode cX1_allWays 0 = .ok (.iconst 0, 1) := by decide +kernel
theorem dX1_allWays_1 : decode cX1_allWays 1 = .ok (.istore_n 1, 1) := by decide +kernel
theorem dX1_allWays_2 : decode cX1_allWays 2 = .ok (.iconst 0, 1) := by decide +kernel
theorem dX1_allWays_3 : decode cX1_allWays 3 = .ok (.istore_n 2, 1) := by decide +kernel
theorem dX1_allWays_4 : decode cX1_allWays 4 = .ok (.iload_n 2, 1) := by decide +kernel
theorem dX1_allWays_5 : decode cX1_allWays 5 = .ok (.aload_n 0, 1) := by decide +kernel
theorem dX1_allWays_6 : decode cX1_allWays 6 = .ok (.getfield 12, 3) := by decide +kernel
theorem dX1_allWays_9 : decode cX1_allWays 9 = .ok (.getfield 51, 3) := by decide +kernel
theorem dX1_allWays_12 : decode cX1_allWays 12 = .ok (.if_icmp .ge 56, 3) := by decide +kernel
theorem dX1_allWays_15 : decode cX1_allWays 15 = .ok (.iconst 0, 1) := by decide +kernel
theorem dX1_allWays_16 : decode cX1_allWays 16 = .ok (.istore_n 3, 1) := by decide +kernel
theorem dX1_allWays_17 : decode cX1_allWays 17 = .ok (.iload_n 3, 1) := by decide +kernel
theorem dX1_allWays_18 : decode cX1_allWays 18 = .ok (.aload_n 0, 1) := by decide +kernel
theorem dX1_allWays_19 : decode cX1_allWays 19 = .ok (.getfield 12, 3) := by decide +kernel
theorem dX1_allWays_22 : decode cX1_allWays 22 = .ok (.getfield 51, 3) := by decide +kernel
theorem dX1_allWays_25 : decode cX1_allWays 25 = .ok (.if_icmp .ge 37, 3) := by decide +kernel
theorem dX1_allWays_28 : decode cX1_allWays 28 = .ok (.iload_n 1, 1) := by decide +kernel
theorem dX1_allWays_29 : decode cX1_allWays 29 = .ok (.aload_n 0, 1) := by decide +kernel
theorem dX1_allWays_30 : decode cX1_allWays 30 = .ok (.iload_n 2, 1) := by decide +kernel
theorem dX1_allWays_31 : decode cX1_allWays 31 = .ok (.iload_n 3, 1) := by decide +kernel
theorem dX1_allWays_32 : decode cX1_allWays 32 = .ok (.invokevirtual 83, 3) := by decide +kernel
theorem dX1_allWays_35 : decode cX1_allWays 35 = .ok (.ifCond .eq 16, 3) := by decide +kernel
theorem dX1_allWays_38 : decode cX1_allWays 38 = .ok (.aload_n 0, 1) := by decide +kernel
theorem dX1_allWays_39 : decode cX1_allWays 39 = .ok (.getfield 31, 3) := by decide +kernel
theorem dX1_allWays_42 : decode cX1_allWays 42 = .ok (.iload_n 2, 1) := by decide +kernel
theorem dX1_allWays_43 : decode cX1_allWays 43 = .ok (.iload_n 3, 1) := by decide +kernel
theorem dX1_allWays_44 : decode cX1_allWays 44 = .ok (.invokestatic 70, 3) := by decide +kernel
theorem dX1_allWays_47 : decode cX1_allWays 47 = .ok (.iaload, 1) := by decide +kernel
theorem dX1_allWays_48 : decode cX1_allWays 48 = .ok (.goto 6, 3) := by decide +kernel
theorem dX1_allWays_51 : decode cX1_allWays 51 = .ok (.sipush 999, 3) := by decide +kernel
theorem dX1_allWays_54 : decode cX1_allWays 54 = .ok (.iadd, 1) := by decide +kernel
theorem dX1_allWays_55 : decode cX1_allWays 55 = .ok (.istore_n 1, 1) := by decide +kernel
theorem dX1_allWays_56 : decode cX1_allWays 56 = .ok (.iinc 3 1, 3) := by decide +kernel
theorem dX1_allWays_59 : decode cX1_allWays 59 = .ok (.goto (-42), 3) := by decide +kernel
theorem dX1_allWays_62 : decode cX1_allWays 62 = .ok (.iinc 2 1, 3) := by decide +kernel
theorem dX1_allWays_65 : decode cX1_allWays 65 = .ok (.goto (-61), 3) := by decide +kernel
theorem dX1_allWays_68 : decode cX1_allWays 68 = .ok (.iload_n 1, 1) := by decide +kernel
theorem dX1_allWays_69 : decode cX1_allWays 69 = .ok (.ireturn, 1) := by decide +kernel
theorem dX1_sharesAt_0 : decode cX1_sharesAt 0 = .ok (.aload_n 0, 1) := by decide +kernel
theorem dX1_sharesAt_1 : decode cX1_sharesAt 1 = .ok (.getfield 40, 3) := by decide +kernel
theorem dX1_sharesAt_4 : decode cX1_sharesAt 4 = .ok (.lconst 0, 1) := by decide +kernel
theorem dX1_sharesAt_5 : decode cX1_sharesAt 5 = .ok (.invokestatic 145, 3) := by decide +kernel
theorem dX1_sharesAt_8 : decode cX1_sharesAt 8 = .ok (.aload_n 0, 1) := by decide +kernel
theorem dX1_sharesAt_9 : decode cX1_sharesAt 9 = .ok (.getfield 40, 3) := by decide +kernel
theorem dX1_sharesAt_12 : decode cX1_sharesAt 12 = .ok (.iload_n 1, 1) := by decide +kernel
theorem dX1_sharesAt_13 : decode cX1_sharesAt 13 = .ok (.lconst 1, 1) := by decide +kernel
theorem dX1_sharesAt_14 : decode cX1_sharesAt 14 = .ok (.lastore, 1) := by decide +kernel
theorem dX1_sharesAt_15 : decode cX1_sharesAt 15 = .ok (.iconst 0, 1) := by decide +kernel
theorem dX1_sharesAt_16 : decode cX1_sharesAt 16 = .ok (.istore 4, 2) := by decide +kernel
theorem dX1_sharesAt_18 : decode cX1_sharesAt 18 = .ok (.iload 4, 2) := by decide +kernel
theorem dX1_sharesAt_20 : decode cX1_sharesAt 20 = .ok (.iload_n 3, 1) := by decide +kernel
theorem dX1_sharesAt_21 : decode cX1_sharesAt 21 = .ok (.if_icmp .ge 59, 3) := by decide +kernel
theorem dX1_sharesAt_24 : decode cX1_sharesAt 24 = .ok (.aload_n 0, 1) := by decide +kernel
theorem dX1_sharesAt_25 : decode cX1_sharesAt 25 = .ok (.getfield 44, 3) := by decide +kernel
theorem dX1_sharesAt_28 : decode cX1_sharesAt 28 = .ok (.lconst 0, 1) := by decide +kernel
theorem dX1_sharesAt_29 : decode cX1_sharesAt 29 = .ok (.invokestatic 145, 3) := by decide +kernel
theorem dX1_sharesAt_32 : decode cX1_sharesAt 32 = .ok (.iconst 0, 1) := by decide +kernel
theorem dX1_sharesAt_33 : decode cX1_sharesAt 33 = .ok (.istore 5, 2) := by decide +kernel
theorem dX1_sharesAt_35 : decode cX1_sharesAt 35 = .ok (.iload 5, 2) := by decide +kernel
theorem dX1_sharesAt_37 : decode cX1_sharesAt 37 = .ok (.aload_n 0, 1) := by decide +kernel
theorem dX1_sharesAt_38 : decode cX1_sharesAt 38 = .ok (.getfield 12, 3) := by decide +kernel
theorem dX1_sharesAt_41 : decode cX1_sharesAt 41 = .ok (.getfield 51, 3) := by decide +kernel
theorem dX1_sharesAt_44 : decode cX1_sharesAt 44 = .ok (.if_icmp .ge 15, 3) := by decide +kernel
theorem dX1_sharesAt_47 : decode cX1_sharesAt 47 = .ok (.aload_n 0, 1) := by decide +kernel
theorem dX1_sharesAt_48 : decode cX1_sharesAt 48 = .ok (.iload 5, 2) := by decide +kernel
theorem dX1_sharesAt_50 : decode cX1_sharesAt 50 = .ok (.invokevirtual 151, 3) := by decide +kernel
theorem dX1_sharesAt_53 : decode cX1_sharesAt 53 = .ok (.iinc 5 1, 3) := by decide +kernel
theorem dX1_sharesAt_56 : decode cX1_sharesAt 56 = .ok (.goto (-21), 3) := by decide +kernel
theorem dX1_sharesAt_59 : decode cX1_sharesAt 59 = .ok (.aload_n 0, 1) := by decide +kernel
theorem dX1_sharesAt_60 : decode cX1_sharesAt 60 = .ok (.getfield 44, 3) := by decide +kernel
theorem dX1_sharesAt_63 : decode cX1_sharesAt 63 = .ok (.iconst 0, 1) := by decide +kernel
theorem dX1_sharesAt_64 : decode cX1_sharesAt 64 = .ok (.aload_n 0, 1) := by decide +kernel
theorem dX1_sharesAt_65 : decode cX1_sharesAt 65 = .ok (.getfield 40, 3) := by decide +kernel
theorem dX1_sharesAt_68 : decode cX1_sharesAt 68 = .ok (.iconst 0, 1) := by decide +kernel
theorem dX1_sharesAt_69 : decode cX1_sharesAt 69 = .ok (.bipush 7, 2) := by decide +kernel
theorem dX1_sharesAt_71 : decode cX1_sharesAt 71 = .ok (.invokestatic 155, 3) := by decide +kernel
theorem dX1_sharesAt_74 : decode cX1_sharesAt 74 = .ok (.iinc 4 1, 3) := by decide +kernel
theorem dX1_sharesAt_77 : decode cX1_sharesAt 77 = .ok (.goto (-59), 3) := by decide +kernel
theorem dX1_sharesAt_80 : decode cX1_sharesAt 80 = .ok (.aload_n 0, 1) := by decide +kernel
theorem dX1_sharesAt_81 : decode cX1_sharesAt 81 = .ok (.getfield 40, 3) := by decide +kernel
theorem dX1_sharesAt_84 : decode cX1_sharesAt 84 = .ok (.iload_n 2, 1) := by decide +kernel
theorem dX1_sharesAt_85 : decode cX1_sharesAt 85 = .ok (.laload, 1) := by decide +kernel
theorem dX1_sharesAt_86 : decode cX1_sharesAt 86 = .ok (.lreturn, 1) := by decide +kernel
theorem dX1_spread_0 : decode cX1_spread 0 = .ok (.aload_n 0, 1) := by decide +kernel
theorem dX1_spread_1 : decode cX1_spread 1 = .ok (.getfield 12, 3) := by decide +kernel
theorem dX1_spread_4 : decode cX1_spread 4 = .ok (.getfield 161, 3) := by decide +kernel
theorem dX1_spread_7 : decode cX1_spread 7 = .ok (.iload_n 1, 1) := by decide +kernel
theorem dX1_spread_8 : decode cX1_spread 8 = .ok (.iaload, 1) := by decide +kernel
theorem dX1_spread_9 : decode cX1_spread 9 = .ok (.invokestatic 164, 3) := by decide +kernel
theorem dX1_spread_12 : decode cX1_spread 12 = .ok (.istore_n 2, 1) := by decide +kernel
theorem dX1_spread_13 : decode cX1_spread 13 = .ok (.iload_n 2, 1) := by decide +kernel
theorem dX1_spread_14 : decode cX1_spread 14 = .ok (.ifCond .ne 23, 3) := by decide +kernel
theorem dX1_spread_17 : decode cX1_spread 17 = .ok (.aload_n 0, 1) := by decide +kernel
theorem dX1_spread_18 : decode cX1_spread 18 = .ok (.getfield 44, 3) := by decide +kernel
theorem dX1_spread_21 : decode cX1_spread 21 = .ok (.iload_n 1, 1) := by decide +kernel
theorem dX1_spread_22 : decode cX1_spread 22 = .ok (.dup2, 1) := by decide +kernel
theorem dX1_spread_23 : decode cX1_spread 23 = .ok (.laload, 1) := by decide +kernel
theorem dX1_spread_24 : decode cX1_spread 24 = .ok (.aload_n 0, 1) := by decide +kernel
theorem dX1_spread_25 : decode cX1_spread 25 = .ok (.getfield 40, 3) := by decide +kernel
theorem dX1_spread_28 : decode cX1_spread 28 = .ok (.iload_n 1, 1) := by decide +kernel
theorem dX1_spread_29 : decode cX1_spread 29 = .ok (.laload, 1) := by decide +kernel
theorem dX1_spread_30 : decode cX1_spread 30 = .ok (.ldc2_w 169, 3) := by decide +kernel
theorem dX1_spread_33 : decode cX1_spread 33 = .ok (.lmul, 1) := by decide +kernel
theorem dX1_spread_34 : decode cX1_spread 34 = .ok (.ladd, 1) := by decide +kernel
theorem dX1_spread_35 : decode cX1_spread 35 = .ok (.lastore, 1) := by decide +kernel
theorem dX1_spread_36 : decode cX1_spread 36 = .ok (.return_, 1) := by decide +kernel
theorem dX1_spread_37 : decode cX1_spread 37 = .ok (.iconst 0, 1) := by decide +kernel
theorem dX1_spread_38 : decode cX1_spread 38 = .ok (.istore_n 3, 1) := by decide +kernel
theorem dX1_spread_39 : decode cX1_spread 39 = .ok (.iload_n 3, 1) := by decide +kernel
theorem dX1_spread_40 : decode cX1_spread 40 = .ok (.aload_n 0, 1) := by decide +kernel
theorem dX1_spread_41 : decode cX1_spread 41 = .ok (.getfield 12, 3) := by decide +kernel
theorem dX1_spread_44 : decode cX1_spread 44 = .ok (.getfield 51, 3) := by decide +kernel
theorem dX1_spread_47 : decode cX1_spread 47 = .ok (.if_icmp .ge 64, 3) := by decide +kernel
theorem dX1_spread_50 : decode cX1_spread 50 = .ok (.aload_n 0, 1) := by decide +kernel
theorem dX1_spread_51 : decode cX1_spread 51 = .ok (.getfield 12, 3) := by decide +kernel
theorem dX1_spread_54 : decode cX1_spread 54 = .ok (.iload_n 1, 1) := by decide +kernel
theorem dX1_spread_55 : decode cX1_spread 55 = .ok (.iload_n 3, 1) := by decide +kernel
theorem dX1_spread_56 : decode cX1_spread 56 = .ok (.invokevirtual 96, 3) := by decide +kernel
theorem dX1_spread_59 : decode cX1_spread 59 = .ok (.ifCond .eq 46, 3) := by decide +kernel
theorem dX1_spread_62 : decode cX1_spread 62 = .ok (.aload_n 0, 1) := by decide +kernel
theorem dX1_spread_63 : decode cX1_spread 63 = .ok (.getfield 34, 3) := by decide +kernel
theorem dX1_spread_66 : decode cX1_spread 66 = .ok (.iload_n 1, 1) := by decide +kernel
theorem dX1_spread_67 : decode cX1_spread 67 = .ok (.iload_n 3, 1) := by decide +kernel
theorem dX1_spread_68 : decode cX1_spread 68 = .ok (.invokestatic 70, 3) := by decide +kernel
theorem dX1_spread_71 : decode cX1_spread 71 = .ok (.iaload, 1) := by decide +kernel
theorem dX1_spread_72 : decode cX1_spread 72 = .ok (.istore 4, 2) := by decide +kernel
theorem dX1_spread_74 : decode cX1_spread 74 = .ok (.aload_n 0, 1) := by decide +kernel
theorem dX1_spread_75 : decode cX1_spread 75 = .ok (.getfield 44, 3) := by decide +kernel
theorem dX1_spread_78 : decode cX1_spread 78 = .ok (.iload 4, 2) := by decide +kernel
theorem dX1_spread_80 : decode cX1_spread 80 = .ok (.ifCond .ge 7, 3) := by decide +kernel
theorem dX1_spread_83 : decode cX1_spread 83 = .ok (.iload_n 1, 1) := by decide +kernel
theorem dX1_spread_84 : decode cX1_spread 84 = .ok (.goto 5, 3) := by decide +kernel
theorem dX1_spread_87 : decode cX1_spread 87 = .ok (.iload 4, 2) := by decide +kernel
theorem dX1_spread_89 : decode cX1_spread 89 = .ok (.dup2, 1) := by decide +kernel
theorem dX1_spread_90 : decode cX1_spread 90 = .ok (.laload, 1) := by decide +kernel
theorem dX1_spread_91 : decode cX1_spread 91 = .ok (.aload_n 0, 1) := by decide +kernel
theorem dX1_spread_92 : decode cX1_spread 92 = .ok (.getfield 40, 3) := by decide +kernel
theorem dX1_spread_95 : decode cX1_spread 95 = .ok (.iload_n 1, 1) := by decide +kernel
theorem dX1_spread_96 : decode cX1_spread 96 = .ok (.laload, 1) := by decide +kernel
theorem dX1_spread_97 : decode cX1_spread 97 = .ok (.bipush 60, 2) := by decide +kernel
theorem dX1_spread_99 : decode cX1_spread 99 = .ok (.iload_n 2, 1) := by decide +kernel
theorem dX1_spread_100 : decode cX1_spread 100 = .ok (.idiv, 1) := by decide +kernel
theorem dX1_spread_101 : decode cX1_spread 101 = .ok (.i2l, 1) := by decide +kernel
theorem dX1_spread_102 : decode cX1_spread 102 = .ok (.lmul, 1) := by decide +kernel
theorem dX1_spread_103 : decode cX1_spread 103 = .ok (.ladd, 1) := by decide +kernel
theorem dX1_spread_104 : decode cX1_spread 104 = .ok (.lastore, 1) := by decide +kernel
theorem dX1_spread_105 : decode cX1_spread 105 = .ok (.iinc 3 1, 3) := by decide +kernel
theorem dX1_spread_108 : decode cX1_spread 108 = .ok (.goto (-69), 3) := by decide +kernel
theorem dX1_spread_111 : decode cX1_spread 111 = .ok (.return_, 1) := by decide +kernel
theorem dX2_init_0 : decode cX2_init 0 = .ok (.aload_n 0, 1) := by decide +kernel
theorem dX2_init_1 : decode cX2_init 1 = .ok (.invokespecial 3, 3) := by decide +kernel
theorem dX2_init_4 : decode cX2_init 4 = .ok (.aload_n 0, 1) := by decide +kernel
theorem dX2_init_5 : decode cX2_init 5 = .ok (.bipush 100, 2) := by decide +kernel
theorem dX2_init_7 : decode cX2_init 7 = .ok (.newarray .int, 2) := by decide +kernel
theorem dX2_init_9 : decode cX2_init 9 = .ok (.putfield 9, 3) := by decide +kernel
theorem dX2_init_12 : decode cX2_init 12 = .ok (.aload_n 0, 1) := by decide +kernel
theorem dX2_init_13 : decode cX2_init 13 = .ok (.bipush 10, 2) := by decide +kernel
theorem dX2_init_15 : decode cX2_init 15 = .ok (.newarray .int, 2) := by decide +kernel
theorem dX2_init_17 : decode cX2_init 17 = .ok (.putfield 15, 3) := by decide +kernel
theorem dX2_init_20 : decode cX2_init 20 = .ok (.aload_n 0, 1) := by decide +kernel
theorem dX2_init_21 : decode cX2_init 21 = .ok (.bipush 10, 2) := by decide +kernel
theorem dX2_init_23 : decode cX2_init 23 = .ok (.newarray .int, 2) := by decide +kernel
theorem dX2_init_25 : decode cX2_init 25 = .ok (.putfield 18, 3) := by decide +kernel
theorem dX2_init_28 : decode cX2_init 28 = .ok (.aload_n 0, 1) := by decide +kernel
theorem dX2_init_29 : decode cX2_init 29 = .ok (.bipush 10, 2) := by decide +kernel
theorem dX2_init_31 : decode cX2_init 31 = .ok (.newarray .int, 2) := by decide +kernel
theorem dX2_init_33 : decode cX2_init 33 = .ok (.putfield 21, 3) := by decide +kernel
theorem dX2_init_36 : decode cX2_init 36 = .ok (.aload_n 0, 1) := by decide +kernel
theorem dX2_init_37 : decode cX2_init 37 = .ok (.iconst 4, 1) := by decide +kernel
theorem dX2_init_38 : decode cX2_init 38 = .ok (.putfield 24, 3) := by decide +kernel
theorem dX2_init_41 : decode cX2_init 41 = .ok (.return_, 1) := by decide +kernel
theorem dX2_clear_0 : decode cX2_clear 0 = .ok (.aload_n 0, 1) := by decide +kernel
theorem dX2_clear_1 : decode cX2_clear 1 = .ok (.iconst 0, 1) := by decide +kernel
theorem dX2_clear_2 : decode cX2_clear 2 = .ok (.putfield 28, 3) := by decide +kernel
theorem dX2_clear_5 : decode cX2_clear 5 = .ok (.aload_n 0, 1) := by decide +kernel
theorem dX2_clear_6 : decode cX2_clear 6 = .ok (.iconst 0, 1) := by decide +kernel
theorem dX2_clear_7 : decode cX2_clear 7 = .ok (.putfield 31, 3) := by decide +kernel
theorem dX2_clear_10 : decode cX2_clear 10 = .ok (.aload_n 0, 1) := by decide +kernel
theorem dX2_clear_11 : decode cX2_clear 11 = .ok (.iconst 4, 1) := by decide +kernel
theorem dX2_clear_12 : decode cX2_clear 12 = .ok (.putfield 24, 3) := by decide +kernel
theorem dX2_clear_15 : decode cX2_clear 15 = .ok (.return_, 1) := by decide +kernel
theorem dX2_addCode_0 : decode cX2_addCode 0 = .ok (.aload_n 0, 1) := by decide +kernel
theorem dX2_addCode_1 : decode cX2_addCode 1 = .ok (.getfield 28, 3) := by decide +kernel
theorem dX2_addCode_4 : decode cX2_addCode 4 = .ok (.bipush 100, 2) := by decide +kernel
theorem dX2_addCode_6 : decode cX2_addCode 6 = .ok (.if_icmp .ge 23, 3) := by decide +kernel
theorem dX2_addCode_9 : decode cX2_addCode 9 = .ok (.aload_n 0, 1) := by decide +kernel
theorem dX2_addCode_10 : decode cX2_addCode 10 = .ok (.getfield 9, 3) := by decide +kernel
theorem dX2_addCode_13 : decode cX2_addCode 13 = .ok (.aload_n 0, 1) := by decide +kernel
theorem dX2_addCode_14 : decode cX2_addCode 14 = .ok (.getfield 28, 3) := by decide +kernel
theorem dX2_addCode_17 : decode cX2_addCode 17 = .ok (.iload_n 1, 1) := by decide +kernel
theorem dX2_addCode_18 : decode cX2_addCode 18 = .ok (.iastore, 1) := by decide +kernel
theorem dX2_addCode_19 : decode cX2_addCode 19 = .ok (.aload_n 0, 1) := by decide +kernel
theorem dX2_addCode_20 : decode cX2_addCode 20 = .ok (.dup, 1) := by decide +kernel
theorem dX2_addCode_21 : decode cX2_addCode 21 = .ok (.getfield 28, 3) := by decide +kernel
theorem dX2_addCode_24 : decode cX2_addCode 24 = .ok (.iconst 1, 1) := by decide +kernel
theorem dX2_addCode_25 : decode cX2_addCode 25 = .ok (.iadd, 1) := by decide +kernel
theorem dX2_addCode_26 : decode cX2_addCode 26 = .ok (.putfield 28, 3) := by decide +kernel
theorem dX2_addCode_29 : decode cX2_addCode 29 = .ok (.return_, 1) := by decide +kernel
theorem dX2_addTest_0 : decode cX2_addTest 0 = .ok (.aload_n 0, 1) := by decide +kernel
theorem dX2_addTest_1 : decode cX2_addTest 1 = .ok (.iload_n 1, 1) := by decide +kernel
theorem dX2_addTest_2 : decode cX2_addTest 2 = .ok (.sipush 300, 3) := by decide +kernel
theorem dX2_addTest_5 : decode cX2_addTest 5 = .ok (.imul, 1) := by decide +kernel
theorem dX2_addTest_6 : decode cX2_addTest 6 = .ok (.iload_n 2, 1) := by decide +kernel
theorem dX2_addTest_7 : decode cX2_addTest 7 = .ok (.bipush 100, 2) := by decide +kernel
theorem dX2_addTest_9 : decode cX2_addTest 9 = .ok (.imul, 1) := by decide +kernel
theorem dX2_addTest_10 : decode cX2_addTest 10 = .ok (.iadd, 1) := by decide +kernel
theorem dX2_addTest_11 : decode cX2_addTest 11 = .ok (.iload_n 3, 1) := by decide +kernel
theorem dX2_addTest_12 : decode cX2_addTest 12 = .ok (.iadd, 1) := by decide +kernel
theorem dX2_addTest_13 : decode cX2_addTest 13 = .ok (.invokevirtual 34, 3) := by decide +kernel
theorem dX2_addTest_16 : decode cX2_addTest 16 = .ok (.return_, 1) := by decide +kernel
theorem dX2_addClause_0 : decode cX2_addClause 0 = .ok (.iload_n 1, 1) := by decide +kernel
theorem dX2_addClause_1 : decode cX2_addClause 1 = .ok (.iconst 2, 1) := by decide +kernel
theorem dX2_addClause_2 : decode cX2_addClause 2 = .ok (.if_icmp .ne 8, 3) := by decide +kernel
theorem dX2_addClause_5 : decode cX2_addClause 5 = .ok (.aload_n 0, 1) := by decide +kernel
theorem dX2_addClause_6 : decode cX2_addClause 6 = .ok (.iload_n 2, 1) := by decide +kernel
theorem dX2_addClause_7 : decode cX2_addClause 7 = .ok (.putfield 24, 3) := by decide +kernel
theorem dX2_addClause_10 : decode cX2_addClause 10 = .ok (.aload_n 0, 1) := by decide +kernel
theorem dX2_addClause_11 : decode cX2_addClause 11 = .ok (.getfield 31, 3) := by decide +kernel
theorem dX2_addClause_14 : decode cX2_addClause 14 = .ok (.bipush 10, 2) := by decide +kernel
theorem dX2_addClause_16 : decode cX2_addClause 16 = .ok (.if_icmp .ge 46, 3) := by decide +kernel
theorem dX2_addClause_19 : decode cX2_addClause 19 = .ok (.aload_n 0, 1) := by decide +kernel
theorem dX2_addClause_20 : decode cX2_addClause 20 = .ok (.getfield 15, 3) := by decide +kernel
theorem dX2_addClause_23 : decode cX2_addClause 23 = .ok (.aload_n 0, 1) := by decide +kernel
theorem dX2_addClause_24 : decode cX2_addClause 24 = .ok (.getfield 31, 3) := by decide +kernel
theorem dX2_addClause_27 : decode cX2_addClause 27 = .ok (.iload_n 1, 1) := by decide +kernel
theorem dX2_addClause_28 : decode cX2_addClause 28 = .ok (.iastore, 1) := by decide +kernel
theorem dX2_addClause_29 : decode cX2_addClause 29 = .ok (.aload_n 0, 1) := by decide +kernel
theorem dX2_addClause_30 : decode cX2_addClause 30 = .ok (.getfield 18, 3) := by decide +kernel
theorem dX2_addClause_33 : decode cX2_addClause 33 = .ok (.aload_n 0, 1) := by decide +kernel
theorem dX2_addClause_34 : decode cX2_addClause 34 = .ok (.getfield 31, 3) := by decide +kernel
theorem dX2_addClause_37 : decode cX2_addClause 37 = .ok (.iload_n 2, 1) := by decide +kernel
theorem dX2_addClause_38 : decode cX2_addClause 38 = .ok (.iastore, 1) := by decide +kernel
theorem dX2_addClause_39 : decode cX2_addClause 39 = .ok (.aload_n 0, 1) := by decide +kernel
theorem dX2_addClause_40 : decode cX2_addClause 40 = .ok (.getfield 21, 3) := by decide +kernel
theorem dX2_addClause_43 : decode cX2_addClause 43 = .ok (.aload_n 0, 1) := by decide +kernel
theorem dX2_addClause_44 : decode cX2_addClause 44 = .ok (.getfield 31, 3) := by decide +kernel
theorem dX2_addClause_47 : decode cX2_addClause 47 = .ok (.aload_n 0, 1) := by decide +kernel
theorem dX2_addClause_48 : decode cX2_addClause 48 = .ok (.getfield 28, 3) := by decide +kernel
theorem dX2_addClause_51 : decode cX2_addClause 51 = .ok (.iastore, 1) := by decide +kernel
theorem dX2_addClause_52 : decode cX2_addClause 52 = .ok (.aload_n 0, 1) := by decide +kernel
theorem dX2_addClause_53 : decode cX2_addClause 53 = .ok (.dup, 1) := by decide +kernel
theorem dX2_addClause_54 : decode cX2_addClause 54 = .ok (.getfield 31, 3) := by decide +kernel
theorem dX2_addClause_57 : decode cX2_addClause 57 = .ok (.iconst 1, 1) := by decide +kernel
theorem dX2_addClause_58 : decode cX2_addClause 58 = .ok (.iadd, 1) := by decide +kernel
theorem dX2_addClause_59 : decode cX2_addClause 59 = .ok (.putfield 31, 3) := by decide +kernel
theorem dX2_addClause_62 : decode cX2_addClause 62 = .ok (.return_, 1) := by decide +kernel
theorem dX2_together_0 : decode cX2_together 0 = .ok (.iconst 0, 1) := by decide +kernel
theorem dX2_together_1 : decode cX2_together 1 = .ok (.istore_n 3, 1) := by decide +kernel
theorem dX2_together_2 : decode cX2_together 2 = .ok (.iconst 0, 1) := by decide +kernel
theorem dX2_together_3 : decode cX2_together 3 = .ok (.istore 4, 2) := by decide +kernel
theorem dX2_together_5 : decode cX2_together 5 = .ok (.iconst 0, 1) := by decide +kernel
theorem dX2_together_6 : decode cX2_together 6 = .ok (.istore 5, 2) := by decide +kernel
theorem dX2_together_8 : decode cX2_together 8 = .ok (.iload 5, 2) := by decide +kernel
theorem dX2_together_10 : decode cX2_together 10 = .ok (.aload_n 0, 1) := by decide +kernel
theorem dX2_together_11 : decode cX2_together 11 = .ok (.getfield 31, 3) := by decide +kernel
theorem dX2_together_14 : decode cX2_together 14 = .ok (.if_icmp .ge 56, 3) := by decide +kernel
theorem dX2_together_17 : decode cX2_together 17 = .ok (.aload_n 0, 1) := by decide +kernel
theorem dX2_together_18 : decode cX2_together 18 = .ok (.getfield 15, 3) := by decide +kernel
theorem dX2_together_21 : decode cX2_together 21 = .ok (.iload 5, 2) := by decide +kernel
theorem dX2_together_23 : decode cX2_together 23 = .ok (.iaload, 1) := by decide +kernel
theorem dX2_together_24 : decode cX2_together 24 = .ok (.iload_n 1, 1) := by decide +kernel
theorem dX2_together_25 : decode cX2_together 25 = .ok (.if_icmp .ne 30, 3) := by decide +kernel
theorem dX2_together_28 : decode cX2_together 28 = .ok (.aload_n 0, 1) := by decide +kernel
theorem dX2_together_29 : decode cX2_together 29 = .ok (.iload 4, 2) := by decide +kernel
theorem dX2_together_31 : decode cX2_together 31 = .ok (.aload_n 0, 1) := by decide +kernel
theorem dX2_together_32 : decode cX2_together 32 = .ok (.getfield 21, 3) := by decide +kernel
theorem dX2_together_35 : decode cX2_together 35 = .ok (.iload 5, 2) := by decide +kernel
theorem dX2_together_37 : decode cX2_together 37 = .ok (.iaload, 1) := by decide +kernel
theorem dX2_together_38 : decode cX2_together 38 = .ok (.aload_n 2, 1) := by decide +kernel
theorem dX2_together_39 : decode cX2_together 39 = .ok (.invokevirtual 38, 3) := by decide +kernel
theorem dX2_together_42 : decode cX2_together 42 = .ok (.ifCond .eq 13, 3) := by decide +kernel
theorem dX2_together_45 : decode cX2_together 45 = .ok (.iload_n 3, 1) := by decide +kernel
theorem dX2_together_46 : decode cX2_together 46 = .ok (.aload_n 0, 1) := by decide +kernel
theorem dX2_together_47 : decode cX2_together 47 = .ok (.getfield 18, 3) := by decide +kernel
theorem dX2_together_50 : decode cX2_together 50 = .ok (.iload 5, 2) := by decide +kernel
theorem dX2_together_52 : decode cX2_together 52 = .ok (.iaload, 1) := by decide +kernel
theorem dX2_together_53 : decode cX2_together 53 = .ok (.iadd, 1) := by decide +kernel
theorem dX2_together_54 : decode cX2_together 54 = .ok (.istore_n 3, 1) := by decide +kernel
theorem dX2_together_55 : decode cX2_together 55 = .ok (.aload_n 0, 1) := by decide +kernel
theorem dX2_together_56 : decode cX2_together 56 = .ok (.getfield 21, 3) := by decide +kernel
theorem dX2_together_59 : decode cX2_together 59 = .ok (.iload 5, 2) := by decide +kernel
theorem dX2_together_61 : decode cX2_together 61 = .ok (.iaload, 1) := by decide +kernel
theorem dX2_together_62 : decode cX2_together 62 = .ok (.istore 4, 2) := by decide +kernel
theorem dX2_together_64 : decode cX2_together 64 = .ok (.iinc 5 1, 3) := by decide +kernel
theorem dX2_together_67 : decode cX2_together 67 = .ok (.goto (-59), 3) := by decide +kernel
theorem dX2_together_70 : decode cX2_together 70 = .ok (.iload_n 3, 1) := by decide +kernel
theorem dX2_together_71 : decode cX2_together 71 = .ok (.ireturn, 1) := by decide +kernel
theorem dX2_holds_0 : decode cX2_holds 0 = .ok (.iconst 0, 1) := by decide +kernel
theorem dX2_holds_1 : decode cX2_holds 1 = .ok (.istore 4, 2) := by decide +kernel
theorem dX2_holds_3 : decode cX2_holds 3 = .ok (.iload_n 1, 1) := by decide +kernel
theorem dX2_holds_4 : decode cX2_holds 4 = .ok (.istore 5, 2) := by decide +kernel
theorem dX2_holds_6 : decode cX2_holds 6 = .ok (.iload 5, 2) := by decide +kernel
theorem dX2_holds_8 : decode cX2_holds 8 = .ok (.iload_n 2, 1) := by decide +kernel
theorem dX2_holds_9 : decode cX2_holds 9 = .ok (.if_icmp .ge 97, 3) := by decide +kernel
theorem dX2_holds_12 : decode cX2_holds 12 = .ok (.aload_n 0, 1) := by decide +kernel
theorem dX2_holds_13 : decode cX2_holds 13 = .ok (.getfield 9, 3) := by decide +kernel
theorem dX2_holds_16 : decode cX2_holds 16 = .ok (.iload 5, 2) := by decide +kernel
theorem dX2_holds_18 : decode cX2_holds 18 = .ok (.iaload, 1) := by decide +kernel
theorem dX2_holds_19 : decode cX2_holds 19 = .ok (.istore 6, 2) := by decide +kernel
theorem dX2_holds_21 : decode cX2_holds 21 = .ok (.iload 6, 2) := by decide +kernel
theorem dX2_holds_23 : decode cX2_holds 23 = .ok (.iconst (-1), 1) := by decide +kernel
theorem dX2_holds_24 : decode cX2_holds 24 = .ok (.if_icmp .ne 12, 3) := by decide +kernel
theorem dX2_holds_27 : decode cX2_holds 27 = .ok (.iload 4, 2) := by decide +kernel
theorem dX2_holds_29 : decode cX2_holds 29 = .ok (.iconst 1, 1) := by decide +kernel
theorem dX2_holds_30 : decode cX2_holds 30 = .ok (.ixor, 1) := by decide +kernel
theorem dX2_holds_31 : decode cX2_holds 31 = .ok (.istore 4, 2) := by decide +kernel
theorem dX2_holds_33 : decode cX2_holds 33 = .ok (.goto 67, 3) := by decide +kernel
theorem dX2_holds_36 : decode cX2_holds 36 = .ok (.iload 6, 2) := by decide +kernel
theorem dX2_holds_38 : decode cX2_holds 38 = .ok (.bipush (-2), 2) := by decide +kernel
theorem dX2_holds_40 : decode cX2_holds 40 = .ok (.if_icmp .ne 18, 3) := by decide +kernel
theorem dX2_holds_43 : decode cX2_holds 43 = .ok (.iload 4, 2) := by decide +kernel
theorem dX2_holds_45 : decode cX2_holds 45 = .ok (.iconst 1, 1) := by decide +kernel
theorem dX2_holds_46 : decode cX2_holds 46 = .ok (.ishr, 1) := by decide +kernel
theorem dX2_holds_47 : decode cX2_holds 47 = .ok (.iload 4, 2) := by decide +kernel
theorem dX2_holds_49 : decode cX2_holds 49 = .ok (.bipush (-2), 2) := by decide +kernel
theorem dX2_holds_51 : decode cX2_holds 51 = .ok (.ior, 1) := by decide +kernel
theorem dX2_holds_52 : decode cX2_holds 52 = .ok (.iand, 1) := by decide +kernel
theorem dX2_holds_53 : decode cX2_holds 53 = .ok (.istore 4, 2) := by decide +kernel
theorem dX2_holds_55 : decode cX2_holds 55 = .ok (.goto 45, 3) := by decide +kernel
theorem dX2_holds_58 : decode cX2_holds 58 = .ok (.iload 6, 2) := by decide +kernel
theorem dX2_holds_60 : decode cX2_holds 60 = .ok (.bipush (-3), 2) := by decide +kernel
theorem dX2_holds_62 : decode cX2_holds 62 = .ok (.if_icmp .ne 17, 3) := by decide +kernel
theorem dX2_holds_65 : decode cX2_holds 65 = .ok (.iload 4, 2) := by decide +kernel
theorem dX2_holds_67 : decode cX2_holds 67 = .ok (.iconst 1, 1) := by decide +kernel
theorem dX2_holds_68 : decode cX2_holds 68 = .ok (.ishr, 1) := by decide +kernel
theorem dX2_holds_69 : decode cX2_holds 69 = .ok (.iload 4, 2) := by decide +kernel
theorem dX2_holds_71 : decode cX2_holds 71 = .ok (.iconst 1, 1) := by decide +kernel
theorem dX2_holds_72 : decode cX2_holds 72 = .ok (.iand, 1) := by decide +kernel
theorem dX2_holds_73 : decode cX2_holds 73 = .ok (.ior, 1) := by decide +kernel
theorem dX2_holds_74 : decode cX2_holds 74 = .ok (.istore 4, 2) := by decide +kernel
theorem dX2_holds_76 : decode cX2_holds 76 = .ok (.goto 24, 3) := by decide +kernel
theorem dX2_holds_79 : decode cX2_holds 79 = .ok (.iload 4, 2) := by decide +kernel
theorem dX2_holds_81 : decode cX2_holds 81 = .ok (.iconst 1, 1) := by decide +kernel
theorem dX2_holds_82 : decode cX2_holds 82 = .ok (.ishl, 1) := by decide +kernel
theorem dX2_holds_83 : decode cX2_holds 83 = .ok (.iload 6, 2) := by decide +kernel
theorem dX2_holds_85 : decode cX2_holds 85 = .ok (.aload_n 3, 1) := by decide +kernel
theorem dX2_holds_86 : decode cX2_holds 86 = .ok (.invokestatic 42, 3) := by decide +kernel
theorem dX2_holds_89 : decode cX2_holds 89 = .ok (.ifCond .eq 7, 3) := by decide +kernel
theorem dX2_holds_92 : decode cX2_holds 92 = .ok (.iconst 1, 1) := by decide +kernel
theorem dX2_holds_93 : decode cX2_holds 93 = .ok (.goto 4, 3) := by decide +kernel
theorem dX2_holds_96 : decode cX2_holds 96 = .ok (.iconst 0, 1) := by decide +kernel
theorem dX2_holds_97 : decode cX2_holds 97 = .ok (.ior, 1) := by decide +kernel
theorem dX2_holds_98 : decode cX2_holds 98 = .ok (.istore 4, 2) := by decide +kernel
theorem dX2_holds_100 : decode cX2_holds 100 = .ok (.iinc 5 1, 3) := by decide +kernel
theorem dX2_holds_103 : decode cX2_holds 103 = .ok (.goto (-97), 3) := by decide +kernel
theorem dX2_holds_106 : decode cX2_holds 106 = .ok (.iload 4, 2) := by decide +kernel
theorem dX2_holds_108 : decode cX2_holds 108 = .ok (.iconst 1, 1) := by decide +kernel
theorem dX2_holds_109 : decode cX2_holds 109 = .ok (.iand, 1) := by decide +kernel
theorem dX2_holds_110 : decode cX2_holds 110 = .ok (.iconst 1, 1) := by decide +kernel
theorem dX2_holds_111 : decode cX2_holds 111 = .ok (.if_icmp .ne 7, 3) := by decide +kernel
theorem dX2_holds_114 : decode cX2_holds 114 = .ok (.iconst 1, 1) := by decide +kernel
theorem dX2_holds_115 : decode cX2_holds 115 = .ok (.goto 4, 3) := by decide +kernel
theorem dX2_holds_118 : decode cX2_holds 118 = .ok (.iconst 0, 1) := by decide +kernel
theorem dX2_holds_119 : decode cX2_holds 119 = .ok (.ireturn, 1) := by decide +kernel
theorem dX2_passes_0 : decode cX2_passes 0 = .ok (.aload_n 1, 1) := by decide +kernel
theorem dX2_passes_1 : decode cX2_passes 1 = .ok (.iload_n 0, 1) := by decide +kernel
theorem dX2_passes_2 : decode cX2_passes 2 = .ok (.sipush 300, 3) := by decide +kernel
theorem dX2_passes_5 : decode cX2_passes 5 = .ok (.idiv, 1) := by decide +kernel
theorem dX2_passes_6 : decode cX2_passes 6 = .ok (.iaload, 1) := by decide +kernel
theorem dX2_passes_7 : decode cX2_passes 7 = .ok (.istore_n 2, 1) := by decide +kernel
theorem dX2_passes_8 : decode cX2_passes 8 = .ok (.iload_n 0, 1) := by decide +kernel
theorem dX2_passes_9 : decode cX2_passes 9 = .ok (.bipush 100, 2) := by decide +kernel
theorem dX2_passes_11 : decode cX2_passes 11 = .ok (.irem, 1) := by decide +kernel
theorem dX2_passes_12 : decode cX2_passes 12 = .ok (.istore_n 3, 1) := by decide +kernel
theorem dX2_passes_13 : decode cX2_passes 13 = .ok (.iload_n 0, 1) := by decide +kernel
theorem dX2_passes_14 : decode cX2_passes 14 = .ok (.bipush 100, 2) := by decide +kernel
theorem dX2_passes_16 : decode cX2_passes 16 = .ok (.idiv, 1) := by decide +kernel
theorem dX2_passes_17 : decode cX2_passes 17 = .ok (.iconst 3, 1) := by decide +kernel
theorem dX2_passes_18 : decode cX2_passes 18 = .ok (.irem, 1) := by decide +kernel
theorem dX2_passes_19 : decode cX2_passes 19 = .ok (.lookupswitch 47 #[(0, 25), (1, 36)], 25) := by decide +kernel
theorem dX2_passes_44 : decode cX2_passes 44 = .ok (.iload_n 2, 1) := by decide +kernel
theorem dX2_passes_45 : decode cX2_passes 45 = .ok (.iload_n 3, 1) := by decide +kernel
theorem dX2_passes_46 : decode cX2_passes 46 = .ok (.if_icmp .ge 7, 3) := by decide +kernel
theorem dX2_passes_49 : decode cX2_passes 49 = .ok (.iconst 1, 1) := by decide +kernel
theorem dX2_passes_50 : decode cX2_passes 50 = .ok (.goto 4, 3) := by decide +kernel
theorem dX2_passes_53 : decode cX2_passes 53 = .ok (.iconst 0, 1) := by decide +kernel
theorem dX2_passes_54 : decode cX2_passes 54 = .ok (.ireturn, 1) := by decide +kernel
theorem dX2_passes_55 : decode cX2_passes 55 = .ok (.iload_n 2, 1) := by decide +kernel
theorem dX2_passes_56 : decode cX2_passes 56 = .ok (.iload_n 3, 1) := by decide +kernel
theorem dX2_passes_57 : decode cX2_passes 57 = .ok (.if_icmp .ne 7, 3) := by decide +kernel
theorem dX2_passes_60 : decode cX2_passes 60 = .ok (.iconst 1, 1) := by decide +kernel
theorem dX2_passes_61 : decode cX2_passes 61 = .ok (.goto 4, 3) := by decide +kernel
theorem dX2_passes_64 : decode cX2_passes 64 = .ok (.iconst 0, 1) := by decide +kernel
theorem dX2_passes_65 : decode cX2_passes 65 = .ok (.ireturn, 1) := by decide +kernel
theorem dX2_passes_66 : decode cX2_passes 66 = .ok (.iload_n 2, 1) := by decide +kernel
theorem dX2_passes_67 : decode cX2_passes 67 = .ok (.iload_n 3, 1) := by decide +kernel
theorem dX2_passes_68 : decode cX2_passes 68 = .ok (.if_icmp .le 7, 3) := by decide +kernel
theorem dX2_passes_71 : decode cX2_passes 71 = .ok (.iconst 1, 1) := by decide +kernel
theorem dX2_passes_72 : decode cX2_passes 72 = .ok (.goto 4, 3) := by decide +kernel
theorem dX2_passes_75 : decode cX2_passes 75 = .ok (.iconst 0, 1) := by decide +kernel
theorem dX2_passes_76 : decode cX2_passes 76 = .ok (.ireturn, 1) := by decide +kernel
theorem dX3_init_0 : decode cX3_init 0 = .ok (.aload_n 0, 1) := by decide +kernel
theorem dX3_init_1 : decode cX3_init 1 = .ok (.invokespecial 3, 3) := by decide +kernel
theorem dX3_init_4 : decode cX3_init 4 = .ok (.aload_n 0, 1) := by decide +kernel
theorem dX3_init_5 : decode cX3_init 5 = .ok (.bipush 100, 2) := by decide +kernel
theorem dX3_init_7 : decode cX3_init 7 = .ok (.newarray .char, 2) := by decide +kernel
theorem dX3_init_9 : decode cX3_init 9 = .ok (.putfield 9, 3) := by decide +kernel
theorem dX3_init_12 : decode cX3_init 12 = .ok (.aload_n 0, 1) := by decide +kernel
theorem dX3_init_13 : decode cX3_init 13 = .ok (.new 15, 3) := by decide +kernel
theorem dX3_init_16 : decode cX3_init 16 = .ok (.dup, 1) := by decide +kernel
theorem dX3_init_17 : decode cX3_init 17 = .ok (.invokespecial 17, 3) := by decide +kernel
theorem dX3_init_20 : decode cX3_init 20 = .ok (.putfield 18, 3) := by decide +kernel
theorem dX3_init_23 : decode cX3_init 23 = .ok (.return_, 1) := by decide +kernel
theorem dX3_addSign_0 : decode cX3_addSign 0 = .ok (.aload_n 0, 1) := by decide +kernel
theorem dX3_addSign_1 : decode cX3_addSign 1 = .ok (.getfield 22, 3) := by decide +kernel
theorem dX3_addSign_4 : decode cX3_addSign 4 = .ok (.bipush 100, 2) := by decide +kernel
theorem dX3_addSign_6 : decode cX3_addSign 6 = .ok (.if_icmp .ge 23, 3) := by decide +kernel
theorem dX3_addSign_9 : decode cX3_addSign 9 = .ok (.aload_n 0, 1) := by decide +kernel
theorem dX3_addSign_10 : decode cX3_addSign 10 = .ok (.getfield 9, 3) := by decide +kernel
theorem dX3_addSign_13 : decode cX3_addSign 13 = .ok (.aload_n 0, 1) := by decide +kernel
theorem dX3_addSign_14 : decode cX3_addSign 14 = .ok (.getfield 22, 3) := by decide +kernel
theorem dX3_addSign_17 : decode cX3_addSign 17 = .ok (.iload_n 1, 1) := by decide +kernel
theorem dX3_addSign_18 : decode cX3_addSign 18 = .ok (.castore, 1) := by decide +kernel
theorem dX3_addSign_19 : decode cX3_addSign 19 = .ok (.aload_n 0, 1) := by decide +kernel
theorem dX3_addSign_20 : decode cX3_addSign 20 = .ok (.dup, 1) := by decide +kernel
theorem dX3_addSign_21 : decode cX3_addSign 21 = .ok (.getfield 22, 3) := by decide +kernel
theorem dX3_addSign_24 : decode cX3_addSign 24 = .ok (.iconst 1, 1) := by decide +kernel
theorem dX3_addSign_25 : decode cX3_addSign 25 = .ok (.iadd, 1) := by decide +kernel
theorem dX3_addSign_26 : decode cX3_addSign 26 = .ok (.putfield 22, 3) := by decide +kernel
theorem dX3_addSign_29 : decode cX3_addSign 29 = .ok (.aload_n 0, 1) := by decide +kernel
theorem dX3_addSign_30 : decode cX3_addSign 30 = .ok (.getfield 22, 3) := by decide +kernel
theorem dX3_addSign_33 : decode cX3_addSign 33 = .ok (.ireturn, 1) := by decide +kernel
theorem dX3_empty_0 : decode cX3_empty 0 = .ok (.aload_n 0, 1) := by decide +kernel
theorem dX3_empty_1 : decode cX3_empty 1 = .ok (.iconst 0, 1) := by decide +kernel
theorem dX3_empty_2 : decode cX3_empty 2 = .ok (.putfield 22, 3) := by decide +kernel
theorem dX3_empty_5 : decode cX3_empty 5 = .ok (.return_, 1) := by decide +kernel
theorem dX3_faultOf_0 : decode cX3_faultOf 0 = .ok (.aload_n 0, 1) := by decide +kernel
theorem dX3_faultOf_1 : decode cX3_faultOf 1 = .ok (.iconst 0, 1) := by decide +kernel
theorem dX3_faultOf_2 : decode cX3_faultOf 2 = .ok (.putfield 26, 3) := by decide +kernel
theorem dX3_faultOf_5 : decode cX3_faultOf 5 = .ok (.aload_n 0, 1) := by decide +kernel
theorem dX3_faultOf_6 : decode cX3_faultOf 6 = .ok (.aload_n 1, 1) := by decide +kernel
theorem dX3_faultOf_7 : decode cX3_faultOf 7 = .ok (.putfield 18, 3) := by decide +kernel
theorem dX3_faultOf_10 : decode cX3_faultOf 10 = .ok (.aload_n 0, 1) := by decide +kernel
theorem dX3_faultOf_11 : decode cX3_faultOf 11 = .ok (.getfield 18, 3) := by decide +kernel
theorem dX3_faultOf_14 : decode cX3_faultOf 14 = .ok (.invokevirtual 29, 3) := by decide +kernel
theorem dX3_faultOf_17 : decode cX3_faultOf 17 = .ok (.iconst 0, 1) := by decide +kernel
theorem dX3_faultOf_18 : decode cX3_faultOf 18 = .ok (.istore_n 2, 1) := by decide +kernel
theorem dX3_faultOf_19 : decode cX3_faultOf 19 = .ok (.iload_n 2, 1) := by decide +kernel
theorem dX3_faultOf_20 : decode cX3_faultOf 20 = .ok (.bipush 10, 2) := by decide +kernel
theorem dX3_faultOf_22 : decode cX3_faultOf 22 = .ok (.if_icmp .ge 47, 3) := by decide +kernel
theorem dX3_faultOf_25 : decode cX3_faultOf 25 = .ok (.iload_n 2, 1) := by decide +kernel
theorem dX3_faultOf_26 : decode cX3_faultOf 26 = .ok (.ifCond .le 12, 3) := by decide +kernel
theorem dX3_faultOf_29 : decode cX3_faultOf 29 = .ok (.aload_n 0, 1) := by decide +kernel
theorem dX3_faultOf_30 : decode cX3_faultOf 30 = .ok (.bipush 59, 2) := by decide +kernel
theorem dX3_faultOf_32 : decode cX3_faultOf 32 = .ok (.invokevirtual 32, 3) := by decide +kernel
theorem dX3_faultOf_35 : decode cX3_faultOf 35 = .ok (.ifCond .eq 10, 3) := by decide +kernel
theorem dX3_faultOf_38 : decode cX3_faultOf 38 = .ok (.aload_n 0, 1) := by decide +kernel
theorem dX3_faultOf_39 : decode cX3_faultOf 39 = .ok (.invokevirtual 36, 3) := by decide +kernel
theorem dX3_faultOf_42 : decode cX3_faultOf 42 = .ok (.ifCond .ne 8, 3) := by decide +kernel
theorem dX3_faultOf_45 : decode cX3_faultOf 45 = .ok (.aload_n 0, 1) := by decide +kernel
theorem dX3_faultOf_46 : decode cX3_faultOf 46 = .ok (.getfield 26, 3) := by decide +kernel
theorem dX3_faultOf_49 : decode cX3_faultOf 49 = .ok (.ireturn, 1) := by decide +kernel
theorem dX3_faultOf_50 : decode cX3_faultOf 50 = .ok (.aload_n 0, 1) := by decide +kernel
theorem dX3_faultOf_51 : decode cX3_faultOf 51 = .ok (.getfield 26, 3) := by decide +kernel
theorem dX3_faultOf_54 : decode cX3_faultOf 54 = .ok (.aload_n 0, 1) := by decide +kernel
theorem dX3_faultOf_55 : decode cX3_faultOf 55 = .ok (.getfield 22, 3) := by decide +kernel
theorem dX3_faultOf_58 : decode cX3_faultOf 58 = .ok (.if_icmp .ne 5, 3) := by decide +kernel
theorem dX3_faultOf_61 : decode cX3_faultOf 61 = .ok (.iconst (-1), 1) := by decide +kernel
theorem dX3_faultOf_62 : decode cX3_faultOf 62 = .ok (.ireturn, 1) := by decide +kernel
theorem dX3_faultOf_63 : decode cX3_faultOf 63 = .ok (.iinc 2 1, 3) := by decide +kernel
theorem dX3_faultOf_66 : decode cX3_faultOf 66 = .ok (.goto (-47), 3) := by decide +kernel
theorem dX3_faultOf_69 : decode cX3_faultOf 69 = .ok (.aload_n 0, 1) := by decide +kernel
theorem dX3_faultOf_70 : decode cX3_faultOf 70 = .ok (.getfield 26, 3) := by decide +kernel
theorem dX3_faultOf_73 : decode cX3_faultOf 73 = .ok (.ireturn, 1) := by decide +kernel
theorem dX3_ahead_0 : decode cX3_ahead 0 = .ok (.aload_n 0, 1) := by decide +kernel
theorem dX3_ahead_1 : decode cX3_ahead 1 = .ok (.getfield 26, 3) := by decide +kernel
theorem dX3_ahead_4 : decode cX3_ahead 4 = .ok (.aload_n 0, 1) := by decide +kernel
theorem dX3_ahead_5 : decode cX3_ahead 5 = .ok (.getfield 22, 3) := by decide +kernel
theorem dX3_ahead_8 : decode cX3_ahead 8 = .ok (.if_icmp .ge 15, 3) := by decide +kernel
theorem dX3_ahead_11 : decode cX3_ahead 11 = .ok (.aload_n 0, 1) := by decide +kernel
theorem dX3_ahead_12 : decode cX3_ahead 12 = .ok (.getfield 9, 3) := by decide +kernel
theorem dX3_ahead_15 : decode cX3_ahead 15 = .ok (.aload_n 0, 1) := by decide +kernel
theorem dX3_ahead_16 : decode cX3_ahead 16 = .ok (.getfield 26, 3) := by decide +kernel
theorem dX3_ahead_19 : decode cX3_ahead 19 = .ok (.caload, 1) := by decide +kernel
theorem dX3_ahead_20 : decode cX3_ahead 20 = .ok (.goto 6, 3) := by decide +kernel
theorem dX3_ahead_23 : decode cX3_ahead 23 = .ok (.sipush 255, 3) := by decide +kernel
theorem dX3_ahead_26 : decode cX3_ahead 26 = .ok (.ireturn, 1) := by decide +kernel
theorem dX3_takes_0 : decode cX3_takes 0 = .ok (.aload_n 0, 1) := by decide +kernel
theorem dX3_takes_1 : decode cX3_takes 1 = .ok (.invokevirtual 40, 3) := by decide +kernel
theorem dX3_takes_4 : decode cX3_takes 4 = .ok (.iload_n 1, 1) := by decide +kernel
theorem dX3_takes_5 : decode cX3_takes 5 = .ok (.if_icmp .eq 5, 3) := by decide +kernel
theorem dX3_takes_8 : decode cX3_takes 8 = .ok (.iconst 0, 1) := by decide +kernel
theorem dX3_takes_9 : decode cX3_takes 9 = .ok (.ireturn, 1) := by decide +kernel
theorem dX3_takes_10 : decode cX3_takes 10 = .ok (.aload_n 0, 1) := by decide +kernel
theorem dX3_takes_11 : decode cX3_takes 11 = .ok (.dup, 1) := by decide +kernel
theorem dX3_takes_12 : decode cX3_takes 12 = .ok (.getfield 26, 3) := by decide +kernel
theorem dX3_takes_15 : decode cX3_takes 15 = .ok (.iconst 1, 1) := by decide +kernel
theorem dX3_takes_16 : decode cX3_takes 16 = .ok (.iadd, 1) := by decide +kernel
theorem dX3_takes_17 : decode cX3_takes 17 = .ok (.putfield 26, 3) := by decide +kernel
theorem dX3_takes_20 : decode cX3_takes 20 = .ok (.iconst 1, 1) := by decide +kernel
theorem dX3_takes_21 : decode cX3_takes 21 = .ok (.ireturn, 1) := by decide +kernel
theorem dX3_takesWord_0 : decode cX3_takesWord 0 = .ok (.iconst 0, 1) := by decide +kernel
theorem dX3_takesWord_1 : decode cX3_takesWord 1 = .ok (.istore_n 2, 1) := by decide +kernel
theorem dX3_takesWord_2 : decode cX3_takesWord 2 = .ok (.iload_n 2, 1) := by decide +kernel
theorem dX3_takesWord_3 : decode cX3_takesWord 3 = .ok (.aload_n 1, 1) := by decide +kernel
theorem dX3_takesWord_4 : decode cX3_takesWord 4 = .ok (.invokevirtual 44, 3) := by decide +kernel
theorem dX3_takesWord_7 : decode cX3_takesWord 7 = .ok (.if_icmp .ge 23, 3) := by decide +kernel
theorem dX3_takesWord_10 : decode cX3_takesWord 10 = .ok (.aload_n 0, 1) := by decide +kernel
theorem dX3_takesWord_11 : decode cX3_takesWord 11 = .ok (.aload_n 1, 1) := by decide +kernel
theorem dX3_takesWord_12 : decode cX3_takesWord 12 = .ok (.iload_n 2, 1) := by decide +kernel
theorem dX3_takesWord_13 : decode cX3_takesWord 13 = .ok (.invokevirtual 49, 3) := by decide +kernel
theorem dX3_takesWord_16 : decode cX3_takesWord 16 = .ok (.invokevirtual 32, 3) := by decide +kernel
theorem dX3_takesWord_19 : decode cX3_takesWord 19 = .ok (.ifCond .ne 5, 3) := by decide +kernel
theorem dX3_takesWord_22 : decode cX3_takesWord 22 = .ok (.iconst 0, 1) := by decide +kernel
theorem dX3_takesWord_23 : decode cX3_takesWord 23 = .ok (.ireturn, 1) := by decide +kernel
theorem dX3_takesWord_24 : decode cX3_takesWord 24 = .ok (.iinc 2 1, 3) := by decide +kernel
theorem dX3_takesWord_27 : decode cX3_takesWord 27 = .ok (.goto (-25), 3) := by decide +kernel
theorem dX3_takesWord_30 : decode cX3_takesWord 30 = .ok (.iconst 1, 1) := by decide +kernel
theorem dX3_takesWord_31 : decode cX3_takesWord 31 = .ok (.ireturn, 1) := by decide +kernel
theorem dX3_readsClause_0 : decode cX3_readsClause 0 = .ok (.ldc 53, 2) := by decide +kernel
theorem dX3_readsClause_2 : decode cX3_readsClause 2 = .ok (.aload_n 0, 1) := by decide +kernel
theorem dX3_readsClause_3 : decode cX3_readsClause 3 = .ok (.invokevirtual 40, 3) := by decide +kernel
theorem dX3_readsClause_6 : decode cX3_readsClause 6 = .ok (.invokevirtual 55, 3) := by decide +kernel
theorem dX3_readsClause_9 : decode cX3_readsClause 9 = .ok (.istore_n 1, 1) := by decide +kernel
theorem dX3_readsClause_10 : decode cX3_readsClause 10 = .ok (.iload_n 1, 1) := by decide +kernel
theorem dX3_readsClause_11 : decode cX3_readsClause 11 = .ok (.ifCond .lt 31, 3) := by decide +kernel
theorem dX3_readsClause_14 : decode cX3_readsClause 14 = .ok (.aload_n 0, 1) := by decide +kernel
theorem dX3_readsClause_15 : decode cX3_readsClause 15 = .ok (.iload_n 1, 1) := by decide +kernel
theorem dX3_readsClause_16 : decode cX3_readsClause 16 = .ok (.ifCond .ne 8, 3) := by decide +kernel
theorem dX3_readsClause_19 : decode cX3_readsClause 19 = .ok (.ldc 59, 2) := by decide +kernel
theorem dX3_readsClause_21 : decode cX3_readsClause 21 = .ok (.goto 15, 3) := by decide +kernel
theorem dX3_readsClause_24 : decode cX3_readsClause 24 = .ok (.iload_n 1, 1) := by decide +kernel
theorem dX3_readsClause_25 : decode cX3_readsClause 25 = .ok (.iconst 1, 1) := by decide +kernel
theorem dX3_readsClause_26 : decode cX3_readsClause 26 = .ok (.if_icmp .ne 8, 3) := by decide +kernel
theorem dX3_readsClause_29 : decode cX3_readsClause 29 = .ok (.ldc 61, 2) := by decide +kernel
theorem dX3_readsClause_31 : decode cX3_readsClause 31 = .ok (.goto 5, 3) := by decide +kernel
theorem dX3_readsClause_34 : decode cX3_readsClause 34 = .ok (.ldc 63, 2) := by decide +kernel
theorem dX3_readsClause_36 : decode cX3_readsClause 36 = .ok (.invokevirtual 65, 3) := by decide +kernel
theorem dX3_readsClause_39 : decode cX3_readsClause 39 = .ok (.ifCond .ne 5, 3) := by decide +kernel
theorem dX3_readsClause_42 : decode cX3_readsClause 42 = .ok (.iconst 0, 1) := by decide +kernel
theorem dX3_readsClause_43 : decode cX3_readsClause 43 = .ok (.ireturn, 1) := by decide +kernel
theorem dX3_readsClause_44 : decode cX3_readsClause 44 = .ok (.aload_n 0, 1) := by decide +kernel
theorem dX3_readsClause_45 : decode cX3_readsClause 45 = .ok (.invokevirtual 69, 3) := by decide +kernel
theorem dX3_readsClause_48 : decode cX3_readsClause 48 = .ok (.istore_n 2, 1) := by decide +kernel
theorem dX3_readsClause_49 : decode cX3_readsClause 49 = .ok (.iload_n 2, 1) := by decide +kernel
theorem dX3_readsClause_50 : decode cX3_readsClause 50 = .ok (.ifCond .ge 5, 3) := by decide +kernel
theorem dX3_readsClause_53 : decode cX3_readsClause 53 = .ok (.iconst 0, 1) := by decide +kernel
theorem dX3_readsClause_54 : decode cX3_readsClause 54 = .ok (.ireturn, 1) := by decide +kernel
theorem dX3_readsClause_55 : decode cX3_readsClause 55 = .ok (.iload_n 1, 1) := by decide +kernel
theorem dX3_readsClause_56 : decode cX3_readsClause 56 = .ok (.iconst 2, 1) := by decide +kernel
theorem dX3_readsClause_57 : decode cX3_readsClause 57 = .ok (.if_icmp .eq 22, 3) := by decide +kernel
theorem dX3_readsClause_60 : decode cX3_readsClause 60 = .ok (.aload_n 0, 1) := by decide +kernel
theorem dX3_readsClause_61 : decode cX3_readsClause 61 = .ok (.bipush 32, 2) := by decide +kernel
theorem dX3_readsClause_63 : decode cX3_readsClause 63 = .ok (.invokevirtual 32, 3) := by decide +kernel
theorem dX3_readsClause_66 : decode cX3_readsClause 66 = .ok (.ifCond .eq 11, 3) := by decide +kernel
theorem dX3_readsClause_69 : decode cX3_readsClause 69 = .ok (.aload_n 0, 1) := by decide +kernel
theorem dX3_readsClause_70 : decode cX3_readsClause 70 = .ok (.iconst 0, 1) := by decide +kernel
theorem dX3_readsClause_71 : decode cX3_readsClause 71 = .ok (.invokevirtual 72, 3) := by decide +kernel
theorem dX3_readsClause_74 : decode cX3_readsClause 74 = .ok (.ifCond .ne 5, 3) := by decide +kernel
theorem dX3_readsClause_77 : decode cX3_readsClause 77 = .ok (.iconst 0, 1) := by decide +kernel
theorem dX3_readsClause_78 : decode cX3_readsClause 78 = .ok (.ireturn, 1) := by decide +kernel
theorem dX3_readsClause_79 : decode cX3_readsClause 79 = .ok (.aload_n 0, 1) := by decide +kernel
theorem dX3_readsClause_80 : decode cX3_readsClause 80 = .ok (.getfield 18, 3) := by decide +kernel
theorem dX3_readsClause_83 : decode cX3_readsClause 83 = .ok (.iload_n 1, 1) := by decide +kernel
theorem dX3_readsClause_84 : decode cX3_readsClause 84 = .ok (.iload_n 2, 1) := by decide +kernel
theorem dX3_readsClause_85 : decode cX3_readsClause 85 = .ok (.invokevirtual 76, 3) := by decide +kernel
theorem dX3_readsClause_88 : decode cX3_readsClause 88 = .ok (.iconst 1, 1) := by decide +kernel
theorem dX3_readsClause_89 : decode cX3_readsClause 89 = .ok (.ireturn, 1) := by decide +kernel
theorem dX3_takeNumber_0 : decode cX3_takeNumber 0 = .ok (.iconst (-1), 1) := by decide +kernel
theorem dX3_takeNumber_1 : decode cX3_takeNumber 1 = .ok (.istore_n 1, 1) := by decide +kernel
theorem dX3_takeNumber_2 : decode cX3_takeNumber 2 = .ok (.iconst 0, 1) := by decide +kernel
theorem dX3_takeNumber_3 : decode cX3_takeNumber 3 = .ok (.istore_n 2, 1) := by decide +kernel
theorem dX3_takeNumber_4 : decode cX3_takeNumber 4 = .ok (.iload_n 2, 1) := by decide +kernel
theorem dX3_takeNumber_5 : decode cX3_takeNumber 5 = .ok (.iconst 2, 1) := by decide +kernel
theorem dX3_takeNumber_6 : decode cX3_takeNumber 6 = .ok (.if_icmp .ge 54, 3) := by decide +kernel
theorem dX3_takeNumber_9 : decode cX3_takeNumber 9 = .ok (.aload_n 0, 1) := by decide +kernel
theorem dX3_takeNumber_10 : decode cX3_takeNumber 10 = .ok (.invokevirtual 40, 3) := by decide +kernel
theorem dX3_takeNumber_13 : decode cX3_takeNumber 13 = .ok (.bipush 48, 2) := by decide +kernel
theorem dX3_takeNumber_15 : decode cX3_takeNumber 15 = .ok (.if_icmp .lt 45, 3) := by decide +kernel
theorem dX3_takeNumber_18 : decode cX3_takeNumber 18 = .ok (.aload_n 0, 1) := by decide +kernel
theorem dX3_takeNumber_19 : decode cX3_takeNumber 19 = .ok (.invokevirtual 40, 3) := by decide +kernel
theorem dX3_takeNumber_22 : decode cX3_takeNumber 22 = .ok (.bipush 57, 2) := by decide +kernel
theorem dX3_takeNumber_24 : decode cX3_takeNumber 24 = .ok (.if_icmp .gt 36, 3) := by decide +kernel
theorem dX3_takeNumber_27 : decode cX3_takeNumber 27 = .ok (.iload_n 1, 1) := by decide +kernel
theorem dX3_takeNumber_28 : decode cX3_takeNumber 28 = .ok (.iconst 0, 1) := by decide +kernel
theorem dX3_takeNumber_29 : decode cX3_takeNumber 29 = .ok (.invokestatic 80, 3) := by decide +kernel
theorem dX3_takeNumber_32 : decode cX3_takeNumber 32 = .ok (.bipush 10, 2) := by decide +kernel
theorem dX3_takeNumber_34 : decode cX3_takeNumber 34 = .ok (.imul, 1) := by decide +kernel
theorem dX3_takeNumber_35 : decode cX3_takeNumber 35 = .ok (.aload_n 0, 1) := by decide +kernel
theorem dX3_takeNumber_36 : decode cX3_takeNumber 36 = .ok (.invokevirtual 40, 3) := by decide +kernel
theorem dX3_takeNumber_39 : decode cX3_takeNumber 39 = .ok (.iadd, 1) := by decide +kernel
theorem dX3_takeNumber_40 : decode cX3_takeNumber 40 = .ok (.bipush 48, 2) := by decide +kernel
theorem dX3_takeNumber_42 : decode cX3_takeNumber 42 = .ok (.isub, 1) := by decide +kernel
theorem dX3_takeNumber_43 : decode cX3_takeNumber 43 = .ok (.istore_n 1, 1) := by decide +kernel
theorem dX3_takeNumber_44 : decode cX3_takeNumber 44 = .ok (.aload_n 0, 1) := by decide +kernel
theorem dX3_takeNumber_45 : decode cX3_takeNumber 45 = .ok (.dup, 1) := by decide +kernel
theorem dX3_takeNumber_46 : decode cX3_takeNumber 46 = .ok (.getfield 26, 3) := by decide +kernel
theorem dX3_takeNumber_49 : decode cX3_takeNumber 49 = .ok (.iconst 1, 1) := by decide +kernel
theorem dX3_takeNumber_50 : decode cX3_takeNumber 50 = .ok (.iadd, 1) := by decide +kernel
theorem dX3_takeNumber_51 : decode cX3_takeNumber 51 = .ok (.putfield 26, 3) := by decide +kernel
theorem dX3_takeNumber_54 : decode cX3_takeNumber 54 = .ok (.iinc 2 1, 3) := by decide +kernel
theorem dX3_takeNumber_57 : decode cX3_takeNumber 57 = .ok (.goto (-53), 3) := by decide +kernel
theorem dX3_takeNumber_60 : decode cX3_takeNumber 60 = .ok (.iload_n 1, 1) := by decide +kernel
theorem dX3_takeNumber_61 : decode cX3_takeNumber 61 = .ok (.ireturn, 1) := by decide +kernel
theorem dX3_readsEither_0 : decode cX3_readsEither 0 = .ok (.iconst 0, 1) := by decide +kernel
theorem dX3_readsEither_1 : decode cX3_readsEither 1 = .ok (.istore_n 2, 1) := by decide +kernel
theorem dX3_readsEither_2 : decode cX3_readsEither 2 = .ok (.iconst 0, 1) := by decide +kernel
theorem dX3_readsEither_3 : decode cX3_readsEither 3 = .ok (.istore_n 3, 1) := by decide +kernel
theorem dX3_readsEither_4 : decode cX3_readsEither 4 = .ok (.iconst 0, 1) := by decide +kernel
theorem dX3_readsEither_5 : decode cX3_readsEither 5 = .ok (.istore 4, 2) := by decide +kernel
theorem dX3_readsEither_7 : decode cX3_readsEither 7 = .ok (.iload 4, 2) := by decide +kernel
theorem dX3_readsEither_9 : decode cX3_readsEither 9 = .ok (.bipush 100, 2) := by decide +kernel
theorem dX3_readsEither_11 : decode cX3_readsEither 11 = .ok (.if_icmp .ge 69, 3) := by decide +kernel
theorem dX3_readsEither_14 : decode cX3_readsEither 14 = .ok (.aload_n 0, 1) := by decide +kernel
theorem dX3_readsEither_15 : decode cX3_readsEither 15 = .ok (.iload_n 1, 1) := by decide +kernel
theorem dX3_readsEither_16 : decode cX3_readsEither 16 = .ok (.invokevirtual 86, 3) := by decide +kernel
theorem dX3_readsEither_19 : decode cX3_readsEither 19 = .ok (.ifCond .ne 5, 3) := by decide +kernel
theorem dX3_readsEither_22 : decode cX3_readsEither 22 = .ok (.iconst 0, 1) := by decide +kernel
theorem dX3_readsEither_23 : decode cX3_readsEither 23 = .ok (.ireturn, 1) := by decide +kernel
theorem dX3_readsEither_24 : decode cX3_readsEither 24 = .ok (.iload_n 2, 1) := by decide +kernel
theorem dX3_readsEither_25 : decode cX3_readsEither 25 = .ok (.ifCond .eq 12, 3) := by decide +kernel
theorem dX3_readsEither_28 : decode cX3_readsEither 28 = .ok (.aload_n 0, 1) := by decide +kernel
theorem dX3_readsEither_29 : decode cX3_readsEither 29 = .ok (.getfield 18, 3) := by decide +kernel
theorem dX3_readsEither_32 : decode cX3_readsEither 32 = .ok (.bipush (-2), 2) := by decide +kernel
theorem dX3_readsEither_34 : decode cX3_readsEither 34 = .ok (.invokevirtual 89, 3) := by decide +kernel
theorem dX3_readsEither_37 : decode cX3_readsEither 37 = .ok (.aload_n 0, 1) := by decide +kernel
theorem dX3_readsEither_38 : decode cX3_readsEither 38 = .ok (.bipush 38, 2) := by decide +kernel
theorem dX3_readsEither_40 : decode cX3_readsEither 40 = .ok (.invokevirtual 32, 3) := by decide +kernel
theorem dX3_readsEither_43 : decode cX3_readsEither 43 = .ok (.istore_n 2, 1) := by decide +kernel
theorem dX3_readsEither_44 : decode cX3_readsEither 44 = .ok (.iload_n 2, 1) := by decide +kernel
theorem dX3_readsEither_45 : decode cX3_readsEither 45 = .ok (.ifCond .ne 29, 3) := by decide +kernel
theorem dX3_readsEither_48 : decode cX3_readsEither 48 = .ok (.iload_n 3, 1) := by decide +kernel
theorem dX3_readsEither_49 : decode cX3_readsEither 49 = .ok (.ifCond .eq 12, 3) := by decide +kernel
theorem dX3_readsEither_52 : decode cX3_readsEither 52 = .ok (.aload_n 0, 1) := by decide +kernel
theorem dX3_readsEither_53 : decode cX3_readsEither 53 = .ok (.getfield 18, 3) := by decide +kernel
theorem dX3_readsEither_56 : decode cX3_readsEither 56 = .ok (.bipush (-3), 2) := by decide +kernel
theorem dX3_readsEither_58 : decode cX3_readsEither 58 = .ok (.invokevirtual 89, 3) := by decide +kernel
theorem dX3_readsEither_61 : decode cX3_readsEither 61 = .ok (.aload_n 0, 1) := by decide +kernel
theorem dX3_readsEither_62 : decode cX3_readsEither 62 = .ok (.bipush 124, 2) := by decide +kernel
theorem dX3_readsEither_64 : decode cX3_readsEither 64 = .ok (.invokevirtual 32, 3) := by decide +kernel
theorem dX3_readsEither_67 : decode cX3_readsEither 67 = .ok (.istore_n 3, 1) := by decide +kernel
theorem dX3_readsEither_68 : decode cX3_readsEither 68 = .ok (.iload_n 3, 1) := by decide +kernel
theorem dX3_readsEither_69 : decode cX3_readsEither 69 = .ok (.ifCond .ne 5, 3) := by decide +kernel
theorem dX3_readsEither_72 : decode cX3_readsEither 72 = .ok (.iconst 1, 1) := by decide +kernel
theorem dX3_readsEither_73 : decode cX3_readsEither 73 = .ok (.ireturn, 1) := by decide +kernel
theorem dX3_readsEither_74 : decode cX3_readsEither 74 = .ok (.iinc 4 1, 3) := by decide +kernel
theorem dX3_readsEither_77 : decode cX3_readsEither 77 = .ok (.goto (-70), 3) := by decide +kernel
theorem dX3_readsEither_80 : decode cX3_readsEither 80 = .ok (.iconst 0, 1) := by decide +kernel
theorem dX3_readsEither_81 : decode cX3_readsEither 81 = .ok (.ireturn, 1) := by decide +kernel
theorem dX3_readsPart_0 : decode cX3_readsPart 0 = .ok (.aload_n 0, 1) := by decide +kernel
theorem dX3_readsPart_1 : decode cX3_readsPart 1 = .ok (.invokevirtual 40, 3) := by decide +kernel
theorem dX3_readsPart_4 : decode cX3_readsPart 4 = .ok (.istore_n 2, 1) := by decide +kernel
theorem dX3_readsPart_5 : decode cX3_readsPart 5 = .ok (.iload_n 2, 1) := by decide +kernel
theorem dX3_readsPart_6 : decode cX3_readsPart 6 = .ok (.bipush 33, 2) := by decide +kernel
theorem dX3_readsPart_8 : decode cX3_readsPart 8 = .ok (.if_icmp .eq 14, 3) := by decide +kernel
theorem dX3_readsPart_11 : decode cX3_readsPart 11 = .ok (.iload_n 2, 1) := by decide +kernel
theorem dX3_readsPart_12 : decode cX3_readsPart 12 = .ok (.bipush 40, 2) := by decide +kernel
theorem dX3_readsPart_14 : decode cX3_readsPart 14 = .ok (.if_icmp .eq 8, 3) := by decide +kernel
theorem dX3_readsPart_17 : decode cX3_readsPart 17 = .ok (.aload_n 0, 1) := by decide +kernel
theorem dX3_readsPart_18 : decode cX3_readsPart 18 = .ok (.invokevirtual 93, 3) := by decide +kernel
theorem dX3_readsPart_21 : decode cX3_readsPart 21 = .ok (.ireturn, 1) := by decide +kernel
theorem dX3_readsPart_22 : decode cX3_readsPart 22 = .ok (.iload_n 1, 1) := by decide +kernel
theorem dX3_readsPart_23 : decode cX3_readsPart 23 = .ok (.iconst 4, 1) := by decide +kernel
theorem dX3_readsPart_24 : decode cX3_readsPart 24 = .ok (.if_icmp .lt 5, 3) := by decide +kernel
theorem dX3_readsPart_27 : decode cX3_readsPart 27 = .ok (.iconst 0, 1) := by decide +kernel
theorem dX3_readsPart_28 : decode cX3_readsPart 28 = .ok (.ireturn, 1) := by decide +kernel
theorem dX3_readsPart_29 : decode cX3_readsPart 29 = .ok (.aload_n 0, 1) := by decide +kernel
theorem dX3_readsPart_30 : decode cX3_readsPart 30 = .ok (.dup, 1) := by decide +kernel
theorem dX3_readsPart_31 : decode cX3_readsPart 31 = .ok (.getfield 26, 3) := by decide +kernel
theorem dX3_readsPart_34 : decode cX3_readsPart 34 = .ok (.iconst 1, 1) := by decide +kernel
theorem dX3_readsPart_35 : decode cX3_readsPart 35 = .ok (.iadd, 1) := by decide +kernel
theorem dX3_readsPart_36 : decode cX3_readsPart 36 = .ok (.putfield 26, 3) := by decide +kernel
theorem dX3_readsPart_39 : decode cX3_readsPart 39 = .ok (.iload_n 2, 1) := by decide +kernel
theorem dX3_readsPart_40 : decode cX3_readsPart 40 = .ok (.bipush 40, 2) := by decide +kernel
theorem dX3_readsPart_42 : decode cX3_readsPart 42 = .ok (.if_icmp .ne 28, 3) := by decide +kernel
theorem dX3_readsPart_45 : decode cX3_readsPart 45 = .ok (.aload_n 0, 1) := by decide +kernel
theorem dX3_readsPart_46 : decode cX3_readsPart 46 = .ok (.iload_n 1, 1) := by decide +kernel
theorem dX3_readsPart_47 : decode cX3_readsPart 47 = .ok (.iconst 1, 1) := by decide +kernel
theorem dX3_readsPart_48 : decode cX3_readsPart 48 = .ok (.iadd, 1) := by decide +kernel
theorem dX3_readsPart_49 : decode cX3_readsPart 49 = .ok (.invokevirtual 72, 3) := by decide +kernel
theorem dX3_readsPart_52 : decode cX3_readsPart 52 = .ok (.ifCond .eq 16, 3) := by decide +kernel
theorem dX3_readsPart_55 : decode cX3_readsPart 55 = .ok (.aload_n 0, 1) := by decide +kernel
theorem dX3_readsPart_56 : decode cX3_readsPart 56 = .ok (.bipush 41, 2) := by decide +kernel
theorem dX3_readsPart_58 : decode cX3_readsPart 58 = .ok (.invokevirtual 32, 3) := by decide +kernel
theorem dX3_readsPart_61 : decode cX3_readsPart 61 = .ok (.ifCond .eq 7, 3) := by decide +kernel
theorem dX3_readsPart_64 : decode cX3_readsPart 64 = .ok (.iconst 1, 1) := by decide +kernel
theorem dX3_readsPart_65 : decode cX3_readsPart 65 = .ok (.goto 4, 3) := by decide +kernel
theorem dX3_readsPart_68 : decode cX3_readsPart 68 = .ok (.iconst 0, 1) := by decide +kernel
theorem dX3_readsPart_69 : decode cX3_readsPart 69 = .ok (.ireturn, 1) := by decide +kernel
theorem dX3_readsPart_70 : decode cX3_readsPart 70 = .ok (.aload_n 0, 1) := by decide +kernel
theorem dX3_readsPart_71 : decode cX3_readsPart 71 = .ok (.iload_n 1, 1) := by decide +kernel
theorem dX3_readsPart_72 : decode cX3_readsPart 72 = .ok (.iconst 1, 1) := by decide +kernel
theorem dX3_readsPart_73 : decode cX3_readsPart 73 = .ok (.iadd, 1) := by decide +kernel
theorem dX3_readsPart_74 : decode cX3_readsPart 74 = .ok (.invokevirtual 86, 3) := by decide +kernel
theorem dX3_readsPart_77 : decode cX3_readsPart 77 = .ok (.ifCond .ne 5, 3) := by decide +kernel
theorem dX3_readsPart_80 : decode cX3_readsPart 80 = .ok (.iconst 0, 1) := by decide +kernel
theorem dX3_readsPart_81 : decode cX3_readsPart 81 = .ok (.ireturn, 1) := by decide +kernel
theorem dX3_readsPart_82 : decode cX3_readsPart 82 = .ok (.aload_n 0, 1) := by decide +kernel
theorem dX3_readsPart_83 : decode cX3_readsPart 83 = .ok (.getfield 18, 3) := by decide +kernel
theorem dX3_readsPart_86 : decode cX3_readsPart 86 = .ok (.iconst (-1), 1) := by decide +kernel
theorem dX3_readsPart_87 : decode cX3_readsPart 87 = .ok (.invokevirtual 89, 3) := by decide +kernel
theorem dX3_readsPart_90 : decode cX3_readsPart 90 = .ok (.iconst 1, 1) := by decide +kernel
theorem dX3_readsPart_91 : decode cX3_readsPart 91 = .ok (.ireturn, 1) := by decide +kernel
theorem dX3_readsTest_0 : decode cX3_readsTest 0 = .ok (.ldc 96, 2) := by decide +kernel
theorem dX3_readsTest_2 : decode cX3_readsTest 2 = .ok (.aload_n 0, 1) := by decide +kernel
theorem dX3_readsTest_3 : decode cX3_readsTest 3 = .ok (.invokevirtual 40, 3) := by decide +kernel
theorem dX3_readsTest_6 : decode cX3_readsTest 6 = .ok (.invokevirtual 55, 3) := by decide +kernel
theorem dX3_readsTest_9 : decode cX3_readsTest 9 = .ok (.istore_n 1, 1) := by decide +kernel
theorem dX3_readsTest_10 : decode cX3_readsTest 10 = .ok (.iload_n 1, 1) := by decide +kernel
theorem dX3_readsTest_11 : decode cX3_readsTest 11 = .ok (.ifCond .ge 5, 3) := by decide +kernel
theorem dX3_readsTest_14 : decode cX3_readsTest 14 = .ok (.iconst 0, 1) := by decide +kernel
theorem dX3_readsTest_15 : decode cX3_readsTest 15 = .ok (.ireturn, 1) := by decide +kernel
theorem dX3_readsTest_16 : decode cX3_readsTest 16 = .ok (.aload_n 0, 1) := by decide +kernel
theorem dX3_readsTest_17 : decode cX3_readsTest 17 = .ok (.dup, 1) := by decide +kernel
theorem dX3_readsTest_18 : decode cX3_readsTest 18 = .ok (.getfield 26, 3) := by decide +kernel
theorem dX3_readsTest_21 : decode cX3_readsTest 21 = .ok (.iconst 1, 1) := by decide +kernel
theorem dX3_readsTest_22 : decode cX3_readsTest 22 = .ok (.iadd, 1) := by decide +kernel
theorem dX3_readsTest_23 : decode cX3_readsTest 23 = .ok (.putfield 26, 3) := by decide +kernel
theorem dX3_readsTest_26 : decode cX3_readsTest 26 = .ok (.ldc 98, 2) := by decide +kernel
theorem dX3_readsTest_28 : decode cX3_readsTest 28 = .ok (.aload_n 0, 1) := by decide +kernel
theorem dX3_readsTest_29 : decode cX3_readsTest 29 = .ok (.invokevirtual 40, 3) := by decide +kernel
theorem dX3_readsTest_32 : decode cX3_readsTest 32 = .ok (.invokevirtual 55, 3) := by decide +kernel
theorem dX3_readsTest_35 : decode cX3_readsTest 35 = .ok (.istore_n 2, 1) := by decide +kernel
theorem dX3_readsTest_36 : decode cX3_readsTest 36 = .ok (.iload_n 2, 1) := by decide +kernel
theorem dX3_readsTest_37 : decode cX3_readsTest 37 = .ok (.ifCond .ge 5, 3) := by decide +kernel
theorem dX3_readsTest_40 : decode cX3_readsTest 40 = .ok (.iconst 0, 1) := by decide +kernel
theorem dX3_readsTest_41 : decode cX3_readsTest 41 = .ok (.ireturn, 1) := by decide +kernel
theorem dX3_readsTest_42 : decode cX3_readsTest 42 = .ok (.aload_n 0, 1) := by decide +kernel
theorem dX3_readsTest_43 : decode cX3_readsTest 43 = .ok (.dup, 1) := by decide +kernel
theorem dX3_readsTest_44 : decode cX3_readsTest 44 = .ok (.getfield 26, 3) := by decide +kernel
theorem dX3_readsTest_47 : decode cX3_readsTest 47 = .ok (.iconst 1, 1) := by decide +kernel
theorem dX3_readsTest_48 : decode cX3_readsTest 48 = .ok (.iadd, 1) := by decide +kernel
theorem dX3_readsTest_49 : decode cX3_readsTest 49 = .ok (.putfield 26, 3) := by decide +kernel
theorem dX3_readsTest_52 : decode cX3_readsTest 52 = .ok (.aload_n 0, 1) := by decide +kernel
theorem dX3_readsTest_53 : decode cX3_readsTest 53 = .ok (.invokevirtual 69, 3) := by decide +kernel
theorem dX3_readsTest_56 : decode cX3_readsTest 56 = .ok (.istore_n 3, 1) := by decide +kernel
theorem dX3_readsTest_57 : decode cX3_readsTest 57 = .ok (.iload_n 3, 1) := by decide +kernel
theorem dX3_readsTest_58 : decode cX3_readsTest 58 = .ok (.ifCond .ge 5, 3) := by decide +kernel
theorem dX3_readsTest_61 : decode cX3_readsTest 61 = .ok (.iconst 0, 1) := by decide +kernel
theorem dX3_readsTest_62 : decode cX3_readsTest 62 = .ok (.ireturn, 1) := by decide +kernel
theorem dX3_readsTest_63 : decode cX3_readsTest 63 = .ok (.aload_n 0, 1) := by decide +kernel
theorem dX3_readsTest_64 : decode cX3_readsTest 64 = .ok (.getfield 18, 3) := by decide +kernel
theorem dX3_readsTest_67 : decode cX3_readsTest 67 = .ok (.iload_n 1, 1) := by decide +kernel
theorem dX3_readsTest_68 : decode cX3_readsTest 68 = .ok (.iload_n 2, 1) := by decide +kernel
theorem dX3_readsTest_69 : decode cX3_readsTest 69 = .ok (.iload_n 3, 1) := by decide +kernel
theorem dX3_readsTest_70 : decode cX3_readsTest 70 = .ok (.invokevirtual 100, 3) := by decide +kernel
theorem dX3_readsTest_73 : decode cX3_readsTest 73 = .ok (.iconst 1, 1) := by decide +kernel
theorem dX3_readsTest_74 : decode cX3_readsTest 74 = .ok (.ireturn, 1) := by decide +kernel
theorem dX4_init_0 : decode cX4_init 0 = .ok (.aload_n 0, 1) := by decide +kernel
theorem dX4_init_1 : decode cX4_init 1 = .ok (.invokespecial 1, 3) := by decide +kernel
theorem dX4_init_4 : decode cX4_init 4 = .ok (.aload_n 0, 1) := by decide +kernel
theorem dX4_init_5 : decode cX4_init 5 = .ok (.iconst (-1), 1) := by decide +kernel
theorem dX4_init_6 : decode cX4_init 6 = .ok (.putfield 9, 3) := by decide +kernel
theorem dX4_init_9 : decode cX4_init 9 = .ok (.aload_n 0, 1) := by decide +kernel
theorem dX4_init_10 : decode cX4_init 10 = .ok (.bipush 60, 2) := by decide +kernel
theorem dX4_init_12 : decode cX4_init 12 = .ok (.newarray .long, 2) := by decide +kernel
theorem dX4_init_14 : decode cX4_init 14 = .ok (.putfield 13, 3) := by decide +kernel
theorem dX4_init_17 : decode cX4_init 17 = .ok (.return_, 1) := by decide +kernel
theorem dX4_become_0 : decode cX4_become 0 = .ok (.aload_n 0, 1) := by decide +kernel
theorem dX4_become_1 : decode cX4_become 1 = .ok (.iload_n 1, 1) := by decide +kernel
theorem dX4_become_2 : decode cX4_become 2 = .ok (.putfield 9, 3) := by decide +kernel
theorem dX4_become_5 : decode cX4_become 5 = .ok (.aload_n 0, 1) := by decide +kernel
theorem dX4_become_6 : decode cX4_become 6 = .ok (.iload_n 2, 1) := by decide +kernel
theorem dX4_become_7 : decode cX4_become 7 = .ok (.putfield 17, 3) := by decide +kernel
theorem dX4_become_10 : decode cX4_become 10 = .ok (.aload_n 0, 1) := by decide +kernel
theorem dX4_become_11 : decode cX4_become 11 = .ok (.getfield 13, 3) := by decide +kernel
theorem dX4_become_14 : decode cX4_become 14 = .ok (.lconst 0, 1) := by decide +kernel
theorem dX4_become_15 : decode cX4_become 15 = .ok (.invokestatic 20, 3) := by decide +kernel
theorem dX4_become_18 : decode cX4_become 18 = .ok (.return_, 1) := by decide +kernel
theorem dX4_spans_0 : decode cX4_spans 0 = .ok (.iload_n 1, 1) := by decide +kernel
theorem dX4_spans_1 : decode cX4_spans 1 = .ok (.ifCond .lt 21, 3) := by decide +kernel
theorem dX4_spans_4 : decode cX4_spans 4 = .ok (.iload_n 2, 1) := by decide +kernel
theorem dX4_spans_5 : decode cX4_spans 5 = .ok (.ifCond .lt 17, 3) := by decide +kernel
theorem dX4_spans_8 : decode cX4_spans 8 = .ok (.iload_n 1, 1) := by decide +kernel
theorem dX4_spans_9 : decode cX4_spans 9 = .ok (.aload_n 0, 1) := by decide +kernel
theorem dX4_spans_10 : decode cX4_spans 10 = .ok (.getfield 17, 3) := by decide +kernel
theorem dX4_spans_13 : decode cX4_spans 13 = .ok (.iload_n 2, 1) := by decide +kernel
theorem dX4_spans_14 : decode cX4_spans 14 = .ok (.isub, 1) := by decide +kernel
theorem dX4_spans_15 : decode cX4_spans 15 = .ok (.if_icmp .gt 7, 3) := by decide +kernel
theorem dX4_spans_18 : decode cX4_spans 18 = .ok (.iconst 1, 1) := by decide +kernel
theorem dX4_spans_19 : decode cX4_spans 19 = .ok (.goto 4, 3) := by decide +kernel
theorem dX4_spans_22 : decode cX4_spans 22 = .ok (.iconst 0, 1) := by decide +kernel
theorem dX4_spans_23 : decode cX4_spans 23 = .ok (.ireturn, 1) := by decide +kernel
theorem dX4_asItem_0 : decode cX4_asItem 0 = .ok (.aload_n 0, 1) := by decide +kernel
theorem dX4_asItem_1 : decode cX4_asItem 1 = .ok (.getfield 9, 3) := by decide +kernel
theorem dX4_asItem_4 : decode cX4_asItem 4 = .ok (.tableswitch 62 0 4 #[36, 41, 46, 62, 50], 36) := by decide +kernel
theorem dX4_asItem_40 : decode cX4_asItem 40 = .ok (.lload_n 1, 1) := by decide +kernel
theorem dX4_asItem_41 : decode cX4_asItem 41 = .ok (.l2i, 1) := by decide +kernel
theorem dX4_asItem_42 : decode cX4_asItem 42 = .ok (.i2b, 1) := by decide +kernel
theorem dX4_asItem_43 : decode cX4_asItem 43 = .ok (.i2l, 1) := by decide +kernel
theorem dX4_asItem_44 : decode cX4_asItem 44 = .ok (.lreturn, 1) := by decide +kernel
theorem dX4_asItem_45 : decode cX4_asItem 45 = .ok (.lload_n 1, 1) := by decide +kernel
theorem dX4_asItem_46 : decode cX4_asItem 46 = .ok (.l2i, 1) := by decide +kernel
theorem dX4_asItem_47 : decode cX4_asItem 47 = .ok (.i2s, 1) := by decide +kernel
theorem dX4_asItem_48 : decode cX4_asItem 48 = .ok (.i2l, 1) := by decide +kernel
theorem dX4_asItem_49 : decode cX4_asItem 49 = .ok (.lreturn, 1) := by decide +kernel
theorem dX4_asItem_50 : decode cX4_asItem 50 = .ok (.lload_n 1, 1) := by decide +kernel
theorem dX4_asItem_51 : decode cX4_asItem 51 = .ok (.l2i, 1) := by decide +kernel
theorem dX4_asItem_52 : decode cX4_asItem 52 = .ok (.i2l, 1) := by decide +kernel
theorem dX4_asItem_53 : decode cX4_asItem 53 = .ok (.lreturn, 1) := by decide +kernel
theorem dX4_asItem_54 : decode cX4_asItem 54 = .ok (.lload_n 1, 1) := by decide +kernel
theorem dX4_asItem_55 : decode cX4_asItem 55 = .ok (.lconst 0, 1) := by decide +kernel
theorem dX4_asItem_56 : decode cX4_asItem 56 = .ok (.lcmp, 1) := by decide +kernel
theorem dX4_asItem_57 : decode cX4_asItem 57 = .ok (.ifCond .eq 7, 3) := by decide +kernel
theorem dX4_asItem_60 : decode cX4_asItem 60 = .ok (.lconst 1, 1) := by decide +kernel
theorem dX4_asItem_61 : decode cX4_asItem 61 = .ok (.goto 4, 3) := by decide +kernel
theorem dX4_asItem_64 : decode cX4_asItem 64 = .ok (.lconst 0, 1) := by decide +kernel
theorem dX4_asItem_65 : decode cX4_asItem 65 = .ok (.lreturn, 1) := by decide +kernel
theorem dX4_asItem_66 : decode cX4_asItem 66 = .ok (.lload_n 1, 1) := by decide +kernel
theorem dX4_asItem_67 : decode cX4_asItem 67 = .ok (.lreturn, 1) := by decide +kernel
theorem dX5_init_0 : decode cX5_init 0 = .ok (.aload_n 0, 1) := by decide +kernel
theorem dX5_init_1 : decode cX5_init 1 = .ok (.invokespecial 3, 3) := by decide +kernel
theorem dX5_init_4 : decode cX5_init 4 = .ok (.aload_n 0, 1) := by decide +kernel
theorem dX5_init_5 : decode cX5_init 5 = .ok (.bipush 7, 2) := by decide +kernel
theorem dX5_init_7 : decode cX5_init 7 = .ok (.newarray .int, 2) := by decide +kernel
theorem dX5_init_9 : decode cX5_init 9 = .ok (.putfield 9, 3) := by decide +kernel
theorem dX5_init_12 : decode cX5_init 12 = .ok (.aload_n 0, 1) := by decide +kernel
theorem dX5_init_13 : decode cX5_init 13 = .ok (.bipush 7, 2) := by decide +kernel
theorem dX5_init_15 : decode cX5_init 15 = .ok (.newarray .int, 2) := by decide +kernel
theorem dX5_init_17 : decode cX5_init 17 = .ok (.putfield 15, 3) := by decide +kernel
theorem dX5_init_20 : decode cX5_init 20 = .ok (.aload_n 0, 1) := by decide +kernel
theorem dX5_init_21 : decode cX5_init 21 = .ok (.bipush 7, 2) := by decide +kernel
theorem dX5_init_23 : decode cX5_init 23 = .ok (.newarray .int, 2) := by decide +kernel
theorem dX5_init_25 : decode cX5_init 25 = .ok (.putfield 18, 3) := by decide +kernel
theorem dX5_init_28 : decode cX5_init 28 = .ok (.aload_n 0, 1) := by decide +kernel
theorem dX5_init_29 : decode cX5_init 29 = .ok (.bipush 49, 2) := by decide +kernel
theorem dX5_init_31 : decode cX5_init 31 = .ok (.newarray .int, 2) := by decide +kernel
theorem dX5_init_33 : decode cX5_init 33 = .ok (.putfield 21, 3) := by decide +kernel
theorem dX5_init_36 : decode cX5_init 36 = .ok (.aload_n 0, 1) := by decide +kernel
theorem dX5_init_37 : decode cX5_init 37 = .ok (.bipush 7, 2) := by decide +kernel
theorem dX5_init_39 : decode cX5_init 39 = .ok (.newarray .int, 2) := by decide +kernel
theorem dX5_init_41 : decode cX5_init 41 = .ok (.putfield 24, 3) := by decide +kernel
theorem dX5_init_44 : decode cX5_init 44 = .ok (.aload_n 0, 1) := by decide +kernel
theorem dX5_init_45 : decode cX5_init 45 = .ok (.bipush 8, 2) := by decide +kernel
theorem dX5_init_47 : decode cX5_init 47 = .ok (.newarray .int, 2) := by decide +kernel
theorem dX5_init_49 : decode cX5_init 49 = .ok (.putfield 27, 3) := by decide +kernel
theorem dX5_init_52 : decode cX5_init 52 = .ok (.aload_n 0, 1) := by decide +kernel
theorem dX5_init_53 : decode cX5_init 53 = .ok (.bipush 8, 2) := by decide +kernel
theorem dX5_init_55 : decode cX5_init 55 = .ok (.newarray .int, 2) := by decide +kernel
theorem dX5_init_57 : decode cX5_init 57 = .ok (.putfield 30, 3) := by decide +kernel
theorem dX5_init_60 : decode cX5_init 60 = .ok (.aload_n 0, 1) := by decide +kernel
theorem dX5_init_61 : decode cX5_init 61 = .ok (.bipush 8, 2) := by decide +kernel
theorem dX5_init_63 : decode cX5_init 63 = .ok (.newarray .int, 2) := by decide +kernel
theorem dX5_init_65 : decode cX5_init 65 = .ok (.putfield 33, 3) := by decide +kernel
theorem dX5_init_68 : decode cX5_init 68 = .ok (.aload_n 0, 1) := by decide +kernel
theorem dX5_init_69 : decode cX5_init 69 = .ok (.bipush 12, 2) := by decide +kernel
theorem dX5_init_71 : decode cX5_init 71 = .ok (.newarray .int, 2) := by decide +kernel
theorem dX5_init_73 : decode cX5_init 73 = .ok (.putfield 36, 3) := by decide +kernel
theorem dX5_init_76 : decode cX5_init 76 = .ok (.aload_n 0, 1) := by decide +kernel
theorem dX5_init_77 : decode cX5_init 77 = .ok (.iconst (-1), 1) := by decide +kernel
theorem dX5_init_78 : decode cX5_init 78 = .ok (.putfield 39, 3) := by decide +kernel
theorem dX5_init_81 : decode cX5_init 81 = .ok (.return_, 1) := by decide +kernel
theorem dX5_has_0 : decode cX5_has 0 = .ok (.iload_n 1, 1) := by decide +kernel
theorem dX5_has_1 : decode cX5_has 1 = .ok (.ifCond .lt 15, 3) := by decide +kernel
theorem dX5_has_4 : decode cX5_has 4 = .ok (.iload_n 1, 1) := by decide +kernel
theorem dX5_has_5 : decode cX5_has 5 = .ok (.aload_n 0, 1) := by decide +kernel
theorem dX5_has_6 : decode cX5_has 6 = .ok (.getfield 43, 3) := by decide +kernel
theorem dX5_has_9 : decode cX5_has 9 = .ok (.if_icmp .ge 7, 3) := by decide +kernel
theorem dX5_has_12 : decode cX5_has 12 = .ok (.iconst 1, 1) := by decide +kernel
theorem dX5_has_13 : decode cX5_has 13 = .ok (.goto 4, 3) := by decide +kernel
theorem dX5_has_16 : decode cX5_has 16 = .ok (.iconst 0, 1) := by decide +kernel
theorem dX5_has_17 : decode cX5_has 17 = .ok (.ireturn, 1) := by decide +kernel
theorem dX5_addPlace_0 : decode cX5_addPlace 0 = .ok (.aload_n 0, 1) := by decide +kernel
theorem dX5_addPlace_1 : decode cX5_addPlace 1 = .ok (.getfield 43, 3) := by decide +kernel
theorem dX5_addPlace_4 : decode cX5_addPlace 4 = .ok (.istore 4, 2) := by decide +kernel
theorem dX5_addPlace_6 : decode cX5_addPlace 6 = .ok (.aload_n 0, 1) := by decide +kernel
theorem dX5_addPlace_7 : decode cX5_addPlace 7 = .ok (.getfield 9, 3) := by decide +kernel
theorem dX5_addPlace_10 : decode cX5_addPlace 10 = .ok (.iload 4, 2) := by decide +kernel
theorem dX5_addPlace_12 : decode cX5_addPlace 12 = .ok (.iload_n 1, 1) := by decide +kernel
theorem dX5_addPlace_13 : decode cX5_addPlace 13 = .ok (.iastore, 1) := by decide +kernel
theorem dX5_addPlace_14 : decode cX5_addPlace 14 = .ok (.aload_n 0, 1) := by decide +kernel
theorem dX5_addPlace_15 : decode cX5_addPlace 15 = .ok (.getfield 15, 3) := by decide +kernel
theorem dX5_addPlace_18 : decode cX5_addPlace 18 = .ok (.iload 4, 2) := by decide +kernel
theorem dX5_addPlace_20 : decode cX5_addPlace 20 = .ok (.iload_n 2, 1) := by decide +kernel
theorem dX5_addPlace_21 : decode cX5_addPlace 21 = .ok (.iastore, 1) := by decide +kernel
theorem dX5_addPlace_22 : decode cX5_addPlace 22 = .ok (.aload_n 0, 1) := by decide +kernel
theorem dX5_addPlace_23 : decode cX5_addPlace 23 = .ok (.getfield 18, 3) := by decide +kernel
theorem dX5_addPlace_26 : decode cX5_addPlace 26 = .ok (.iload 4, 2) := by decide +kernel
theorem dX5_addPlace_28 : decode cX5_addPlace 28 = .ok (.iload_n 3, 1) := by decide +kernel
theorem dX5_addPlace_29 : decode cX5_addPlace 29 = .ok (.iastore, 1) := by decide +kernel
theorem dX5_addPlace_30 : decode cX5_addPlace 30 = .ok (.aload_n 0, 1) := by decide +kernel
theorem dX5_addPlace_31 : decode cX5_addPlace 31 = .ok (.dup, 1) := by decide +kernel
theorem dX5_addPlace_32 : decode cX5_addPlace 32 = .ok (.getfield 43, 3) := by decide +kernel
theorem dX5_addPlace_35 : decode cX5_addPlace 35 = .ok (.iconst 1, 1) := by decide +kernel
theorem dX5_addPlace_36 : decode cX5_addPlace 36 = .ok (.iadd, 1) := by decide +kernel
theorem dX5_addPlace_37 : decode cX5_addPlace 37 = .ok (.putfield 43, 3) := by decide +kernel
theorem dX5_addPlace_40 : decode cX5_addPlace 40 = .ok (.iload 4, 2) := by decide +kernel
theorem dX5_addPlace_42 : decode cX5_addPlace 42 = .ok (.ireturn, 1) := by decide +kernel
theorem dX5_addTraveller_0 : decode cX5_addTraveller 0 = .ok (.aload_n 0, 1) := by decide +kernel
theorem dX5_addTraveller_1 : decode cX5_addTraveller 1 = .ok (.getfield 46, 3) := by decide +kernel
theorem dX5_addTraveller_4 : decode cX5_addTraveller 4 = .ok (.istore 4, 2) := by decide +kernel
theorem dX5_addTraveller_6 : decode cX5_addTraveller 6 = .ok (.aload_n 0, 1) := by decide +kernel
theorem dX5_addTraveller_7 : decode cX5_addTraveller 7 = .ok (.getfield 27, 3) := by decide +kernel
theorem dX5_addTraveller_10 : decode cX5_addTraveller 10 = .ok (.iload 4, 2) := by decide +kernel
theorem dX5_addTraveller_12 : decode cX5_addTraveller 12 = .ok (.iload_n 1, 1) := by decide +kernel
theorem dX5_addTraveller_13 : decode cX5_addTraveller 13 = .ok (.iastore, 1) := by decide +kernel
theorem dX5_addTraveller_14 : decode cX5_addTraveller 14 = .ok (.aload_n 0, 1) := by decide +kernel
theorem dX5_addTraveller_15 : decode cX5_addTraveller 15 = .ok (.getfield 30, 3) := by decide +kernel
theorem dX5_addTraveller_18 : decode cX5_addTraveller 18 = .ok (.iload 4, 2) := by decide +kernel
theorem dX5_addTraveller_20 : decode cX5_addTraveller 20 = .ok (.iload_n 2, 1) := by decide +kernel
theorem dX5_addTraveller_21 : decode cX5_addTraveller 21 = .ok (.iastore, 1) := by decide +kernel
theorem dX5_addTraveller_22 : decode cX5_addTraveller 22 = .ok (.aload_n 0, 1) := by decide +kernel
theorem dX5_addTraveller_23 : decode cX5_addTraveller 23 = .ok (.getfield 33, 3) := by decide +kernel
theorem dX5_addTraveller_26 : decode cX5_addTraveller 26 = .ok (.iload 4, 2) := by decide +kernel
theorem dX5_addTraveller_28 : decode cX5_addTraveller 28 = .ok (.iload_n 3, 1) := by decide +kernel
theorem dX5_addTraveller_29 : decode cX5_addTraveller 29 = .ok (.iastore, 1) := by decide +kernel
theorem dX5_addTraveller_30 : decode cX5_addTraveller 30 = .ok (.aload_n 0, 1) := by decide +kernel
theorem dX5_addTraveller_31 : decode cX5_addTraveller 31 = .ok (.dup, 1) := by decide +kernel
theorem dX5_addTraveller_32 : decode cX5_addTraveller 32 = .ok (.getfield 46, 3) := by decide +kernel
theorem dX5_addTraveller_35 : decode cX5_addTraveller 35 = .ok (.iconst 1, 1) := by decide +kernel
theorem dX5_addTraveller_36 : decode cX5_addTraveller 36 = .ok (.iadd, 1) := by decide +kernel
theorem dX5_addTraveller_37 : decode cX5_addTraveller 37 = .ok (.putfield 46, 3) := by decide +kernel
theorem dX5_addTraveller_40 : decode cX5_addTraveller 40 = .ok (.iload 4, 2) := by decide +kernel
theorem dX5_addTraveller_42 : decode cX5_addTraveller 42 = .ok (.ireturn, 1) := by decide +kernel
theorem dX5_setMiles_0 : decode cX5_setMiles 0 = .ok (.aload_n 0, 1) := by decide +kernel
theorem dX5_setMiles_1 : decode cX5_setMiles 1 = .ok (.getfield 21, 3) := by decide +kernel
theorem dX5_setMiles_4 : decode cX5_setMiles 4 = .ok (.iload_n 1, 1) := by decide +kernel
theorem dX5_setMiles_5 : decode cX5_setMiles 5 = .ok (.iload_n 2, 1) := by decide +kernel
theorem dX5_setMiles_6 : decode cX5_setMiles 6 = .ok (.invokestatic 49, 3) := by decide +kernel
theorem dX5_setMiles_9 : decode cX5_setMiles 9 = .ok (.iload_n 3, 1) := by decide +kernel
theorem dX5_setMiles_10 : decode cX5_setMiles 10 = .ok (.iastore, 1) := by decide +kernel
theorem dX5_setMiles_11 : decode cX5_setMiles 11 = .ok (.aload_n 0, 1) := by decide +kernel
theorem dX5_setMiles_12 : decode cX5_setMiles 12 = .ok (.getfield 21, 3) := by decide +kernel
theorem dX5_setMiles_15 : decode cX5_setMiles 15 = .ok (.iload_n 2, 1) := by decide +kernel
theorem dX5_setMiles_16 : decode cX5_setMiles 16 = .ok (.iload_n 1, 1) := by decide +kernel
theorem dX5_setMiles_17 : decode cX5_setMiles 17 = .ok (.invokestatic 49, 3) := by decide +kernel
theorem dX5_setMiles_20 : decode cX5_setMiles 20 = .ok (.iload_n 3, 1) := by decide +kernel
theorem dX5_setMiles_21 : decode cX5_setMiles 21 = .ok (.iastore, 1) := by decide +kernel
theorem dX5_setMiles_22 : decode cX5_setMiles 22 = .ok (.return_, 1) := by decide +kernel
theorem dX5_names_0 : decode cX5_names 0 = .ok (.aload_n 0, 1) := by decide +kernel
theorem dX5_names_1 : decode cX5_names 1 = .ok (.getfield 24, 3) := by decide +kernel
theorem dX5_names_4 : decode cX5_names 4 = .ok (.iload_n 1, 1) := by decide +kernel
theorem dX5_names_5 : decode cX5_names 5 = .ok (.iaload, 1) := by decide +kernel
theorem dX5_names_6 : decode cX5_names 6 = .ok (.iconst 1, 1) := by decide +kernel
theorem dX5_names_7 : decode cX5_names 7 = .ok (.iload_n 2, 1) := by decide +kernel
theorem dX5_names_8 : decode cX5_names 8 = .ok (.ishl, 1) := by decide +kernel
theorem dX5_names_9 : decode cX5_names 9 = .ok (.iand, 1) := by decide +kernel
theorem dX5_names_10 : decode cX5_names 10 = .ok (.ifCond .eq 7, 3) := by decide +kernel
theorem dX5_names_13 : decode cX5_names 13 = .ok (.iconst 1, 1) := by decide +kernel
theorem dX5_names_14 : decode cX5_names 14 = .ok (.goto 4, 3) := by decide +kernel
theorem dX5_names_17 : decode cX5_names 17 = .ok (.iconst 0, 1) := by decide +kernel
theorem dX5_names_18 : decode cX5_names 18 = .ok (.ireturn, 1) := by decide +kernel
theorem dX5_turnName_0 : decode cX5_turnName 0 = .ok (.aload_n 0, 1) := by decide +kernel
theorem dX5_turnName_1 : decode cX5_turnName 1 = .ok (.getfield 24, 3) := by decide +kernel
theorem dX5_turnName_4 : decode cX5_turnName 4 = .ok (.iload_n 1, 1) := by decide +kernel
theorem dX5_turnName_5 : decode cX5_turnName 5 = .ok (.dup2, 1) := by decide +kernel
theorem dX5_turnName_6 : decode cX5_turnName 6 = .ok (.iaload, 1) := by decide +kernel
theorem dX5_turnName_7 : decode cX5_turnName 7 = .ok (.iconst 1, 1) := by decide +kernel
theorem dX5_turnName_8 : decode cX5_turnName 8 = .ok (.iload_n 2, 1) := by decide +kernel
theorem dX5_turnName_9 : decode cX5_turnName 9 = .ok (.ishl, 1) := by decide +kernel
theorem dX5_turnName_10 : decode cX5_turnName 10 = .ok (.ixor, 1) := by decide +kernel
theorem dX5_turnName_11 : decode cX5_turnName 11 = .ok (.iastore, 1) := by decide +kernel
theorem dX5_turnName_12 : decode cX5_turnName 12 = .ok (.aload_n 0, 1) := by decide +kernel
theorem dX5_turnName_13 : decode cX5_turnName 13 = .ok (.getfield 24, 3) := by decide +kernel
theorem dX5_turnName_16 : decode cX5_turnName 16 = .ok (.iload_n 2, 1) := by decide +kernel
theorem dX5_turnName_17 : decode cX5_turnName 17 = .ok (.dup2, 1) := by decide +kernel
theorem dX5_turnName_18 : decode cX5_turnName 18 = .ok (.iaload, 1) := by decide +kernel
theorem dX5_turnName_19 : decode cX5_turnName 19 = .ok (.iconst 1, 1) := by decide +kernel
theorem dX5_turnName_20 : decode cX5_turnName 20 = .ok (.iload_n 1, 1) := by decide +kernel
theorem dX5_turnName_21 : decode cX5_turnName 21 = .ok (.ishl, 1) := by decide +kernel
theorem dX5_turnName_22 : decode cX5_turnName 22 = .ok (.ixor, 1) := by decide +kernel
theorem dX5_turnName_23 : decode cX5_turnName 23 = .ok (.iastore, 1) := by decide +kernel
theorem dX5_turnName_24 : decode cX5_turnName 24 = .ok (.return_, 1) := by decide +kernel
theorem dX5_countNames_0 : decode cX5_countNames 0 = .ok (.iconst 0, 1) := by decide +kernel
theorem dX5_countNames_1 : decode cX5_countNames 1 = .ok (.istore_n 1, 1) := by decide +kernel
theorem dX5_countNames_2 : decode cX5_countNames 2 = .ok (.iconst 0, 1) := by decide +kernel
theorem dX5_countNames_3 : decode cX5_countNames 3 = .ok (.istore_n 2, 1) := by decide +kernel
theorem dX5_countNames_4 : decode cX5_countNames 4 = .ok (.iload_n 2, 1) := by decide +kernel
theorem dX5_countNames_5 : decode cX5_countNames 5 = .ok (.aload_n 0, 1) := by decide +kernel
theorem dX5_countNames_6 : decode cX5_countNames 6 = .ok (.getfield 43, 3) := by decide +kernel
theorem dX5_countNames_9 : decode cX5_countNames 9 = .ok (.if_icmp .ge 21, 3) := by decide +kernel
theorem dX5_countNames_12 : decode cX5_countNames 12 = .ok (.iload_n 1, 1) := by decide +kernel
theorem dX5_countNames_13 : decode cX5_countNames 13 = .ok (.aload_n 0, 1) := by decide +kernel
theorem dX5_countNames_14 : decode cX5_countNames 14 = .ok (.getfield 24, 3) := by decide +kernel
theorem dX5_countNames_17 : decode cX5_countNames 17 = .ok (.iload_n 2, 1) := by decide +kernel
theorem dX5_countNames_18 : decode cX5_countNames 18 = .ok (.iaload, 1) := by decide +kernel
theorem dX5_countNames_19 : decode cX5_countNames 19 = .ok (.invokestatic 53, 3) := by decide +kernel
theorem dX5_countNames_22 : decode cX5_countNames 22 = .ok (.iadd, 1) := by decide +kernel
theorem dX5_countNames_23 : decode cX5_countNames 23 = .ok (.istore_n 1, 1) := by decide +kernel
theorem dX5_countNames_24 : decode cX5_countNames 24 = .ok (.iinc 2 1, 3) := by decide +kernel
theorem dX5_countNames_27 : decode cX5_countNames 27 = .ok (.goto (-23), 3) := by decide +kernel
theorem dX5_countNames_30 : decode cX5_countNames 30 = .ok (.iload_n 1, 1) := by decide +kernel
theorem dX5_countNames_31 : decode cX5_countNames 31 = .ok (.iconst 2, 1) := by decide +kernel
theorem dX5_countNames_32 : decode cX5_countNames 32 = .ok (.idiv, 1) := by decide +kernel
theorem dX5_countNames_33 : decode cX5_countNames 33 = .ok (.ireturn, 1) := by decide +kernel
theorem dX5_roadsOf_0 : decode cX5_roadsOf 0 = .ok (.iconst 0, 1) := by decide +kernel
theorem dX5_roadsOf_1 : decode cX5_roadsOf 1 = .ok (.istore_n 2, 1) := by decide +kernel
theorem dX5_roadsOf_2 : decode cX5_roadsOf 2 = .ok (.iconst 0, 1) := by decide +kernel
theorem dX5_roadsOf_3 : decode cX5_roadsOf 3 = .ok (.istore_n 3, 1) := by decide +kernel
theorem dX5_roadsOf_4 : decode cX5_roadsOf 4 = .ok (.iload_n 3, 1) := by decide +kernel
theorem dX5_roadsOf_5 : decode cX5_roadsOf 5 = .ok (.aload_n 0, 1) := by decide +kernel
theorem dX5_roadsOf_6 : decode cX5_roadsOf 6 = .ok (.getfield 43, 3) := by decide +kernel
theorem dX5_roadsOf_9 : decode cX5_roadsOf 9 = .ok (.if_icmp .ge 28, 3) := by decide +kernel
theorem dX5_roadsOf_12 : decode cX5_roadsOf 12 = .ok (.aload_n 0, 1) := by decide +kernel
theorem dX5_roadsOf_13 : decode cX5_roadsOf 13 = .ok (.getfield 21, 3) := by decide +kernel
theorem dX5_roadsOf_16 : decode cX5_roadsOf 16 = .ok (.iload_n 1, 1) := by decide +kernel
theorem dX5_roadsOf_17 : decode cX5_roadsOf 17 = .ok (.iload_n 3, 1) := by decide +kernel
theorem dX5_roadsOf_18 : decode cX5_roadsOf 18 = .ok (.invokestatic 49, 3) := by decide +kernel
theorem dX5_roadsOf_21 : decode cX5_roadsOf 21 = .ok (.iaload, 1) := by decide +kernel
theorem dX5_roadsOf_22 : decode cX5_roadsOf 22 = .ok (.ifCond .le 9, 3) := by decide +kernel
theorem dX5_roadsOf_25 : decode cX5_roadsOf 25 = .ok (.iload_n 2, 1) := by decide +kernel
theorem dX5_roadsOf_26 : decode cX5_roadsOf 26 = .ok (.iconst 1, 1) := by decide +kernel
theorem dX5_roadsOf_27 : decode cX5_roadsOf 27 = .ok (.iload_n 3, 1) := by decide +kernel
theorem dX5_roadsOf_28 : decode cX5_roadsOf 28 = .ok (.ishl, 1) := by decide +kernel
theorem dX5_roadsOf_29 : decode cX5_roadsOf 29 = .ok (.ior, 1) := by decide +kernel
theorem dX5_roadsOf_30 : decode cX5_roadsOf 30 = .ok (.istore_n 2, 1) := by decide +kernel
theorem dX5_roadsOf_31 : decode cX5_roadsOf 31 = .ok (.iinc 3 1, 3) := by decide +kernel
theorem dX5_roadsOf_34 : decode cX5_roadsOf 34 = .ok (.goto (-30), 3) := by decide +kernel
theorem dX5_roadsOf_37 : decode cX5_roadsOf 37 = .ok (.iload_n 2, 1) := by decide +kernel
theorem dX5_roadsOf_38 : decode cX5_roadsOf 38 = .ok (.ireturn, 1) := by decide +kernel
theorem dX5_comeToBy_0 : decode cX5_comeToBy 0 = .ok (.iconst 1, 1) := by decide +kernel
theorem dX5_comeToBy_1 : decode cX5_comeToBy 1 = .ok (.iload_n 1, 1) := by decide +kernel
theorem dX5_comeToBy_2 : decode cX5_comeToBy 2 = .ok (.ishl, 1) := by decide +kernel
theorem dX5_comeToBy_3 : decode cX5_comeToBy 3 = .ok (.istore_n 3, 1) := by decide +kernel
theorem dX5_comeToBy_4 : decode cX5_comeToBy 4 = .ok (.iconst 0, 1) := by decide +kernel
theorem dX5_comeToBy_5 : decode cX5_comeToBy 5 = .ok (.istore 4, 2) := by decide +kernel
theorem dX5_comeToBy_7 : decode cX5_comeToBy 7 = .ok (.iload 4, 2) := by decide +kernel
theorem dX5_comeToBy_9 : decode cX5_comeToBy 9 = .ok (.iload_n 2, 1) := by decide +kernel
theorem dX5_comeToBy_10 : decode cX5_comeToBy 10 = .ok (.if_icmp .ge 50, 3) := by decide +kernel
theorem dX5_comeToBy_13 : decode cX5_comeToBy 13 = .ok (.iload_n 3, 1) := by decide +kernel
theorem dX5_comeToBy_14 : decode cX5_comeToBy 14 = .ok (.istore 5, 2) := by decide +kernel
theorem dX5_comeToBy_16 : decode cX5_comeToBy 16 = .ok (.iconst 0, 1) := by decide +kernel
theorem dX5_comeToBy_17 : decode cX5_comeToBy 17 = .ok (.istore 6, 2) := by decide +kernel
theorem dX5_comeToBy_19 : decode cX5_comeToBy 19 = .ok (.iload 6, 2) := by decide +kernel
theorem dX5_comeToBy_21 : decode cX5_comeToBy 21 = .ok (.aload_n 0, 1) := by decide +kernel
theorem dX5_comeToBy_22 : decode cX5_comeToBy 22 = .ok (.getfield 43, 3) := by decide +kernel
theorem dX5_comeToBy_25 : decode cX5_comeToBy 25 = .ok (.if_icmp .ge 29, 3) := by decide +kernel
theorem dX5_comeToBy_28 : decode cX5_comeToBy 28 = .ok (.iload 5, 2) := by decide +kernel
theorem dX5_comeToBy_30 : decode cX5_comeToBy 30 = .ok (.iconst 1, 1) := by decide +kernel
theorem dX5_comeToBy_31 : decode cX5_comeToBy 31 = .ok (.iload 6, 2) := by decide +kernel
theorem dX5_comeToBy_33 : decode cX5_comeToBy 33 = .ok (.ishl, 1) := by decide +kernel
theorem dX5_comeToBy_34 : decode cX5_comeToBy 34 = .ok (.iand, 1) := by decide +kernel
theorem dX5_comeToBy_35 : decode cX5_comeToBy 35 = .ok (.ifCond .eq 13, 3) := by decide +kernel
theorem dX5_comeToBy_38 : decode cX5_comeToBy 38 = .ok (.iload_n 3, 1) := by decide +kernel
theorem dX5_comeToBy_39 : decode cX5_comeToBy 39 = .ok (.aload_n 0, 1) := by decide +kernel
theorem dX5_comeToBy_40 : decode cX5_comeToBy 40 = .ok (.getfield 24, 3) := by decide +kernel
theorem dX5_comeToBy_43 : decode cX5_comeToBy 43 = .ok (.iload 6, 2) := by decide +kernel
theorem dX5_comeToBy_45 : decode cX5_comeToBy 45 = .ok (.iaload, 1) := by decide +kernel
theorem dX5_comeToBy_46 : decode cX5_comeToBy 46 = .ok (.ior, 1) := by decide +kernel
theorem dX5_comeToBy_47 : decode cX5_comeToBy 47 = .ok (.istore_n 3, 1) := by decide +kernel
theorem dX5_comeToBy_48 : decode cX5_comeToBy 48 = .ok (.iinc 6 1, 3) := by decide +kernel
theorem dX5_comeToBy_51 : decode cX5_comeToBy 51 = .ok (.goto (-32), 3) := by decide +kernel
theorem dX5_comeToBy_54 : decode cX5_comeToBy 54 = .ok (.iinc 4 1, 3) := by decide +kernel
theorem dX5_comeToBy_57 : decode cX5_comeToBy 57 = .ok (.goto (-50), 3) := by decide +kernel
theorem dX5_comeToBy_60 : decode cX5_comeToBy 60 = .ok (.iload_n 3, 1) := by decide +kernel
theorem dX5_comeToBy_61 : decode cX5_comeToBy 61 = .ok (.ireturn, 1) := by decide +kernel
theorem dX5_tellFacts_0 : decode cX5_tellFacts 0 = .ok (.aload_n 2, 1) := by decide +kernel
theorem dX5_tellFacts_1 : decode cX5_tellFacts 1 = .ok (.iconst 0, 1) := by decide +kernel
theorem dX5_tellFacts_2 : decode cX5_tellFacts 2 = .ok (.iload_n 1, 1) := by decide +kernel
theorem dX5_tellFacts_3 : decode cX5_tellFacts 3 = .ok (.iastore, 1) := by decide +kernel
theorem dX5_tellFacts_4 : decode cX5_tellFacts 4 = .ok (.aload_n 2, 1) := by decide +kernel
theorem dX5_tellFacts_5 : decode cX5_tellFacts 5 = .ok (.iconst 1, 1) := by decide +kernel
theorem dX5_tellFacts_6 : decode cX5_tellFacts 6 = .ok (.aload_n 0, 1) := by decide +kernel
theorem dX5_tellFacts_7 : decode cX5_tellFacts 7 = .ok (.getfield 9, 3) := by decide +kernel
theorem dX5_tellFacts_10 : decode cX5_tellFacts 10 = .ok (.iload_n 1, 1) := by decide +kernel
theorem dX5_tellFacts_11 : decode cX5_tellFacts 11 = .ok (.iaload, 1) := by decide +kernel
theorem dX5_tellFacts_12 : decode cX5_tellFacts 12 = .ok (.iastore, 1) := by decide +kernel
theorem dX5_tellFacts_13 : decode cX5_tellFacts 13 = .ok (.aload_n 2, 1) := by decide +kernel
theorem dX5_tellFacts_14 : decode cX5_tellFacts 14 = .ok (.iconst 2, 1) := by decide +kernel
theorem dX5_tellFacts_15 : decode cX5_tellFacts 15 = .ok (.aload_n 0, 1) := by decide +kernel
theorem dX5_tellFacts_16 : decode cX5_tellFacts 16 = .ok (.getfield 15, 3) := by decide +kernel
theorem dX5_tellFacts_19 : decode cX5_tellFacts 19 = .ok (.iload_n 1, 1) := by decide +kernel
theorem dX5_tellFacts_20 : decode cX5_tellFacts 20 = .ok (.iaload, 1) := by decide +kernel
theorem dX5_tellFacts_21 : decode cX5_tellFacts 21 = .ok (.iastore, 1) := by decide +kernel
theorem dX5_tellFacts_22 : decode cX5_tellFacts 22 = .ok (.aload_n 2, 1) := by decide +kernel
theorem dX5_tellFacts_23 : decode cX5_tellFacts 23 = .ok (.iconst 3, 1) := by decide +kernel
theorem dX5_tellFacts_24 : decode cX5_tellFacts 24 = .ok (.aload_n 0, 1) := by decide +kernel
theorem dX5_tellFacts_25 : decode cX5_tellFacts 25 = .ok (.getfield 18, 3) := by decide +kernel
theorem dX5_tellFacts_28 : decode cX5_tellFacts 28 = .ok (.iload_n 1, 1) := by decide +kernel
theorem dX5_tellFacts_29 : decode cX5_tellFacts 29 = .ok (.iaload, 1) := by decide +kernel
theorem dX5_tellFacts_30 : decode cX5_tellFacts 30 = .ok (.bipush 10, 2) := by decide +kernel
theorem dX5_tellFacts_32 : decode cX5_tellFacts 32 = .ok (.idiv, 1) := by decide +kernel
theorem dX5_tellFacts_33 : decode cX5_tellFacts 33 = .ok (.iastore, 1) := by decide +kernel
theorem dX5_tellFacts_34 : decode cX5_tellFacts 34 = .ok (.aload_n 2, 1) := by decide +kernel
theorem dX5_tellFacts_35 : decode cX5_tellFacts 35 = .ok (.iconst 4, 1) := by decide +kernel
theorem dX5_tellFacts_36 : decode cX5_tellFacts 36 = .ok (.aload_n 0, 1) := by decide +kernel
theorem dX5_tellFacts_37 : decode cX5_tellFacts 37 = .ok (.getfield 24, 3) := by decide +kernel
theorem dX5_tellFacts_40 : decode cX5_tellFacts 40 = .ok (.iload_n 1, 1) := by decide +kernel
theorem dX5_tellFacts_41 : decode cX5_tellFacts 41 = .ok (.iaload, 1) := by decide +kernel
theorem dX5_tellFacts_42 : decode cX5_tellFacts 42 = .ok (.invokestatic 53, 3) := by decide +kernel
theorem dX5_tellFacts_45 : decode cX5_tellFacts 45 = .ok (.iastore, 1) := by decide +kernel
theorem dX5_tellFacts_46 : decode cX5_tellFacts 46 = .ok (.aload_n 2, 1) := by decide +kernel
theorem dX5_tellFacts_47 : decode cX5_tellFacts 47 = .ok (.iconst 5, 1) := by decide +kernel
theorem dX5_tellFacts_48 : decode cX5_tellFacts 48 = .ok (.aload_n 0, 1) := by decide +kernel
theorem dX5_tellFacts_49 : decode cX5_tellFacts 49 = .ok (.iload_n 1, 1) := by decide +kernel
theorem dX5_tellFacts_50 : decode cX5_tellFacts 50 = .ok (.invokevirtual 59, 3) := by decide +kernel
theorem dX5_tellFacts_53 : decode cX5_tellFacts 53 = .ok (.invokestatic 53, 3) := by decide +kernel
theorem dX5_tellFacts_56 : decode cX5_tellFacts 56 = .ok (.iastore, 1) := by decide +kernel
theorem dX5_tellFacts_57 : decode cX5_tellFacts 57 = .ok (.return_, 1) := by decide +kernel
theorem dX5_becomeAs_0 : decode cX5_becomeAs 0 = .ok (.aload_n 0, 1) := by decide +kernel
theorem dX5_becomeAs_1 : decode cX5_becomeAs 1 = .ok (.aload_n 1, 1) := by decide +kernel
theorem dX5_becomeAs_2 : decode cX5_becomeAs 2 = .ok (.getfield 43, 3) := by decide +kernel
theorem dX5_becomeAs_5 : decode cX5_becomeAs 5 = .ok (.putfield 43, 3) := by decide +kernel
theorem dX5_becomeAs_8 : decode cX5_becomeAs 8 = .ok (.aload_n 1, 1) := by decide +kernel
theorem dX5_becomeAs_9 : decode cX5_becomeAs 9 = .ok (.getfield 9, 3) := by decide +kernel
theorem dX5_becomeAs_12 : decode cX5_becomeAs 12 = .ok (.iconst 0, 1) := by decide +kernel
theorem dX5_becomeAs_13 : decode cX5_becomeAs 13 = .ok (.aload_n 0, 1) := by decide +kernel
theorem dX5_becomeAs_14 : decode cX5_becomeAs 14 = .ok (.getfield 9, 3) := by decide +kernel
theorem dX5_becomeAs_17 : decode cX5_becomeAs 17 = .ok (.iconst 0, 1) := by decide +kernel
theorem dX5_becomeAs_18 : decode cX5_becomeAs 18 = .ok (.bipush 7, 2) := by decide +kernel
theorem dX5_becomeAs_20 : decode cX5_becomeAs 20 = .ok (.invokestatic 62, 3) := by decide +kernel
theorem dX5_becomeAs_23 : decode cX5_becomeAs 23 = .ok (.aload_n 1, 1) := by decide +kernel
theorem dX5_becomeAs_24 : decode cX5_becomeAs 24 = .ok (.getfield 15, 3) := by decide +kernel
theorem dX5_becomeAs_27 : decode cX5_becomeAs 27 = .ok (.iconst 0, 1) := by decide +kernel
theorem dX5_becomeAs_28 : decode cX5_becomeAs 28 = .ok (.aload_n 0, 1) := by decide +kernel
theorem dX5_becomeAs_29 : decode cX5_becomeAs 29 = .ok (.getfield 15, 3) := by decide +kernel
theorem dX5_becomeAs_32 : decode cX5_becomeAs 32 = .ok (.iconst 0, 1) := by decide +kernel
theorem dX5_becomeAs_33 : decode cX5_becomeAs 33 = .ok (.bipush 7, 2) := by decide +kernel
theorem dX5_becomeAs_35 : decode cX5_becomeAs 35 = .ok (.invokestatic 62, 3) := by decide +kernel
theorem dX5_becomeAs_38 : decode cX5_becomeAs 38 = .ok (.aload_n 1, 1) := by decide +kernel
theorem dX5_becomeAs_39 : decode cX5_becomeAs 39 = .ok (.getfield 18, 3) := by decide +kernel
theorem dX5_becomeAs_42 : decode cX5_becomeAs 42 = .ok (.iconst 0, 1) := by decide +kernel
theorem dX5_becomeAs_43 : decode cX5_becomeAs 43 = .ok (.aload_n 0, 1) := by decide +kernel
theorem dX5_becomeAs_44 : decode cX5_becomeAs 44 = .ok (.getfield 18, 3) := by decide +kernel
theorem dX5_becomeAs_47 : decode cX5_becomeAs 47 = .ok (.iconst 0, 1) := by decide +kernel
theorem dX5_becomeAs_48 : decode cX5_becomeAs 48 = .ok (.bipush 7, 2) := by decide +kernel
theorem dX5_becomeAs_50 : decode cX5_becomeAs 50 = .ok (.invokestatic 62, 3) := by decide +kernel
theorem dX5_becomeAs_53 : decode cX5_becomeAs 53 = .ok (.aload_n 1, 1) := by decide +kernel
theorem dX5_becomeAs_54 : decode cX5_becomeAs 54 = .ok (.getfield 21, 3) := by decide +kernel
theorem dX5_becomeAs_57 : decode cX5_becomeAs 57 = .ok (.iconst 0, 1) := by decide +kernel
theorem dX5_becomeAs_58 : decode cX5_becomeAs 58 = .ok (.aload_n 0, 1) := by decide +kernel
theorem dX5_becomeAs_59 : decode cX5_becomeAs 59 = .ok (.getfield 21, 3) := by decide +kernel
theorem dX5_becomeAs_62 : decode cX5_becomeAs 62 = .ok (.iconst 0, 1) := by decide +kernel
theorem dX5_becomeAs_63 : decode cX5_becomeAs 63 = .ok (.bipush 49, 2) := by decide +kernel
theorem dX5_becomeAs_65 : decode cX5_becomeAs 65 = .ok (.invokestatic 62, 3) := by decide +kernel
theorem dX5_becomeAs_68 : decode cX5_becomeAs 68 = .ok (.aload_n 1, 1) := by decide +kernel
theorem dX5_becomeAs_69 : decode cX5_becomeAs 69 = .ok (.getfield 24, 3) := by decide +kernel
theorem dX5_becomeAs_72 : decode cX5_becomeAs 72 = .ok (.iconst 0, 1) := by decide +kernel
theorem dX5_becomeAs_73 : decode cX5_becomeAs 73 = .ok (.aload_n 0, 1) := by decide +kernel
theorem dX5_becomeAs_74 : decode cX5_becomeAs 74 = .ok (.getfield 24, 3) := by decide +kernel
theorem dX5_becomeAs_77 : decode cX5_becomeAs 77 = .ok (.iconst 0, 1) := by decide +kernel
theorem dX5_becomeAs_78 : decode cX5_becomeAs 78 = .ok (.bipush 7, 2) := by decide +kernel
theorem dX5_becomeAs_80 : decode cX5_becomeAs 80 = .ok (.invokestatic 62, 3) := by decide +kernel
theorem dX5_becomeAs_83 : decode cX5_becomeAs 83 = .ok (.aload_n 0, 1) := by decide +kernel
theorem dX5_becomeAs_84 : decode cX5_becomeAs 84 = .ok (.aload_n 1, 1) := by decide +kernel
theorem dX5_becomeAs_85 : decode cX5_becomeAs 85 = .ok (.getfield 46, 3) := by decide +kernel
theorem dX5_becomeAs_88 : decode cX5_becomeAs 88 = .ok (.putfield 46, 3) := by decide +kernel
theorem dX5_becomeAs_91 : decode cX5_becomeAs 91 = .ok (.aload_n 1, 1) := by decide +kernel
theorem dX5_becomeAs_92 : decode cX5_becomeAs 92 = .ok (.getfield 27, 3) := by decide +kernel
theorem dX5_becomeAs_95 : decode cX5_becomeAs 95 = .ok (.iconst 0, 1) := by decide +kernel
theorem dX5_becomeAs_96 : decode cX5_becomeAs 96 = .ok (.aload_n 0, 1) := by decide +kernel
theorem dX5_becomeAs_97 : decode cX5_becomeAs 97 = .ok (.getfield 27, 3) := by decide +kernel
theorem dX5_becomeAs_100 : decode cX5_becomeAs 100 = .ok (.iconst 0, 1) := by decide +kernel
theorem dX5_becomeAs_101 : decode cX5_becomeAs 101 = .ok (.bipush 8, 2) := by decide +kernel
theorem dX5_becomeAs_103 : decode cX5_becomeAs 103 = .ok (.invokestatic 62, 3) := by decide +kernel
theorem dX5_becomeAs_106 : decode cX5_becomeAs 106 = .ok (.aload_n 1, 1) := by decide +kernel
theorem dX5_becomeAs_107 : decode cX5_becomeAs 107 = .ok (.getfield 30, 3) := by decide +kernel
theorem dX5_becomeAs_110 : decode cX5_becomeAs 110 = .ok (.iconst 0, 1) := by decide +kernel
theorem dX5_becomeAs_111 : decode cX5_becomeAs 111 = .ok (.aload_n 0, 1) := by decide +kernel
theorem dX5_becomeAs_112 : decode cX5_becomeAs 112 = .ok (.getfield 30, 3) := by decide +kernel
theorem dX5_becomeAs_115 : decode cX5_becomeAs 115 = .ok (.iconst 0, 1) := by decide +kernel
theorem dX5_becomeAs_116 : decode cX5_becomeAs 116 = .ok (.bipush 8, 2) := by decide +kernel
theorem dX5_becomeAs_118 : decode cX5_becomeAs 118 = .ok (.invokestatic 62, 3) := by decide +kernel
theorem dX5_becomeAs_121 : decode cX5_becomeAs 121 = .ok (.aload_n 1, 1) := by decide +kernel
theorem dX5_becomeAs_122 : decode cX5_becomeAs 122 = .ok (.getfield 33, 3) := by decide +kernel
theorem dX5_becomeAs_125 : decode cX5_becomeAs 125 = .ok (.iconst 0, 1) := by decide +kernel
theorem dX5_becomeAs_126 : decode cX5_becomeAs 126 = .ok (.aload_n 0, 1) := by decide +kernel
theorem dX5_becomeAs_127 : decode cX5_becomeAs 127 = .ok (.getfield 33, 3) := by decide +kernel
theorem dX5_becomeAs_130 : decode cX5_becomeAs 130 = .ok (.iconst 0, 1) := by decide +kernel
theorem dX5_becomeAs_131 : decode cX5_becomeAs 131 = .ok (.bipush 8, 2) := by decide +kernel
theorem dX5_becomeAs_133 : decode cX5_becomeAs 133 = .ok (.invokestatic 62, 3) := by decide +kernel
theorem dX5_becomeAs_136 : decode cX5_becomeAs 136 = .ok (.aload_n 0, 1) := by decide +kernel
theorem dX5_becomeAs_137 : decode cX5_becomeAs 137 = .ok (.aload_n 1, 1) := by decide +kernel
theorem dX5_becomeAs_138 : decode cX5_becomeAs 138 = .ok (.getfield 68, 3) := by decide +kernel
theorem dX5_becomeAs_141 : decode cX5_becomeAs 141 = .ok (.putfield 68, 3) := by decide +kernel
theorem dX5_becomeAs_144 : decode cX5_becomeAs 144 = .ok (.aload_n 1, 1) := by decide +kernel
theorem dX5_becomeAs_145 : decode cX5_becomeAs 145 = .ok (.getfield 36, 3) := by decide +kernel
theorem dX5_becomeAs_148 : decode cX5_becomeAs 148 = .ok (.iconst 0, 1) := by decide +kernel
theorem dX5_becomeAs_149 : decode cX5_becomeAs 149 = .ok (.aload_n 0, 1) := by decide +kernel
theorem dX5_becomeAs_150 : decode cX5_becomeAs 150 = .ok (.getfield 36, 3) := by decide +kernel
theorem dX5_becomeAs_153 : decode cX5_becomeAs 153 = .ok (.iconst 0, 1) := by decide +kernel
theorem dX5_becomeAs_154 : decode cX5_becomeAs 154 = .ok (.bipush 12, 2) := by decide +kernel
theorem dX5_becomeAs_156 : decode cX5_becomeAs 156 = .ok (.invokestatic 62, 3) := by decide +kernel
theorem dX5_becomeAs_159 : decode cX5_becomeAs 159 = .ok (.aload_n 0, 1) := by decide +kernel
theorem dX5_becomeAs_160 : decode cX5_becomeAs 160 = .ok (.aload_n 1, 1) := by decide +kernel
theorem dX5_becomeAs_161 : decode cX5_becomeAs 161 = .ok (.getfield 39, 3) := by decide +kernel
theorem dX5_becomeAs_164 : decode cX5_becomeAs 164 = .ok (.putfield 39, 3) := by decide +kernel
theorem dX5_becomeAs_167 : decode cX5_becomeAs 167 = .ok (.return_, 1) := by decide +kernel
theorem dX6_init_0 : decode cX6_init 0 = .ok (.aload_n 0, 1) := by decide +kernel
theorem dX6_init_1 : decode cX6_init 1 = .ok (.invokespecial 3, 3) := by decide +kernel
theorem dX6_init_4 : decode cX6_init 4 = .ok (.aload_n 0, 1) := by decide +kernel
theorem dX6_init_5 : decode cX6_init 5 = .ok (.new 9, 3) := by decide +kernel
theorem dX6_init_8 : decode cX6_init 8 = .ok (.dup, 1) := by decide +kernel
theorem dX6_init_9 : decode cX6_init 9 = .ok (.invokespecial 11, 3) := by decide +kernel
theorem dX6_init_12 : decode cX6_init 12 = .ok (.putfield 12, 3) := by decide +kernel
theorem dX6_init_15 : decode cX6_init 15 = .ok (.aload_n 0, 1) := by decide +kernel
theorem dX6_init_16 : decode cX6_init 16 = .ok (.aload_n 0, 1) := by decide +kernel
theorem dX6_init_17 : decode cX6_init 17 = .ok (.getfield 12, 3) := by decide +kernel
theorem dX6_init_20 : decode cX6_init 20 = .ok (.getfield 18, 3) := by decide +kernel
theorem dX6_init_23 : decode cX6_init 23 = .ok (.putfield 22, 3) := by decide +kernel
theorem dX6_init_26 : decode cX6_init 26 = .ok (.aload_n 0, 1) := by decide +kernel
theorem dX6_init_27 : decode cX6_init 27 = .ok (.new 23, 3) := by decide +kernel
theorem dX6_init_30 : decode cX6_init 30 = .ok (.dup, 1) := by decide +kernel
theorem dX6_init_31 : decode cX6_init 31 = .ok (.invokespecial 25, 3) := by decide +kernel
theorem dX6_init_34 : decode cX6_init 34 = .ok (.putfield 26, 3) := by decide +kernel
theorem dX6_init_37 : decode cX6_init 37 = .ok (.aload_n 0, 1) := by decide +kernel
theorem dX6_init_38 : decode cX6_init 38 = .ok (.new 29, 3) := by decide +kernel
theorem dX6_init_41 : decode cX6_init 41 = .ok (.dup, 1) := by decide +kernel
theorem dX6_init_42 : decode cX6_init 42 = .ok (.invokespecial 31, 3) := by decide +kernel
theorem dX6_init_45 : decode cX6_init 45 = .ok (.putfield 32, 3) := by decide +kernel
theorem dX6_init_48 : decode cX6_init 48 = .ok (.aload_n 0, 1) := by decide +kernel
theorem dX6_init_49 : decode cX6_init 49 = .ok (.bipush 6, 2) := by decide +kernel
theorem dX6_init_51 : decode cX6_init 51 = .ok (.anewarray 29, 3) := by decide +kernel
theorem dX6_init_54 : decode cX6_init 54 = .ok (.putfield 36, 3) := by decide +kernel
theorem dX6_init_57 : decode cX6_init 57 = .ok (.aload_n 0, 1) := by decide +kernel
theorem dX6_init_58 : decode cX6_init 58 = .ok (.new 40, 3) := by decide +kernel
theorem dX6_init_61 : decode cX6_init 61 = .ok (.dup, 1) := by decide +kernel
theorem dX6_init_62 : decode cX6_init 62 = .ok (.invokespecial 42, 3) := by decide +kernel
theorem dX6_init_65 : decode cX6_init 65 = .ok (.putfield 43, 3) := by decide +kernel
theorem dX6_init_68 : decode cX6_init 68 = .ok (.aload_n 0, 1) := by decide +kernel
theorem dX6_init_69 : decode cX6_init 69 = .ok (.new 47, 3) := by decide +kernel
theorem dX6_init_72 : decode cX6_init 72 = .ok (.dup, 1) := by decide +kernel
theorem dX6_init_73 : decode cX6_init 73 = .ok (.invokespecial 49, 3) := by decide +kernel
theorem dX6_init_76 : decode cX6_init 76 = .ok (.putfield 50, 3) := by decide +kernel
theorem dX6_init_79 : decode cX6_init 79 = .ok (.aload_n 0, 1) := by decide +kernel
theorem dX6_init_80 : decode cX6_init 80 = .ok (.bipush 6, 2) := by decide +kernel
theorem dX6_init_82 : decode cX6_init 82 = .ok (.anewarray 54, 3) := by decide +kernel
theorem dX6_init_85 : decode cX6_init 85 = .ok (.putfield 56, 3) := by decide +kernel
theorem dX6_init_88 : decode cX6_init 88 = .ok (.iconst 0, 1) := by decide +kernel
theorem dX6_init_89 : decode cX6_init 89 = .ok (.istore_n 1, 1) := by decide +kernel
theorem dX6_init_90 : decode cX6_init 90 = .ok (.iload_n 1, 1) := by decide +kernel
theorem dX6_init_91 : decode cX6_init 91 = .ok (.bipush 6, 2) := by decide +kernel
theorem dX6_init_93 : decode cX6_init 93 = .ok (.if_icmp .ge 22, 3) := by decide +kernel
theorem dX6_init_96 : decode cX6_init 96 = .ok (.aload_n 0, 1) := by decide +kernel
theorem dX6_init_97 : decode cX6_init 97 = .ok (.getfield 36, 3) := by decide +kernel
theorem dX6_init_100 : decode cX6_init 100 = .ok (.iload_n 1, 1) := by decide +kernel
theorem dX6_init_101 : decode cX6_init 101 = .ok (.new 29, 3) := by decide +kernel
theorem dX6_init_104 : decode cX6_init 104 = .ok (.dup, 1) := by decide +kernel
theorem dX6_init_105 : decode cX6_init 105 = .ok (.invokespecial 31, 3) := by decide +kernel
theorem dX6_init_108 : decode cX6_init 108 = .ok (.aastore, 1) := by decide +kernel
theorem dX6_init_109 : decode cX6_init 109 = .ok (.iinc 1 1, 3) := by decide +kernel
theorem dX6_init_112 : decode cX6_init 112 = .ok (.goto (-22), 3) := by decide +kernel
theorem dX6_init_115 : decode cX6_init 115 = .ok (.iconst 0, 1) := by decide +kernel
theorem dX6_init_116 : decode cX6_init 116 = .ok (.istore_n 1, 1) := by decide +kernel
theorem dX6_init_117 : decode cX6_init 117 = .ok (.iload_n 1, 1) := by decide +kernel
theorem dX6_init_118 : decode cX6_init 118 = .ok (.bipush 6, 2) := by decide +kernel
theorem dX6_init_120 : decode cX6_init 120 = .ok (.if_icmp .ge 22, 3) := by decide +kernel
theorem dX6_init_123 : decode cX6_init 123 = .ok (.aload_n 0, 1) := by decide +kernel
theorem dX6_init_124 : decode cX6_init 124 = .ok (.getfield 56, 3) := by decide +kernel
theorem dX6_init_127 : decode cX6_init 127 = .ok (.iload_n 1, 1) := by decide +kernel
theorem dX6_init_128 : decode cX6_init 128 = .ok (.new 54, 3) := by decide +kernel
theorem dX6_init_131 : decode cX6_init 131 = .ok (.dup, 1) := by decide +kernel
theorem dX6_init_132 : decode cX6_init 132 = .ok (.invokespecial 60, 3) := by decide +kernel
theorem dX6_init_135 : decode cX6_init 135 = .ok (.aastore, 1) := by decide +kernel
theorem dX6_init_136 : decode cX6_init 136 = .ok (.iinc 1 1, 3) := by decide +kernel
theorem dX6_init_139 : decode cX6_init 139 = .ok (.goto (-22), 3) := by decide +kernel
theorem dX6_init_142 : decode cX6_init 142 = .ok (.return_, 1) := by decide +kernel
theorem dX6_place_0 : decode cX6_place 0 = .ok (.iload_n 1, 1) := by decide +kernel
theorem dX6_place_1 : decode cX6_place 1 = .ok (.ifCond .lt 9, 3) := by decide +kernel
theorem dX6_place_4 : decode cX6_place 4 = .ok (.iload_n 1, 1) := by decide +kernel
theorem dX6_place_5 : decode cX6_place 5 = .ok (.bipush 6, 2) := by decide +kernel
theorem dX6_place_7 : decode cX6_place 7 = .ok (.if_icmp .le 5, 3) := by decide +kernel
theorem dX6_place_10 : decode cX6_place 10 = .ok (.iconst (-1), 1) := by decide +kernel
theorem dX6_place_11 : decode cX6_place 11 = .ok (.ireturn, 1) := by decide +kernel
theorem dX6_place_12 : decode cX6_place 12 = .ok (.iload_n 2, 1) := by decide +kernel
theorem dX6_place_13 : decode cX6_place 13 = .ok (.ifCond .lt 19, 3) := by decide +kernel
theorem dX6_place_16 : decode cX6_place 16 = .ok (.iload_n 2, 1) := by decide +kernel
theorem dX6_place_17 : decode cX6_place 17 = .ok (.bipush 9, 2) := by decide +kernel
theorem dX6_place_19 : decode cX6_place 19 = .ok (.if_icmp .gt 13, 3) := by decide +kernel
theorem dX6_place_22 : decode cX6_place 22 = .ok (.iload_n 3, 1) := by decide +kernel
theorem dX6_place_23 : decode cX6_place 23 = .ok (.ifCond .lt 9, 3) := by decide +kernel
theorem dX6_place_26 : decode cX6_place 26 = .ok (.iload_n 3, 1) := by decide +kernel
theorem dX6_place_27 : decode cX6_place 27 = .ok (.bipush 99, 2) := by decide +kernel
theorem dX6_place_29 : decode cX6_place 29 = .ok (.if_icmp .le 6, 3) := by decide +kernel
theorem dX6_place_32 : decode cX6_place 32 = .ok (.bipush (-2), 2) := by decide +kernel
theorem dX6_place_34 : decode cX6_place 34 = .ok (.ireturn, 1) := by decide +kernel
theorem dX6_place_35 : decode cX6_place 35 = .ok (.aload_n 0, 1) := by decide +kernel
theorem dX6_place_36 : decode cX6_place 36 = .ok (.getfield 22, 3) := by decide +kernel
theorem dX6_place_39 : decode cX6_place 39 = .ok (.getfield 61, 3) := by decide +kernel
theorem dX6_place_42 : decode cX6_place 42 = .ok (.bipush 7, 2) := by decide +kernel
theorem dX6_place_44 : decode cX6_place 44 = .ok (.if_icmp .lt 6, 3) := by decide +kernel
theorem dX6_place_47 : decode cX6_place 47 = .ok (.bipush (-4), 2) := by decide +kernel
theorem dX6_place_49 : decode cX6_place 49 = .ok (.ireturn, 1) := by decide +kernel
theorem dX6_place_50 : decode cX6_place 50 = .ok (.aload_n 0, 1) := by decide +kernel
theorem dX6_place_51 : decode cX6_place 51 = .ok (.getfield 22, 3) := by decide +kernel
theorem dX6_place_54 : decode cX6_place 54 = .ok (.iload_n 1, 1) := by decide +kernel
theorem dX6_place_55 : decode cX6_place 55 = .ok (.iload_n 2, 1) := by decide +kernel
theorem dX6_place_56 : decode cX6_place 56 = .ok (.iload_n 3, 1) := by decide +kernel
theorem dX6_place_57 : decode cX6_place 57 = .ok (.invokevirtual 65, 3) := by decide +kernel
theorem dX6_place_60 : decode cX6_place 60 = .ok (.ireturn, 1) := by decide +kernel
theorem dX6_of_0 : decode cX6_of 0 = .ok (.aload_n 0, 1) := by decide +kernel
theorem dX6_of_1 : decode cX6_of 1 = .ok (.getfield 22, 3) := by decide +kernel
theorem dX6_of_4 : decode cX6_of 4 = .ok (.iload_n 1, 1) := by decide +kernel
theorem dX6_of_5 : decode cX6_of 5 = .ok (.invokevirtual 69, 3) := by decide +kernel
theorem dX6_of_8 : decode cX6_of 8 = .ok (.ifCond .ne 5, 3) := by decide +kernel
theorem dX6_of_11 : decode cX6_of 11 = .ok (.iconst (-1), 1) := by decide +kernel
theorem dX6_of_12 : decode cX6_of 12 = .ok (.ireturn, 1) := by decide +kernel
theorem dX6_of_13 : decode cX6_of 13 = .ok (.iload_n 2, 1) := by decide +kernel
theorem dX6_of_14 : decode cX6_of 14 = .ok (.tableswitch 97 0 5 #[38, 48, 58, 68, 78, 88], 38) := by decide +kernel
theorem dX6_of_52 : decode cX6_of 52 = .ok (.aload_n 0, 1) := by decide +kernel
theorem dX6_of_53 : decode cX6_of 53 = .ok (.getfield 22, 3) := by decide +kernel
theorem dX6_of_56 : decode cX6_of 56 = .ok (.getfield 73, 3) := by decide +kernel
theorem dX6_of_59 : decode cX6_of 59 = .ok (.iload_n 1, 1) := by decide +kernel
theorem dX6_of_60 : decode cX6_of 60 = .ok (.iaload, 1) := by decide +kernel
theorem dX6_of_61 : decode cX6_of 61 = .ok (.ireturn, 1) := by decide +kernel
theorem dX6_of_62 : decode cX6_of 62 = .ok (.aload_n 0, 1) := by decide +kernel
theorem dX6_of_63 : decode cX6_of 63 = .ok (.getfield 22, 3) := by decide +kernel
theorem dX6_of_66 : decode cX6_of 66 = .ok (.getfield 77, 3) := by decide +kernel
theorem dX6_of_69 : decode cX6_of 69 = .ok (.iload_n 1, 1) := by decide +kernel
theorem dX6_of_70 : decode cX6_of 70 = .ok (.iaload, 1) := by decide +kernel
theorem dX6_of_71 : decode cX6_of 71 = .ok (.ireturn, 1) := by decide +kernel
theorem dX6_of_72 : decode cX6_of 72 = .ok (.aload_n 0, 1) := by decide +kernel
theorem dX6_of_73 : decode cX6_of 73 = .ok (.getfield 22, 3) := by decide +kernel
theorem dX6_of_76 : decode cX6_of 76 = .ok (.getfield 80, 3) := by decide +kernel
theorem dX6_of_79 : decode cX6_of 79 = .ok (.iload_n 1, 1) := by decide +kernel
theorem dX6_of_80 : decode cX6_of 80 = .ok (.iaload, 1) := by decide +kernel
theorem dX6_of_81 : decode cX6_of 81 = .ok (.ireturn, 1) := by decide +kernel
theorem dX6_of_82 : decode cX6_of 82 = .ok (.aload_n 0, 1) := by decide +kernel
theorem dX6_of_83 : decode cX6_of 83 = .ok (.invokevirtual 83, 3) := by decide +kernel
theorem dX6_of_86 : decode cX6_of 86 = .ok (.getfield 87, 3) := by decide +kernel
theorem dX6_of_89 : decode cX6_of 89 = .ok (.iload_n 1, 1) := by decide +kernel
theorem dX6_of_90 : decode cX6_of 90 = .ok (.iaload, 1) := by decide +kernel
theorem dX6_of_91 : decode cX6_of 91 = .ok (.ireturn, 1) := by decide +kernel
theorem dX6_of_92 : decode cX6_of 92 = .ok (.aload_n 0, 1) := by decide +kernel
theorem dX6_of_93 : decode cX6_of 93 = .ok (.getfield 22, 3) := by decide +kernel
theorem dX6_of_96 : decode cX6_of 96 = .ok (.getfield 90, 3) := by decide +kernel
theorem dX6_of_99 : decode cX6_of 99 = .ok (.iload_n 1, 1) := by decide +kernel
theorem dX6_of_100 : decode cX6_of 100 = .ok (.iaload, 1) := by decide +kernel
theorem dX6_of_101 : decode cX6_of 101 = .ok (.ireturn, 1) := by decide +kernel
theorem dX6_of_102 : decode cX6_of 102 = .ok (.aload_n 0, 1) := by decide +kernel
theorem dX6_of_103 : decode cX6_of 103 = .ok (.getfield 22, 3) := by decide +kernel
theorem dX6_of_106 : decode cX6_of 106 = .ok (.iload_n 1, 1) := by decide +kernel
theorem dX6_of_107 : decode cX6_of 107 = .ok (.invokevirtual 93, 3) := by decide +kernel
theorem dX6_of_110 : decode cX6_of 110 = .ok (.ireturn, 1) := by decide +kernel
theorem dX6_of_111 : decode cX6_of 111 = .ok (.iconst (-1), 1) := by decide +kernel
theorem dX6_of_112 : decode cX6_of 112 = .ok (.ireturn, 1) := by decide +kernel
theorem dX6_road_0 : decode cX6_road 0 = .ok (.aload_n 0, 1) := by decide +kernel
theorem dX6_road_1 : decode cX6_road 1 = .ok (.getfield 22, 3) := by decide +kernel
theorem dX6_road_4 : decode cX6_road 4 = .ok (.iload_n 1, 1) := by decide +kernel
theorem dX6_road_5 : decode cX6_road 5 = .ok (.invokevirtual 69, 3) := by decide +kernel
theorem dX6_road_8 : decode cX6_road 8 = .ok (.ifCond .eq 14, 3) := by decide +kernel
theorem dX6_road_11 : decode cX6_road 11 = .ok (.aload_n 0, 1) := by decide +kernel
theorem dX6_road_12 : decode cX6_road 12 = .ok (.getfield 22, 3) := by decide +kernel
theorem dX6_road_15 : decode cX6_road 15 = .ok (.iload_n 2, 1) := by decide +kernel
theorem dX6_road_16 : decode cX6_road 16 = .ok (.invokevirtual 69, 3) := by decide +kernel
theorem dX6_road_19 : decode cX6_road 19 = .ok (.ifCond .ne 5, 3) := by decide +kernel
theorem dX6_road_22 : decode cX6_road 22 = .ok (.iconst (-1), 1) := by decide +kernel
theorem dX6_road_23 : decode cX6_road 23 = .ok (.ireturn, 1) := by decide +kernel
theorem dX6_road_24 : decode cX6_road 24 = .ok (.iload_n 1, 1) := by decide +kernel
theorem dX6_road_25 : decode cX6_road 25 = .ok (.iload_n 2, 1) := by decide +kernel
theorem dX6_road_26 : decode cX6_road 26 = .ok (.if_icmp .eq 13, 3) := by decide +kernel
theorem dX6_road_29 : decode cX6_road 29 = .ok (.iload_n 3, 1) := by decide +kernel
theorem dX6_road_30 : decode cX6_road 30 = .ok (.ifCond .lt 9, 3) := by decide +kernel
theorem dX6_road_33 : decode cX6_road 33 = .ok (.iload_n 3, 1) := by decide +kernel
theorem dX6_road_34 : decode cX6_road 34 = .ok (.bipush 99, 2) := by decide +kernel
theorem dX6_road_36 : decode cX6_road 36 = .ok (.if_icmp .le 6, 3) := by decide +kernel
theorem dX6_road_39 : decode cX6_road 39 = .ok (.bipush (-2), 2) := by decide +kernel
theorem dX6_road_41 : decode cX6_road 41 = .ok (.ireturn, 1) := by decide +kernel
theorem dX6_road_42 : decode cX6_road 42 = .ok (.aload_n 0, 1) := by decide +kernel
theorem dX6_road_43 : decode cX6_road 43 = .ok (.getfield 22, 3) := by decide +kernel
theorem dX6_road_46 : decode cX6_road 46 = .ok (.getfield 97, 3) := by decide +kernel
theorem dX6_road_49 : decode cX6_road 49 = .ok (.iload_n 1, 1) := by decide +kernel
theorem dX6_road_50 : decode cX6_road 50 = .ok (.iload_n 2, 1) := by decide +kernel
theorem dX6_road_51 : decode cX6_road 51 = .ok (.invokestatic 100, 3) := by decide +kernel
theorem dX6_road_54 : decode cX6_road 54 = .ok (.iaload, 1) := by decide +kernel
theorem dX6_road_55 : decode cX6_road 55 = .ok (.istore 4, 2) := by decide +kernel
theorem dX6_road_57 : decode cX6_road 57 = .ok (.aload_n 0, 1) := by decide +kernel
theorem dX6_road_58 : decode cX6_road 58 = .ok (.getfield 22, 3) := by decide +kernel
theorem dX6_road_61 : decode cX6_road 61 = .ok (.iload_n 1, 1) := by decide +kernel
theorem dX6_road_62 : decode cX6_road 62 = .ok (.iload_n 2, 1) := by decide +kernel
theorem dX6_road_63 : decode cX6_road 63 = .ok (.iload_n 3, 1) := by decide +kernel
theorem dX6_road_64 : decode cX6_road 64 = .ok (.invokevirtual 104, 3) := by decide +kernel
theorem dX6_road_67 : decode cX6_road 67 = .ok (.iload 4, 2) := by decide +kernel
theorem dX6_road_69 : decode cX6_road 69 = .ok (.ireturn, 1) := by decide +kernel
theorem dX6_far_0 : decode cX6_far 0 = .ok (.aload_n 0, 1) := by decide +kernel
theorem dX6_far_1 : decode cX6_far 1 = .ok (.getfield 22, 3) := by decide +kernel
theorem dX6_far_4 : decode cX6_far 4 = .ok (.iload_n 1, 1) := by decide +kernel
theorem dX6_far_5 : decode cX6_far 5 = .ok (.invokevirtual 69, 3) := by decide +kernel
theorem dX6_far_8 : decode cX6_far 8 = .ok (.ifCond .eq 14, 3) := by decide +kernel
theorem dX6_far_11 : decode cX6_far 11 = .ok (.aload_n 0, 1) := by decide +kernel
theorem dX6_far_12 : decode cX6_far 12 = .ok (.getfield 22, 3) := by decide +kernel
theorem dX6_far_15 : decode cX6_far 15 = .ok (.iload_n 2, 1) := by decide +kernel
theorem dX6_far_16 : decode cX6_far 16 = .ok (.invokevirtual 69, 3) := by decide +kernel
theorem dX6_far_19 : decode cX6_far 19 = .ok (.ifCond .ne 5, 3) := by decide +kernel
theorem dX6_far_22 : decode cX6_far 22 = .ok (.iconst (-1), 1) := by decide +kernel
theorem dX6_far_23 : decode cX6_far 23 = .ok (.ireturn, 1) := by decide +kernel
theorem dX6_far_24 : decode cX6_far 24 = .ok (.aload_n 0, 1) := by decide +kernel
theorem dX6_far_25 : decode cX6_far 25 = .ok (.invokevirtual 83, 3) := by decide +kernel
theorem dX6_far_28 : decode cX6_far 28 = .ok (.getfield 108, 3) := by decide +kernel
theorem dX6_far_31 : decode cX6_far 31 = .ok (.iload_n 1, 1) := by decide +kernel
theorem dX6_far_32 : decode cX6_far 32 = .ok (.iload_n 2, 1) := by decide +kernel
theorem dX6_far_33 : decode cX6_far 33 = .ok (.invokestatic 100, 3) := by decide +kernel
theorem dX6_far_36 : decode cX6_far 36 = .ok (.iaload, 1) := by decide +kernel
theorem dX6_far_37 : decode cX6_far 37 = .ok (.ireturn, 1) := by decide +kernel
theorem dX6_name_0 : decode cX6_name 0 = .ok (.aload_n 0, 1) := by decide +kernel
theorem dX6_name_1 : decode cX6_name 1 = .ok (.getfield 22, 3) := by decide +kernel
theorem dX6_name_4 : decode cX6_name 4 = .ok (.iload_n 1, 1) := by decide +kernel
theorem dX6_name_5 : decode cX6_name 5 = .ok (.invokevirtual 69, 3) := by decide +kernel
theorem dX6_name_8 : decode cX6_name 8 = .ok (.ifCond .eq 14, 3) := by decide +kernel
theorem dX6_name_11 : decode cX6_name 11 = .ok (.aload_n 0, 1) := by decide +kernel
theorem dX6_name_12 : decode cX6_name 12 = .ok (.getfield 22, 3) := by decide +kernel
theorem dX6_name_15 : decode cX6_name 15 = .ok (.iload_n 2, 1) := by decide +kernel
theorem dX6_name_16 : decode cX6_name 16 = .ok (.invokevirtual 69, 3) := by decide +kernel
theorem dX6_name_19 : decode cX6_name 19 = .ok (.ifCond .ne 5, 3) := by decide +kernel
theorem dX6_name_22 : decode cX6_name 22 = .ok (.iconst (-1), 1) := by decide +kernel
theorem dX6_name_23 : decode cX6_name 23 = .ok (.ireturn, 1) := by decide +kernel
theorem dX6_name_24 : decode cX6_name 24 = .ok (.iload_n 1, 1) := by decide +kernel
theorem dX6_name_25 : decode cX6_name 25 = .ok (.iload_n 2, 1) := by decide +kernel
theorem dX6_name_26 : decode cX6_name 26 = .ok (.if_icmp .ne 6, 3) := by decide +kernel
theorem dX6_name_29 : decode cX6_name 29 = .ok (.bipush (-2), 2) := by decide +kernel
theorem dX6_name_31 : decode cX6_name 31 = .ok (.ireturn, 1) := by decide +kernel
theorem dX6_name_32 : decode cX6_name 32 = .ok (.aload_n 0, 1) := by decide +kernel
theorem dX6_name_33 : decode cX6_name 33 = .ok (.getfield 22, 3) := by decide +kernel
theorem dX6_name_36 : decode cX6_name 36 = .ok (.iload_n 1, 1) := by decide +kernel
theorem dX6_name_37 : decode cX6_name 37 = .ok (.iload_n 2, 1) := by decide +kernel
theorem dX6_name_38 : decode cX6_name 38 = .ok (.invokevirtual 111, 3) := by decide +kernel
theorem dX6_name_41 : decode cX6_name 41 = .ok (.ifCond .eq 6, 3) := by decide +kernel
theorem dX6_name_44 : decode cX6_name 44 = .ok (.bipush (-3), 2) := by decide +kernel
theorem dX6_name_46 : decode cX6_name 46 = .ok (.ireturn, 1) := by decide +kernel
theorem dX6_name_47 : decode cX6_name 47 = .ok (.aload_n 0, 1) := by decide +kernel
theorem dX6_name_48 : decode cX6_name 48 = .ok (.iload_n 1, 1) := by decide +kernel
theorem dX6_name_49 : decode cX6_name 49 = .ok (.invokevirtual 115, 3) := by decide +kernel
theorem dX6_name_52 : decode cX6_name 52 = .ok (.ifCond .eq 11, 3) := by decide +kernel
theorem dX6_name_55 : decode cX6_name 55 = .ok (.aload_n 0, 1) := by decide +kernel
theorem dX6_name_56 : decode cX6_name 56 = .ok (.iload_n 2, 1) := by decide +kernel
theorem dX6_name_57 : decode cX6_name 57 = .ok (.invokevirtual 115, 3) := by decide +kernel
theorem dX6_name_60 : decode cX6_name 60 = .ok (.ifCond .ne 6, 3) := by decide +kernel
theorem dX6_name_63 : decode cX6_name 63 = .ok (.bipush (-4), 2) := by decide +kernel
theorem dX6_name_65 : decode cX6_name 65 = .ok (.ireturn, 1) := by decide +kernel
theorem dX6_name_66 : decode cX6_name 66 = .ok (.aload_n 0, 1) := by decide +kernel
theorem dX6_name_67 : decode cX6_name 67 = .ok (.getfield 22, 3) := by decide +kernel
theorem dX6_name_70 : decode cX6_name 70 = .ok (.iload_n 1, 1) := by decide +kernel
theorem dX6_name_71 : decode cX6_name 71 = .ok (.iload_n 2, 1) := by decide +kernel
theorem dX6_name_72 : decode cX6_name 72 = .ok (.invokevirtual 118, 3) := by decide +kernel
theorem dX6_name_75 : decode cX6_name 75 = .ok (.aload_n 0, 1) := by decide +kernel
theorem dX6_name_76 : decode cX6_name 76 = .ok (.getfield 22, 3) := by decide +kernel
theorem dX6_name_79 : decode cX6_name 79 = .ok (.getfield 90, 3) := by decide +kernel
theorem dX6_name_82 : decode cX6_name 82 = .ok (.iload_n 1, 1) := by decide +kernel
theorem dX6_name_83 : decode cX6_name 83 = .ok (.iaload, 1) := by decide +kernel
theorem dX6_name_84 : decode cX6_name 84 = .ok (.invokestatic 122, 3) := by decide +kernel
theorem dX6_name_87 : decode cX6_name 87 = .ok (.ireturn, 1) := by decide +kernel
theorem dX6_strike_0 : decode cX6_strike 0 = .ok (.aload_n 0, 1) := by decide +kernel
theorem dX6_strike_1 : decode cX6_strike 1 = .ok (.getfield 22, 3) := by decide +kernel
theorem dX6_strike_4 : decode cX6_strike 4 = .ok (.iload_n 1, 1) := by decide +kernel
theorem dX6_strike_5 : decode cX6_strike 5 = .ok (.invokevirtual 69, 3) := by decide +kernel
theorem dX6_strike_8 : decode cX6_strike 8 = .ok (.ifCond .eq 14, 3) := by decide +kernel
theorem dX6_strike_11 : decode cX6_strike 11 = .ok (.aload_n 0, 1) := by decide +kernel
theorem dX6_strike_12 : decode cX6_strike 12 = .ok (.getfield 22, 3) := by decide +kernel
theorem dX6_strike_15 : decode cX6_strike 15 = .ok (.iload_n 2, 1) := by decide +kernel
theorem dX6_strike_16 : decode cX6_strike 16 = .ok (.invokevirtual 69, 3) := by decide +kernel
theorem dX6_strike_19 : decode cX6_strike 19 = .ok (.ifCond .ne 5, 3) := by decide +kernel
theorem dX6_strike_22 : decode cX6_strike 22 = .ok (.iconst (-1), 1) := by decide +kernel
theorem dX6_strike_23 : decode cX6_strike 23 = .ok (.ireturn, 1) := by decide +kernel
theorem dX6_strike_24 : decode cX6_strike 24 = .ok (.aload_n 0, 1) := by decide +kernel
theorem dX6_strike_25 : decode cX6_strike 25 = .ok (.getfield 22, 3) := by decide +kernel
theorem dX6_strike_28 : decode cX6_strike 28 = .ok (.iload_n 1, 1) := by decide +kernel
theorem dX6_strike_29 : decode cX6_strike 29 = .ok (.iload_n 2, 1) := by decide +kernel
theorem dX6_strike_30 : decode cX6_strike 30 = .ok (.invokevirtual 111, 3) := by decide +kernel
theorem dX6_strike_33 : decode cX6_strike 33 = .ok (.ifCond .ne 6, 3) := by decide +kernel
theorem dX6_strike_36 : decode cX6_strike 36 = .ok (.bipush (-3), 2) := by decide +kernel
theorem dX6_strike_38 : decode cX6_strike 38 = .ok (.ireturn, 1) := by decide +kernel
theorem dX6_strike_39 : decode cX6_strike 39 = .ok (.aload_n 0, 1) := by decide +kernel
theorem dX6_strike_40 : decode cX6_strike 40 = .ok (.getfield 22, 3) := by decide +kernel
theorem dX6_strike_43 : decode cX6_strike 43 = .ok (.iload_n 1, 1) := by decide +kernel
theorem dX6_strike_44 : decode cX6_strike 44 = .ok (.iload_n 2, 1) := by decide +kernel
theorem dX6_strike_45 : decode cX6_strike 45 = .ok (.invokevirtual 118, 3) := by decide +kernel
theorem dX6_strike_48 : decode cX6_strike 48 = .ok (.aload_n 0, 1) := by decide +kernel
theorem dX6_strike_49 : decode cX6_strike 49 = .ok (.getfield 22, 3) := by decide +kernel
theorem dX6_strike_52 : decode cX6_strike 52 = .ok (.getfield 90, 3) := by decide +kernel
theorem dX6_strike_55 : decode cX6_strike 55 = .ok (.iload_n 1, 1) := by decide +kernel
theorem dX6_strike_56 : decode cX6_strike 56 = .ok (.iaload, 1) := by decide +kernel
theorem dX6_strike_57 : decode cX6_strike 57 = .ok (.invokestatic 122, 3) := by decide +kernel
theorem dX6_strike_60 : decode cX6_strike 60 = .ok (.ireturn, 1) := by decide +kernel
theorem dX6_traveller_0 : decode cX6_traveller 0 = .ok (.aload_n 0, 1) := by decide +kernel
theorem dX6_traveller_1 : decode cX6_traveller 1 = .ok (.getfield 22, 3) := by decide +kernel
theorem dX6_traveller_4 : decode cX6_traveller 4 = .ok (.iload_n 1, 1) := by decide +kernel
theorem dX6_traveller_5 : decode cX6_traveller 5 = .ok (.invokevirtual 69, 3) := by decide +kernel
theorem dX6_traveller_8 : decode cX6_traveller 8 = .ok (.ifCond .eq 14, 3) := by decide +kernel
theorem dX6_traveller_11 : decode cX6_traveller 11 = .ok (.aload_n 0, 1) := by decide +kernel
theorem dX6_traveller_12 : decode cX6_traveller 12 = .ok (.getfield 22, 3) := by decide +kernel
theorem dX6_traveller_15 : decode cX6_traveller 15 = .ok (.iload_n 2, 1) := by decide +kernel
theorem dX6_traveller_16 : decode cX6_traveller 16 = .ok (.invokevirtual 69, 3) := by decide +kernel
theorem dX6_traveller_19 : decode cX6_traveller 19 = .ok (.ifCond .ne 5, 3) := by decide +kernel
theorem dX6_traveller_22 : decode cX6_traveller 22 = .ok (.iconst (-1), 1) := by decide +kernel
theorem dX6_traveller_23 : decode cX6_traveller 23 = .ok (.ireturn, 1) := by decide +kernel
theorem dX6_traveller_24 : decode cX6_traveller 24 = .ok (.iload_n 1, 1) := by decide +kernel
theorem dX6_traveller_25 : decode cX6_traveller 25 = .ok (.iload_n 2, 1) := by decide +kernel
theorem dX6_traveller_26 : decode cX6_traveller 26 = .ok (.if_icmp .eq 14, 3) := by decide +kernel
theorem dX6_traveller_29 : decode cX6_traveller 29 = .ok (.iload_n 3, 1) := by decide +kernel
theorem dX6_traveller_30 : decode cX6_traveller 30 = .ok (.iconst 1, 1) := by decide +kernel
theorem dX6_traveller_31 : decode cX6_traveller 31 = .ok (.if_icmp .lt 9, 3) := by decide +kernel
theorem dX6_traveller_34 : decode cX6_traveller 34 = .ok (.iload_n 3, 1) := by decide +kernel
theorem dX6_traveller_35 : decode cX6_traveller 35 = .ok (.bipush 99, 2) := by decide +kernel
theorem dX6_traveller_37 : decode cX6_traveller 37 = .ok (.if_icmp .le 6, 3) := by decide +kernel
theorem dX6_traveller_40 : decode cX6_traveller 40 = .ok (.bipush (-2), 2) := by decide +kernel
theorem dX6_traveller_42 : decode cX6_traveller 42 = .ok (.ireturn, 1) := by decide +kernel
theorem dX6_traveller_43 : decode cX6_traveller 43 = .ok (.aload_n 0, 1) := by decide +kernel
theorem dX6_traveller_44 : decode cX6_traveller 44 = .ok (.getfield 22, 3) := by decide +kernel
theorem dX6_traveller_47 : decode cX6_traveller 47 = .ok (.getfield 127, 3) := by decide +kernel
theorem dX6_traveller_50 : decode cX6_traveller 50 = .ok (.bipush 8, 2) := by decide +kernel
theorem dX6_traveller_52 : decode cX6_traveller 52 = .ok (.if_icmp .lt 6, 3) := by decide +kernel
theorem dX6_traveller_55 : decode cX6_traveller 55 = .ok (.bipush (-4), 2) := by decide +kernel
theorem dX6_traveller_57 : decode cX6_traveller 57 = .ok (.ireturn, 1) := by decide +kernel
theorem dX6_traveller_58 : decode cX6_traveller 58 = .ok (.aload_n 0, 1) := by decide +kernel
theorem dX6_traveller_59 : decode cX6_traveller 59 = .ok (.getfield 22, 3) := by decide +kernel
theorem dX6_traveller_62 : decode cX6_traveller 62 = .ok (.iload_n 1, 1) := by decide +kernel
theorem dX6_traveller_63 : decode cX6_traveller 63 = .ok (.iload_n 2, 1) := by decide +kernel
theorem dX6_traveller_64 : decode cX6_traveller 64 = .ok (.iload_n 3, 1) := by decide +kernel
theorem dX6_traveller_65 : decode cX6_traveller 65 = .ok (.invokevirtual 130, 3) := by decide +kernel
theorem dX6_traveller_68 : decode cX6_traveller 68 = .ok (.ireturn, 1) := by decide +kernel
theorem dX6_feed_0 : decode cX6_feed 0 = .ok (.iload_n 1, 1) := by decide +kernel
theorem dX6_feed_1 : decode cX6_feed 1 = .ok (.ifCond .lt 9, 3) := by decide +kernel
theorem dX6_feed_4 : decode cX6_feed 4 = .ok (.iload_n 1, 1) := by decide +kernel
theorem dX6_feed_5 : decode cX6_feed 5 = .ok (.bipush 127, 2) := by decide +kernel
theorem dX6_feed_7 : decode cX6_feed 7 = .ok (.if_icmp .le 6, 3) := by decide +kernel
theorem dX6_feed_10 : decode cX6_feed 10 = .ok (.bipush (-2), 2) := by decide +kernel
theorem dX6_feed_12 : decode cX6_feed 12 = .ok (.ireturn, 1) := by decide +kernel
theorem dX6_feed_13 : decode cX6_feed 13 = .ok (.aload_n 0, 1) := by decide +kernel
theorem dX6_feed_14 : decode cX6_feed 14 = .ok (.getfield 43, 3) := by decide +kernel
theorem dX6_feed_17 : decode cX6_feed 17 = .ok (.getfield 133, 3) := by decide +kernel
theorem dX6_feed_20 : decode cX6_feed 20 = .ok (.bipush 100, 2) := by decide +kernel
theorem dX6_feed_22 : decode cX6_feed 22 = .ok (.if_icmp .lt 6, 3) := by decide +kernel
theorem dX6_feed_25 : decode cX6_feed 25 = .ok (.bipush (-4), 2) := by decide +kernel
theorem dX6_feed_27 : decode cX6_feed 27 = .ok (.ireturn, 1) := by decide +kernel
theorem dX6_feed_28 : decode cX6_feed 28 = .ok (.aload_n 0, 1) := by decide +kernel
theorem dX6_feed_29 : decode cX6_feed 29 = .ok (.getfield 43, 3) := by decide +kernel
theorem dX6_feed_32 : decode cX6_feed 32 = .ok (.iload_n 1, 1) := by decide +kernel
theorem dX6_feed_33 : decode cX6_feed 33 = .ok (.i2c, 1) := by decide +kernel
theorem dX6_feed_34 : decode cX6_feed 34 = .ok (.invokevirtual 136, 3) := by decide +kernel
theorem dX6_feed_37 : decode cX6_feed 37 = .ok (.ireturn, 1) := by decide +kernel
theorem dX6_land_0 : decode cX6_land 0 = .ok (.aload_n 0, 1) := by decide +kernel
theorem dX6_land_1 : decode cX6_land 1 = .ok (.getfield 140, 3) := by decide +kernel
theorem dX6_land_4 : decode cX6_land 4 = .ok (.bipush 6, 2) := by decide +kernel
theorem dX6_land_6 : decode cX6_land 6 = .ok (.if_icmp .lt 6, 3) := by decide +kernel
theorem dX6_land_9 : decode cX6_land 9 = .ok (.bipush (-4), 2) := by decide +kernel
end
section
theorem dX6_land_11 : decode cX6_land 11 = .ok (.ireturn, 1) := by decide +kernel
theorem dX6_land_12 : decode cX6_land 12 = .ok (.aload_n 0, 1) := by decide +kernel
theorem dX6_land_13 : decode cX6_land 13 = .ok (.getfield 43, 3) := by decide +kernel
theorem dX6_land_16 : decode cX6_land 16 = .ok (.aload_n 0, 1) := by decide +kernel
theorem dX6_land_17 : decode cX6_land 17 = .ok (.getfield 36, 3) := by decide +kernel
theorem dX6_land_20 : decode cX6_land 20 = .ok (.aload_n 0, 1) := by decide +kernel
theorem dX6_land_21 : decode cX6_land 21 = .ok (.getfield 140, 3) := by decide +kernel
theorem dX6_land_24 : decode cX6_land 24 = .ok (.aaload, 1) := by decide +kernel
theorem dX6_land_25 : decode cX6_land 25 = .ok (.invokevirtual 143, 3) := by decide +kernel
theorem dX6_land_28 : decode cX6_land 28 = .ok (.istore_n 1, 1) := by decide +kernel
theorem dX6_land_29 : decode cX6_land 29 = .ok (.aload_n 0, 1) := by decide +kernel
theorem dX6_land_30 : decode cX6_land 30 = .ok (.getfield 43, 3) := by decide +kernel
theorem dX6_land_33 : decode cX6_land 33 = .ok (.invokevirtual 147, 3) := by decide +kernel
theorem dX6_land_36 : decode cX6_land 36 = .ok (.iload_n 1, 1) := by decide +kernel
theorem dX6_land_37 : decode cX6_land 37 = .ok (.ifCond .lt 8, 3) := by decide +kernel
theorem dX6_land_40 : decode cX6_land 40 = .ok (.bipush (-10), 2) := by decide +kernel
theorem dX6_land_42 : decode cX6_land 42 = .ok (.iload_n 1, 1) := by decide +kernel
theorem dX6_land_43 : decode cX6_land 43 = .ok (.isub, 1) := by decide +kernel
theorem dX6_land_44 : decode cX6_land 44 = .ok (.ireturn, 1) := by decide +kernel
theorem dX6_land_45 : decode cX6_land 45 = .ok (.aload_n 0, 1) := by decide +kernel
theorem dX6_land_46 : decode cX6_land 46 = .ok (.getfield 22, 3) := by decide +kernel
theorem dX6_land_49 : decode cX6_land 49 = .ok (.aload_n 0, 1) := by decide +kernel
theorem dX6_land_50 : decode cX6_land 50 = .ok (.getfield 140, 3) := by decide +kernel
theorem dX6_land_53 : decode cX6_land 53 = .ok (.putfield 150, 3) := by decide +kernel
theorem dX6_land_56 : decode cX6_land 56 = .ok (.aload_n 0, 1) := by decide +kernel
theorem dX6_land_57 : decode cX6_land 57 = .ok (.dup, 1) := by decide +kernel
theorem dX6_land_58 : decode cX6_land 58 = .ok (.getfield 140, 3) := by decide +kernel
theorem dX6_land_61 : decode cX6_land 61 = .ok (.iconst 1, 1) := by decide +kernel
theorem dX6_land_62 : decode cX6_land 62 = .ok (.iadd, 1) := by decide +kernel
theorem dX6_land_63 : decode cX6_land 63 = .ok (.putfield 140, 3) := by decide +kernel
theorem dX6_land_66 : decode cX6_land 66 = .ok (.aload_n 0, 1) := by decide +kernel
theorem dX6_land_67 : decode cX6_land 67 = .ok (.getfield 22, 3) := by decide +kernel
theorem dX6_land_70 : decode cX6_land 70 = .ok (.getfield 150, 3) := by decide +kernel
theorem dX6_land_73 : decode cX6_land 73 = .ok (.ireturn, 1) := by decide +kernel
theorem dX6_told_0 : decode cX6_told 0 = .ok (.iload_n 1, 1) := by decide +kernel
theorem dX6_told_1 : decode cX6_told 1 = .ok (.lookupswitch 43 #[(0, 27), (1, 35)], 27) := by decide +kernel
theorem dX6_told_28 : decode cX6_told 28 = .ok (.aload_n 0, 1) := by decide +kernel
theorem dX6_told_29 : decode cX6_told 29 = .ok (.invokevirtual 153, 3) := by decide +kernel
theorem dX6_told_32 : decode cX6_told 32 = .ok (.getfield 157, 3) := by decide +kernel
theorem dX6_told_35 : decode cX6_told 35 = .ok (.ireturn, 1) := by decide +kernel
theorem dX6_told_36 : decode cX6_told 36 = .ok (.aload_n 0, 1) := by decide +kernel
theorem dX6_told_37 : decode cX6_told 37 = .ok (.getfield 22, 3) := by decide +kernel
theorem dX6_told_40 : decode cX6_told 40 = .ok (.invokevirtual 160, 3) := by decide +kernel
theorem dX6_told_43 : decode cX6_told 43 = .ok (.ireturn, 1) := by decide +kernel
theorem dX6_told_44 : decode cX6_told 44 = .ok (.iconst (-1), 1) := by decide +kernel
theorem dX6_told_45 : decode cX6_told 45 = .ok (.ireturn, 1) := by decide +kernel
theorem dX6_way_0 : decode cX6_way 0 = .ok (.aload_n 0, 1) := by decide +kernel
theorem dX6_way_1 : decode cX6_way 1 = .ok (.getfield 22, 3) := by decide +kernel
theorem dX6_way_4 : decode cX6_way 4 = .ok (.iload_n 1, 1) := by decide +kernel
theorem dX6_way_5 : decode cX6_way 5 = .ok (.invokevirtual 69, 3) := by decide +kernel
theorem dX6_way_8 : decode cX6_way 8 = .ok (.ifCond .eq 14, 3) := by decide +kernel
theorem dX6_way_11 : decode cX6_way 11 = .ok (.aload_n 0, 1) := by decide +kernel
theorem dX6_way_12 : decode cX6_way 12 = .ok (.getfield 22, 3) := by decide +kernel
theorem dX6_way_15 : decode cX6_way 15 = .ok (.iload_n 2, 1) := by decide +kernel
theorem dX6_way_16 : decode cX6_way 16 = .ok (.invokevirtual 69, 3) := by decide +kernel
theorem dX6_way_19 : decode cX6_way 19 = .ok (.ifCond .ne 5, 3) := by decide +kernel
theorem dX6_way_22 : decode cX6_way 22 = .ok (.iconst (-1), 1) := by decide +kernel
theorem dX6_way_23 : decode cX6_way 23 = .ok (.ireturn, 1) := by decide +kernel
theorem dX6_way_24 : decode cX6_way 24 = .ok (.aload_n 0, 1) := by decide +kernel
theorem dX6_way_25 : decode cX6_way 25 = .ok (.invokevirtual 83, 3) := by decide +kernel
theorem dX6_way_28 : decode cX6_way 28 = .ok (.pop, 1) := by decide +kernel
theorem dX6_way_29 : decode cX6_way 29 = .ok (.aload_n 0, 1) := by decide +kernel
theorem dX6_way_30 : decode cX6_way 30 = .ok (.getfield 12, 3) := by decide +kernel
theorem dX6_way_33 : decode cX6_way 33 = .ok (.iload_n 1, 1) := by decide +kernel
theorem dX6_way_34 : decode cX6_way 34 = .ok (.iload_n 2, 1) := by decide +kernel
theorem dX6_way_35 : decode cX6_way 35 = .ok (.invokevirtual 164, 3) := by decide +kernel
theorem dX6_way_38 : decode cX6_way 38 = .ok (.ifCond .eq 19, 3) := by decide +kernel
theorem dX6_way_41 : decode cX6_way 41 = .ok (.aload_n 0, 1) := by decide +kernel
theorem dX6_way_42 : decode cX6_way 42 = .ok (.getfield 12, 3) := by decide +kernel
theorem dX6_way_45 : decode cX6_way 45 = .ok (.getfield 167, 3) := by decide +kernel
theorem dX6_way_48 : decode cX6_way 48 = .ok (.iload_n 1, 1) := by decide +kernel
theorem dX6_way_49 : decode cX6_way 49 = .ok (.iload_n 2, 1) := by decide +kernel
theorem dX6_way_50 : decode cX6_way 50 = .ok (.invokestatic 100, 3) := by decide +kernel
theorem dX6_way_53 : decode cX6_way 53 = .ok (.iaload, 1) := by decide +kernel
theorem dX6_way_54 : decode cX6_way 54 = .ok (.goto 5, 3) := by decide +kernel
theorem dX6_way_57 : decode cX6_way 57 = .ok (.bipush (-5), 2) := by decide +kernel
theorem dX6_way_59 : decode cX6_way 59 = .ok (.ireturn, 1) := by decide +kernel
theorem dX6_toward_0 : decode cX6_toward 0 = .ok (.aload_n 0, 1) := by decide +kernel
theorem dX6_toward_1 : decode cX6_toward 1 = .ok (.getfield 22, 3) := by decide +kernel
theorem dX6_toward_4 : decode cX6_toward 4 = .ok (.iload_n 1, 1) := by decide +kernel
theorem dX6_toward_5 : decode cX6_toward 5 = .ok (.invokevirtual 69, 3) := by decide +kernel
theorem dX6_toward_8 : decode cX6_toward 8 = .ok (.ifCond .eq 14, 3) := by decide +kernel
theorem dX6_toward_11 : decode cX6_toward 11 = .ok (.aload_n 0, 1) := by decide +kernel
theorem dX6_toward_12 : decode cX6_toward 12 = .ok (.getfield 22, 3) := by decide +kernel
theorem dX6_toward_15 : decode cX6_toward 15 = .ok (.iload_n 2, 1) := by decide +kernel
theorem dX6_toward_16 : decode cX6_toward 16 = .ok (.invokevirtual 69, 3) := by decide +kernel
theorem dX6_toward_19 : decode cX6_toward 19 = .ok (.ifCond .ne 5, 3) := by decide +kernel
theorem dX6_toward_22 : decode cX6_toward 22 = .ok (.iconst (-1), 1) := by decide +kernel
theorem dX6_toward_23 : decode cX6_toward 23 = .ok (.ireturn, 1) := by decide +kernel
theorem dX6_toward_24 : decode cX6_toward 24 = .ok (.aload_n 0, 1) := by decide +kernel
theorem dX6_toward_25 : decode cX6_toward 25 = .ok (.invokevirtual 83, 3) := by decide +kernel
theorem dX6_toward_28 : decode cX6_toward 28 = .ok (.getfield 170, 3) := by decide +kernel
theorem dX6_toward_31 : decode cX6_toward 31 = .ok (.iload_n 1, 1) := by decide +kernel
theorem dX6_toward_32 : decode cX6_toward 32 = .ok (.iload_n 2, 1) := by decide +kernel
theorem dX6_toward_33 : decode cX6_toward 33 = .ok (.invokestatic 100, 3) := by decide +kernel
theorem dX6_toward_36 : decode cX6_toward 36 = .ok (.iaload, 1) := by decide +kernel
theorem dX6_toward_37 : decode cX6_toward 37 = .ok (.ireturn, 1) := by decide +kernel
theorem dX6_next_0 : decode cX6_next 0 = .ok (.aload_n 0, 1) := by decide +kernel
theorem dX6_next_1 : decode cX6_next 1 = .ok (.getfield 22, 3) := by decide +kernel
theorem dX6_next_4 : decode cX6_next 4 = .ok (.iload_n 1, 1) := by decide +kernel
theorem dX6_next_5 : decode cX6_next 5 = .ok (.invokevirtual 69, 3) := by decide +kernel
theorem dX6_next_8 : decode cX6_next 8 = .ok (.ifCond .eq 14, 3) := by decide +kernel
theorem dX6_next_11 : decode cX6_next 11 = .ok (.aload_n 0, 1) := by decide +kernel
theorem dX6_next_12 : decode cX6_next 12 = .ok (.getfield 22, 3) := by decide +kernel
theorem dX6_next_15 : decode cX6_next 15 = .ok (.iload_n 2, 1) := by decide +kernel
theorem dX6_next_16 : decode cX6_next 16 = .ok (.invokevirtual 69, 3) := by decide +kernel
theorem dX6_next_19 : decode cX6_next 19 = .ok (.ifCond .ne 5, 3) := by decide +kernel
theorem dX6_next_22 : decode cX6_next 22 = .ok (.iconst (-1), 1) := by decide +kernel
theorem dX6_next_23 : decode cX6_next 23 = .ok (.ireturn, 1) := by decide +kernel
theorem dX6_next_24 : decode cX6_next 24 = .ok (.iload_n 1, 1) := by decide +kernel
theorem dX6_next_25 : decode cX6_next 25 = .ok (.iload_n 2, 1) := by decide +kernel
theorem dX6_next_26 : decode cX6_next 26 = .ok (.if_icmp .ne 6, 3) := by decide +kernel
theorem dX6_next_29 : decode cX6_next 29 = .ok (.bipush (-2), 2) := by decide +kernel
theorem dX6_next_31 : decode cX6_next 31 = .ok (.ireturn, 1) := by decide +kernel
theorem dX6_next_32 : decode cX6_next 32 = .ok (.aload_n 0, 1) := by decide +kernel
theorem dX6_next_33 : decode cX6_next 33 = .ok (.invokevirtual 83, 3) := by decide +kernel
theorem dX6_next_36 : decode cX6_next 36 = .ok (.getfield 173, 3) := by decide +kernel
theorem dX6_next_39 : decode cX6_next 39 = .ok (.iload_n 1, 1) := by decide +kernel
theorem dX6_next_40 : decode cX6_next 40 = .ok (.iload_n 2, 1) := by decide +kernel
theorem dX6_next_41 : decode cX6_next 41 = .ok (.invokestatic 100, 3) := by decide +kernel
theorem dX6_next_44 : decode cX6_next 44 = .ok (.iaload, 1) := by decide +kernel
theorem dX6_next_45 : decode cX6_next 45 = .ok (.ireturn, 1) := by decide +kernel
theorem dX6_gone_0 : decode cX6_gone 0 = .ok (.aload_n 0, 1) := by decide +kernel
theorem dX6_gone_1 : decode cX6_gone 1 = .ok (.getfield 22, 3) := by decide +kernel
theorem dX6_gone_4 : decode cX6_gone 4 = .ok (.iload_n 1, 1) := by decide +kernel
theorem dX6_gone_5 : decode cX6_gone 5 = .ok (.invokevirtual 69, 3) := by decide +kernel
theorem dX6_gone_8 : decode cX6_gone 8 = .ok (.ifCond .eq 21, 3) := by decide +kernel
theorem dX6_gone_11 : decode cX6_gone 11 = .ok (.aload_n 0, 1) := by decide +kernel
theorem dX6_gone_12 : decode cX6_gone 12 = .ok (.getfield 22, 3) := by decide +kernel
theorem dX6_gone_15 : decode cX6_gone 15 = .ok (.iload_n 2, 1) := by decide +kernel
theorem dX6_gone_16 : decode cX6_gone 16 = .ok (.invokevirtual 69, 3) := by decide +kernel
theorem dX6_gone_19 : decode cX6_gone 19 = .ok (.ifCond .eq 10, 3) := by decide +kernel
theorem dX6_gone_22 : decode cX6_gone 22 = .ok (.iload_n 3, 1) := by decide +kernel
theorem dX6_gone_23 : decode cX6_gone 23 = .ok (.invokestatic 176, 3) := by decide +kernel
theorem dX6_gone_26 : decode cX6_gone 26 = .ok (.ifCond .ne 5, 3) := by decide +kernel
theorem dX6_gone_29 : decode cX6_gone 29 = .ok (.iconst (-1), 1) := by decide +kernel
theorem dX6_gone_30 : decode cX6_gone 30 = .ok (.ireturn, 1) := by decide +kernel
theorem dX6_gone_31 : decode cX6_gone 31 = .ok (.iload_n 1, 1) := by decide +kernel
theorem dX6_gone_32 : decode cX6_gone 32 = .ok (.iload_n 2, 1) := by decide +kernel
theorem dX6_gone_33 : decode cX6_gone 33 = .ok (.if_icmp .ne 6, 3) := by decide +kernel
theorem dX6_gone_36 : decode cX6_gone 36 = .ok (.bipush (-2), 2) := by decide +kernel
theorem dX6_gone_38 : decode cX6_gone 38 = .ok (.ireturn, 1) := by decide +kernel
theorem dX6_gone_39 : decode cX6_gone 39 = .ok (.aload_n 0, 1) := by decide +kernel
theorem dX6_gone_40 : decode cX6_gone 40 = .ok (.invokevirtual 83, 3) := by decide +kernel
theorem dX6_gone_43 : decode cX6_gone 43 = .ok (.iload_n 1, 1) := by decide +kernel
theorem dX6_gone_44 : decode cX6_gone 44 = .ok (.iload_n 2, 1) := by decide +kernel
theorem dX6_gone_45 : decode cX6_gone 45 = .ok (.invokevirtual 179, 3) := by decide +kernel
theorem dX6_gone_48 : decode cX6_gone 48 = .ok (.iload_n 2, 1) := by decide +kernel
theorem dX6_gone_49 : decode cX6_gone 49 = .ok (.if_icmp .eq 6, 3) := by decide +kernel
theorem dX6_gone_52 : decode cX6_gone 52 = .ok (.bipush (-5), 2) := by decide +kernel
theorem dX6_gone_54 : decode cX6_gone 54 = .ok (.ireturn, 1) := by decide +kernel
theorem dX6_gone_55 : decode cX6_gone 55 = .ok (.iload_n 3, 1) := by decide +kernel
theorem dX6_gone_56 : decode cX6_gone 56 = .ok (.ifCond .ne 13, 3) := by decide +kernel
theorem dX6_gone_59 : decode cX6_gone 59 = .ok (.aload_n 0, 1) := by decide +kernel
theorem dX6_gone_60 : decode cX6_gone 60 = .ok (.getfield 12, 3) := by decide +kernel
theorem dX6_gone_63 : decode cX6_gone 63 = .ok (.getfield 182, 3) := by decide +kernel
theorem dX6_gone_66 : decode cX6_gone 66 = .ok (.goto 10, 3) := by decide +kernel
theorem dX6_gone_69 : decode cX6_gone 69 = .ok (.aload_n 0, 1) := by decide +kernel
theorem dX6_gone_70 : decode cX6_gone 70 = .ok (.getfield 12, 3) := by decide +kernel
theorem dX6_gone_73 : decode cX6_gone 73 = .ok (.getfield 185, 3) := by decide +kernel
theorem dX6_gone_76 : decode cX6_gone 76 = .ok (.ireturn, 1) := by decide +kernel
theorem dX6_lost_0 : decode cX6_lost 0 = .ok (.iload_n 1, 1) := by decide +kernel
theorem dX6_lost_1 : decode cX6_lost 1 = .ok (.lookupswitch 43 #[(0, 27), (1, 35)], 27) := by decide +kernel
theorem dX6_lost_28 : decode cX6_lost 28 = .ok (.aload_n 0, 1) := by decide +kernel
theorem dX6_lost_29 : decode cX6_lost 29 = .ok (.invokevirtual 83, 3) := by decide +kernel
theorem dX6_lost_32 : decode cX6_lost 32 = .ok (.invokevirtual 188, 3) := by decide +kernel
theorem dX6_lost_35 : decode cX6_lost 35 = .ok (.ireturn, 1) := by decide +kernel
theorem dX6_lost_36 : decode cX6_lost 36 = .ok (.aload_n 0, 1) := by decide +kernel
theorem dX6_lost_37 : decode cX6_lost 37 = .ok (.invokevirtual 83, 3) := by decide +kernel
theorem dX6_lost_40 : decode cX6_lost 40 = .ok (.invokevirtual 191, 3) := by decide +kernel
theorem dX6_lost_43 : decode cX6_lost 43 = .ok (.ireturn, 1) := by decide +kernel
theorem dX6_lost_44 : decode cX6_lost 44 = .ok (.iconst (-1), 1) := by decide +kernel
theorem dX6_lost_45 : decode cX6_lost 45 = .ok (.ireturn, 1) := by decide +kernel
theorem dX6_longest_0 : decode cX6_longest 0 = .ok (.iload_n 1, 1) := by decide +kernel
theorem dX6_longest_1 : decode cX6_longest 1 = .ok (.invokestatic 176, 3) := by decide +kernel
theorem dX6_longest_4 : decode cX6_longest 4 = .ok (.ifCond .ne 5, 3) := by decide +kernel
theorem dX6_longest_7 : decode cX6_longest 7 = .ok (.iconst (-1), 1) := by decide +kernel
theorem dX6_longest_8 : decode cX6_longest 8 = .ok (.ireturn, 1) := by decide +kernel
theorem dX6_longest_9 : decode cX6_longest 9 = .ok (.aload_n 0, 1) := by decide +kernel
theorem dX6_longest_10 : decode cX6_longest 10 = .ok (.invokevirtual 83, 3) := by decide +kernel
theorem dX6_longest_13 : decode cX6_longest 13 = .ok (.invokevirtual 194, 3) := by decide +kernel
theorem dX6_longest_16 : decode cX6_longest 16 = .ok (.istore_n 2, 1) := by decide +kernel
theorem dX6_longest_17 : decode cX6_longest 17 = .ok (.iload_n 1, 1) := by decide +kernel
theorem dX6_longest_18 : decode cX6_longest 18 = .ok (.iconst 1, 1) := by decide +kernel
theorem dX6_longest_19 : decode cX6_longest 19 = .ok (.if_icmp .ne 5, 3) := by decide +kernel
theorem dX6_longest_22 : decode cX6_longest 22 = .ok (.iload_n 2, 1) := by decide +kernel
theorem dX6_longest_23 : decode cX6_longest 23 = .ok (.ireturn, 1) := by decide +kernel
theorem dX6_longest_24 : decode cX6_longest 24 = .ok (.iload_n 2, 1) := by decide +kernel
theorem dX6_longest_25 : decode cX6_longest 25 = .ok (.ifCond .ge 5, 3) := by decide +kernel
theorem dX6_longest_28 : decode cX6_longest 28 = .ok (.iconst 0, 1) := by decide +kernel
theorem dX6_longest_29 : decode cX6_longest 29 = .ok (.ireturn, 1) := by decide +kernel
theorem dX6_longest_30 : decode cX6_longest 30 = .ok (.aload_n 0, 1) := by decide +kernel
theorem dX6_longest_31 : decode cX6_longest 31 = .ok (.getfield 12, 3) := by decide +kernel
theorem dX6_longest_34 : decode cX6_longest 34 = .ok (.iload_n 2, 1) := by decide +kernel
theorem dX6_longest_35 : decode cX6_longest 35 = .ok (.bipush 10, 2) := by decide +kernel
theorem dX6_longest_37 : decode cX6_longest 37 = .ok (.idiv, 1) := by decide +kernel
theorem dX6_longest_38 : decode cX6_longest 38 = .ok (.iload_n 2, 1) := by decide +kernel
theorem dX6_longest_39 : decode cX6_longest 39 = .ok (.bipush 10, 2) := by decide +kernel
theorem dX6_longest_41 : decode cX6_longest 41 = .ok (.irem, 1) := by decide +kernel
theorem dX6_longest_42 : decode cX6_longest 42 = .ok (.invokevirtual 179, 3) := by decide +kernel
theorem dX6_longest_45 : decode cX6_longest 45 = .ok (.pop, 1) := by decide +kernel
theorem dX6_longest_46 : decode cX6_longest 46 = .ok (.aload_n 0, 1) := by decide +kernel
theorem dX6_longest_47 : decode cX6_longest 47 = .ok (.getfield 12, 3) := by decide +kernel
theorem dX6_longest_50 : decode cX6_longest 50 = .ok (.getfield 182, 3) := by decide +kernel
theorem dX6_longest_53 : decode cX6_longest 53 = .ok (.ireturn, 1) := by decide +kernel
theorem dX6_put_0 : decode cX6_put 0 = .ok (.iload_n 1, 1) := by decide +kernel
theorem dX6_put_1 : decode cX6_put 1 = .ok (.invokestatic 176, 3) := by decide +kernel
theorem dX6_put_4 : decode cX6_put 4 = .ok (.ifCond .eq 12, 3) := by decide +kernel
theorem dX6_put_7 : decode cX6_put 7 = .ok (.aload_n 0, 1) := by decide +kernel
theorem dX6_put_8 : decode cX6_put 8 = .ok (.iconst 1, 1) := by decide +kernel
theorem dX6_put_9 : decode cX6_put 9 = .ok (.iload_n 1, 1) := by decide +kernel
theorem dX6_put_10 : decode cX6_put 10 = .ok (.invokevirtual 197, 3) := by decide +kernel
theorem dX6_put_13 : decode cX6_put 13 = .ok (.goto 4, 3) := by decide +kernel
theorem dX6_put_16 : decode cX6_put 16 = .ok (.iconst (-1), 1) := by decide +kernel
theorem dX6_put_17 : decode cX6_put 17 = .ok (.ireturn, 1) := by decide +kernel
theorem dX6_worst_0 : decode cX6_worst 0 = .ok (.iload_n 1, 1) := by decide +kernel
theorem dX6_worst_1 : decode cX6_worst 1 = .ok (.invokestatic 176, 3) := by decide +kernel
theorem dX6_worst_4 : decode cX6_worst 4 = .ok (.ifCond .eq 12, 3) := by decide +kernel
theorem dX6_worst_7 : decode cX6_worst 7 = .ok (.aload_n 0, 1) := by decide +kernel
theorem dX6_worst_8 : decode cX6_worst 8 = .ok (.iconst 0, 1) := by decide +kernel
theorem dX6_worst_9 : decode cX6_worst 9 = .ok (.iload_n 1, 1) := by decide +kernel
theorem dX6_worst_10 : decode cX6_worst 10 = .ok (.invokevirtual 197, 3) := by decide +kernel
theorem dX6_worst_13 : decode cX6_worst 13 = .ok (.goto 4, 3) := by decide +kernel
theorem dX6_worst_16 : decode cX6_worst 16 = .ok (.iconst (-1), 1) := by decide +kernel
theorem dX6_worst_17 : decode cX6_worst 17 = .ok (.ireturn, 1) := by decide +kernel
theorem dX6_turned_0 : decode cX6_turned 0 = .ok (.aload_n 0, 1) := by decide +kernel
theorem dX6_turned_1 : decode cX6_turned 1 = .ok (.getfield 22, 3) := by decide +kernel
theorem dX6_turned_4 : decode cX6_turned 4 = .ok (.iload_n 1, 1) := by decide +kernel
theorem dX6_turned_5 : decode cX6_turned 5 = .ok (.invokevirtual 69, 3) := by decide +kernel
theorem dX6_turned_8 : decode cX6_turned 8 = .ok (.ifCond .eq 14, 3) := by decide +kernel
theorem dX6_turned_11 : decode cX6_turned 11 = .ok (.aload_n 0, 1) := by decide +kernel
theorem dX6_turned_12 : decode cX6_turned 12 = .ok (.getfield 22, 3) := by decide +kernel
theorem dX6_turned_15 : decode cX6_turned 15 = .ok (.iload_n 2, 1) := by decide +kernel
theorem dX6_turned_16 : decode cX6_turned 16 = .ok (.invokevirtual 69, 3) := by decide +kernel
theorem dX6_turned_19 : decode cX6_turned 19 = .ok (.ifCond .ne 5, 3) := by decide +kernel
theorem dX6_turned_22 : decode cX6_turned 22 = .ok (.iconst (-1), 1) := by decide +kernel
theorem dX6_turned_23 : decode cX6_turned 23 = .ok (.ireturn, 1) := by decide +kernel
theorem dX6_turned_24 : decode cX6_turned 24 = .ok (.aload_n 0, 1) := by decide +kernel
theorem dX6_turned_25 : decode cX6_turned 25 = .ok (.getfield 22, 3) := by decide +kernel
theorem dX6_turned_28 : decode cX6_turned 28 = .ok (.iload_n 1, 1) := by decide +kernel
theorem dX6_turned_29 : decode cX6_turned 29 = .ok (.iload_n 2, 1) := by decide +kernel
theorem dX6_turned_30 : decode cX6_turned 30 = .ok (.invokevirtual 111, 3) := by decide +kernel
theorem dX6_turned_33 : decode cX6_turned 33 = .ok (.ifCond .ne 6, 3) := by decide +kernel
theorem dX6_turned_36 : decode cX6_turned 36 = .ok (.bipush (-3), 2) := by decide +kernel
theorem dX6_turned_38 : decode cX6_turned 38 = .ok (.ireturn, 1) := by decide +kernel
theorem dX6_turned_39 : decode cX6_turned 39 = .ok (.aload_n 0, 1) := by decide +kernel
theorem dX6_turned_40 : decode cX6_turned 40 = .ok (.getfield 12, 3) := by decide +kernel
theorem dX6_turned_43 : decode cX6_turned 43 = .ok (.iload_n 1, 1) := by decide +kernel
theorem dX6_turned_44 : decode cX6_turned 44 = .ok (.iload_n 2, 1) := by decide +kernel
theorem dX6_turned_45 : decode cX6_turned 45 = .ok (.invokevirtual 201, 3) := by decide +kernel
theorem dX6_turned_48 : decode cX6_turned 48 = .ok (.aload_n 0, 1) := by decide +kernel
theorem dX6_turned_49 : decode cX6_turned 49 = .ok (.invokevirtual 83, 3) := by decide +kernel
theorem dX6_turned_52 : decode cX6_turned 52 = .ok (.invokevirtual 191, 3) := by decide +kernel
theorem dX6_turned_55 : decode cX6_turned 55 = .ok (.istore_n 3, 1) := by decide +kernel
theorem dX6_turned_56 : decode cX6_turned 56 = .ok (.aload_n 0, 1) := by decide +kernel
theorem dX6_turned_57 : decode cX6_turned 57 = .ok (.getfield 12, 3) := by decide +kernel
theorem dX6_turned_60 : decode cX6_turned 60 = .ok (.invokevirtual 204, 3) := by decide +kernel
theorem dX6_turned_63 : decode cX6_turned 63 = .ok (.iload_n 3, 1) := by decide +kernel
theorem dX6_turned_64 : decode cX6_turned 64 = .ok (.ireturn, 1) := by decide +kernel
theorem dX6_chain_0 : decode cX6_chain 0 = .ok (.aload_n 0, 1) := by decide +kernel
theorem dX6_chain_1 : decode cX6_chain 1 = .ok (.getfield 22, 3) := by decide +kernel
theorem dX6_chain_4 : decode cX6_chain 4 = .ok (.iload_n 1, 1) := by decide +kernel
theorem dX6_chain_5 : decode cX6_chain 5 = .ok (.invokevirtual 69, 3) := by decide +kernel
theorem dX6_chain_8 : decode cX6_chain 8 = .ok (.ifCond .eq 14, 3) := by decide +kernel
theorem dX6_chain_11 : decode cX6_chain 11 = .ok (.aload_n 0, 1) := by decide +kernel
theorem dX6_chain_12 : decode cX6_chain 12 = .ok (.getfield 22, 3) := by decide +kernel
theorem dX6_chain_15 : decode cX6_chain 15 = .ok (.iload_n 2, 1) := by decide +kernel
theorem dX6_chain_16 : decode cX6_chain 16 = .ok (.invokevirtual 69, 3) := by decide +kernel
theorem dX6_chain_19 : decode cX6_chain 19 = .ok (.ifCond .ne 5, 3) := by decide +kernel
theorem dX6_chain_22 : decode cX6_chain 22 = .ok (.iconst (-1), 1) := by decide +kernel
theorem dX6_chain_23 : decode cX6_chain 23 = .ok (.ireturn, 1) := by decide +kernel
theorem dX6_chain_24 : decode cX6_chain 24 = .ok (.iload_n 1, 1) := by decide +kernel
theorem dX6_chain_25 : decode cX6_chain 25 = .ok (.iload_n 2, 1) := by decide +kernel
theorem dX6_chain_26 : decode cX6_chain 26 = .ok (.if_icmp .ne 6, 3) := by decide +kernel
theorem dX6_chain_29 : decode cX6_chain 29 = .ok (.bipush (-2), 2) := by decide +kernel
theorem dX6_chain_31 : decode cX6_chain 31 = .ok (.ireturn, 1) := by decide +kernel
theorem dX6_chain_32 : decode cX6_chain 32 = .ok (.iconst 1, 1) := by decide +kernel
theorem dX6_chain_33 : decode cX6_chain 33 = .ok (.istore_n 3, 1) := by decide +kernel
theorem dX6_chain_34 : decode cX6_chain 34 = .ok (.iload_n 3, 1) := by decide +kernel
theorem dX6_chain_35 : decode cX6_chain 35 = .ok (.bipush 7, 2) := by decide +kernel
theorem dX6_chain_37 : decode cX6_chain 37 = .ok (.if_icmp .ge 27, 3) := by decide +kernel
theorem dX6_chain_40 : decode cX6_chain 40 = .ok (.aload_n 0, 1) := by decide +kernel
theorem dX6_chain_41 : decode cX6_chain 41 = .ok (.getfield 22, 3) := by decide +kernel
theorem dX6_chain_44 : decode cX6_chain 44 = .ok (.iload_n 1, 1) := by decide +kernel
theorem dX6_chain_45 : decode cX6_chain 45 = .ok (.iload_n 3, 1) := by decide +kernel
theorem dX6_chain_46 : decode cX6_chain 46 = .ok (.invokevirtual 207, 3) := by decide +kernel
theorem dX6_chain_49 : decode cX6_chain 49 = .ok (.iconst 1, 1) := by decide +kernel
theorem dX6_chain_50 : decode cX6_chain 50 = .ok (.iload_n 2, 1) := by decide +kernel
theorem dX6_chain_51 : decode cX6_chain 51 = .ok (.ishl, 1) := by decide +kernel
theorem dX6_chain_52 : decode cX6_chain 52 = .ok (.iand, 1) := by decide +kernel
theorem dX6_chain_53 : decode cX6_chain 53 = .ok (.ifCond .eq 5, 3) := by decide +kernel
theorem dX6_chain_56 : decode cX6_chain 56 = .ok (.iload_n 3, 1) := by decide +kernel
theorem dX6_chain_57 : decode cX6_chain 57 = .ok (.ireturn, 1) := by decide +kernel
theorem dX6_chain_58 : decode cX6_chain 58 = .ok (.iinc 3 1, 3) := by decide +kernel
theorem dX6_chain_61 : decode cX6_chain 61 = .ok (.goto (-27), 3) := by decide +kernel
theorem dX6_chain_64 : decode cX6_chain 64 = .ok (.bipush (-5), 2) := by decide +kernel
theorem dX6_chain_66 : decode cX6_chain 66 = .ok (.ireturn, 1) := by decide +kernel
theorem dX6_allIn_0 : decode cX6_allIn 0 = .ok (.iload_n 1, 1) := by decide +kernel
theorem dX6_allIn_1 : decode cX6_allIn 1 = .ok (.iconst 1, 1) := by decide +kernel
theorem dX6_allIn_2 : decode cX6_allIn 2 = .ok (.if_icmp .lt 9, 3) := by decide +kernel
theorem dX6_allIn_5 : decode cX6_allIn 5 = .ok (.iload_n 1, 1) := by decide +kernel
theorem dX6_allIn_6 : decode cX6_allIn 6 = .ok (.bipush 6, 2) := by decide +kernel
theorem dX6_allIn_8 : decode cX6_allIn 8 = .ok (.if_icmp .le 6, 3) := by decide +kernel
theorem dX6_allIn_11 : decode cX6_allIn 11 = .ok (.bipush (-2), 2) := by decide +kernel
theorem dX6_allIn_13 : decode cX6_allIn 13 = .ok (.ireturn, 1) := by decide +kernel
theorem dX6_allIn_14 : decode cX6_allIn 14 = .ok (.iconst 1, 1) := by decide +kernel
theorem dX6_allIn_15 : decode cX6_allIn 15 = .ok (.aload_n 0, 1) := by decide +kernel
theorem dX6_allIn_16 : decode cX6_allIn 16 = .ok (.getfield 22, 3) := by decide +kernel
theorem dX6_allIn_19 : decode cX6_allIn 19 = .ok (.getfield 61, 3) := by decide +kernel
theorem dX6_allIn_22 : decode cX6_allIn 22 = .ok (.ishl, 1) := by decide +kernel
theorem dX6_allIn_23 : decode cX6_allIn 23 = .ok (.iconst 1, 1) := by decide +kernel
theorem dX6_allIn_24 : decode cX6_allIn 24 = .ok (.isub, 1) := by decide +kernel
theorem dX6_allIn_25 : decode cX6_allIn 25 = .ok (.istore_n 2, 1) := by decide +kernel
theorem dX6_allIn_26 : decode cX6_allIn 26 = .ok (.iconst 0, 1) := by decide +kernel
theorem dX6_allIn_27 : decode cX6_allIn 27 = .ok (.istore_n 3, 1) := by decide +kernel
theorem dX6_allIn_28 : decode cX6_allIn 28 = .ok (.iload_n 3, 1) := by decide +kernel
theorem dX6_allIn_29 : decode cX6_allIn 29 = .ok (.aload_n 0, 1) := by decide +kernel
theorem dX6_allIn_30 : decode cX6_allIn 30 = .ok (.getfield 22, 3) := by decide +kernel
theorem dX6_allIn_33 : decode cX6_allIn 33 = .ok (.getfield 61, 3) := by decide +kernel
theorem dX6_allIn_36 : decode cX6_allIn 36 = .ok (.if_icmp .ge 24, 3) := by decide +kernel
theorem dX6_allIn_39 : decode cX6_allIn 39 = .ok (.aload_n 0, 1) := by decide +kernel
theorem dX6_allIn_40 : decode cX6_allIn 40 = .ok (.getfield 22, 3) := by decide +kernel
theorem dX6_allIn_43 : decode cX6_allIn 43 = .ok (.iload_n 3, 1) := by decide +kernel
theorem dX6_allIn_44 : decode cX6_allIn 44 = .ok (.iload_n 1, 1) := by decide +kernel
theorem dX6_allIn_45 : decode cX6_allIn 45 = .ok (.invokevirtual 207, 3) := by decide +kernel
theorem dX6_allIn_48 : decode cX6_allIn 48 = .ok (.iload_n 2, 1) := by decide +kernel
theorem dX6_allIn_49 : decode cX6_allIn 49 = .ok (.if_icmp .eq 5, 3) := by decide +kernel
theorem dX6_allIn_52 : decode cX6_allIn 52 = .ok (.iconst 0, 1) := by decide +kernel
theorem dX6_allIn_53 : decode cX6_allIn 53 = .ok (.ireturn, 1) := by decide +kernel
theorem dX6_allIn_54 : decode cX6_allIn 54 = .ok (.iinc 3 1, 3) := by decide +kernel
theorem dX6_allIn_57 : decode cX6_allIn 57 = .ok (.goto (-29), 3) := by decide +kernel
theorem dX6_allIn_60 : decode cX6_allIn 60 = .ok (.iconst 1, 1) := by decide +kernel
theorem dX6_allIn_61 : decode cX6_allIn 61 = .ok (.ireturn, 1) := by decide +kernel
theorem dX6_capitals_0 : decode cX6_capitals 0 = .ok (.iconst 0, 1) := by decide +kernel
theorem dX6_capitals_1 : decode cX6_capitals 1 = .ok (.istore_n 1, 1) := by decide +kernel
theorem dX6_capitals_2 : decode cX6_capitals 2 = .ok (.iconst 0, 1) := by decide +kernel
theorem dX6_capitals_3 : decode cX6_capitals 3 = .ok (.istore_n 2, 1) := by decide +kernel
theorem dX6_capitals_4 : decode cX6_capitals 4 = .ok (.iconst 0, 1) := by decide +kernel
theorem dX6_capitals_5 : decode cX6_capitals 5 = .ok (.istore_n 3, 1) := by decide +kernel
theorem dX6_capitals_6 : decode cX6_capitals 6 = .ok (.iload_n 3, 1) := by decide +kernel
theorem dX6_capitals_7 : decode cX6_capitals 7 = .ok (.aload_n 0, 1) := by decide +kernel
theorem dX6_capitals_8 : decode cX6_capitals 8 = .ok (.getfield 22, 3) := by decide +kernel
theorem dX6_capitals_11 : decode cX6_capitals 11 = .ok (.getfield 61, 3) := by decide +kernel
theorem dX6_capitals_14 : decode cX6_capitals 14 = .ok (.if_icmp .ge 46, 3) := by decide +kernel
theorem dX6_capitals_17 : decode cX6_capitals 17 = .ok (.aload_n 0, 1) := by decide +kernel
theorem dX6_capitals_18 : decode cX6_capitals 18 = .ok (.getfield 22, 3) := by decide +kernel
theorem dX6_capitals_21 : decode cX6_capitals 21 = .ok (.getfield 90, 3) := by decide +kernel
theorem dX6_capitals_24 : decode cX6_capitals 24 = .ok (.iload_n 3, 1) := by decide +kernel
theorem dX6_capitals_25 : decode cX6_capitals 25 = .ok (.iaload, 1) := by decide +kernel
theorem dX6_capitals_26 : decode cX6_capitals 26 = .ok (.invokestatic 122, 3) := by decide +kernel
theorem dX6_capitals_29 : decode cX6_capitals 29 = .ok (.istore 4, 2) := by decide +kernel
theorem dX6_capitals_31 : decode cX6_capitals 31 = .ok (.iload 4, 2) := by decide +kernel
theorem dX6_capitals_33 : decode cX6_capitals 33 = .ok (.iload_n 1, 1) := by decide +kernel
theorem dX6_capitals_34 : decode cX6_capitals 34 = .ok (.if_icmp .le 8, 3) := by decide +kernel
theorem dX6_capitals_37 : decode cX6_capitals 37 = .ok (.iload 4, 2) := by decide +kernel
theorem dX6_capitals_39 : decode cX6_capitals 39 = .ok (.istore_n 1, 1) := by decide +kernel
theorem dX6_capitals_40 : decode cX6_capitals 40 = .ok (.iconst 0, 1) := by decide +kernel
theorem dX6_capitals_41 : decode cX6_capitals 41 = .ok (.istore_n 2, 1) := by decide +kernel
theorem dX6_capitals_42 : decode cX6_capitals 42 = .ok (.iload 4, 2) := by decide +kernel
theorem dX6_capitals_44 : decode cX6_capitals 44 = .ok (.iload_n 1, 1) := by decide +kernel
theorem dX6_capitals_45 : decode cX6_capitals 45 = .ok (.if_icmp .ne 9, 3) := by decide +kernel
theorem dX6_capitals_48 : decode cX6_capitals 48 = .ok (.iload_n 2, 1) := by decide +kernel
theorem dX6_capitals_49 : decode cX6_capitals 49 = .ok (.iconst 1, 1) := by decide +kernel
theorem dX6_capitals_50 : decode cX6_capitals 50 = .ok (.iload_n 3, 1) := by decide +kernel
theorem dX6_capitals_51 : decode cX6_capitals 51 = .ok (.ishl, 1) := by decide +kernel
theorem dX6_capitals_52 : decode cX6_capitals 52 = .ok (.ior, 1) := by decide +kernel
theorem dX6_capitals_53 : decode cX6_capitals 53 = .ok (.istore_n 2, 1) := by decide +kernel
theorem dX6_capitals_54 : decode cX6_capitals 54 = .ok (.iinc 3 1, 3) := by decide +kernel
theorem dX6_capitals_57 : decode cX6_capitals 57 = .ok (.goto (-51), 3) := by decide +kernel
theorem dX6_capitals_60 : decode cX6_capitals 60 = .ok (.iload_n 2, 1) := by decide +kernel
theorem dX6_capitals_61 : decode cX6_capitals 61 = .ok (.ireturn, 1) := by decide +kernel
theorem dX6_newRoad_0 : decode cX6_newRoad 0 = .ok (.iload_n 2, 1) := by decide +kernel
theorem dX6_newRoad_1 : decode cX6_newRoad 1 = .ok (.invokestatic 176, 3) := by decide +kernel
theorem dX6_newRoad_4 : decode cX6_newRoad 4 = .ok (.ifCond .ne 5, 3) := by decide +kernel
theorem dX6_newRoad_7 : decode cX6_newRoad 7 = .ok (.iconst (-1), 1) := by decide +kernel
theorem dX6_newRoad_8 : decode cX6_newRoad 8 = .ok (.ireturn, 1) := by decide +kernel
theorem dX6_newRoad_9 : decode cX6_newRoad 9 = .ok (.iload_n 1, 1) := by decide +kernel
theorem dX6_newRoad_10 : decode cX6_newRoad 10 = .ok (.iconst 1, 1) := by decide +kernel
theorem dX6_newRoad_11 : decode cX6_newRoad 11 = .ok (.if_icmp .lt 9, 3) := by decide +kernel
theorem dX6_newRoad_14 : decode cX6_newRoad 14 = .ok (.iload_n 1, 1) := by decide +kernel
theorem dX6_newRoad_15 : decode cX6_newRoad 15 = .ok (.bipush 99, 2) := by decide +kernel
theorem dX6_newRoad_17 : decode cX6_newRoad 17 = .ok (.if_icmp .le 6, 3) := by decide +kernel
theorem dX6_newRoad_20 : decode cX6_newRoad 20 = .ok (.bipush (-2), 2) := by decide +kernel
theorem dX6_newRoad_22 : decode cX6_newRoad 22 = .ok (.ireturn, 1) := by decide +kernel
theorem dX6_newRoad_23 : decode cX6_newRoad 23 = .ok (.aload_n 0, 1) := by decide +kernel
theorem dX6_newRoad_24 : decode cX6_newRoad 24 = .ok (.invokevirtual 83, 3) := by decide +kernel
theorem dX6_newRoad_27 : decode cX6_newRoad 27 = .ok (.invokevirtual 210, 3) := by decide +kernel
theorem dX6_newRoad_30 : decode cX6_newRoad 30 = .ok (.istore_n 3, 1) := by decide +kernel
theorem dX6_newRoad_31 : decode cX6_newRoad 31 = .ok (.bipush (-5), 2) := by decide +kernel
theorem dX6_newRoad_33 : decode cX6_newRoad 33 = .ok (.istore 4, 2) := by decide +kernel
theorem dX6_newRoad_35 : decode cX6_newRoad 35 = .ok (.iconst 0, 1) := by decide +kernel
theorem dX6_newRoad_36 : decode cX6_newRoad 36 = .ok (.istore 5, 2) := by decide +kernel
theorem dX6_newRoad_38 : decode cX6_newRoad 38 = .ok (.iconst 0, 1) := by decide +kernel
theorem dX6_newRoad_39 : decode cX6_newRoad 39 = .ok (.istore 6, 2) := by decide +kernel
theorem dX6_newRoad_41 : decode cX6_newRoad 41 = .ok (.iload 6, 2) := by decide +kernel
theorem dX6_newRoad_43 : decode cX6_newRoad 43 = .ok (.aload_n 0, 1) := by decide +kernel
theorem dX6_newRoad_44 : decode cX6_newRoad 44 = .ok (.getfield 22, 3) := by decide +kernel
theorem dX6_newRoad_47 : decode cX6_newRoad 47 = .ok (.getfield 61, 3) := by decide +kernel
theorem dX6_newRoad_50 : decode cX6_newRoad 50 = .ok (.if_icmp .ge 90, 3) := by decide +kernel
theorem dX6_newRoad_53 : decode cX6_newRoad 53 = .ok (.iload 6, 2) := by decide +kernel
theorem dX6_newRoad_55 : decode cX6_newRoad 55 = .ok (.iconst 1, 1) := by decide +kernel
theorem dX6_newRoad_56 : decode cX6_newRoad 56 = .ok (.iadd, 1) := by decide +kernel
theorem dX6_newRoad_57 : decode cX6_newRoad 57 = .ok (.istore 7, 2) := by decide +kernel
theorem dX6_newRoad_59 : decode cX6_newRoad 59 = .ok (.iload 7, 2) := by decide +kernel
theorem dX6_newRoad_61 : decode cX6_newRoad 61 = .ok (.aload_n 0, 1) := by decide +kernel
theorem dX6_newRoad_62 : decode cX6_newRoad 62 = .ok (.getfield 22, 3) := by decide +kernel
theorem dX6_newRoad_65 : decode cX6_newRoad 65 = .ok (.getfield 61, 3) := by decide +kernel
theorem dX6_newRoad_68 : decode cX6_newRoad 68 = .ok (.if_icmp .ge 66, 3) := by decide +kernel
theorem dX6_newRoad_71 : decode cX6_newRoad 71 = .ok (.aload_n 0, 1) := by decide +kernel
theorem dX6_newRoad_72 : decode cX6_newRoad 72 = .ok (.getfield 22, 3) := by decide +kernel
theorem dX6_newRoad_75 : decode cX6_newRoad 75 = .ok (.getfield 97, 3) := by decide +kernel
theorem dX6_newRoad_78 : decode cX6_newRoad 78 = .ok (.iload 6, 2) := by decide +kernel
theorem dX6_newRoad_80 : decode cX6_newRoad 80 = .ok (.iload 7, 2) := by decide +kernel
theorem dX6_newRoad_82 : decode cX6_newRoad 82 = .ok (.invokestatic 100, 3) := by decide +kernel
theorem dX6_newRoad_85 : decode cX6_newRoad 85 = .ok (.iaload, 1) := by decide +kernel
theorem dX6_newRoad_86 : decode cX6_newRoad 86 = .ok (.ifCond .ne 42, 3) := by decide +kernel
theorem dX6_newRoad_89 : decode cX6_newRoad 89 = .ok (.aload_n 0, 1) := by decide +kernel
theorem dX6_newRoad_90 : decode cX6_newRoad 90 = .ok (.iload 6, 2) := by decide +kernel
theorem dX6_newRoad_92 : decode cX6_newRoad 92 = .ok (.iload 7, 2) := by decide +kernel
theorem dX6_newRoad_94 : decode cX6_newRoad 94 = .ok (.iload_n 1, 1) := by decide +kernel
theorem dX6_newRoad_95 : decode cX6_newRoad 95 = .ok (.invokevirtual 213, 3) := by decide +kernel
theorem dX6_newRoad_98 : decode cX6_newRoad 98 = .ok (.istore 8, 2) := by decide +kernel
theorem dX6_newRoad_100 : decode cX6_newRoad 100 = .ok (.iload 4, 2) := by decide +kernel
theorem dX6_newRoad_102 : decode cX6_newRoad 102 = .ok (.bipush (-5), 2) := by decide +kernel
theorem dX6_newRoad_104 : decode cX6_newRoad 104 = .ok (.if_icmp .eq 10, 3) := by decide +kernel
theorem dX6_newRoad_107 : decode cX6_newRoad 107 = .ok (.iload 8, 2) := by decide +kernel
theorem dX6_newRoad_109 : decode cX6_newRoad 109 = .ok (.iload 5, 2) := by decide +kernel
theorem dX6_newRoad_111 : decode cX6_newRoad 111 = .ok (.if_icmp .ge 17, 3) := by decide +kernel
theorem dX6_newRoad_114 : decode cX6_newRoad 114 = .ok (.bipush 10, 2) := by decide +kernel
theorem dX6_newRoad_116 : decode cX6_newRoad 116 = .ok (.iload 6, 2) := by decide +kernel
theorem dX6_newRoad_118 : decode cX6_newRoad 118 = .ok (.imul, 1) := by decide +kernel
theorem dX6_newRoad_119 : decode cX6_newRoad 119 = .ok (.iload 7, 2) := by decide +kernel
theorem dX6_newRoad_121 : decode cX6_newRoad 121 = .ok (.iadd, 1) := by decide +kernel
theorem dX6_newRoad_122 : decode cX6_newRoad 122 = .ok (.istore 4, 2) := by decide +kernel
theorem dX6_newRoad_124 : decode cX6_newRoad 124 = .ok (.iload 8, 2) := by decide +kernel
theorem dX6_newRoad_126 : decode cX6_newRoad 126 = .ok (.istore 5, 2) := by decide +kernel
theorem dX6_newRoad_128 : decode cX6_newRoad 128 = .ok (.iinc 7 1, 3) := by decide +kernel
theorem dX6_newRoad_131 : decode cX6_newRoad 131 = .ok (.goto (-72), 3) := by decide +kernel
theorem dX6_newRoad_134 : decode cX6_newRoad 134 = .ok (.iinc 6 1, 3) := by decide +kernel
theorem dX6_newRoad_137 : decode cX6_newRoad 137 = .ok (.goto (-96), 3) := by decide +kernel
theorem dX6_newRoad_140 : decode cX6_newRoad 140 = .ok (.iload_n 2, 1) := by decide +kernel
theorem dX6_newRoad_141 : decode cX6_newRoad 141 = .ok (.ifCond .eq 10, 3) := by decide +kernel
theorem dX6_newRoad_144 : decode cX6_newRoad 144 = .ok (.iload 4, 2) := by decide +kernel
theorem dX6_newRoad_146 : decode cX6_newRoad 146 = .ok (.bipush (-5), 2) := by decide +kernel
theorem dX6_newRoad_148 : decode cX6_newRoad 148 = .ok (.if_icmp .ne 8, 3) := by decide +kernel
theorem dX6_newRoad_151 : decode cX6_newRoad 151 = .ok (.iload 4, 2) := by decide +kernel
theorem dX6_newRoad_153 : decode cX6_newRoad 153 = .ok (.goto 7, 3) := by decide +kernel
theorem dX6_newRoad_156 : decode cX6_newRoad 156 = .ok (.iload_n 3, 1) := by decide +kernel
theorem dX6_newRoad_157 : decode cX6_newRoad 157 = .ok (.iload 5, 2) := by decide +kernel
theorem dX6_newRoad_159 : decode cX6_newRoad 159 = .ok (.isub, 1) := by decide +kernel
theorem dX6_newRoad_160 : decode cX6_newRoad 160 = .ok (.ireturn, 1) := by decide +kernel
theorem dX6_gets_0 : decode cX6_gets 0 = .ok (.aload_n 0, 1) := by decide +kernel
theorem dX6_gets_1 : decode cX6_gets 1 = .ok (.getfield 22, 3) := by decide +kernel
theorem dX6_gets_4 : decode cX6_gets 4 = .ok (.iload_n 1, 1) := by decide +kernel
theorem dX6_gets_5 : decode cX6_gets 5 = .ok (.invokevirtual 69, 3) := by decide +kernel
theorem dX6_gets_8 : decode cX6_gets 8 = .ok (.ifCond .ne 5, 3) := by decide +kernel
theorem dX6_gets_11 : decode cX6_gets 11 = .ok (.iconst (-1), 1) := by decide +kernel
theorem dX6_gets_12 : decode cX6_gets 12 = .ok (.ireturn, 1) := by decide +kernel
theorem dX6_gets_13 : decode cX6_gets 13 = .ok (.aload_n 0, 1) := by decide +kernel
theorem dX6_gets_14 : decode cX6_gets 14 = .ok (.invokevirtual 83, 3) := by decide +kernel
theorem dX6_gets_17 : decode cX6_gets 17 = .ok (.pop, 1) := by decide +kernel
theorem dX6_gets_18 : decode cX6_gets 18 = .ok (.iconst 0, 1) := by decide +kernel
theorem dX6_gets_19 : decode cX6_gets 19 = .ok (.istore_n 2, 1) := by decide +kernel
theorem dX6_gets_20 : decode cX6_gets 20 = .ok (.iconst 0, 1) := by decide +kernel
theorem dX6_gets_21 : decode cX6_gets 21 = .ok (.istore_n 3, 1) := by decide +kernel
theorem dX6_gets_22 : decode cX6_gets 22 = .ok (.iload_n 3, 1) := by decide +kernel
theorem dX6_gets_23 : decode cX6_gets 23 = .ok (.aload_n 0, 1) := by decide +kernel
theorem dX6_gets_24 : decode cX6_gets 24 = .ok (.getfield 22, 3) := by decide +kernel
theorem dX6_gets_27 : decode cX6_gets 27 = .ok (.getfield 127, 3) := by decide +kernel
theorem dX6_gets_30 : decode cX6_gets 30 = .ok (.if_icmp .ge 68, 3) := by decide +kernel
theorem dX6_gets_33 : decode cX6_gets 33 = .ok (.aload_n 0, 1) := by decide +kernel
theorem dX6_gets_34 : decode cX6_gets 34 = .ok (.getfield 12, 3) := by decide +kernel
theorem dX6_gets_37 : decode cX6_gets 37 = .ok (.aload_n 0, 1) := by decide +kernel
theorem dX6_gets_38 : decode cX6_gets 38 = .ok (.getfield 22, 3) := by decide +kernel
theorem dX6_gets_41 : decode cX6_gets 41 = .ok (.getfield 216, 3) := by decide +kernel
theorem dX6_gets_44 : decode cX6_gets 44 = .ok (.iload_n 3, 1) := by decide +kernel
theorem dX6_gets_45 : decode cX6_gets 45 = .ok (.iaload, 1) := by decide +kernel
theorem dX6_gets_46 : decode cX6_gets 46 = .ok (.aload_n 0, 1) := by decide +kernel
theorem dX6_gets_47 : decode cX6_gets 47 = .ok (.getfield 22, 3) := by decide +kernel
theorem dX6_gets_50 : decode cX6_gets 50 = .ok (.getfield 219, 3) := by decide +kernel
theorem dX6_gets_53 : decode cX6_gets 53 = .ok (.iload_n 3, 1) := by decide +kernel
theorem dX6_gets_54 : decode cX6_gets 54 = .ok (.iaload, 1) := by decide +kernel
theorem dX6_gets_55 : decode cX6_gets 55 = .ok (.invokevirtual 179, 3) := by decide +kernel
theorem dX6_gets_58 : decode cX6_gets 58 = .ok (.istore 4, 2) := by decide +kernel
theorem dX6_gets_60 : decode cX6_gets 60 = .ok (.iload 4, 2) := by decide +kernel
theorem dX6_gets_62 : decode cX6_gets 62 = .ok (.aload_n 0, 1) := by decide +kernel
theorem dX6_gets_63 : decode cX6_gets 63 = .ok (.getfield 22, 3) := by decide +kernel
theorem dX6_gets_66 : decode cX6_gets 66 = .ok (.getfield 219, 3) := by decide +kernel
theorem dX6_gets_69 : decode cX6_gets 69 = .ok (.iload_n 3, 1) := by decide +kernel
theorem dX6_gets_70 : decode cX6_gets 70 = .ok (.iaload, 1) := by decide +kernel
theorem dX6_gets_71 : decode cX6_gets 71 = .ok (.if_icmp .eq 21, 3) := by decide +kernel
theorem dX6_gets_74 : decode cX6_gets 74 = .ok (.iload 4, 2) := by decide +kernel
theorem dX6_gets_76 : decode cX6_gets 76 = .ok (.iload_n 1, 1) := by decide +kernel
theorem dX6_gets_77 : decode cX6_gets 77 = .ok (.if_icmp .ne 15, 3) := by decide +kernel
theorem dX6_gets_80 : decode cX6_gets 80 = .ok (.iload_n 2, 1) := by decide +kernel
theorem dX6_gets_81 : decode cX6_gets 81 = .ok (.aload_n 0, 1) := by decide +kernel
theorem dX6_gets_82 : decode cX6_gets 82 = .ok (.getfield 22, 3) := by decide +kernel
theorem dX6_gets_85 : decode cX6_gets 85 = .ok (.getfield 222, 3) := by decide +kernel
theorem dX6_gets_88 : decode cX6_gets 88 = .ok (.iload_n 3, 1) := by decide +kernel
theorem dX6_gets_89 : decode cX6_gets 89 = .ok (.iaload, 1) := by decide +kernel
theorem dX6_gets_90 : decode cX6_gets 90 = .ok (.iadd, 1) := by decide +kernel
theorem dX6_gets_91 : decode cX6_gets 91 = .ok (.istore_n 2, 1) := by decide +kernel
theorem dX6_gets_92 : decode cX6_gets 92 = .ok (.iinc 3 1, 3) := by decide +kernel
theorem dX6_gets_95 : decode cX6_gets 95 = .ok (.goto (-73), 3) := by decide +kernel
theorem dX6_gets_98 : decode cX6_gets 98 = .ok (.iload_n 2, 1) := by decide +kernel
theorem dX6_gets_99 : decode cX6_gets 99 = .ok (.ireturn, 1) := by decide +kernel
theorem dX6_odds_0 : decode cX6_odds 0 = .ok (.aload_n 0, 1) := by decide +kernel
theorem dX6_odds_1 : decode cX6_odds 1 = .ok (.getfield 22, 3) := by decide +kernel
theorem dX6_odds_4 : decode cX6_odds 4 = .ok (.iload_n 1, 1) := by decide +kernel
theorem dX6_odds_5 : decode cX6_odds 5 = .ok (.invokevirtual 69, 3) := by decide +kernel
theorem dX6_odds_8 : decode cX6_odds 8 = .ok (.ifCond .eq 32, 3) := by decide +kernel
theorem dX6_odds_11 : decode cX6_odds 11 = .ok (.aload_n 0, 1) := by decide +kernel
theorem dX6_odds_12 : decode cX6_odds 12 = .ok (.getfield 22, 3) := by decide +kernel
theorem dX6_odds_15 : decode cX6_odds 15 = .ok (.iload_n 2, 1) := by decide +kernel
theorem dX6_odds_16 : decode cX6_odds 16 = .ok (.invokevirtual 69, 3) := by decide +kernel
theorem dX6_odds_19 : decode cX6_odds 19 = .ok (.ifCond .eq 21, 3) := by decide +kernel
theorem dX6_odds_22 : decode cX6_odds 22 = .ok (.iload_n 3, 1) := by decide +kernel
theorem dX6_odds_23 : decode cX6_odds 23 = .ok (.ifCond .lt 17, 3) := by decide +kernel
theorem dX6_odds_26 : decode cX6_odds 26 = .ok (.iload_n 3, 1) := by decide +kernel
theorem dX6_odds_27 : decode cX6_odds 27 = .ok (.bipush 6, 2) := by decide +kernel
theorem dX6_odds_29 : decode cX6_odds 29 = .ok (.if_icmp .gt 11, 3) := by decide +kernel
theorem dX6_odds_32 : decode cX6_odds 32 = .ok (.iload 4, 2) := by decide +kernel
theorem dX6_odds_34 : decode cX6_odds 34 = .ok (.invokestatic 176, 3) := by decide +kernel
theorem dX6_odds_37 : decode cX6_odds 37 = .ok (.ifCond .ne 7, 3) := by decide +kernel
theorem dX6_odds_40 : decode cX6_odds 40 = .ok (.ldc2_w 225, 3) := by decide +kernel
theorem dX6_odds_43 : decode cX6_odds 43 = .ok (.lreturn, 1) := by decide +kernel
theorem dX6_odds_44 : decode cX6_odds 44 = .ok (.aload_n 0, 1) := by decide +kernel
theorem dX6_odds_45 : decode cX6_odds 45 = .ok (.invokevirtual 83, 3) := by decide +kernel
theorem dX6_odds_48 : decode cX6_odds 48 = .ok (.iload_n 1, 1) := by decide +kernel
theorem dX6_odds_49 : decode cX6_odds 49 = .ok (.iload_n 2, 1) := by decide +kernel
theorem dX6_odds_50 : decode cX6_odds 50 = .ok (.iload_n 3, 1) := by decide +kernel
theorem dX6_odds_51 : decode cX6_odds 51 = .ok (.invokevirtual 227, 3) := by decide +kernel
theorem dX6_odds_54 : decode cX6_odds 54 = .ok (.lstore 5, 2) := by decide +kernel
theorem dX6_odds_56 : decode cX6_odds 56 = .ok (.lconst 1, 1) := by decide +kernel
theorem dX6_odds_57 : decode cX6_odds 57 = .ok (.lstore 7, 2) := by decide +kernel
theorem dX6_odds_59 : decode cX6_odds 59 = .ok (.iconst 0, 1) := by decide +kernel
theorem dX6_odds_60 : decode cX6_odds 60 = .ok (.istore 9, 2) := by decide +kernel
theorem dX6_odds_62 : decode cX6_odds 62 = .ok (.iload 9, 2) := by decide +kernel
theorem dX6_odds_64 : decode cX6_odds 64 = .ok (.iload_n 3, 1) := by decide +kernel
theorem dX6_odds_65 : decode cX6_odds 65 = .ok (.if_icmp .ge 17, 3) := by decide +kernel
theorem dX6_odds_68 : decode cX6_odds 68 = .ok (.lload 7, 2) := by decide +kernel
theorem dX6_odds_70 : decode cX6_odds 70 = .ok (.ldc2_w 231, 3) := by decide +kernel
theorem dX6_odds_73 : decode cX6_odds 73 = .ok (.lmul, 1) := by decide +kernel
theorem dX6_odds_74 : decode cX6_odds 74 = .ok (.lstore 7, 2) := by decide +kernel
theorem dX6_odds_76 : decode cX6_odds 76 = .ok (.iinc 9 1, 3) := by decide +kernel
theorem dX6_odds_79 : decode cX6_odds 79 = .ok (.goto (-17), 3) := by decide +kernel
theorem dX6_odds_82 : decode cX6_odds 82 = .ok (.lload 5, 2) := by decide +kernel
theorem dX6_odds_84 : decode cX6_odds 84 = .ok (.lload 7, 2) := by decide +kernel
theorem dX6_odds_86 : decode cX6_odds 86 = .ok (.iload 4, 2) := by decide +kernel
theorem dX6_odds_88 : decode cX6_odds 88 = .ok (.invokestatic 233, 3) := by decide +kernel
theorem dX6_odds_91 : decode cX6_odds 91 = .ok (.lreturn, 1) := by decide +kernel
theorem dX6_mean_0 : decode cX6_mean 0 = .ok (.iload_n 1, 1) := by decide +kernel
theorem dX6_mean_1 : decode cX6_mean 1 = .ok (.invokestatic 176, 3) := by decide +kernel
theorem dX6_mean_4 : decode cX6_mean 4 = .ok (.ifCond .ne 7, 3) := by decide +kernel
theorem dX6_mean_7 : decode cX6_mean 7 = .ok (.ldc2_w 225, 3) := by decide +kernel
theorem dX6_mean_10 : decode cX6_mean 10 = .ok (.lreturn, 1) := by decide +kernel
theorem dX6_mean_11 : decode cX6_mean 11 = .ok (.aload_n 0, 1) := by decide +kernel
theorem dX6_mean_12 : decode cX6_mean 12 = .ok (.invokevirtual 83, 3) := by decide +kernel
theorem dX6_mean_15 : decode cX6_mean 15 = .ok (.pop, 1) := by decide +kernel
theorem dX6_mean_16 : decode cX6_mean 16 = .ok (.lconst 0, 1) := by decide +kernel
theorem dX6_mean_17 : decode cX6_mean 17 = .ok (.lstore_n 2, 1) := by decide +kernel
theorem dX6_mean_18 : decode cX6_mean 18 = .ok (.lconst 0, 1) := by decide +kernel
theorem dX6_mean_19 : decode cX6_mean 19 = .ok (.lstore 4, 2) := by decide +kernel
theorem dX6_mean_21 : decode cX6_mean 21 = .ok (.iconst 0, 1) := by decide +kernel
theorem dX6_mean_22 : decode cX6_mean 22 = .ok (.istore 6, 2) := by decide +kernel
theorem dX6_mean_24 : decode cX6_mean 24 = .ok (.iload 6, 2) := by decide +kernel
theorem dX6_mean_26 : decode cX6_mean 26 = .ok (.aload_n 0, 1) := by decide +kernel
theorem dX6_mean_27 : decode cX6_mean 27 = .ok (.getfield 22, 3) := by decide +kernel
theorem dX6_mean_30 : decode cX6_mean 30 = .ok (.getfield 61, 3) := by decide +kernel
theorem dX6_mean_33 : decode cX6_mean 33 = .ok (.if_icmp .ge 70, 3) := by decide +kernel
theorem dX6_mean_36 : decode cX6_mean 36 = .ok (.iconst 0, 1) := by decide +kernel
theorem dX6_mean_37 : decode cX6_mean 37 = .ok (.istore 7, 2) := by decide +kernel
theorem dX6_mean_39 : decode cX6_mean 39 = .ok (.iload 7, 2) := by decide +kernel
theorem dX6_mean_41 : decode cX6_mean 41 = .ok (.aload_n 0, 1) := by decide +kernel
theorem dX6_mean_42 : decode cX6_mean 42 = .ok (.getfield 22, 3) := by decide +kernel
theorem dX6_mean_45 : decode cX6_mean 45 = .ok (.getfield 61, 3) := by decide +kernel
theorem dX6_mean_48 : decode cX6_mean 48 = .ok (.if_icmp .ge 49, 3) := by decide +kernel
theorem dX6_mean_51 : decode cX6_mean 51 = .ok (.iload 6, 2) := by decide +kernel
theorem dX6_mean_53 : decode cX6_mean 53 = .ok (.iload 7, 2) := by decide +kernel
theorem dX6_mean_55 : decode cX6_mean 55 = .ok (.if_icmp .eq 36, 3) := by decide +kernel
theorem dX6_mean_58 : decode cX6_mean 58 = .ok (.aload_n 0, 1) := by decide +kernel
theorem dX6_mean_59 : decode cX6_mean 59 = .ok (.getfield 12, 3) := by decide +kernel
theorem dX6_mean_62 : decode cX6_mean 62 = .ok (.iload 6, 2) := by decide +kernel
theorem dX6_mean_64 : decode cX6_mean 64 = .ok (.iload 7, 2) := by decide +kernel
theorem dX6_mean_66 : decode cX6_mean 66 = .ok (.invokevirtual 179, 3) := by decide +kernel
theorem dX6_mean_69 : decode cX6_mean 69 = .ok (.iload 7, 2) := by decide +kernel
theorem dX6_mean_71 : decode cX6_mean 71 = .ok (.if_icmp .ne 20, 3) := by decide +kernel
theorem dX6_mean_74 : decode cX6_mean 74 = .ok (.lload_n 2, 1) := by decide +kernel
theorem dX6_mean_75 : decode cX6_mean 75 = .ok (.aload_n 0, 1) := by decide +kernel
theorem dX6_mean_76 : decode cX6_mean 76 = .ok (.getfield 12, 3) := by decide +kernel
theorem dX6_mean_79 : decode cX6_mean 79 = .ok (.getfield 182, 3) := by decide +kernel
theorem dX6_mean_82 : decode cX6_mean 82 = .ok (.i2l, 1) := by decide +kernel
theorem dX6_mean_83 : decode cX6_mean 83 = .ok (.ladd, 1) := by decide +kernel
theorem dX6_mean_84 : decode cX6_mean 84 = .ok (.lstore_n 2, 1) := by decide +kernel
theorem dX6_mean_85 : decode cX6_mean 85 = .ok (.lload 4, 2) := by decide +kernel
theorem dX6_mean_87 : decode cX6_mean 87 = .ok (.lconst 1, 1) := by decide +kernel
theorem dX6_mean_88 : decode cX6_mean 88 = .ok (.ladd, 1) := by decide +kernel
theorem dX6_mean_89 : decode cX6_mean 89 = .ok (.lstore 4, 2) := by decide +kernel
theorem dX6_mean_91 : decode cX6_mean 91 = .ok (.iinc 7 1, 3) := by decide +kernel
theorem dX6_mean_94 : decode cX6_mean 94 = .ok (.goto (-55), 3) := by decide +kernel
theorem dX6_mean_97 : decode cX6_mean 97 = .ok (.iinc 6 1, 3) := by decide +kernel
theorem dX6_mean_100 : decode cX6_mean 100 = .ok (.goto (-76), 3) := by decide +kernel
theorem dX6_mean_103 : decode cX6_mean 103 = .ok (.lload 4, 2) := by decide +kernel
theorem dX6_mean_105 : decode cX6_mean 105 = .ok (.lconst 0, 1) := by decide +kernel
theorem dX6_mean_106 : decode cX6_mean 106 = .ok (.lcmp, 1) := by decide +kernel
theorem dX6_mean_107 : decode cX6_mean 107 = .ok (.ifCond .ne 9, 3) := by decide +kernel
theorem dX6_mean_110 : decode cX6_mean 110 = .ok (.ldc2_w 225, 3) := by decide +kernel
theorem dX6_mean_113 : decode cX6_mean 113 = .ok (.goto 10, 3) := by decide +kernel
theorem dX6_mean_116 : decode cX6_mean 116 = .ok (.lload_n 2, 1) := by decide +kernel
theorem dX6_mean_117 : decode cX6_mean 117 = .ok (.lload 4, 2) := by decide +kernel
theorem dX6_mean_119 : decode cX6_mean 119 = .ok (.iload_n 1, 1) := by decide +kernel
theorem dX6_mean_120 : decode cX6_mean 120 = .ok (.invokestatic 233, 3) := by decide +kernel
theorem dX6_mean_123 : decode cX6_mean 123 = .ok (.lreturn, 1) := by decide +kernel
theorem dX6_book_0 : decode cX6_book 0 = .ok (.iload_n 1, 1) := by decide +kernel
theorem dX6_book_1 : decode cX6_book 1 = .ok (.iconst (-1), 1) := by decide +kernel
theorem dX6_book_2 : decode cX6_book 2 = .ok (.if_icmp .ne 13, 3) := by decide +kernel
theorem dX6_book_5 : decode cX6_book 5 = .ok (.aload_n 0, 1) := by decide +kernel
theorem dX6_book_6 : decode cX6_book 6 = .ok (.getfield 22, 3) := by decide +kernel
theorem dX6_book_9 : decode cX6_book 9 = .ok (.iconst 0, 1) := by decide +kernel
theorem dX6_book_10 : decode cX6_book 10 = .ok (.putfield 237, 3) := by decide +kernel
theorem dX6_book_13 : decode cX6_book 13 = .ok (.iconst 0, 1) := by decide +kernel
theorem dX6_book_14 : decode cX6_book 14 = .ok (.ireturn, 1) := by decide +kernel
theorem dX6_book_15 : decode cX6_book 15 = .ok (.aload_n 0, 1) := by decide +kernel
theorem dX6_book_16 : decode cX6_book 16 = .ok (.getfield 22, 3) := by decide +kernel
theorem dX6_book_19 : decode cX6_book 19 = .ok (.iload_n 1, 1) := by decide +kernel
theorem dX6_book_20 : decode cX6_book 20 = .ok (.invokevirtual 69, 3) := by decide +kernel
theorem dX6_book_23 : decode cX6_book 23 = .ok (.ifCond .ne 5, 3) := by decide +kernel
theorem dX6_book_26 : decode cX6_book 26 = .ok (.iconst (-1), 1) := by decide +kernel
theorem dX6_book_27 : decode cX6_book 27 = .ok (.ireturn, 1) := by decide +kernel
theorem dX6_book_28 : decode cX6_book 28 = .ok (.aload_n 0, 1) := by decide +kernel
theorem dX6_book_29 : decode cX6_book 29 = .ok (.getfield 22, 3) := by decide +kernel
theorem dX6_book_32 : decode cX6_book 32 = .ok (.getfield 237, 3) := by decide +kernel
theorem dX6_book_35 : decode cX6_book 35 = .ok (.bipush 12, 2) := by decide +kernel
theorem dX6_book_37 : decode cX6_book 37 = .ok (.if_icmp .lt 6, 3) := by decide +kernel
theorem dX6_book_40 : decode cX6_book 40 = .ok (.bipush (-4), 2) := by decide +kernel
theorem dX6_book_42 : decode cX6_book 42 = .ok (.ireturn, 1) := by decide +kernel
theorem dX6_book_43 : decode cX6_book 43 = .ok (.aload_n 0, 1) := by decide +kernel
theorem dX6_book_44 : decode cX6_book 44 = .ok (.getfield 22, 3) := by decide +kernel
theorem dX6_book_47 : decode cX6_book 47 = .ok (.getfield 240, 3) := by decide +kernel
theorem dX6_book_50 : decode cX6_book 50 = .ok (.aload_n 0, 1) := by decide +kernel
theorem dX6_book_51 : decode cX6_book 51 = .ok (.getfield 22, 3) := by decide +kernel
theorem dX6_book_54 : decode cX6_book 54 = .ok (.getfield 237, 3) := by decide +kernel
theorem dX6_book_57 : decode cX6_book 57 = .ok (.iload_n 1, 1) := by decide +kernel
theorem dX6_book_58 : decode cX6_book 58 = .ok (.iastore, 1) := by decide +kernel
theorem dX6_book_59 : decode cX6_book 59 = .ok (.aload_n 0, 1) := by decide +kernel
theorem dX6_book_60 : decode cX6_book 60 = .ok (.getfield 22, 3) := by decide +kernel
theorem dX6_book_63 : decode cX6_book 63 = .ok (.dup, 1) := by decide +kernel
theorem dX6_book_64 : decode cX6_book 64 = .ok (.getfield 237, 3) := by decide +kernel
theorem dX6_book_67 : decode cX6_book 67 = .ok (.iconst 1, 1) := by decide +kernel
theorem dX6_book_68 : decode cX6_book 68 = .ok (.iadd, 1) := by decide +kernel
theorem dX6_book_69 : decode cX6_book 69 = .ok (.putfield 237, 3) := by decide +kernel
theorem dX6_book_72 : decode cX6_book 72 = .ok (.aload_n 0, 1) := by decide +kernel
theorem dX6_book_73 : decode cX6_book 73 = .ok (.getfield 22, 3) := by decide +kernel
theorem dX6_book_76 : decode cX6_book 76 = .ok (.getfield 237, 3) := by decide +kernel
theorem dX6_book_79 : decode cX6_book 79 = .ok (.ireturn, 1) := by decide +kernel
theorem dX6_looked_0 : decode cX6_looked 0 = .ok (.aload_n 0, 1) := by decide +kernel
theorem dX6_looked_1 : decode cX6_looked 1 = .ok (.getfield 22, 3) := by decide +kernel
theorem dX6_looked_4 : decode cX6_looked 4 = .ok (.iload_n 1, 1) := by decide +kernel
theorem dX6_looked_5 : decode cX6_looked 5 = .ok (.invokevirtual 69, 3) := by decide +kernel
theorem dX6_looked_8 : decode cX6_looked 8 = .ok (.ifCond .ne 5, 3) := by decide +kernel
theorem dX6_looked_11 : decode cX6_looked 11 = .ok (.iconst (-1), 1) := by decide +kernel
theorem dX6_looked_12 : decode cX6_looked 12 = .ok (.ireturn, 1) := by decide +kernel
theorem dX6_looked_13 : decode cX6_looked 13 = .ok (.aload_n 0, 1) := by decide +kernel
theorem dX6_looked_14 : decode cX6_looked 14 = .ok (.invokevirtual 83, 3) := by decide +kernel
theorem dX6_looked_17 : decode cX6_looked 17 = .ok (.pop, 1) := by decide +kernel
theorem dX6_looked_18 : decode cX6_looked 18 = .ok (.iconst 1, 1) := by decide +kernel
theorem dX6_looked_19 : decode cX6_looked 19 = .ok (.istore_n 2, 1) := by decide +kernel
theorem dX6_looked_20 : decode cX6_looked 20 = .ok (.iload_n 2, 1) := by decide +kernel
theorem dX6_looked_21 : decode cX6_looked 21 = .ok (.aload_n 0, 1) := by decide +kernel
theorem dX6_looked_22 : decode cX6_looked 22 = .ok (.getfield 22, 3) := by decide +kernel
theorem dX6_looked_25 : decode cX6_looked 25 = .ok (.getfield 237, 3) := by decide +kernel
theorem dX6_looked_28 : decode cX6_looked 28 = .ok (.if_icmp .ge 46, 3) := by decide +kernel
theorem dX6_looked_31 : decode cX6_looked 31 = .ok (.aload_n 0, 1) := by decide +kernel
theorem dX6_looked_32 : decode cX6_looked 32 = .ok (.getfield 12, 3) := by decide +kernel
theorem dX6_looked_35 : decode cX6_looked 35 = .ok (.getfield 173, 3) := by decide +kernel
theorem dX6_looked_38 : decode cX6_looked 38 = .ok (.aload_n 0, 1) := by decide +kernel
theorem dX6_looked_39 : decode cX6_looked 39 = .ok (.getfield 22, 3) := by decide +kernel
theorem dX6_looked_42 : decode cX6_looked 42 = .ok (.getfield 240, 3) := by decide +kernel
theorem dX6_looked_45 : decode cX6_looked 45 = .ok (.iload_n 2, 1) := by decide +kernel
theorem dX6_looked_46 : decode cX6_looked 46 = .ok (.iconst 1, 1) := by decide +kernel
theorem dX6_looked_47 : decode cX6_looked 47 = .ok (.isub, 1) := by decide +kernel
theorem dX6_looked_48 : decode cX6_looked 48 = .ok (.iaload, 1) := by decide +kernel
theorem dX6_looked_49 : decode cX6_looked 49 = .ok (.iload_n 1, 1) := by decide +kernel
theorem dX6_looked_50 : decode cX6_looked 50 = .ok (.invokestatic 100, 3) := by decide +kernel
theorem dX6_looked_53 : decode cX6_looked 53 = .ok (.iaload, 1) := by decide +kernel
theorem dX6_looked_54 : decode cX6_looked 54 = .ok (.aload_n 0, 1) := by decide +kernel
theorem dX6_looked_55 : decode cX6_looked 55 = .ok (.getfield 22, 3) := by decide +kernel
theorem dX6_looked_58 : decode cX6_looked 58 = .ok (.getfield 240, 3) := by decide +kernel
theorem dX6_looked_61 : decode cX6_looked 61 = .ok (.iload_n 2, 1) := by decide +kernel
theorem dX6_looked_62 : decode cX6_looked 62 = .ok (.iaload, 1) := by decide +kernel
theorem dX6_looked_63 : decode cX6_looked 63 = .ok (.if_icmp .eq 5, 3) := by decide +kernel
theorem dX6_looked_66 : decode cX6_looked 66 = .ok (.iload_n 2, 1) := by decide +kernel
theorem dX6_looked_67 : decode cX6_looked 67 = .ok (.ireturn, 1) := by decide +kernel
theorem dX6_looked_68 : decode cX6_looked 68 = .ok (.iinc 2 1, 3) := by decide +kernel
theorem dX6_looked_71 : decode cX6_looked 71 = .ok (.goto (-51), 3) := by decide +kernel
theorem dX6_looked_74 : decode cX6_looked 74 = .ok (.bipush (-5), 2) := by decide +kernel
theorem dX6_looked_76 : decode cX6_looked 76 = .ok (.ireturn, 1) := by decide +kernel
theorem dX6_judge_0 : decode cX6_judge 0 = .ok (.iload_n 1, 1) := by decide +kernel
theorem dX6_judge_1 : decode cX6_judge 1 = .ok (.invokestatic 243, 3) := by decide +kernel
theorem dX6_judge_4 : decode cX6_judge 4 = .ok (.ifCond .ne 5, 3) := by decide +kernel
theorem dX6_judge_7 : decode cX6_judge 7 = .ok (.iconst (-1), 1) := by decide +kernel
theorem dX6_judge_8 : decode cX6_judge 8 = .ok (.ireturn, 1) := by decide +kernel
theorem dX6_judge_9 : decode cX6_judge 9 = .ok (.aload_n 0, 1) := by decide +kernel
theorem dX6_judge_10 : decode cX6_judge 10 = .ok (.getfield 56, 3) := by decide +kernel
theorem dX6_judge_13 : decode cX6_judge 13 = .ok (.iload_n 1, 1) := by decide +kernel
theorem dX6_judge_14 : decode cX6_judge 14 = .ok (.aaload, 1) := by decide +kernel
theorem dX6_judge_15 : decode cX6_judge 15 = .ok (.astore_n 3, 1) := by decide +kernel
theorem dX6_judge_16 : decode cX6_judge 16 = .ok (.aload_n 3, 1) := by decide +kernel
theorem dX6_judge_17 : decode cX6_judge 17 = .ok (.getfield 246, 3) := by decide +kernel
theorem dX6_judge_20 : decode cX6_judge 20 = .ok (.iconst (-1), 1) := by decide +kernel
theorem dX6_judge_21 : decode cX6_judge 21 = .ok (.if_icmp .eq 14, 3) := by decide +kernel
theorem dX6_judge_24 : decode cX6_judge 24 = .ok (.aload_n 3, 1) := by decide +kernel
theorem dX6_judge_25 : decode cX6_judge 25 = .ok (.getfield 246, 3) := by decide +kernel
theorem dX6_judge_28 : decode cX6_judge 28 = .ok (.iconst 2, 1) := by decide +kernel
theorem dX6_judge_29 : decode cX6_judge 29 = .ok (.if_icmp .eq 6, 3) := by decide +kernel
theorem dX6_judge_32 : decode cX6_judge 32 = .ok (.bipush (-12), 2) := by decide +kernel
theorem dX6_judge_34 : decode cX6_judge 34 = .ok (.ireturn, 1) := by decide +kernel
theorem dX6_judge_35 : decode cX6_judge 35 = .ok (.aload_n 0, 1) := by decide +kernel
theorem dX6_judge_36 : decode cX6_judge 36 = .ok (.invokevirtual 83, 3) := by decide +kernel
theorem dX6_judge_39 : decode cX6_judge 39 = .ok (.pop, 1) := by decide +kernel
theorem dX6_judge_40 : decode cX6_judge 40 = .ok (.iconst 0, 1) := by decide +kernel
theorem dX6_judge_41 : decode cX6_judge 41 = .ok (.istore 4, 2) := by decide +kernel
theorem dX6_judge_43 : decode cX6_judge 43 = .ok (.iload 4, 2) := by decide +kernel
theorem dX6_judge_45 : decode cX6_judge 45 = .ok (.aload_n 0, 1) := by decide +kernel
theorem dX6_judge_46 : decode cX6_judge 46 = .ok (.getfield 22, 3) := by decide +kernel
theorem dX6_judge_49 : decode cX6_judge 49 = .ok (.getfield 61, 3) := by decide +kernel
theorem dX6_judge_52 : decode cX6_judge 52 = .ok (.if_icmp .ge 57, 3) := by decide +kernel
theorem dX6_judge_55 : decode cX6_judge 55 = .ok (.iload_n 2, 1) := by decide +kernel
theorem dX6_judge_56 : decode cX6_judge 56 = .ok (.ifCond .lt 14, 3) := by decide +kernel
theorem dX6_judge_59 : decode cX6_judge 59 = .ok (.iload_n 2, 1) := by decide +kernel
theorem dX6_judge_60 : decode cX6_judge 60 = .ok (.aload_n 3, 1) := by decide +kernel
theorem dX6_judge_61 : decode cX6_judge 61 = .ok (.getfield 249, 3) := by decide +kernel
theorem dX6_judge_64 : decode cX6_judge 64 = .ok (.iload 4, 2) := by decide +kernel
theorem dX6_judge_66 : decode cX6_judge 66 = .ok (.isub, 1) := by decide +kernel
theorem dX6_judge_67 : decode cX6_judge 67 = .ok (.if_icmp .lt 9, 3) := by decide +kernel
theorem dX6_judge_70 : decode cX6_judge 70 = .ok (.bipush 100, 2) := by decide +kernel
theorem dX6_judge_72 : decode cX6_judge 72 = .ok (.iload 4, 2) := by decide +kernel
theorem dX6_judge_74 : decode cX6_judge 74 = .ok (.iadd, 1) := by decide +kernel
theorem dX6_judge_75 : decode cX6_judge 75 = .ok (.ireturn, 1) := by decide +kernel
theorem dX6_judge_76 : decode cX6_judge 76 = .ok (.aload_n 3, 1) := by decide +kernel
theorem dX6_judge_77 : decode cX6_judge 77 = .ok (.getfield 250, 3) := by decide +kernel
theorem dX6_judge_80 : decode cX6_judge 80 = .ok (.iload_n 2, 1) := by decide +kernel
theorem dX6_judge_81 : decode cX6_judge 81 = .ok (.iload 4, 2) := by decide +kernel
theorem dX6_judge_83 : decode cX6_judge 83 = .ok (.iadd, 1) := by decide +kernel
theorem dX6_judge_84 : decode cX6_judge 84 = .ok (.laload, 1) := by decide +kernel
theorem dX6_judge_85 : decode cX6_judge 85 = .ok (.aload_n 0, 1) := by decide +kernel
theorem dX6_judge_86 : decode cX6_judge 86 = .ok (.getfield 12, 3) := by decide +kernel
theorem dX6_judge_89 : decode cX6_judge 89 = .ok (.getfield 87, 3) := by decide +kernel
theorem dX6_judge_92 : decode cX6_judge 92 = .ok (.iload 4, 2) := by decide +kernel
theorem dX6_judge_94 : decode cX6_judge 94 = .ok (.iaload, 1) := by decide +kernel
theorem dX6_judge_95 : decode cX6_judge 95 = .ok (.i2l, 1) := by decide +kernel
theorem dX6_judge_96 : decode cX6_judge 96 = .ok (.lcmp, 1) := by decide +kernel
theorem dX6_judge_97 : decode cX6_judge 97 = .ok (.ifCond .eq 6, 3) := by decide +kernel
theorem dX6_judge_100 : decode cX6_judge 100 = .ok (.iload 4, 2) := by decide +kernel
theorem dX6_judge_102 : decode cX6_judge 102 = .ok (.ireturn, 1) := by decide +kernel
theorem dX6_judge_103 : decode cX6_judge 103 = .ok (.iinc 4 1, 3) := by decide +kernel
theorem dX6_judge_106 : decode cX6_judge 106 = .ok (.goto (-63), 3) := by decide +kernel
theorem dX6_judge_109 : decode cX6_judge 109 = .ok (.bipush (-5), 2) := by decide +kernel
theorem dX6_judge_111 : decode cX6_judge 111 = .ok (.ireturn, 1) := by decide +kernel
theorem dX6_image_0 : decode cX6_image 0 = .ok (.aload_n 0, 1) := by decide +kernel
theorem dX6_image_1 : decode cX6_image 1 = .ok (.getfield 26, 3) := by decide +kernel
theorem dX6_image_4 : decode cX6_image 4 = .ok (.aload_n 0, 1) := by decide +kernel
theorem dX6_image_5 : decode cX6_image 5 = .ok (.getfield 22, 3) := by decide +kernel
theorem dX6_image_8 : decode cX6_image 8 = .ok (.invokevirtual 254, 3) := by decide +kernel
theorem dX6_image_11 : decode cX6_image 11 = .ok (.aload_n 0, 1) := by decide +kernel
theorem dX6_image_12 : decode cX6_image 12 = .ok (.iconst 1, 1) := by decide +kernel
theorem dX6_image_13 : decode cX6_image 13 = .ok (.putfield 258, 3) := by decide +kernel
theorem dX6_image_16 : decode cX6_image 16 = .ok (.aload_n 0, 1) := by decide +kernel
theorem dX6_image_17 : decode cX6_image 17 = .ok (.getfield 22, 3) := by decide +kernel
theorem dX6_image_20 : decode cX6_image 20 = .ok (.getfield 61, 3) := by decide +kernel
theorem dX6_image_23 : decode cX6_image 23 = .ok (.ireturn, 1) := by decide +kernel
theorem dX6_undo_0 : decode cX6_undo 0 = .ok (.aload_n 0, 1) := by decide +kernel
theorem dX6_undo_1 : decode cX6_undo 1 = .ok (.getfield 258, 3) := by decide +kernel
theorem dX6_undo_4 : decode cX6_undo 4 = .ok (.ifCond .ne 6, 3) := by decide +kernel
theorem dX6_undo_7 : decode cX6_undo 7 = .ok (.bipush (-3), 2) := by decide +kernel
theorem dX6_undo_9 : decode cX6_undo 9 = .ok (.ireturn, 1) := by decide +kernel
theorem dX6_undo_10 : decode cX6_undo 10 = .ok (.aload_n 0, 1) := by decide +kernel
theorem dX6_undo_11 : decode cX6_undo 11 = .ok (.getfield 22, 3) := by decide +kernel
theorem dX6_undo_14 : decode cX6_undo 14 = .ok (.aload_n 0, 1) := by decide +kernel
theorem dX6_undo_15 : decode cX6_undo 15 = .ok (.getfield 26, 3) := by decide +kernel
theorem dX6_undo_18 : decode cX6_undo 18 = .ok (.invokevirtual 254, 3) := by decide +kernel
theorem dX6_undo_21 : decode cX6_undo 21 = .ok (.aload_n 0, 1) := by decide +kernel
theorem dX6_undo_22 : decode cX6_undo 22 = .ok (.getfield 22, 3) := by decide +kernel
theorem dX6_undo_25 : decode cX6_undo 25 = .ok (.getfield 61, 3) := by decide +kernel
theorem dX6_undo_28 : decode cX6_undo 28 = .ok (.ireturn, 1) := by decide +kernel
theorem dX6_act_0 : decode cX6_act 0 = .ok (.aload_n 0, 1) := by decide +kernel
theorem dX6_act_1 : decode cX6_act 1 = .ok (.getfield 50, 3) := by decide +kernel
theorem dX6_act_4 : decode cX6_act 4 = .ok (.invokevirtual 262, 3) := by decide +kernel
theorem dX6_act_7 : decode cX6_act 7 = .ok (.aload_n 0, 1) := by decide +kernel
theorem dX6_act_8 : decode cX6_act 8 = .ok (.getfield 22, 3) := by decide +kernel
theorem dX6_act_11 : decode cX6_act 11 = .ok (.iload_n 1, 1) := by decide +kernel
theorem dX6_act_12 : decode cX6_act 12 = .ok (.invokevirtual 69, 3) := by decide +kernel
theorem dX6_act_15 : decode cX6_act 15 = .ok (.ifCond .ne 5, 3) := by decide +kernel
theorem dX6_act_18 : decode cX6_act 18 = .ok (.iconst 0, 1) := by decide +kernel
theorem dX6_act_19 : decode cX6_act 19 = .ok (.ireturn, 1) := by decide +kernel
theorem dX6_act_20 : decode cX6_act 20 = .ok (.aload_n 0, 1) := by decide +kernel
theorem dX6_act_21 : decode cX6_act 21 = .ok (.getfield 50, 3) := by decide +kernel
theorem dX6_act_24 : decode cX6_act 24 = .ok (.iload_n 1, 1) := by decide +kernel
theorem dX6_act_25 : decode cX6_act 25 = .ok (.aload_n 0, 1) := by decide +kernel
theorem dX6_act_26 : decode cX6_act 26 = .ok (.getfield 22, 3) := by decide +kernel
theorem dX6_act_29 : decode cX6_act 29 = .ok (.getfield 73, 3) := by decide +kernel
theorem dX6_act_32 : decode cX6_act 32 = .ok (.iload_n 1, 1) := by decide +kernel
theorem dX6_act_33 : decode cX6_act 33 = .ok (.iaload, 1) := by decide +kernel
theorem dX6_act_34 : decode cX6_act 34 = .ok (.aload_n 0, 1) := by decide +kernel
theorem dX6_act_35 : decode cX6_act 35 = .ok (.getfield 22, 3) := by decide +kernel
theorem dX6_act_38 : decode cX6_act 38 = .ok (.getfield 77, 3) := by decide +kernel
theorem dX6_act_41 : decode cX6_act 41 = .ok (.iload_n 1, 1) := by decide +kernel
theorem dX6_act_42 : decode cX6_act 42 = .ok (.iaload, 1) := by decide +kernel
theorem dX6_act_43 : decode cX6_act 43 = .ok (.invokevirtual 265, 3) := by decide +kernel
theorem dX6_act_46 : decode cX6_act 46 = .ok (.iload_n 2, 1) := by decide +kernel
theorem dX6_act_47 : decode cX6_act 47 = .ok (.tableswitch 82 0 2 #[25, 44, 63], 25) := by decide +kernel
theorem dX6_act_72 : decode cX6_act 72 = .ok (.aload_n 0, 1) := by decide +kernel
theorem dX6_act_73 : decode cX6_act 73 = .ok (.getfield 50, 3) := by decide +kernel
theorem dX6_act_76 : decode cX6_act 76 = .ok (.aload_n 0, 1) := by decide +kernel
theorem dX6_act_77 : decode cX6_act 77 = .ok (.getfield 22, 3) := by decide +kernel
theorem dX6_act_80 : decode cX6_act 80 = .ok (.getfield 73, 3) := by decide +kernel
theorem dX6_act_83 : decode cX6_act 83 = .ok (.iload_n 1, 1) := by decide +kernel
theorem dX6_act_84 : decode cX6_act 84 = .ok (.iaload, 1) := by decide +kernel
theorem dX6_act_85 : decode cX6_act 85 = .ok (.iload_n 3, 1) := by decide +kernel
theorem dX6_act_86 : decode cX6_act 86 = .ok (.iconst 0, 1) := by decide +kernel
theorem dX6_act_87 : decode cX6_act 87 = .ok (.invokevirtual 268, 3) := by decide +kernel
theorem dX6_act_90 : decode cX6_act 90 = .ok (.ireturn, 1) := by decide +kernel
theorem dX6_act_91 : decode cX6_act 91 = .ok (.aload_n 0, 1) := by decide +kernel
theorem dX6_act_92 : decode cX6_act 92 = .ok (.getfield 50, 3) := by decide +kernel
theorem dX6_act_95 : decode cX6_act 95 = .ok (.aload_n 0, 1) := by decide +kernel
theorem dX6_act_96 : decode cX6_act 96 = .ok (.getfield 22, 3) := by decide +kernel
theorem dX6_act_99 : decode cX6_act 99 = .ok (.getfield 73, 3) := by decide +kernel
theorem dX6_act_102 : decode cX6_act 102 = .ok (.iload_n 1, 1) := by decide +kernel
theorem dX6_act_103 : decode cX6_act 103 = .ok (.iaload, 1) := by decide +kernel
theorem dX6_act_104 : decode cX6_act 104 = .ok (.iload_n 3, 1) := by decide +kernel
theorem dX6_act_105 : decode cX6_act 105 = .ok (.iconst 0, 1) := by decide +kernel
theorem dX6_act_106 : decode cX6_act 106 = .ok (.invokevirtual 271, 3) := by decide +kernel
theorem dX6_act_109 : decode cX6_act 109 = .ok (.ireturn, 1) := by decide +kernel
theorem dX6_act_110 : decode cX6_act 110 = .ok (.aload_n 0, 1) := by decide +kernel
theorem dX6_act_111 : decode cX6_act 111 = .ok (.getfield 50, 3) := by decide +kernel
theorem dX6_act_114 : decode cX6_act 114 = .ok (.aload_n 0, 1) := by decide +kernel
theorem dX6_act_115 : decode cX6_act 115 = .ok (.getfield 22, 3) := by decide +kernel
theorem dX6_act_118 : decode cX6_act 118 = .ok (.getfield 73, 3) := by decide +kernel
theorem dX6_act_121 : decode cX6_act 121 = .ok (.iload_n 1, 1) := by decide +kernel
theorem dX6_act_122 : decode cX6_act 122 = .ok (.iaload, 1) := by decide +kernel
theorem dX6_act_123 : decode cX6_act 123 = .ok (.iload_n 3, 1) := by decide +kernel
theorem dX6_act_124 : decode cX6_act 124 = .ok (.iconst 0, 1) := by decide +kernel
theorem dX6_act_125 : decode cX6_act 125 = .ok (.invokevirtual 273, 3) := by decide +kernel
theorem dX6_act_128 : decode cX6_act 128 = .ok (.ireturn, 1) := by decide +kernel
theorem dX6_act_129 : decode cX6_act 129 = .ok (.iconst 0, 1) := by decide +kernel
theorem dX6_act_130 : decode cX6_act 130 = .ok (.ireturn, 1) := by decide +kernel
theorem dX6_trace_0 : decode cX6_trace 0 = .ok (.iload_n 1, 1) := by decide +kernel
theorem dX6_trace_1 : decode cX6_trace 1 = .ok (.ifCond .lt 32, 3) := by decide +kernel
theorem dX6_trace_4 : decode cX6_trace 4 = .ok (.iload_n 1, 1) := by decide +kernel
theorem dX6_trace_5 : decode cX6_trace 5 = .ok (.bipush 20, 2) := by decide +kernel
theorem dX6_trace_7 : decode cX6_trace 7 = .ok (.if_icmp .ge 26, 3) := by decide +kernel
theorem dX6_trace_10 : decode cX6_trace 10 = .ok (.iload_n 1, 1) := by decide +kernel
theorem dX6_trace_11 : decode cX6_trace 11 = .ok (.aload_n 0, 1) := by decide +kernel
theorem dX6_trace_12 : decode cX6_trace 12 = .ok (.getfield 50, 3) := by decide +kernel
theorem dX6_trace_15 : decode cX6_trace 15 = .ok (.getfield 276, 3) := by decide +kernel
theorem dX6_trace_18 : decode cX6_trace 18 = .ok (.if_icmp .ge 15, 3) := by decide +kernel
theorem dX6_trace_21 : decode cX6_trace 21 = .ok (.aload_n 0, 1) := by decide +kernel
theorem dX6_trace_22 : decode cX6_trace 22 = .ok (.getfield 50, 3) := by decide +kernel
theorem dX6_trace_25 : decode cX6_trace 25 = .ok (.getfield 279, 3) := by decide +kernel
theorem dX6_trace_28 : decode cX6_trace 28 = .ok (.iload_n 1, 1) := by decide +kernel
theorem dX6_trace_29 : decode cX6_trace 29 = .ok (.iaload, 1) := by decide +kernel
theorem dX6_trace_30 : decode cX6_trace 30 = .ok (.goto 4, 3) := by decide +kernel
theorem dX6_trace_33 : decode cX6_trace 33 = .ok (.iconst (-1), 1) := by decide +kernel
theorem dX6_trace_34 : decode cX6_trace 34 = .ok (.ireturn, 1) := by decide +kernel
theorem dX6_taken_0 : decode cX6_taken 0 = .ok (.iload_n 2, 1) := by decide +kernel
theorem dX6_taken_1 : decode cX6_taken 1 = .ok (.ifCond .lt 9, 3) := by decide +kernel
theorem dX6_taken_4 : decode cX6_taken 4 = .ok (.iload_n 2, 1) := by decide +kernel
theorem dX6_taken_5 : decode cX6_taken 5 = .ok (.bipush 6, 2) := by decide +kernel
theorem dX6_taken_7 : decode cX6_taken 7 = .ok (.if_icmp .le 6, 3) := by decide +kernel
theorem dX6_taken_10 : decode cX6_taken 10 = .ok (.bipush (-2), 2) := by decide +kernel
theorem dX6_taken_12 : decode cX6_taken 12 = .ok (.ireturn, 1) := by decide +kernel
theorem dX6_taken_13 : decode cX6_taken 13 = .ok (.aload_n 0, 1) := by decide +kernel
theorem dX6_taken_14 : decode cX6_taken 14 = .ok (.getfield 22, 3) := by decide +kernel
theorem dX6_taken_17 : decode cX6_taken 17 = .ok (.iload_n 1, 1) := by decide +kernel
theorem dX6_taken_18 : decode cX6_taken 18 = .ok (.invokevirtual 69, 3) := by decide +kernel
theorem dX6_taken_21 : decode cX6_taken 21 = .ok (.ifCond .ne 6, 3) := by decide +kernel
theorem dX6_taken_24 : decode cX6_taken 24 = .ok (.bipush (-11), 2) := by decide +kernel
theorem dX6_taken_26 : decode cX6_taken 26 = .ok (.ireturn, 1) := by decide +kernel
theorem dX6_taken_27 : decode cX6_taken 27 = .ok (.aload_n 0, 1) := by decide +kernel
theorem dX6_taken_28 : decode cX6_taken 28 = .ok (.getfield 22, 3) := by decide +kernel
theorem dX6_taken_31 : decode cX6_taken 31 = .ok (.getfield 73, 3) := by decide +kernel
theorem dX6_taken_34 : decode cX6_taken 34 = .ok (.iload_n 1, 1) := by decide +kernel
theorem dX6_taken_35 : decode cX6_taken 35 = .ok (.iaload, 1) := by decide +kernel
theorem dX6_taken_36 : decode cX6_taken 36 = .ok (.iload_n 2, 1) := by decide +kernel
theorem dX6_taken_37 : decode cX6_taken 37 = .ok (.invokestatic 282, 3) := by decide +kernel
theorem dX6_taken_40 : decode cX6_taken 40 = .ok (.ifCond .eq 15, 3) := by decide +kernel
theorem dX6_taken_43 : decode cX6_taken 43 = .ok (.aload_n 0, 1) := by decide +kernel
theorem dX6_taken_44 : decode cX6_taken 44 = .ok (.getfield 22, 3) := by decide +kernel
theorem dX6_taken_47 : decode cX6_taken 47 = .ok (.getfield 73, 3) := by decide +kernel
theorem dX6_taken_50 : decode cX6_taken 50 = .ok (.iload_n 1, 1) := by decide +kernel
theorem dX6_taken_51 : decode cX6_taken 51 = .ok (.iaload, 1) := by decide +kernel
theorem dX6_taken_52 : decode cX6_taken 52 = .ok (.goto 5, 3) := by decide +kernel
theorem dX6_taken_55 : decode cX6_taken 55 = .ok (.bipush (-12), 2) := by decide +kernel
theorem dX6_taken_57 : decode cX6_taken 57 = .ok (.ireturn, 1) := by decide +kernel
theorem dX6_count_0 : decode cX6_count 0 = .ok (.iload_n 1, 1) := by decide +kernel
theorem dX6_count_1 : decode cX6_count 1 = .ok (.tableswitch 84 0 5 #[39, 47, 52, 60, 68, 76], 39) := by decide +kernel
theorem dX6_count_40 : decode cX6_count 40 = .ok (.aload_n 0, 1) := by decide +kernel
theorem dX6_count_41 : decode cX6_count 41 = .ok (.getfield 22, 3) := by decide +kernel
theorem dX6_count_44 : decode cX6_count 44 = .ok (.getfield 61, 3) := by decide +kernel
theorem dX6_count_47 : decode cX6_count 47 = .ok (.ireturn, 1) := by decide +kernel
theorem dX6_count_48 : decode cX6_count 48 = .ok (.aload_n 0, 1) := by decide +kernel
theorem dX6_count_49 : decode cX6_count 49 = .ok (.getfield 140, 3) := by decide +kernel
theorem dX6_count_52 : decode cX6_count 52 = .ok (.ireturn, 1) := by decide +kernel
theorem dX6_count_53 : decode cX6_count 53 = .ok (.aload_n 0, 1) := by decide +kernel
theorem dX6_count_54 : decode cX6_count 54 = .ok (.getfield 22, 3) := by decide +kernel
theorem dX6_count_57 : decode cX6_count 57 = .ok (.getfield 127, 3) := by decide +kernel
theorem dX6_count_60 : decode cX6_count 60 = .ok (.ireturn, 1) := by decide +kernel
theorem dX6_count_61 : decode cX6_count 61 = .ok (.aload_n 0, 1) := by decide +kernel
theorem dX6_count_62 : decode cX6_count 62 = .ok (.getfield 22, 3) := by decide +kernel
theorem dX6_count_65 : decode cX6_count 65 = .ok (.getfield 237, 3) := by decide +kernel
theorem dX6_count_68 : decode cX6_count 68 = .ok (.ireturn, 1) := by decide +kernel
theorem dX6_count_69 : decode cX6_count 69 = .ok (.aload_n 0, 1) := by decide +kernel
theorem dX6_count_70 : decode cX6_count 70 = .ok (.getfield 43, 3) := by decide +kernel
theorem dX6_count_73 : decode cX6_count 73 = .ok (.getfield 133, 3) := by decide +kernel
theorem dX6_count_76 : decode cX6_count 76 = .ok (.ireturn, 1) := by decide +kernel
theorem dX6_count_77 : decode cX6_count 77 = .ok (.aload_n 0, 1) := by decide +kernel
theorem dX6_count_78 : decode cX6_count 78 = .ok (.getfield 50, 3) := by decide +kernel
theorem dX6_count_81 : decode cX6_count 81 = .ok (.getfield 276, 3) := by decide +kernel
theorem dX6_count_84 : decode cX6_count 84 = .ok (.ireturn, 1) := by decide +kernel
theorem dX6_count_85 : decode cX6_count 85 = .ok (.bipush (-2), 2) := by decide +kernel
theorem dX6_count_87 : decode cX6_count 87 = .ok (.ireturn, 1) := by decide +kernel
theorem dX6_tape_0 : decode cX6_tape 0 = .ok (.iload_n 1, 1) := by decide +kernel
theorem dX6_tape_1 : decode cX6_tape 1 = .ok (.invokestatic 243, 3) := by decide +kernel
theorem dX6_tape_4 : decode cX6_tape 4 = .ok (.ifCond .ne 5, 3) := by decide +kernel
theorem dX6_tape_7 : decode cX6_tape 7 = .ok (.iconst (-1), 1) := by decide +kernel
theorem dX6_tape_8 : decode cX6_tape 8 = .ok (.ireturn, 1) := by decide +kernel
theorem dX6_tape_9 : decode cX6_tape 9 = .ok (.iload_n 2, 1) := by decide +kernel
theorem dX6_tape_10 : decode cX6_tape 10 = .ok (.iconst (-1), 1) := by decide +kernel
theorem dX6_tape_11 : decode cX6_tape 11 = .ok (.if_icmp .ne 16, 3) := by decide +kernel
theorem dX6_tape_14 : decode cX6_tape 14 = .ok (.aload_n 0, 1) := by decide +kernel
theorem dX6_tape_15 : decode cX6_tape 15 = .ok (.getfield 56, 3) := by decide +kernel
theorem dX6_tape_18 : decode cX6_tape 18 = .ok (.iload_n 1, 1) := by decide +kernel
theorem dX6_tape_19 : decode cX6_tape 19 = .ok (.aaload, 1) := by decide +kernel
theorem dX6_tape_20 : decode cX6_tape 20 = .ok (.iload_n 2, 1) := by decide +kernel
theorem dX6_tape_21 : decode cX6_tape 21 = .ok (.iconst 0, 1) := by decide +kernel
theorem dX6_tape_22 : decode cX6_tape 22 = .ok (.invokevirtual 285, 3) := by decide +kernel
theorem dX6_tape_25 : decode cX6_tape 25 = .ok (.iconst 1, 1) := by decide +kernel
theorem dX6_tape_26 : decode cX6_tape 26 = .ok (.ireturn, 1) := by decide +kernel
theorem dX6_tape_27 : decode cX6_tape 27 = .ok (.iload_n 2, 1) := by decide +kernel
theorem dX6_tape_28 : decode cX6_tape 28 = .ok (.ifCond .lt 14, 3) := by decide +kernel
theorem dX6_tape_31 : decode cX6_tape 31 = .ok (.iload_n 2, 1) := by decide +kernel
theorem dX6_tape_32 : decode cX6_tape 32 = .ok (.iconst 4, 1) := by decide +kernel
theorem dX6_tape_33 : decode cX6_tape 33 = .ok (.if_icmp .gt 9, 3) := by decide +kernel
theorem dX6_tape_36 : decode cX6_tape 36 = .ok (.iload_n 3, 1) := by decide +kernel
theorem dX6_tape_37 : decode cX6_tape 37 = .ok (.bipush 60, 2) := by decide +kernel
theorem dX6_tape_39 : decode cX6_tape 39 = .ok (.if_icmp .le 6, 3) := by decide +kernel
theorem dX6_tape_42 : decode cX6_tape 42 = .ok (.bipush (-2), 2) := by decide +kernel
theorem dX6_tape_44 : decode cX6_tape 44 = .ok (.ireturn, 1) := by decide +kernel
theorem dX6_tape_45 : decode cX6_tape 45 = .ok (.iload_n 3, 1) := by decide +kernel
theorem dX6_tape_46 : decode cX6_tape 46 = .ok (.ifCond .ge 6, 3) := by decide +kernel
theorem dX6_tape_49 : decode cX6_tape 49 = .ok (.bipush (-14), 2) := by decide +kernel
theorem dX6_tape_51 : decode cX6_tape 51 = .ok (.ireturn, 1) := by decide +kernel
theorem dX6_tape_52 : decode cX6_tape 52 = .ok (.aload_n 0, 1) := by decide +kernel
theorem dX6_tape_53 : decode cX6_tape 53 = .ok (.getfield 56, 3) := by decide +kernel
theorem dX6_tape_56 : decode cX6_tape 56 = .ok (.iload_n 1, 1) := by decide +kernel
theorem dX6_tape_57 : decode cX6_tape 57 = .ok (.aaload, 1) := by decide +kernel
theorem dX6_tape_58 : decode cX6_tape 58 = .ok (.iload_n 2, 1) := by decide +kernel
theorem dX6_tape_59 : decode cX6_tape 59 = .ok (.iload_n 3, 1) := by decide +kernel
theorem dX6_tape_60 : decode cX6_tape 60 = .ok (.invokevirtual 285, 3) := by decide +kernel
theorem dX6_tape_63 : decode cX6_tape 63 = .ok (.iconst 1, 1) := by decide +kernel
theorem dX6_tape_64 : decode cX6_tape 64 = .ok (.ireturn, 1) := by decide +kernel
theorem dX6_item_0 : decode cX6_item 0 = .ok (.iload_n 1, 1) := by decide +kernel
theorem dX6_item_1 : decode cX6_item 1 = .ok (.invokestatic 243, 3) := by decide +kernel
theorem dX6_item_4 : decode cX6_item 4 = .ok (.ifCond .ne 5, 3) := by decide +kernel
theorem dX6_item_7 : decode cX6_item 7 = .ok (.iconst (-1), 1) := by decide +kernel
theorem dX6_item_8 : decode cX6_item 8 = .ok (.ireturn, 1) := by decide +kernel
theorem dX6_item_9 : decode cX6_item 9 = .ok (.aload_n 0, 1) := by decide +kernel
theorem dX6_item_10 : decode cX6_item 10 = .ok (.getfield 56, 3) := by decide +kernel
theorem dX6_item_13 : decode cX6_item 13 = .ok (.iload_n 1, 1) := by decide +kernel
theorem dX6_item_14 : decode cX6_item 14 = .ok (.aaload, 1) := by decide +kernel
theorem dX6_item_15 : decode cX6_item 15 = .ok (.astore 5, 2) := by decide +kernel
theorem dX6_item_17 : decode cX6_item 17 = .ok (.aload 5, 2) := by decide +kernel
theorem dX6_item_19 : decode cX6_item 19 = .ok (.getfield 246, 3) := by decide +kernel
theorem dX6_item_22 : decode cX6_item 22 = .ok (.iconst (-1), 1) := by decide +kernel
theorem dX6_item_23 : decode cX6_item 23 = .ok (.if_icmp .ne 6, 3) := by decide +kernel
theorem dX6_item_26 : decode cX6_item 26 = .ok (.bipush (-11), 2) := by decide +kernel
theorem dX6_item_28 : decode cX6_item 28 = .ok (.ireturn, 1) := by decide +kernel
theorem dX6_item_29 : decode cX6_item 29 = .ok (.aload 5, 2) := by decide +kernel
theorem dX6_item_31 : decode cX6_item 31 = .ok (.iload_n 2, 1) := by decide +kernel
theorem dX6_item_32 : decode cX6_item 32 = .ok (.iconst 1, 1) := by decide +kernel
theorem dX6_item_33 : decode cX6_item 33 = .ok (.invokevirtual 288, 3) := by decide +kernel
theorem dX6_item_36 : decode cX6_item 36 = .ok (.ifCond .ne 6, 3) := by decide +kernel
theorem dX6_item_39 : decode cX6_item 39 = .ok (.bipush (-13), 2) := by decide +kernel
theorem dX6_item_41 : decode cX6_item 41 = .ok (.ireturn, 1) := by decide +kernel
theorem dX6_item_42 : decode cX6_item 42 = .ok (.aload 5, 2) := by decide +kernel
theorem dX6_item_44 : decode cX6_item 44 = .ok (.getfield 250, 3) := by decide +kernel
theorem dX6_item_47 : decode cX6_item 47 = .ok (.iload_n 2, 1) := by decide +kernel
theorem dX6_item_48 : decode cX6_item 48 = .ok (.aload 5, 2) := by decide +kernel
theorem dX6_item_50 : decode cX6_item 50 = .ok (.lload_n 3, 1) := by decide +kernel
theorem dX6_item_51 : decode cX6_item 51 = .ok (.invokevirtual 291, 3) := by decide +kernel
theorem dX6_item_54 : decode cX6_item 54 = .ok (.lastore, 1) := by decide +kernel
theorem dX6_item_55 : decode cX6_item 55 = .ok (.iconst 1, 1) := by decide +kernel
theorem dX6_item_56 : decode cX6_item 56 = .ok (.ireturn, 1) := by decide +kernel
theorem dX6_read_0 : decode cX6_read 0 = .ok (.iload_n 1, 1) := by decide +kernel
theorem dX6_read_1 : decode cX6_read 1 = .ok (.invokestatic 243, 3) := by decide +kernel
theorem dX6_read_4 : decode cX6_read 4 = .ok (.ifCond .eq 17, 3) := by decide +kernel
theorem dX6_read_7 : decode cX6_read 7 = .ok (.aload_n 0, 1) := by decide +kernel
theorem dX6_read_8 : decode cX6_read 8 = .ok (.getfield 56, 3) := by decide +kernel
theorem dX6_read_11 : decode cX6_read 11 = .ok (.iload_n 1, 1) := by decide +kernel
theorem dX6_read_12 : decode cX6_read 12 = .ok (.aaload, 1) := by decide +kernel
theorem dX6_read_13 : decode cX6_read 13 = .ok (.iload_n 2, 1) := by decide +kernel
theorem dX6_read_14 : decode cX6_read 14 = .ok (.iconst 1, 1) := by decide +kernel
theorem dX6_read_15 : decode cX6_read 15 = .ok (.invokevirtual 288, 3) := by decide +kernel
theorem dX6_read_18 : decode cX6_read 18 = .ok (.ifCond .ne 7, 3) := by decide +kernel
theorem dX6_read_21 : decode cX6_read 21 = .ok (.ldc2_w 225, 3) := by decide +kernel
theorem dX6_read_24 : decode cX6_read 24 = .ok (.lreturn, 1) := by decide +kernel
theorem dX6_read_25 : decode cX6_read 25 = .ok (.aload_n 0, 1) := by decide +kernel
theorem dX6_read_26 : decode cX6_read 26 = .ok (.getfield 56, 3) := by decide +kernel
theorem dX6_read_29 : decode cX6_read 29 = .ok (.iload_n 1, 1) := by decide +kernel
theorem dX6_read_30 : decode cX6_read 30 = .ok (.aaload, 1) := by decide +kernel
theorem dX6_read_31 : decode cX6_read 31 = .ok (.getfield 250, 3) := by decide +kernel
theorem dX6_read_34 : decode cX6_read 34 = .ok (.iload_n 2, 1) := by decide +kernel
theorem dX6_read_35 : decode cX6_read 35 = .ok (.laload, 1) := by decide +kernel
theorem dX6_read_36 : decode cX6_read 36 = .ok (.lreturn, 1) := by decide +kernel
theorem dX6_shift_0 : decode cX6_shift 0 = .ok (.iload_n 1, 1) := by decide +kernel
theorem dX6_shift_1 : decode cX6_shift 1 = .ok (.invokestatic 243, 3) := by decide +kernel
theorem dX6_shift_4 : decode cX6_shift 4 = .ok (.ifCond .eq 10, 3) := by decide +kernel
theorem dX6_shift_7 : decode cX6_shift 7 = .ok (.iload_n 3, 1) := by decide +kernel
theorem dX6_shift_8 : decode cX6_shift 8 = .ok (.invokestatic 243, 3) := by decide +kernel
theorem dX6_shift_11 : decode cX6_shift 11 = .ok (.ifCond .ne 5, 3) := by decide +kernel
theorem dX6_shift_14 : decode cX6_shift 14 = .ok (.iconst (-1), 1) := by decide +kernel
theorem dX6_shift_15 : decode cX6_shift 15 = .ok (.ireturn, 1) := by decide +kernel
theorem dX6_shift_16 : decode cX6_shift 16 = .ok (.aload_n 0, 1) := by decide +kernel
theorem dX6_shift_17 : decode cX6_shift 17 = .ok (.getfield 56, 3) := by decide +kernel
theorem dX6_shift_20 : decode cX6_shift 20 = .ok (.iload_n 1, 1) := by decide +kernel
theorem dX6_shift_21 : decode cX6_shift 21 = .ok (.aaload, 1) := by decide +kernel
theorem dX6_shift_22 : decode cX6_shift 22 = .ok (.astore 6, 2) := by decide +kernel
theorem dX6_shift_24 : decode cX6_shift 24 = .ok (.aload_n 0, 1) := by decide +kernel
theorem dX6_shift_25 : decode cX6_shift 25 = .ok (.getfield 56, 3) := by decide +kernel
theorem dX6_shift_28 : decode cX6_shift 28 = .ok (.iload_n 3, 1) := by decide +kernel
theorem dX6_shift_29 : decode cX6_shift 29 = .ok (.aaload, 1) := by decide +kernel
theorem dX6_shift_30 : decode cX6_shift 30 = .ok (.astore 7, 2) := by decide +kernel
theorem dX6_shift_32 : decode cX6_shift 32 = .ok (.aload 6, 2) := by decide +kernel
theorem dX6_shift_34 : decode cX6_shift 34 = .ok (.getfield 246, 3) := by decide +kernel
theorem dX6_shift_37 : decode cX6_shift 37 = .ok (.iconst (-1), 1) := by decide +kernel
theorem dX6_shift_38 : decode cX6_shift 38 = .ok (.if_icmp .eq 12, 3) := by decide +kernel
theorem dX6_shift_41 : decode cX6_shift 41 = .ok (.aload 7, 2) := by decide +kernel
theorem dX6_shift_43 : decode cX6_shift 43 = .ok (.getfield 246, 3) := by decide +kernel
theorem dX6_shift_46 : decode cX6_shift 46 = .ok (.iconst (-1), 1) := by decide +kernel
theorem dX6_shift_47 : decode cX6_shift 47 = .ok (.if_icmp .ne 6, 3) := by decide +kernel
theorem dX6_shift_50 : decode cX6_shift 50 = .ok (.bipush (-11), 2) := by decide +kernel
theorem dX6_shift_52 : decode cX6_shift 52 = .ok (.ireturn, 1) := by decide +kernel
theorem dX6_shift_53 : decode cX6_shift 53 = .ok (.aload 6, 2) := by decide +kernel
theorem dX6_shift_55 : decode cX6_shift 55 = .ok (.getfield 246, 3) := by decide +kernel
theorem dX6_shift_58 : decode cX6_shift 58 = .ok (.aload 7, 2) := by decide +kernel
theorem dX6_shift_60 : decode cX6_shift 60 = .ok (.getfield 246, 3) := by decide +kernel
theorem dX6_shift_63 : decode cX6_shift 63 = .ok (.if_icmp .eq 6, 3) := by decide +kernel
theorem dX6_shift_66 : decode cX6_shift 66 = .ok (.bipush (-12), 2) := by decide +kernel
theorem dX6_shift_68 : decode cX6_shift 68 = .ok (.ireturn, 1) := by decide +kernel
theorem dX6_shift_69 : decode cX6_shift 69 = .ok (.aload 6, 2) := by decide +kernel
theorem dX6_shift_71 : decode cX6_shift 71 = .ok (.iload_n 2, 1) := by decide +kernel
theorem dX6_shift_72 : decode cX6_shift 72 = .ok (.iload 5, 2) := by decide +kernel
theorem dX6_shift_74 : decode cX6_shift 74 = .ok (.invokevirtual 288, 3) := by decide +kernel
theorem dX6_shift_77 : decode cX6_shift 77 = .ok (.ifCond .eq 15, 3) := by decide +kernel
theorem dX6_shift_80 : decode cX6_shift 80 = .ok (.aload 7, 2) := by decide +kernel
theorem dX6_shift_82 : decode cX6_shift 82 = .ok (.iload 4, 2) := by decide +kernel
theorem dX6_shift_84 : decode cX6_shift 84 = .ok (.iload 5, 2) := by decide +kernel
theorem dX6_shift_86 : decode cX6_shift 86 = .ok (.invokevirtual 288, 3) := by decide +kernel
theorem dX6_shift_89 : decode cX6_shift 89 = .ok (.ifCond .ne 6, 3) := by decide +kernel
theorem dX6_shift_92 : decode cX6_shift 92 = .ok (.bipush (-13), 2) := by decide +kernel
theorem dX6_shift_94 : decode cX6_shift 94 = .ok (.ireturn, 1) := by decide +kernel
theorem dX6_shift_95 : decode cX6_shift 95 = .ok (.aload 6, 2) := by decide +kernel
theorem dX6_shift_97 : decode cX6_shift 97 = .ok (.getfield 250, 3) := by decide +kernel
theorem dX6_shift_100 : decode cX6_shift 100 = .ok (.iload_n 2, 1) := by decide +kernel
theorem dX6_shift_101 : decode cX6_shift 101 = .ok (.aload 7, 2) := by decide +kernel
theorem dX6_shift_103 : decode cX6_shift 103 = .ok (.getfield 250, 3) := by decide +kernel
theorem dX6_shift_106 : decode cX6_shift 106 = .ok (.iload 4, 2) := by decide +kernel
theorem dX6_shift_108 : decode cX6_shift 108 = .ok (.iload 5, 2) := by decide +kernel
theorem dX6_shift_110 : decode cX6_shift 110 = .ok (.invokestatic 295, 3) := by decide +kernel
theorem dX6_shift_113 : decode cX6_shift 113 = .ok (.iload 5, 2) := by decide +kernel
theorem dX6_shift_115 : decode cX6_shift 115 = .ok (.ireturn, 1) := by decide +kernel
theorem dX6_index_0 : decode cX6_index 0 = .ok (.iload_n 0, 1) := by decide +kernel
theorem dX6_index_1 : decode cX6_index 1 = .ok (.bipush 7, 2) := by decide +kernel
theorem dX6_index_3 : decode cX6_index 3 = .ok (.imul, 1) := by decide +kernel
theorem dX6_index_4 : decode cX6_index 4 = .ok (.iload_n 1, 1) := by decide +kernel
theorem dX6_index_5 : decode cX6_index 5 = .ok (.iadd, 1) := by decide +kernel
theorem dX6_index_6 : decode cX6_index 6 = .ok (.ireturn, 1) := by decide +kernel
theorem dX6_isPart_0 : decode cX6_isPart 0 = .ok (.iload_n 0, 1) := by decide +kernel
theorem dX6_isPart_1 : decode cX6_isPart 1 = .ok (.ifCond .eq 8, 3) := by decide +kernel
theorem dX6_isPart_4 : decode cX6_isPart 4 = .ok (.iload_n 0, 1) := by decide +kernel
theorem dX6_isPart_5 : decode cX6_isPart 5 = .ok (.iconst 1, 1) := by decide +kernel
theorem dX6_isPart_6 : decode cX6_isPart 6 = .ok (.if_icmp .ne 7, 3) := by decide +kernel
theorem dX6_isPart_9 : decode cX6_isPart 9 = .ok (.iconst 1, 1) := by decide +kernel
theorem dX6_isPart_10 : decode cX6_isPart 10 = .ok (.goto 4, 3) := by decide +kernel
theorem dX6_isPart_13 : decode cX6_isPart 13 = .ok (.iconst 0, 1) := by decide +kernel
theorem dX6_isPart_14 : decode cX6_isPart 14 = .ok (.ireturn, 1) := by decide +kernel
theorem dX6_isTape_0 : decode cX6_isTape 0 = .ok (.iload_n 0, 1) := by decide +kernel
theorem dX6_isTape_1 : decode cX6_isTape 1 = .ok (.ifCond .lt 13, 3) := by decide +kernel
theorem dX6_isTape_4 : decode cX6_isTape 4 = .ok (.iload_n 0, 1) := by decide +kernel
theorem dX6_isTape_5 : decode cX6_isTape 5 = .ok (.bipush 6, 2) := by decide +kernel
theorem dX6_isTape_7 : decode cX6_isTape 7 = .ok (.if_icmp .ge 7, 3) := by decide +kernel
theorem dX6_isTape_10 : decode cX6_isTape 10 = .ok (.iconst 1, 1) := by decide +kernel
theorem dX6_isTape_11 : decode cX6_isTape 11 = .ok (.goto 4, 3) := by decide +kernel
theorem dX6_isTape_14 : decode cX6_isTape 14 = .ok (.iconst 0, 1) := by decide +kernel
theorem dX6_isTape_15 : decode cX6_isTape 15 = .ok (.ireturn, 1) := by decide +kernel
theorem dX6_isUnder_0 : decode cX6_isUnder 0 = .ok (.iload_n 0, 1) := by decide +kernel
theorem dX6_isUnder_1 : decode cX6_isUnder 1 = .ok (.istore_n 2, 1) := by decide +kernel
theorem dX6_isUnder_2 : decode cX6_isUnder 2 = .ok (.iconst 0, 1) := by decide +kernel
theorem dX6_isUnder_3 : decode cX6_isUnder 3 = .ok (.istore_n 3, 1) := by decide +kernel
theorem dX6_isUnder_4 : decode cX6_isUnder 4 = .ok (.iload_n 3, 1) := by decide +kernel
theorem dX6_isUnder_5 : decode cX6_isUnder 5 = .ok (.bipush 7, 2) := by decide +kernel
theorem dX6_isUnder_7 : decode cX6_isUnder 7 = .ok (.if_icmp .ge 32, 3) := by decide +kernel
theorem dX6_isUnder_10 : decode cX6_isUnder 10 = .ok (.iload_n 2, 1) := by decide +kernel
theorem dX6_isUnder_11 : decode cX6_isUnder 11 = .ok (.ifCond .lt 28, 3) := by decide +kernel
theorem dX6_isUnder_14 : decode cX6_isUnder 14 = .ok (.iload_n 2, 1) := by decide +kernel
theorem dX6_isUnder_15 : decode cX6_isUnder 15 = .ok (.bipush 7, 2) := by decide +kernel
theorem dX6_isUnder_17 : decode cX6_isUnder 17 = .ok (.if_icmp .ge 22, 3) := by decide +kernel
theorem dX6_isUnder_20 : decode cX6_isUnder 20 = .ok (.iload_n 2, 1) := by decide +kernel
theorem dX6_isUnder_21 : decode cX6_isUnder 21 = .ok (.iload_n 1, 1) := by decide +kernel
theorem dX6_isUnder_22 : decode cX6_isUnder 22 = .ok (.if_icmp .ne 5, 3) := by decide +kernel
theorem dX6_isUnder_25 : decode cX6_isUnder 25 = .ok (.iconst 1, 1) := by decide +kernel
theorem dX6_isUnder_26 : decode cX6_isUnder 26 = .ok (.ireturn, 1) := by decide +kernel
theorem dX6_isUnder_27 : decode cX6_isUnder 27 = .ok (.getstatic 301, 3) := by decide +kernel
theorem dX6_isUnder_30 : decode cX6_isUnder 30 = .ok (.iload_n 2, 1) := by decide +kernel
theorem dX6_isUnder_31 : decode cX6_isUnder 31 = .ok (.iaload, 1) := by decide +kernel
theorem dX6_isUnder_32 : decode cX6_isUnder 32 = .ok (.istore_n 2, 1) := by decide +kernel
theorem dX6_isUnder_33 : decode cX6_isUnder 33 = .ok (.iinc 3 1, 3) := by decide +kernel
theorem dX6_isUnder_36 : decode cX6_isUnder 36 = .ok (.goto (-32), 3) := by decide +kernel
theorem dX6_isUnder_39 : decode cX6_isUnder 39 = .ok (.iconst 0, 1) := by decide +kernel
theorem dX6_isUnder_40 : decode cX6_isUnder 40 = .ok (.ireturn, 1) := by decide +kernel
theorem dX6_inLowestTerms_0 : decode cX6_inLowestTerms 0 = .ok (.lload_n 0, 1) := by decide +kernel
theorem dX6_inLowestTerms_1 : decode cX6_inLowestTerms 1 = .ok (.lstore 5, 2) := by decide +kernel
theorem dX6_inLowestTerms_3 : decode cX6_inLowestTerms 3 = .ok (.lload_n 2, 1) := by decide +kernel
theorem dX6_inLowestTerms_4 : decode cX6_inLowestTerms 4 = .ok (.lstore 7, 2) := by decide +kernel
theorem dX6_inLowestTerms_6 : decode cX6_inLowestTerms 6 = .ok (.iconst 0, 1) := by decide +kernel
theorem dX6_inLowestTerms_7 : decode cX6_inLowestTerms 7 = .ok (.istore 9, 2) := by decide +kernel
theorem dX6_inLowestTerms_9 : decode cX6_inLowestTerms 9 = .ok (.iload 9, 2) := by decide +kernel
theorem dX6_inLowestTerms_11 : decode cX6_inLowestTerms 11 = .ok (.bipush 100, 2) := by decide +kernel
theorem dX6_inLowestTerms_13 : decode cX6_inLowestTerms 13 = .ok (.if_icmp .ge 31, 3) := by decide +kernel
theorem dX6_inLowestTerms_16 : decode cX6_inLowestTerms 16 = .ok (.lload 7, 2) := by decide +kernel
theorem dX6_inLowestTerms_18 : decode cX6_inLowestTerms 18 = .ok (.lconst 0, 1) := by decide +kernel
theorem dX6_inLowestTerms_19 : decode cX6_inLowestTerms 19 = .ok (.lcmp, 1) := by decide +kernel
theorem dX6_inLowestTerms_20 : decode cX6_inLowestTerms 20 = .ok (.ifCond .eq 24, 3) := by decide +kernel
theorem dX6_inLowestTerms_23 : decode cX6_inLowestTerms 23 = .ok (.lload 5, 2) := by decide +kernel
theorem dX6_inLowestTerms_25 : decode cX6_inLowestTerms 25 = .ok (.lload 7, 2) := by decide +kernel
theorem dX6_inLowestTerms_27 : decode cX6_inLowestTerms 27 = .ok (.lrem, 1) := by decide +kernel
theorem dX6_inLowestTerms_28 : decode cX6_inLowestTerms 28 = .ok (.lstore 10, 2) := by decide +kernel
theorem dX6_inLowestTerms_30 : decode cX6_inLowestTerms 30 = .ok (.lload 7, 2) := by decide +kernel
theorem dX6_inLowestTerms_32 : decode cX6_inLowestTerms 32 = .ok (.lstore 5, 2) := by decide +kernel
theorem dX6_inLowestTerms_34 : decode cX6_inLowestTerms 34 = .ok (.lload 10, 2) := by decide +kernel
theorem dX6_inLowestTerms_36 : decode cX6_inLowestTerms 36 = .ok (.lstore 7, 2) := by decide +kernel
theorem dX6_inLowestTerms_38 : decode cX6_inLowestTerms 38 = .ok (.iinc 9 1, 3) := by decide +kernel
theorem dX6_inLowestTerms_41 : decode cX6_inLowestTerms 41 = .ok (.goto (-32), 3) := by decide +kernel
theorem dX6_inLowestTerms_44 : decode cX6_inLowestTerms 44 = .ok (.iload 4, 2) := by decide +kernel
theorem dX6_inLowestTerms_46 : decode cX6_inLowestTerms 46 = .ok (.ifCond .ne 7, 3) := by decide +kernel
theorem dX6_inLowestTerms_49 : decode cX6_inLowestTerms 49 = .ok (.lload_n 0, 1) := by decide +kernel
theorem dX6_inLowestTerms_50 : decode cX6_inLowestTerms 50 = .ok (.goto 4, 3) := by decide +kernel
theorem dX6_inLowestTerms_53 : decode cX6_inLowestTerms 53 = .ok (.lload_n 2, 1) := by decide +kernel
theorem dX6_inLowestTerms_54 : decode cX6_inLowestTerms 54 = .ok (.lstore 9, 2) := by decide +kernel
theorem dX6_inLowestTerms_56 : decode cX6_inLowestTerms 56 = .ok (.lload 5, 2) := by decide +kernel
theorem dX6_inLowestTerms_58 : decode cX6_inLowestTerms 58 = .ok (.lconst 0, 1) := by decide +kernel
theorem dX6_inLowestTerms_59 : decode cX6_inLowestTerms 59 = .ok (.lcmp, 1) := by decide +kernel
theorem dX6_inLowestTerms_60 : decode cX6_inLowestTerms 60 = .ok (.ifCond .ne 8, 3) := by decide +kernel
theorem dX6_inLowestTerms_63 : decode cX6_inLowestTerms 63 = .ok (.lload 9, 2) := by decide +kernel
theorem dX6_inLowestTerms_65 : decode cX6_inLowestTerms 65 = .ok (.goto 8, 3) := by decide +kernel
theorem dX6_inLowestTerms_68 : decode cX6_inLowestTerms 68 = .ok (.lload 9, 2) := by decide +kernel
theorem dX6_inLowestTerms_70 : decode cX6_inLowestTerms 70 = .ok (.lload 5, 2) := by decide +kernel
theorem dX6_inLowestTerms_72 : decode cX6_inLowestTerms 72 = .ok (.ldiv, 1) := by decide +kernel
theorem dX6_inLowestTerms_73 : decode cX6_inLowestTerms 73 = .ok (.lreturn, 1) := by decide +kernel
theorem dX6_holding_0 : decode cX6_holding 0 = .ok (.aload_n 0, 1) := by decide +kernel
theorem dX6_holding_1 : decode cX6_holding 1 = .ok (.getfield 22, 3) := by decide +kernel
theorem dX6_holding_4 : decode cX6_holding 4 = .ok (.getfield 150, 3) := by decide +kernel
theorem dX6_holding_7 : decode cX6_holding 7 = .ok (.ifCond .lt 30, 3) := by decide +kernel
theorem dX6_holding_10 : decode cX6_holding 10 = .ok (.aload_n 0, 1) := by decide +kernel
theorem dX6_holding_11 : decode cX6_holding 11 = .ok (.getfield 22, 3) := by decide +kernel
theorem dX6_holding_14 : decode cX6_holding 14 = .ok (.getfield 150, 3) := by decide +kernel
theorem dX6_holding_17 : decode cX6_holding 17 = .ok (.bipush 6, 2) := by decide +kernel
theorem dX6_holding_19 : decode cX6_holding 19 = .ok (.if_icmp .ge 18, 3) := by decide +kernel
theorem dX6_holding_22 : decode cX6_holding 22 = .ok (.aload_n 0, 1) := by decide +kernel
theorem dX6_holding_23 : decode cX6_holding 23 = .ok (.getfield 36, 3) := by decide +kernel
theorem dX6_holding_26 : decode cX6_holding 26 = .ok (.aload_n 0, 1) := by decide +kernel
theorem dX6_holding_27 : decode cX6_holding 27 = .ok (.getfield 22, 3) := by decide +kernel
theorem dX6_holding_30 : decode cX6_holding 30 = .ok (.getfield 150, 3) := by decide +kernel
theorem dX6_holding_33 : decode cX6_holding 33 = .ok (.aaload, 1) := by decide +kernel
theorem dX6_holding_34 : decode cX6_holding 34 = .ok (.goto 7, 3) := by decide +kernel
theorem dX6_holding_37 : decode cX6_holding 37 = .ok (.aload_n 0, 1) := by decide +kernel
theorem dX6_holding_38 : decode cX6_holding 38 = .ok (.getfield 32, 3) := by decide +kernel
theorem dX6_holding_41 : decode cX6_holding 41 = .ok (.areturn, 1) := by decide +kernel
theorem dX6_look_0 : decode cX6_look 0 = .ok (.aload_n 0, 1) := by decide +kernel
theorem dX6_look_1 : decode cX6_look 1 = .ok (.getfield 12, 3) := by decide +kernel
theorem dX6_look_4 : decode cX6_look 4 = .ok (.aload_n 0, 1) := by decide +kernel
theorem dX6_look_5 : decode cX6_look 5 = .ok (.invokevirtual 153, 3) := by decide +kernel
theorem dX6_look_8 : decode cX6_look 8 = .ok (.invokevirtual 304, 3) := by decide +kernel
theorem dX6_look_11 : decode cX6_look 11 = .ok (.aload_n 0, 1) := by decide +kernel
theorem dX6_look_12 : decode cX6_look 12 = .ok (.getfield 12, 3) := by decide +kernel
theorem dX6_look_15 : decode cX6_look 15 = .ok (.invokevirtual 308, 3) := by decide +kernel
theorem dX6_look_18 : decode cX6_look 18 = .ok (.aload_n 0, 1) := by decide +kernel
theorem dX6_look_19 : decode cX6_look 19 = .ok (.getfield 12, 3) := by decide +kernel
theorem dX6_look_22 : decode cX6_look 22 = .ok (.invokevirtual 311, 3) := by decide +kernel
theorem dX6_look_25 : decode cX6_look 25 = .ok (.aload_n 0, 1) := by decide +kernel
theorem dX6_look_26 : decode cX6_look 26 = .ok (.getfield 12, 3) := by decide +kernel
theorem dX6_look_29 : decode cX6_look 29 = .ok (.invokevirtual 314, 3) := by decide +kernel
theorem dX6_look_32 : decode cX6_look 32 = .ok (.aload_n 0, 1) := by decide +kernel
theorem dX6_look_33 : decode cX6_look 33 = .ok (.getfield 12, 3) := by decide +kernel
theorem dX6_look_36 : decode cX6_look 36 = .ok (.invokevirtual 317, 3) := by decide +kernel
theorem dX6_look_39 : decode cX6_look 39 = .ok (.aload_n 0, 1) := by decide +kernel
theorem dX6_look_40 : decode cX6_look 40 = .ok (.getfield 12, 3) := by decide +kernel
theorem dX6_look_43 : decode cX6_look 43 = .ok (.areturn, 1) := by decide +kernel
theorem dX6_hasArmFree_0 : decode cX6_hasArmFree 0 = .ok (.aload_n 0, 1) := by decide +kernel
theorem dX6_hasArmFree_1 : decode cX6_hasArmFree 1 = .ok (.getfield 22, 3) := by decide +kernel
theorem dX6_hasArmFree_4 : decode cX6_hasArmFree 4 = .ok (.getfield 90, 3) := by decide +kernel
theorem dX6_hasArmFree_7 : decode cX6_hasArmFree 7 = .ok (.iload_n 1, 1) := by decide +kernel
theorem dX6_hasArmFree_8 : decode cX6_hasArmFree 8 = .ok (.iaload, 1) := by decide +kernel
theorem dX6_hasArmFree_9 : decode cX6_hasArmFree 9 = .ok (.invokestatic 122, 3) := by decide +kernel
theorem dX6_hasArmFree_12 : decode cX6_hasArmFree 12 = .ok (.aload_n 0, 1) := by decide +kernel
theorem dX6_hasArmFree_13 : decode cX6_hasArmFree 13 = .ok (.invokevirtual 153, 3) := by decide +kernel
theorem dX6_hasArmFree_16 : decode cX6_hasArmFree 16 = .ok (.getfield 157, 3) := by decide +kernel
theorem dX6_hasArmFree_19 : decode cX6_hasArmFree 19 = .ok (.if_icmp .ge 7, 3) := by decide +kernel
theorem dX6_hasArmFree_22 : decode cX6_hasArmFree 22 = .ok (.iconst 1, 1) := by decide +kernel
theorem dX6_hasArmFree_23 : decode cX6_hasArmFree 23 = .ok (.goto 4, 3) := by decide +kernel
theorem dX6_hasArmFree_26 : decode cX6_hasArmFree 26 = .ok (.iconst 0, 1) := by decide +kernel
theorem dX6_hasArmFree_27 : decode cX6_hasArmFree 27 = .ok (.ireturn, 1) := by decide +kernel
theorem dX6_bestTurn_0 : decode cX6_bestTurn 0 = .ok (.bipush (-5), 2) := by decide +kernel
theorem dX6_bestTurn_2 : decode cX6_bestTurn 2 = .ok (.istore_n 3, 1) := by decide +kernel
theorem dX6_bestTurn_3 : decode cX6_bestTurn 3 = .ok (.bipush (-5), 2) := by decide +kernel
theorem dX6_bestTurn_5 : decode cX6_bestTurn 5 = .ok (.istore 4, 2) := by decide +kernel
theorem dX6_bestTurn_7 : decode cX6_bestTurn 7 = .ok (.iconst 0, 1) := by decide +kernel
theorem dX6_bestTurn_8 : decode cX6_bestTurn 8 = .ok (.istore 5, 2) := by decide +kernel
theorem dX6_bestTurn_10 : decode cX6_bestTurn 10 = .ok (.iload 5, 2) := by decide +kernel
theorem dX6_bestTurn_12 : decode cX6_bestTurn 12 = .ok (.aload_n 0, 1) := by decide +kernel
theorem dX6_bestTurn_13 : decode cX6_bestTurn 13 = .ok (.getfield 22, 3) := by decide +kernel
theorem dX6_bestTurn_16 : decode cX6_bestTurn 16 = .ok (.getfield 61, 3) := by decide +kernel
theorem dX6_bestTurn_19 : decode cX6_bestTurn 19 = .ok (.if_icmp .ge 139, 3) := by decide +kernel
theorem dX6_bestTurn_22 : decode cX6_bestTurn 22 = .ok (.iload 5, 2) := by decide +kernel
theorem dX6_bestTurn_24 : decode cX6_bestTurn 24 = .ok (.iconst 1, 1) := by decide +kernel
theorem dX6_bestTurn_25 : decode cX6_bestTurn 25 = .ok (.iadd, 1) := by decide +kernel
theorem dX6_bestTurn_26 : decode cX6_bestTurn 26 = .ok (.istore 6, 2) := by decide +kernel
theorem dX6_bestTurn_28 : decode cX6_bestTurn 28 = .ok (.iload 6, 2) := by decide +kernel
theorem dX6_bestTurn_30 : decode cX6_bestTurn 30 = .ok (.aload_n 0, 1) := by decide +kernel
theorem dX6_bestTurn_31 : decode cX6_bestTurn 31 = .ok (.getfield 22, 3) := by decide +kernel
theorem dX6_bestTurn_34 : decode cX6_bestTurn 34 = .ok (.getfield 61, 3) := by decide +kernel
theorem dX6_bestTurn_37 : decode cX6_bestTurn 37 = .ok (.if_icmp .ge 115, 3) := by decide +kernel
theorem dX6_bestTurn_40 : decode cX6_bestTurn 40 = .ok (.iload_n 1, 1) := by decide +kernel
theorem dX6_bestTurn_41 : decode cX6_bestTurn 41 = .ok (.ifCond .eq 17, 3) := by decide +kernel
theorem dX6_bestTurn_44 : decode cX6_bestTurn 44 = .ok (.aload_n 0, 1) := by decide +kernel
theorem dX6_bestTurn_45 : decode cX6_bestTurn 45 = .ok (.iload 5, 2) := by decide +kernel
theorem dX6_bestTurn_47 : decode cX6_bestTurn 47 = .ok (.iload 6, 2) := by decide +kernel
theorem dX6_bestTurn_49 : decode cX6_bestTurn 49 = .ok (.invokevirtual 320, 3) := by decide +kernel
theorem dX6_bestTurn_52 : decode cX6_bestTurn 52 = .ok (.ifCond .eq 94, 3) := by decide +kernel
theorem dX6_bestTurn_55 : decode cX6_bestTurn 55 = .ok (.goto 20, 3) := by decide +kernel
theorem dX6_bestTurn_58 : decode cX6_bestTurn 58 = .ok (.aload_n 0, 1) := by decide +kernel
theorem dX6_bestTurn_59 : decode cX6_bestTurn 59 = .ok (.getfield 22, 3) := by decide +kernel
theorem dX6_bestTurn_62 : decode cX6_bestTurn 62 = .ok (.iload 5, 2) := by decide +kernel
theorem dX6_bestTurn_64 : decode cX6_bestTurn 64 = .ok (.iload 6, 2) := by decide +kernel
theorem dX6_bestTurn_66 : decode cX6_bestTurn 66 = .ok (.invokevirtual 111, 3) := by decide +kernel
theorem dX6_bestTurn_69 : decode cX6_bestTurn 69 = .ok (.ifCond .ne 6, 3) := by decide +kernel
theorem dX6_bestTurn_72 : decode cX6_bestTurn 72 = .ok (.goto 74, 3) := by decide +kernel
theorem dX6_bestTurn_75 : decode cX6_bestTurn 75 = .ok (.aload_n 0, 1) := by decide +kernel
theorem dX6_bestTurn_76 : decode cX6_bestTurn 76 = .ok (.getfield 22, 3) := by decide +kernel
theorem dX6_bestTurn_79 : decode cX6_bestTurn 79 = .ok (.iload 5, 2) := by decide +kernel
theorem dX6_bestTurn_81 : decode cX6_bestTurn 81 = .ok (.iload 6, 2) := by decide +kernel
theorem dX6_bestTurn_83 : decode cX6_bestTurn 83 = .ok (.invokevirtual 118, 3) := by decide +kernel
theorem dX6_bestTurn_86 : decode cX6_bestTurn 86 = .ok (.aload_n 0, 1) := by decide +kernel
theorem dX6_bestTurn_87 : decode cX6_bestTurn 87 = .ok (.invokevirtual 83, 3) := by decide +kernel
theorem dX6_bestTurn_90 : decode cX6_bestTurn 90 = .ok (.invokevirtual 191, 3) := by decide +kernel
theorem dX6_bestTurn_93 : decode cX6_bestTurn 93 = .ok (.istore 7, 2) := by decide +kernel
theorem dX6_bestTurn_95 : decode cX6_bestTurn 95 = .ok (.aload_n 0, 1) := by decide +kernel
theorem dX6_bestTurn_96 : decode cX6_bestTurn 96 = .ok (.getfield 22, 3) := by decide +kernel
theorem dX6_bestTurn_99 : decode cX6_bestTurn 99 = .ok (.iload 5, 2) := by decide +kernel
theorem dX6_bestTurn_101 : decode cX6_bestTurn 101 = .ok (.iload 6, 2) := by decide +kernel
theorem dX6_bestTurn_103 : decode cX6_bestTurn 103 = .ok (.invokevirtual 118, 3) := by decide +kernel
theorem dX6_bestTurn_106 : decode cX6_bestTurn 106 = .ok (.iload_n 3, 1) := by decide +kernel
theorem dX6_bestTurn_107 : decode cX6_bestTurn 107 = .ok (.bipush (-5), 2) := by decide +kernel
theorem dX6_bestTurn_109 : decode cX6_bestTurn 109 = .ok (.if_icmp .eq 24, 3) := by decide +kernel
theorem dX6_bestTurn_112 : decode cX6_bestTurn 112 = .ok (.iload_n 1, 1) := by decide +kernel
theorem dX6_bestTurn_113 : decode cX6_bestTurn 113 = .ok (.ifCond .eq 13, 3) := by decide +kernel
theorem dX6_bestTurn_116 : decode cX6_bestTurn 116 = .ok (.iload 7, 2) := by decide +kernel
theorem dX6_bestTurn_118 : decode cX6_bestTurn 118 = .ok (.iload 4, 2) := by decide +kernel
theorem dX6_bestTurn_120 : decode cX6_bestTurn 120 = .ok (.if_icmp .ge 26, 3) := by decide +kernel
theorem dX6_bestTurn_123 : decode cX6_bestTurn 123 = .ok (.goto 10, 3) := by decide +kernel
theorem dX6_bestTurn_126 : decode cX6_bestTurn 126 = .ok (.iload 7, 2) := by decide +kernel
theorem dX6_bestTurn_128 : decode cX6_bestTurn 128 = .ok (.iload 4, 2) := by decide +kernel
theorem dX6_bestTurn_130 : decode cX6_bestTurn 130 = .ok (.if_icmp .le 16, 3) := by decide +kernel
theorem dX6_bestTurn_133 : decode cX6_bestTurn 133 = .ok (.bipush 10, 2) := by decide +kernel
theorem dX6_bestTurn_135 : decode cX6_bestTurn 135 = .ok (.iload 5, 2) := by decide +kernel
theorem dX6_bestTurn_137 : decode cX6_bestTurn 137 = .ok (.imul, 1) := by decide +kernel
theorem dX6_bestTurn_138 : decode cX6_bestTurn 138 = .ok (.iload 6, 2) := by decide +kernel
theorem dX6_bestTurn_140 : decode cX6_bestTurn 140 = .ok (.iadd, 1) := by decide +kernel
theorem dX6_bestTurn_141 : decode cX6_bestTurn 141 = .ok (.istore_n 3, 1) := by decide +kernel
theorem dX6_bestTurn_142 : decode cX6_bestTurn 142 = .ok (.iload 7, 2) := by decide +kernel
theorem dX6_bestTurn_144 : decode cX6_bestTurn 144 = .ok (.istore 4, 2) := by decide +kernel
theorem dX6_bestTurn_146 : decode cX6_bestTurn 146 = .ok (.iinc 6 1, 3) := by decide +kernel
theorem dX6_bestTurn_149 : decode cX6_bestTurn 149 = .ok (.goto (-121), 3) := by decide +kernel
theorem dX6_bestTurn_152 : decode cX6_bestTurn 152 = .ok (.iinc 5 1, 3) := by decide +kernel
theorem dX6_bestTurn_155 : decode cX6_bestTurn 155 = .ok (.goto (-145), 3) := by decide +kernel
theorem dX6_bestTurn_158 : decode cX6_bestTurn 158 = .ok (.iload_n 2, 1) := by decide +kernel
theorem dX6_bestTurn_159 : decode cX6_bestTurn 159 = .ok (.ifCond .ne 7, 3) := by decide +kernel
theorem dX6_bestTurn_162 : decode cX6_bestTurn 162 = .ok (.iload_n 3, 1) := by decide +kernel
theorem dX6_bestTurn_163 : decode cX6_bestTurn 163 = .ok (.goto 5, 3) := by decide +kernel
theorem dX6_bestTurn_166 : decode cX6_bestTurn 166 = .ok (.iload 4, 2) := by decide +kernel
theorem dX6_bestTurn_168 : decode cX6_bestTurn 168 = .ok (.ireturn, 1) := by decide +kernel
theorem dX6_mayName_0 : decode cX6_mayName 0 = .ok (.aload_n 0, 1) := by decide +kernel
theorem dX6_mayName_1 : decode cX6_mayName 1 = .ok (.getfield 22, 3) := by decide +kernel
theorem dX6_mayName_4 : decode cX6_mayName 4 = .ok (.iload_n 1, 1) := by decide +kernel
theorem dX6_mayName_5 : decode cX6_mayName 5 = .ok (.iload_n 2, 1) := by decide +kernel
theorem dX6_mayName_6 : decode cX6_mayName 6 = .ok (.invokevirtual 111, 3) := by decide +kernel
theorem dX6_mayName_9 : decode cX6_mayName 9 = .ok (.ifCond .ne 23, 3) := by decide +kernel
theorem dX6_mayName_12 : decode cX6_mayName 12 = .ok (.aload_n 0, 1) := by decide +kernel
theorem dX6_mayName_13 : decode cX6_mayName 13 = .ok (.iload_n 1, 1) := by decide +kernel
theorem dX6_mayName_14 : decode cX6_mayName 14 = .ok (.invokevirtual 115, 3) := by decide +kernel
theorem dX6_mayName_17 : decode cX6_mayName 17 = .ok (.ifCond .eq 15, 3) := by decide +kernel
theorem dX6_mayName_20 : decode cX6_mayName 20 = .ok (.aload_n 0, 1) := by decide +kernel
theorem dX6_mayName_21 : decode cX6_mayName 21 = .ok (.iload_n 2, 1) := by decide +kernel
theorem dX6_mayName_22 : decode cX6_mayName 22 = .ok (.invokevirtual 115, 3) := by decide +kernel
theorem dX6_mayName_25 : decode cX6_mayName 25 = .ok (.ifCond .eq 7, 3) := by decide +kernel
theorem dX6_mayName_28 : decode cX6_mayName 28 = .ok (.iconst 1, 1) := by decide +kernel
theorem dX6_mayName_29 : decode cX6_mayName 29 = .ok (.goto 4, 3) := by decide +kernel
theorem dX6_mayName_32 : decode cX6_mayName 32 = .ok (.iconst 0, 1) := by decide +kernel
theorem dX6_mayName_33 : decode cX6_mayName 33 = .ok (.ireturn, 1) := by decide +kernel
theorem dX6_allWaysWith_0 : decode cX6_allWaysWith 0 = .ok (.aload_n 0, 1) := by decide +kernel
theorem dX6_allWaysWith_1 : decode cX6_allWaysWith 1 = .ok (.getfield 22, 3) := by decide +kernel
theorem dX6_allWaysWith_4 : decode cX6_allWaysWith 4 = .ok (.iload_n 1, 1) := by decide +kernel
theorem dX6_allWaysWith_5 : decode cX6_allWaysWith 5 = .ok (.iload_n 2, 1) := by decide +kernel
theorem dX6_allWaysWith_6 : decode cX6_allWaysWith 6 = .ok (.iload_n 3, 1) := by decide +kernel
theorem dX6_allWaysWith_7 : decode cX6_allWaysWith 7 = .ok (.invokevirtual 104, 3) := by decide +kernel
theorem dX6_allWaysWith_10 : decode cX6_allWaysWith 10 = .ok (.aload_n 0, 1) := by decide +kernel
theorem dX6_allWaysWith_11 : decode cX6_allWaysWith 11 = .ok (.invokevirtual 83, 3) := by decide +kernel
theorem dX6_allWaysWith_14 : decode cX6_allWaysWith 14 = .ok (.invokevirtual 210, 3) := by decide +kernel
theorem dX6_allWaysWith_17 : decode cX6_allWaysWith 17 = .ok (.istore 4, 2) := by decide +kernel
theorem dX6_allWaysWith_19 : decode cX6_allWaysWith 19 = .ok (.aload_n 0, 1) := by decide +kernel
theorem dX6_allWaysWith_20 : decode cX6_allWaysWith 20 = .ok (.getfield 22, 3) := by decide +kernel
theorem dX6_allWaysWith_23 : decode cX6_allWaysWith 23 = .ok (.iload_n 1, 1) := by decide +kernel
theorem dX6_allWaysWith_24 : decode cX6_allWaysWith 24 = .ok (.iload_n 2, 1) := by decide +kernel
theorem dX6_allWaysWith_25 : decode cX6_allWaysWith 25 = .ok (.iconst 0, 1) := by decide +kernel
theorem dX6_allWaysWith_26 : decode cX6_allWaysWith 26 = .ok (.invokevirtual 104, 3) := by decide +kernel
theorem dX6_allWaysWith_29 : decode cX6_allWaysWith 29 = .ok (.iload 4, 2) := by decide +kernel
theorem dX6_allWaysWith_31 : decode cX6_allWaysWith 31 = .ok (.ireturn, 1) := by decide +kernel
theorem dX7_init_0 : decode cX7_init 0 = .ok (.aload_n 0, 1) := by decide +kernel
theorem dX7_init_1 : decode cX7_init 1 = .ok (.invokespecial 1, 3) := by decide +kernel
theorem dX7_init_4 : decode cX7_init 4 = .ok (.aload_n 0, 1) := by decide +kernel
theorem dX7_init_5 : decode cX7_init 5 = .ok (.iconst 0, 1) := by decide +kernel
theorem dX7_init_6 : decode cX7_init 6 = .ok (.putfield 7, 3) := by decide +kernel
theorem dX7_init_9 : decode cX7_init 9 = .ok (.aload_n 0, 1) := by decide +kernel
theorem dX7_init_10 : decode cX7_init 10 = .ok (.iconst 0, 1) := by decide +kernel
theorem dX7_init_11 : decode cX7_init 11 = .ok (.putfield 13, 3) := by decide +kernel
theorem dX7_init_14 : decode cX7_init 14 = .ok (.aload_n 0, 1) := by decide +kernel
theorem dX7_init_15 : decode cX7_init 15 = .ok (.bipush 7, 2) := by decide +kernel
theorem dX7_init_17 : decode cX7_init 17 = .ok (.newarray .int, 2) := by decide +kernel
theorem dX7_init_19 : decode cX7_init 19 = .ok (.putfield 16, 3) := by decide +kernel
theorem dX7_init_22 : decode cX7_init 22 = .ok (.aload_n 0, 1) := by decide +kernel
theorem dX7_init_23 : decode cX7_init 23 = .ok (.bipush 7, 2) := by decide +kernel
theorem dX7_init_25 : decode cX7_init 25 = .ok (.newarray .int, 2) := by decide +kernel
theorem dX7_init_27 : decode cX7_init 27 = .ok (.putfield 20, 3) := by decide +kernel
theorem dX7_init_30 : decode cX7_init 30 = .ok (.aload_n 0, 1) := by decide +kernel
theorem dX7_init_31 : decode cX7_init 31 = .ok (.bipush 7, 2) := by decide +kernel
theorem dX7_init_33 : decode cX7_init 33 = .ok (.newarray .int, 2) := by decide +kernel
theorem dX7_init_35 : decode cX7_init 35 = .ok (.putfield 23, 3) := by decide +kernel
theorem dX7_init_38 : decode cX7_init 38 = .ok (.aload_n 0, 1) := by decide +kernel
theorem dX7_init_39 : decode cX7_init 39 = .ok (.bipush 7, 2) := by decide +kernel
theorem dX7_init_41 : decode cX7_init 41 = .ok (.newarray .int, 2) := by decide +kernel
theorem dX7_init_43 : decode cX7_init 43 = .ok (.putfield 26, 3) := by decide +kernel
theorem dX7_init_46 : decode cX7_init 46 = .ok (.aload_n 0, 1) := by decide +kernel
theorem dX7_init_47 : decode cX7_init 47 = .ok (.bipush 49, 2) := by decide +kernel
theorem dX7_init_49 : decode cX7_init 49 = .ok (.newarray .int, 2) := by decide +kernel
theorem dX7_init_51 : decode cX7_init 51 = .ok (.putfield 29, 3) := by decide +kernel
theorem dX7_init_54 : decode cX7_init 54 = .ok (.aload_n 0, 1) := by decide +kernel
theorem dX7_init_55 : decode cX7_init 55 = .ok (.bipush 8, 2) := by decide +kernel
theorem dX7_init_57 : decode cX7_init 57 = .ok (.newarray .int, 2) := by decide +kernel
theorem dX7_init_59 : decode cX7_init 59 = .ok (.putfield 32, 3) := by decide +kernel
theorem dX7_init_62 : decode cX7_init 62 = .ok (.aload_n 0, 1) := by decide +kernel
theorem dX7_init_63 : decode cX7_init 63 = .ok (.bipush 8, 2) := by decide +kernel
theorem dX7_init_65 : decode cX7_init 65 = .ok (.newarray .int, 2) := by decide +kernel
theorem dX7_init_67 : decode cX7_init 67 = .ok (.putfield 35, 3) := by decide +kernel
theorem dX7_init_70 : decode cX7_init 70 = .ok (.aload_n 0, 1) := by decide +kernel
theorem dX7_init_71 : decode cX7_init 71 = .ok (.bipush 8, 2) := by decide +kernel
theorem dX7_init_73 : decode cX7_init 73 = .ok (.newarray .int, 2) := by decide +kernel
theorem dX7_init_75 : decode cX7_init 75 = .ok (.putfield 38, 3) := by decide +kernel
theorem dX7_init_78 : decode cX7_init 78 = .ok (.aload_n 0, 1) := by decide +kernel
theorem dX7_init_79 : decode cX7_init 79 = .ok (.iconst 0, 1) := by decide +kernel
theorem dX7_init_80 : decode cX7_init 80 = .ok (.putfield 41, 3) := by decide +kernel
theorem dX7_init_83 : decode cX7_init 83 = .ok (.aload_n 0, 1) := by decide +kernel
theorem dX7_init_84 : decode cX7_init 84 = .ok (.iconst (-1), 1) := by decide +kernel
theorem dX7_init_85 : decode cX7_init 85 = .ok (.putfield 44, 3) := by decide +kernel
theorem dX7_init_88 : decode cX7_init 88 = .ok (.aload_n 0, 1) := by decide +kernel
theorem dX7_init_89 : decode cX7_init 89 = .ok (.iconst 0, 1) := by decide +kernel
theorem dX7_init_90 : decode cX7_init 90 = .ok (.putfield 47, 3) := by decide +kernel
theorem dX7_init_93 : decode cX7_init 93 = .ok (.aload_n 0, 1) := by decide +kernel
theorem dX7_init_94 : decode cX7_init 94 = .ok (.iconst 0, 1) := by decide +kernel
theorem dX7_init_95 : decode cX7_init 95 = .ok (.putfield 50, 3) := by decide +kernel
theorem dX7_init_98 : decode cX7_init 98 = .ok (.aload_n 0, 1) := by decide +kernel
theorem dX7_init_99 : decode cX7_init 99 = .ok (.iconst 0, 1) := by decide +kernel
theorem dX7_init_100 : decode cX7_init 100 = .ok (.putfield 53, 3) := by decide +kernel
theorem dX7_init_103 : decode cX7_init 103 = .ok (.aload_n 0, 1) := by decide +kernel
theorem dX7_init_104 : decode cX7_init 104 = .ok (.bipush 100, 2) := by decide +kernel
theorem dX7_init_106 : decode cX7_init 106 = .ok (.newarray .int, 2) := by decide +kernel
theorem dX7_init_108 : decode cX7_init 108 = .ok (.putfield 56, 3) := by decide +kernel
theorem dX7_init_111 : decode cX7_init 111 = .ok (.aload_n 0, 1) := by decide +kernel
theorem dX7_init_112 : decode cX7_init 112 = .ok (.bipush 6, 2) := by decide +kernel
theorem dX7_init_114 : decode cX7_init 114 = .ok (.newarray .int, 2) := by decide +kernel
theorem dX7_init_116 : decode cX7_init 116 = .ok (.putfield 59, 3) := by decide +kernel
theorem dX7_init_119 : decode cX7_init 119 = .ok (.aload_n 0, 1) := by decide +kernel
theorem dX7_init_120 : decode cX7_init 120 = .ok (.bipush 60, 2) := by decide +kernel
theorem dX7_init_122 : decode cX7_init 122 = .ok (.newarray .int, 2) := by decide +kernel
theorem dX7_init_124 : decode cX7_init 124 = .ok (.putfield 62, 3) := by decide +kernel
theorem dX7_init_127 : decode cX7_init 127 = .ok (.aload_n 0, 1) := by decide +kernel
theorem dX7_init_128 : decode cX7_init 128 = .ok (.bipush 60, 2) := by decide +kernel
theorem dX7_init_130 : decode cX7_init 130 = .ok (.newarray .int, 2) := by decide +kernel
theorem dX7_init_132 : decode cX7_init 132 = .ok (.putfield 65, 3) := by decide +kernel
theorem dX7_init_135 : decode cX7_init 135 = .ok (.aload_n 0, 1) := by decide +kernel
theorem dX7_init_136 : decode cX7_init 136 = .ok (.bipush 60, 2) := by decide +kernel
theorem dX7_init_138 : decode cX7_init 138 = .ok (.newarray .int, 2) := by decide +kernel
theorem dX7_init_140 : decode cX7_init 140 = .ok (.putfield 68, 3) := by decide +kernel
theorem dX7_init_143 : decode cX7_init 143 = .ok (.aload_n 0, 1) := by decide +kernel
theorem dX7_init_144 : decode cX7_init 144 = .ok (.bipush 60, 2) := by decide +kernel
theorem dX7_init_146 : decode cX7_init 146 = .ok (.newarray .int, 2) := by decide +kernel
theorem dX7_init_148 : decode cX7_init 148 = .ok (.putfield 71, 3) := by decide +kernel
theorem dX7_init_151 : decode cX7_init 151 = .ok (.aload_n 0, 1) := by decide +kernel
theorem dX7_init_152 : decode cX7_init 152 = .ok (.sipush 600, 3) := by decide +kernel
theorem dX7_init_155 : decode cX7_init 155 = .ok (.newarray .int, 2) := by decide +kernel
theorem dX7_init_157 : decode cX7_init 157 = .ok (.putfield 74, 3) := by decide +kernel
theorem dX7_init_160 : decode cX7_init 160 = .ok (.aload_n 0, 1) := by decide +kernel
theorem dX7_init_161 : decode cX7_init 161 = .ok (.bipush 101, 2) := by decide +kernel
theorem dX7_init_163 : decode cX7_init 163 = .ok (.newarray .int, 2) := by decide +kernel
theorem dX7_init_165 : decode cX7_init 165 = .ok (.putfield 77, 3) := by decide +kernel
theorem dX7_init_168 : decode cX7_init 168 = .ok (.aload_n 0, 1) := by decide +kernel
theorem dX7_init_169 : decode cX7_init 169 = .ok (.iconst 0, 1) := by decide +kernel
theorem dX7_init_170 : decode cX7_init 170 = .ok (.putfield 80, 3) := by decide +kernel
theorem dX7_init_173 : decode cX7_init 173 = .ok (.aload_n 0, 1) := by decide +kernel
theorem dX7_init_174 : decode cX7_init 174 = .ok (.iconst 0, 1) := by decide +kernel
theorem dX7_init_175 : decode cX7_init 175 = .ok (.putfield 83, 3) := by decide +kernel
theorem dX7_init_178 : decode cX7_init 178 = .ok (.aload_n 0, 1) := by decide +kernel
theorem dX7_init_179 : decode cX7_init 179 = .ok (.iconst 0, 1) := by decide +kernel
theorem dX7_init_180 : decode cX7_init 180 = .ok (.putfield 86, 3) := by decide +kernel
theorem dX7_init_183 : decode cX7_init 183 = .ok (.aload_n 0, 1) := by decide +kernel
theorem dX7_init_184 : decode cX7_init 184 = .ok (.bipush 12, 2) := by decide +kernel
theorem dX7_init_186 : decode cX7_init 186 = .ok (.newarray .int, 2) := by decide +kernel
theorem dX7_init_188 : decode cX7_init 188 = .ok (.dup, 1) := by decide +kernel
theorem dX7_init_189 : decode cX7_init 189 = .ok (.iconst 0, 1) := by decide +kernel
theorem dX7_init_190 : decode cX7_init 190 = .ok (.bipush 103, 2) := by decide +kernel
theorem dX7_init_192 : decode cX7_init 192 = .ok (.iastore, 1) := by decide +kernel
theorem dX7_init_193 : decode cX7_init 193 = .ok (.dup, 1) := by decide +kernel
theorem dX7_init_194 : decode cX7_init 194 = .ok (.iconst 1, 1) := by decide +kernel
theorem dX7_init_195 : decode cX7_init 195 = .ok (.bipush 114, 2) := by decide +kernel
theorem dX7_init_197 : decode cX7_init 197 = .ok (.iastore, 1) := by decide +kernel
theorem dX7_init_198 : decode cX7_init 198 = .ok (.dup, 1) := by decide +kernel
theorem dX7_init_199 : decode cX7_init 199 = .ok (.iconst 2, 1) := by decide +kernel
theorem dX7_init_200 : decode cX7_init 200 = .ok (.bipush 101, 2) := by decide +kernel
theorem dX7_init_202 : decode cX7_init 202 = .ok (.iastore, 1) := by decide +kernel
theorem dX7_init_203 : decode cX7_init 203 = .ok (.dup, 1) := by decide +kernel
theorem dX7_init_204 : decode cX7_init 204 = .ok (.iconst 3, 1) := by decide +kernel
theorem dX7_init_205 : decode cX7_init 205 = .ok (.bipush 97, 2) := by decide +kernel
theorem dX7_init_207 : decode cX7_init 207 = .ok (.iastore, 1) := by decide +kernel
theorem dX7_init_208 : decode cX7_init 208 = .ok (.dup, 1) := by decide +kernel
theorem dX7_init_209 : decode cX7_init 209 = .ok (.iconst 4, 1) := by decide +kernel
theorem dX7_init_210 : decode cX7_init 210 = .ok (.bipush 116, 2) := by decide +kernel
theorem dX7_init_212 : decode cX7_init 212 = .ok (.iastore, 1) := by decide +kernel
theorem dX7_init_213 : decode cX7_init 213 = .ok (.dup, 1) := by decide +kernel
theorem dX7_init_214 : decode cX7_init 214 = .ok (.iconst 5, 1) := by decide +kernel
theorem dX7_init_215 : decode cX7_init 215 = .ok (.bipush 102, 2) := by decide +kernel
theorem dX7_init_217 : decode cX7_init 217 = .ok (.iastore, 1) := by decide +kernel
theorem dX7_init_218 : decode cX7_init 218 = .ok (.dup, 1) := by decide +kernel
theorem dX7_init_219 : decode cX7_init 219 = .ok (.bipush 6, 2) := by decide +kernel
theorem dX7_init_221 : decode cX7_init 221 = .ok (.bipush 97, 2) := by decide +kernel
theorem dX7_init_223 : decode cX7_init 223 = .ok (.iastore, 1) := by decide +kernel
theorem dX7_init_224 : decode cX7_init 224 = .ok (.dup, 1) := by decide +kernel
theorem dX7_init_225 : decode cX7_init 225 = .ok (.bipush 7, 2) := by decide +kernel
theorem dX7_init_227 : decode cX7_init 227 = .ok (.bipush 114, 2) := by decide +kernel
theorem dX7_init_229 : decode cX7_init 229 = .ok (.iastore, 1) := by decide +kernel
theorem dX7_init_230 : decode cX7_init 230 = .ok (.dup, 1) := by decide +kernel
theorem dX7_init_231 : decode cX7_init 231 = .ok (.bipush 8, 2) := by decide +kernel
theorem dX7_init_233 : decode cX7_init 233 = .ok (.bipush 97, 2) := by decide +kernel
theorem dX7_init_235 : decode cX7_init 235 = .ok (.iastore, 1) := by decide +kernel
theorem dX7_init_236 : decode cX7_init 236 = .ok (.dup, 1) := by decide +kernel
theorem dX7_init_237 : decode cX7_init 237 = .ok (.bipush 9, 2) := by decide +kernel
theorem dX7_init_239 : decode cX7_init 239 = .ok (.bipush 114, 2) := by decide +kernel
theorem dX7_init_241 : decode cX7_init 241 = .ok (.iastore, 1) := by decide +kernel
theorem dX7_init_242 : decode cX7_init 242 = .ok (.dup, 1) := by decide +kernel
theorem dX7_init_243 : decode cX7_init 243 = .ok (.bipush 10, 2) := by decide +kernel
theorem dX7_init_245 : decode cX7_init 245 = .ok (.bipush 109, 2) := by decide +kernel
theorem dX7_init_247 : decode cX7_init 247 = .ok (.iastore, 1) := by decide +kernel
theorem dX7_init_248 : decode cX7_init 248 = .ok (.dup, 1) := by decide +kernel
theorem dX7_init_249 : decode cX7_init 249 = .ok (.bipush 11, 2) := by decide +kernel
theorem dX7_init_251 : decode cX7_init 251 = .ok (.bipush 115, 2) := by decide +kernel
theorem dX7_init_253 : decode cX7_init 253 = .ok (.iastore, 1) := by decide +kernel
theorem dX7_init_254 : decode cX7_init 254 = .ok (.putfield 89, 3) := by decide +kernel
theorem dX7_init_257 : decode cX7_init 257 = .ok (.aload_n 0, 1) := by decide +kernel
theorem dX7_init_258 : decode cX7_init 258 = .ok (.bipush 100, 2) := by decide +kernel
theorem dX7_init_260 : decode cX7_init 260 = .ok (.newarray .boolean, 2) := by decide +kernel
theorem dX7_init_262 : decode cX7_init 262 = .ok (.putfield 92, 3) := by decide +kernel
theorem dX7_init_265 : decode cX7_init 265 = .ok (.aload_n 0, 1) := by decide +kernel
theorem dX7_init_266 : decode cX7_init 266 = .ok (.bipush 49, 2) := by decide +kernel
theorem dX7_init_268 : decode cX7_init 268 = .ok (.newarray .int, 2) := by decide +kernel
theorem dX7_init_270 : decode cX7_init 270 = .ok (.putfield 96, 3) := by decide +kernel
theorem dX7_init_273 : decode cX7_init 273 = .ok (.aload_n 0, 1) := by decide +kernel
theorem dX7_init_274 : decode cX7_init 274 = .ok (.bipush 49, 2) := by decide +kernel
theorem dX7_init_276 : decode cX7_init 276 = .ok (.newarray .int, 2) := by decide +kernel
theorem dX7_init_278 : decode cX7_init 278 = .ok (.putfield 99, 3) := by decide +kernel
theorem dX7_init_281 : decode cX7_init 281 = .ok (.aload_n 0, 1) := by decide +kernel
theorem dX7_init_282 : decode cX7_init 282 = .ok (.bipush 7, 2) := by decide +kernel
theorem dX7_init_284 : decode cX7_init 284 = .ok (.newarray .int, 2) := by decide +kernel
theorem dX7_init_286 : decode cX7_init 286 = .ok (.putfield 102, 3) := by decide +kernel
theorem dX7_init_289 : decode cX7_init 289 = .ok (.aload_n 0, 1) := by decide +kernel
theorem dX7_init_290 : decode cX7_init 290 = .ok (.bipush 7, 2) := by decide +kernel
theorem dX7_init_292 : decode cX7_init 292 = .ok (.newarray .int, 2) := by decide +kernel
theorem dX7_init_294 : decode cX7_init 294 = .ok (.putfield 105, 3) := by decide +kernel
theorem dX7_init_297 : decode cX7_init 297 = .ok (.aload_n 0, 1) := by decide +kernel
theorem dX7_init_298 : decode cX7_init 298 = .ok (.iconst (-1), 1) := by decide +kernel
theorem dX7_init_299 : decode cX7_init 299 = .ok (.putfield 108, 3) := by decide +kernel
theorem dX7_init_302 : decode cX7_init 302 = .ok (.aload_n 0, 1) := by decide +kernel
theorem dX7_init_303 : decode cX7_init 303 = .ok (.iconst (-1), 1) := by decide +kernel
theorem dX7_init_304 : decode cX7_init 304 = .ok (.putfield 111, 3) := by decide +kernel
theorem dX7_init_307 : decode cX7_init 307 = .ok (.aload_n 0, 1) := by decide +kernel
theorem dX7_init_308 : decode cX7_init 308 = .ok (.iconst 0, 1) := by decide +kernel
theorem dX7_init_309 : decode cX7_init 309 = .ok (.putfield 114, 3) := by decide +kernel
theorem dX7_init_312 : decode cX7_init 312 = .ok (.aload_n 0, 1) := by decide +kernel
theorem dX7_init_313 : decode cX7_init 313 = .ok (.iconst 0, 1) := by decide +kernel
theorem dX7_init_314 : decode cX7_init 314 = .ok (.putfield 117, 3) := by decide +kernel
theorem dX7_init_317 : decode cX7_init 317 = .ok (.aload_n 0, 1) := by decide +kernel
theorem dX7_init_318 : decode cX7_init 318 = .ok (.iconst 0, 1) := by decide +kernel
theorem dX7_init_319 : decode cX7_init 319 = .ok (.putfield 120, 3) := by decide +kernel
theorem dX7_init_322 : decode cX7_init 322 = .ok (.aload_n 0, 1) := by decide +kernel
theorem dX7_init_323 : decode cX7_init 323 = .ok (.bipush 7, 2) := by decide +kernel
theorem dX7_init_325 : decode cX7_init 325 = .ok (.newarray .long, 2) := by decide +kernel
theorem dX7_init_327 : decode cX7_init 327 = .ok (.putfield 123, 3) := by decide +kernel
theorem dX7_init_330 : decode cX7_init 330 = .ok (.aload_n 0, 1) := by decide +kernel
theorem dX7_init_331 : decode cX7_init 331 = .ok (.bipush 7, 2) := by decide +kernel
theorem dX7_init_333 : decode cX7_init 333 = .ok (.newarray .long, 2) := by decide +kernel
theorem dX7_init_335 : decode cX7_init 335 = .ok (.putfield 127, 3) := by decide +kernel
theorem dX7_init_338 : decode cX7_init 338 = .ok (.aload_n 0, 1) := by decide +kernel
theorem dX7_init_339 : decode cX7_init 339 = .ok (.iconst 0, 1) := by decide +kernel
theorem dX7_init_340 : decode cX7_init 340 = .ok (.putfield 130, 3) := by decide +kernel
theorem dX7_init_343 : decode cX7_init 343 = .ok (.aload_n 0, 1) := by decide +kernel
theorem dX7_init_344 : decode cX7_init 344 = .ok (.bipush 12, 2) := by decide +kernel
theorem dX7_init_346 : decode cX7_init 346 = .ok (.newarray .int, 2) := by decide +kernel
theorem dX7_init_348 : decode cX7_init 348 = .ok (.putfield 133, 3) := by decide +kernel
theorem dX7_init_351 : decode cX7_init 351 = .ok (.aload_n 0, 1) := by decide +kernel
theorem dX7_init_352 : decode cX7_init 352 = .ok (.iconst 0, 1) := by decide +kernel
theorem dX7_init_353 : decode cX7_init 353 = .ok (.putfield 136, 3) := by decide +kernel
theorem dX7_init_356 : decode cX7_init 356 = .ok (.aload_n 0, 1) := by decide +kernel
theorem dX7_init_357 : decode cX7_init 357 = .ok (.iconst (-1), 1) := by decide +kernel
theorem dX7_init_358 : decode cX7_init 358 = .ok (.putfield 140, 3) := by decide +kernel
theorem dX7_init_361 : decode cX7_init 361 = .ok (.aload_n 0, 1) := by decide +kernel
theorem dX7_init_362 : decode cX7_init 362 = .ok (.iconst 0, 1) := by decide +kernel
theorem dX7_init_363 : decode cX7_init 363 = .ok (.putfield 143, 3) := by decide +kernel
theorem dX7_init_366 : decode cX7_init 366 = .ok (.aload_n 0, 1) := by decide +kernel
theorem dX7_init_367 : decode cX7_init 367 = .ok (.iconst 0, 1) := by decide +kernel
theorem dX7_init_368 : decode cX7_init 368 = .ok (.putfield 146, 3) := by decide +kernel
theorem dX7_init_371 : decode cX7_init 371 = .ok (.aload_n 0, 1) := by decide +kernel
theorem dX7_init_372 : decode cX7_init 372 = .ok (.iconst 0, 1) := by decide +kernel
theorem dX7_init_373 : decode cX7_init 373 = .ok (.putfield 149, 3) := by decide +kernel
theorem dX7_init_376 : decode cX7_init 376 = .ok (.aload_n 0, 1) := by decide +kernel
theorem dX7_init_377 : decode cX7_init 377 = .ok (.bipush 7, 2) := by decide +kernel
theorem dX7_init_379 : decode cX7_init 379 = .ok (.newarray .int, 2) := by decide +kernel
theorem dX7_init_381 : decode cX7_init 381 = .ok (.putfield 152, 3) := by decide +kernel
theorem dX7_init_384 : decode cX7_init 384 = .ok (.aload_n 0, 1) := by decide +kernel
theorem dX7_init_385 : decode cX7_init 385 = .ok (.bipush 7, 2) := by decide +kernel
theorem dX7_init_387 : decode cX7_init 387 = .ok (.newarray .int, 2) := by decide +kernel
theorem dX7_init_389 : decode cX7_init 389 = .ok (.putfield 155, 3) := by decide +kernel
theorem dX7_init_392 : decode cX7_init 392 = .ok (.aload_n 0, 1) := by decide +kernel
theorem dX7_init_393 : decode cX7_init 393 = .ok (.bipush 7, 2) := by decide +kernel
theorem dX7_init_395 : decode cX7_init 395 = .ok (.newarray .int, 2) := by decide +kernel
theorem dX7_init_397 : decode cX7_init 397 = .ok (.putfield 158, 3) := by decide +kernel
theorem dX7_init_400 : decode cX7_init 400 = .ok (.aload_n 0, 1) := by decide +kernel
theorem dX7_init_401 : decode cX7_init 401 = .ok (.bipush 7, 2) := by decide +kernel
theorem dX7_init_403 : decode cX7_init 403 = .ok (.newarray .int, 2) := by decide +kernel
theorem dX7_init_405 : decode cX7_init 405 = .ok (.putfield 161, 3) := by decide +kernel
theorem dX7_init_408 : decode cX7_init 408 = .ok (.aload_n 0, 1) := by decide +kernel
theorem dX7_init_409 : decode cX7_init 409 = .ok (.bipush 49, 2) := by decide +kernel
theorem dX7_init_411 : decode cX7_init 411 = .ok (.newarray .int, 2) := by decide +kernel
theorem dX7_init_413 : decode cX7_init 413 = .ok (.putfield 164, 3) := by decide +kernel
theorem dX7_init_416 : decode cX7_init 416 = .ok (.aload_n 0, 1) := by decide +kernel
theorem dX7_init_417 : decode cX7_init 417 = .ok (.bipush 8, 2) := by decide +kernel
theorem dX7_init_419 : decode cX7_init 419 = .ok (.newarray .int, 2) := by decide +kernel
theorem dX7_init_421 : decode cX7_init 421 = .ok (.putfield 167, 3) := by decide +kernel
theorem dX7_init_424 : decode cX7_init 424 = .ok (.aload_n 0, 1) := by decide +kernel
theorem dX7_init_425 : decode cX7_init 425 = .ok (.bipush 8, 2) := by decide +kernel
theorem dX7_init_427 : decode cX7_init 427 = .ok (.newarray .int, 2) := by decide +kernel
theorem dX7_init_429 : decode cX7_init 429 = .ok (.putfield 170, 3) := by decide +kernel
theorem dX7_init_432 : decode cX7_init 432 = .ok (.aload_n 0, 1) := by decide +kernel
theorem dX7_init_433 : decode cX7_init 433 = .ok (.bipush 8, 2) := by decide +kernel
theorem dX7_init_435 : decode cX7_init 435 = .ok (.newarray .int, 2) := by decide +kernel
theorem dX7_init_437 : decode cX7_init 437 = .ok (.putfield 173, 3) := by decide +kernel
theorem dX7_init_440 : decode cX7_init 440 = .ok (.aload_n 0, 1) := by decide +kernel
theorem dX7_init_441 : decode cX7_init 441 = .ok (.bipush 12, 2) := by decide +kernel
theorem dX7_init_443 : decode cX7_init 443 = .ok (.newarray .int, 2) := by decide +kernel
theorem dX7_init_445 : decode cX7_init 445 = .ok (.putfield 176, 3) := by decide +kernel
theorem dX7_init_448 : decode cX7_init 448 = .ok (.aload_n 0, 1) := by decide +kernel
theorem dX7_init_449 : decode cX7_init 449 = .ok (.iconst 0, 1) := by decide +kernel
theorem dX7_init_450 : decode cX7_init 450 = .ok (.putfield 179, 3) := by decide +kernel
theorem dX7_init_453 : decode cX7_init 453 = .ok (.aload_n 0, 1) := by decide +kernel
theorem dX7_init_454 : decode cX7_init 454 = .ok (.bipush 20, 2) := by decide +kernel
theorem dX7_init_456 : decode cX7_init 456 = .ok (.newarray .int, 2) := by decide +kernel
theorem dX7_init_458 : decode cX7_init 458 = .ok (.putfield 182, 3) := by decide +kernel
theorem dX7_init_461 : decode cX7_init 461 = .ok (.aload_n 0, 1) := by decide +kernel
theorem dX7_init_462 : decode cX7_init 462 = .ok (.bipush 6, 2) := by decide +kernel
theorem dX7_init_464 : decode cX7_init 464 = .ok (.newarray .int, 2) := by decide +kernel
theorem dX7_init_466 : decode cX7_init 466 = .ok (.dup, 1) := by decide +kernel
theorem dX7_init_467 : decode cX7_init 467 = .ok (.iconst 0, 1) := by decide +kernel
theorem dX7_init_468 : decode cX7_init 468 = .ok (.iconst (-1), 1) := by decide +kernel
theorem dX7_init_469 : decode cX7_init 469 = .ok (.iastore, 1) := by decide +kernel
theorem dX7_init_470 : decode cX7_init 470 = .ok (.dup, 1) := by decide +kernel
theorem dX7_init_471 : decode cX7_init 471 = .ok (.iconst 1, 1) := by decide +kernel
theorem dX7_init_472 : decode cX7_init 472 = .ok (.iconst (-1), 1) := by decide +kernel
theorem dX7_init_473 : decode cX7_init 473 = .ok (.iastore, 1) := by decide +kernel
theorem dX7_init_474 : decode cX7_init 474 = .ok (.dup, 1) := by decide +kernel
theorem dX7_init_475 : decode cX7_init 475 = .ok (.iconst 2, 1) := by decide +kernel
theorem dX7_init_476 : decode cX7_init 476 = .ok (.iconst (-1), 1) := by decide +kernel
theorem dX7_init_477 : decode cX7_init 477 = .ok (.iastore, 1) := by decide +kernel
theorem dX7_init_478 : decode cX7_init 478 = .ok (.dup, 1) := by decide +kernel
theorem dX7_init_479 : decode cX7_init 479 = .ok (.iconst 3, 1) := by decide +kernel
theorem dX7_init_480 : decode cX7_init 480 = .ok (.iconst (-1), 1) := by decide +kernel
theorem dX7_init_481 : decode cX7_init 481 = .ok (.iastore, 1) := by decide +kernel
theorem dX7_init_482 : decode cX7_init 482 = .ok (.dup, 1) := by decide +kernel
theorem dX7_init_483 : decode cX7_init 483 = .ok (.iconst 4, 1) := by decide +kernel
theorem dX7_init_484 : decode cX7_init 484 = .ok (.iconst (-1), 1) := by decide +kernel
theorem dX7_init_485 : decode cX7_init 485 = .ok (.iastore, 1) := by decide +kernel
theorem dX7_init_486 : decode cX7_init 486 = .ok (.dup, 1) := by decide +kernel
theorem dX7_init_487 : decode cX7_init 487 = .ok (.iconst 5, 1) := by decide +kernel
theorem dX7_init_488 : decode cX7_init 488 = .ok (.iconst (-1), 1) := by decide +kernel
theorem dX7_init_489 : decode cX7_init 489 = .ok (.iastore, 1) := by decide +kernel
theorem dX7_init_490 : decode cX7_init 490 = .ok (.putfield 185, 3) := by decide +kernel
theorem dX7_init_493 : decode cX7_init 493 = .ok (.aload_n 0, 1) := by decide +kernel
theorem dX7_init_494 : decode cX7_init 494 = .ok (.bipush 6, 2) := by decide +kernel
theorem dX7_init_496 : decode cX7_init 496 = .ok (.newarray .int, 2) := by decide +kernel
theorem dX7_init_498 : decode cX7_init 498 = .ok (.putfield 188, 3) := by decide +kernel
theorem dX7_init_501 : decode cX7_init 501 = .ok (.aload_n 0, 1) := by decide +kernel
theorem dX7_init_502 : decode cX7_init 502 = .ok (.sipush 360, 3) := by decide +kernel
theorem dX7_init_505 : decode cX7_init 505 = .ok (.newarray .long, 2) := by decide +kernel
theorem dX7_init_507 : decode cX7_init 507 = .ok (.putfield 191, 3) := by decide +kernel
theorem dX7_init_510 : decode cX7_init 510 = .ok (.aload_n 0, 1) := by decide +kernel
theorem dX7_init_511 : decode cX7_init 511 = .ok (.bipush 60, 2) := by decide +kernel
theorem dX7_init_513 : decode cX7_init 513 = .ok (.newarray .long, 2) := by decide +kernel
theorem dX7_init_515 : decode cX7_init 515 = .ok (.putfield 194, 3) := by decide +kernel
theorem dX7_init_518 : decode cX7_init 518 = .ok (.return_, 1) := by decide +kernel
theorem dX7_in_0 : decode cX7_in 0 = .ok (.iload_n 1, 1) := by decide +kernel
theorem dX7_in_1 : decode cX7_in 1 = .ok (.iload_n 2, 1) := by decide +kernel
theorem dX7_in_2 : decode cX7_in 2 = .ok (.if_icmp .lt 12, 3) := by decide +kernel
theorem dX7_in_5 : decode cX7_in 5 = .ok (.iload_n 1, 1) := by decide +kernel
theorem dX7_in_6 : decode cX7_in 6 = .ok (.iload_n 3, 1) := by decide +kernel
theorem dX7_in_7 : decode cX7_in 7 = .ok (.if_icmp .gt 7, 3) := by decide +kernel
theorem dX7_in_10 : decode cX7_in 10 = .ok (.iconst 1, 1) := by decide +kernel
theorem dX7_in_11 : decode cX7_in 11 = .ok (.goto 4, 3) := by decide +kernel
theorem dX7_in_14 : decode cX7_in 14 = .ok (.iconst 0, 1) := by decide +kernel
theorem dX7_in_15 : decode cX7_in 15 = .ok (.ireturn, 1) := by decide +kernel
theorem dX7_has_0 : decode cX7_has 0 = .ok (.iload_n 1, 1) := by decide +kernel
theorem dX7_has_1 : decode cX7_has 1 = .ok (.iload_n 2, 1) := by decide +kernel
theorem dX7_has_2 : decode cX7_has 2 = .ok (.ishr, 1) := by decide +kernel
theorem dX7_has_3 : decode cX7_has 3 = .ok (.iconst 1, 1) := by decide +kernel
theorem dX7_has_4 : decode cX7_has 4 = .ok (.iand, 1) := by decide +kernel
theorem dX7_has_5 : decode cX7_has 5 = .ok (.iconst 1, 1) := by decide +kernel
theorem dX7_has_6 : decode cX7_has 6 = .ok (.if_icmp .ne 7, 3) := by decide +kernel
theorem dX7_has_9 : decode cX7_has 9 = .ok (.iconst 1, 1) := by decide +kernel
theorem dX7_has_10 : decode cX7_has 10 = .ok (.goto 4, 3) := by decide +kernel
theorem dX7_has_13 : decode cX7_has 13 = .ok (.iconst 0, 1) := by decide +kernel
theorem dX7_has_14 : decode cX7_has 14 = .ok (.ireturn, 1) := by decide +kernel
theorem dX7_ones_0 : decode cX7_ones 0 = .ok (.iconst 0, 1) := by decide +kernel
theorem dX7_ones_1 : decode cX7_ones 1 = .ok (.istore_n 2, 1) := by decide +kernel
theorem dX7_ones_2 : decode cX7_ones 2 = .ok (.iload_n 1, 1) := by decide +kernel
theorem dX7_ones_3 : decode cX7_ones 3 = .ok (.istore_n 3, 1) := by decide +kernel
theorem dX7_ones_4 : decode cX7_ones 4 = .ok (.iload_n 3, 1) := by decide +kernel
theorem dX7_ones_5 : decode cX7_ones 5 = .ok (.ifCond .eq 15, 3) := by decide +kernel
theorem dX7_ones_8 : decode cX7_ones 8 = .ok (.iinc 2 1, 3) := by decide +kernel
theorem dX7_ones_11 : decode cX7_ones 11 = .ok (.iload_n 3, 1) := by decide +kernel
theorem dX7_ones_12 : decode cX7_ones 12 = .ok (.iload_n 3, 1) := by decide +kernel
theorem dX7_ones_13 : decode cX7_ones 13 = .ok (.iconst 1, 1) := by decide +kernel
theorem dX7_ones_14 : decode cX7_ones 14 = .ok (.isub, 1) := by decide +kernel
theorem dX7_ones_15 : decode cX7_ones 15 = .ok (.iand, 1) := by decide +kernel
theorem dX7_ones_16 : decode cX7_ones 16 = .ok (.istore_n 3, 1) := by decide +kernel
theorem dX7_ones_17 : decode cX7_ones 17 = .ok (.goto (-13), 3) := by decide +kernel
theorem dX7_ones_20 : decode cX7_ones 20 = .ok (.iload_n 2, 1) := by decide +kernel
theorem dX7_ones_21 : decode cX7_ones 21 = .ok (.ireturn, 1) := by decide +kernel
theorem dX7_isPlace_0 : decode cX7_isPlace 0 = .ok (.aload_n 0, 1) := by decide +kernel
theorem dX7_isPlace_1 : decode cX7_isPlace 1 = .ok (.iload_n 1, 1) := by decide +kernel
theorem dX7_isPlace_2 : decode cX7_isPlace 2 = .ok (.iconst 0, 1) := by decide +kernel
theorem dX7_isPlace_3 : decode cX7_isPlace 3 = .ok (.aload_n 0, 1) := by decide +kernel
theorem dX7_isPlace_4 : decode cX7_isPlace 4 = .ok (.getfield 7, 3) := by decide +kernel
theorem dX7_isPlace_7 : decode cX7_isPlace 7 = .ok (.iconst 1, 1) := by decide +kernel
theorem dX7_isPlace_8 : decode cX7_isPlace 8 = .ok (.isub, 1) := by decide +kernel
theorem dX7_isPlace_9 : decode cX7_isPlace 9 = .ok (.invokevirtual 197, 3) := by decide +kernel
theorem dX7_isPlace_12 : decode cX7_isPlace 12 = .ok (.ireturn, 1) := by decide +kernel
theorem dX7_arePlaces_0 : decode cX7_arePlaces 0 = .ok (.aload_n 0, 1) := by decide +kernel
theorem dX7_arePlaces_1 : decode cX7_arePlaces 1 = .ok (.iload_n 1, 1) := by decide +kernel
theorem dX7_arePlaces_2 : decode cX7_arePlaces 2 = .ok (.invokevirtual 201, 3) := by decide +kernel
theorem dX7_arePlaces_5 : decode cX7_arePlaces 5 = .ok (.ifCond .eq 15, 3) := by decide +kernel
theorem dX7_arePlaces_8 : decode cX7_arePlaces 8 = .ok (.aload_n 0, 1) := by decide +kernel
theorem dX7_arePlaces_9 : decode cX7_arePlaces 9 = .ok (.iload_n 2, 1) := by decide +kernel
theorem dX7_arePlaces_10 : decode cX7_arePlaces 10 = .ok (.invokevirtual 201, 3) := by decide +kernel
theorem dX7_arePlaces_13 : decode cX7_arePlaces 13 = .ok (.ifCond .eq 7, 3) := by decide +kernel
theorem dX7_arePlaces_16 : decode cX7_arePlaces 16 = .ok (.iconst 1, 1) := by decide +kernel
theorem dX7_arePlaces_17 : decode cX7_arePlaces 17 = .ok (.goto 4, 3) := by decide +kernel
theorem dX7_arePlaces_20 : decode cX7_arePlaces 20 = .ok (.iconst 0, 1) := by decide +kernel
theorem dX7_arePlaces_21 : decode cX7_arePlaces 21 = .ok (.ireturn, 1) := by decide +kernel
theorem dX7_place_0 : decode cX7_place 0 = .ok (.aload_n 0, 1) := by decide +kernel
theorem dX7_place_1 : decode cX7_place 1 = .ok (.iload_n 1, 1) := by decide +kernel
theorem dX7_place_2 : decode cX7_place 2 = .ok (.iconst 0, 1) := by decide +kernel
theorem dX7_place_3 : decode cX7_place 3 = .ok (.bipush 6, 2) := by decide +kernel
theorem dX7_place_5 : decode cX7_place 5 = .ok (.invokevirtual 197, 3) := by decide +kernel
theorem dX7_place_8 : decode cX7_place 8 = .ok (.ifCond .ne 5, 3) := by decide +kernel
theorem dX7_place_11 : decode cX7_place 11 = .ok (.iconst (-1), 1) := by decide +kernel
theorem dX7_place_12 : decode cX7_place 12 = .ok (.ireturn, 1) := by decide +kernel
theorem dX7_place_13 : decode cX7_place 13 = .ok (.aload_n 0, 1) := by decide +kernel
theorem dX7_place_14 : decode cX7_place 14 = .ok (.iload_n 2, 1) := by decide +kernel
theorem dX7_place_15 : decode cX7_place 15 = .ok (.iconst 0, 1) := by decide +kernel
theorem dX7_place_16 : decode cX7_place 16 = .ok (.bipush 9, 2) := by decide +kernel
theorem dX7_place_18 : decode cX7_place 18 = .ok (.invokevirtual 197, 3) := by decide +kernel
theorem dX7_place_21 : decode cX7_place 21 = .ok (.ifCond .eq 14, 3) := by decide +kernel
theorem dX7_place_24 : decode cX7_place 24 = .ok (.aload_n 0, 1) := by decide +kernel
theorem dX7_place_25 : decode cX7_place 25 = .ok (.iload_n 3, 1) := by decide +kernel
theorem dX7_place_26 : decode cX7_place 26 = .ok (.iconst 0, 1) := by decide +kernel
theorem dX7_place_27 : decode cX7_place 27 = .ok (.bipush 99, 2) := by decide +kernel
theorem dX7_place_29 : decode cX7_place 29 = .ok (.invokevirtual 197, 3) := by decide +kernel
theorem dX7_place_32 : decode cX7_place 32 = .ok (.ifCond .ne 6, 3) := by decide +kernel
theorem dX7_place_35 : decode cX7_place 35 = .ok (.bipush (-2), 2) := by decide +kernel
theorem dX7_place_37 : decode cX7_place 37 = .ok (.ireturn, 1) := by decide +kernel
theorem dX7_place_38 : decode cX7_place 38 = .ok (.aload_n 0, 1) := by decide +kernel
theorem dX7_place_39 : decode cX7_place 39 = .ok (.getfield 7, 3) := by decide +kernel
theorem dX7_place_42 : decode cX7_place 42 = .ok (.bipush 7, 2) := by decide +kernel
theorem dX7_place_44 : decode cX7_place 44 = .ok (.if_icmp .ne 6, 3) := by decide +kernel
theorem dX7_place_47 : decode cX7_place 47 = .ok (.bipush (-4), 2) := by decide +kernel
theorem dX7_place_49 : decode cX7_place 49 = .ok (.ireturn, 1) := by decide +kernel
theorem dX7_place_50 : decode cX7_place 50 = .ok (.aload_n 0, 1) := by decide +kernel
theorem dX7_place_51 : decode cX7_place 51 = .ok (.getfield 16, 3) := by decide +kernel
theorem dX7_place_54 : decode cX7_place 54 = .ok (.aload_n 0, 1) := by decide +kernel
theorem dX7_place_55 : decode cX7_place 55 = .ok (.getfield 7, 3) := by decide +kernel
theorem dX7_place_58 : decode cX7_place 58 = .ok (.iload_n 1, 1) := by decide +kernel
theorem dX7_place_59 : decode cX7_place 59 = .ok (.iastore, 1) := by decide +kernel
theorem dX7_place_60 : decode cX7_place 60 = .ok (.aload_n 0, 1) := by decide +kernel
theorem dX7_place_61 : decode cX7_place 61 = .ok (.getfield 20, 3) := by decide +kernel
theorem dX7_place_64 : decode cX7_place 64 = .ok (.aload_n 0, 1) := by decide +kernel
theorem dX7_place_65 : decode cX7_place 65 = .ok (.getfield 7, 3) := by decide +kernel
theorem dX7_place_68 : decode cX7_place 68 = .ok (.iload_n 2, 1) := by decide +kernel
theorem dX7_place_69 : decode cX7_place 69 = .ok (.iastore, 1) := by decide +kernel
theorem dX7_place_70 : decode cX7_place 70 = .ok (.aload_n 0, 1) := by decide +kernel
theorem dX7_place_71 : decode cX7_place 71 = .ok (.getfield 23, 3) := by decide +kernel
theorem dX7_place_74 : decode cX7_place 74 = .ok (.aload_n 0, 1) := by decide +kernel
theorem dX7_place_75 : decode cX7_place 75 = .ok (.getfield 7, 3) := by decide +kernel
theorem dX7_place_78 : decode cX7_place 78 = .ok (.iload_n 3, 1) := by decide +kernel
theorem dX7_place_79 : decode cX7_place 79 = .ok (.iastore, 1) := by decide +kernel
theorem dX7_place_80 : decode cX7_place 80 = .ok (.aload_n 0, 1) := by decide +kernel
theorem dX7_place_81 : decode cX7_place 81 = .ok (.getfield 26, 3) := by decide +kernel
theorem dX7_place_84 : decode cX7_place 84 = .ok (.aload_n 0, 1) := by decide +kernel
theorem dX7_place_85 : decode cX7_place 85 = .ok (.getfield 7, 3) := by decide +kernel
theorem dX7_place_88 : decode cX7_place 88 = .ok (.iconst 0, 1) := by decide +kernel
theorem dX7_place_89 : decode cX7_place 89 = .ok (.iastore, 1) := by decide +kernel
theorem dX7_place_90 : decode cX7_place 90 = .ok (.iconst 0, 1) := by decide +kernel
theorem dX7_place_91 : decode cX7_place 91 = .ok (.istore 4, 2) := by decide +kernel
theorem dX7_place_93 : decode cX7_place 93 = .ok (.iload 4, 2) := by decide +kernel
theorem dX7_place_95 : decode cX7_place 95 = .ok (.bipush 7, 2) := by decide +kernel
theorem dX7_place_97 : decode cX7_place 97 = .ok (.if_icmp .ge 41, 3) := by decide +kernel
theorem dX7_place_100 : decode cX7_place 100 = .ok (.aload_n 0, 1) := by decide +kernel
theorem dX7_place_101 : decode cX7_place 101 = .ok (.getfield 29, 3) := by decide +kernel
theorem dX7_place_104 : decode cX7_place 104 = .ok (.bipush 7, 2) := by decide +kernel
theorem dX7_place_106 : decode cX7_place 106 = .ok (.aload_n 0, 1) := by decide +kernel
theorem dX7_place_107 : decode cX7_place 107 = .ok (.getfield 7, 3) := by decide +kernel
theorem dX7_place_110 : decode cX7_place 110 = .ok (.imul, 1) := by decide +kernel
theorem dX7_place_111 : decode cX7_place 111 = .ok (.iload 4, 2) := by decide +kernel
theorem dX7_place_113 : decode cX7_place 113 = .ok (.iadd, 1) := by decide +kernel
theorem dX7_place_114 : decode cX7_place 114 = .ok (.iconst 0, 1) := by decide +kernel
theorem dX7_place_115 : decode cX7_place 115 = .ok (.iastore, 1) := by decide +kernel
theorem dX7_place_116 : decode cX7_place 116 = .ok (.aload_n 0, 1) := by decide +kernel
theorem dX7_place_117 : decode cX7_place 117 = .ok (.getfield 29, 3) := by decide +kernel
theorem dX7_place_120 : decode cX7_place 120 = .ok (.bipush 7, 2) := by decide +kernel
theorem dX7_place_122 : decode cX7_place 122 = .ok (.iload 4, 2) := by decide +kernel
theorem dX7_place_124 : decode cX7_place 124 = .ok (.imul, 1) := by decide +kernel
theorem dX7_place_125 : decode cX7_place 125 = .ok (.aload_n 0, 1) := by decide +kernel
theorem dX7_place_126 : decode cX7_place 126 = .ok (.getfield 7, 3) := by decide +kernel
theorem dX7_place_129 : decode cX7_place 129 = .ok (.iadd, 1) := by decide +kernel
theorem dX7_place_130 : decode cX7_place 130 = .ok (.iconst 0, 1) := by decide +kernel
theorem dX7_place_131 : decode cX7_place 131 = .ok (.iastore, 1) := by decide +kernel
theorem dX7_place_132 : decode cX7_place 132 = .ok (.iinc 4 1, 3) := by decide +kernel
theorem dX7_place_135 : decode cX7_place 135 = .ok (.goto (-42), 3) := by decide +kernel
theorem dX7_place_138 : decode cX7_place 138 = .ok (.aload_n 0, 1) := by decide +kernel
theorem dX7_place_139 : decode cX7_place 139 = .ok (.dup, 1) := by decide +kernel
theorem dX7_place_140 : decode cX7_place 140 = .ok (.getfield 7, 3) := by decide +kernel
theorem dX7_place_143 : decode cX7_place 143 = .ok (.iconst 1, 1) := by decide +kernel
theorem dX7_place_144 : decode cX7_place 144 = .ok (.iadd, 1) := by decide +kernel
theorem dX7_place_145 : decode cX7_place 145 = .ok (.putfield 7, 3) := by decide +kernel
theorem dX7_place_148 : decode cX7_place 148 = .ok (.aload_n 0, 1) := by decide +kernel
theorem dX7_place_149 : decode cX7_place 149 = .ok (.getfield 7, 3) := by decide +kernel
theorem dX7_place_152 : decode cX7_place 152 = .ok (.iconst 1, 1) := by decide +kernel
theorem dX7_place_153 : decode cX7_place 153 = .ok (.isub, 1) := by decide +kernel
theorem dX7_place_154 : decode cX7_place 154 = .ok (.ireturn, 1) := by decide +kernel
theorem dX7_road_0 : decode cX7_road 0 = .ok (.aload_n 0, 1) := by decide +kernel
theorem dX7_road_1 : decode cX7_road 1 = .ok (.iload_n 1, 1) := by decide +kernel
theorem dX7_road_2 : decode cX7_road 2 = .ok (.iload_n 2, 1) := by decide +kernel
theorem dX7_road_3 : decode cX7_road 3 = .ok (.invokevirtual 205, 3) := by decide +kernel
theorem dX7_road_6 : decode cX7_road 6 = .ok (.ifCond .ne 5, 3) := by decide +kernel
theorem dX7_road_9 : decode cX7_road 9 = .ok (.iconst (-1), 1) := by decide +kernel
theorem dX7_road_10 : decode cX7_road 10 = .ok (.ireturn, 1) := by decide +kernel
theorem dX7_road_11 : decode cX7_road 11 = .ok (.iload_n 1, 1) := by decide +kernel
theorem dX7_road_12 : decode cX7_road 12 = .ok (.iload_n 2, 1) := by decide +kernel
theorem dX7_road_13 : decode cX7_road 13 = .ok (.if_icmp .eq 14, 3) := by decide +kernel
theorem dX7_road_16 : decode cX7_road 16 = .ok (.aload_n 0, 1) := by decide +kernel
theorem dX7_road_17 : decode cX7_road 17 = .ok (.iload_n 3, 1) := by decide +kernel
theorem dX7_road_18 : decode cX7_road 18 = .ok (.iconst 0, 1) := by decide +kernel
theorem dX7_road_19 : decode cX7_road 19 = .ok (.bipush 99, 2) := by decide +kernel
theorem dX7_road_21 : decode cX7_road 21 = .ok (.invokevirtual 197, 3) := by decide +kernel
theorem dX7_road_24 : decode cX7_road 24 = .ok (.ifCond .ne 6, 3) := by decide +kernel
theorem dX7_road_27 : decode cX7_road 27 = .ok (.bipush (-2), 2) := by decide +kernel
theorem dX7_road_29 : decode cX7_road 29 = .ok (.ireturn, 1) := by decide +kernel
theorem dX7_road_30 : decode cX7_road 30 = .ok (.aload_n 0, 1) := by decide +kernel
theorem dX7_road_31 : decode cX7_road 31 = .ok (.getfield 29, 3) := by decide +kernel
theorem dX7_road_34 : decode cX7_road 34 = .ok (.bipush 7, 2) := by decide +kernel
theorem dX7_road_36 : decode cX7_road 36 = .ok (.iload_n 1, 1) := by decide +kernel
theorem dX7_road_37 : decode cX7_road 37 = .ok (.imul, 1) := by decide +kernel
theorem dX7_road_38 : decode cX7_road 38 = .ok (.iload_n 2, 1) := by decide +kernel
theorem dX7_road_39 : decode cX7_road 39 = .ok (.iadd, 1) := by decide +kernel
theorem dX7_road_40 : decode cX7_road 40 = .ok (.iaload, 1) := by decide +kernel
theorem dX7_road_41 : decode cX7_road 41 = .ok (.istore 4, 2) := by decide +kernel
theorem dX7_road_43 : decode cX7_road 43 = .ok (.aload_n 0, 1) := by decide +kernel
theorem dX7_road_44 : decode cX7_road 44 = .ok (.getfield 29, 3) := by decide +kernel
theorem dX7_road_47 : decode cX7_road 47 = .ok (.bipush 7, 2) := by decide +kernel
theorem dX7_road_49 : decode cX7_road 49 = .ok (.iload_n 1, 1) := by decide +kernel
theorem dX7_road_50 : decode cX7_road 50 = .ok (.imul, 1) := by decide +kernel
theorem dX7_road_51 : decode cX7_road 51 = .ok (.iload_n 2, 1) := by decide +kernel
theorem dX7_road_52 : decode cX7_road 52 = .ok (.iadd, 1) := by decide +kernel
theorem dX7_road_53 : decode cX7_road 53 = .ok (.iload_n 3, 1) := by decide +kernel
theorem dX7_road_54 : decode cX7_road 54 = .ok (.iastore, 1) := by decide +kernel
theorem dX7_road_55 : decode cX7_road 55 = .ok (.aload_n 0, 1) := by decide +kernel
theorem dX7_road_56 : decode cX7_road 56 = .ok (.getfield 29, 3) := by decide +kernel
theorem dX7_road_59 : decode cX7_road 59 = .ok (.bipush 7, 2) := by decide +kernel
theorem dX7_road_61 : decode cX7_road 61 = .ok (.iload_n 2, 1) := by decide +kernel
theorem dX7_road_62 : decode cX7_road 62 = .ok (.imul, 1) := by decide +kernel
theorem dX7_road_63 : decode cX7_road 63 = .ok (.iload_n 1, 1) := by decide +kernel
theorem dX7_road_64 : decode cX7_road 64 = .ok (.iadd, 1) := by decide +kernel
theorem dX7_road_65 : decode cX7_road 65 = .ok (.iload_n 3, 1) := by decide +kernel
theorem dX7_road_66 : decode cX7_road 66 = .ok (.iastore, 1) := by decide +kernel
theorem dX7_road_67 : decode cX7_road 67 = .ok (.iload 4, 2) := by decide +kernel
theorem dX7_road_69 : decode cX7_road 69 = .ok (.ireturn, 1) := by decide +kernel
theorem dX7_roadsOf_0 : decode cX7_roadsOf 0 = .ok (.iconst 0, 1) := by decide +kernel
theorem dX7_roadsOf_1 : decode cX7_roadsOf 1 = .ok (.istore_n 2, 1) := by decide +kernel
theorem dX7_roadsOf_2 : decode cX7_roadsOf 2 = .ok (.iconst 0, 1) := by decide +kernel
theorem dX7_roadsOf_3 : decode cX7_roadsOf 3 = .ok (.istore_n 3, 1) := by decide +kernel
theorem dX7_roadsOf_4 : decode cX7_roadsOf 4 = .ok (.iload_n 3, 1) := by decide +kernel
theorem dX7_roadsOf_5 : decode cX7_roadsOf 5 = .ok (.aload_n 0, 1) := by decide +kernel
theorem dX7_roadsOf_6 : decode cX7_roadsOf 6 = .ok (.getfield 7, 3) := by decide +kernel
theorem dX7_roadsOf_9 : decode cX7_roadsOf 9 = .ok (.if_icmp .ge 33, 3) := by decide +kernel
theorem dX7_roadsOf_12 : decode cX7_roadsOf 12 = .ok (.iload_n 2, 1) := by decide +kernel
theorem dX7_roadsOf_13 : decode cX7_roadsOf 13 = .ok (.aload_n 0, 1) := by decide +kernel
theorem dX7_roadsOf_14 : decode cX7_roadsOf 14 = .ok (.getfield 29, 3) := by decide +kernel
theorem dX7_roadsOf_17 : decode cX7_roadsOf 17 = .ok (.bipush 7, 2) := by decide +kernel
theorem dX7_roadsOf_19 : decode cX7_roadsOf 19 = .ok (.iload_n 1, 1) := by decide +kernel
theorem dX7_roadsOf_20 : decode cX7_roadsOf 20 = .ok (.imul, 1) := by decide +kernel
theorem dX7_roadsOf_21 : decode cX7_roadsOf 21 = .ok (.iload_n 3, 1) := by decide +kernel
theorem dX7_roadsOf_22 : decode cX7_roadsOf 22 = .ok (.iadd, 1) := by decide +kernel
theorem dX7_roadsOf_23 : decode cX7_roadsOf 23 = .ok (.iaload, 1) := by decide +kernel
theorem dX7_roadsOf_24 : decode cX7_roadsOf 24 = .ok (.ifCond .le 9, 3) := by decide +kernel
theorem dX7_roadsOf_27 : decode cX7_roadsOf 27 = .ok (.iconst 1, 1) := by decide +kernel
theorem dX7_roadsOf_28 : decode cX7_roadsOf 28 = .ok (.iload_n 3, 1) := by decide +kernel
theorem dX7_roadsOf_29 : decode cX7_roadsOf 29 = .ok (.ishl, 1) := by decide +kernel
theorem dX7_roadsOf_30 : decode cX7_roadsOf 30 = .ok (.goto 4, 3) := by decide +kernel
theorem dX7_roadsOf_33 : decode cX7_roadsOf 33 = .ok (.iconst 0, 1) := by decide +kernel
theorem dX7_roadsOf_34 : decode cX7_roadsOf 34 = .ok (.ior, 1) := by decide +kernel
theorem dX7_roadsOf_35 : decode cX7_roadsOf 35 = .ok (.istore_n 2, 1) := by decide +kernel
theorem dX7_roadsOf_36 : decode cX7_roadsOf 36 = .ok (.iinc 3 1, 3) := by decide +kernel
theorem dX7_roadsOf_39 : decode cX7_roadsOf 39 = .ok (.goto (-35), 3) := by decide +kernel
theorem dX7_roadsOf_42 : decode cX7_roadsOf 42 = .ok (.iload_n 2, 1) := by decide +kernel
theorem dX7_roadsOf_43 : decode cX7_roadsOf 43 = .ok (.ireturn, 1) := by decide +kernel
theorem dX7_lays_0 : decode cX7_lays 0 = .ok (.aload_n 0, 1) := by decide +kernel
theorem dX7_lays_1 : decode cX7_lays 1 = .ok (.getfield 26, 3) := by decide +kernel
theorem dX7_lays_4 : decode cX7_lays 4 = .ok (.iload_n 1, 1) := by decide +kernel
theorem dX7_lays_5 : decode cX7_lays 5 = .ok (.iload_n 3, 1) := by decide +kernel
theorem dX7_lays_6 : decode cX7_lays 6 = .ok (.ifCond .eq 16, 3) := by decide +kernel
theorem dX7_lays_9 : decode cX7_lays 9 = .ok (.aload_n 0, 1) := by decide +kernel
theorem dX7_lays_10 : decode cX7_lays 10 = .ok (.getfield 26, 3) := by decide +kernel
theorem dX7_lays_13 : decode cX7_lays 13 = .ok (.iload_n 1, 1) := by decide +kernel
theorem dX7_lays_14 : decode cX7_lays 14 = .ok (.iaload, 1) := by decide +kernel
theorem dX7_lays_15 : decode cX7_lays 15 = .ok (.iconst 1, 1) := by decide +kernel
theorem dX7_lays_16 : decode cX7_lays 16 = .ok (.iload_n 2, 1) := by decide +kernel
theorem dX7_lays_17 : decode cX7_lays 17 = .ok (.ishl, 1) := by decide +kernel
theorem dX7_lays_18 : decode cX7_lays 18 = .ok (.ior, 1) := by decide +kernel
theorem dX7_lays_19 : decode cX7_lays 19 = .ok (.goto 15, 3) := by decide +kernel
theorem dX7_lays_22 : decode cX7_lays 22 = .ok (.aload_n 0, 1) := by decide +kernel
theorem dX7_lays_23 : decode cX7_lays 23 = .ok (.getfield 26, 3) := by decide +kernel
theorem dX7_lays_26 : decode cX7_lays 26 = .ok (.iload_n 1, 1) := by decide +kernel
theorem dX7_lays_27 : decode cX7_lays 27 = .ok (.iaload, 1) := by decide +kernel
theorem dX7_lays_28 : decode cX7_lays 28 = .ok (.iconst 1, 1) := by decide +kernel
theorem dX7_lays_29 : decode cX7_lays 29 = .ok (.iload_n 2, 1) := by decide +kernel
theorem dX7_lays_30 : decode cX7_lays 30 = .ok (.ishl, 1) := by decide +kernel
theorem dX7_lays_31 : decode cX7_lays 31 = .ok (.iconst (-1), 1) := by decide +kernel
theorem dX7_lays_32 : decode cX7_lays 32 = .ok (.ixor, 1) := by decide +kernel
theorem dX7_lays_33 : decode cX7_lays 33 = .ok (.iand, 1) := by decide +kernel
theorem dX7_lays_34 : decode cX7_lays 34 = .ok (.iastore, 1) := by decide +kernel
theorem dX7_lays_35 : decode cX7_lays 35 = .ok (.aload_n 0, 1) := by decide +kernel
theorem dX7_lays_36 : decode cX7_lays 36 = .ok (.getfield 26, 3) := by decide +kernel
theorem dX7_lays_39 : decode cX7_lays 39 = .ok (.iload_n 2, 1) := by decide +kernel
theorem dX7_lays_40 : decode cX7_lays 40 = .ok (.iload_n 3, 1) := by decide +kernel
theorem dX7_lays_41 : decode cX7_lays 41 = .ok (.ifCond .eq 16, 3) := by decide +kernel
theorem dX7_lays_44 : decode cX7_lays 44 = .ok (.aload_n 0, 1) := by decide +kernel
theorem dX7_lays_45 : decode cX7_lays 45 = .ok (.getfield 26, 3) := by decide +kernel
theorem dX7_lays_48 : decode cX7_lays 48 = .ok (.iload_n 2, 1) := by decide +kernel
theorem dX7_lays_49 : decode cX7_lays 49 = .ok (.iaload, 1) := by decide +kernel
theorem dX7_lays_50 : decode cX7_lays 50 = .ok (.iconst 1, 1) := by decide +kernel
theorem dX7_lays_51 : decode cX7_lays 51 = .ok (.iload_n 1, 1) := by decide +kernel
theorem dX7_lays_52 : decode cX7_lays 52 = .ok (.ishl, 1) := by decide +kernel
theorem dX7_lays_53 : decode cX7_lays 53 = .ok (.ior, 1) := by decide +kernel
theorem dX7_lays_54 : decode cX7_lays 54 = .ok (.goto 15, 3) := by decide +kernel
theorem dX7_lays_57 : decode cX7_lays 57 = .ok (.aload_n 0, 1) := by decide +kernel
theorem dX7_lays_58 : decode cX7_lays 58 = .ok (.getfield 26, 3) := by decide +kernel
theorem dX7_lays_61 : decode cX7_lays 61 = .ok (.iload_n 2, 1) := by decide +kernel
theorem dX7_lays_62 : decode cX7_lays 62 = .ok (.iaload, 1) := by decide +kernel
theorem dX7_lays_63 : decode cX7_lays 63 = .ok (.iconst 1, 1) := by decide +kernel
theorem dX7_lays_64 : decode cX7_lays 64 = .ok (.iload_n 1, 1) := by decide +kernel
theorem dX7_lays_65 : decode cX7_lays 65 = .ok (.ishl, 1) := by decide +kernel
theorem dX7_lays_66 : decode cX7_lays 66 = .ok (.iconst (-1), 1) := by decide +kernel
theorem dX7_lays_67 : decode cX7_lays 67 = .ok (.ixor, 1) := by decide +kernel
theorem dX7_lays_68 : decode cX7_lays 68 = .ok (.iand, 1) := by decide +kernel
theorem dX7_lays_69 : decode cX7_lays 69 = .ok (.iastore, 1) := by decide +kernel
theorem dX7_lays_70 : decode cX7_lays 70 = .ok (.return_, 1) := by decide +kernel
theorem dX7_name_0 : decode cX7_name 0 = .ok (.aload_n 0, 1) := by decide +kernel
theorem dX7_name_1 : decode cX7_name 1 = .ok (.iload_n 1, 1) := by decide +kernel
theorem dX7_name_2 : decode cX7_name 2 = .ok (.iload_n 2, 1) := by decide +kernel
theorem dX7_name_3 : decode cX7_name 3 = .ok (.invokevirtual 205, 3) := by decide +kernel
theorem dX7_name_6 : decode cX7_name 6 = .ok (.ifCond .ne 5, 3) := by decide +kernel
theorem dX7_name_9 : decode cX7_name 9 = .ok (.iconst (-1), 1) := by decide +kernel
theorem dX7_name_10 : decode cX7_name 10 = .ok (.ireturn, 1) := by decide +kernel
theorem dX7_name_11 : decode cX7_name 11 = .ok (.iload_n 1, 1) := by decide +kernel
theorem dX7_name_12 : decode cX7_name 12 = .ok (.iload_n 2, 1) := by decide +kernel
theorem dX7_name_13 : decode cX7_name 13 = .ok (.if_icmp .ne 6, 3) := by decide +kernel
theorem dX7_name_16 : decode cX7_name 16 = .ok (.bipush (-2), 2) := by decide +kernel
theorem dX7_name_18 : decode cX7_name 18 = .ok (.ireturn, 1) := by decide +kernel
theorem dX7_name_19 : decode cX7_name 19 = .ok (.aload_n 0, 1) := by decide +kernel
theorem dX7_name_20 : decode cX7_name 20 = .ok (.aload_n 0, 1) := by decide +kernel
theorem dX7_name_21 : decode cX7_name 21 = .ok (.getfield 26, 3) := by decide +kernel
theorem dX7_name_24 : decode cX7_name 24 = .ok (.iload_n 1, 1) := by decide +kernel
theorem dX7_name_25 : decode cX7_name 25 = .ok (.iaload, 1) := by decide +kernel
theorem dX7_name_26 : decode cX7_name 26 = .ok (.iload_n 2, 1) := by decide +kernel
theorem dX7_name_27 : decode cX7_name 27 = .ok (.invokevirtual 209, 3) := by decide +kernel
theorem dX7_name_30 : decode cX7_name 30 = .ok (.ifCond .eq 6, 3) := by decide +kernel
theorem dX7_name_33 : decode cX7_name 33 = .ok (.bipush (-3), 2) := by decide +kernel
theorem dX7_name_35 : decode cX7_name 35 = .ok (.ireturn, 1) := by decide +kernel
theorem dX7_name_36 : decode cX7_name 36 = .ok (.aload_n 0, 1) := by decide +kernel
theorem dX7_name_37 : decode cX7_name 37 = .ok (.aload_n 0, 1) := by decide +kernel
theorem dX7_name_38 : decode cX7_name 38 = .ok (.getfield 26, 3) := by decide +kernel
theorem dX7_name_41 : decode cX7_name 41 = .ok (.iload_n 1, 1) := by decide +kernel
theorem dX7_name_42 : decode cX7_name 42 = .ok (.iaload, 1) := by decide +kernel
theorem dX7_name_43 : decode cX7_name 43 = .ok (.invokevirtual 212, 3) := by decide +kernel
theorem dX7_name_46 : decode cX7_name 46 = .ok (.aload_n 0, 1) := by decide +kernel
theorem dX7_name_47 : decode cX7_name 47 = .ok (.invokevirtual 216, 3) := by decide +kernel
theorem dX7_name_50 : decode cX7_name 50 = .ok (.if_icmp .ge 20, 3) := by decide +kernel
theorem dX7_name_53 : decode cX7_name 53 = .ok (.aload_n 0, 1) := by decide +kernel
theorem dX7_name_54 : decode cX7_name 54 = .ok (.aload_n 0, 1) := by decide +kernel
theorem dX7_name_55 : decode cX7_name 55 = .ok (.getfield 26, 3) := by decide +kernel
theorem dX7_name_58 : decode cX7_name 58 = .ok (.iload_n 2, 1) := by decide +kernel
theorem dX7_name_59 : decode cX7_name 59 = .ok (.iaload, 1) := by decide +kernel
theorem dX7_name_60 : decode cX7_name 60 = .ok (.invokevirtual 212, 3) := by decide +kernel
theorem dX7_name_63 : decode cX7_name 63 = .ok (.aload_n 0, 1) := by decide +kernel
theorem dX7_name_64 : decode cX7_name 64 = .ok (.invokevirtual 216, 3) := by decide +kernel
theorem dX7_name_67 : decode cX7_name 67 = .ok (.if_icmp .lt 6, 3) := by decide +kernel
theorem dX7_name_70 : decode cX7_name 70 = .ok (.bipush (-4), 2) := by decide +kernel
theorem dX7_name_72 : decode cX7_name 72 = .ok (.ireturn, 1) := by decide +kernel
theorem dX7_name_73 : decode cX7_name 73 = .ok (.aload_n 0, 1) := by decide +kernel
theorem dX7_name_74 : decode cX7_name 74 = .ok (.iload_n 1, 1) := by decide +kernel
theorem dX7_name_75 : decode cX7_name 75 = .ok (.iload_n 2, 1) := by decide +kernel
theorem dX7_name_76 : decode cX7_name 76 = .ok (.iconst 1, 1) := by decide +kernel
theorem dX7_name_77 : decode cX7_name 77 = .ok (.invokevirtual 220, 3) := by decide +kernel
theorem dX7_name_80 : decode cX7_name 80 = .ok (.aload_n 0, 1) := by decide +kernel
theorem dX7_name_81 : decode cX7_name 81 = .ok (.aload_n 0, 1) := by decide +kernel
theorem dX7_name_82 : decode cX7_name 82 = .ok (.getfield 26, 3) := by decide +kernel
theorem dX7_name_85 : decode cX7_name 85 = .ok (.iload_n 1, 1) := by decide +kernel
theorem dX7_name_86 : decode cX7_name 86 = .ok (.iaload, 1) := by decide +kernel
theorem dX7_name_87 : decode cX7_name 87 = .ok (.invokevirtual 212, 3) := by decide +kernel
theorem dX7_name_90 : decode cX7_name 90 = .ok (.ireturn, 1) := by decide +kernel
theorem dX7_strike_0 : decode cX7_strike 0 = .ok (.aload_n 0, 1) := by decide +kernel
theorem dX7_strike_1 : decode cX7_strike 1 = .ok (.iload_n 1, 1) := by decide +kernel
theorem dX7_strike_2 : decode cX7_strike 2 = .ok (.iload_n 2, 1) := by decide +kernel
theorem dX7_strike_3 : decode cX7_strike 3 = .ok (.invokevirtual 205, 3) := by decide +kernel
theorem dX7_strike_6 : decode cX7_strike 6 = .ok (.ifCond .ne 5, 3) := by decide +kernel
theorem dX7_strike_9 : decode cX7_strike 9 = .ok (.iconst (-1), 1) := by decide +kernel
theorem dX7_strike_10 : decode cX7_strike 10 = .ok (.ireturn, 1) := by decide +kernel
theorem dX7_strike_11 : decode cX7_strike 11 = .ok (.aload_n 0, 1) := by decide +kernel
theorem dX7_strike_12 : decode cX7_strike 12 = .ok (.aload_n 0, 1) := by decide +kernel
theorem dX7_strike_13 : decode cX7_strike 13 = .ok (.getfield 26, 3) := by decide +kernel
theorem dX7_strike_16 : decode cX7_strike 16 = .ok (.iload_n 1, 1) := by decide +kernel
theorem dX7_strike_17 : decode cX7_strike 17 = .ok (.iaload, 1) := by decide +kernel
theorem dX7_strike_18 : decode cX7_strike 18 = .ok (.iload_n 2, 1) := by decide +kernel
theorem dX7_strike_19 : decode cX7_strike 19 = .ok (.invokevirtual 209, 3) := by decide +kernel
theorem dX7_strike_22 : decode cX7_strike 22 = .ok (.ifCond .ne 6, 3) := by decide +kernel
theorem dX7_strike_25 : decode cX7_strike 25 = .ok (.bipush (-3), 2) := by decide +kernel
theorem dX7_strike_27 : decode cX7_strike 27 = .ok (.ireturn, 1) := by decide +kernel
theorem dX7_strike_28 : decode cX7_strike 28 = .ok (.aload_n 0, 1) := by decide +kernel
theorem dX7_strike_29 : decode cX7_strike 29 = .ok (.iload_n 1, 1) := by decide +kernel
theorem dX7_strike_30 : decode cX7_strike 30 = .ok (.iload_n 2, 1) := by decide +kernel
theorem dX7_strike_31 : decode cX7_strike 31 = .ok (.iconst 0, 1) := by decide +kernel
theorem dX7_strike_32 : decode cX7_strike 32 = .ok (.invokevirtual 220, 3) := by decide +kernel
theorem dX7_strike_35 : decode cX7_strike 35 = .ok (.aload_n 0, 1) := by decide +kernel
theorem dX7_strike_36 : decode cX7_strike 36 = .ok (.aload_n 0, 1) := by decide +kernel
theorem dX7_strike_37 : decode cX7_strike 37 = .ok (.getfield 26, 3) := by decide +kernel
theorem dX7_strike_40 : decode cX7_strike 40 = .ok (.iload_n 1, 1) := by decide +kernel
theorem dX7_strike_41 : decode cX7_strike 41 = .ok (.iaload, 1) := by decide +kernel
theorem dX7_strike_42 : decode cX7_strike 42 = .ok (.invokevirtual 212, 3) := by decide +kernel
theorem dX7_strike_45 : decode cX7_strike 45 = .ok (.ireturn, 1) := by decide +kernel
theorem dX7_traveller_0 : decode cX7_traveller 0 = .ok (.aload_n 0, 1) := by decide +kernel
theorem dX7_traveller_1 : decode cX7_traveller 1 = .ok (.iload_n 1, 1) := by decide +kernel
theorem dX7_traveller_2 : decode cX7_traveller 2 = .ok (.iload_n 2, 1) := by decide +kernel
theorem dX7_traveller_3 : decode cX7_traveller 3 = .ok (.invokevirtual 205, 3) := by decide +kernel
theorem dX7_traveller_6 : decode cX7_traveller 6 = .ok (.ifCond .ne 5, 3) := by decide +kernel
theorem dX7_traveller_9 : decode cX7_traveller 9 = .ok (.iconst (-1), 1) := by decide +kernel
theorem dX7_traveller_10 : decode cX7_traveller 10 = .ok (.ireturn, 1) := by decide +kernel
theorem dX7_traveller_11 : decode cX7_traveller 11 = .ok (.iload_n 1, 1) := by decide +kernel
theorem dX7_traveller_12 : decode cX7_traveller 12 = .ok (.iload_n 2, 1) := by decide +kernel
theorem dX7_traveller_13 : decode cX7_traveller 13 = .ok (.if_icmp .eq 14, 3) := by decide +kernel
theorem dX7_traveller_16 : decode cX7_traveller 16 = .ok (.aload_n 0, 1) := by decide +kernel
theorem dX7_traveller_17 : decode cX7_traveller 17 = .ok (.iload_n 3, 1) := by decide +kernel
theorem dX7_traveller_18 : decode cX7_traveller 18 = .ok (.iconst 1, 1) := by decide +kernel
theorem dX7_traveller_19 : decode cX7_traveller 19 = .ok (.bipush 99, 2) := by decide +kernel
theorem dX7_traveller_21 : decode cX7_traveller 21 = .ok (.invokevirtual 197, 3) := by decide +kernel
theorem dX7_traveller_24 : decode cX7_traveller 24 = .ok (.ifCond .ne 6, 3) := by decide +kernel
theorem dX7_traveller_27 : decode cX7_traveller 27 = .ok (.bipush (-2), 2) := by decide +kernel
theorem dX7_traveller_29 : decode cX7_traveller 29 = .ok (.ireturn, 1) := by decide +kernel
theorem dX7_traveller_30 : decode cX7_traveller 30 = .ok (.aload_n 0, 1) := by decide +kernel
theorem dX7_traveller_31 : decode cX7_traveller 31 = .ok (.getfield 13, 3) := by decide +kernel
theorem dX7_traveller_34 : decode cX7_traveller 34 = .ok (.bipush 8, 2) := by decide +kernel
theorem dX7_traveller_36 : decode cX7_traveller 36 = .ok (.if_icmp .ne 6, 3) := by decide +kernel
theorem dX7_traveller_39 : decode cX7_traveller 39 = .ok (.bipush (-4), 2) := by decide +kernel
theorem dX7_traveller_41 : decode cX7_traveller 41 = .ok (.ireturn, 1) := by decide +kernel
theorem dX7_traveller_42 : decode cX7_traveller 42 = .ok (.aload_n 0, 1) := by decide +kernel
theorem dX7_traveller_43 : decode cX7_traveller 43 = .ok (.getfield 32, 3) := by decide +kernel
theorem dX7_traveller_46 : decode cX7_traveller 46 = .ok (.aload_n 0, 1) := by decide +kernel
theorem dX7_traveller_47 : decode cX7_traveller 47 = .ok (.getfield 13, 3) := by decide +kernel
theorem dX7_traveller_50 : decode cX7_traveller 50 = .ok (.iload_n 1, 1) := by decide +kernel
theorem dX7_traveller_51 : decode cX7_traveller 51 = .ok (.iastore, 1) := by decide +kernel
theorem dX7_traveller_52 : decode cX7_traveller 52 = .ok (.aload_n 0, 1) := by decide +kernel
theorem dX7_traveller_53 : decode cX7_traveller 53 = .ok (.getfield 35, 3) := by decide +kernel
theorem dX7_traveller_56 : decode cX7_traveller 56 = .ok (.aload_n 0, 1) := by decide +kernel
theorem dX7_traveller_57 : decode cX7_traveller 57 = .ok (.getfield 13, 3) := by decide +kernel
theorem dX7_traveller_60 : decode cX7_traveller 60 = .ok (.iload_n 2, 1) := by decide +kernel
theorem dX7_traveller_61 : decode cX7_traveller 61 = .ok (.iastore, 1) := by decide +kernel
theorem dX7_traveller_62 : decode cX7_traveller 62 = .ok (.aload_n 0, 1) := by decide +kernel
theorem dX7_traveller_63 : decode cX7_traveller 63 = .ok (.getfield 38, 3) := by decide +kernel
theorem dX7_traveller_66 : decode cX7_traveller 66 = .ok (.aload_n 0, 1) := by decide +kernel
theorem dX7_traveller_67 : decode cX7_traveller 67 = .ok (.getfield 13, 3) := by decide +kernel
theorem dX7_traveller_70 : decode cX7_traveller 70 = .ok (.iload_n 3, 1) := by decide +kernel
theorem dX7_traveller_71 : decode cX7_traveller 71 = .ok (.iastore, 1) := by decide +kernel
theorem dX7_traveller_72 : decode cX7_traveller 72 = .ok (.aload_n 0, 1) := by decide +kernel
theorem dX7_traveller_73 : decode cX7_traveller 73 = .ok (.dup, 1) := by decide +kernel
theorem dX7_traveller_74 : decode cX7_traveller 74 = .ok (.getfield 13, 3) := by decide +kernel
theorem dX7_traveller_77 : decode cX7_traveller 77 = .ok (.iconst 1, 1) := by decide +kernel
theorem dX7_traveller_78 : decode cX7_traveller 78 = .ok (.iadd, 1) := by decide +kernel
theorem dX7_traveller_79 : decode cX7_traveller 79 = .ok (.putfield 13, 3) := by decide +kernel
theorem dX7_traveller_82 : decode cX7_traveller 82 = .ok (.aload_n 0, 1) := by decide +kernel
theorem dX7_traveller_83 : decode cX7_traveller 83 = .ok (.getfield 13, 3) := by decide +kernel
theorem dX7_traveller_86 : decode cX7_traveller 86 = .ok (.iconst 1, 1) := by decide +kernel
theorem dX7_traveller_87 : decode cX7_traveller 87 = .ok (.isub, 1) := by decide +kernel
theorem dX7_traveller_88 : decode cX7_traveller 88 = .ok (.ireturn, 1) := by decide +kernel
theorem dX7_feed_0 : decode cX7_feed 0 = .ok (.aload_n 0, 1) := by decide +kernel
theorem dX7_feed_1 : decode cX7_feed 1 = .ok (.iload_n 1, 1) := by decide +kernel
theorem dX7_feed_2 : decode cX7_feed 2 = .ok (.iconst 0, 1) := by decide +kernel
theorem dX7_feed_3 : decode cX7_feed 3 = .ok (.bipush 127, 2) := by decide +kernel
theorem dX7_feed_5 : decode cX7_feed 5 = .ok (.invokevirtual 197, 3) := by decide +kernel
theorem dX7_feed_8 : decode cX7_feed 8 = .ok (.ifCond .ne 6, 3) := by decide +kernel
theorem dX7_feed_11 : decode cX7_feed 11 = .ok (.bipush (-2), 2) := by decide +kernel
theorem dX7_feed_13 : decode cX7_feed 13 = .ok (.ireturn, 1) := by decide +kernel
theorem dX7_feed_14 : decode cX7_feed 14 = .ok (.aload_n 0, 1) := by decide +kernel
theorem dX7_feed_15 : decode cX7_feed 15 = .ok (.getfield 47, 3) := by decide +kernel
theorem dX7_feed_18 : decode cX7_feed 18 = .ok (.bipush 100, 2) := by decide +kernel
theorem dX7_feed_20 : decode cX7_feed 20 = .ok (.if_icmp .ne 6, 3) := by decide +kernel
theorem dX7_feed_23 : decode cX7_feed 23 = .ok (.bipush (-4), 2) := by decide +kernel
theorem dX7_feed_25 : decode cX7_feed 25 = .ok (.ireturn, 1) := by decide +kernel
theorem dX7_feed_26 : decode cX7_feed 26 = .ok (.aload_n 0, 1) := by decide +kernel
theorem dX7_feed_27 : decode cX7_feed 27 = .ok (.getfield 56, 3) := by decide +kernel
theorem dX7_feed_30 : decode cX7_feed 30 = .ok (.aload_n 0, 1) := by decide +kernel
theorem dX7_feed_31 : decode cX7_feed 31 = .ok (.getfield 47, 3) := by decide +kernel
theorem dX7_feed_34 : decode cX7_feed 34 = .ok (.iload_n 1, 1) := by decide +kernel
theorem dX7_feed_35 : decode cX7_feed 35 = .ok (.iastore, 1) := by decide +kernel
theorem dX7_feed_36 : decode cX7_feed 36 = .ok (.aload_n 0, 1) := by decide +kernel
theorem dX7_feed_37 : decode cX7_feed 37 = .ok (.dup, 1) := by decide +kernel
theorem dX7_feed_38 : decode cX7_feed 38 = .ok (.getfield 47, 3) := by decide +kernel
theorem dX7_feed_41 : decode cX7_feed 41 = .ok (.iconst 1, 1) := by decide +kernel
theorem dX7_feed_42 : decode cX7_feed 42 = .ok (.iadd, 1) := by decide +kernel
theorem dX7_feed_43 : decode cX7_feed 43 = .ok (.putfield 47, 3) := by decide +kernel
theorem dX7_feed_46 : decode cX7_feed 46 = .ok (.aload_n 0, 1) := by decide +kernel
theorem dX7_feed_47 : decode cX7_feed 47 = .ok (.getfield 47, 3) := by decide +kernel
theorem dX7_feed_50 : decode cX7_feed 50 = .ok (.ireturn, 1) := by decide +kernel
theorem dX7_peek_0 : decode cX7_peek 0 = .ok (.aload_n 0, 1) := by decide +kernel
theorem dX7_peek_1 : decode cX7_peek 1 = .ok (.getfield 50, 3) := by decide +kernel
theorem dX7_peek_4 : decode cX7_peek 4 = .ok (.aload_n 0, 1) := by decide +kernel
theorem dX7_peek_5 : decode cX7_peek 5 = .ok (.getfield 47, 3) := by decide +kernel
theorem dX7_peek_8 : decode cX7_peek 8 = .ok (.if_icmp .ge 15, 3) := by decide +kernel
theorem dX7_peek_11 : decode cX7_peek 11 = .ok (.aload_n 0, 1) := by decide +kernel
theorem dX7_peek_12 : decode cX7_peek 12 = .ok (.getfield 56, 3) := by decide +kernel
theorem dX7_peek_15 : decode cX7_peek 15 = .ok (.aload_n 0, 1) := by decide +kernel
theorem dX7_peek_16 : decode cX7_peek 16 = .ok (.getfield 50, 3) := by decide +kernel
theorem dX7_peek_19 : decode cX7_peek 19 = .ok (.iaload, 1) := by decide +kernel
theorem dX7_peek_20 : decode cX7_peek 20 = .ok (.goto 4, 3) := by decide +kernel
theorem dX7_peek_23 : decode cX7_peek 23 = .ok (.iconst (-1), 1) := by decide +kernel
theorem dX7_peek_24 : decode cX7_peek 24 = .ok (.ireturn, 1) := by decide +kernel
theorem dX7_takes_0 : decode cX7_takes 0 = .ok (.aload_n 0, 1) := by decide +kernel
theorem dX7_takes_1 : decode cX7_takes 1 = .ok (.invokevirtual 224, 3) := by decide +kernel
theorem dX7_takes_4 : decode cX7_takes 4 = .ok (.iload_n 1, 1) := by decide +kernel
theorem dX7_takes_5 : decode cX7_takes 5 = .ok (.if_icmp .eq 5, 3) := by decide +kernel
theorem dX7_takes_8 : decode cX7_takes 8 = .ok (.iconst 0, 1) := by decide +kernel
theorem dX7_takes_9 : decode cX7_takes 9 = .ok (.ireturn, 1) := by decide +kernel
theorem dX7_takes_10 : decode cX7_takes 10 = .ok (.aload_n 0, 1) := by decide +kernel
theorem dX7_takes_11 : decode cX7_takes 11 = .ok (.dup, 1) := by decide +kernel
theorem dX7_takes_12 : decode cX7_takes 12 = .ok (.getfield 50, 3) := by decide +kernel
theorem dX7_takes_15 : decode cX7_takes 15 = .ok (.iconst 1, 1) := by decide +kernel
theorem dX7_takes_16 : decode cX7_takes 16 = .ok (.iadd, 1) := by decide +kernel
theorem dX7_takes_17 : decode cX7_takes 17 = .ok (.putfield 50, 3) := by decide +kernel
theorem dX7_takes_20 : decode cX7_takes 20 = .ok (.iconst 1, 1) := by decide +kernel
theorem dX7_takes_21 : decode cX7_takes 21 = .ok (.ireturn, 1) := by decide +kernel
theorem dX7_takesWord_0 : decode cX7_takesWord 0 = .ok (.iconst 0, 1) := by decide +kernel
theorem dX7_takesWord_1 : decode cX7_takesWord 1 = .ok (.istore_n 3, 1) := by decide +kernel
theorem dX7_takesWord_2 : decode cX7_takesWord 2 = .ok (.iload_n 3, 1) := by decide +kernel
theorem dX7_takesWord_3 : decode cX7_takesWord 3 = .ok (.iload_n 2, 1) := by decide +kernel
theorem dX7_takesWord_4 : decode cX7_takesWord 4 = .ok (.if_icmp .ge 26, 3) := by decide +kernel
theorem dX7_takesWord_7 : decode cX7_takesWord 7 = .ok (.aload_n 0, 1) := by decide +kernel
theorem dX7_takesWord_8 : decode cX7_takesWord 8 = .ok (.aload_n 0, 1) := by decide +kernel
theorem dX7_takesWord_9 : decode cX7_takesWord 9 = .ok (.getfield 89, 3) := by decide +kernel
theorem dX7_takesWord_12 : decode cX7_takesWord 12 = .ok (.iload_n 1, 1) := by decide +kernel
theorem dX7_takesWord_13 : decode cX7_takesWord 13 = .ok (.iload_n 3, 1) := by decide +kernel
theorem dX7_takesWord_14 : decode cX7_takesWord 14 = .ok (.iadd, 1) := by decide +kernel
theorem dX7_takesWord_15 : decode cX7_takesWord 15 = .ok (.iaload, 1) := by decide +kernel
theorem dX7_takesWord_16 : decode cX7_takesWord 16 = .ok (.invokevirtual 227, 3) := by decide +kernel
theorem dX7_takesWord_19 : decode cX7_takesWord 19 = .ok (.ifCond .ne 5, 3) := by decide +kernel
theorem dX7_takesWord_22 : decode cX7_takesWord 22 = .ok (.iconst 0, 1) := by decide +kernel
theorem dX7_takesWord_23 : decode cX7_takesWord 23 = .ok (.ireturn, 1) := by decide +kernel
theorem dX7_takesWord_24 : decode cX7_takesWord 24 = .ok (.iinc 3 1, 3) := by decide +kernel
theorem dX7_takesWord_27 : decode cX7_takesWord 27 = .ok (.goto (-25), 3) := by decide +kernel
theorem dX7_takesWord_30 : decode cX7_takesWord 30 = .ok (.aload_n 0, 1) := by decide +kernel
theorem dX7_takesWord_31 : decode cX7_takesWord 31 = .ok (.bipush 32, 2) := by decide +kernel
theorem dX7_takesWord_33 : decode cX7_takesWord 33 = .ok (.invokevirtual 227, 3) := by decide +kernel
theorem dX7_takesWord_36 : decode cX7_takesWord 36 = .ok (.ireturn, 1) := by decide +kernel
theorem dX7_isDigit_0 : decode cX7_isDigit 0 = .ok (.aload_n 0, 1) := by decide +kernel
theorem dX7_isDigit_1 : decode cX7_isDigit 1 = .ok (.aload_n 0, 1) := by decide +kernel
theorem dX7_isDigit_2 : decode cX7_isDigit 2 = .ok (.invokevirtual 224, 3) := by decide +kernel
theorem dX7_isDigit_5 : decode cX7_isDigit 5 = .ok (.bipush 48, 2) := by decide +kernel
theorem dX7_isDigit_7 : decode cX7_isDigit 7 = .ok (.bipush 57, 2) := by decide +kernel
theorem dX7_isDigit_9 : decode cX7_isDigit 9 = .ok (.invokevirtual 197, 3) := by decide +kernel
theorem dX7_isDigit_12 : decode cX7_isDigit 12 = .ok (.ireturn, 1) := by decide +kernel
theorem dX7_takesNumber_0 : decode cX7_takesNumber 0 = .ok (.aload_n 0, 1) := by decide +kernel
theorem dX7_takesNumber_1 : decode cX7_takesNumber 1 = .ok (.invokevirtual 230, 3) := by decide +kernel
theorem dX7_takesNumber_4 : decode cX7_takesNumber 4 = .ok (.ifCond .ne 5, 3) := by decide +kernel
theorem dX7_takesNumber_7 : decode cX7_takesNumber 7 = .ok (.iconst 0, 1) := by decide +kernel
theorem dX7_takesNumber_8 : decode cX7_takesNumber 8 = .ok (.ireturn, 1) := by decide +kernel
theorem dX7_takesNumber_9 : decode cX7_takesNumber 9 = .ok (.aload_n 0, 1) := by decide +kernel
theorem dX7_takesNumber_10 : decode cX7_takesNumber 10 = .ok (.iconst 0, 1) := by decide +kernel
theorem dX7_takesNumber_11 : decode cX7_takesNumber 11 = .ok (.putfield 53, 3) := by decide +kernel
theorem dX7_takesNumber_14 : decode cX7_takesNumber 14 = .ok (.iconst 0, 1) := by decide +kernel
theorem dX7_takesNumber_15 : decode cX7_takesNumber 15 = .ok (.istore_n 1, 1) := by decide +kernel
theorem dX7_takesNumber_16 : decode cX7_takesNumber 16 = .ok (.iload_n 1, 1) := by decide +kernel
theorem dX7_takesNumber_17 : decode cX7_takesNumber 17 = .ok (.iconst 2, 1) := by decide +kernel
theorem dX7_takesNumber_18 : decode cX7_takesNumber 18 = .ok (.if_icmp .ge 45, 3) := by decide +kernel
theorem dX7_takesNumber_21 : decode cX7_takesNumber 21 = .ok (.aload_n 0, 1) := by decide +kernel
theorem dX7_takesNumber_22 : decode cX7_takesNumber 22 = .ok (.invokevirtual 230, 3) := by decide +kernel
theorem dX7_takesNumber_25 : decode cX7_takesNumber 25 = .ok (.ifCond .eq 38, 3) := by decide +kernel
theorem dX7_takesNumber_28 : decode cX7_takesNumber 28 = .ok (.aload_n 0, 1) := by decide +kernel
theorem dX7_takesNumber_29 : decode cX7_takesNumber 29 = .ok (.bipush 10, 2) := by decide +kernel
theorem dX7_takesNumber_31 : decode cX7_takesNumber 31 = .ok (.aload_n 0, 1) := by decide +kernel
theorem dX7_takesNumber_32 : decode cX7_takesNumber 32 = .ok (.getfield 53, 3) := by decide +kernel
theorem dX7_takesNumber_35 : decode cX7_takesNumber 35 = .ok (.imul, 1) := by decide +kernel
theorem dX7_takesNumber_36 : decode cX7_takesNumber 36 = .ok (.aload_n 0, 1) := by decide +kernel
theorem dX7_takesNumber_37 : decode cX7_takesNumber 37 = .ok (.invokevirtual 224, 3) := by decide +kernel
theorem dX7_takesNumber_40 : decode cX7_takesNumber 40 = .ok (.iadd, 1) := by decide +kernel
theorem dX7_takesNumber_41 : decode cX7_takesNumber 41 = .ok (.bipush 48, 2) := by decide +kernel
theorem dX7_takesNumber_43 : decode cX7_takesNumber 43 = .ok (.isub, 1) := by decide +kernel
theorem dX7_takesNumber_44 : decode cX7_takesNumber 44 = .ok (.putfield 53, 3) := by decide +kernel
theorem dX7_takesNumber_47 : decode cX7_takesNumber 47 = .ok (.aload_n 0, 1) := by decide +kernel
theorem dX7_takesNumber_48 : decode cX7_takesNumber 48 = .ok (.dup, 1) := by decide +kernel
theorem dX7_takesNumber_49 : decode cX7_takesNumber 49 = .ok (.getfield 50, 3) := by decide +kernel
theorem dX7_takesNumber_52 : decode cX7_takesNumber 52 = .ok (.iconst 1, 1) := by decide +kernel
theorem dX7_takesNumber_53 : decode cX7_takesNumber 53 = .ok (.iadd, 1) := by decide +kernel
theorem dX7_takesNumber_54 : decode cX7_takesNumber 54 = .ok (.putfield 50, 3) := by decide +kernel
theorem dX7_takesNumber_57 : decode cX7_takesNumber 57 = .ok (.iinc 1 1, 3) := by decide +kernel
theorem dX7_takesNumber_60 : decode cX7_takesNumber 60 = .ok (.goto (-44), 3) := by decide +kernel
theorem dX7_takesNumber_63 : decode cX7_takesNumber 63 = .ok (.iconst 1, 1) := by decide +kernel
theorem dX7_takesNumber_64 : decode cX7_takesNumber 64 = .ok (.ireturn, 1) := by decide +kernel
theorem dX7_emits_0 : decode cX7_emits 0 = .ok (.aload_n 0, 1) := by decide +kernel
theorem dX7_emits_1 : decode cX7_emits 1 = .ok (.getfield 74, 3) := by decide +kernel
theorem dX7_emits_4 : decode cX7_emits 4 = .ok (.aload_n 0, 1) := by decide +kernel
theorem dX7_emits_5 : decode cX7_emits 5 = .ok (.getfield 80, 3) := by decide +kernel
theorem dX7_emits_8 : decode cX7_emits 8 = .ok (.iload_n 1, 1) := by decide +kernel
theorem dX7_emits_9 : decode cX7_emits 9 = .ok (.iastore, 1) := by decide +kernel
theorem dX7_emits_10 : decode cX7_emits 10 = .ok (.aload_n 0, 1) := by decide +kernel
theorem dX7_emits_11 : decode cX7_emits 11 = .ok (.dup, 1) := by decide +kernel
theorem dX7_emits_12 : decode cX7_emits 12 = .ok (.getfield 80, 3) := by decide +kernel
theorem dX7_emits_15 : decode cX7_emits 15 = .ok (.iconst 1, 1) := by decide +kernel
theorem dX7_emits_16 : decode cX7_emits 16 = .ok (.iadd, 1) := by decide +kernel
theorem dX7_emits_17 : decode cX7_emits 17 = .ok (.putfield 80, 3) := by decide +kernel
theorem dX7_emits_20 : decode cX7_emits 20 = .ok (.return_, 1) := by decide +kernel
theorem dX7_whole_0 : decode cX7_whole 0 = .ok (.aload_n 0, 1) := by decide +kernel
theorem dX7_whole_1 : decode cX7_whole 1 = .ok (.getfield 83, 3) := by decide +kernel
theorem dX7_whole_4 : decode cX7_whole 4 = .ok (.ifCond .le 48, 3) := by decide +kernel
theorem dX7_whole_7 : decode cX7_whole 7 = .ok (.aload_n 0, 1) := by decide +kernel
theorem dX7_whole_8 : decode cX7_whole 8 = .ok (.getfield 77, 3) := by decide +kernel
theorem dX7_whole_11 : decode cX7_whole 11 = .ok (.aload_n 0, 1) := by decide +kernel
theorem dX7_whole_12 : decode cX7_whole 12 = .ok (.getfield 83, 3) := by decide +kernel
theorem dX7_whole_15 : decode cX7_whole 15 = .ok (.iconst 1, 1) := by decide +kernel
theorem dX7_whole_16 : decode cX7_whole 16 = .ok (.isub, 1) := by decide +kernel
theorem dX7_whole_17 : decode cX7_whole 17 = .ok (.iaload, 1) := by decide +kernel
theorem dX7_whole_18 : decode cX7_whole 18 = .ok (.bipush 33, 2) := by decide +kernel
theorem dX7_whole_20 : decode cX7_whole 20 = .ok (.if_icmp .ne 32, 3) := by decide +kernel
theorem dX7_whole_23 : decode cX7_whole 23 = .ok (.aload_n 0, 1) := by decide +kernel
theorem dX7_whole_24 : decode cX7_whole 24 = .ok (.bipush (-33), 2) := by decide +kernel
theorem dX7_whole_26 : decode cX7_whole 26 = .ok (.invokevirtual 234, 3) := by decide +kernel
theorem dX7_whole_29 : decode cX7_whole 29 = .ok (.aload_n 0, 1) := by decide +kernel
theorem dX7_whole_30 : decode cX7_whole 30 = .ok (.dup, 1) := by decide +kernel
theorem dX7_whole_31 : decode cX7_whole 31 = .ok (.getfield 83, 3) := by decide +kernel
theorem dX7_whole_34 : decode cX7_whole 34 = .ok (.iconst 1, 1) := by decide +kernel
theorem dX7_whole_35 : decode cX7_whole 35 = .ok (.isub, 1) := by decide +kernel
theorem dX7_whole_36 : decode cX7_whole 36 = .ok (.putfield 83, 3) := by decide +kernel
theorem dX7_whole_39 : decode cX7_whole 39 = .ok (.aload_n 0, 1) := by decide +kernel
theorem dX7_whole_40 : decode cX7_whole 40 = .ok (.dup, 1) := by decide +kernel
theorem dX7_whole_41 : decode cX7_whole 41 = .ok (.getfield 86, 3) := by decide +kernel
theorem dX7_whole_44 : decode cX7_whole 44 = .ok (.iconst 1, 1) := by decide +kernel
theorem dX7_whole_45 : decode cX7_whole 45 = .ok (.isub, 1) := by decide +kernel
theorem dX7_whole_46 : decode cX7_whole 46 = .ok (.putfield 86, 3) := by decide +kernel
theorem dX7_whole_49 : decode cX7_whole 49 = .ok (.goto (-49), 3) := by decide +kernel
theorem dX7_whole_52 : decode cX7_whole 52 = .ok (.return_, 1) := by decide +kernel
theorem dX7_settle_0 : decode cX7_settle 0 = .ok (.aload_n 0, 1) := by decide +kernel
theorem dX7_settle_1 : decode cX7_settle 1 = .ok (.getfield 83, 3) := by decide +kernel
theorem dX7_settle_4 : decode cX7_settle 4 = .ok (.ifCond .le 68, 3) := by decide +kernel
theorem dX7_settle_7 : decode cX7_settle 7 = .ok (.aload_n 0, 1) := by decide +kernel
theorem dX7_settle_8 : decode cX7_settle 8 = .ok (.getfield 77, 3) := by decide +kernel
theorem dX7_settle_11 : decode cX7_settle 11 = .ok (.aload_n 0, 1) := by decide +kernel
theorem dX7_settle_12 : decode cX7_settle 12 = .ok (.getfield 83, 3) := by decide +kernel
theorem dX7_settle_15 : decode cX7_settle 15 = .ok (.iconst 1, 1) := by decide +kernel
theorem dX7_settle_16 : decode cX7_settle 16 = .ok (.isub, 1) := by decide +kernel
theorem dX7_settle_17 : decode cX7_settle 17 = .ok (.iaload, 1) := by decide +kernel
theorem dX7_settle_18 : decode cX7_settle 18 = .ok (.bipush 38, 2) := by decide +kernel
theorem dX7_settle_20 : decode cX7_settle 20 = .ok (.if_icmp .eq 25, 3) := by decide +kernel
theorem dX7_settle_23 : decode cX7_settle 23 = .ok (.aload_n 0, 1) := by decide +kernel
theorem dX7_settle_24 : decode cX7_settle 24 = .ok (.getfield 77, 3) := by decide +kernel
theorem dX7_settle_27 : decode cX7_settle 27 = .ok (.aload_n 0, 1) := by decide +kernel
theorem dX7_settle_28 : decode cX7_settle 28 = .ok (.getfield 83, 3) := by decide +kernel
theorem dX7_settle_31 : decode cX7_settle 31 = .ok (.iconst 1, 1) := by decide +kernel
theorem dX7_settle_32 : decode cX7_settle 32 = .ok (.isub, 1) := by decide +kernel
theorem dX7_settle_33 : decode cX7_settle 33 = .ok (.iaload, 1) := by decide +kernel
theorem dX7_settle_34 : decode cX7_settle 34 = .ok (.bipush 124, 2) := by decide +kernel
theorem dX7_settle_36 : decode cX7_settle 36 = .ok (.if_icmp .ne 36, 3) := by decide +kernel
theorem dX7_settle_39 : decode cX7_settle 39 = .ok (.iload_n 1, 1) := by decide +kernel
theorem dX7_settle_40 : decode cX7_settle 40 = .ok (.bipush 38, 2) := by decide +kernel
theorem dX7_settle_42 : decode cX7_settle 42 = .ok (.if_icmp .eq 30, 3) := by decide +kernel
theorem dX7_settle_45 : decode cX7_settle 45 = .ok (.aload_n 0, 1) := by decide +kernel
theorem dX7_settle_46 : decode cX7_settle 46 = .ok (.dup, 1) := by decide +kernel
theorem dX7_settle_47 : decode cX7_settle 47 = .ok (.getfield 83, 3) := by decide +kernel
theorem dX7_settle_50 : decode cX7_settle 50 = .ok (.iconst 1, 1) := by decide +kernel
theorem dX7_settle_51 : decode cX7_settle 51 = .ok (.isub, 1) := by decide +kernel
theorem dX7_settle_52 : decode cX7_settle 52 = .ok (.putfield 83, 3) := by decide +kernel
theorem dX7_settle_55 : decode cX7_settle 55 = .ok (.aload_n 0, 1) := by decide +kernel
theorem dX7_settle_56 : decode cX7_settle 56 = .ok (.aload_n 0, 1) := by decide +kernel
theorem dX7_settle_57 : decode cX7_settle 57 = .ok (.getfield 77, 3) := by decide +kernel
theorem dX7_settle_60 : decode cX7_settle 60 = .ok (.aload_n 0, 1) := by decide +kernel
theorem dX7_settle_61 : decode cX7_settle 61 = .ok (.getfield 83, 3) := by decide +kernel
theorem dX7_settle_64 : decode cX7_settle 64 = .ok (.iaload, 1) := by decide +kernel
theorem dX7_settle_65 : decode cX7_settle 65 = .ok (.ineg, 1) := by decide +kernel
theorem dX7_settle_66 : decode cX7_settle 66 = .ok (.invokevirtual 234, 3) := by decide +kernel
theorem dX7_settle_69 : decode cX7_settle 69 = .ok (.goto (-69), 3) := by decide +kernel
theorem dX7_settle_72 : decode cX7_settle 72 = .ok (.return_, 1) := by decide +kernel
theorem dX7_letterOf_0 : decode cX7_letterOf 0 = .ok (.iload_n 1, 1) := by decide +kernel
theorem dX7_letterOf_1 : decode cX7_letterOf 1 = .ok (.tableswitch 107 99 118 #[101, 107, 107, 107, 107, 107, 107, 107, 97, 107, 107, 103, 107, 95, 107, 105, 107, 107, 107, 99], 95) := by decide +kernel
theorem dX7_letterOf_96 : decode cX7_letterOf 96 = .ok (.iconst 0, 1) := by decide +kernel
theorem dX7_letterOf_97 : decode cX7_letterOf 97 = .ok (.ireturn, 1) := by decide +kernel
theorem dX7_letterOf_98 : decode cX7_letterOf 98 = .ok (.iconst 1, 1) := by decide +kernel
theorem dX7_letterOf_99 : decode cX7_letterOf 99 = .ok (.ireturn, 1) := by decide +kernel
theorem dX7_letterOf_100 : decode cX7_letterOf 100 = .ok (.iconst 2, 1) := by decide +kernel
theorem dX7_letterOf_101 : decode cX7_letterOf 101 = .ok (.ireturn, 1) := by decide +kernel
theorem dX7_letterOf_102 : decode cX7_letterOf 102 = .ok (.iconst 3, 1) := by decide +kernel
theorem dX7_letterOf_103 : decode cX7_letterOf 103 = .ok (.ireturn, 1) := by decide +kernel
theorem dX7_letterOf_104 : decode cX7_letterOf 104 = .ok (.iconst 4, 1) := by decide +kernel
theorem dX7_letterOf_105 : decode cX7_letterOf 105 = .ok (.ireturn, 1) := by decide +kernel
theorem dX7_letterOf_106 : decode cX7_letterOf 106 = .ok (.iconst 5, 1) := by decide +kernel
theorem dX7_letterOf_107 : decode cX7_letterOf 107 = .ok (.ireturn, 1) := by decide +kernel
theorem dX7_letterOf_108 : decode cX7_letterOf 108 = .ok (.iconst (-1), 1) := by decide +kernel
theorem dX7_letterOf_109 : decode cX7_letterOf 109 = .ok (.ireturn, 1) := by decide +kernel
theorem dX7_takesTest_0 : decode cX7_takesTest 0 = .ok (.aload_n 0, 1) := by decide +kernel
theorem dX7_takesTest_1 : decode cX7_takesTest 1 = .ok (.aload_n 0, 1) := by decide +kernel
theorem dX7_takesTest_2 : decode cX7_takesTest 2 = .ok (.invokevirtual 224, 3) := by decide +kernel
theorem dX7_takesTest_5 : decode cX7_takesTest 5 = .ok (.invokevirtual 238, 3) := by decide +kernel
theorem dX7_takesTest_8 : decode cX7_takesTest 8 = .ok (.istore_n 1, 1) := by decide +kernel
theorem dX7_takesTest_9 : decode cX7_takesTest 9 = .ok (.iload_n 1, 1) := by decide +kernel
theorem dX7_takesTest_10 : decode cX7_takesTest 10 = .ok (.ifCond .ge 5, 3) := by decide +kernel
theorem dX7_takesTest_13 : decode cX7_takesTest 13 = .ok (.iconst 0, 1) := by decide +kernel
theorem dX7_takesTest_14 : decode cX7_takesTest 14 = .ok (.ireturn, 1) := by decide +kernel
theorem dX7_takesTest_15 : decode cX7_takesTest 15 = .ok (.aload_n 0, 1) := by decide +kernel
theorem dX7_takesTest_16 : decode cX7_takesTest 16 = .ok (.dup, 1) := by decide +kernel
theorem dX7_takesTest_17 : decode cX7_takesTest 17 = .ok (.getfield 50, 3) := by decide +kernel
theorem dX7_takesTest_20 : decode cX7_takesTest 20 = .ok (.iconst 1, 1) := by decide +kernel
theorem dX7_takesTest_21 : decode cX7_takesTest 21 = .ok (.iadd, 1) := by decide +kernel
theorem dX7_takesTest_22 : decode cX7_takesTest 22 = .ok (.putfield 50, 3) := by decide +kernel
theorem dX7_takesTest_25 : decode cX7_takesTest 25 = .ok (.aload_n 0, 1) := by decide +kernel
theorem dX7_takesTest_26 : decode cX7_takesTest 26 = .ok (.invokevirtual 224, 3) := by decide +kernel
theorem dX7_takesTest_29 : decode cX7_takesTest 29 = .ok (.istore_n 2, 1) := by decide +kernel
theorem dX7_takesTest_30 : decode cX7_takesTest 30 = .ok (.aload_n 0, 1) := by decide +kernel
theorem dX7_takesTest_31 : decode cX7_takesTest 31 = .ok (.iload_n 2, 1) := by decide +kernel
theorem dX7_takesTest_32 : decode cX7_takesTest 32 = .ok (.bipush 60, 2) := by decide +kernel
theorem dX7_takesTest_34 : decode cX7_takesTest 34 = .ok (.bipush 62, 2) := by decide +kernel
theorem dX7_takesTest_36 : decode cX7_takesTest 36 = .ok (.invokevirtual 197, 3) := by decide +kernel
theorem dX7_takesTest_39 : decode cX7_takesTest 39 = .ok (.ifCond .ne 5, 3) := by decide +kernel
theorem dX7_takesTest_42 : decode cX7_takesTest 42 = .ok (.iconst 0, 1) := by decide +kernel
theorem dX7_takesTest_43 : decode cX7_takesTest 43 = .ok (.ireturn, 1) := by decide +kernel
theorem dX7_takesTest_44 : decode cX7_takesTest 44 = .ok (.aload_n 0, 1) := by decide +kernel
theorem dX7_takesTest_45 : decode cX7_takesTest 45 = .ok (.dup, 1) := by decide +kernel
theorem dX7_takesTest_46 : decode cX7_takesTest 46 = .ok (.getfield 50, 3) := by decide +kernel
theorem dX7_takesTest_49 : decode cX7_takesTest 49 = .ok (.iconst 1, 1) := by decide +kernel
theorem dX7_takesTest_50 : decode cX7_takesTest 50 = .ok (.iadd, 1) := by decide +kernel
theorem dX7_takesTest_51 : decode cX7_takesTest 51 = .ok (.putfield 50, 3) := by decide +kernel
theorem dX7_takesTest_54 : decode cX7_takesTest 54 = .ok (.aload_n 0, 1) := by decide +kernel
theorem dX7_takesTest_55 : decode cX7_takesTest 55 = .ok (.invokevirtual 241, 3) := by decide +kernel
theorem dX7_takesTest_58 : decode cX7_takesTest 58 = .ok (.ifCond .ne 5, 3) := by decide +kernel
theorem dX7_takesTest_61 : decode cX7_takesTest 61 = .ok (.iconst 0, 1) := by decide +kernel
theorem dX7_takesTest_62 : decode cX7_takesTest 62 = .ok (.ireturn, 1) := by decide +kernel
theorem dX7_takesTest_63 : decode cX7_takesTest 63 = .ok (.aload_n 0, 1) := by decide +kernel
theorem dX7_takesTest_64 : decode cX7_takesTest 64 = .ok (.sipush 1000, 3) := by decide +kernel
theorem dX7_takesTest_67 : decode cX7_takesTest 67 = .ok (.iload_n 1, 1) := by decide +kernel
theorem dX7_takesTest_68 : decode cX7_takesTest 68 = .ok (.imul, 1) := by decide +kernel
theorem dX7_takesTest_69 : decode cX7_takesTest 69 = .ok (.bipush 100, 2) := by decide +kernel
theorem dX7_takesTest_71 : decode cX7_takesTest 71 = .ok (.iload_n 2, 1) := by decide +kernel
theorem dX7_takesTest_72 : decode cX7_takesTest 72 = .ok (.bipush 60, 2) := by decide +kernel
theorem dX7_takesTest_74 : decode cX7_takesTest 74 = .ok (.isub, 1) := by decide +kernel
theorem dX7_takesTest_75 : decode cX7_takesTest 75 = .ok (.imul, 1) := by decide +kernel
theorem dX7_takesTest_76 : decode cX7_takesTest 76 = .ok (.iadd, 1) := by decide +kernel
theorem dX7_takesTest_77 : decode cX7_takesTest 77 = .ok (.aload_n 0, 1) := by decide +kernel
theorem dX7_takesTest_78 : decode cX7_takesTest 78 = .ok (.getfield 53, 3) := by decide +kernel
theorem dX7_takesTest_81 : decode cX7_takesTest 81 = .ok (.iadd, 1) := by decide +kernel
theorem dX7_takesTest_82 : decode cX7_takesTest 82 = .ok (.invokevirtual 234, 3) := by decide +kernel
theorem dX7_takesTest_85 : decode cX7_takesTest 85 = .ok (.aload_n 0, 1) := by decide +kernel
theorem dX7_takesTest_86 : decode cX7_takesTest 86 = .ok (.invokevirtual 244, 3) := by decide +kernel
theorem dX7_takesTest_89 : decode cX7_takesTest 89 = .ok (.iconst 1, 1) := by decide +kernel
theorem dX7_takesTest_90 : decode cX7_takesTest 90 = .ok (.ireturn, 1) := by decide +kernel
theorem dX7_takesE_0 : decode cX7_takesE 0 = .ok (.aload_n 0, 1) := by decide +kernel
theorem dX7_takesE_1 : decode cX7_takesE 1 = .ok (.iconst 0, 1) := by decide +kernel
theorem dX7_takesE_2 : decode cX7_takesE 2 = .ok (.putfield 83, 3) := by decide +kernel
theorem dX7_takesE_5 : decode cX7_takesE 5 = .ok (.aload_n 0, 1) := by decide +kernel
theorem dX7_takesE_6 : decode cX7_takesE 6 = .ok (.iconst 0, 1) := by decide +kernel
theorem dX7_takesE_7 : decode cX7_takesE 7 = .ok (.putfield 86, 3) := by decide +kernel
theorem dX7_takesE_10 : decode cX7_takesE 10 = .ok (.aload_n 0, 1) := by decide +kernel
theorem dX7_takesE_11 : decode cX7_takesE 11 = .ok (.getfield 68, 3) := by decide +kernel
theorem dX7_takesE_14 : decode cX7_takesE 14 = .ok (.iload_n 1, 1) := by decide +kernel
theorem dX7_takesE_15 : decode cX7_takesE 15 = .ok (.aload_n 0, 1) := by decide +kernel
theorem dX7_takesE_16 : decode cX7_takesE 16 = .ok (.getfield 80, 3) := by decide +kernel
theorem dX7_takesE_19 : decode cX7_takesE 19 = .ok (.iastore, 1) := by decide +kernel
theorem dX7_takesE_20 : decode cX7_takesE 20 = .ok (.iconst 1, 1) := by decide +kernel
theorem dX7_takesE_21 : decode cX7_takesE 21 = .ok (.istore_n 2, 1) := by decide +kernel
theorem dX7_takesE_22 : decode cX7_takesE 22 = .ok (.aload_n 0, 1) := by decide +kernel
theorem dX7_takesE_23 : decode cX7_takesE 23 = .ok (.invokevirtual 224, 3) := by decide +kernel
theorem dX7_takesE_26 : decode cX7_takesE 26 = .ok (.istore_n 3, 1) := by decide +kernel
theorem dX7_takesE_27 : decode cX7_takesE 27 = .ok (.iload_n 2, 1) := by decide +kernel
theorem dX7_takesE_28 : decode cX7_takesE 28 = .ok (.ifCond .eq 82, 3) := by decide +kernel
theorem dX7_takesE_31 : decode cX7_takesE 31 = .ok (.iload_n 3, 1) := by decide +kernel
theorem dX7_takesE_32 : decode cX7_takesE 32 = .ok (.bipush 33, 2) := by decide +kernel
theorem dX7_takesE_34 : decode cX7_takesE 34 = .ok (.if_icmp .eq 9, 3) := by decide +kernel
theorem dX7_takesE_37 : decode cX7_takesE 37 = .ok (.iload_n 3, 1) := by decide +kernel
theorem dX7_takesE_38 : decode cX7_takesE 38 = .ok (.bipush 40, 2) := by decide +kernel
theorem dX7_takesE_40 : decode cX7_takesE 40 = .ok (.if_icmp .ne 56, 3) := by decide +kernel
theorem dX7_takesE_43 : decode cX7_takesE 43 = .ok (.aload_n 0, 1) := by decide +kernel
theorem dX7_takesE_44 : decode cX7_takesE 44 = .ok (.getfield 86, 3) := by decide +kernel
theorem dX7_takesE_47 : decode cX7_takesE 47 = .ok (.iconst 4, 1) := by decide +kernel
theorem dX7_takesE_48 : decode cX7_takesE 48 = .ok (.if_icmp .ne 5, 3) := by decide +kernel
theorem dX7_takesE_51 : decode cX7_takesE 51 = .ok (.iconst 0, 1) := by decide +kernel
theorem dX7_takesE_52 : decode cX7_takesE 52 = .ok (.ireturn, 1) := by decide +kernel
theorem dX7_takesE_53 : decode cX7_takesE 53 = .ok (.aload_n 0, 1) := by decide +kernel
theorem dX7_takesE_54 : decode cX7_takesE 54 = .ok (.dup, 1) := by decide +kernel
theorem dX7_takesE_55 : decode cX7_takesE 55 = .ok (.getfield 86, 3) := by decide +kernel
theorem dX7_takesE_58 : decode cX7_takesE 58 = .ok (.iconst 1, 1) := by decide +kernel
theorem dX7_takesE_59 : decode cX7_takesE 59 = .ok (.iadd, 1) := by decide +kernel
theorem dX7_takesE_60 : decode cX7_takesE 60 = .ok (.putfield 86, 3) := by decide +kernel
theorem dX7_takesE_63 : decode cX7_takesE 63 = .ok (.aload_n 0, 1) := by decide +kernel
theorem dX7_takesE_64 : decode cX7_takesE 64 = .ok (.getfield 77, 3) := by decide +kernel
theorem dX7_takesE_67 : decode cX7_takesE 67 = .ok (.aload_n 0, 1) := by decide +kernel
theorem dX7_takesE_68 : decode cX7_takesE 68 = .ok (.getfield 83, 3) := by decide +kernel
theorem dX7_takesE_71 : decode cX7_takesE 71 = .ok (.iload_n 3, 1) := by decide +kernel
theorem dX7_takesE_72 : decode cX7_takesE 72 = .ok (.iastore, 1) := by decide +kernel
theorem dX7_takesE_73 : decode cX7_takesE 73 = .ok (.aload_n 0, 1) := by decide +kernel
theorem dX7_takesE_74 : decode cX7_takesE 74 = .ok (.dup, 1) := by decide +kernel
theorem dX7_takesE_75 : decode cX7_takesE 75 = .ok (.getfield 83, 3) := by decide +kernel
theorem dX7_takesE_78 : decode cX7_takesE 78 = .ok (.iconst 1, 1) := by decide +kernel
theorem dX7_takesE_79 : decode cX7_takesE 79 = .ok (.iadd, 1) := by decide +kernel
theorem dX7_takesE_80 : decode cX7_takesE 80 = .ok (.putfield 83, 3) := by decide +kernel
theorem dX7_takesE_83 : decode cX7_takesE 83 = .ok (.aload_n 0, 1) := by decide +kernel
theorem dX7_takesE_84 : decode cX7_takesE 84 = .ok (.dup, 1) := by decide +kernel
theorem dX7_takesE_85 : decode cX7_takesE 85 = .ok (.getfield 50, 3) := by decide +kernel
theorem dX7_takesE_88 : decode cX7_takesE 88 = .ok (.iconst 1, 1) := by decide +kernel
theorem dX7_takesE_89 : decode cX7_takesE 89 = .ok (.iadd, 1) := by decide +kernel
theorem dX7_takesE_90 : decode cX7_takesE 90 = .ok (.putfield 50, 3) := by decide +kernel
theorem dX7_takesE_93 : decode cX7_takesE 93 = .ok (.goto (-71), 3) := by decide +kernel
theorem dX7_takesE_96 : decode cX7_takesE 96 = .ok (.aload_n 0, 1) := by decide +kernel
theorem dX7_takesE_97 : decode cX7_takesE 97 = .ok (.invokevirtual 247, 3) := by decide +kernel
theorem dX7_takesE_100 : decode cX7_takesE 100 = .ok (.ifCond .eq 8, 3) := by decide +kernel
theorem dX7_takesE_103 : decode cX7_takesE 103 = .ok (.iconst 0, 1) := by decide +kernel
theorem dX7_takesE_104 : decode cX7_takesE 104 = .ok (.istore_n 2, 1) := by decide +kernel
theorem dX7_takesE_105 : decode cX7_takesE 105 = .ok (.goto (-83), 3) := by decide +kernel
theorem dX7_takesE_108 : decode cX7_takesE 108 = .ok (.iconst 0, 1) := by decide +kernel
theorem dX7_takesE_109 : decode cX7_takesE 109 = .ok (.ireturn, 1) := by decide +kernel
theorem dX7_takesE_110 : decode cX7_takesE 110 = .ok (.iload_n 3, 1) := by decide +kernel
theorem dX7_takesE_111 : decode cX7_takesE 111 = .ok (.bipush 38, 2) := by decide +kernel
theorem dX7_takesE_113 : decode cX7_takesE 113 = .ok (.if_icmp .eq 9, 3) := by decide +kernel
theorem dX7_takesE_116 : decode cX7_takesE 116 = .ok (.iload_n 3, 1) := by decide +kernel
theorem dX7_takesE_117 : decode cX7_takesE 117 = .ok (.bipush 124, 2) := by decide +kernel
theorem dX7_takesE_119 : decode cX7_takesE 119 = .ok (.if_icmp .ne 43, 3) := by decide +kernel
theorem dX7_takesE_122 : decode cX7_takesE 122 = .ok (.aload_n 0, 1) := by decide +kernel
theorem dX7_takesE_123 : decode cX7_takesE 123 = .ok (.iload_n 3, 1) := by decide +kernel
theorem dX7_takesE_124 : decode cX7_takesE 124 = .ok (.invokevirtual 250, 3) := by decide +kernel
theorem dX7_takesE_127 : decode cX7_takesE 127 = .ok (.aload_n 0, 1) := by decide +kernel
theorem dX7_takesE_128 : decode cX7_takesE 128 = .ok (.getfield 77, 3) := by decide +kernel
theorem dX7_takesE_131 : decode cX7_takesE 131 = .ok (.aload_n 0, 1) := by decide +kernel
theorem dX7_takesE_132 : decode cX7_takesE 132 = .ok (.getfield 83, 3) := by decide +kernel
theorem dX7_takesE_135 : decode cX7_takesE 135 = .ok (.iload_n 3, 1) := by decide +kernel
theorem dX7_takesE_136 : decode cX7_takesE 136 = .ok (.iastore, 1) := by decide +kernel
theorem dX7_takesE_137 : decode cX7_takesE 137 = .ok (.aload_n 0, 1) := by decide +kernel
theorem dX7_takesE_138 : decode cX7_takesE 138 = .ok (.dup, 1) := by decide +kernel
theorem dX7_takesE_139 : decode cX7_takesE 139 = .ok (.getfield 83, 3) := by decide +kernel
theorem dX7_takesE_142 : decode cX7_takesE 142 = .ok (.iconst 1, 1) := by decide +kernel
theorem dX7_takesE_143 : decode cX7_takesE 143 = .ok (.iadd, 1) := by decide +kernel
theorem dX7_takesE_144 : decode cX7_takesE 144 = .ok (.putfield 83, 3) := by decide +kernel
theorem dX7_takesE_147 : decode cX7_takesE 147 = .ok (.iconst 1, 1) := by decide +kernel
theorem dX7_takesE_148 : decode cX7_takesE 148 = .ok (.istore_n 2, 1) := by decide +kernel
theorem dX7_takesE_149 : decode cX7_takesE 149 = .ok (.aload_n 0, 1) := by decide +kernel
theorem dX7_takesE_150 : decode cX7_takesE 150 = .ok (.dup, 1) := by decide +kernel
theorem dX7_takesE_151 : decode cX7_takesE 151 = .ok (.getfield 50, 3) := by decide +kernel
theorem dX7_takesE_154 : decode cX7_takesE 154 = .ok (.iconst 1, 1) := by decide +kernel
theorem dX7_takesE_155 : decode cX7_takesE 155 = .ok (.iadd, 1) := by decide +kernel
theorem dX7_takesE_156 : decode cX7_takesE 156 = .ok (.putfield 50, 3) := by decide +kernel
theorem dX7_takesE_159 : decode cX7_takesE 159 = .ok (.goto (-137), 3) := by decide +kernel
theorem dX7_takesE_162 : decode cX7_takesE 162 = .ok (.aload_n 0, 1) := by decide +kernel
theorem dX7_takesE_163 : decode cX7_takesE 163 = .ok (.bipush 124, 2) := by decide +kernel
theorem dX7_takesE_165 : decode cX7_takesE 165 = .ok (.invokevirtual 250, 3) := by decide +kernel
theorem dX7_takesE_168 : decode cX7_takesE 168 = .ok (.aload_n 0, 1) := by decide +kernel
theorem dX7_takesE_169 : decode cX7_takesE 169 = .ok (.getfield 71, 3) := by decide +kernel
theorem dX7_takesE_172 : decode cX7_takesE 172 = .ok (.iload_n 1, 1) := by decide +kernel
theorem dX7_takesE_173 : decode cX7_takesE 173 = .ok (.aload_n 0, 1) := by decide +kernel
theorem dX7_takesE_174 : decode cX7_takesE 174 = .ok (.getfield 80, 3) := by decide +kernel
theorem dX7_takesE_177 : decode cX7_takesE 177 = .ok (.iastore, 1) := by decide +kernel
theorem dX7_takesE_178 : decode cX7_takesE 178 = .ok (.aload_n 0, 1) := by decide +kernel
theorem dX7_takesE_179 : decode cX7_takesE 179 = .ok (.getfield 83, 3) := by decide +kernel
theorem dX7_takesE_182 : decode cX7_takesE 182 = .ok (.ifCond .ne 5, 3) := by decide +kernel
theorem dX7_takesE_185 : decode cX7_takesE 185 = .ok (.iconst 1, 1) := by decide +kernel
theorem dX7_takesE_186 : decode cX7_takesE 186 = .ok (.ireturn, 1) := by decide +kernel
theorem dX7_takesE_187 : decode cX7_takesE 187 = .ok (.iload_n 3, 1) := by decide +kernel
theorem dX7_takesE_188 : decode cX7_takesE 188 = .ok (.bipush 41, 2) := by decide +kernel
theorem dX7_takesE_190 : decode cX7_takesE 190 = .ok (.if_icmp .eq 5, 3) := by decide +kernel
theorem dX7_takesE_193 : decode cX7_takesE 193 = .ok (.iconst 0, 1) := by decide +kernel
theorem dX7_takesE_194 : decode cX7_takesE 194 = .ok (.ireturn, 1) := by decide +kernel
theorem dX7_takesE_195 : decode cX7_takesE 195 = .ok (.aload_n 0, 1) := by decide +kernel
theorem dX7_takesE_196 : decode cX7_takesE 196 = .ok (.dup, 1) := by decide +kernel
theorem dX7_takesE_197 : decode cX7_takesE 197 = .ok (.getfield 83, 3) := by decide +kernel
theorem dX7_takesE_200 : decode cX7_takesE 200 = .ok (.iconst 1, 1) := by decide +kernel
theorem dX7_takesE_201 : decode cX7_takesE 201 = .ok (.isub, 1) := by decide +kernel
theorem dX7_takesE_202 : decode cX7_takesE 202 = .ok (.putfield 83, 3) := by decide +kernel
theorem dX7_takesE_205 : decode cX7_takesE 205 = .ok (.aload_n 0, 1) := by decide +kernel
theorem dX7_takesE_206 : decode cX7_takesE 206 = .ok (.dup, 1) := by decide +kernel
theorem dX7_takesE_207 : decode cX7_takesE 207 = .ok (.getfield 86, 3) := by decide +kernel
theorem dX7_takesE_210 : decode cX7_takesE 210 = .ok (.iconst 1, 1) := by decide +kernel
theorem dX7_takesE_211 : decode cX7_takesE 211 = .ok (.isub, 1) := by decide +kernel
theorem dX7_takesE_212 : decode cX7_takesE 212 = .ok (.putfield 86, 3) := by decide +kernel
theorem dX7_takesE_215 : decode cX7_takesE 215 = .ok (.aload_n 0, 1) := by decide +kernel
theorem dX7_takesE_216 : decode cX7_takesE 216 = .ok (.dup, 1) := by decide +kernel
theorem dX7_takesE_217 : decode cX7_takesE 217 = .ok (.getfield 50, 3) := by decide +kernel
theorem dX7_takesE_220 : decode cX7_takesE 220 = .ok (.iconst 1, 1) := by decide +kernel
theorem dX7_takesE_221 : decode cX7_takesE 221 = .ok (.iadd, 1) := by decide +kernel
theorem dX7_takesE_222 : decode cX7_takesE 222 = .ok (.putfield 50, 3) := by decide +kernel
theorem dX7_takesE_225 : decode cX7_takesE 225 = .ok (.aload_n 0, 1) := by decide +kernel
theorem dX7_takesE_226 : decode cX7_takesE 226 = .ok (.invokevirtual 244, 3) := by decide +kernel
theorem dX7_takesE_229 : decode cX7_takesE 229 = .ok (.goto (-207), 3) := by decide +kernel
theorem dX7_takesHead_0 : decode cX7_takesHead 0 = .ok (.aload_n 0, 1) := by decide +kernel
theorem dX7_takesHead_1 : decode cX7_takesHead 1 = .ok (.invokevirtual 224, 3) := by decide +kernel
theorem dX7_takesHead_4 : decode cX7_takesHead 4 = .ok (.lookupswitch 56 #[(102, 42), (103, 28)], 28) := by decide +kernel
theorem dX7_takesHead_32 : decode cX7_takesHead 32 = .ok (.aload_n 0, 1) := by decide +kernel
theorem dX7_takesHead_33 : decode cX7_takesHead 33 = .ok (.getfield 62, 3) := by decide +kernel
theorem dX7_takesHead_36 : decode cX7_takesHead 36 = .ok (.iload_n 1, 1) := by decide +kernel
theorem dX7_takesHead_37 : decode cX7_takesHead 37 = .ok (.iconst 0, 1) := by decide +kernel
theorem dX7_takesHead_38 : decode cX7_takesHead 38 = .ok (.iastore, 1) := by decide +kernel
theorem dX7_takesHead_39 : decode cX7_takesHead 39 = .ok (.aload_n 0, 1) := by decide +kernel
theorem dX7_takesHead_40 : decode cX7_takesHead 40 = .ok (.iconst 0, 1) := by decide +kernel
theorem dX7_takesHead_41 : decode cX7_takesHead 41 = .ok (.iconst 5, 1) := by decide +kernel
theorem dX7_takesHead_42 : decode cX7_takesHead 42 = .ok (.invokevirtual 253, 3) := by decide +kernel
theorem dX7_takesHead_45 : decode cX7_takesHead 45 = .ok (.ireturn, 1) := by decide +kernel
theorem dX7_takesHead_46 : decode cX7_takesHead 46 = .ok (.aload_n 0, 1) := by decide +kernel
theorem dX7_takesHead_47 : decode cX7_takesHead 47 = .ok (.getfield 62, 3) := by decide +kernel
theorem dX7_takesHead_50 : decode cX7_takesHead 50 = .ok (.iload_n 1, 1) := by decide +kernel
theorem dX7_takesHead_51 : decode cX7_takesHead 51 = .ok (.iconst 1, 1) := by decide +kernel
theorem dX7_takesHead_52 : decode cX7_takesHead 52 = .ok (.iastore, 1) := by decide +kernel
theorem dX7_takesHead_53 : decode cX7_takesHead 53 = .ok (.aload_n 0, 1) := by decide +kernel
theorem dX7_takesHead_54 : decode cX7_takesHead 54 = .ok (.iconst 5, 1) := by decide +kernel
theorem dX7_takesHead_55 : decode cX7_takesHead 55 = .ok (.iconst 3, 1) := by decide +kernel
theorem dX7_takesHead_56 : decode cX7_takesHead 56 = .ok (.invokevirtual 253, 3) := by decide +kernel
theorem dX7_takesHead_59 : decode cX7_takesHead 59 = .ok (.ireturn, 1) := by decide +kernel
theorem dX7_takesHead_60 : decode cX7_takesHead 60 = .ok (.aload_n 0, 1) := by decide +kernel
theorem dX7_takesHead_61 : decode cX7_takesHead 61 = .ok (.getfield 62, 3) := by decide +kernel
theorem dX7_takesHead_64 : decode cX7_takesHead 64 = .ok (.iload_n 1, 1) := by decide +kernel
theorem dX7_takesHead_65 : decode cX7_takesHead 65 = .ok (.iconst 2, 1) := by decide +kernel
theorem dX7_takesHead_66 : decode cX7_takesHead 66 = .ok (.iastore, 1) := by decide +kernel
theorem dX7_takesHead_67 : decode cX7_takesHead 67 = .ok (.aload_n 0, 1) := by decide +kernel
theorem dX7_takesHead_68 : decode cX7_takesHead 68 = .ok (.bipush 8, 2) := by decide +kernel
theorem dX7_takesHead_70 : decode cX7_takesHead 70 = .ok (.iconst 4, 1) := by decide +kernel
theorem dX7_takesHead_71 : decode cX7_takesHead 71 = .ok (.invokevirtual 253, 3) := by decide +kernel
theorem dX7_takesHead_74 : decode cX7_takesHead 74 = .ok (.ireturn, 1) := by decide +kernel
theorem dX7_takesClause_0 : decode cX7_takesClause 0 = .ok (.aload_n 0, 1) := by decide +kernel
theorem dX7_takesClause_1 : decode cX7_takesClause 1 = .ok (.iload_n 1, 1) := by decide +kernel
theorem dX7_takesClause_2 : decode cX7_takesClause 2 = .ok (.invokevirtual 256, 3) := by decide +kernel
theorem dX7_takesClause_5 : decode cX7_takesClause 5 = .ok (.ifCond .eq 10, 3) := by decide +kernel
theorem dX7_takesClause_8 : decode cX7_takesClause 8 = .ok (.aload_n 0, 1) := by decide +kernel
theorem dX7_takesClause_9 : decode cX7_takesClause 9 = .ok (.invokevirtual 241, 3) := by decide +kernel
theorem dX7_takesClause_12 : decode cX7_takesClause 12 = .ok (.ifCond .ne 5, 3) := by decide +kernel
theorem dX7_takesClause_15 : decode cX7_takesClause 15 = .ok (.iconst 0, 1) := by decide +kernel
theorem dX7_takesClause_16 : decode cX7_takesClause 16 = .ok (.ireturn, 1) := by decide +kernel
theorem dX7_takesClause_17 : decode cX7_takesClause 17 = .ok (.aload_n 0, 1) := by decide +kernel
theorem dX7_takesClause_18 : decode cX7_takesClause 18 = .ok (.getfield 65, 3) := by decide +kernel
theorem dX7_takesClause_21 : decode cX7_takesClause 21 = .ok (.iload_n 1, 1) := by decide +kernel
theorem dX7_takesClause_22 : decode cX7_takesClause 22 = .ok (.aload_n 0, 1) := by decide +kernel
theorem dX7_takesClause_23 : decode cX7_takesClause 23 = .ok (.getfield 53, 3) := by decide +kernel
theorem dX7_takesClause_26 : decode cX7_takesClause 26 = .ok (.iastore, 1) := by decide +kernel
theorem dX7_takesClause_27 : decode cX7_takesClause 27 = .ok (.aload_n 0, 1) := by decide +kernel
theorem dX7_takesClause_28 : decode cX7_takesClause 28 = .ok (.getfield 62, 3) := by decide +kernel
theorem dX7_takesClause_31 : decode cX7_takesClause 31 = .ok (.iload_n 1, 1) := by decide +kernel
theorem dX7_takesClause_32 : decode cX7_takesClause 32 = .ok (.iaload, 1) := by decide +kernel
theorem dX7_takesClause_33 : decode cX7_takesClause 33 = .ok (.iconst 2, 1) := by decide +kernel
theorem dX7_takesClause_34 : decode cX7_takesClause 34 = .ok (.if_icmp .eq 20, 3) := by decide +kernel
theorem dX7_takesClause_37 : decode cX7_takesClause 37 = .ok (.aload_n 0, 1) := by decide +kernel
theorem dX7_takesClause_38 : decode cX7_takesClause 38 = .ok (.bipush 32, 2) := by decide +kernel
end
section
theorem dX7_takesClause_40 : decode cX7_takesClause 40 = .ok (.invokevirtual 227, 3) := by decide +kernel
theorem dX7_takesClause_43 : decode cX7_takesClause 43 = .ok (.ifCond .eq 15, 3) := by decide +kernel
theorem dX7_takesClause_46 : decode cX7_takesClause 46 = .ok (.aload_n 0, 1) := by decide +kernel
theorem dX7_takesClause_47 : decode cX7_takesClause 47 = .ok (.iload_n 1, 1) := by decide +kernel
theorem dX7_takesClause_48 : decode cX7_takesClause 48 = .ok (.invokevirtual 259, 3) := by decide +kernel
theorem dX7_takesClause_51 : decode cX7_takesClause 51 = .ok (.ifCond .eq 7, 3) := by decide +kernel
theorem dX7_takesClause_54 : decode cX7_takesClause 54 = .ok (.iconst 1, 1) := by decide +kernel
theorem dX7_takesClause_55 : decode cX7_takesClause 55 = .ok (.goto 4, 3) := by decide +kernel
theorem dX7_takesClause_58 : decode cX7_takesClause 58 = .ok (.iconst 0, 1) := by decide +kernel
theorem dX7_takesClause_59 : decode cX7_takesClause 59 = .ok (.ireturn, 1) := by decide +kernel
theorem dX7_goesText_0 : decode cX7_goesText 0 = .ok (.aload_n 0, 1) := by decide +kernel
theorem dX7_goesText_1 : decode cX7_goesText 1 = .ok (.iconst 0, 1) := by decide +kernel
theorem dX7_goesText_2 : decode cX7_goesText 2 = .ok (.putfield 50, 3) := by decide +kernel
theorem dX7_goesText_5 : decode cX7_goesText 5 = .ok (.aload_n 0, 1) := by decide +kernel
theorem dX7_goesText_6 : decode cX7_goesText 6 = .ok (.bipush 100, 2) := by decide +kernel
theorem dX7_goesText_8 : decode cX7_goesText 8 = .ok (.iload_n 1, 1) := by decide +kernel
theorem dX7_goesText_9 : decode cX7_goesText 9 = .ok (.imul, 1) := by decide +kernel
theorem dX7_goesText_10 : decode cX7_goesText 10 = .ok (.putfield 80, 3) := by decide +kernel
theorem dX7_goesText_13 : decode cX7_goesText 13 = .ok (.iconst 0, 1) := by decide +kernel
theorem dX7_goesText_14 : decode cX7_goesText 14 = .ok (.istore_n 2, 1) := by decide +kernel
theorem dX7_goesText_15 : decode cX7_goesText 15 = .ok (.aload_n 0, 1) := by decide +kernel
theorem dX7_goesText_16 : decode cX7_goesText 16 = .ok (.bipush 10, 2) := by decide +kernel
theorem dX7_goesText_18 : decode cX7_goesText 18 = .ok (.iload_n 1, 1) := by decide +kernel
theorem dX7_goesText_19 : decode cX7_goesText 19 = .ok (.imul, 1) := by decide +kernel
theorem dX7_goesText_20 : decode cX7_goesText 20 = .ok (.iload_n 2, 1) := by decide +kernel
theorem dX7_goesText_21 : decode cX7_goesText 21 = .ok (.iadd, 1) := by decide +kernel
theorem dX7_goesText_22 : decode cX7_goesText 22 = .ok (.invokevirtual 262, 3) := by decide +kernel
theorem dX7_goesText_25 : decode cX7_goesText 25 = .ok (.ifCond .ne 5, 3) := by decide +kernel
theorem dX7_goesText_28 : decode cX7_goesText 28 = .ok (.iconst 0, 1) := by decide +kernel
theorem dX7_goesText_29 : decode cX7_goesText 29 = .ok (.ireturn, 1) := by decide +kernel
theorem dX7_goesText_30 : decode cX7_goesText 30 = .ok (.iinc 2 1, 3) := by decide +kernel
theorem dX7_goesText_33 : decode cX7_goesText 33 = .ok (.aload_n 0, 1) := by decide +kernel
theorem dX7_goesText_34 : decode cX7_goesText 34 = .ok (.getfield 59, 3) := by decide +kernel
theorem dX7_goesText_37 : decode cX7_goesText 37 = .ok (.iload_n 1, 1) := by decide +kernel
theorem dX7_goesText_38 : decode cX7_goesText 38 = .ok (.iload_n 2, 1) := by decide +kernel
theorem dX7_goesText_39 : decode cX7_goesText 39 = .ok (.iastore, 1) := by decide +kernel
theorem dX7_goesText_40 : decode cX7_goesText 40 = .ok (.aload_n 0, 1) := by decide +kernel
theorem dX7_goesText_41 : decode cX7_goesText 41 = .ok (.getfield 50, 3) := by decide +kernel
theorem dX7_goesText_44 : decode cX7_goesText 44 = .ok (.aload_n 0, 1) := by decide +kernel
theorem dX7_goesText_45 : decode cX7_goesText 45 = .ok (.getfield 47, 3) := by decide +kernel
theorem dX7_goesText_48 : decode cX7_goesText 48 = .ok (.if_icmp .ne 5, 3) := by decide +kernel
theorem dX7_goesText_51 : decode cX7_goesText 51 = .ok (.iconst 1, 1) := by decide +kernel
theorem dX7_goesText_52 : decode cX7_goesText 52 = .ok (.ireturn, 1) := by decide +kernel
theorem dX7_goesText_53 : decode cX7_goesText 53 = .ok (.iload_n 2, 1) := by decide +kernel
theorem dX7_goesText_54 : decode cX7_goesText 54 = .ok (.bipush 10, 2) := by decide +kernel
theorem dX7_goesText_56 : decode cX7_goesText 56 = .ok (.if_icmp .eq 12, 3) := by decide +kernel
theorem dX7_goesText_59 : decode cX7_goesText 59 = .ok (.aload_n 0, 1) := by decide +kernel
theorem dX7_goesText_60 : decode cX7_goesText 60 = .ok (.bipush 59, 2) := by decide +kernel
theorem dX7_goesText_62 : decode cX7_goesText 62 = .ok (.invokevirtual 227, 3) := by decide +kernel
theorem dX7_goesText_65 : decode cX7_goesText 65 = .ok (.ifCond .ne (-50), 3) := by decide +kernel
theorem dX7_goesText_68 : decode cX7_goesText 68 = .ok (.iconst 0, 1) := by decide +kernel
theorem dX7_goesText_69 : decode cX7_goesText 69 = .ok (.ireturn, 1) := by decide +kernel
theorem dX7_land_0 : decode cX7_land 0 = .ok (.aload_n 0, 1) := by decide +kernel
theorem dX7_land_1 : decode cX7_land 1 = .ok (.getfield 41, 3) := by decide +kernel
theorem dX7_land_4 : decode cX7_land 4 = .ok (.bipush 6, 2) := by decide +kernel
theorem dX7_land_6 : decode cX7_land 6 = .ok (.if_icmp .ne 6, 3) := by decide +kernel
theorem dX7_land_9 : decode cX7_land 9 = .ok (.bipush (-4), 2) := by decide +kernel
theorem dX7_land_11 : decode cX7_land 11 = .ok (.ireturn, 1) := by decide +kernel
theorem dX7_land_12 : decode cX7_land 12 = .ok (.aload_n 0, 1) := by decide +kernel
theorem dX7_land_13 : decode cX7_land 13 = .ok (.aload_n 0, 1) := by decide +kernel
theorem dX7_land_14 : decode cX7_land 14 = .ok (.getfield 41, 3) := by decide +kernel
theorem dX7_land_17 : decode cX7_land 17 = .ok (.invokevirtual 265, 3) := by decide +kernel
theorem dX7_land_20 : decode cX7_land 20 = .ok (.istore_n 1, 1) := by decide +kernel
theorem dX7_land_21 : decode cX7_land 21 = .ok (.aload_n 0, 1) := by decide +kernel
theorem dX7_land_22 : decode cX7_land 22 = .ok (.iconst 0, 1) := by decide +kernel
theorem dX7_land_23 : decode cX7_land 23 = .ok (.putfield 47, 3) := by decide +kernel
theorem dX7_land_26 : decode cX7_land 26 = .ok (.iload_n 1, 1) := by decide +kernel
theorem dX7_land_27 : decode cX7_land 27 = .ok (.ifCond .ne 11, 3) := by decide +kernel
theorem dX7_land_30 : decode cX7_land 30 = .ok (.bipush (-10), 2) := by decide +kernel
theorem dX7_land_32 : decode cX7_land 32 = .ok (.aload_n 0, 1) := by decide +kernel
theorem dX7_land_33 : decode cX7_land 33 = .ok (.getfield 50, 3) := by decide +kernel
theorem dX7_land_36 : decode cX7_land 36 = .ok (.isub, 1) := by decide +kernel
theorem dX7_land_37 : decode cX7_land 37 = .ok (.ireturn, 1) := by decide +kernel
theorem dX7_land_38 : decode cX7_land 38 = .ok (.aload_n 0, 1) := by decide +kernel
theorem dX7_land_39 : decode cX7_land 39 = .ok (.aload_n 0, 1) := by decide +kernel
theorem dX7_land_40 : decode cX7_land 40 = .ok (.getfield 41, 3) := by decide +kernel
theorem dX7_land_43 : decode cX7_land 43 = .ok (.putfield 44, 3) := by decide +kernel
theorem dX7_land_46 : decode cX7_land 46 = .ok (.aload_n 0, 1) := by decide +kernel
theorem dX7_land_47 : decode cX7_land 47 = .ok (.dup, 1) := by decide +kernel
theorem dX7_land_48 : decode cX7_land 48 = .ok (.getfield 41, 3) := by decide +kernel
theorem dX7_land_51 : decode cX7_land 51 = .ok (.iconst 1, 1) := by decide +kernel
theorem dX7_land_52 : decode cX7_land 52 = .ok (.iadd, 1) := by decide +kernel
theorem dX7_land_53 : decode cX7_land 53 = .ok (.putfield 41, 3) := by decide +kernel
theorem dX7_land_56 : decode cX7_land 56 = .ok (.aload_n 0, 1) := by decide +kernel
theorem dX7_land_57 : decode cX7_land 57 = .ok (.getfield 44, 3) := by decide +kernel
theorem dX7_land_60 : decode cX7_land 60 = .ok (.ireturn, 1) := by decide +kernel
theorem dX7_begin_0 : decode cX7_begin 0 = .ok (.aload_n 0, 1) := by decide +kernel
theorem dX7_begin_1 : decode cX7_begin 1 = .ok (.getfield 44, 3) := by decide +kernel
theorem dX7_begin_4 : decode cX7_begin 4 = .ok (.ifCond .ge 7, 3) := by decide +kernel
theorem dX7_begin_7 : decode cX7_begin 7 = .ok (.iconst 0, 1) := by decide +kernel
theorem dX7_begin_8 : decode cX7_begin 8 = .ok (.goto 10, 3) := by decide +kernel
theorem dX7_begin_11 : decode cX7_begin 11 = .ok (.bipush 10, 2) := by decide +kernel
theorem dX7_begin_13 : decode cX7_begin 13 = .ok (.aload_n 0, 1) := by decide +kernel
theorem dX7_begin_14 : decode cX7_begin 14 = .ok (.getfield 44, 3) := by decide +kernel
theorem dX7_begin_17 : decode cX7_begin 17 = .ok (.imul, 1) := by decide +kernel
theorem dX7_begin_18 : decode cX7_begin 18 = .ok (.ireturn, 1) := by decide +kernel
theorem dX7_behind_0 : decode cX7_behind 0 = .ok (.aload_n 0, 1) := by decide +kernel
theorem dX7_behind_1 : decode cX7_behind 1 = .ok (.getfield 44, 3) := by decide +kernel
theorem dX7_behind_4 : decode cX7_behind 4 = .ok (.ifCond .ge 7, 3) := by decide +kernel
theorem dX7_behind_7 : decode cX7_behind 7 = .ok (.iconst 0, 1) := by decide +kernel
theorem dX7_behind_8 : decode cX7_behind 8 = .ok (.goto 20, 3) := by decide +kernel
theorem dX7_behind_11 : decode cX7_behind 11 = .ok (.bipush 10, 2) := by decide +kernel
theorem dX7_behind_13 : decode cX7_behind 13 = .ok (.aload_n 0, 1) := by decide +kernel
theorem dX7_behind_14 : decode cX7_behind 14 = .ok (.getfield 44, 3) := by decide +kernel
theorem dX7_behind_17 : decode cX7_behind 17 = .ok (.imul, 1) := by decide +kernel
theorem dX7_behind_18 : decode cX7_behind 18 = .ok (.aload_n 0, 1) := by decide +kernel
theorem dX7_behind_19 : decode cX7_behind 19 = .ok (.getfield 59, 3) := by decide +kernel
theorem dX7_behind_22 : decode cX7_behind 22 = .ok (.aload_n 0, 1) := by decide +kernel
theorem dX7_behind_23 : decode cX7_behind 23 = .ok (.getfield 44, 3) := by decide +kernel
theorem dX7_behind_26 : decode cX7_behind 26 = .ok (.iaload, 1) := by decide +kernel
theorem dX7_behind_27 : decode cX7_behind 27 = .ok (.iadd, 1) := by decide +kernel
theorem dX7_behind_28 : decode cX7_behind 28 = .ok (.ireturn, 1) := by decide +kernel
theorem dX7_armsNow_0 : decode cX7_armsNow 0 = .ok (.iconst 4, 1) := by decide +kernel
theorem dX7_armsNow_1 : decode cX7_armsNow 1 = .ok (.istore_n 1, 1) := by decide +kernel
theorem dX7_armsNow_2 : decode cX7_armsNow 2 = .ok (.aload_n 0, 1) := by decide +kernel
theorem dX7_armsNow_3 : decode cX7_armsNow 3 = .ok (.invokevirtual 268, 3) := by decide +kernel
theorem dX7_armsNow_6 : decode cX7_armsNow 6 = .ok (.istore_n 2, 1) := by decide +kernel
theorem dX7_armsNow_7 : decode cX7_armsNow 7 = .ok (.iload_n 2, 1) := by decide +kernel
theorem dX7_armsNow_8 : decode cX7_armsNow 8 = .ok (.aload_n 0, 1) := by decide +kernel
theorem dX7_armsNow_9 : decode cX7_armsNow 9 = .ok (.invokevirtual 271, 3) := by decide +kernel
theorem dX7_armsNow_12 : decode cX7_armsNow 12 = .ok (.if_icmp .ge 30, 3) := by decide +kernel
theorem dX7_armsNow_15 : decode cX7_armsNow 15 = .ok (.aload_n 0, 1) := by decide +kernel
theorem dX7_armsNow_16 : decode cX7_armsNow 16 = .ok (.getfield 62, 3) := by decide +kernel
theorem dX7_armsNow_19 : decode cX7_armsNow 19 = .ok (.iload_n 2, 1) := by decide +kernel
theorem dX7_armsNow_20 : decode cX7_armsNow 20 = .ok (.iaload, 1) := by decide +kernel
theorem dX7_armsNow_21 : decode cX7_armsNow 21 = .ok (.iconst 2, 1) := by decide +kernel
theorem dX7_armsNow_22 : decode cX7_armsNow 22 = .ok (.if_icmp .ne 12, 3) := by decide +kernel
theorem dX7_armsNow_25 : decode cX7_armsNow 25 = .ok (.aload_n 0, 1) := by decide +kernel
theorem dX7_armsNow_26 : decode cX7_armsNow 26 = .ok (.getfield 65, 3) := by decide +kernel
theorem dX7_armsNow_29 : decode cX7_armsNow 29 = .ok (.iload_n 2, 1) := by decide +kernel
theorem dX7_armsNow_30 : decode cX7_armsNow 30 = .ok (.iaload, 1) := by decide +kernel
theorem dX7_armsNow_31 : decode cX7_armsNow 31 = .ok (.goto 4, 3) := by decide +kernel
theorem dX7_armsNow_34 : decode cX7_armsNow 34 = .ok (.iload_n 1, 1) := by decide +kernel
theorem dX7_armsNow_35 : decode cX7_armsNow 35 = .ok (.istore_n 1, 1) := by decide +kernel
theorem dX7_armsNow_36 : decode cX7_armsNow 36 = .ok (.iinc 2 1, 3) := by decide +kernel
theorem dX7_armsNow_39 : decode cX7_armsNow 39 = .ok (.goto (-32), 3) := by decide +kernel
theorem dX7_armsNow_42 : decode cX7_armsNow 42 = .ok (.iload_n 1, 1) := by decide +kernel
theorem dX7_armsNow_43 : decode cX7_armsNow 43 = .ok (.ireturn, 1) := by decide +kernel
theorem dX7_factOf_0 : decode cX7_factOf 0 = .ok (.iload_n 1, 1) := by decide +kernel
theorem dX7_factOf_1 : decode cX7_factOf 1 = .ok (.tableswitch 72 0 4 #[35, 37, 44, 51, 61], 35) := by decide +kernel
theorem dX7_factOf_36 : decode cX7_factOf 36 = .ok (.iload_n 2, 1) := by decide +kernel
theorem dX7_factOf_37 : decode cX7_factOf 37 = .ok (.ireturn, 1) := by decide +kernel
theorem dX7_factOf_38 : decode cX7_factOf 38 = .ok (.aload_n 0, 1) := by decide +kernel
theorem dX7_factOf_39 : decode cX7_factOf 39 = .ok (.getfield 16, 3) := by decide +kernel
theorem dX7_factOf_42 : decode cX7_factOf 42 = .ok (.iload_n 2, 1) := by decide +kernel
theorem dX7_factOf_43 : decode cX7_factOf 43 = .ok (.iaload, 1) := by decide +kernel
theorem dX7_factOf_44 : decode cX7_factOf 44 = .ok (.ireturn, 1) := by decide +kernel
theorem dX7_factOf_45 : decode cX7_factOf 45 = .ok (.aload_n 0, 1) := by decide +kernel
theorem dX7_factOf_46 : decode cX7_factOf 46 = .ok (.getfield 20, 3) := by decide +kernel
theorem dX7_factOf_49 : decode cX7_factOf 49 = .ok (.iload_n 2, 1) := by decide +kernel
theorem dX7_factOf_50 : decode cX7_factOf 50 = .ok (.iaload, 1) := by decide +kernel
theorem dX7_factOf_51 : decode cX7_factOf 51 = .ok (.ireturn, 1) := by decide +kernel
theorem dX7_factOf_52 : decode cX7_factOf 52 = .ok (.aload_n 0, 1) := by decide +kernel
theorem dX7_factOf_53 : decode cX7_factOf 53 = .ok (.getfield 23, 3) := by decide +kernel
theorem dX7_factOf_56 : decode cX7_factOf 56 = .ok (.iload_n 2, 1) := by decide +kernel
theorem dX7_factOf_57 : decode cX7_factOf 57 = .ok (.iaload, 1) := by decide +kernel
theorem dX7_factOf_58 : decode cX7_factOf 58 = .ok (.bipush 10, 2) := by decide +kernel
theorem dX7_factOf_60 : decode cX7_factOf 60 = .ok (.idiv, 1) := by decide +kernel
theorem dX7_factOf_61 : decode cX7_factOf 61 = .ok (.ireturn, 1) := by decide +kernel
theorem dX7_factOf_62 : decode cX7_factOf 62 = .ok (.aload_n 0, 1) := by decide +kernel
theorem dX7_factOf_63 : decode cX7_factOf 63 = .ok (.aload_n 0, 1) := by decide +kernel
theorem dX7_factOf_64 : decode cX7_factOf 64 = .ok (.getfield 26, 3) := by decide +kernel
theorem dX7_factOf_67 : decode cX7_factOf 67 = .ok (.iload_n 2, 1) := by decide +kernel
theorem dX7_factOf_68 : decode cX7_factOf 68 = .ok (.iaload, 1) := by decide +kernel
theorem dX7_factOf_69 : decode cX7_factOf 69 = .ok (.invokevirtual 212, 3) := by decide +kernel
theorem dX7_factOf_72 : decode cX7_factOf 72 = .ok (.ireturn, 1) := by decide +kernel
theorem dX7_factOf_73 : decode cX7_factOf 73 = .ok (.aload_n 0, 1) := by decide +kernel
theorem dX7_factOf_74 : decode cX7_factOf 74 = .ok (.aload_n 0, 1) := by decide +kernel
theorem dX7_factOf_75 : decode cX7_factOf 75 = .ok (.iload_n 2, 1) := by decide +kernel
theorem dX7_factOf_76 : decode cX7_factOf 76 = .ok (.invokevirtual 274, 3) := by decide +kernel
theorem dX7_factOf_79 : decode cX7_factOf 79 = .ok (.invokevirtual 212, 3) := by decide +kernel
theorem dX7_factOf_82 : decode cX7_factOf 82 = .ok (.ireturn, 1) := by decide +kernel
theorem dX7_holds_0 : decode cX7_holds 0 = .ok (.iconst 0, 1) := by decide +kernel
theorem dX7_holds_1 : decode cX7_holds 1 = .ok (.istore_n 3, 1) := by decide +kernel
theorem dX7_holds_2 : decode cX7_holds 2 = .ok (.aload_n 0, 1) := by decide +kernel
theorem dX7_holds_3 : decode cX7_holds 3 = .ok (.getfield 68, 3) := by decide +kernel
theorem dX7_holds_6 : decode cX7_holds 6 = .ok (.iload_n 1, 1) := by decide +kernel
theorem dX7_holds_7 : decode cX7_holds 7 = .ok (.iaload, 1) := by decide +kernel
theorem dX7_holds_8 : decode cX7_holds 8 = .ok (.istore 4, 2) := by decide +kernel
theorem dX7_holds_10 : decode cX7_holds 10 = .ok (.iload 4, 2) := by decide +kernel
theorem dX7_holds_12 : decode cX7_holds 12 = .ok (.aload_n 0, 1) := by decide +kernel
theorem dX7_holds_13 : decode cX7_holds 13 = .ok (.getfield 71, 3) := by decide +kernel
theorem dX7_holds_16 : decode cX7_holds 16 = .ok (.iload_n 1, 1) := by decide +kernel
theorem dX7_holds_17 : decode cX7_holds 17 = .ok (.iaload, 1) := by decide +kernel
theorem dX7_holds_18 : decode cX7_holds 18 = .ok (.if_icmp .ge 225, 3) := by decide +kernel
theorem dX7_holds_21 : decode cX7_holds 21 = .ok (.aload_n 0, 1) := by decide +kernel
theorem dX7_holds_22 : decode cX7_holds 22 = .ok (.getfield 74, 3) := by decide +kernel
theorem dX7_holds_25 : decode cX7_holds 25 = .ok (.iload 4, 2) := by decide +kernel
theorem dX7_holds_27 : decode cX7_holds 27 = .ok (.iaload, 1) := by decide +kernel
theorem dX7_holds_28 : decode cX7_holds 28 = .ok (.istore 5, 2) := by decide +kernel
theorem dX7_holds_30 : decode cX7_holds 30 = .ok (.iload 5, 2) := by decide +kernel
theorem dX7_holds_32 : decode cX7_holds 32 = .ok (.bipush (-33), 2) := by decide +kernel
theorem dX7_holds_34 : decode cX7_holds 34 = .ok (.if_icmp .ne 30, 3) := by decide +kernel
theorem dX7_holds_37 : decode cX7_holds 37 = .ok (.aload_n 0, 1) := by decide +kernel
theorem dX7_holds_38 : decode cX7_holds 38 = .ok (.getfield 92, 3) := by decide +kernel
theorem dX7_holds_41 : decode cX7_holds 41 = .ok (.iload_n 3, 1) := by decide +kernel
theorem dX7_holds_42 : decode cX7_holds 42 = .ok (.iconst 1, 1) := by decide +kernel
theorem dX7_holds_43 : decode cX7_holds 43 = .ok (.isub, 1) := by decide +kernel
theorem dX7_holds_44 : decode cX7_holds 44 = .ok (.aload_n 0, 1) := by decide +kernel
theorem dX7_holds_45 : decode cX7_holds 45 = .ok (.getfield 92, 3) := by decide +kernel
theorem dX7_holds_48 : decode cX7_holds 48 = .ok (.iload_n 3, 1) := by decide +kernel
theorem dX7_holds_49 : decode cX7_holds 49 = .ok (.iconst 1, 1) := by decide +kernel
theorem dX7_holds_50 : decode cX7_holds 50 = .ok (.isub, 1) := by decide +kernel
theorem dX7_holds_51 : decode cX7_holds 51 = .ok (.baload, 1) := by decide +kernel
theorem dX7_holds_52 : decode cX7_holds 52 = .ok (.ifCond .ne 7, 3) := by decide +kernel
theorem dX7_holds_55 : decode cX7_holds 55 = .ok (.iconst 1, 1) := by decide +kernel
theorem dX7_holds_56 : decode cX7_holds 56 = .ok (.goto 4, 3) := by decide +kernel
theorem dX7_holds_59 : decode cX7_holds 59 = .ok (.iconst 0, 1) := by decide +kernel
theorem dX7_holds_60 : decode cX7_holds 60 = .ok (.bastore, 1) := by decide +kernel
theorem dX7_holds_61 : decode cX7_holds 61 = .ok (.goto 176, 3) := by decide +kernel
theorem dX7_holds_64 : decode cX7_holds 64 = .ok (.iload 5, 2) := by decide +kernel
theorem dX7_holds_66 : decode cX7_holds 66 = .ok (.ifCond .ge 77, 3) := by decide +kernel
theorem dX7_holds_69 : decode cX7_holds 69 = .ok (.iinc 3 (-1), 3) := by decide +kernel
theorem dX7_holds_72 : decode cX7_holds 72 = .ok (.aload_n 0, 1) := by decide +kernel
theorem dX7_holds_73 : decode cX7_holds 73 = .ok (.getfield 92, 3) := by decide +kernel
theorem dX7_holds_76 : decode cX7_holds 76 = .ok (.iload_n 3, 1) := by decide +kernel
theorem dX7_holds_77 : decode cX7_holds 77 = .ok (.iconst 1, 1) := by decide +kernel
theorem dX7_holds_78 : decode cX7_holds 78 = .ok (.isub, 1) := by decide +kernel
theorem dX7_holds_79 : decode cX7_holds 79 = .ok (.iload 5, 2) := by decide +kernel
theorem dX7_holds_81 : decode cX7_holds 81 = .ok (.bipush (-38), 2) := by decide +kernel
theorem dX7_holds_83 : decode cX7_holds 83 = .ok (.if_icmp .ne 31, 3) := by decide +kernel
theorem dX7_holds_86 : decode cX7_holds 86 = .ok (.aload_n 0, 1) := by decide +kernel
theorem dX7_holds_87 : decode cX7_holds 87 = .ok (.getfield 92, 3) := by decide +kernel
theorem dX7_holds_90 : decode cX7_holds 90 = .ok (.iload_n 3, 1) := by decide +kernel
theorem dX7_holds_91 : decode cX7_holds 91 = .ok (.iconst 1, 1) := by decide +kernel
theorem dX7_holds_92 : decode cX7_holds 92 = .ok (.isub, 1) := by decide +kernel
theorem dX7_holds_93 : decode cX7_holds 93 = .ok (.baload, 1) := by decide +kernel
theorem dX7_holds_94 : decode cX7_holds 94 = .ok (.ifCond .eq 16, 3) := by decide +kernel
theorem dX7_holds_97 : decode cX7_holds 97 = .ok (.aload_n 0, 1) := by decide +kernel
theorem dX7_holds_98 : decode cX7_holds 98 = .ok (.getfield 92, 3) := by decide +kernel
theorem dX7_holds_101 : decode cX7_holds 101 = .ok (.iload_n 3, 1) := by decide +kernel
theorem dX7_holds_102 : decode cX7_holds 102 = .ok (.baload, 1) := by decide +kernel
theorem dX7_holds_103 : decode cX7_holds 103 = .ok (.ifCond .eq 7, 3) := by decide +kernel
theorem dX7_holds_106 : decode cX7_holds 106 = .ok (.iconst 1, 1) := by decide +kernel
theorem dX7_holds_107 : decode cX7_holds 107 = .ok (.goto 32, 3) := by decide +kernel
theorem dX7_holds_110 : decode cX7_holds 110 = .ok (.iconst 0, 1) := by decide +kernel
theorem dX7_holds_111 : decode cX7_holds 111 = .ok (.goto 28, 3) := by decide +kernel
theorem dX7_holds_114 : decode cX7_holds 114 = .ok (.aload_n 0, 1) := by decide +kernel
theorem dX7_holds_115 : decode cX7_holds 115 = .ok (.getfield 92, 3) := by decide +kernel
theorem dX7_holds_118 : decode cX7_holds 118 = .ok (.iload_n 3, 1) := by decide +kernel
theorem dX7_holds_119 : decode cX7_holds 119 = .ok (.iconst 1, 1) := by decide +kernel
theorem dX7_holds_120 : decode cX7_holds 120 = .ok (.isub, 1) := by decide +kernel
theorem dX7_holds_121 : decode cX7_holds 121 = .ok (.baload, 1) := by decide +kernel
theorem dX7_holds_122 : decode cX7_holds 122 = .ok (.ifCond .ne 12, 3) := by decide +kernel
theorem dX7_holds_125 : decode cX7_holds 125 = .ok (.aload_n 0, 1) := by decide +kernel
theorem dX7_holds_126 : decode cX7_holds 126 = .ok (.getfield 92, 3) := by decide +kernel
theorem dX7_holds_129 : decode cX7_holds 129 = .ok (.iload_n 3, 1) := by decide +kernel
theorem dX7_holds_130 : decode cX7_holds 130 = .ok (.baload, 1) := by decide +kernel
theorem dX7_holds_131 : decode cX7_holds 131 = .ok (.ifCond .eq 7, 3) := by decide +kernel
theorem dX7_holds_134 : decode cX7_holds 134 = .ok (.iconst 1, 1) := by decide +kernel
theorem dX7_holds_135 : decode cX7_holds 135 = .ok (.goto 4, 3) := by decide +kernel
theorem dX7_holds_138 : decode cX7_holds 138 = .ok (.iconst 0, 1) := by decide +kernel
theorem dX7_holds_139 : decode cX7_holds 139 = .ok (.bastore, 1) := by decide +kernel
theorem dX7_holds_140 : decode cX7_holds 140 = .ok (.goto 97, 3) := by decide +kernel
theorem dX7_holds_143 : decode cX7_holds 143 = .ok (.aload_n 0, 1) := by decide +kernel
theorem dX7_holds_144 : decode cX7_holds 144 = .ok (.iload 5, 2) := by decide +kernel
theorem dX7_holds_146 : decode cX7_holds 146 = .ok (.sipush 1000, 3) := by decide +kernel
theorem dX7_holds_149 : decode cX7_holds 149 = .ok (.idiv, 1) := by decide +kernel
theorem dX7_holds_150 : decode cX7_holds 150 = .ok (.iload_n 2, 1) := by decide +kernel
theorem dX7_holds_151 : decode cX7_holds 151 = .ok (.invokevirtual 277, 3) := by decide +kernel
theorem dX7_holds_154 : decode cX7_holds 154 = .ok (.istore 6, 2) := by decide +kernel
theorem dX7_holds_156 : decode cX7_holds 156 = .ok (.iload 5, 2) := by decide +kernel
theorem dX7_holds_158 : decode cX7_holds 158 = .ok (.bipush 100, 2) := by decide +kernel
theorem dX7_holds_160 : decode cX7_holds 160 = .ok (.idiv, 1) := by decide +kernel
theorem dX7_holds_161 : decode cX7_holds 161 = .ok (.bipush 10, 2) := by decide +kernel
theorem dX7_holds_163 : decode cX7_holds 163 = .ok (.irem, 1) := by decide +kernel
theorem dX7_holds_164 : decode cX7_holds 164 = .ok (.istore 7, 2) := by decide +kernel
theorem dX7_holds_166 : decode cX7_holds 166 = .ok (.aload_n 0, 1) := by decide +kernel
theorem dX7_holds_167 : decode cX7_holds 167 = .ok (.getfield 92, 3) := by decide +kernel
theorem dX7_holds_170 : decode cX7_holds 170 = .ok (.iload_n 3, 1) := by decide +kernel
theorem dX7_holds_171 : decode cX7_holds 171 = .ok (.iload 7, 2) := by decide +kernel
theorem dX7_holds_173 : decode cX7_holds 173 = .ok (.ifCond .ne 21, 3) := by decide +kernel
theorem dX7_holds_176 : decode cX7_holds 176 = .ok (.iload 6, 2) := by decide +kernel
theorem dX7_holds_178 : decode cX7_holds 178 = .ok (.iload 5, 2) := by decide +kernel
theorem dX7_holds_180 : decode cX7_holds 180 = .ok (.bipush 100, 2) := by decide +kernel
theorem dX7_holds_182 : decode cX7_holds 182 = .ok (.irem, 1) := by decide +kernel
theorem dX7_holds_183 : decode cX7_holds 183 = .ok (.if_icmp .ge 7, 3) := by decide +kernel
theorem dX7_holds_186 : decode cX7_holds 186 = .ok (.iconst 1, 1) := by decide +kernel
theorem dX7_holds_187 : decode cX7_holds 187 = .ok (.goto 46, 3) := by decide +kernel
theorem dX7_holds_190 : decode cX7_holds 190 = .ok (.iconst 0, 1) := by decide +kernel
theorem dX7_holds_191 : decode cX7_holds 191 = .ok (.goto 42, 3) := by decide +kernel
theorem dX7_holds_194 : decode cX7_holds 194 = .ok (.iload 7, 2) := by decide +kernel
theorem dX7_holds_196 : decode cX7_holds 196 = .ok (.iconst 1, 1) := by decide +kernel
theorem dX7_holds_197 : decode cX7_holds 197 = .ok (.if_icmp .ne 21, 3) := by decide +kernel
theorem dX7_holds_200 : decode cX7_holds 200 = .ok (.iload 6, 2) := by decide +kernel
theorem dX7_holds_202 : decode cX7_holds 202 = .ok (.iload 5, 2) := by decide +kernel
theorem dX7_holds_204 : decode cX7_holds 204 = .ok (.bipush 100, 2) := by decide +kernel
theorem dX7_holds_206 : decode cX7_holds 206 = .ok (.irem, 1) := by decide +kernel
theorem dX7_holds_207 : decode cX7_holds 207 = .ok (.if_icmp .ne 7, 3) := by decide +kernel
theorem dX7_holds_210 : decode cX7_holds 210 = .ok (.iconst 1, 1) := by decide +kernel
theorem dX7_holds_211 : decode cX7_holds 211 = .ok (.goto 22, 3) := by decide +kernel
theorem dX7_holds_214 : decode cX7_holds 214 = .ok (.iconst 0, 1) := by decide +kernel
theorem dX7_holds_215 : decode cX7_holds 215 = .ok (.goto 18, 3) := by decide +kernel
theorem dX7_holds_218 : decode cX7_holds 218 = .ok (.iload 6, 2) := by decide +kernel
theorem dX7_holds_220 : decode cX7_holds 220 = .ok (.iload 5, 2) := by decide +kernel
theorem dX7_holds_222 : decode cX7_holds 222 = .ok (.bipush 100, 2) := by decide +kernel
theorem dX7_holds_224 : decode cX7_holds 224 = .ok (.irem, 1) := by decide +kernel
theorem dX7_holds_225 : decode cX7_holds 225 = .ok (.if_icmp .le 7, 3) := by decide +kernel
theorem dX7_holds_228 : decode cX7_holds 228 = .ok (.iconst 1, 1) := by decide +kernel
theorem dX7_holds_229 : decode cX7_holds 229 = .ok (.goto 4, 3) := by decide +kernel
theorem dX7_holds_232 : decode cX7_holds 232 = .ok (.iconst 0, 1) := by decide +kernel
theorem dX7_holds_233 : decode cX7_holds 233 = .ok (.bastore, 1) := by decide +kernel
theorem dX7_holds_234 : decode cX7_holds 234 = .ok (.iinc 3 1, 3) := by decide +kernel
theorem dX7_holds_237 : decode cX7_holds 237 = .ok (.iinc 4 1, 3) := by decide +kernel
theorem dX7_holds_240 : decode cX7_holds 240 = .ok (.goto (-230), 3) := by decide +kernel
theorem dX7_holds_243 : decode cX7_holds 243 = .ok (.aload_n 0, 1) := by decide +kernel
theorem dX7_holds_244 : decode cX7_holds 244 = .ok (.getfield 92, 3) := by decide +kernel
theorem dX7_holds_247 : decode cX7_holds 247 = .ok (.iconst 0, 1) := by decide +kernel
theorem dX7_holds_248 : decode cX7_holds 248 = .ok (.baload, 1) := by decide +kernel
theorem dX7_holds_249 : decode cX7_holds 249 = .ok (.ireturn, 1) := by decide +kernel
theorem dX7_sumOf_0 : decode cX7_sumOf 0 = .ok (.iconst 0, 1) := by decide +kernel
theorem dX7_sumOf_1 : decode cX7_sumOf 1 = .ok (.istore_n 3, 1) := by decide +kernel
theorem dX7_sumOf_2 : decode cX7_sumOf 2 = .ok (.aload_n 0, 1) := by decide +kernel
theorem dX7_sumOf_3 : decode cX7_sumOf 3 = .ok (.invokevirtual 268, 3) := by decide +kernel
theorem dX7_sumOf_6 : decode cX7_sumOf 6 = .ok (.istore 4, 2) := by decide +kernel
theorem dX7_sumOf_8 : decode cX7_sumOf 8 = .ok (.iload 4, 2) := by decide +kernel
theorem dX7_sumOf_10 : decode cX7_sumOf 10 = .ok (.aload_n 0, 1) := by decide +kernel
theorem dX7_sumOf_11 : decode cX7_sumOf 11 = .ok (.invokevirtual 271, 3) := by decide +kernel
theorem dX7_sumOf_14 : decode cX7_sumOf 14 = .ok (.if_icmp .ge 44, 3) := by decide +kernel
theorem dX7_sumOf_17 : decode cX7_sumOf 17 = .ok (.iload_n 3, 1) := by decide +kernel
theorem dX7_sumOf_18 : decode cX7_sumOf 18 = .ok (.aload_n 0, 1) := by decide +kernel
theorem dX7_sumOf_19 : decode cX7_sumOf 19 = .ok (.getfield 62, 3) := by decide +kernel
theorem dX7_sumOf_22 : decode cX7_sumOf 22 = .ok (.iload 4, 2) := by decide +kernel
theorem dX7_sumOf_24 : decode cX7_sumOf 24 = .ok (.iaload, 1) := by decide +kernel
theorem dX7_sumOf_25 : decode cX7_sumOf 25 = .ok (.iload_n 1, 1) := by decide +kernel
theorem dX7_sumOf_26 : decode cX7_sumOf 26 = .ok (.if_icmp .ne 23, 3) := by decide +kernel
theorem dX7_sumOf_29 : decode cX7_sumOf 29 = .ok (.aload_n 0, 1) := by decide +kernel
theorem dX7_sumOf_30 : decode cX7_sumOf 30 = .ok (.iload 4, 2) := by decide +kernel
theorem dX7_sumOf_32 : decode cX7_sumOf 32 = .ok (.iload_n 2, 1) := by decide +kernel
theorem dX7_sumOf_33 : decode cX7_sumOf 33 = .ok (.invokevirtual 281, 3) := by decide +kernel
theorem dX7_sumOf_36 : decode cX7_sumOf 36 = .ok (.ifCond .eq 13, 3) := by decide +kernel
theorem dX7_sumOf_39 : decode cX7_sumOf 39 = .ok (.aload_n 0, 1) := by decide +kernel
theorem dX7_sumOf_40 : decode cX7_sumOf 40 = .ok (.getfield 65, 3) := by decide +kernel
theorem dX7_sumOf_43 : decode cX7_sumOf 43 = .ok (.iload 4, 2) := by decide +kernel
theorem dX7_sumOf_45 : decode cX7_sumOf 45 = .ok (.iaload, 1) := by decide +kernel
theorem dX7_sumOf_46 : decode cX7_sumOf 46 = .ok (.goto 4, 3) := by decide +kernel
theorem dX7_sumOf_49 : decode cX7_sumOf 49 = .ok (.iconst 0, 1) := by decide +kernel
theorem dX7_sumOf_50 : decode cX7_sumOf 50 = .ok (.iadd, 1) := by decide +kernel
theorem dX7_sumOf_51 : decode cX7_sumOf 51 = .ok (.istore_n 3, 1) := by decide +kernel
theorem dX7_sumOf_52 : decode cX7_sumOf 52 = .ok (.iinc 4 1, 3) := by decide +kernel
theorem dX7_sumOf_55 : decode cX7_sumOf 55 = .ok (.goto (-47), 3) := by decide +kernel
theorem dX7_sumOf_58 : decode cX7_sumOf 58 = .ok (.iload_n 3, 1) := by decide +kernel
theorem dX7_sumOf_59 : decode cX7_sumOf 59 = .ok (.ireturn, 1) := by decide +kernel
theorem dX7_layLand_0 : decode cX7_layLand 0 = .ok (.iconst 0, 1) := by decide +kernel
theorem dX7_layLand_1 : decode cX7_layLand 1 = .ok (.istore_n 1, 1) := by decide +kernel
theorem dX7_layLand_2 : decode cX7_layLand 2 = .ok (.iload_n 1, 1) := by decide +kernel
theorem dX7_layLand_3 : decode cX7_layLand 3 = .ok (.aload_n 0, 1) := by decide +kernel
theorem dX7_layLand_4 : decode cX7_layLand 4 = .ok (.getfield 7, 3) := by decide +kernel
theorem dX7_layLand_7 : decode cX7_layLand 7 = .ok (.if_icmp .ge 40, 3) := by decide +kernel
theorem dX7_layLand_10 : decode cX7_layLand 10 = .ok (.aload_n 0, 1) := by decide +kernel
theorem dX7_layLand_11 : decode cX7_layLand 11 = .ok (.getfield 102, 3) := by decide +kernel
theorem dX7_layLand_14 : decode cX7_layLand 14 = .ok (.iload_n 1, 1) := by decide +kernel
theorem dX7_layLand_15 : decode cX7_layLand 15 = .ok (.aload_n 0, 1) := by decide +kernel
theorem dX7_layLand_16 : decode cX7_layLand 16 = .ok (.getfield 23, 3) := by decide +kernel
theorem dX7_layLand_19 : decode cX7_layLand 19 = .ok (.iload_n 1, 1) := by decide +kernel
theorem dX7_layLand_20 : decode cX7_layLand 20 = .ok (.iaload, 1) := by decide +kernel
theorem dX7_layLand_21 : decode cX7_layLand 21 = .ok (.aload_n 0, 1) := by decide +kernel
theorem dX7_layLand_22 : decode cX7_layLand 22 = .ok (.iconst 0, 1) := by decide +kernel
theorem dX7_layLand_23 : decode cX7_layLand 23 = .ok (.iload_n 1, 1) := by decide +kernel
theorem dX7_layLand_24 : decode cX7_layLand 24 = .ok (.invokevirtual 284, 3) := by decide +kernel
theorem dX7_layLand_27 : decode cX7_layLand 27 = .ok (.iadd, 1) := by decide +kernel
theorem dX7_layLand_28 : decode cX7_layLand 28 = .ok (.iastore, 1) := by decide +kernel
theorem dX7_layLand_29 : decode cX7_layLand 29 = .ok (.aload_n 0, 1) := by decide +kernel
theorem dX7_layLand_30 : decode cX7_layLand 30 = .ok (.getfield 105, 3) := by decide +kernel
theorem dX7_layLand_33 : decode cX7_layLand 33 = .ok (.iload_n 1, 1) := by decide +kernel
theorem dX7_layLand_34 : decode cX7_layLand 34 = .ok (.aload_n 0, 1) := by decide +kernel
theorem dX7_layLand_35 : decode cX7_layLand 35 = .ok (.iconst 1, 1) := by decide +kernel
theorem dX7_layLand_36 : decode cX7_layLand 36 = .ok (.iload_n 1, 1) := by decide +kernel
theorem dX7_layLand_37 : decode cX7_layLand 37 = .ok (.invokevirtual 284, 3) := by decide +kernel
theorem dX7_layLand_40 : decode cX7_layLand 40 = .ok (.iastore, 1) := by decide +kernel
theorem dX7_layLand_41 : decode cX7_layLand 41 = .ok (.iinc 1 1, 3) := by decide +kernel
theorem dX7_layLand_44 : decode cX7_layLand 44 = .ok (.goto (-42), 3) := by decide +kernel
theorem dX7_layLand_47 : decode cX7_layLand 47 = .ok (.iconst 0, 1) := by decide +kernel
theorem dX7_layLand_48 : decode cX7_layLand 48 = .ok (.istore_n 1, 1) := by decide +kernel
theorem dX7_layLand_49 : decode cX7_layLand 49 = .ok (.iload_n 1, 1) := by decide +kernel
theorem dX7_layLand_50 : decode cX7_layLand 50 = .ok (.aload_n 0, 1) := by decide +kernel
theorem dX7_layLand_51 : decode cX7_layLand 51 = .ok (.getfield 7, 3) := by decide +kernel
theorem dX7_layLand_54 : decode cX7_layLand 54 = .ok (.if_icmp .ge 112, 3) := by decide +kernel
theorem dX7_layLand_57 : decode cX7_layLand 57 = .ok (.iconst 0, 1) := by decide +kernel
theorem dX7_layLand_58 : decode cX7_layLand 58 = .ok (.istore_n 2, 1) := by decide +kernel
theorem dX7_layLand_59 : decode cX7_layLand 59 = .ok (.iload_n 2, 1) := by decide +kernel
theorem dX7_layLand_60 : decode cX7_layLand 60 = .ok (.aload_n 0, 1) := by decide +kernel
theorem dX7_layLand_61 : decode cX7_layLand 61 = .ok (.getfield 7, 3) := by decide +kernel
theorem dX7_layLand_64 : decode cX7_layLand 64 = .ok (.if_icmp .ge 96, 3) := by decide +kernel
theorem dX7_layLand_67 : decode cX7_layLand 67 = .ok (.aload_n 0, 1) := by decide +kernel
theorem dX7_layLand_68 : decode cX7_layLand 68 = .ok (.getfield 29, 3) := by decide +kernel
theorem dX7_layLand_71 : decode cX7_layLand 71 = .ok (.bipush 7, 2) := by decide +kernel
theorem dX7_layLand_73 : decode cX7_layLand 73 = .ok (.iload_n 1, 1) := by decide +kernel
theorem dX7_layLand_74 : decode cX7_layLand 74 = .ok (.imul, 1) := by decide +kernel
theorem dX7_layLand_75 : decode cX7_layLand 75 = .ok (.iload_n 2, 1) := by decide +kernel
theorem dX7_layLand_76 : decode cX7_layLand 76 = .ok (.iadd, 1) := by decide +kernel
theorem dX7_layLand_77 : decode cX7_layLand 77 = .ok (.iaload, 1) := by decide +kernel
theorem dX7_layLand_78 : decode cX7_layLand 78 = .ok (.istore_n 3, 1) := by decide +kernel
theorem dX7_layLand_79 : decode cX7_layLand 79 = .ok (.aload_n 0, 1) := by decide +kernel
theorem dX7_layLand_80 : decode cX7_layLand 80 = .ok (.getfield 96, 3) := by decide +kernel
theorem dX7_layLand_83 : decode cX7_layLand 83 = .ok (.bipush 7, 2) := by decide +kernel
theorem dX7_layLand_85 : decode cX7_layLand 85 = .ok (.iload_n 1, 1) := by decide +kernel
theorem dX7_layLand_86 : decode cX7_layLand 86 = .ok (.imul, 1) := by decide +kernel
theorem dX7_layLand_87 : decode cX7_layLand 87 = .ok (.iload_n 2, 1) := by decide +kernel
theorem dX7_layLand_88 : decode cX7_layLand 88 = .ok (.iadd, 1) := by decide +kernel
theorem dX7_layLand_89 : decode cX7_layLand 89 = .ok (.iload_n 3, 1) := by decide +kernel
theorem dX7_layLand_90 : decode cX7_layLand 90 = .ok (.ifCond .ne 7, 3) := by decide +kernel
theorem dX7_layLand_93 : decode cX7_layLand 93 = .ok (.iconst 0, 1) := by decide +kernel
theorem dX7_layLand_94 : decode cX7_layLand 94 = .ok (.goto 20, 3) := by decide +kernel
theorem dX7_layLand_97 : decode cX7_layLand 97 = .ok (.iload_n 3, 1) := by decide +kernel
theorem dX7_layLand_98 : decode cX7_layLand 98 = .ok (.aload_n 0, 1) := by decide +kernel
theorem dX7_layLand_99 : decode cX7_layLand 99 = .ok (.getfield 105, 3) := by decide +kernel
theorem dX7_layLand_102 : decode cX7_layLand 102 = .ok (.iload_n 1, 1) := by decide +kernel
theorem dX7_layLand_103 : decode cX7_layLand 103 = .ok (.iload_n 2, 1) := by decide +kernel
theorem dX7_layLand_104 : decode cX7_layLand 104 = .ok (.if_icmp .ge 7, 3) := by decide +kernel
theorem dX7_layLand_107 : decode cX7_layLand 107 = .ok (.iload_n 1, 1) := by decide +kernel
theorem dX7_layLand_108 : decode cX7_layLand 108 = .ok (.goto 4, 3) := by decide +kernel
theorem dX7_layLand_111 : decode cX7_layLand 111 = .ok (.iload_n 2, 1) := by decide +kernel
theorem dX7_layLand_112 : decode cX7_layLand 112 = .ok (.iaload, 1) := by decide +kernel
theorem dX7_layLand_113 : decode cX7_layLand 113 = .ok (.iadd, 1) := by decide +kernel
theorem dX7_layLand_114 : decode cX7_layLand 114 = .ok (.iastore, 1) := by decide +kernel
theorem dX7_layLand_115 : decode cX7_layLand 115 = .ok (.aload_n 0, 1) := by decide +kernel
theorem dX7_layLand_116 : decode cX7_layLand 116 = .ok (.getfield 99, 3) := by decide +kernel
theorem dX7_layLand_119 : decode cX7_layLand 119 = .ok (.bipush 7, 2) := by decide +kernel
theorem dX7_layLand_121 : decode cX7_layLand 121 = .ok (.iload_n 1, 1) := by decide +kernel
theorem dX7_layLand_122 : decode cX7_layLand 122 = .ok (.imul, 1) := by decide +kernel
theorem dX7_layLand_123 : decode cX7_layLand 123 = .ok (.iload_n 2, 1) := by decide +kernel
theorem dX7_layLand_124 : decode cX7_layLand 124 = .ok (.iadd, 1) := by decide +kernel
theorem dX7_layLand_125 : decode cX7_layLand 125 = .ok (.iload_n 1, 1) := by decide +kernel
theorem dX7_layLand_126 : decode cX7_layLand 126 = .ok (.iload_n 2, 1) := by decide +kernel
theorem dX7_layLand_127 : decode cX7_layLand 127 = .ok (.if_icmp .ne 7, 3) := by decide +kernel
theorem dX7_layLand_130 : decode cX7_layLand 130 = .ok (.iconst 0, 1) := by decide +kernel
theorem dX7_layLand_131 : decode cX7_layLand 131 = .ok (.goto 22, 3) := by decide +kernel
theorem dX7_layLand_134 : decode cX7_layLand 134 = .ok (.iload_n 3, 1) := by decide +kernel
theorem dX7_layLand_135 : decode cX7_layLand 135 = .ok (.ifCond .ne 7, 3) := by decide +kernel
theorem dX7_layLand_138 : decode cX7_layLand 138 = .ok (.iconst (-1), 1) := by decide +kernel
theorem dX7_layLand_139 : decode cX7_layLand 139 = .ok (.goto 14, 3) := by decide +kernel
theorem dX7_layLand_142 : decode cX7_layLand 142 = .ok (.aload_n 0, 1) := by decide +kernel
theorem dX7_layLand_143 : decode cX7_layLand 143 = .ok (.getfield 96, 3) := by decide +kernel
theorem dX7_layLand_146 : decode cX7_layLand 146 = .ok (.bipush 7, 2) := by decide +kernel
theorem dX7_layLand_148 : decode cX7_layLand 148 = .ok (.iload_n 1, 1) := by decide +kernel
theorem dX7_layLand_149 : decode cX7_layLand 149 = .ok (.imul, 1) := by decide +kernel
theorem dX7_layLand_150 : decode cX7_layLand 150 = .ok (.iload_n 2, 1) := by decide +kernel
theorem dX7_layLand_151 : decode cX7_layLand 151 = .ok (.iadd, 1) := by decide +kernel
theorem dX7_layLand_152 : decode cX7_layLand 152 = .ok (.iaload, 1) := by decide +kernel
theorem dX7_layLand_153 : decode cX7_layLand 153 = .ok (.iastore, 1) := by decide +kernel
theorem dX7_layLand_154 : decode cX7_layLand 154 = .ok (.iinc 2 1, 3) := by decide +kernel
theorem dX7_layLand_157 : decode cX7_layLand 157 = .ok (.goto (-98), 3) := by decide +kernel
theorem dX7_layLand_160 : decode cX7_layLand 160 = .ok (.iinc 1 1, 3) := by decide +kernel
theorem dX7_layLand_163 : decode cX7_layLand 163 = .ok (.goto (-114), 3) := by decide +kernel
theorem dX7_layLand_166 : decode cX7_layLand 166 = .ok (.iconst 0, 1) := by decide +kernel
theorem dX7_layLand_167 : decode cX7_layLand 167 = .ok (.istore_n 1, 1) := by decide +kernel
theorem dX7_layLand_168 : decode cX7_layLand 168 = .ok (.iload_n 1, 1) := by decide +kernel
theorem dX7_layLand_169 : decode cX7_layLand 169 = .ok (.aload_n 0, 1) := by decide +kernel
theorem dX7_layLand_170 : decode cX7_layLand 170 = .ok (.getfield 7, 3) := by decide +kernel
theorem dX7_layLand_173 : decode cX7_layLand 173 = .ok (.if_icmp .ge 48, 3) := by decide +kernel
theorem dX7_layLand_176 : decode cX7_layLand 176 = .ok (.iconst 0, 1) := by decide +kernel
theorem dX7_layLand_177 : decode cX7_layLand 177 = .ok (.istore_n 2, 1) := by decide +kernel
theorem dX7_layLand_178 : decode cX7_layLand 178 = .ok (.iload_n 2, 1) := by decide +kernel
theorem dX7_layLand_179 : decode cX7_layLand 179 = .ok (.aload_n 0, 1) := by decide +kernel
theorem dX7_layLand_180 : decode cX7_layLand 180 = .ok (.getfield 7, 3) := by decide +kernel
theorem dX7_layLand_183 : decode cX7_layLand 183 = .ok (.if_icmp .ge 32, 3) := by decide +kernel
theorem dX7_layLand_186 : decode cX7_layLand 186 = .ok (.iconst 0, 1) := by decide +kernel
theorem dX7_layLand_187 : decode cX7_layLand 187 = .ok (.istore_n 3, 1) := by decide +kernel
theorem dX7_layLand_188 : decode cX7_layLand 188 = .ok (.iload_n 3, 1) := by decide +kernel
theorem dX7_layLand_189 : decode cX7_layLand 189 = .ok (.aload_n 0, 1) := by decide +kernel
theorem dX7_layLand_190 : decode cX7_layLand 190 = .ok (.getfield 7, 3) := by decide +kernel
theorem dX7_layLand_193 : decode cX7_layLand 193 = .ok (.if_icmp .ge 16, 3) := by decide +kernel
theorem dX7_layLand_196 : decode cX7_layLand 196 = .ok (.aload_n 0, 1) := by decide +kernel
theorem dX7_layLand_197 : decode cX7_layLand 197 = .ok (.iload_n 2, 1) := by decide +kernel
theorem dX7_layLand_198 : decode cX7_layLand 198 = .ok (.iload_n 1, 1) := by decide +kernel
theorem dX7_layLand_199 : decode cX7_layLand 199 = .ok (.iload_n 3, 1) := by decide +kernel
theorem dX7_layLand_200 : decode cX7_layLand 200 = .ok (.invokevirtual 287, 3) := by decide +kernel
theorem dX7_layLand_203 : decode cX7_layLand 203 = .ok (.iinc 3 1, 3) := by decide +kernel
theorem dX7_layLand_206 : decode cX7_layLand 206 = .ok (.goto (-18), 3) := by decide +kernel
theorem dX7_layLand_209 : decode cX7_layLand 209 = .ok (.iinc 2 1, 3) := by decide +kernel
theorem dX7_layLand_212 : decode cX7_layLand 212 = .ok (.goto (-34), 3) := by decide +kernel
theorem dX7_layLand_215 : decode cX7_layLand 215 = .ok (.iinc 1 1, 3) := by decide +kernel
theorem dX7_layLand_218 : decode cX7_layLand 218 = .ok (.goto (-50), 3) := by decide +kernel
theorem dX7_layLand_221 : decode cX7_layLand 221 = .ok (.return_, 1) := by decide +kernel
theorem dX7_shorten_0 : decode cX7_shorten 0 = .ok (.aload_n 0, 1) := by decide +kernel
theorem dX7_shorten_1 : decode cX7_shorten 1 = .ok (.getfield 99, 3) := by decide +kernel
theorem dX7_shorten_4 : decode cX7_shorten 4 = .ok (.bipush 7, 2) := by decide +kernel
theorem dX7_shorten_6 : decode cX7_shorten 6 = .ok (.iload_n 1, 1) := by decide +kernel
theorem dX7_shorten_7 : decode cX7_shorten 7 = .ok (.imul, 1) := by decide +kernel
theorem dX7_shorten_8 : decode cX7_shorten 8 = .ok (.iload_n 2, 1) := by decide +kernel
theorem dX7_shorten_9 : decode cX7_shorten 9 = .ok (.iadd, 1) := by decide +kernel
theorem dX7_shorten_10 : decode cX7_shorten 10 = .ok (.iaload, 1) := by decide +kernel
theorem dX7_shorten_11 : decode cX7_shorten 11 = .ok (.istore 4, 2) := by decide +kernel
theorem dX7_shorten_13 : decode cX7_shorten 13 = .ok (.aload_n 0, 1) := by decide +kernel
theorem dX7_shorten_14 : decode cX7_shorten 14 = .ok (.getfield 99, 3) := by decide +kernel
theorem dX7_shorten_17 : decode cX7_shorten 17 = .ok (.bipush 7, 2) := by decide +kernel
theorem dX7_shorten_19 : decode cX7_shorten 19 = .ok (.iload_n 2, 1) := by decide +kernel
theorem dX7_shorten_20 : decode cX7_shorten 20 = .ok (.imul, 1) := by decide +kernel
theorem dX7_shorten_21 : decode cX7_shorten 21 = .ok (.iload_n 3, 1) := by decide +kernel
theorem dX7_shorten_22 : decode cX7_shorten 22 = .ok (.iadd, 1) := by decide +kernel
theorem dX7_shorten_23 : decode cX7_shorten 23 = .ok (.iaload, 1) := by decide +kernel
theorem dX7_shorten_24 : decode cX7_shorten 24 = .ok (.istore 5, 2) := by decide +kernel
theorem dX7_shorten_26 : decode cX7_shorten 26 = .ok (.iload 4, 2) := by decide +kernel
theorem dX7_shorten_28 : decode cX7_shorten 28 = .ok (.ifCond .lt 8, 3) := by decide +kernel
theorem dX7_shorten_31 : decode cX7_shorten 31 = .ok (.iload 5, 2) := by decide +kernel
theorem dX7_shorten_33 : decode cX7_shorten 33 = .ok (.ifCond .ge 4, 3) := by decide +kernel
theorem dX7_shorten_36 : decode cX7_shorten 36 = .ok (.return_, 1) := by decide +kernel
theorem dX7_shorten_37 : decode cX7_shorten 37 = .ok (.aload_n 0, 1) := by decide +kernel
theorem dX7_shorten_38 : decode cX7_shorten 38 = .ok (.getfield 99, 3) := by decide +kernel
theorem dX7_shorten_41 : decode cX7_shorten 41 = .ok (.bipush 7, 2) := by decide +kernel
theorem dX7_shorten_43 : decode cX7_shorten 43 = .ok (.iload_n 1, 1) := by decide +kernel
theorem dX7_shorten_44 : decode cX7_shorten 44 = .ok (.imul, 1) := by decide +kernel
theorem dX7_shorten_45 : decode cX7_shorten 45 = .ok (.iload_n 3, 1) := by decide +kernel
theorem dX7_shorten_46 : decode cX7_shorten 46 = .ok (.iadd, 1) := by decide +kernel
theorem dX7_shorten_47 : decode cX7_shorten 47 = .ok (.iaload, 1) := by decide +kernel
theorem dX7_shorten_48 : decode cX7_shorten 48 = .ok (.ifCond .lt 22, 3) := by decide +kernel
theorem dX7_shorten_51 : decode cX7_shorten 51 = .ok (.iload 4, 2) := by decide +kernel
theorem dX7_shorten_53 : decode cX7_shorten 53 = .ok (.iload 5, 2) := by decide +kernel
theorem dX7_shorten_55 : decode cX7_shorten 55 = .ok (.iadd, 1) := by decide +kernel
theorem dX7_shorten_56 : decode cX7_shorten 56 = .ok (.aload_n 0, 1) := by decide +kernel
theorem dX7_shorten_57 : decode cX7_shorten 57 = .ok (.getfield 99, 3) := by decide +kernel
theorem dX7_shorten_60 : decode cX7_shorten 60 = .ok (.bipush 7, 2) := by decide +kernel
theorem dX7_shorten_62 : decode cX7_shorten 62 = .ok (.iload_n 1, 1) := by decide +kernel
theorem dX7_shorten_63 : decode cX7_shorten 63 = .ok (.imul, 1) := by decide +kernel
theorem dX7_shorten_64 : decode cX7_shorten 64 = .ok (.iload_n 3, 1) := by decide +kernel
theorem dX7_shorten_65 : decode cX7_shorten 65 = .ok (.iadd, 1) := by decide +kernel
theorem dX7_shorten_66 : decode cX7_shorten 66 = .ok (.iaload, 1) := by decide +kernel
theorem dX7_shorten_67 : decode cX7_shorten 67 = .ok (.if_icmp .ge 19, 3) := by decide +kernel
theorem dX7_shorten_70 : decode cX7_shorten 70 = .ok (.aload_n 0, 1) := by decide +kernel
theorem dX7_shorten_71 : decode cX7_shorten 71 = .ok (.getfield 99, 3) := by decide +kernel
theorem dX7_shorten_74 : decode cX7_shorten 74 = .ok (.bipush 7, 2) := by decide +kernel
theorem dX7_shorten_76 : decode cX7_shorten 76 = .ok (.iload_n 1, 1) := by decide +kernel
theorem dX7_shorten_77 : decode cX7_shorten 77 = .ok (.imul, 1) := by decide +kernel
theorem dX7_shorten_78 : decode cX7_shorten 78 = .ok (.iload_n 3, 1) := by decide +kernel
theorem dX7_shorten_79 : decode cX7_shorten 79 = .ok (.iadd, 1) := by decide +kernel
theorem dX7_shorten_80 : decode cX7_shorten 80 = .ok (.iload 4, 2) := by decide +kernel
theorem dX7_shorten_82 : decode cX7_shorten 82 = .ok (.iload 5, 2) := by decide +kernel
theorem dX7_shorten_84 : decode cX7_shorten 84 = .ok (.iadd, 1) := by decide +kernel
theorem dX7_shorten_85 : decode cX7_shorten 85 = .ok (.iastore, 1) := by decide +kernel
theorem dX7_shorten_86 : decode cX7_shorten 86 = .ok (.return_, 1) := by decide +kernel
theorem dX7_of_0 : decode cX7_of 0 = .ok (.aload_n 0, 1) := by decide +kernel
theorem dX7_of_1 : decode cX7_of 1 = .ok (.iload_n 1, 1) := by decide +kernel
theorem dX7_of_2 : decode cX7_of 2 = .ok (.invokevirtual 201, 3) := by decide +kernel
theorem dX7_of_5 : decode cX7_of 5 = .ok (.ifCond .ne 5, 3) := by decide +kernel
theorem dX7_of_8 : decode cX7_of 8 = .ok (.iconst (-1), 1) := by decide +kernel
theorem dX7_of_9 : decode cX7_of 9 = .ok (.ireturn, 1) := by decide +kernel
theorem dX7_of_10 : decode cX7_of 10 = .ok (.iload_n 2, 1) := by decide +kernel
theorem dX7_of_11 : decode cX7_of 11 = .ok (.tableswitch 85 0 5 #[37, 44, 51, 58, 72, 79], 37) := by decide +kernel
theorem dX7_of_48 : decode cX7_of 48 = .ok (.aload_n 0, 1) := by decide +kernel
theorem dX7_of_49 : decode cX7_of 49 = .ok (.getfield 16, 3) := by decide +kernel
theorem dX7_of_52 : decode cX7_of 52 = .ok (.iload_n 1, 1) := by decide +kernel
theorem dX7_of_53 : decode cX7_of 53 = .ok (.iaload, 1) := by decide +kernel
theorem dX7_of_54 : decode cX7_of 54 = .ok (.ireturn, 1) := by decide +kernel
theorem dX7_of_55 : decode cX7_of 55 = .ok (.aload_n 0, 1) := by decide +kernel
theorem dX7_of_56 : decode cX7_of 56 = .ok (.getfield 20, 3) := by decide +kernel
theorem dX7_of_59 : decode cX7_of 59 = .ok (.iload_n 1, 1) := by decide +kernel
theorem dX7_of_60 : decode cX7_of 60 = .ok (.iaload, 1) := by decide +kernel
theorem dX7_of_61 : decode cX7_of 61 = .ok (.ireturn, 1) := by decide +kernel
theorem dX7_of_62 : decode cX7_of 62 = .ok (.aload_n 0, 1) := by decide +kernel
theorem dX7_of_63 : decode cX7_of 63 = .ok (.getfield 23, 3) := by decide +kernel
theorem dX7_of_66 : decode cX7_of 66 = .ok (.iload_n 1, 1) := by decide +kernel
theorem dX7_of_67 : decode cX7_of 67 = .ok (.iaload, 1) := by decide +kernel
theorem dX7_of_68 : decode cX7_of 68 = .ok (.ireturn, 1) := by decide +kernel
theorem dX7_of_69 : decode cX7_of 69 = .ok (.aload_n 0, 1) := by decide +kernel
theorem dX7_of_70 : decode cX7_of 70 = .ok (.getfield 23, 3) := by decide +kernel
theorem dX7_of_73 : decode cX7_of 73 = .ok (.iload_n 1, 1) := by decide +kernel
theorem dX7_of_74 : decode cX7_of 74 = .ok (.iaload, 1) := by decide +kernel
theorem dX7_of_75 : decode cX7_of 75 = .ok (.aload_n 0, 1) := by decide +kernel
theorem dX7_of_76 : decode cX7_of 76 = .ok (.iconst 0, 1) := by decide +kernel
theorem dX7_of_77 : decode cX7_of 77 = .ok (.iload_n 1, 1) := by decide +kernel
theorem dX7_of_78 : decode cX7_of 78 = .ok (.invokevirtual 284, 3) := by decide +kernel
theorem dX7_of_81 : decode cX7_of 81 = .ok (.iadd, 1) := by decide +kernel
theorem dX7_of_82 : decode cX7_of 82 = .ok (.ireturn, 1) := by decide +kernel
theorem dX7_of_83 : decode cX7_of 83 = .ok (.aload_n 0, 1) := by decide +kernel
theorem dX7_of_84 : decode cX7_of 84 = .ok (.getfield 26, 3) := by decide +kernel
theorem dX7_of_87 : decode cX7_of 87 = .ok (.iload_n 1, 1) := by decide +kernel
theorem dX7_of_88 : decode cX7_of 88 = .ok (.iaload, 1) := by decide +kernel
theorem dX7_of_89 : decode cX7_of 89 = .ok (.ireturn, 1) := by decide +kernel
theorem dX7_of_90 : decode cX7_of 90 = .ok (.aload_n 0, 1) := by decide +kernel
theorem dX7_of_91 : decode cX7_of 91 = .ok (.iload_n 1, 1) := by decide +kernel
theorem dX7_of_92 : decode cX7_of 92 = .ok (.invokevirtual 274, 3) := by decide +kernel
theorem dX7_of_95 : decode cX7_of 95 = .ok (.ireturn, 1) := by decide +kernel
theorem dX7_of_96 : decode cX7_of 96 = .ok (.iconst (-1), 1) := by decide +kernel
theorem dX7_of_97 : decode cX7_of 97 = .ok (.ireturn, 1) := by decide +kernel
theorem dX7_namesNow_0 : decode cX7_namesNow 0 = .ok (.iconst 0, 1) := by decide +kernel
theorem dX7_namesNow_1 : decode cX7_namesNow 1 = .ok (.istore_n 1, 1) := by decide +kernel
theorem dX7_namesNow_2 : decode cX7_namesNow 2 = .ok (.iconst 0, 1) := by decide +kernel
theorem dX7_namesNow_3 : decode cX7_namesNow 3 = .ok (.istore_n 2, 1) := by decide +kernel
theorem dX7_namesNow_4 : decode cX7_namesNow 4 = .ok (.iload_n 2, 1) := by decide +kernel
theorem dX7_namesNow_5 : decode cX7_namesNow 5 = .ok (.aload_n 0, 1) := by decide +kernel
theorem dX7_namesNow_6 : decode cX7_namesNow 6 = .ok (.getfield 7, 3) := by decide +kernel
theorem dX7_namesNow_9 : decode cX7_namesNow 9 = .ok (.if_icmp .ge 22, 3) := by decide +kernel
theorem dX7_namesNow_12 : decode cX7_namesNow 12 = .ok (.iload_n 1, 1) := by decide +kernel
theorem dX7_namesNow_13 : decode cX7_namesNow 13 = .ok (.aload_n 0, 1) := by decide +kernel
theorem dX7_namesNow_14 : decode cX7_namesNow 14 = .ok (.aload_n 0, 1) := by decide +kernel
theorem dX7_namesNow_15 : decode cX7_namesNow 15 = .ok (.getfield 26, 3) := by decide +kernel
theorem dX7_namesNow_18 : decode cX7_namesNow 18 = .ok (.iload_n 2, 1) := by decide +kernel
theorem dX7_namesNow_19 : decode cX7_namesNow 19 = .ok (.iaload, 1) := by decide +kernel
theorem dX7_namesNow_20 : decode cX7_namesNow 20 = .ok (.invokevirtual 212, 3) := by decide +kernel
theorem dX7_namesNow_23 : decode cX7_namesNow 23 = .ok (.iadd, 1) := by decide +kernel
theorem dX7_namesNow_24 : decode cX7_namesNow 24 = .ok (.istore_n 1, 1) := by decide +kernel
theorem dX7_namesNow_25 : decode cX7_namesNow 25 = .ok (.iinc 2 1, 3) := by decide +kernel
theorem dX7_namesNow_28 : decode cX7_namesNow 28 = .ok (.goto (-24), 3) := by decide +kernel
theorem dX7_namesNow_31 : decode cX7_namesNow 31 = .ok (.iload_n 1, 1) := by decide +kernel
theorem dX7_namesNow_32 : decode cX7_namesNow 32 = .ok (.iconst 2, 1) := by decide +kernel
theorem dX7_namesNow_33 : decode cX7_namesNow 33 = .ok (.idiv, 1) := by decide +kernel
theorem dX7_namesNow_34 : decode cX7_namesNow 34 = .ok (.ireturn, 1) := by decide +kernel
theorem dX7_told_0 : decode cX7_told 0 = .ok (.iload_n 1, 1) := by decide +kernel
theorem dX7_told_1 : decode cX7_told 1 = .ok (.ifCond .ne 10, 3) := by decide +kernel
theorem dX7_told_4 : decode cX7_told 4 = .ok (.aload_n 0, 1) := by decide +kernel
theorem dX7_told_5 : decode cX7_told 5 = .ok (.invokevirtual 216, 3) := by decide +kernel
theorem dX7_told_8 : decode cX7_told 8 = .ok (.goto 16, 3) := by decide +kernel
theorem dX7_told_11 : decode cX7_told 11 = .ok (.iload_n 1, 1) := by decide +kernel
theorem dX7_told_12 : decode cX7_told 12 = .ok (.iconst 1, 1) := by decide +kernel
theorem dX7_told_13 : decode cX7_told 13 = .ok (.if_icmp .ne 10, 3) := by decide +kernel
theorem dX7_told_16 : decode cX7_told 16 = .ok (.aload_n 0, 1) := by decide +kernel
theorem dX7_told_17 : decode cX7_told 17 = .ok (.invokevirtual 291, 3) := by decide +kernel
theorem dX7_told_20 : decode cX7_told 20 = .ok (.goto 4, 3) := by decide +kernel
theorem dX7_told_23 : decode cX7_told 23 = .ok (.iconst (-1), 1) := by decide +kernel
theorem dX7_told_24 : decode cX7_told 24 = .ok (.ireturn, 1) := by decide +kernel
theorem dX7_far_0 : decode cX7_far 0 = .ok (.aload_n 0, 1) := by decide +kernel
theorem dX7_far_1 : decode cX7_far 1 = .ok (.iload_n 1, 1) := by decide +kernel
theorem dX7_far_2 : decode cX7_far 2 = .ok (.iload_n 2, 1) := by decide +kernel
theorem dX7_far_3 : decode cX7_far 3 = .ok (.invokevirtual 205, 3) := by decide +kernel
theorem dX7_far_6 : decode cX7_far 6 = .ok (.ifCond .ne 5, 3) := by decide +kernel
theorem dX7_far_9 : decode cX7_far 9 = .ok (.iconst (-1), 1) := by decide +kernel
theorem dX7_far_10 : decode cX7_far 10 = .ok (.ireturn, 1) := by decide +kernel
theorem dX7_far_11 : decode cX7_far 11 = .ok (.aload_n 0, 1) := by decide +kernel
theorem dX7_far_12 : decode cX7_far 12 = .ok (.invokevirtual 294, 3) := by decide +kernel
theorem dX7_far_15 : decode cX7_far 15 = .ok (.iload_n 1, 1) := by decide +kernel
theorem dX7_far_16 : decode cX7_far 16 = .ok (.iload_n 2, 1) := by decide +kernel
theorem dX7_far_17 : decode cX7_far 17 = .ok (.if_icmp .ne 7, 3) := by decide +kernel
theorem dX7_far_20 : decode cX7_far 20 = .ok (.iconst 0, 1) := by decide +kernel
theorem dX7_far_21 : decode cX7_far 21 = .ok (.goto 14, 3) := by decide +kernel
theorem dX7_far_24 : decode cX7_far 24 = .ok (.aload_n 0, 1) := by decide +kernel
theorem dX7_far_25 : decode cX7_far 25 = .ok (.getfield 96, 3) := by decide +kernel
theorem dX7_far_28 : decode cX7_far 28 = .ok (.bipush 7, 2) := by decide +kernel
theorem dX7_far_30 : decode cX7_far 30 = .ok (.iload_n 1, 1) := by decide +kernel
theorem dX7_far_31 : decode cX7_far 31 = .ok (.imul, 1) := by decide +kernel
theorem dX7_far_32 : decode cX7_far 32 = .ok (.iload_n 2, 1) := by decide +kernel
theorem dX7_far_33 : decode cX7_far 33 = .ok (.iadd, 1) := by decide +kernel
theorem dX7_far_34 : decode cX7_far 34 = .ok (.iaload, 1) := by decide +kernel
theorem dX7_far_35 : decode cX7_far 35 = .ok (.ireturn, 1) := by decide +kernel
theorem dX7_way_0 : decode cX7_way 0 = .ok (.aload_n 0, 1) := by decide +kernel
theorem dX7_way_1 : decode cX7_way 1 = .ok (.iload_n 1, 1) := by decide +kernel
theorem dX7_way_2 : decode cX7_way 2 = .ok (.iload_n 2, 1) := by decide +kernel
theorem dX7_way_3 : decode cX7_way 3 = .ok (.invokevirtual 205, 3) := by decide +kernel
theorem dX7_way_6 : decode cX7_way 6 = .ok (.ifCond .ne 5, 3) := by decide +kernel
theorem dX7_way_9 : decode cX7_way 9 = .ok (.iconst (-1), 1) := by decide +kernel
theorem dX7_way_10 : decode cX7_way 10 = .ok (.ireturn, 1) := by decide +kernel
theorem dX7_way_11 : decode cX7_way 11 = .ok (.aload_n 0, 1) := by decide +kernel
theorem dX7_way_12 : decode cX7_way 12 = .ok (.invokevirtual 294, 3) := by decide +kernel
theorem dX7_way_15 : decode cX7_way 15 = .ok (.aload_n 0, 1) := by decide +kernel
theorem dX7_way_16 : decode cX7_way 16 = .ok (.getfield 99, 3) := by decide +kernel
theorem dX7_way_19 : decode cX7_way 19 = .ok (.bipush 7, 2) := by decide +kernel
theorem dX7_way_21 : decode cX7_way 21 = .ok (.iload_n 1, 1) := by decide +kernel
theorem dX7_way_22 : decode cX7_way 22 = .ok (.imul, 1) := by decide +kernel
theorem dX7_way_23 : decode cX7_way 23 = .ok (.iload_n 2, 1) := by decide +kernel
theorem dX7_way_24 : decode cX7_way 24 = .ok (.iadd, 1) := by decide +kernel
theorem dX7_way_25 : decode cX7_way 25 = .ok (.iaload, 1) := by decide +kernel
theorem dX7_way_26 : decode cX7_way 26 = .ok (.ifCond .ge 8, 3) := by decide +kernel
theorem dX7_way_29 : decode cX7_way 29 = .ok (.bipush (-5), 2) := by decide +kernel
theorem dX7_way_31 : decode cX7_way 31 = .ok (.goto 14, 3) := by decide +kernel
theorem dX7_way_34 : decode cX7_way 34 = .ok (.aload_n 0, 1) := by decide +kernel
theorem dX7_way_35 : decode cX7_way 35 = .ok (.getfield 99, 3) := by decide +kernel
theorem dX7_way_38 : decode cX7_way 38 = .ok (.bipush 7, 2) := by decide +kernel
theorem dX7_way_40 : decode cX7_way 40 = .ok (.iload_n 1, 1) := by decide +kernel
theorem dX7_way_41 : decode cX7_way 41 = .ok (.imul, 1) := by decide +kernel
theorem dX7_way_42 : decode cX7_way 42 = .ok (.iload_n 2, 1) := by decide +kernel
theorem dX7_way_43 : decode cX7_way 43 = .ok (.iadd, 1) := by decide +kernel
theorem dX7_way_44 : decode cX7_way 44 = .ok (.iaload, 1) := by decide +kernel
theorem dX7_way_45 : decode cX7_way 45 = .ok (.ireturn, 1) := by decide +kernel
theorem dX7_towardOf_0 : decode cX7_towardOf 0 = .ok (.iload_n 1, 1) := by decide +kernel
theorem dX7_towardOf_1 : decode cX7_towardOf 1 = .ok (.iload_n 2, 1) := by decide +kernel
theorem dX7_towardOf_2 : decode cX7_towardOf 2 = .ok (.if_icmp .eq 17, 3) := by decide +kernel
theorem dX7_towardOf_5 : decode cX7_towardOf 5 = .ok (.aload_n 0, 1) := by decide +kernel
theorem dX7_towardOf_6 : decode cX7_towardOf 6 = .ok (.getfield 99, 3) := by decide +kernel
theorem dX7_towardOf_9 : decode cX7_towardOf 9 = .ok (.bipush 7, 2) := by decide +kernel
theorem dX7_towardOf_11 : decode cX7_towardOf 11 = .ok (.iload_n 1, 1) := by decide +kernel
theorem dX7_towardOf_12 : decode cX7_towardOf 12 = .ok (.imul, 1) := by decide +kernel
theorem dX7_towardOf_13 : decode cX7_towardOf 13 = .ok (.iload_n 2, 1) := by decide +kernel
theorem dX7_towardOf_14 : decode cX7_towardOf 14 = .ok (.iadd, 1) := by decide +kernel
theorem dX7_towardOf_15 : decode cX7_towardOf 15 = .ok (.iaload, 1) := by decide +kernel
theorem dX7_towardOf_16 : decode cX7_towardOf 16 = .ok (.ifCond .ge 6, 3) := by decide +kernel
theorem dX7_towardOf_19 : decode cX7_towardOf 19 = .ok (.bipush (-5), 2) := by decide +kernel
theorem dX7_towardOf_21 : decode cX7_towardOf 21 = .ok (.ireturn, 1) := by decide +kernel
theorem dX7_towardOf_22 : decode cX7_towardOf 22 = .ok (.iconst 0, 1) := by decide +kernel
theorem dX7_towardOf_23 : decode cX7_towardOf 23 = .ok (.istore_n 3, 1) := by decide +kernel
theorem dX7_towardOf_24 : decode cX7_towardOf 24 = .ok (.iload_n 3, 1) := by decide +kernel
theorem dX7_towardOf_25 : decode cX7_towardOf 25 = .ok (.aload_n 0, 1) := by decide +kernel
theorem dX7_towardOf_26 : decode cX7_towardOf 26 = .ok (.getfield 7, 3) := by decide +kernel
theorem dX7_towardOf_29 : decode cX7_towardOf 29 = .ok (.if_icmp .ge 76, 3) := by decide +kernel
theorem dX7_towardOf_32 : decode cX7_towardOf 32 = .ok (.aload_n 0, 1) := by decide +kernel
theorem dX7_towardOf_33 : decode cX7_towardOf 33 = .ok (.getfield 96, 3) := by decide +kernel
theorem dX7_towardOf_36 : decode cX7_towardOf 36 = .ok (.bipush 7, 2) := by decide +kernel
theorem dX7_towardOf_38 : decode cX7_towardOf 38 = .ok (.iload_n 1, 1) := by decide +kernel
theorem dX7_towardOf_39 : decode cX7_towardOf 39 = .ok (.imul, 1) := by decide +kernel
theorem dX7_towardOf_40 : decode cX7_towardOf 40 = .ok (.iload_n 3, 1) := by decide +kernel
theorem dX7_towardOf_41 : decode cX7_towardOf 41 = .ok (.iadd, 1) := by decide +kernel
theorem dX7_towardOf_42 : decode cX7_towardOf 42 = .ok (.iaload, 1) := by decide +kernel
theorem dX7_towardOf_43 : decode cX7_towardOf 43 = .ok (.ifCond .le 56, 3) := by decide +kernel
theorem dX7_towardOf_46 : decode cX7_towardOf 46 = .ok (.aload_n 0, 1) := by decide +kernel
theorem dX7_towardOf_47 : decode cX7_towardOf 47 = .ok (.getfield 99, 3) := by decide +kernel
theorem dX7_towardOf_50 : decode cX7_towardOf 50 = .ok (.bipush 7, 2) := by decide +kernel
theorem dX7_towardOf_52 : decode cX7_towardOf 52 = .ok (.iload_n 3, 1) := by decide +kernel
theorem dX7_towardOf_53 : decode cX7_towardOf 53 = .ok (.imul, 1) := by decide +kernel
theorem dX7_towardOf_54 : decode cX7_towardOf 54 = .ok (.iload_n 2, 1) := by decide +kernel
theorem dX7_towardOf_55 : decode cX7_towardOf 55 = .ok (.iadd, 1) := by decide +kernel
theorem dX7_towardOf_56 : decode cX7_towardOf 56 = .ok (.iaload, 1) := by decide +kernel
theorem dX7_towardOf_57 : decode cX7_towardOf 57 = .ok (.ifCond .lt 42, 3) := by decide +kernel
theorem dX7_towardOf_60 : decode cX7_towardOf 60 = .ok (.aload_n 0, 1) := by decide +kernel
theorem dX7_towardOf_61 : decode cX7_towardOf 61 = .ok (.getfield 96, 3) := by decide +kernel
theorem dX7_towardOf_64 : decode cX7_towardOf 64 = .ok (.bipush 7, 2) := by decide +kernel
theorem dX7_towardOf_66 : decode cX7_towardOf 66 = .ok (.iload_n 1, 1) := by decide +kernel
theorem dX7_towardOf_67 : decode cX7_towardOf 67 = .ok (.imul, 1) := by decide +kernel
theorem dX7_towardOf_68 : decode cX7_towardOf 68 = .ok (.iload_n 3, 1) := by decide +kernel
theorem dX7_towardOf_69 : decode cX7_towardOf 69 = .ok (.iadd, 1) := by decide +kernel
theorem dX7_towardOf_70 : decode cX7_towardOf 70 = .ok (.iaload, 1) := by decide +kernel
theorem dX7_towardOf_71 : decode cX7_towardOf 71 = .ok (.aload_n 0, 1) := by decide +kernel
theorem dX7_towardOf_72 : decode cX7_towardOf 72 = .ok (.getfield 99, 3) := by decide +kernel
theorem dX7_towardOf_75 : decode cX7_towardOf 75 = .ok (.bipush 7, 2) := by decide +kernel
theorem dX7_towardOf_77 : decode cX7_towardOf 77 = .ok (.iload_n 3, 1) := by decide +kernel
theorem dX7_towardOf_78 : decode cX7_towardOf 78 = .ok (.imul, 1) := by decide +kernel
theorem dX7_towardOf_79 : decode cX7_towardOf 79 = .ok (.iload_n 2, 1) := by decide +kernel
theorem dX7_towardOf_80 : decode cX7_towardOf 80 = .ok (.iadd, 1) := by decide +kernel
theorem dX7_towardOf_81 : decode cX7_towardOf 81 = .ok (.iaload, 1) := by decide +kernel
theorem dX7_towardOf_82 : decode cX7_towardOf 82 = .ok (.iadd, 1) := by decide +kernel
theorem dX7_towardOf_83 : decode cX7_towardOf 83 = .ok (.aload_n 0, 1) := by decide +kernel
theorem dX7_towardOf_84 : decode cX7_towardOf 84 = .ok (.getfield 99, 3) := by decide +kernel
theorem dX7_towardOf_87 : decode cX7_towardOf 87 = .ok (.bipush 7, 2) := by decide +kernel
theorem dX7_towardOf_89 : decode cX7_towardOf 89 = .ok (.iload_n 1, 1) := by decide +kernel
theorem dX7_towardOf_90 : decode cX7_towardOf 90 = .ok (.imul, 1) := by decide +kernel
theorem dX7_towardOf_91 : decode cX7_towardOf 91 = .ok (.iload_n 2, 1) := by decide +kernel
theorem dX7_towardOf_92 : decode cX7_towardOf 92 = .ok (.iadd, 1) := by decide +kernel
theorem dX7_towardOf_93 : decode cX7_towardOf 93 = .ok (.iaload, 1) := by decide +kernel
theorem dX7_towardOf_94 : decode cX7_towardOf 94 = .ok (.if_icmp .ne 5, 3) := by decide +kernel
theorem dX7_towardOf_97 : decode cX7_towardOf 97 = .ok (.iload_n 3, 1) := by decide +kernel
theorem dX7_towardOf_98 : decode cX7_towardOf 98 = .ok (.ireturn, 1) := by decide +kernel
theorem dX7_towardOf_99 : decode cX7_towardOf 99 = .ok (.iinc 3 1, 3) := by decide +kernel
theorem dX7_towardOf_102 : decode cX7_towardOf 102 = .ok (.goto (-78), 3) := by decide +kernel
theorem dX7_towardOf_105 : decode cX7_towardOf 105 = .ok (.bipush (-5), 2) := by decide +kernel
theorem dX7_towardOf_107 : decode cX7_towardOf 107 = .ok (.ireturn, 1) := by decide +kernel
theorem dX7_toward_0 : decode cX7_toward 0 = .ok (.aload_n 0, 1) := by decide +kernel
theorem dX7_toward_1 : decode cX7_toward 1 = .ok (.iload_n 1, 1) := by decide +kernel
theorem dX7_toward_2 : decode cX7_toward 2 = .ok (.iload_n 2, 1) := by decide +kernel
theorem dX7_toward_3 : decode cX7_toward 3 = .ok (.invokevirtual 205, 3) := by decide +kernel
theorem dX7_toward_6 : decode cX7_toward 6 = .ok (.ifCond .ne 5, 3) := by decide +kernel
theorem dX7_toward_9 : decode cX7_toward 9 = .ok (.iconst (-1), 1) := by decide +kernel
theorem dX7_toward_10 : decode cX7_toward 10 = .ok (.ireturn, 1) := by decide +kernel
theorem dX7_toward_11 : decode cX7_toward 11 = .ok (.aload_n 0, 1) := by decide +kernel
theorem dX7_toward_12 : decode cX7_toward 12 = .ok (.invokevirtual 294, 3) := by decide +kernel
theorem dX7_toward_15 : decode cX7_toward 15 = .ok (.aload_n 0, 1) := by decide +kernel
theorem dX7_toward_16 : decode cX7_toward 16 = .ok (.iload_n 1, 1) := by decide +kernel
theorem dX7_toward_17 : decode cX7_toward 17 = .ok (.iload_n 2, 1) := by decide +kernel
theorem dX7_toward_18 : decode cX7_toward 18 = .ok (.invokevirtual 297, 3) := by decide +kernel
theorem dX7_toward_21 : decode cX7_toward 21 = .ok (.ireturn, 1) := by decide +kernel
theorem dX7_leastNamed_0 : decode cX7_leastNamed 0 = .ok (.iconst 0, 1) := by decide +kernel
theorem dX7_leastNamed_1 : decode cX7_leastNamed 1 = .ok (.istore_n 2, 1) := by decide +kernel
theorem dX7_leastNamed_2 : decode cX7_leastNamed 2 = .ok (.iload_n 2, 1) := by decide +kernel
theorem dX7_leastNamed_3 : decode cX7_leastNamed 3 = .ok (.aload_n 0, 1) := by decide +kernel
theorem dX7_leastNamed_4 : decode cX7_leastNamed 4 = .ok (.getfield 7, 3) := by decide +kernel
theorem dX7_leastNamed_7 : decode cX7_leastNamed 7 = .ok (.if_icmp .ge 25, 3) := by decide +kernel
theorem dX7_leastNamed_10 : decode cX7_leastNamed 10 = .ok (.aload_n 0, 1) := by decide +kernel
theorem dX7_leastNamed_11 : decode cX7_leastNamed 11 = .ok (.aload_n 0, 1) := by decide +kernel
theorem dX7_leastNamed_12 : decode cX7_leastNamed 12 = .ok (.getfield 26, 3) := by decide +kernel
theorem dX7_leastNamed_15 : decode cX7_leastNamed 15 = .ok (.iload_n 1, 1) := by decide +kernel
theorem dX7_leastNamed_16 : decode cX7_leastNamed 16 = .ok (.iaload, 1) := by decide +kernel
theorem dX7_leastNamed_17 : decode cX7_leastNamed 17 = .ok (.iload_n 2, 1) := by decide +kernel
theorem dX7_leastNamed_18 : decode cX7_leastNamed 18 = .ok (.invokevirtual 209, 3) := by decide +kernel
theorem dX7_leastNamed_21 : decode cX7_leastNamed 21 = .ok (.ifCond .eq 5, 3) := by decide +kernel
theorem dX7_leastNamed_24 : decode cX7_leastNamed 24 = .ok (.iload_n 2, 1) := by decide +kernel
theorem dX7_leastNamed_25 : decode cX7_leastNamed 25 = .ok (.ireturn, 1) := by decide +kernel
theorem dX7_leastNamed_26 : decode cX7_leastNamed 26 = .ok (.iinc 2 1, 3) := by decide +kernel
theorem dX7_leastNamed_29 : decode cX7_leastNamed 29 = .ok (.goto (-27), 3) := by decide +kernel
theorem dX7_leastNamed_32 : decode cX7_leastNamed 32 = .ok (.bipush (-5), 2) := by decide +kernel
theorem dX7_leastNamed_34 : decode cX7_leastNamed 34 = .ok (.ireturn, 1) := by decide +kernel
theorem dX7_lastNamed_0 : decode cX7_lastNamed 0 = .ok (.aload_n 0, 1) := by decide +kernel
theorem dX7_lastNamed_1 : decode cX7_lastNamed 1 = .ok (.getfield 7, 3) := by decide +kernel
theorem dX7_lastNamed_4 : decode cX7_lastNamed 4 = .ok (.iconst 1, 1) := by decide +kernel
theorem dX7_lastNamed_5 : decode cX7_lastNamed 5 = .ok (.isub, 1) := by decide +kernel
theorem dX7_lastNamed_6 : decode cX7_lastNamed 6 = .ok (.istore_n 2, 1) := by decide +kernel
theorem dX7_lastNamed_7 : decode cX7_lastNamed 7 = .ok (.iload_n 2, 1) := by decide +kernel
theorem dX7_lastNamed_8 : decode cX7_lastNamed 8 = .ok (.ifCond .lt 25, 3) := by decide +kernel
theorem dX7_lastNamed_11 : decode cX7_lastNamed 11 = .ok (.aload_n 0, 1) := by decide +kernel
theorem dX7_lastNamed_12 : decode cX7_lastNamed 12 = .ok (.aload_n 0, 1) := by decide +kernel
theorem dX7_lastNamed_13 : decode cX7_lastNamed 13 = .ok (.getfield 26, 3) := by decide +kernel
theorem dX7_lastNamed_16 : decode cX7_lastNamed 16 = .ok (.iload_n 1, 1) := by decide +kernel
theorem dX7_lastNamed_17 : decode cX7_lastNamed 17 = .ok (.iaload, 1) := by decide +kernel
theorem dX7_lastNamed_18 : decode cX7_lastNamed 18 = .ok (.iload_n 2, 1) := by decide +kernel
theorem dX7_lastNamed_19 : decode cX7_lastNamed 19 = .ok (.invokevirtual 209, 3) := by decide +kernel
theorem dX7_lastNamed_22 : decode cX7_lastNamed 22 = .ok (.ifCond .eq 5, 3) := by decide +kernel
theorem dX7_lastNamed_25 : decode cX7_lastNamed 25 = .ok (.iload_n 2, 1) := by decide +kernel
theorem dX7_lastNamed_26 : decode cX7_lastNamed 26 = .ok (.ireturn, 1) := by decide +kernel
theorem dX7_lastNamed_27 : decode cX7_lastNamed 27 = .ok (.iinc 2 (-1), 3) := by decide +kernel
theorem dX7_lastNamed_30 : decode cX7_lastNamed 30 = .ok (.goto (-23), 3) := by decide +kernel
theorem dX7_lastNamed_33 : decode cX7_lastNamed 33 = .ok (.bipush (-5), 2) := by decide +kernel
theorem dX7_lastNamed_35 : decode cX7_lastNamed 35 = .ok (.ireturn, 1) := by decide +kernel
theorem dX7_nearestNamed_0 : decode cX7_nearestNamed 0 = .ok (.bipush (-5), 2) := by decide +kernel
theorem dX7_nearestNamed_2 : decode cX7_nearestNamed 2 = .ok (.istore_n 2, 1) := by decide +kernel
theorem dX7_nearestNamed_3 : decode cX7_nearestNamed 3 = .ok (.iconst 0, 1) := by decide +kernel
theorem dX7_nearestNamed_4 : decode cX7_nearestNamed 4 = .ok (.istore_n 3, 1) := by decide +kernel
theorem dX7_nearestNamed_5 : decode cX7_nearestNamed 5 = .ok (.iload_n 3, 1) := by decide +kernel
theorem dX7_nearestNamed_6 : decode cX7_nearestNamed 6 = .ok (.aload_n 0, 1) := by decide +kernel
theorem dX7_nearestNamed_7 : decode cX7_nearestNamed 7 = .ok (.getfield 7, 3) := by decide +kernel
theorem dX7_nearestNamed_10 : decode cX7_nearestNamed 10 = .ok (.if_icmp .ge 68, 3) := by decide +kernel
theorem dX7_nearestNamed_13 : decode cX7_nearestNamed 13 = .ok (.aload_n 0, 1) := by decide +kernel
theorem dX7_nearestNamed_14 : decode cX7_nearestNamed 14 = .ok (.aload_n 0, 1) := by decide +kernel
theorem dX7_nearestNamed_15 : decode cX7_nearestNamed 15 = .ok (.getfield 26, 3) := by decide +kernel
theorem dX7_nearestNamed_18 : decode cX7_nearestNamed 18 = .ok (.iload_n 1, 1) := by decide +kernel
theorem dX7_nearestNamed_19 : decode cX7_nearestNamed 19 = .ok (.iaload, 1) := by decide +kernel
theorem dX7_nearestNamed_20 : decode cX7_nearestNamed 20 = .ok (.iload_n 3, 1) := by decide +kernel
theorem dX7_nearestNamed_21 : decode cX7_nearestNamed 21 = .ok (.invokevirtual 209, 3) := by decide +kernel
theorem dX7_nearestNamed_24 : decode cX7_nearestNamed 24 = .ok (.ifCond .eq 48, 3) := by decide +kernel
theorem dX7_nearestNamed_27 : decode cX7_nearestNamed 27 = .ok (.aload_n 0, 1) := by decide +kernel
theorem dX7_nearestNamed_28 : decode cX7_nearestNamed 28 = .ok (.getfield 99, 3) := by decide +kernel
theorem dX7_nearestNamed_31 : decode cX7_nearestNamed 31 = .ok (.bipush 7, 2) := by decide +kernel
theorem dX7_nearestNamed_33 : decode cX7_nearestNamed 33 = .ok (.iload_n 1, 1) := by decide +kernel
theorem dX7_nearestNamed_34 : decode cX7_nearestNamed 34 = .ok (.imul, 1) := by decide +kernel
theorem dX7_nearestNamed_35 : decode cX7_nearestNamed 35 = .ok (.iload_n 3, 1) := by decide +kernel
theorem dX7_nearestNamed_36 : decode cX7_nearestNamed 36 = .ok (.iadd, 1) := by decide +kernel
theorem dX7_nearestNamed_37 : decode cX7_nearestNamed 37 = .ok (.iaload, 1) := by decide +kernel
theorem dX7_nearestNamed_38 : decode cX7_nearestNamed 38 = .ok (.ifCond .lt 34, 3) := by decide +kernel
theorem dX7_nearestNamed_41 : decode cX7_nearestNamed 41 = .ok (.iload_n 2, 1) := by decide +kernel
theorem dX7_nearestNamed_42 : decode cX7_nearestNamed 42 = .ok (.ifCond .lt 28, 3) := by decide +kernel
theorem dX7_nearestNamed_45 : decode cX7_nearestNamed 45 = .ok (.aload_n 0, 1) := by decide +kernel
theorem dX7_nearestNamed_46 : decode cX7_nearestNamed 46 = .ok (.getfield 99, 3) := by decide +kernel
theorem dX7_nearestNamed_49 : decode cX7_nearestNamed 49 = .ok (.bipush 7, 2) := by decide +kernel
theorem dX7_nearestNamed_51 : decode cX7_nearestNamed 51 = .ok (.iload_n 1, 1) := by decide +kernel
theorem dX7_nearestNamed_52 : decode cX7_nearestNamed 52 = .ok (.imul, 1) := by decide +kernel
theorem dX7_nearestNamed_53 : decode cX7_nearestNamed 53 = .ok (.iload_n 3, 1) := by decide +kernel
theorem dX7_nearestNamed_54 : decode cX7_nearestNamed 54 = .ok (.iadd, 1) := by decide +kernel
theorem dX7_nearestNamed_55 : decode cX7_nearestNamed 55 = .ok (.iaload, 1) := by decide +kernel
theorem dX7_nearestNamed_56 : decode cX7_nearestNamed 56 = .ok (.aload_n 0, 1) := by decide +kernel
theorem dX7_nearestNamed_57 : decode cX7_nearestNamed 57 = .ok (.getfield 99, 3) := by decide +kernel
theorem dX7_nearestNamed_60 : decode cX7_nearestNamed 60 = .ok (.bipush 7, 2) := by decide +kernel
theorem dX7_nearestNamed_62 : decode cX7_nearestNamed 62 = .ok (.iload_n 1, 1) := by decide +kernel
theorem dX7_nearestNamed_63 : decode cX7_nearestNamed 63 = .ok (.imul, 1) := by decide +kernel
theorem dX7_nearestNamed_64 : decode cX7_nearestNamed 64 = .ok (.iload_n 2, 1) := by decide +kernel
theorem dX7_nearestNamed_65 : decode cX7_nearestNamed 65 = .ok (.iadd, 1) := by decide +kernel
theorem dX7_nearestNamed_66 : decode cX7_nearestNamed 66 = .ok (.iaload, 1) := by decide +kernel
theorem dX7_nearestNamed_67 : decode cX7_nearestNamed 67 = .ok (.if_icmp .ge 5, 3) := by decide +kernel
theorem dX7_nearestNamed_70 : decode cX7_nearestNamed 70 = .ok (.iload_n 3, 1) := by decide +kernel
theorem dX7_nearestNamed_71 : decode cX7_nearestNamed 71 = .ok (.istore_n 2, 1) := by decide +kernel
theorem dX7_nearestNamed_72 : decode cX7_nearestNamed 72 = .ok (.iinc 3 1, 3) := by decide +kernel
theorem dX7_nearestNamed_75 : decode cX7_nearestNamed 75 = .ok (.goto (-70), 3) := by decide +kernel
theorem dX7_nearestNamed_78 : decode cX7_nearestNamed 78 = .ok (.iload_n 2, 1) := by decide +kernel
theorem dX7_nearestNamed_79 : decode cX7_nearestNamed 79 = .ok (.ireturn, 1) := by decide +kernel
theorem dX7_greatestNamed_0 : decode cX7_greatestNamed 0 = .ok (.bipush (-5), 2) := by decide +kernel
theorem dX7_greatestNamed_2 : decode cX7_greatestNamed 2 = .ok (.istore_n 2, 1) := by decide +kernel
theorem dX7_greatestNamed_3 : decode cX7_greatestNamed 3 = .ok (.iconst 0, 1) := by decide +kernel
theorem dX7_greatestNamed_4 : decode cX7_greatestNamed 4 = .ok (.istore_n 3, 1) := by decide +kernel
theorem dX7_greatestNamed_5 : decode cX7_greatestNamed 5 = .ok (.iload_n 3, 1) := by decide +kernel
theorem dX7_greatestNamed_6 : decode cX7_greatestNamed 6 = .ok (.aload_n 0, 1) := by decide +kernel
theorem dX7_greatestNamed_7 : decode cX7_greatestNamed 7 = .ok (.getfield 7, 3) := by decide +kernel
theorem dX7_greatestNamed_10 : decode cX7_greatestNamed 10 = .ok (.if_icmp .ge 44, 3) := by decide +kernel
theorem dX7_greatestNamed_13 : decode cX7_greatestNamed 13 = .ok (.aload_n 0, 1) := by decide +kernel
theorem dX7_greatestNamed_14 : decode cX7_greatestNamed 14 = .ok (.aload_n 0, 1) := by decide +kernel
theorem dX7_greatestNamed_15 : decode cX7_greatestNamed 15 = .ok (.getfield 26, 3) := by decide +kernel
theorem dX7_greatestNamed_18 : decode cX7_greatestNamed 18 = .ok (.iload_n 1, 1) := by decide +kernel
theorem dX7_greatestNamed_19 : decode cX7_greatestNamed 19 = .ok (.iaload, 1) := by decide +kernel
theorem dX7_greatestNamed_20 : decode cX7_greatestNamed 20 = .ok (.iload_n 3, 1) := by decide +kernel
theorem dX7_greatestNamed_21 : decode cX7_greatestNamed 21 = .ok (.invokevirtual 209, 3) := by decide +kernel
theorem dX7_greatestNamed_24 : decode cX7_greatestNamed 24 = .ok (.ifCond .eq 24, 3) := by decide +kernel
theorem dX7_greatestNamed_27 : decode cX7_greatestNamed 27 = .ok (.iload_n 2, 1) := by decide +kernel
theorem dX7_greatestNamed_28 : decode cX7_greatestNamed 28 = .ok (.ifCond .lt 18, 3) := by decide +kernel
theorem dX7_greatestNamed_31 : decode cX7_greatestNamed 31 = .ok (.aload_n 0, 1) := by decide +kernel
theorem dX7_greatestNamed_32 : decode cX7_greatestNamed 32 = .ok (.getfield 102, 3) := by decide +kernel
theorem dX7_greatestNamed_35 : decode cX7_greatestNamed 35 = .ok (.iload_n 3, 1) := by decide +kernel
theorem dX7_greatestNamed_36 : decode cX7_greatestNamed 36 = .ok (.iaload, 1) := by decide +kernel
theorem dX7_greatestNamed_37 : decode cX7_greatestNamed 37 = .ok (.aload_n 0, 1) := by decide +kernel
theorem dX7_greatestNamed_38 : decode cX7_greatestNamed 38 = .ok (.getfield 102, 3) := by decide +kernel
theorem dX7_greatestNamed_41 : decode cX7_greatestNamed 41 = .ok (.iload_n 2, 1) := by decide +kernel
theorem dX7_greatestNamed_42 : decode cX7_greatestNamed 42 = .ok (.iaload, 1) := by decide +kernel
theorem dX7_greatestNamed_43 : decode cX7_greatestNamed 43 = .ok (.if_icmp .le 5, 3) := by decide +kernel
theorem dX7_greatestNamed_46 : decode cX7_greatestNamed 46 = .ok (.iload_n 3, 1) := by decide +kernel
theorem dX7_greatestNamed_47 : decode cX7_greatestNamed 47 = .ok (.istore_n 2, 1) := by decide +kernel
theorem dX7_greatestNamed_48 : decode cX7_greatestNamed 48 = .ok (.iinc 3 1, 3) := by decide +kernel
theorem dX7_greatestNamed_51 : decode cX7_greatestNamed 51 = .ok (.goto (-46), 3) := by decide +kernel
theorem dX7_greatestNamed_54 : decode cX7_greatestNamed 54 = .ok (.iload_n 2, 1) := by decide +kernel
theorem dX7_greatestNamed_55 : decode cX7_greatestNamed 55 = .ok (.ireturn, 1) := by decide +kernel
theorem dX7_goalOf_0 : decode cX7_goalOf 0 = .ok (.aload_n 0, 1) := by decide +kernel
theorem dX7_goalOf_1 : decode cX7_goalOf 1 = .ok (.aload_n 0, 1) := by decide +kernel
theorem dX7_goalOf_2 : decode cX7_goalOf 2 = .ok (.getfield 26, 3) := by decide +kernel
theorem dX7_goalOf_5 : decode cX7_goalOf 5 = .ok (.iload_n 1, 1) := by decide +kernel
theorem dX7_goalOf_6 : decode cX7_goalOf 6 = .ok (.iaload, 1) := by decide +kernel
theorem dX7_goalOf_7 : decode cX7_goalOf 7 = .ok (.iload_n 2, 1) := by decide +kernel
theorem dX7_goalOf_8 : decode cX7_goalOf 8 = .ok (.invokevirtual 209, 3) := by decide +kernel
theorem dX7_goalOf_11 : decode cX7_goalOf 11 = .ok (.ifCond .ne 17, 3) := by decide +kernel
theorem dX7_goalOf_14 : decode cX7_goalOf 14 = .ok (.aload_n 0, 1) := by decide +kernel
theorem dX7_goalOf_15 : decode cX7_goalOf 15 = .ok (.getfield 29, 3) := by decide +kernel
theorem dX7_goalOf_18 : decode cX7_goalOf 18 = .ok (.bipush 7, 2) := by decide +kernel
theorem dX7_goalOf_20 : decode cX7_goalOf 20 = .ok (.iload_n 1, 1) := by decide +kernel
theorem dX7_goalOf_21 : decode cX7_goalOf 21 = .ok (.imul, 1) := by decide +kernel
theorem dX7_goalOf_22 : decode cX7_goalOf 22 = .ok (.iload_n 2, 1) := by decide +kernel
theorem dX7_goalOf_23 : decode cX7_goalOf 23 = .ok (.iadd, 1) := by decide +kernel
theorem dX7_goalOf_24 : decode cX7_goalOf 24 = .ok (.iaload, 1) := by decide +kernel
theorem dX7_goalOf_25 : decode cX7_goalOf 25 = .ok (.ifCond .le 5, 3) := by decide +kernel
theorem dX7_goalOf_28 : decode cX7_goalOf 28 = .ok (.iload_n 2, 1) := by decide +kernel
theorem dX7_goalOf_29 : decode cX7_goalOf 29 = .ok (.ireturn, 1) := by decide +kernel
theorem dX7_goalOf_30 : decode cX7_goalOf 30 = .ok (.aload_n 0, 1) := by decide +kernel
theorem dX7_goalOf_31 : decode cX7_goalOf 31 = .ok (.getfield 16, 3) := by decide +kernel
theorem dX7_goalOf_34 : decode cX7_goalOf 34 = .ok (.iload_n 1, 1) := by decide +kernel
theorem dX7_goalOf_35 : decode cX7_goalOf 35 = .ok (.iaload, 1) := by decide +kernel
theorem dX7_goalOf_36 : decode cX7_goalOf 36 = .ok (.tableswitch 116 1 6 #[40, 46, 52, 58, 60, 95], 40) := by decide +kernel
theorem dX7_goalOf_76 : decode cX7_goalOf 76 = .ok (.aload_n 0, 1) := by decide +kernel
theorem dX7_goalOf_77 : decode cX7_goalOf 77 = .ok (.iload_n 1, 1) := by decide +kernel
theorem dX7_goalOf_78 : decode cX7_goalOf 78 = .ok (.invokevirtual 300, 3) := by decide +kernel
theorem dX7_goalOf_81 : decode cX7_goalOf 81 = .ok (.ireturn, 1) := by decide +kernel
theorem dX7_goalOf_82 : decode cX7_goalOf 82 = .ok (.aload_n 0, 1) := by decide +kernel
theorem dX7_goalOf_83 : decode cX7_goalOf 83 = .ok (.iload_n 1, 1) := by decide +kernel
theorem dX7_goalOf_84 : decode cX7_goalOf 84 = .ok (.invokevirtual 303, 3) := by decide +kernel
theorem dX7_goalOf_87 : decode cX7_goalOf 87 = .ok (.ireturn, 1) := by decide +kernel
theorem dX7_goalOf_88 : decode cX7_goalOf 88 = .ok (.aload_n 0, 1) := by decide +kernel
theorem dX7_goalOf_89 : decode cX7_goalOf 89 = .ok (.iload_n 1, 1) := by decide +kernel
theorem dX7_goalOf_90 : decode cX7_goalOf 90 = .ok (.invokevirtual 306, 3) := by decide +kernel
theorem dX7_goalOf_93 : decode cX7_goalOf 93 = .ok (.ireturn, 1) := by decide +kernel
theorem dX7_goalOf_94 : decode cX7_goalOf 94 = .ok (.iload_n 2, 1) := by decide +kernel
theorem dX7_goalOf_95 : decode cX7_goalOf 95 = .ok (.ireturn, 1) := by decide +kernel
theorem dX7_goalOf_96 : decode cX7_goalOf 96 = .ok (.aload_n 0, 1) := by decide +kernel
theorem dX7_goalOf_97 : decode cX7_goalOf 97 = .ok (.getfield 20, 3) := by decide +kernel
theorem dX7_goalOf_100 : decode cX7_goalOf 100 = .ok (.iload_n 1, 1) := by decide +kernel
theorem dX7_goalOf_101 : decode cX7_goalOf 101 = .ok (.iaload, 1) := by decide +kernel
theorem dX7_goalOf_102 : decode cX7_goalOf 102 = .ok (.aload_n 0, 1) := by decide +kernel
theorem dX7_goalOf_103 : decode cX7_goalOf 103 = .ok (.getfield 7, 3) := by decide +kernel
theorem dX7_goalOf_106 : decode cX7_goalOf 106 = .ok (.irem, 1) := by decide +kernel
theorem dX7_goalOf_107 : decode cX7_goalOf 107 = .ok (.iload_n 1, 1) := by decide +kernel
theorem dX7_goalOf_108 : decode cX7_goalOf 108 = .ok (.if_icmp .ne 11, 3) := by decide +kernel
theorem dX7_goalOf_111 : decode cX7_goalOf 111 = .ok (.aload_n 0, 1) := by decide +kernel
theorem dX7_goalOf_112 : decode cX7_goalOf 112 = .ok (.iload_n 1, 1) := by decide +kernel
theorem dX7_goalOf_113 : decode cX7_goalOf 113 = .ok (.invokevirtual 303, 3) := by decide +kernel
theorem dX7_goalOf_116 : decode cX7_goalOf 116 = .ok (.goto 14, 3) := by decide +kernel
theorem dX7_goalOf_119 : decode cX7_goalOf 119 = .ok (.aload_n 0, 1) := by decide +kernel
theorem dX7_goalOf_120 : decode cX7_goalOf 120 = .ok (.getfield 20, 3) := by decide +kernel
theorem dX7_goalOf_123 : decode cX7_goalOf 123 = .ok (.iload_n 1, 1) := by decide +kernel
theorem dX7_goalOf_124 : decode cX7_goalOf 124 = .ok (.iaload, 1) := by decide +kernel
theorem dX7_goalOf_125 : decode cX7_goalOf 125 = .ok (.aload_n 0, 1) := by decide +kernel
theorem dX7_goalOf_126 : decode cX7_goalOf 126 = .ok (.getfield 7, 3) := by decide +kernel
theorem dX7_goalOf_129 : decode cX7_goalOf 129 = .ok (.irem, 1) := by decide +kernel
theorem dX7_goalOf_130 : decode cX7_goalOf 130 = .ok (.ireturn, 1) := by decide +kernel
theorem dX7_goalOf_131 : decode cX7_goalOf 131 = .ok (.aload_n 0, 1) := by decide +kernel
theorem dX7_goalOf_132 : decode cX7_goalOf 132 = .ok (.getfield 20, 3) := by decide +kernel
theorem dX7_goalOf_135 : decode cX7_goalOf 135 = .ok (.iload_n 1, 1) := by decide +kernel
theorem dX7_goalOf_136 : decode cX7_goalOf 136 = .ok (.iaload, 1) := by decide +kernel
theorem dX7_goalOf_137 : decode cX7_goalOf 137 = .ok (.iconst 4, 1) := by decide +kernel
theorem dX7_goalOf_138 : decode cX7_goalOf 138 = .ok (.if_icmp .le 11, 3) := by decide +kernel
theorem dX7_goalOf_141 : decode cX7_goalOf 141 = .ok (.aload_n 0, 1) := by decide +kernel
theorem dX7_goalOf_142 : decode cX7_goalOf 142 = .ok (.iload_n 1, 1) := by decide +kernel
theorem dX7_goalOf_143 : decode cX7_goalOf 143 = .ok (.invokevirtual 306, 3) := by decide +kernel
theorem dX7_goalOf_146 : decode cX7_goalOf 146 = .ok (.goto 5, 3) := by decide +kernel
theorem dX7_goalOf_149 : decode cX7_goalOf 149 = .ok (.bipush (-5), 2) := by decide +kernel
theorem dX7_goalOf_151 : decode cX7_goalOf 151 = .ok (.ireturn, 1) := by decide +kernel
theorem dX7_goalOf_152 : decode cX7_goalOf 152 = .ok (.aload_n 0, 1) := by decide +kernel
theorem dX7_goalOf_153 : decode cX7_goalOf 153 = .ok (.iload_n 1, 1) := by decide +kernel
theorem dX7_goalOf_154 : decode cX7_goalOf 154 = .ok (.invokevirtual 309, 3) := by decide +kernel
theorem dX7_goalOf_157 : decode cX7_goalOf 157 = .ok (.ireturn, 1) := by decide +kernel
theorem dX7_turnedTo_0 : decode cX7_turnedTo 0 = .ok (.aload_n 0, 1) := by decide +kernel
theorem dX7_turnedTo_1 : decode cX7_turnedTo 1 = .ok (.getfield 111, 3) := by decide +kernel
theorem dX7_turnedTo_4 : decode cX7_turnedTo 4 = .ok (.iconst 1, 1) := by decide +kernel
theorem dX7_turnedTo_5 : decode cX7_turnedTo 5 = .ok (.iadd, 1) := by decide +kernel
theorem dX7_turnedTo_6 : decode cX7_turnedTo 6 = .ok (.aload_n 0, 1) := by decide +kernel
theorem dX7_turnedTo_7 : decode cX7_turnedTo 7 = .ok (.getfield 7, 3) := by decide +kernel
theorem dX7_turnedTo_10 : decode cX7_turnedTo 10 = .ok (.irem, 1) := by decide +kernel
theorem dX7_turnedTo_11 : decode cX7_turnedTo 11 = .ok (.istore_n 1, 1) := by decide +kernel
theorem dX7_turnedTo_12 : decode cX7_turnedTo 12 = .ok (.iload_n 1, 1) := by decide +kernel
theorem dX7_turnedTo_13 : decode cX7_turnedTo 13 = .ok (.aload_n 0, 1) := by decide +kernel
theorem dX7_turnedTo_14 : decode cX7_turnedTo 14 = .ok (.getfield 108, 3) := by decide +kernel
theorem dX7_turnedTo_17 : decode cX7_turnedTo 17 = .ok (.if_icmp .ne 14, 3) := by decide +kernel
theorem dX7_turnedTo_20 : decode cX7_turnedTo 20 = .ok (.iload_n 1, 1) := by decide +kernel
theorem dX7_turnedTo_21 : decode cX7_turnedTo 21 = .ok (.iconst 1, 1) := by decide +kernel
theorem dX7_turnedTo_22 : decode cX7_turnedTo 22 = .ok (.iadd, 1) := by decide +kernel
theorem dX7_turnedTo_23 : decode cX7_turnedTo 23 = .ok (.aload_n 0, 1) := by decide +kernel
theorem dX7_turnedTo_24 : decode cX7_turnedTo 24 = .ok (.getfield 7, 3) := by decide +kernel
theorem dX7_turnedTo_27 : decode cX7_turnedTo 27 = .ok (.irem, 1) := by decide +kernel
theorem dX7_turnedTo_28 : decode cX7_turnedTo 28 = .ok (.goto 4, 3) := by decide +kernel
theorem dX7_turnedTo_31 : decode cX7_turnedTo 31 = .ok (.iload_n 1, 1) := by decide +kernel
theorem dX7_turnedTo_32 : decode cX7_turnedTo 32 = .ok (.ireturn, 1) := by decide +kernel
theorem dX7_nextOf_0 : decode cX7_nextOf 0 = .ok (.aload_n 0, 1) := by decide +kernel
theorem dX7_nextOf_1 : decode cX7_nextOf 1 = .ok (.iload_n 1, 1) := by decide +kernel
theorem dX7_nextOf_2 : decode cX7_nextOf 2 = .ok (.iload_n 2, 1) := by decide +kernel
theorem dX7_nextOf_3 : decode cX7_nextOf 3 = .ok (.invokevirtual 312, 3) := by decide +kernel
theorem dX7_nextOf_6 : decode cX7_nextOf 6 = .ok (.istore_n 3, 1) := by decide +kernel
theorem dX7_nextOf_7 : decode cX7_nextOf 7 = .ok (.iload_n 3, 1) := by decide +kernel
theorem dX7_nextOf_8 : decode cX7_nextOf 8 = .ok (.ifCond .ge 6, 3) := by decide +kernel
theorem dX7_nextOf_11 : decode cX7_nextOf 11 = .ok (.bipush (-5), 2) := by decide +kernel
theorem dX7_nextOf_13 : decode cX7_nextOf 13 = .ok (.ireturn, 1) := by decide +kernel
theorem dX7_nextOf_14 : decode cX7_nextOf 14 = .ok (.aload_n 0, 1) := by decide +kernel
theorem dX7_nextOf_15 : decode cX7_nextOf 15 = .ok (.iload_n 1, 1) := by decide +kernel
theorem dX7_nextOf_16 : decode cX7_nextOf 16 = .ok (.iload_n 1, 1) := by decide +kernel
theorem dX7_nextOf_17 : decode cX7_nextOf 17 = .ok (.aload_n 0, 1) := by decide +kernel
theorem dX7_nextOf_18 : decode cX7_nextOf 18 = .ok (.getfield 108, 3) := by decide +kernel
theorem dX7_nextOf_21 : decode cX7_nextOf 21 = .ok (.if_icmp .ne 18, 3) := by decide +kernel
theorem dX7_nextOf_24 : decode cX7_nextOf 24 = .ok (.iload_n 3, 1) := by decide +kernel
theorem dX7_nextOf_25 : decode cX7_nextOf 25 = .ok (.aload_n 0, 1) := by decide +kernel
theorem dX7_nextOf_26 : decode cX7_nextOf 26 = .ok (.getfield 111, 3) := by decide +kernel
theorem dX7_nextOf_29 : decode cX7_nextOf 29 = .ok (.if_icmp .ne 10, 3) := by decide +kernel
theorem dX7_nextOf_32 : decode cX7_nextOf 32 = .ok (.aload_n 0, 1) := by decide +kernel
theorem dX7_nextOf_33 : decode cX7_nextOf 33 = .ok (.invokevirtual 315, 3) := by decide +kernel
theorem dX7_nextOf_36 : decode cX7_nextOf 36 = .ok (.goto 4, 3) := by decide +kernel
theorem dX7_nextOf_39 : decode cX7_nextOf 39 = .ok (.iload_n 3, 1) := by decide +kernel
theorem dX7_nextOf_40 : decode cX7_nextOf 40 = .ok (.invokevirtual 297, 3) := by decide +kernel
theorem dX7_nextOf_43 : decode cX7_nextOf 43 = .ok (.ireturn, 1) := by decide +kernel
theorem dX7_next_0 : decode cX7_next 0 = .ok (.aload_n 0, 1) := by decide +kernel
theorem dX7_next_1 : decode cX7_next 1 = .ok (.iload_n 1, 1) := by decide +kernel
theorem dX7_next_2 : decode cX7_next 2 = .ok (.iload_n 2, 1) := by decide +kernel
theorem dX7_next_3 : decode cX7_next 3 = .ok (.invokevirtual 205, 3) := by decide +kernel
theorem dX7_next_6 : decode cX7_next 6 = .ok (.ifCond .ne 5, 3) := by decide +kernel
theorem dX7_next_9 : decode cX7_next 9 = .ok (.iconst (-1), 1) := by decide +kernel
theorem dX7_next_10 : decode cX7_next 10 = .ok (.ireturn, 1) := by decide +kernel
theorem dX7_next_11 : decode cX7_next 11 = .ok (.iload_n 1, 1) := by decide +kernel
theorem dX7_next_12 : decode cX7_next 12 = .ok (.iload_n 2, 1) := by decide +kernel
theorem dX7_next_13 : decode cX7_next 13 = .ok (.if_icmp .ne 6, 3) := by decide +kernel
theorem dX7_next_16 : decode cX7_next 16 = .ok (.bipush (-2), 2) := by decide +kernel
theorem dX7_next_18 : decode cX7_next 18 = .ok (.ireturn, 1) := by decide +kernel
theorem dX7_next_19 : decode cX7_next 19 = .ok (.aload_n 0, 1) := by decide +kernel
theorem dX7_next_20 : decode cX7_next 20 = .ok (.invokevirtual 294, 3) := by decide +kernel
theorem dX7_next_23 : decode cX7_next 23 = .ok (.aload_n 0, 1) := by decide +kernel
theorem dX7_next_24 : decode cX7_next 24 = .ok (.iload_n 1, 1) := by decide +kernel
theorem dX7_next_25 : decode cX7_next 25 = .ok (.iload_n 2, 1) := by decide +kernel
theorem dX7_next_26 : decode cX7_next 26 = .ok (.invokevirtual 318, 3) := by decide +kernel
theorem dX7_next_29 : decode cX7_next 29 = .ok (.ireturn, 1) := by decide +kernel
theorem dX7_goes_0 : decode cX7_goes 0 = .ok (.aload_n 0, 1) := by decide +kernel
theorem dX7_goes_1 : decode cX7_goes 1 = .ok (.iconst 0, 1) := by decide +kernel
theorem dX7_goes_2 : decode cX7_goes 2 = .ok (.putfield 114, 3) := by decide +kernel
theorem dX7_goes_5 : decode cX7_goes 5 = .ok (.aload_n 0, 1) := by decide +kernel
theorem dX7_goes_6 : decode cX7_goes 6 = .ok (.iconst 0, 1) := by decide +kernel
theorem dX7_goes_7 : decode cX7_goes 7 = .ok (.putfield 117, 3) := by decide +kernel
theorem dX7_goes_10 : decode cX7_goes 10 = .ok (.aload_n 0, 1) := by decide +kernel
theorem dX7_goes_11 : decode cX7_goes 11 = .ok (.iload_n 1, 1) := by decide +kernel
theorem dX7_goes_12 : decode cX7_goes 12 = .ok (.putfield 120, 3) := by decide +kernel
theorem dX7_goes_15 : decode cX7_goes 15 = .ok (.aload_n 0, 1) := by decide +kernel
theorem dX7_goes_16 : decode cX7_goes 16 = .ok (.getfield 120, 3) := by decide +kernel
theorem dX7_goes_19 : decode cX7_goes 19 = .ok (.iload_n 2, 1) := by decide +kernel
theorem dX7_goes_20 : decode cX7_goes 20 = .ok (.if_icmp .eq 69, 3) := by decide +kernel
theorem dX7_goes_23 : decode cX7_goes 23 = .ok (.aload_n 0, 1) := by decide +kernel
theorem dX7_goes_24 : decode cX7_goes 24 = .ok (.getfield 117, 3) := by decide +kernel
theorem dX7_goes_27 : decode cX7_goes 27 = .ok (.bipush 20, 2) := by decide +kernel
theorem dX7_goes_29 : decode cX7_goes 29 = .ok (.if_icmp .ge 60, 3) := by decide +kernel
theorem dX7_goes_32 : decode cX7_goes 32 = .ok (.aload_n 0, 1) := by decide +kernel
theorem dX7_goes_33 : decode cX7_goes 33 = .ok (.aload_n 0, 1) := by decide +kernel
theorem dX7_goes_34 : decode cX7_goes 34 = .ok (.getfield 120, 3) := by decide +kernel
theorem dX7_goes_37 : decode cX7_goes 37 = .ok (.iload_n 2, 1) := by decide +kernel
theorem dX7_goes_38 : decode cX7_goes 38 = .ok (.invokevirtual 318, 3) := by decide +kernel
theorem dX7_goes_41 : decode cX7_goes 41 = .ok (.istore_n 3, 1) := by decide +kernel
theorem dX7_goes_42 : decode cX7_goes 42 = .ok (.iload_n 3, 1) := by decide +kernel
theorem dX7_goes_43 : decode cX7_goes 43 = .ok (.ifCond .ge 5, 3) := by decide +kernel
theorem dX7_goes_46 : decode cX7_goes 46 = .ok (.iconst 0, 1) := by decide +kernel
theorem dX7_goes_47 : decode cX7_goes 47 = .ok (.ireturn, 1) := by decide +kernel
theorem dX7_goes_48 : decode cX7_goes 48 = .ok (.aload_n 0, 1) := by decide +kernel
theorem dX7_goes_49 : decode cX7_goes 49 = .ok (.dup, 1) := by decide +kernel
theorem dX7_goes_50 : decode cX7_goes 50 = .ok (.getfield 114, 3) := by decide +kernel
theorem dX7_goes_53 : decode cX7_goes 53 = .ok (.aload_n 0, 1) := by decide +kernel
theorem dX7_goes_54 : decode cX7_goes 54 = .ok (.getfield 96, 3) := by decide +kernel
theorem dX7_goes_57 : decode cX7_goes 57 = .ok (.bipush 7, 2) := by decide +kernel
theorem dX7_goes_59 : decode cX7_goes 59 = .ok (.aload_n 0, 1) := by decide +kernel
theorem dX7_goes_60 : decode cX7_goes 60 = .ok (.getfield 120, 3) := by decide +kernel
theorem dX7_goes_63 : decode cX7_goes 63 = .ok (.imul, 1) := by decide +kernel
theorem dX7_goes_64 : decode cX7_goes 64 = .ok (.iload_n 3, 1) := by decide +kernel
theorem dX7_goes_65 : decode cX7_goes 65 = .ok (.iadd, 1) := by decide +kernel
theorem dX7_goes_66 : decode cX7_goes 66 = .ok (.iaload, 1) := by decide +kernel
theorem dX7_goes_67 : decode cX7_goes 67 = .ok (.iadd, 1) := by decide +kernel
theorem dX7_goes_68 : decode cX7_goes 68 = .ok (.putfield 114, 3) := by decide +kernel
theorem dX7_goes_71 : decode cX7_goes 71 = .ok (.aload_n 0, 1) := by decide +kernel
theorem dX7_goes_72 : decode cX7_goes 72 = .ok (.dup, 1) := by decide +kernel
theorem dX7_goes_73 : decode cX7_goes 73 = .ok (.getfield 117, 3) := by decide +kernel
theorem dX7_goes_76 : decode cX7_goes 76 = .ok (.iconst 1, 1) := by decide +kernel
theorem dX7_goes_77 : decode cX7_goes 77 = .ok (.iadd, 1) := by decide +kernel
theorem dX7_goes_78 : decode cX7_goes 78 = .ok (.putfield 117, 3) := by decide +kernel
theorem dX7_goes_81 : decode cX7_goes 81 = .ok (.aload_n 0, 1) := by decide +kernel
theorem dX7_goes_82 : decode cX7_goes 82 = .ok (.iload_n 3, 1) := by decide +kernel
theorem dX7_goes_83 : decode cX7_goes 83 = .ok (.putfield 120, 3) := by decide +kernel
theorem dX7_goes_86 : decode cX7_goes 86 = .ok (.goto (-71), 3) := by decide +kernel
theorem dX7_goes_89 : decode cX7_goes 89 = .ok (.aload_n 0, 1) := by decide +kernel
theorem dX7_goes_90 : decode cX7_goes 90 = .ok (.getfield 120, 3) := by decide +kernel
theorem dX7_goes_93 : decode cX7_goes 93 = .ok (.iload_n 2, 1) := by decide +kernel
theorem dX7_goes_94 : decode cX7_goes 94 = .ok (.if_icmp .ne 7, 3) := by decide +kernel
theorem dX7_goes_97 : decode cX7_goes 97 = .ok (.iconst 1, 1) := by decide +kernel
theorem dX7_goes_98 : decode cX7_goes 98 = .ok (.goto 4, 3) := by decide +kernel
theorem dX7_goes_101 : decode cX7_goes 101 = .ok (.iconst 0, 1) := by decide +kernel
theorem dX7_goes_102 : decode cX7_goes 102 = .ok (.ireturn, 1) := by decide +kernel
theorem dX7_gone_0 : decode cX7_gone 0 = .ok (.aload_n 0, 1) := by decide +kernel
theorem dX7_gone_1 : decode cX7_gone 1 = .ok (.iload_n 1, 1) := by decide +kernel
theorem dX7_gone_2 : decode cX7_gone 2 = .ok (.iload_n 2, 1) := by decide +kernel
theorem dX7_gone_3 : decode cX7_gone 3 = .ok (.invokevirtual 205, 3) := by decide +kernel
theorem dX7_gone_6 : decode cX7_gone 6 = .ok (.ifCond .eq 13, 3) := by decide +kernel
theorem dX7_gone_9 : decode cX7_gone 9 = .ok (.aload_n 0, 1) := by decide +kernel
theorem dX7_gone_10 : decode cX7_gone 10 = .ok (.iload_n 3, 1) := by decide +kernel
theorem dX7_gone_11 : decode cX7_gone 11 = .ok (.iconst 0, 1) := by decide +kernel
theorem dX7_gone_12 : decode cX7_gone 12 = .ok (.iconst 1, 1) := by decide +kernel
theorem dX7_gone_13 : decode cX7_gone 13 = .ok (.invokevirtual 197, 3) := by decide +kernel
theorem dX7_gone_16 : decode cX7_gone 16 = .ok (.ifCond .ne 5, 3) := by decide +kernel
theorem dX7_gone_19 : decode cX7_gone 19 = .ok (.iconst (-1), 1) := by decide +kernel
theorem dX7_gone_20 : decode cX7_gone 20 = .ok (.ireturn, 1) := by decide +kernel
theorem dX7_gone_21 : decode cX7_gone 21 = .ok (.iload_n 1, 1) := by decide +kernel
theorem dX7_gone_22 : decode cX7_gone 22 = .ok (.iload_n 2, 1) := by decide +kernel
theorem dX7_gone_23 : decode cX7_gone 23 = .ok (.if_icmp .ne 6, 3) := by decide +kernel
theorem dX7_gone_26 : decode cX7_gone 26 = .ok (.bipush (-2), 2) := by decide +kernel
theorem dX7_gone_28 : decode cX7_gone 28 = .ok (.ireturn, 1) := by decide +kernel
theorem dX7_gone_29 : decode cX7_gone 29 = .ok (.aload_n 0, 1) := by decide +kernel
theorem dX7_gone_30 : decode cX7_gone 30 = .ok (.invokevirtual 294, 3) := by decide +kernel
theorem dX7_gone_33 : decode cX7_gone 33 = .ok (.aload_n 0, 1) := by decide +kernel
theorem dX7_gone_34 : decode cX7_gone 34 = .ok (.iload_n 1, 1) := by decide +kernel
theorem dX7_gone_35 : decode cX7_gone 35 = .ok (.iload_n 2, 1) := by decide +kernel
theorem dX7_gone_36 : decode cX7_gone 36 = .ok (.invokevirtual 321, 3) := by decide +kernel
theorem dX7_gone_39 : decode cX7_gone 39 = .ok (.ifCond .ne 6, 3) := by decide +kernel
theorem dX7_gone_42 : decode cX7_gone 42 = .ok (.bipush (-5), 2) := by decide +kernel
theorem dX7_gone_44 : decode cX7_gone 44 = .ok (.ireturn, 1) := by decide +kernel
theorem dX7_gone_45 : decode cX7_gone 45 = .ok (.iload_n 3, 1) := by decide +kernel
theorem dX7_gone_46 : decode cX7_gone 46 = .ok (.ifCond .ne 10, 3) := by decide +kernel
theorem dX7_gone_49 : decode cX7_gone 49 = .ok (.aload_n 0, 1) := by decide +kernel
theorem dX7_gone_50 : decode cX7_gone 50 = .ok (.getfield 114, 3) := by decide +kernel
theorem dX7_gone_53 : decode cX7_gone 53 = .ok (.goto 7, 3) := by decide +kernel
theorem dX7_gone_56 : decode cX7_gone 56 = .ok (.aload_n 0, 1) := by decide +kernel
theorem dX7_gone_57 : decode cX7_gone 57 = .ok (.getfield 117, 3) := by decide +kernel
theorem dX7_gone_60 : decode cX7_gone 60 = .ok (.ireturn, 1) := by decide +kernel
theorem dX7_lostPairs_0 : decode cX7_lostPairs 0 = .ok (.aload_n 0, 1) := by decide +kernel
theorem dX7_lostPairs_1 : decode cX7_lostPairs 1 = .ok (.invokevirtual 294, 3) := by decide +kernel
theorem dX7_lostPairs_4 : decode cX7_lostPairs 4 = .ok (.iconst 0, 1) := by decide +kernel
theorem dX7_lostPairs_5 : decode cX7_lostPairs 5 = .ok (.istore_n 1, 1) := by decide +kernel
theorem dX7_lostPairs_6 : decode cX7_lostPairs 6 = .ok (.iconst 0, 1) := by decide +kernel
theorem dX7_lostPairs_7 : decode cX7_lostPairs 7 = .ok (.istore_n 2, 1) := by decide +kernel
theorem dX7_lostPairs_8 : decode cX7_lostPairs 8 = .ok (.iload_n 2, 1) := by decide +kernel
theorem dX7_lostPairs_9 : decode cX7_lostPairs 9 = .ok (.aload_n 0, 1) := by decide +kernel
theorem dX7_lostPairs_10 : decode cX7_lostPairs 10 = .ok (.getfield 7, 3) := by decide +kernel
theorem dX7_lostPairs_13 : decode cX7_lostPairs 13 = .ok (.if_icmp .ge 47, 3) := by decide +kernel
theorem dX7_lostPairs_16 : decode cX7_lostPairs 16 = .ok (.iconst 0, 1) := by decide +kernel
theorem dX7_lostPairs_17 : decode cX7_lostPairs 17 = .ok (.istore_n 3, 1) := by decide +kernel
theorem dX7_lostPairs_18 : decode cX7_lostPairs 18 = .ok (.iload_n 3, 1) := by decide +kernel
theorem dX7_lostPairs_19 : decode cX7_lostPairs 19 = .ok (.aload_n 0, 1) := by decide +kernel
theorem dX7_lostPairs_20 : decode cX7_lostPairs 20 = .ok (.getfield 7, 3) := by decide +kernel
theorem dX7_lostPairs_23 : decode cX7_lostPairs 23 = .ok (.if_icmp .ge 31, 3) := by decide +kernel
theorem dX7_lostPairs_26 : decode cX7_lostPairs 26 = .ok (.iload_n 1, 1) := by decide +kernel
theorem dX7_lostPairs_27 : decode cX7_lostPairs 27 = .ok (.iload_n 2, 1) := by decide +kernel
theorem dX7_lostPairs_28 : decode cX7_lostPairs 28 = .ok (.iload_n 3, 1) := by decide +kernel
theorem dX7_lostPairs_29 : decode cX7_lostPairs 29 = .ok (.if_icmp .eq 12, 3) := by decide +kernel
theorem dX7_lostPairs_32 : decode cX7_lostPairs 32 = .ok (.aload_n 0, 1) := by decide +kernel
theorem dX7_lostPairs_33 : decode cX7_lostPairs 33 = .ok (.iload_n 2, 1) := by decide +kernel
theorem dX7_lostPairs_34 : decode cX7_lostPairs 34 = .ok (.iload_n 3, 1) := by decide +kernel
theorem dX7_lostPairs_35 : decode cX7_lostPairs 35 = .ok (.invokevirtual 321, 3) := by decide +kernel
theorem dX7_lostPairs_38 : decode cX7_lostPairs 38 = .ok (.ifCond .eq 7, 3) := by decide +kernel
theorem dX7_lostPairs_41 : decode cX7_lostPairs 41 = .ok (.iconst 0, 1) := by decide +kernel
theorem dX7_lostPairs_42 : decode cX7_lostPairs 42 = .ok (.goto 4, 3) := by decide +kernel
theorem dX7_lostPairs_45 : decode cX7_lostPairs 45 = .ok (.iconst 1, 1) := by decide +kernel
theorem dX7_lostPairs_46 : decode cX7_lostPairs 46 = .ok (.iadd, 1) := by decide +kernel
theorem dX7_lostPairs_47 : decode cX7_lostPairs 47 = .ok (.istore_n 1, 1) := by decide +kernel
theorem dX7_lostPairs_48 : decode cX7_lostPairs 48 = .ok (.iinc 3 1, 3) := by decide +kernel
theorem dX7_lostPairs_51 : decode cX7_lostPairs 51 = .ok (.goto (-33), 3) := by decide +kernel
theorem dX7_lostPairs_54 : decode cX7_lostPairs 54 = .ok (.iinc 2 1, 3) := by decide +kernel
theorem dX7_lostPairs_57 : decode cX7_lostPairs 57 = .ok (.goto (-49), 3) := by decide +kernel
theorem dX7_lostPairs_60 : decode cX7_lostPairs 60 = .ok (.iload_n 1, 1) := by decide +kernel
theorem dX7_lostPairs_61 : decode cX7_lostPairs 61 = .ok (.ireturn, 1) := by decide +kernel
theorem dX7_lostMany_0 : decode cX7_lostMany 0 = .ok (.aload_n 0, 1) := by decide +kernel
theorem dX7_lostMany_1 : decode cX7_lostMany 1 = .ok (.invokevirtual 294, 3) := by decide +kernel
theorem dX7_lostMany_4 : decode cX7_lostMany 4 = .ok (.iconst 0, 1) := by decide +kernel
theorem dX7_lostMany_5 : decode cX7_lostMany 5 = .ok (.istore_n 1, 1) := by decide +kernel
theorem dX7_lostMany_6 : decode cX7_lostMany 6 = .ok (.iconst 0, 1) := by decide +kernel
theorem dX7_lostMany_7 : decode cX7_lostMany 7 = .ok (.istore_n 2, 1) := by decide +kernel
theorem dX7_lostMany_8 : decode cX7_lostMany 8 = .ok (.iload_n 2, 1) := by decide +kernel
theorem dX7_lostMany_9 : decode cX7_lostMany 9 = .ok (.aload_n 0, 1) := by decide +kernel
theorem dX7_lostMany_10 : decode cX7_lostMany 10 = .ok (.getfield 13, 3) := by decide +kernel
theorem dX7_lostMany_13 : decode cX7_lostMany 13 = .ok (.if_icmp .ge 41, 3) := by decide +kernel
theorem dX7_lostMany_16 : decode cX7_lostMany 16 = .ok (.iload_n 1, 1) := by decide +kernel
theorem dX7_lostMany_17 : decode cX7_lostMany 17 = .ok (.aload_n 0, 1) := by decide +kernel
theorem dX7_lostMany_18 : decode cX7_lostMany 18 = .ok (.aload_n 0, 1) := by decide +kernel
theorem dX7_lostMany_19 : decode cX7_lostMany 19 = .ok (.getfield 32, 3) := by decide +kernel
theorem dX7_lostMany_22 : decode cX7_lostMany 22 = .ok (.iload_n 2, 1) := by decide +kernel
theorem dX7_lostMany_23 : decode cX7_lostMany 23 = .ok (.iaload, 1) := by decide +kernel
theorem dX7_lostMany_24 : decode cX7_lostMany 24 = .ok (.aload_n 0, 1) := by decide +kernel
theorem dX7_lostMany_25 : decode cX7_lostMany 25 = .ok (.getfield 35, 3) := by decide +kernel
theorem dX7_lostMany_28 : decode cX7_lostMany 28 = .ok (.iload_n 2, 1) := by decide +kernel
theorem dX7_lostMany_29 : decode cX7_lostMany 29 = .ok (.iaload, 1) := by decide +kernel
theorem dX7_lostMany_30 : decode cX7_lostMany 30 = .ok (.invokevirtual 321, 3) := by decide +kernel
theorem dX7_lostMany_33 : decode cX7_lostMany 33 = .ok (.ifCond .eq 7, 3) := by decide +kernel
theorem dX7_lostMany_36 : decode cX7_lostMany 36 = .ok (.iconst 0, 1) := by decide +kernel
theorem dX7_lostMany_37 : decode cX7_lostMany 37 = .ok (.goto 9, 3) := by decide +kernel
theorem dX7_lostMany_40 : decode cX7_lostMany 40 = .ok (.aload_n 0, 1) := by decide +kernel
theorem dX7_lostMany_41 : decode cX7_lostMany 41 = .ok (.getfield 38, 3) := by decide +kernel
theorem dX7_lostMany_44 : decode cX7_lostMany 44 = .ok (.iload_n 2, 1) := by decide +kernel
theorem dX7_lostMany_45 : decode cX7_lostMany 45 = .ok (.iaload, 1) := by decide +kernel
theorem dX7_lostMany_46 : decode cX7_lostMany 46 = .ok (.iadd, 1) := by decide +kernel
theorem dX7_lostMany_47 : decode cX7_lostMany 47 = .ok (.istore_n 1, 1) := by decide +kernel
theorem dX7_lostMany_48 : decode cX7_lostMany 48 = .ok (.iinc 2 1, 3) := by decide +kernel
theorem dX7_lostMany_51 : decode cX7_lostMany 51 = .ok (.goto (-43), 3) := by decide +kernel
theorem dX7_lostMany_54 : decode cX7_lostMany 54 = .ok (.iload_n 1, 1) := by decide +kernel
theorem dX7_lostMany_55 : decode cX7_lostMany 55 = .ok (.ireturn, 1) := by decide +kernel
theorem dX7_lost_0 : decode cX7_lost 0 = .ok (.iload_n 1, 1) := by decide +kernel
theorem dX7_lost_1 : decode cX7_lost 1 = .ok (.ifCond .ne 10, 3) := by decide +kernel
theorem dX7_lost_4 : decode cX7_lost 4 = .ok (.aload_n 0, 1) := by decide +kernel
theorem dX7_lost_5 : decode cX7_lost 5 = .ok (.invokevirtual 324, 3) := by decide +kernel
theorem dX7_lost_8 : decode cX7_lost 8 = .ok (.goto 16, 3) := by decide +kernel
theorem dX7_lost_11 : decode cX7_lost 11 = .ok (.iload_n 1, 1) := by decide +kernel
theorem dX7_lost_12 : decode cX7_lost 12 = .ok (.iconst 1, 1) := by decide +kernel
theorem dX7_lost_13 : decode cX7_lost 13 = .ok (.if_icmp .ne 10, 3) := by decide +kernel
theorem dX7_lost_16 : decode cX7_lost 16 = .ok (.aload_n 0, 1) := by decide +kernel
theorem dX7_lost_17 : decode cX7_lost 17 = .ok (.invokevirtual 327, 3) := by decide +kernel
theorem dX7_lost_20 : decode cX7_lost 20 = .ok (.goto 4, 3) := by decide +kernel
theorem dX7_lost_23 : decode cX7_lost 23 = .ok (.iconst (-1), 1) := by decide +kernel
theorem dX7_lost_24 : decode cX7_lost 24 = .ok (.ireturn, 1) := by decide +kernel
theorem dX7_longest_0 : decode cX7_longest 0 = .ok (.aload_n 0, 1) := by decide +kernel
theorem dX7_longest_1 : decode cX7_longest 1 = .ok (.iload_n 1, 1) := by decide +kernel
theorem dX7_longest_2 : decode cX7_longest 2 = .ok (.iconst 0, 1) := by decide +kernel
theorem dX7_longest_3 : decode cX7_longest 3 = .ok (.iconst 1, 1) := by decide +kernel
theorem dX7_longest_4 : decode cX7_longest 4 = .ok (.invokevirtual 197, 3) := by decide +kernel
theorem dX7_longest_7 : decode cX7_longest 7 = .ok (.ifCond .ne 5, 3) := by decide +kernel
theorem dX7_longest_10 : decode cX7_longest 10 = .ok (.iconst (-1), 1) := by decide +kernel
theorem dX7_longest_11 : decode cX7_longest 11 = .ok (.ireturn, 1) := by decide +kernel
theorem dX7_longest_12 : decode cX7_longest 12 = .ok (.aload_n 0, 1) := by decide +kernel
theorem dX7_longest_13 : decode cX7_longest 13 = .ok (.invokevirtual 294, 3) := by decide +kernel
theorem dX7_longest_16 : decode cX7_longest 16 = .ok (.iconst 0, 1) := by decide +kernel
theorem dX7_longest_17 : decode cX7_longest 17 = .ok (.istore_n 2, 1) := by decide +kernel
theorem dX7_longest_18 : decode cX7_longest 18 = .ok (.bipush (-5), 2) := by decide +kernel
theorem dX7_longest_20 : decode cX7_longest 20 = .ok (.istore_n 3, 1) := by decide +kernel
theorem dX7_longest_21 : decode cX7_longest 21 = .ok (.iconst 0, 1) := by decide +kernel
theorem dX7_longest_22 : decode cX7_longest 22 = .ok (.istore 4, 2) := by decide +kernel
theorem dX7_longest_24 : decode cX7_longest 24 = .ok (.iload 4, 2) := by decide +kernel
theorem dX7_longest_26 : decode cX7_longest 26 = .ok (.aload_n 0, 1) := by decide +kernel
theorem dX7_longest_27 : decode cX7_longest 27 = .ok (.getfield 7, 3) := by decide +kernel
theorem dX7_longest_30 : decode cX7_longest 30 = .ok (.if_icmp .ge 70, 3) := by decide +kernel
theorem dX7_longest_33 : decode cX7_longest 33 = .ok (.iconst 0, 1) := by decide +kernel
theorem dX7_longest_34 : decode cX7_longest 34 = .ok (.istore 5, 2) := by decide +kernel
theorem dX7_longest_36 : decode cX7_longest 36 = .ok (.iload 5, 2) := by decide +kernel
theorem dX7_longest_38 : decode cX7_longest 38 = .ok (.aload_n 0, 1) := by decide +kernel
theorem dX7_longest_39 : decode cX7_longest 39 = .ok (.getfield 7, 3) := by decide +kernel
theorem dX7_longest_42 : decode cX7_longest 42 = .ok (.if_icmp .ge 52, 3) := by decide +kernel
theorem dX7_longest_45 : decode cX7_longest 45 = .ok (.iload 4, 2) := by decide +kernel
theorem dX7_longest_47 : decode cX7_longest 47 = .ok (.iload 5, 2) := by decide +kernel
theorem dX7_longest_49 : decode cX7_longest 49 = .ok (.if_icmp .eq 39, 3) := by decide +kernel
theorem dX7_longest_52 : decode cX7_longest 52 = .ok (.aload_n 0, 1) := by decide +kernel
theorem dX7_longest_53 : decode cX7_longest 53 = .ok (.iload 4, 2) := by decide +kernel
theorem dX7_longest_55 : decode cX7_longest 55 = .ok (.iload 5, 2) := by decide +kernel
theorem dX7_longest_57 : decode cX7_longest 57 = .ok (.invokevirtual 321, 3) := by decide +kernel
theorem dX7_longest_60 : decode cX7_longest 60 = .ok (.ifCond .eq 28, 3) := by decide +kernel
theorem dX7_longest_63 : decode cX7_longest 63 = .ok (.aload_n 0, 1) := by decide +kernel
theorem dX7_longest_64 : decode cX7_longest 64 = .ok (.getfield 114, 3) := by decide +kernel
theorem dX7_longest_67 : decode cX7_longest 67 = .ok (.iload_n 2, 1) := by decide +kernel
theorem dX7_longest_68 : decode cX7_longest 68 = .ok (.if_icmp .gt 6, 3) := by decide +kernel
theorem dX7_longest_71 : decode cX7_longest 71 = .ok (.goto 17, 3) := by decide +kernel
theorem dX7_longest_74 : decode cX7_longest 74 = .ok (.aload_n 0, 1) := by decide +kernel
theorem dX7_longest_75 : decode cX7_longest 75 = .ok (.getfield 114, 3) := by decide +kernel
theorem dX7_longest_78 : decode cX7_longest 78 = .ok (.istore_n 2, 1) := by decide +kernel
theorem dX7_longest_79 : decode cX7_longest 79 = .ok (.bipush 10, 2) := by decide +kernel
theorem dX7_longest_81 : decode cX7_longest 81 = .ok (.iload 4, 2) := by decide +kernel
theorem dX7_longest_83 : decode cX7_longest 83 = .ok (.imul, 1) := by decide +kernel
theorem dX7_longest_84 : decode cX7_longest 84 = .ok (.iload 5, 2) := by decide +kernel
theorem dX7_longest_86 : decode cX7_longest 86 = .ok (.iadd, 1) := by decide +kernel
theorem dX7_longest_87 : decode cX7_longest 87 = .ok (.istore_n 3, 1) := by decide +kernel
theorem dX7_longest_88 : decode cX7_longest 88 = .ok (.iinc 5 1, 3) := by decide +kernel
theorem dX7_longest_91 : decode cX7_longest 91 = .ok (.goto (-55), 3) := by decide +kernel
theorem dX7_longest_94 : decode cX7_longest 94 = .ok (.iinc 4 1, 3) := by decide +kernel
theorem dX7_longest_97 : decode cX7_longest 97 = .ok (.goto (-73), 3) := by decide +kernel
theorem dX7_longest_100 : decode cX7_longest 100 = .ok (.iload_n 1, 1) := by decide +kernel
theorem dX7_longest_101 : decode cX7_longest 101 = .ok (.ifCond .ne 7, 3) := by decide +kernel
theorem dX7_longest_104 : decode cX7_longest 104 = .ok (.iload_n 2, 1) := by decide +kernel
theorem dX7_longest_105 : decode cX7_longest 105 = .ok (.goto 4, 3) := by decide +kernel
theorem dX7_longest_108 : decode cX7_longest 108 = .ok (.iload_n 3, 1) := by decide +kernel
theorem dX7_longest_109 : decode cX7_longest 109 = .ok (.ireturn, 1) := by decide +kernel
theorem dX7_put_0 : decode cX7_put 0 = .ok (.aload_n 0, 1) := by decide +kernel
theorem dX7_put_1 : decode cX7_put 1 = .ok (.iload_n 1, 1) := by decide +kernel
theorem dX7_put_2 : decode cX7_put 2 = .ok (.iconst 0, 1) := by decide +kernel
theorem dX7_put_3 : decode cX7_put 3 = .ok (.iconst 1, 1) := by decide +kernel
theorem dX7_put_4 : decode cX7_put 4 = .ok (.invokevirtual 197, 3) := by decide +kernel
theorem dX7_put_7 : decode cX7_put 7 = .ok (.ifCond .ne 5, 3) := by decide +kernel
theorem dX7_put_10 : decode cX7_put 10 = .ok (.iconst (-1), 1) := by decide +kernel
theorem dX7_put_11 : decode cX7_put 11 = .ok (.ireturn, 1) := by decide +kernel
theorem dX7_put_12 : decode cX7_put 12 = .ok (.bipush (-5), 2) := by decide +kernel
theorem dX7_put_14 : decode cX7_put 14 = .ok (.istore_n 2, 1) := by decide +kernel
theorem dX7_put_15 : decode cX7_put 15 = .ok (.iconst 0, 1) := by decide +kernel
theorem dX7_put_16 : decode cX7_put 16 = .ok (.istore_n 3, 1) := by decide +kernel
theorem dX7_put_17 : decode cX7_put 17 = .ok (.iconst 0, 1) := by decide +kernel
theorem dX7_put_18 : decode cX7_put 18 = .ok (.istore 4, 2) := by decide +kernel
theorem dX7_put_20 : decode cX7_put 20 = .ok (.iload 4, 2) := by decide +kernel
theorem dX7_put_22 : decode cX7_put 22 = .ok (.aload_n 0, 1) := by decide +kernel
theorem dX7_put_23 : decode cX7_put 23 = .ok (.getfield 7, 3) := by decide +kernel
theorem dX7_put_26 : decode cX7_put 26 = .ok (.if_icmp .ge 134, 3) := by decide +kernel
theorem dX7_put_29 : decode cX7_put 29 = .ok (.iload 4, 2) := by decide +kernel
theorem dX7_put_31 : decode cX7_put 31 = .ok (.iconst 1, 1) := by decide +kernel
theorem dX7_put_32 : decode cX7_put 32 = .ok (.iadd, 1) := by decide +kernel
theorem dX7_put_33 : decode cX7_put 33 = .ok (.istore 5, 2) := by decide +kernel
theorem dX7_put_35 : decode cX7_put 35 = .ok (.iload 5, 2) := by decide +kernel
theorem dX7_put_37 : decode cX7_put 37 = .ok (.aload_n 0, 1) := by decide +kernel
theorem dX7_put_38 : decode cX7_put 38 = .ok (.getfield 7, 3) := by decide +kernel
theorem dX7_put_41 : decode cX7_put 41 = .ok (.if_icmp .ge 113, 3) := by decide +kernel
theorem dX7_put_44 : decode cX7_put 44 = .ok (.aload_n 0, 1) := by decide +kernel
theorem dX7_put_45 : decode cX7_put 45 = .ok (.aload_n 0, 1) := by decide +kernel
theorem dX7_put_46 : decode cX7_put 46 = .ok (.getfield 26, 3) := by decide +kernel
theorem dX7_put_49 : decode cX7_put 49 = .ok (.iload 4, 2) := by decide +kernel
theorem dX7_put_51 : decode cX7_put 51 = .ok (.iaload, 1) := by decide +kernel
theorem dX7_put_52 : decode cX7_put 52 = .ok (.iload 5, 2) := by decide +kernel
theorem dX7_put_54 : decode cX7_put 54 = .ok (.invokevirtual 209, 3) := by decide +kernel
theorem dX7_put_57 : decode cX7_put 57 = .ok (.ifCond .ne 91, 3) := by decide +kernel
theorem dX7_put_60 : decode cX7_put 60 = .ok (.aload_n 0, 1) := by decide +kernel
theorem dX7_put_61 : decode cX7_put 61 = .ok (.aload_n 0, 1) := by decide +kernel
theorem dX7_put_62 : decode cX7_put 62 = .ok (.getfield 26, 3) := by decide +kernel
theorem dX7_put_65 : decode cX7_put 65 = .ok (.iload 4, 2) := by decide +kernel
theorem dX7_put_67 : decode cX7_put 67 = .ok (.iaload, 1) := by decide +kernel
theorem dX7_put_68 : decode cX7_put 68 = .ok (.invokevirtual 212, 3) := by decide +kernel
theorem dX7_put_71 : decode cX7_put 71 = .ok (.aload_n 0, 1) := by decide +kernel
theorem dX7_put_72 : decode cX7_put 72 = .ok (.invokevirtual 216, 3) := by decide +kernel
theorem dX7_put_75 : decode cX7_put 75 = .ok (.if_icmp .ge 73, 3) := by decide +kernel
theorem dX7_put_78 : decode cX7_put 78 = .ok (.aload_n 0, 1) := by decide +kernel
theorem dX7_put_79 : decode cX7_put 79 = .ok (.aload_n 0, 1) := by decide +kernel
theorem dX7_put_80 : decode cX7_put 80 = .ok (.getfield 26, 3) := by decide +kernel
theorem dX7_put_83 : decode cX7_put 83 = .ok (.iload 5, 2) := by decide +kernel
theorem dX7_put_85 : decode cX7_put 85 = .ok (.iaload, 1) := by decide +kernel
theorem dX7_put_86 : decode cX7_put 86 = .ok (.invokevirtual 212, 3) := by decide +kernel
theorem dX7_put_89 : decode cX7_put 89 = .ok (.aload_n 0, 1) := by decide +kernel
theorem dX7_put_90 : decode cX7_put 90 = .ok (.invokevirtual 216, 3) := by decide +kernel
theorem dX7_put_93 : decode cX7_put 93 = .ok (.if_icmp .lt 6, 3) := by decide +kernel
theorem dX7_put_96 : decode cX7_put 96 = .ok (.goto 52, 3) := by decide +kernel
theorem dX7_put_99 : decode cX7_put 99 = .ok (.aload_n 0, 1) := by decide +kernel
theorem dX7_put_100 : decode cX7_put 100 = .ok (.iload 4, 2) := by decide +kernel
theorem dX7_put_102 : decode cX7_put 102 = .ok (.iload 5, 2) := by decide +kernel
theorem dX7_put_104 : decode cX7_put 104 = .ok (.iconst 1, 1) := by decide +kernel
theorem dX7_put_105 : decode cX7_put 105 = .ok (.invokevirtual 220, 3) := by decide +kernel
theorem dX7_put_108 : decode cX7_put 108 = .ok (.aload_n 0, 1) := by decide +kernel
theorem dX7_put_109 : decode cX7_put 109 = .ok (.invokevirtual 327, 3) := by decide +kernel
theorem dX7_put_112 : decode cX7_put 112 = .ok (.istore 6, 2) := by decide +kernel
theorem dX7_put_114 : decode cX7_put 114 = .ok (.aload_n 0, 1) := by decide +kernel
theorem dX7_put_115 : decode cX7_put 115 = .ok (.iload 4, 2) := by decide +kernel
theorem dX7_put_117 : decode cX7_put 117 = .ok (.iload 5, 2) := by decide +kernel
theorem dX7_put_119 : decode cX7_put 119 = .ok (.iconst 0, 1) := by decide +kernel
theorem dX7_put_120 : decode cX7_put 120 = .ok (.invokevirtual 220, 3) := by decide +kernel
theorem dX7_put_123 : decode cX7_put 123 = .ok (.iload_n 2, 1) := by decide +kernel
theorem dX7_put_124 : decode cX7_put 124 = .ok (.ifCond .lt 12, 3) := by decide +kernel
theorem dX7_put_127 : decode cX7_put 127 = .ok (.iload 6, 2) := by decide +kernel
theorem dX7_put_129 : decode cX7_put 129 = .ok (.iload_n 3, 1) := by decide +kernel
theorem dX7_put_130 : decode cX7_put 130 = .ok (.if_icmp .lt 6, 3) := by decide +kernel
theorem dX7_put_133 : decode cX7_put 133 = .ok (.goto 15, 3) := by decide +kernel
theorem dX7_put_136 : decode cX7_put 136 = .ok (.bipush 10, 2) := by decide +kernel
theorem dX7_put_138 : decode cX7_put 138 = .ok (.iload 4, 2) := by decide +kernel
theorem dX7_put_140 : decode cX7_put 140 = .ok (.imul, 1) := by decide +kernel
theorem dX7_put_141 : decode cX7_put 141 = .ok (.iload 5, 2) := by decide +kernel
theorem dX7_put_143 : decode cX7_put 143 = .ok (.iadd, 1) := by decide +kernel
theorem dX7_put_144 : decode cX7_put 144 = .ok (.istore_n 2, 1) := by decide +kernel
theorem dX7_put_145 : decode cX7_put 145 = .ok (.iload 6, 2) := by decide +kernel
theorem dX7_put_147 : decode cX7_put 147 = .ok (.istore_n 3, 1) := by decide +kernel
theorem dX7_put_148 : decode cX7_put 148 = .ok (.iinc 5 1, 3) := by decide +kernel
theorem dX7_put_151 : decode cX7_put 151 = .ok (.goto (-116), 3) := by decide +kernel
theorem dX7_put_154 : decode cX7_put 154 = .ok (.iinc 4 1, 3) := by decide +kernel
theorem dX7_put_157 : decode cX7_put 157 = .ok (.goto (-137), 3) := by decide +kernel
theorem dX7_put_160 : decode cX7_put 160 = .ok (.iload_n 2, 1) := by decide +kernel
theorem dX7_put_161 : decode cX7_put 161 = .ok (.ifCond .lt 7, 3) := by decide +kernel
theorem dX7_put_164 : decode cX7_put 164 = .ok (.iload_n 1, 1) := by decide +kernel
theorem dX7_put_165 : decode cX7_put 165 = .ok (.ifCond .ne 7, 3) := by decide +kernel
theorem dX7_put_168 : decode cX7_put 168 = .ok (.iload_n 2, 1) := by decide +kernel
theorem dX7_put_169 : decode cX7_put 169 = .ok (.goto 4, 3) := by decide +kernel
theorem dX7_put_172 : decode cX7_put 172 = .ok (.iload_n 3, 1) := by decide +kernel
theorem dX7_put_173 : decode cX7_put 173 = .ok (.ireturn, 1) := by decide +kernel
theorem dX7_worst_0 : decode cX7_worst 0 = .ok (.aload_n 0, 1) := by decide +kernel
theorem dX7_worst_1 : decode cX7_worst 1 = .ok (.iload_n 1, 1) := by decide +kernel
theorem dX7_worst_2 : decode cX7_worst 2 = .ok (.iconst 0, 1) := by decide +kernel
theorem dX7_worst_3 : decode cX7_worst 3 = .ok (.iconst 1, 1) := by decide +kernel
theorem dX7_worst_4 : decode cX7_worst 4 = .ok (.invokevirtual 197, 3) := by decide +kernel
theorem dX7_worst_7 : decode cX7_worst 7 = .ok (.ifCond .ne 5, 3) := by decide +kernel
theorem dX7_worst_10 : decode cX7_worst 10 = .ok (.iconst (-1), 1) := by decide +kernel
theorem dX7_worst_11 : decode cX7_worst 11 = .ok (.ireturn, 1) := by decide +kernel
theorem dX7_worst_12 : decode cX7_worst 12 = .ok (.bipush (-5), 2) := by decide +kernel
theorem dX7_worst_14 : decode cX7_worst 14 = .ok (.istore_n 2, 1) := by decide +kernel
theorem dX7_worst_15 : decode cX7_worst 15 = .ok (.iconst 0, 1) := by decide +kernel
theorem dX7_worst_16 : decode cX7_worst 16 = .ok (.istore_n 3, 1) := by decide +kernel
theorem dX7_worst_17 : decode cX7_worst 17 = .ok (.iconst 0, 1) := by decide +kernel
theorem dX7_worst_18 : decode cX7_worst 18 = .ok (.istore 4, 2) := by decide +kernel
theorem dX7_worst_20 : decode cX7_worst 20 = .ok (.iload 4, 2) := by decide +kernel
theorem dX7_worst_22 : decode cX7_worst 22 = .ok (.aload_n 0, 1) := by decide +kernel
theorem dX7_worst_23 : decode cX7_worst 23 = .ok (.getfield 7, 3) := by decide +kernel
theorem dX7_worst_26 : decode cX7_worst 26 = .ok (.if_icmp .ge 98, 3) := by decide +kernel
theorem dX7_worst_29 : decode cX7_worst 29 = .ok (.iload 4, 2) := by decide +kernel
theorem dX7_worst_31 : decode cX7_worst 31 = .ok (.iconst 1, 1) := by decide +kernel
theorem dX7_worst_32 : decode cX7_worst 32 = .ok (.iadd, 1) := by decide +kernel
theorem dX7_worst_33 : decode cX7_worst 33 = .ok (.istore 5, 2) := by decide +kernel
theorem dX7_worst_35 : decode cX7_worst 35 = .ok (.iload 5, 2) := by decide +kernel
theorem dX7_worst_37 : decode cX7_worst 37 = .ok (.aload_n 0, 1) := by decide +kernel
theorem dX7_worst_38 : decode cX7_worst 38 = .ok (.getfield 7, 3) := by decide +kernel
theorem dX7_worst_41 : decode cX7_worst 41 = .ok (.if_icmp .ge 77, 3) := by decide +kernel
theorem dX7_worst_44 : decode cX7_worst 44 = .ok (.aload_n 0, 1) := by decide +kernel
theorem dX7_worst_45 : decode cX7_worst 45 = .ok (.aload_n 0, 1) := by decide +kernel
theorem dX7_worst_46 : decode cX7_worst 46 = .ok (.getfield 26, 3) := by decide +kernel
theorem dX7_worst_49 : decode cX7_worst 49 = .ok (.iload 4, 2) := by decide +kernel
theorem dX7_worst_51 : decode cX7_worst 51 = .ok (.iaload, 1) := by decide +kernel
theorem dX7_worst_52 : decode cX7_worst 52 = .ok (.iload 5, 2) := by decide +kernel
theorem dX7_worst_54 : decode cX7_worst 54 = .ok (.invokevirtual 209, 3) := by decide +kernel
theorem dX7_worst_57 : decode cX7_worst 57 = .ok (.ifCond .ne 6, 3) := by decide +kernel
theorem dX7_worst_60 : decode cX7_worst 60 = .ok (.goto 52, 3) := by decide +kernel
theorem dX7_worst_63 : decode cX7_worst 63 = .ok (.aload_n 0, 1) := by decide +kernel
theorem dX7_worst_64 : decode cX7_worst 64 = .ok (.iload 4, 2) := by decide +kernel
theorem dX7_worst_66 : decode cX7_worst 66 = .ok (.iload 5, 2) := by decide +kernel
theorem dX7_worst_68 : decode cX7_worst 68 = .ok (.iconst 0, 1) := by decide +kernel
theorem dX7_worst_69 : decode cX7_worst 69 = .ok (.invokevirtual 220, 3) := by decide +kernel
theorem dX7_worst_72 : decode cX7_worst 72 = .ok (.aload_n 0, 1) := by decide +kernel
theorem dX7_worst_73 : decode cX7_worst 73 = .ok (.invokevirtual 327, 3) := by decide +kernel
theorem dX7_worst_76 : decode cX7_worst 76 = .ok (.istore 6, 2) := by decide +kernel
theorem dX7_worst_78 : decode cX7_worst 78 = .ok (.aload_n 0, 1) := by decide +kernel
theorem dX7_worst_79 : decode cX7_worst 79 = .ok (.iload 4, 2) := by decide +kernel
theorem dX7_worst_81 : decode cX7_worst 81 = .ok (.iload 5, 2) := by decide +kernel
theorem dX7_worst_83 : decode cX7_worst 83 = .ok (.iconst 1, 1) := by decide +kernel
theorem dX7_worst_84 : decode cX7_worst 84 = .ok (.invokevirtual 220, 3) := by decide +kernel
theorem dX7_worst_87 : decode cX7_worst 87 = .ok (.iload_n 2, 1) := by decide +kernel
theorem dX7_worst_88 : decode cX7_worst 88 = .ok (.ifCond .lt 12, 3) := by decide +kernel
theorem dX7_worst_91 : decode cX7_worst 91 = .ok (.iload 6, 2) := by decide +kernel
theorem dX7_worst_93 : decode cX7_worst 93 = .ok (.iload_n 3, 1) := by decide +kernel
theorem dX7_worst_94 : decode cX7_worst 94 = .ok (.if_icmp .gt 6, 3) := by decide +kernel
theorem dX7_worst_97 : decode cX7_worst 97 = .ok (.goto 15, 3) := by decide +kernel
theorem dX7_worst_100 : decode cX7_worst 100 = .ok (.bipush 10, 2) := by decide +kernel
theorem dX7_worst_102 : decode cX7_worst 102 = .ok (.iload 4, 2) := by decide +kernel
theorem dX7_worst_104 : decode cX7_worst 104 = .ok (.imul, 1) := by decide +kernel
theorem dX7_worst_105 : decode cX7_worst 105 = .ok (.iload 5, 2) := by decide +kernel
theorem dX7_worst_107 : decode cX7_worst 107 = .ok (.iadd, 1) := by decide +kernel
theorem dX7_worst_108 : decode cX7_worst 108 = .ok (.istore_n 2, 1) := by decide +kernel
theorem dX7_worst_109 : decode cX7_worst 109 = .ok (.iload 6, 2) := by decide +kernel
theorem dX7_worst_111 : decode cX7_worst 111 = .ok (.istore_n 3, 1) := by decide +kernel
theorem dX7_worst_112 : decode cX7_worst 112 = .ok (.iinc 5 1, 3) := by decide +kernel
theorem dX7_worst_115 : decode cX7_worst 115 = .ok (.goto (-80), 3) := by decide +kernel
theorem dX7_worst_118 : decode cX7_worst 118 = .ok (.iinc 4 1, 3) := by decide +kernel
theorem dX7_worst_121 : decode cX7_worst 121 = .ok (.goto (-101), 3) := by decide +kernel
theorem dX7_worst_124 : decode cX7_worst 124 = .ok (.iload_n 2, 1) := by decide +kernel
theorem dX7_worst_125 : decode cX7_worst 125 = .ok (.ifCond .lt 7, 3) := by decide +kernel
theorem dX7_worst_128 : decode cX7_worst 128 = .ok (.iload_n 1, 1) := by decide +kernel
theorem dX7_worst_129 : decode cX7_worst 129 = .ok (.ifCond .ne 7, 3) := by decide +kernel
theorem dX7_worst_132 : decode cX7_worst 132 = .ok (.iload_n 2, 1) := by decide +kernel
theorem dX7_worst_133 : decode cX7_worst 133 = .ok (.goto 4, 3) := by decide +kernel
theorem dX7_worst_136 : decode cX7_worst 136 = .ok (.iload_n 3, 1) := by decide +kernel
theorem dX7_worst_137 : decode cX7_worst 137 = .ok (.ireturn, 1) := by decide +kernel
theorem dX7_turned_0 : decode cX7_turned 0 = .ok (.aload_n 0, 1) := by decide +kernel
theorem dX7_turned_1 : decode cX7_turned 1 = .ok (.iload_n 1, 1) := by decide +kernel
theorem dX7_turned_2 : decode cX7_turned 2 = .ok (.iload_n 2, 1) := by decide +kernel
theorem dX7_turned_3 : decode cX7_turned 3 = .ok (.invokevirtual 205, 3) := by decide +kernel
theorem dX7_turned_6 : decode cX7_turned 6 = .ok (.ifCond .ne 5, 3) := by decide +kernel
theorem dX7_turned_9 : decode cX7_turned 9 = .ok (.iconst (-1), 1) := by decide +kernel
theorem dX7_turned_10 : decode cX7_turned 10 = .ok (.ireturn, 1) := by decide +kernel
theorem dX7_turned_11 : decode cX7_turned 11 = .ok (.aload_n 0, 1) := by decide +kernel
theorem dX7_turned_12 : decode cX7_turned 12 = .ok (.aload_n 0, 1) := by decide +kernel
theorem dX7_turned_13 : decode cX7_turned 13 = .ok (.getfield 26, 3) := by decide +kernel
theorem dX7_turned_16 : decode cX7_turned 16 = .ok (.iload_n 1, 1) := by decide +kernel
theorem dX7_turned_17 : decode cX7_turned 17 = .ok (.iaload, 1) := by decide +kernel
theorem dX7_turned_18 : decode cX7_turned 18 = .ok (.iload_n 2, 1) := by decide +kernel
theorem dX7_turned_19 : decode cX7_turned 19 = .ok (.invokevirtual 209, 3) := by decide +kernel
theorem dX7_turned_22 : decode cX7_turned 22 = .ok (.ifCond .ne 6, 3) := by decide +kernel
theorem dX7_turned_25 : decode cX7_turned 25 = .ok (.bipush (-3), 2) := by decide +kernel
theorem dX7_turned_27 : decode cX7_turned 27 = .ok (.ireturn, 1) := by decide +kernel
theorem dX7_turned_28 : decode cX7_turned 28 = .ok (.aload_n 0, 1) := by decide +kernel
theorem dX7_turned_29 : decode cX7_turned 29 = .ok (.iload_n 1, 1) := by decide +kernel
theorem dX7_turned_30 : decode cX7_turned 30 = .ok (.putfield 108, 3) := by decide +kernel
theorem dX7_turned_33 : decode cX7_turned 33 = .ok (.aload_n 0, 1) := by decide +kernel
theorem dX7_turned_34 : decode cX7_turned 34 = .ok (.iload_n 2, 1) := by decide +kernel
theorem dX7_turned_35 : decode cX7_turned 35 = .ok (.putfield 111, 3) := by decide +kernel
theorem dX7_turned_38 : decode cX7_turned 38 = .ok (.aload_n 0, 1) := by decide +kernel
theorem dX7_turned_39 : decode cX7_turned 39 = .ok (.invokevirtual 327, 3) := by decide +kernel
theorem dX7_turned_42 : decode cX7_turned 42 = .ok (.istore_n 3, 1) := by decide +kernel
theorem dX7_turned_43 : decode cX7_turned 43 = .ok (.aload_n 0, 1) := by decide +kernel
theorem dX7_turned_44 : decode cX7_turned 44 = .ok (.iconst (-1), 1) := by decide +kernel
theorem dX7_turned_45 : decode cX7_turned 45 = .ok (.putfield 108, 3) := by decide +kernel
theorem dX7_turned_48 : decode cX7_turned 48 = .ok (.aload_n 0, 1) := by decide +kernel
theorem dX7_turned_49 : decode cX7_turned 49 = .ok (.iconst (-1), 1) := by decide +kernel
theorem dX7_turned_50 : decode cX7_turned 50 = .ok (.putfield 111, 3) := by decide +kernel
theorem dX7_turned_53 : decode cX7_turned 53 = .ok (.iload_n 3, 1) := by decide +kernel
theorem dX7_turned_54 : decode cX7_turned 54 = .ok (.ireturn, 1) := by decide +kernel
theorem dX7_chainOf_0 : decode cX7_chainOf 0 = .ok (.iconst 1, 1) := by decide +kernel
theorem dX7_chainOf_1 : decode cX7_chainOf 1 = .ok (.iload_n 1, 1) := by decide +kernel
theorem dX7_chainOf_2 : decode cX7_chainOf 2 = .ok (.ishl, 1) := by decide +kernel
theorem dX7_chainOf_3 : decode cX7_chainOf 3 = .ok (.istore_n 3, 1) := by decide +kernel
theorem dX7_chainOf_4 : decode cX7_chainOf 4 = .ok (.iconst 1, 1) := by decide +kernel
theorem dX7_chainOf_5 : decode cX7_chainOf 5 = .ok (.istore 4, 2) := by decide +kernel
theorem dX7_chainOf_7 : decode cX7_chainOf 7 = .ok (.iload 4, 2) := by decide +kernel
theorem dX7_chainOf_9 : decode cX7_chainOf 9 = .ok (.bipush 8, 2) := by decide +kernel
theorem dX7_chainOf_11 : decode cX7_chainOf 11 = .ok (.if_icmp .ge 72, 3) := by decide +kernel
theorem dX7_chainOf_14 : decode cX7_chainOf 14 = .ok (.iload_n 3, 1) := by decide +kernel
theorem dX7_chainOf_15 : decode cX7_chainOf 15 = .ok (.istore 5, 2) := by decide +kernel
theorem dX7_chainOf_17 : decode cX7_chainOf 17 = .ok (.iconst 0, 1) := by decide +kernel
theorem dX7_chainOf_18 : decode cX7_chainOf 18 = .ok (.istore 6, 2) := by decide +kernel
theorem dX7_chainOf_20 : decode cX7_chainOf 20 = .ok (.iload 6, 2) := by decide +kernel
theorem dX7_chainOf_22 : decode cX7_chainOf 22 = .ok (.aload_n 0, 1) := by decide +kernel
theorem dX7_chainOf_23 : decode cX7_chainOf 23 = .ok (.getfield 7, 3) := by decide +kernel
theorem dX7_chainOf_26 : decode cX7_chainOf 26 = .ok (.if_icmp .ge 35, 3) := by decide +kernel
theorem dX7_chainOf_29 : decode cX7_chainOf 29 = .ok (.iload 5, 2) := by decide +kernel
theorem dX7_chainOf_31 : decode cX7_chainOf 31 = .ok (.aload_n 0, 1) := by decide +kernel
theorem dX7_chainOf_32 : decode cX7_chainOf 32 = .ok (.iload_n 3, 1) := by decide +kernel
theorem dX7_chainOf_33 : decode cX7_chainOf 33 = .ok (.iload 6, 2) := by decide +kernel
theorem dX7_chainOf_35 : decode cX7_chainOf 35 = .ok (.invokevirtual 209, 3) := by decide +kernel
theorem dX7_chainOf_38 : decode cX7_chainOf 38 = .ok (.ifCond .eq 13, 3) := by decide +kernel
theorem dX7_chainOf_41 : decode cX7_chainOf 41 = .ok (.aload_n 0, 1) := by decide +kernel
theorem dX7_chainOf_42 : decode cX7_chainOf 42 = .ok (.getfield 26, 3) := by decide +kernel
theorem dX7_chainOf_45 : decode cX7_chainOf 45 = .ok (.iload 6, 2) := by decide +kernel
theorem dX7_chainOf_47 : decode cX7_chainOf 47 = .ok (.iaload, 1) := by decide +kernel
theorem dX7_chainOf_48 : decode cX7_chainOf 48 = .ok (.goto 4, 3) := by decide +kernel
theorem dX7_chainOf_51 : decode cX7_chainOf 51 = .ok (.iconst 0, 1) := by decide +kernel
theorem dX7_chainOf_52 : decode cX7_chainOf 52 = .ok (.ior, 1) := by decide +kernel
theorem dX7_chainOf_53 : decode cX7_chainOf 53 = .ok (.istore 5, 2) := by decide +kernel
theorem dX7_chainOf_55 : decode cX7_chainOf 55 = .ok (.iinc 6 1, 3) := by decide +kernel
theorem dX7_chainOf_58 : decode cX7_chainOf 58 = .ok (.goto (-38), 3) := by decide +kernel
theorem dX7_chainOf_61 : decode cX7_chainOf 61 = .ok (.aload_n 0, 1) := by decide +kernel
theorem dX7_chainOf_62 : decode cX7_chainOf 62 = .ok (.iload 5, 2) := by decide +kernel
theorem dX7_chainOf_64 : decode cX7_chainOf 64 = .ok (.iload_n 2, 1) := by decide +kernel
theorem dX7_chainOf_65 : decode cX7_chainOf 65 = .ok (.invokevirtual 209, 3) := by decide +kernel
theorem dX7_chainOf_68 : decode cX7_chainOf 68 = .ok (.ifCond .eq 6, 3) := by decide +kernel
theorem dX7_chainOf_71 : decode cX7_chainOf 71 = .ok (.iload 4, 2) := by decide +kernel
theorem dX7_chainOf_73 : decode cX7_chainOf 73 = .ok (.ireturn, 1) := by decide +kernel
theorem dX7_chainOf_74 : decode cX7_chainOf 74 = .ok (.iload 5, 2) := by decide +kernel
theorem dX7_chainOf_76 : decode cX7_chainOf 76 = .ok (.istore_n 3, 1) := by decide +kernel
theorem dX7_chainOf_77 : decode cX7_chainOf 77 = .ok (.iinc 4 1, 3) := by decide +kernel
theorem dX7_chainOf_80 : decode cX7_chainOf 80 = .ok (.goto (-73), 3) := by decide +kernel
theorem dX7_chainOf_83 : decode cX7_chainOf 83 = .ok (.bipush (-5), 2) := by decide +kernel
theorem dX7_chainOf_85 : decode cX7_chainOf 85 = .ok (.ireturn, 1) := by decide +kernel
theorem dX7_chain_0 : decode cX7_chain 0 = .ok (.aload_n 0, 1) := by decide +kernel
theorem dX7_chain_1 : decode cX7_chain 1 = .ok (.iload_n 1, 1) := by decide +kernel
theorem dX7_chain_2 : decode cX7_chain 2 = .ok (.iload_n 2, 1) := by decide +kernel
theorem dX7_chain_3 : decode cX7_chain 3 = .ok (.invokevirtual 205, 3) := by decide +kernel
theorem dX7_chain_6 : decode cX7_chain 6 = .ok (.ifCond .ne 5, 3) := by decide +kernel
theorem dX7_chain_9 : decode cX7_chain 9 = .ok (.iconst (-1), 1) := by decide +kernel
theorem dX7_chain_10 : decode cX7_chain 10 = .ok (.ireturn, 1) := by decide +kernel
theorem dX7_chain_11 : decode cX7_chain 11 = .ok (.iload_n 1, 1) := by decide +kernel
theorem dX7_chain_12 : decode cX7_chain 12 = .ok (.iload_n 2, 1) := by decide +kernel
theorem dX7_chain_13 : decode cX7_chain 13 = .ok (.if_icmp .ne 8, 3) := by decide +kernel
theorem dX7_chain_16 : decode cX7_chain 16 = .ok (.bipush (-2), 2) := by decide +kernel
theorem dX7_chain_18 : decode cX7_chain 18 = .ok (.goto 9, 3) := by decide +kernel
theorem dX7_chain_21 : decode cX7_chain 21 = .ok (.aload_n 0, 1) := by decide +kernel
theorem dX7_chain_22 : decode cX7_chain 22 = .ok (.iload_n 1, 1) := by decide +kernel
theorem dX7_chain_23 : decode cX7_chain 23 = .ok (.iload_n 2, 1) := by decide +kernel
theorem dX7_chain_24 : decode cX7_chain 24 = .ok (.invokevirtual 330, 3) := by decide +kernel
theorem dX7_chain_27 : decode cX7_chain 27 = .ok (.ireturn, 1) := by decide +kernel
theorem dX7_allIn_0 : decode cX7_allIn 0 = .ok (.aload_n 0, 1) := by decide +kernel
theorem dX7_allIn_1 : decode cX7_allIn 1 = .ok (.iload_n 1, 1) := by decide +kernel
theorem dX7_allIn_2 : decode cX7_allIn 2 = .ok (.iconst 1, 1) := by decide +kernel
theorem dX7_allIn_3 : decode cX7_allIn 3 = .ok (.bipush 6, 2) := by decide +kernel
theorem dX7_allIn_5 : decode cX7_allIn 5 = .ok (.invokevirtual 197, 3) := by decide +kernel
theorem dX7_allIn_8 : decode cX7_allIn 8 = .ok (.ifCond .ne 6, 3) := by decide +kernel
theorem dX7_allIn_11 : decode cX7_allIn 11 = .ok (.bipush (-2), 2) := by decide +kernel
theorem dX7_allIn_13 : decode cX7_allIn 13 = .ok (.ireturn, 1) := by decide +kernel
theorem dX7_allIn_14 : decode cX7_allIn 14 = .ok (.iconst 0, 1) := by decide +kernel
theorem dX7_allIn_15 : decode cX7_allIn 15 = .ok (.istore_n 2, 1) := by decide +kernel
theorem dX7_allIn_16 : decode cX7_allIn 16 = .ok (.iload_n 2, 1) := by decide +kernel
theorem dX7_allIn_17 : decode cX7_allIn 17 = .ok (.aload_n 0, 1) := by decide +kernel
theorem dX7_allIn_18 : decode cX7_allIn 18 = .ok (.getfield 7, 3) := by decide +kernel
theorem dX7_allIn_21 : decode cX7_allIn 21 = .ok (.if_icmp .ge 47, 3) := by decide +kernel
theorem dX7_allIn_24 : decode cX7_allIn 24 = .ok (.iconst 0, 1) := by decide +kernel
theorem dX7_allIn_25 : decode cX7_allIn 25 = .ok (.istore_n 3, 1) := by decide +kernel
theorem dX7_allIn_26 : decode cX7_allIn 26 = .ok (.iload_n 3, 1) := by decide +kernel
theorem dX7_allIn_27 : decode cX7_allIn 27 = .ok (.aload_n 0, 1) := by decide +kernel
theorem dX7_allIn_28 : decode cX7_allIn 28 = .ok (.getfield 7, 3) := by decide +kernel
theorem dX7_allIn_31 : decode cX7_allIn 31 = .ok (.if_icmp .ge 31, 3) := by decide +kernel
theorem dX7_allIn_34 : decode cX7_allIn 34 = .ok (.iload_n 2, 1) := by decide +kernel
theorem dX7_allIn_35 : decode cX7_allIn 35 = .ok (.iload_n 3, 1) := by decide +kernel
theorem dX7_allIn_36 : decode cX7_allIn 36 = .ok (.if_icmp .eq 20, 3) := by decide +kernel
theorem dX7_allIn_39 : decode cX7_allIn 39 = .ok (.aload_n 0, 1) := by decide +kernel
theorem dX7_allIn_40 : decode cX7_allIn 40 = .ok (.aload_n 0, 1) := by decide +kernel
theorem dX7_allIn_41 : decode cX7_allIn 41 = .ok (.iload_n 2, 1) := by decide +kernel
theorem dX7_allIn_42 : decode cX7_allIn 42 = .ok (.iload_n 3, 1) := by decide +kernel
theorem dX7_allIn_43 : decode cX7_allIn 43 = .ok (.invokevirtual 330, 3) := by decide +kernel
theorem dX7_allIn_46 : decode cX7_allIn 46 = .ok (.iconst 1, 1) := by decide +kernel
theorem dX7_allIn_47 : decode cX7_allIn 47 = .ok (.iload_n 1, 1) := by decide +kernel
theorem dX7_allIn_48 : decode cX7_allIn 48 = .ok (.invokevirtual 197, 3) := by decide +kernel
theorem dX7_allIn_51 : decode cX7_allIn 51 = .ok (.ifCond .ne 5, 3) := by decide +kernel
theorem dX7_allIn_54 : decode cX7_allIn 54 = .ok (.iconst 0, 1) := by decide +kernel
theorem dX7_allIn_55 : decode cX7_allIn 55 = .ok (.ireturn, 1) := by decide +kernel
theorem dX7_allIn_56 : decode cX7_allIn 56 = .ok (.iinc 3 1, 3) := by decide +kernel
theorem dX7_allIn_59 : decode cX7_allIn 59 = .ok (.goto (-33), 3) := by decide +kernel
theorem dX7_allIn_62 : decode cX7_allIn 62 = .ok (.iinc 2 1, 3) := by decide +kernel
theorem dX7_allIn_65 : decode cX7_allIn 65 = .ok (.goto (-49), 3) := by decide +kernel
theorem dX7_allIn_68 : decode cX7_allIn 68 = .ok (.iconst 1, 1) := by decide +kernel
theorem dX7_allIn_69 : decode cX7_allIn 69 = .ok (.ireturn, 1) := by decide +kernel
theorem dX7_capitals_0 : decode cX7_capitals 0 = .ok (.iconst 0, 1) := by decide +kernel
theorem dX7_capitals_1 : decode cX7_capitals 1 = .ok (.istore_n 1, 1) := by decide +kernel
theorem dX7_capitals_2 : decode cX7_capitals 2 = .ok (.iconst 0, 1) := by decide +kernel
theorem dX7_capitals_3 : decode cX7_capitals 3 = .ok (.istore_n 2, 1) := by decide +kernel
theorem dX7_capitals_4 : decode cX7_capitals 4 = .ok (.iload_n 2, 1) := by decide +kernel
theorem dX7_capitals_5 : decode cX7_capitals 5 = .ok (.aload_n 0, 1) := by decide +kernel
theorem dX7_capitals_6 : decode cX7_capitals 6 = .ok (.getfield 7, 3) := by decide +kernel
theorem dX7_capitals_9 : decode cX7_capitals 9 = .ok (.if_icmp .ge 38, 3) := by decide +kernel
theorem dX7_capitals_12 : decode cX7_capitals 12 = .ok (.aload_n 0, 1) := by decide +kernel
theorem dX7_capitals_13 : decode cX7_capitals 13 = .ok (.aload_n 0, 1) := by decide +kernel
theorem dX7_capitals_14 : decode cX7_capitals 14 = .ok (.getfield 26, 3) := by decide +kernel
theorem dX7_capitals_17 : decode cX7_capitals 17 = .ok (.iload_n 2, 1) := by decide +kernel
theorem dX7_capitals_18 : decode cX7_capitals 18 = .ok (.iaload, 1) := by decide +kernel
theorem dX7_capitals_19 : decode cX7_capitals 19 = .ok (.invokevirtual 212, 3) := by decide +kernel
theorem dX7_capitals_22 : decode cX7_capitals 22 = .ok (.iload_n 1, 1) := by decide +kernel
theorem dX7_capitals_23 : decode cX7_capitals 23 = .ok (.if_icmp .le 16, 3) := by decide +kernel
theorem dX7_capitals_26 : decode cX7_capitals 26 = .ok (.aload_n 0, 1) := by decide +kernel
theorem dX7_capitals_27 : decode cX7_capitals 27 = .ok (.aload_n 0, 1) := by decide +kernel
theorem dX7_capitals_28 : decode cX7_capitals 28 = .ok (.getfield 26, 3) := by decide +kernel
theorem dX7_capitals_31 : decode cX7_capitals 31 = .ok (.iload_n 2, 1) := by decide +kernel
theorem dX7_capitals_32 : decode cX7_capitals 32 = .ok (.iaload, 1) := by decide +kernel
theorem dX7_capitals_33 : decode cX7_capitals 33 = .ok (.invokevirtual 212, 3) := by decide +kernel
theorem dX7_capitals_36 : decode cX7_capitals 36 = .ok (.goto 4, 3) := by decide +kernel
theorem dX7_capitals_39 : decode cX7_capitals 39 = .ok (.iload_n 1, 1) := by decide +kernel
theorem dX7_capitals_40 : decode cX7_capitals 40 = .ok (.istore_n 1, 1) := by decide +kernel
theorem dX7_capitals_41 : decode cX7_capitals 41 = .ok (.iinc 2 1, 3) := by decide +kernel
theorem dX7_capitals_44 : decode cX7_capitals 44 = .ok (.goto (-40), 3) := by decide +kernel
theorem dX7_capitals_47 : decode cX7_capitals 47 = .ok (.iconst 0, 1) := by decide +kernel
theorem dX7_capitals_48 : decode cX7_capitals 48 = .ok (.istore_n 2, 1) := by decide +kernel
theorem dX7_capitals_49 : decode cX7_capitals 49 = .ok (.iconst 0, 1) := by decide +kernel
theorem dX7_capitals_50 : decode cX7_capitals 50 = .ok (.istore_n 3, 1) := by decide +kernel
theorem dX7_capitals_51 : decode cX7_capitals 51 = .ok (.iload_n 3, 1) := by decide +kernel
theorem dX7_capitals_52 : decode cX7_capitals 52 = .ok (.aload_n 0, 1) := by decide +kernel
theorem dX7_capitals_53 : decode cX7_capitals 53 = .ok (.getfield 7, 3) := by decide +kernel
theorem dX7_capitals_56 : decode cX7_capitals 56 = .ok (.if_icmp .ge 33, 3) := by decide +kernel
theorem dX7_capitals_59 : decode cX7_capitals 59 = .ok (.iload_n 2, 1) := by decide +kernel
theorem dX7_capitals_60 : decode cX7_capitals 60 = .ok (.aload_n 0, 1) := by decide +kernel
theorem dX7_capitals_61 : decode cX7_capitals 61 = .ok (.aload_n 0, 1) := by decide +kernel
theorem dX7_capitals_62 : decode cX7_capitals 62 = .ok (.getfield 26, 3) := by decide +kernel
theorem dX7_capitals_65 : decode cX7_capitals 65 = .ok (.iload_n 3, 1) := by decide +kernel
theorem dX7_capitals_66 : decode cX7_capitals 66 = .ok (.iaload, 1) := by decide +kernel
theorem dX7_capitals_67 : decode cX7_capitals 67 = .ok (.invokevirtual 212, 3) := by decide +kernel
theorem dX7_capitals_70 : decode cX7_capitals 70 = .ok (.iload_n 1, 1) := by decide +kernel
theorem dX7_capitals_71 : decode cX7_capitals 71 = .ok (.if_icmp .ne 9, 3) := by decide +kernel
theorem dX7_capitals_74 : decode cX7_capitals 74 = .ok (.iconst 1, 1) := by decide +kernel
theorem dX7_capitals_75 : decode cX7_capitals 75 = .ok (.iload_n 3, 1) := by decide +kernel
theorem dX7_capitals_76 : decode cX7_capitals 76 = .ok (.ishl, 1) := by decide +kernel
theorem dX7_capitals_77 : decode cX7_capitals 77 = .ok (.goto 4, 3) := by decide +kernel
theorem dX7_capitals_80 : decode cX7_capitals 80 = .ok (.iconst 0, 1) := by decide +kernel
theorem dX7_capitals_81 : decode cX7_capitals 81 = .ok (.ior, 1) := by decide +kernel
theorem dX7_capitals_82 : decode cX7_capitals 82 = .ok (.istore_n 2, 1) := by decide +kernel
theorem dX7_capitals_83 : decode cX7_capitals 83 = .ok (.iinc 3 1, 3) := by decide +kernel
theorem dX7_capitals_86 : decode cX7_capitals 86 = .ok (.goto (-35), 3) := by decide +kernel
theorem dX7_capitals_89 : decode cX7_capitals 89 = .ok (.iload_n 2, 1) := by decide +kernel
theorem dX7_capitals_90 : decode cX7_capitals 90 = .ok (.ireturn, 1) := by decide +kernel
theorem dX7_allWays_0 : decode cX7_allWays 0 = .ok (.aload_n 0, 1) := by decide +kernel
theorem dX7_allWays_1 : decode cX7_allWays 1 = .ok (.invokevirtual 294, 3) := by decide +kernel
theorem dX7_allWays_4 : decode cX7_allWays 4 = .ok (.iconst 0, 1) := by decide +kernel
theorem dX7_allWays_5 : decode cX7_allWays 5 = .ok (.istore_n 1, 1) := by decide +kernel
theorem dX7_allWays_6 : decode cX7_allWays 6 = .ok (.iconst 0, 1) := by decide +kernel
theorem dX7_allWays_7 : decode cX7_allWays 7 = .ok (.istore_n 2, 1) := by decide +kernel
theorem dX7_allWays_8 : decode cX7_allWays 8 = .ok (.iload_n 2, 1) := by decide +kernel
theorem dX7_allWays_9 : decode cX7_allWays 9 = .ok (.aload_n 0, 1) := by decide +kernel
theorem dX7_allWays_10 : decode cX7_allWays 10 = .ok (.getfield 7, 3) := by decide +kernel
theorem dX7_allWays_13 : decode cX7_allWays 13 = .ok (.if_icmp .ge 68, 3) := by decide +kernel
theorem dX7_allWays_16 : decode cX7_allWays 16 = .ok (.iconst 0, 1) := by decide +kernel
theorem dX7_allWays_17 : decode cX7_allWays 17 = .ok (.istore_n 3, 1) := by decide +kernel
theorem dX7_allWays_18 : decode cX7_allWays 18 = .ok (.iload_n 3, 1) := by decide +kernel
theorem dX7_allWays_19 : decode cX7_allWays 19 = .ok (.aload_n 0, 1) := by decide +kernel
theorem dX7_allWays_20 : decode cX7_allWays 20 = .ok (.getfield 7, 3) := by decide +kernel
theorem dX7_allWays_23 : decode cX7_allWays 23 = .ok (.if_icmp .ge 52, 3) := by decide +kernel
theorem dX7_allWays_26 : decode cX7_allWays 26 = .ok (.iload_n 1, 1) := by decide +kernel
theorem dX7_allWays_27 : decode cX7_allWays 27 = .ok (.iload_n 2, 1) := by decide +kernel
theorem dX7_allWays_28 : decode cX7_allWays 28 = .ok (.iload_n 3, 1) := by decide +kernel
theorem dX7_allWays_29 : decode cX7_allWays 29 = .ok (.if_icmp .ne 7, 3) := by decide +kernel
theorem dX7_allWays_32 : decode cX7_allWays 32 = .ok (.iconst 0, 1) := by decide +kernel
theorem dX7_allWays_33 : decode cX7_allWays 33 = .ok (.goto 34, 3) := by decide +kernel
theorem dX7_allWays_36 : decode cX7_allWays 36 = .ok (.aload_n 0, 1) := by decide +kernel
theorem dX7_allWays_37 : decode cX7_allWays 37 = .ok (.getfield 99, 3) := by decide +kernel
theorem dX7_allWays_40 : decode cX7_allWays 40 = .ok (.bipush 7, 2) := by decide +kernel
theorem dX7_allWays_42 : decode cX7_allWays 42 = .ok (.iload_n 2, 1) := by decide +kernel
theorem dX7_allWays_43 : decode cX7_allWays 43 = .ok (.imul, 1) := by decide +kernel
theorem dX7_allWays_44 : decode cX7_allWays 44 = .ok (.iload_n 3, 1) := by decide +kernel
theorem dX7_allWays_45 : decode cX7_allWays 45 = .ok (.iadd, 1) := by decide +kernel
theorem dX7_allWays_46 : decode cX7_allWays 46 = .ok (.iaload, 1) := by decide +kernel
theorem dX7_allWays_47 : decode cX7_allWays 47 = .ok (.ifCond .ge 9, 3) := by decide +kernel
theorem dX7_allWays_50 : decode cX7_allWays 50 = .ok (.sipush 999, 3) := by decide +kernel
theorem dX7_allWays_53 : decode cX7_allWays 53 = .ok (.goto 14, 3) := by decide +kernel
theorem dX7_allWays_56 : decode cX7_allWays 56 = .ok (.aload_n 0, 1) := by decide +kernel
theorem dX7_allWays_57 : decode cX7_allWays 57 = .ok (.getfield 99, 3) := by decide +kernel
theorem dX7_allWays_60 : decode cX7_allWays 60 = .ok (.bipush 7, 2) := by decide +kernel
theorem dX7_allWays_62 : decode cX7_allWays 62 = .ok (.iload_n 2, 1) := by decide +kernel
theorem dX7_allWays_63 : decode cX7_allWays 63 = .ok (.imul, 1) := by decide +kernel
theorem dX7_allWays_64 : decode cX7_allWays 64 = .ok (.iload_n 3, 1) := by decide +kernel
theorem dX7_allWays_65 : decode cX7_allWays 65 = .ok (.iadd, 1) := by decide +kernel
theorem dX7_allWays_66 : decode cX7_allWays 66 = .ok (.iaload, 1) := by decide +kernel
theorem dX7_allWays_67 : decode cX7_allWays 67 = .ok (.iadd, 1) := by decide +kernel
theorem dX7_allWays_68 : decode cX7_allWays 68 = .ok (.istore_n 1, 1) := by decide +kernel
theorem dX7_allWays_69 : decode cX7_allWays 69 = .ok (.iinc 3 1, 3) := by decide +kernel
theorem dX7_allWays_72 : decode cX7_allWays 72 = .ok (.goto (-54), 3) := by decide +kernel
theorem dX7_allWays_75 : decode cX7_allWays 75 = .ok (.iinc 2 1, 3) := by decide +kernel
theorem dX7_allWays_78 : decode cX7_allWays 78 = .ok (.goto (-70), 3) := by decide +kernel
theorem dX7_allWays_81 : decode cX7_allWays 81 = .ok (.iload_n 1, 1) := by decide +kernel
theorem dX7_allWays_82 : decode cX7_allWays 82 = .ok (.ireturn, 1) := by decide +kernel
theorem dX7_newRoad_0 : decode cX7_newRoad 0 = .ok (.aload_n 0, 1) := by decide +kernel
theorem dX7_newRoad_1 : decode cX7_newRoad 1 = .ok (.iload_n 2, 1) := by decide +kernel
theorem dX7_newRoad_2 : decode cX7_newRoad 2 = .ok (.iconst 0, 1) := by decide +kernel
theorem dX7_newRoad_3 : decode cX7_newRoad 3 = .ok (.iconst 1, 1) := by decide +kernel
theorem dX7_newRoad_4 : decode cX7_newRoad 4 = .ok (.invokevirtual 197, 3) := by decide +kernel
theorem dX7_newRoad_7 : decode cX7_newRoad 7 = .ok (.ifCond .ne 5, 3) := by decide +kernel
theorem dX7_newRoad_10 : decode cX7_newRoad 10 = .ok (.iconst (-1), 1) := by decide +kernel
theorem dX7_newRoad_11 : decode cX7_newRoad 11 = .ok (.ireturn, 1) := by decide +kernel
theorem dX7_newRoad_12 : decode cX7_newRoad 12 = .ok (.aload_n 0, 1) := by decide +kernel
theorem dX7_newRoad_13 : decode cX7_newRoad 13 = .ok (.iload_n 1, 1) := by decide +kernel
theorem dX7_newRoad_14 : decode cX7_newRoad 14 = .ok (.iconst 1, 1) := by decide +kernel
theorem dX7_newRoad_15 : decode cX7_newRoad 15 = .ok (.bipush 99, 2) := by decide +kernel
theorem dX7_newRoad_17 : decode cX7_newRoad 17 = .ok (.invokevirtual 197, 3) := by decide +kernel
theorem dX7_newRoad_20 : decode cX7_newRoad 20 = .ok (.ifCond .ne 6, 3) := by decide +kernel
theorem dX7_newRoad_23 : decode cX7_newRoad 23 = .ok (.bipush (-2), 2) := by decide +kernel
theorem dX7_newRoad_25 : decode cX7_newRoad 25 = .ok (.ireturn, 1) := by decide +kernel
theorem dX7_newRoad_26 : decode cX7_newRoad 26 = .ok (.aload_n 0, 1) := by decide +kernel
theorem dX7_newRoad_27 : decode cX7_newRoad 27 = .ok (.invokevirtual 333, 3) := by decide +kernel
theorem dX7_newRoad_30 : decode cX7_newRoad 30 = .ok (.istore_n 3, 1) := by decide +kernel
theorem dX7_newRoad_31 : decode cX7_newRoad 31 = .ok (.bipush (-5), 2) := by decide +kernel
theorem dX7_newRoad_33 : decode cX7_newRoad 33 = .ok (.istore 4, 2) := by decide +kernel
theorem dX7_newRoad_35 : decode cX7_newRoad 35 = .ok (.iconst 0, 1) := by decide +kernel
theorem dX7_newRoad_36 : decode cX7_newRoad 36 = .ok (.istore 5, 2) := by decide +kernel
theorem dX7_newRoad_38 : decode cX7_newRoad 38 = .ok (.iconst 0, 1) := by decide +kernel
theorem dX7_newRoad_39 : decode cX7_newRoad 39 = .ok (.istore 6, 2) := by decide +kernel
theorem dX7_newRoad_41 : decode cX7_newRoad 41 = .ok (.iload 6, 2) := by decide +kernel
theorem dX7_newRoad_43 : decode cX7_newRoad 43 = .ok (.aload_n 0, 1) := by decide +kernel
theorem dX7_newRoad_44 : decode cX7_newRoad 44 = .ok (.getfield 7, 3) := by decide +kernel
theorem dX7_newRoad_47 : decode cX7_newRoad 47 = .ok (.if_icmp .ge 140, 3) := by decide +kernel
theorem dX7_newRoad_50 : decode cX7_newRoad 50 = .ok (.iload 6, 2) := by decide +kernel
theorem dX7_newRoad_52 : decode cX7_newRoad 52 = .ok (.iconst 1, 1) := by decide +kernel
theorem dX7_newRoad_53 : decode cX7_newRoad 53 = .ok (.iadd, 1) := by decide +kernel
theorem dX7_newRoad_54 : decode cX7_newRoad 54 = .ok (.istore 7, 2) := by decide +kernel
theorem dX7_newRoad_56 : decode cX7_newRoad 56 = .ok (.iload 7, 2) := by decide +kernel
theorem dX7_newRoad_58 : decode cX7_newRoad 58 = .ok (.aload_n 0, 1) := by decide +kernel
theorem dX7_newRoad_59 : decode cX7_newRoad 59 = .ok (.getfield 7, 3) := by decide +kernel
theorem dX7_newRoad_62 : decode cX7_newRoad 62 = .ok (.if_icmp .ge 119, 3) := by decide +kernel
theorem dX7_newRoad_65 : decode cX7_newRoad 65 = .ok (.aload_n 0, 1) := by decide +kernel
theorem dX7_newRoad_66 : decode cX7_newRoad 66 = .ok (.getfield 29, 3) := by decide +kernel
theorem dX7_newRoad_69 : decode cX7_newRoad 69 = .ok (.bipush 7, 2) := by decide +kernel
theorem dX7_newRoad_71 : decode cX7_newRoad 71 = .ok (.iload 6, 2) := by decide +kernel
theorem dX7_newRoad_73 : decode cX7_newRoad 73 = .ok (.imul, 1) := by decide +kernel
theorem dX7_newRoad_74 : decode cX7_newRoad 74 = .ok (.iload 7, 2) := by decide +kernel
theorem dX7_newRoad_76 : decode cX7_newRoad 76 = .ok (.iadd, 1) := by decide +kernel
theorem dX7_newRoad_77 : decode cX7_newRoad 77 = .ok (.iaload, 1) := by decide +kernel
theorem dX7_newRoad_78 : decode cX7_newRoad 78 = .ok (.ifCond .le 6, 3) := by decide +kernel
theorem dX7_newRoad_81 : decode cX7_newRoad 81 = .ok (.goto 94, 3) := by decide +kernel
theorem dX7_newRoad_84 : decode cX7_newRoad 84 = .ok (.aload_n 0, 1) := by decide +kernel
theorem dX7_newRoad_85 : decode cX7_newRoad 85 = .ok (.getfield 29, 3) := by decide +kernel
theorem dX7_newRoad_88 : decode cX7_newRoad 88 = .ok (.bipush 7, 2) := by decide +kernel
theorem dX7_newRoad_90 : decode cX7_newRoad 90 = .ok (.iload 6, 2) := by decide +kernel
theorem dX7_newRoad_92 : decode cX7_newRoad 92 = .ok (.imul, 1) := by decide +kernel
theorem dX7_newRoad_93 : decode cX7_newRoad 93 = .ok (.iload 7, 2) := by decide +kernel
theorem dX7_newRoad_95 : decode cX7_newRoad 95 = .ok (.iadd, 1) := by decide +kernel
theorem dX7_newRoad_96 : decode cX7_newRoad 96 = .ok (.iload_n 1, 1) := by decide +kernel
theorem dX7_newRoad_97 : decode cX7_newRoad 97 = .ok (.iastore, 1) := by decide +kernel
theorem dX7_newRoad_98 : decode cX7_newRoad 98 = .ok (.aload_n 0, 1) := by decide +kernel
theorem dX7_newRoad_99 : decode cX7_newRoad 99 = .ok (.getfield 29, 3) := by decide +kernel
theorem dX7_newRoad_102 : decode cX7_newRoad 102 = .ok (.bipush 7, 2) := by decide +kernel
theorem dX7_newRoad_104 : decode cX7_newRoad 104 = .ok (.iload 7, 2) := by decide +kernel
theorem dX7_newRoad_106 : decode cX7_newRoad 106 = .ok (.imul, 1) := by decide +kernel
theorem dX7_newRoad_107 : decode cX7_newRoad 107 = .ok (.iload 6, 2) := by decide +kernel
theorem dX7_newRoad_109 : decode cX7_newRoad 109 = .ok (.iadd, 1) := by decide +kernel
theorem dX7_newRoad_110 : decode cX7_newRoad 110 = .ok (.iload_n 1, 1) := by decide +kernel
theorem dX7_newRoad_111 : decode cX7_newRoad 111 = .ok (.iastore, 1) := by decide +kernel
theorem dX7_newRoad_112 : decode cX7_newRoad 112 = .ok (.aload_n 0, 1) := by decide +kernel
theorem dX7_newRoad_113 : decode cX7_newRoad 113 = .ok (.invokevirtual 333, 3) := by decide +kernel
theorem dX7_newRoad_116 : decode cX7_newRoad 116 = .ok (.istore 8, 2) := by decide +kernel
theorem dX7_newRoad_118 : decode cX7_newRoad 118 = .ok (.aload_n 0, 1) := by decide +kernel
theorem dX7_newRoad_119 : decode cX7_newRoad 119 = .ok (.getfield 29, 3) := by decide +kernel
theorem dX7_newRoad_122 : decode cX7_newRoad 122 = .ok (.bipush 7, 2) := by decide +kernel
theorem dX7_newRoad_124 : decode cX7_newRoad 124 = .ok (.iload 6, 2) := by decide +kernel
theorem dX7_newRoad_126 : decode cX7_newRoad 126 = .ok (.imul, 1) := by decide +kernel
theorem dX7_newRoad_127 : decode cX7_newRoad 127 = .ok (.iload 7, 2) := by decide +kernel
theorem dX7_newRoad_129 : decode cX7_newRoad 129 = .ok (.iadd, 1) := by decide +kernel
theorem dX7_newRoad_130 : decode cX7_newRoad 130 = .ok (.iconst 0, 1) := by decide +kernel
theorem dX7_newRoad_131 : decode cX7_newRoad 131 = .ok (.iastore, 1) := by decide +kernel
theorem dX7_newRoad_132 : decode cX7_newRoad 132 = .ok (.aload_n 0, 1) := by decide +kernel
theorem dX7_newRoad_133 : decode cX7_newRoad 133 = .ok (.getfield 29, 3) := by decide +kernel
theorem dX7_newRoad_136 : decode cX7_newRoad 136 = .ok (.bipush 7, 2) := by decide +kernel
theorem dX7_newRoad_138 : decode cX7_newRoad 138 = .ok (.iload 7, 2) := by decide +kernel
theorem dX7_newRoad_140 : decode cX7_newRoad 140 = .ok (.imul, 1) := by decide +kernel
theorem dX7_newRoad_141 : decode cX7_newRoad 141 = .ok (.iload 6, 2) := by decide +kernel
theorem dX7_newRoad_143 : decode cX7_newRoad 143 = .ok (.iadd, 1) := by decide +kernel
theorem dX7_newRoad_144 : decode cX7_newRoad 144 = .ok (.iconst 0, 1) := by decide +kernel
theorem dX7_newRoad_145 : decode cX7_newRoad 145 = .ok (.iastore, 1) := by decide +kernel
theorem dX7_newRoad_146 : decode cX7_newRoad 146 = .ok (.iload 4, 2) := by decide +kernel
theorem dX7_newRoad_148 : decode cX7_newRoad 148 = .ok (.ifCond .lt 13, 3) := by decide +kernel
theorem dX7_newRoad_151 : decode cX7_newRoad 151 = .ok (.iload 8, 2) := by decide +kernel
theorem dX7_newRoad_153 : decode cX7_newRoad 153 = .ok (.iload 5, 2) := by decide +kernel
theorem dX7_newRoad_155 : decode cX7_newRoad 155 = .ok (.if_icmp .lt 6, 3) := by decide +kernel
theorem dX7_newRoad_158 : decode cX7_newRoad 158 = .ok (.goto 17, 3) := by decide +kernel
theorem dX7_newRoad_161 : decode cX7_newRoad 161 = .ok (.bipush 10, 2) := by decide +kernel
theorem dX7_newRoad_163 : decode cX7_newRoad 163 = .ok (.iload 6, 2) := by decide +kernel
theorem dX7_newRoad_165 : decode cX7_newRoad 165 = .ok (.imul, 1) := by decide +kernel
theorem dX7_newRoad_166 : decode cX7_newRoad 166 = .ok (.iload 7, 2) := by decide +kernel
theorem dX7_newRoad_168 : decode cX7_newRoad 168 = .ok (.iadd, 1) := by decide +kernel
theorem dX7_newRoad_169 : decode cX7_newRoad 169 = .ok (.istore 4, 2) := by decide +kernel
theorem dX7_newRoad_171 : decode cX7_newRoad 171 = .ok (.iload 8, 2) := by decide +kernel
theorem dX7_newRoad_173 : decode cX7_newRoad 173 = .ok (.istore 5, 2) := by decide +kernel
theorem dX7_newRoad_175 : decode cX7_newRoad 175 = .ok (.iinc 7 1, 3) := by decide +kernel
theorem dX7_newRoad_178 : decode cX7_newRoad 178 = .ok (.goto (-122), 3) := by decide +kernel
theorem dX7_newRoad_181 : decode cX7_newRoad 181 = .ok (.iinc 6 1, 3) := by decide +kernel
theorem dX7_newRoad_184 : decode cX7_newRoad 184 = .ok (.goto (-143), 3) := by decide +kernel
theorem dX7_newRoad_187 : decode cX7_newRoad 187 = .ok (.iload 4, 2) := by decide +kernel
theorem dX7_newRoad_189 : decode cX7_newRoad 189 = .ok (.ifCond .lt 7, 3) := by decide +kernel
theorem dX7_newRoad_192 : decode cX7_newRoad 192 = .ok (.iload_n 2, 1) := by decide +kernel
theorem dX7_newRoad_193 : decode cX7_newRoad 193 = .ok (.ifCond .ne 8, 3) := by decide +kernel
theorem dX7_newRoad_196 : decode cX7_newRoad 196 = .ok (.iload 4, 2) := by decide +kernel
theorem dX7_newRoad_198 : decode cX7_newRoad 198 = .ok (.goto 7, 3) := by decide +kernel
theorem dX7_newRoad_201 : decode cX7_newRoad 201 = .ok (.iload_n 3, 1) := by decide +kernel
theorem dX7_newRoad_202 : decode cX7_newRoad 202 = .ok (.iload 5, 2) := by decide +kernel
theorem dX7_newRoad_204 : decode cX7_newRoad 204 = .ok (.isub, 1) := by decide +kernel
theorem dX7_newRoad_205 : decode cX7_newRoad 205 = .ok (.ireturn, 1) := by decide +kernel
theorem dX7_gets_0 : decode cX7_gets 0 = .ok (.aload_n 0, 1) := by decide +kernel
theorem dX7_gets_1 : decode cX7_gets 1 = .ok (.iload_n 1, 1) := by decide +kernel
theorem dX7_gets_2 : decode cX7_gets 2 = .ok (.invokevirtual 201, 3) := by decide +kernel
theorem dX7_gets_5 : decode cX7_gets 5 = .ok (.ifCond .ne 5, 3) := by decide +kernel
theorem dX7_gets_8 : decode cX7_gets 8 = .ok (.iconst (-1), 1) := by decide +kernel
theorem dX7_gets_9 : decode cX7_gets 9 = .ok (.ireturn, 1) := by decide +kernel
theorem dX7_gets_10 : decode cX7_gets 10 = .ok (.aload_n 0, 1) := by decide +kernel
theorem dX7_gets_11 : decode cX7_gets 11 = .ok (.invokevirtual 294, 3) := by decide +kernel
theorem dX7_gets_14 : decode cX7_gets 14 = .ok (.iconst 0, 1) := by decide +kernel
theorem dX7_gets_15 : decode cX7_gets 15 = .ok (.istore_n 2, 1) := by decide +kernel
theorem dX7_gets_16 : decode cX7_gets 16 = .ok (.iconst 0, 1) := by decide +kernel
theorem dX7_gets_17 : decode cX7_gets 17 = .ok (.istore_n 3, 1) := by decide +kernel
theorem dX7_gets_18 : decode cX7_gets 18 = .ok (.iload_n 3, 1) := by decide +kernel
theorem dX7_gets_19 : decode cX7_gets 19 = .ok (.aload_n 0, 1) := by decide +kernel
theorem dX7_gets_20 : decode cX7_gets 20 = .ok (.getfield 13, 3) := by decide +kernel
theorem dX7_gets_23 : decode cX7_gets 23 = .ok (.if_icmp .ge 49, 3) := by decide +kernel
theorem dX7_gets_26 : decode cX7_gets 26 = .ok (.iload_n 2, 1) := by decide +kernel
theorem dX7_gets_27 : decode cX7_gets 27 = .ok (.aload_n 0, 1) := by decide +kernel
theorem dX7_gets_28 : decode cX7_gets 28 = .ok (.aload_n 0, 1) := by decide +kernel
theorem dX7_gets_29 : decode cX7_gets 29 = .ok (.getfield 32, 3) := by decide +kernel
theorem dX7_gets_32 : decode cX7_gets 32 = .ok (.iload_n 3, 1) := by decide +kernel
theorem dX7_gets_33 : decode cX7_gets 33 = .ok (.iaload, 1) := by decide +kernel
theorem dX7_gets_34 : decode cX7_gets 34 = .ok (.aload_n 0, 1) := by decide +kernel
theorem dX7_gets_35 : decode cX7_gets 35 = .ok (.getfield 35, 3) := by decide +kernel
theorem dX7_gets_38 : decode cX7_gets 38 = .ok (.iload_n 3, 1) := by decide +kernel
theorem dX7_gets_39 : decode cX7_gets 39 = .ok (.iaload, 1) := by decide +kernel
theorem dX7_gets_40 : decode cX7_gets 40 = .ok (.invokevirtual 321, 3) := by decide +kernel
theorem dX7_gets_43 : decode cX7_gets 43 = .ok (.ifCond .ne 20, 3) := by decide +kernel
theorem dX7_gets_46 : decode cX7_gets 46 = .ok (.aload_n 0, 1) := by decide +kernel
theorem dX7_gets_47 : decode cX7_gets 47 = .ok (.getfield 120, 3) := by decide +kernel
theorem dX7_gets_50 : decode cX7_gets 50 = .ok (.iload_n 1, 1) := by decide +kernel
theorem dX7_gets_51 : decode cX7_gets 51 = .ok (.if_icmp .ne 12, 3) := by decide +kernel
theorem dX7_gets_54 : decode cX7_gets 54 = .ok (.aload_n 0, 1) := by decide +kernel
theorem dX7_gets_55 : decode cX7_gets 55 = .ok (.getfield 38, 3) := by decide +kernel
theorem dX7_gets_58 : decode cX7_gets 58 = .ok (.iload_n 3, 1) := by decide +kernel
theorem dX7_gets_59 : decode cX7_gets 59 = .ok (.iaload, 1) := by decide +kernel
theorem dX7_gets_60 : decode cX7_gets 60 = .ok (.goto 4, 3) := by decide +kernel
theorem dX7_gets_63 : decode cX7_gets 63 = .ok (.iconst 0, 1) := by decide +kernel
theorem dX7_gets_64 : decode cX7_gets 64 = .ok (.iadd, 1) := by decide +kernel
theorem dX7_gets_65 : decode cX7_gets 65 = .ok (.istore_n 2, 1) := by decide +kernel
theorem dX7_gets_66 : decode cX7_gets 66 = .ok (.iinc 3 1, 3) := by decide +kernel
theorem dX7_gets_69 : decode cX7_gets 69 = .ok (.goto (-51), 3) := by decide +kernel
theorem dX7_gets_72 : decode cX7_gets 72 = .ok (.iload_n 2, 1) := by decide +kernel
theorem dX7_gets_73 : decode cX7_gets 73 = .ok (.ireturn, 1) := by decide +kernel
theorem dX7_divisor_0 : decode cX7_divisor 0 = .ok (.lload_n 1, 1) := by decide +kernel
theorem dX7_divisor_1 : decode cX7_divisor 1 = .ok (.lstore 5, 2) := by decide +kernel
theorem dX7_divisor_3 : decode cX7_divisor 3 = .ok (.lload_n 3, 1) := by decide +kernel
theorem dX7_divisor_4 : decode cX7_divisor 4 = .ok (.lstore 7, 2) := by decide +kernel
theorem dX7_divisor_6 : decode cX7_divisor 6 = .ok (.lload 7, 2) := by decide +kernel
theorem dX7_divisor_8 : decode cX7_divisor 8 = .ok (.lconst 0, 1) := by decide +kernel
theorem dX7_divisor_9 : decode cX7_divisor 9 = .ok (.lcmp, 1) := by decide +kernel
theorem dX7_divisor_10 : decode cX7_divisor 10 = .ok (.ifCond .eq 21, 3) := by decide +kernel
theorem dX7_divisor_13 : decode cX7_divisor 13 = .ok (.lload 5, 2) := by decide +kernel
theorem dX7_divisor_15 : decode cX7_divisor 15 = .ok (.lload 7, 2) := by decide +kernel
theorem dX7_divisor_17 : decode cX7_divisor 17 = .ok (.lrem, 1) := by decide +kernel
theorem dX7_divisor_18 : decode cX7_divisor 18 = .ok (.lstore 9, 2) := by decide +kernel
theorem dX7_divisor_20 : decode cX7_divisor 20 = .ok (.lload 7, 2) := by decide +kernel
theorem dX7_divisor_22 : decode cX7_divisor 22 = .ok (.lstore 5, 2) := by decide +kernel
theorem dX7_divisor_24 : decode cX7_divisor 24 = .ok (.lload 9, 2) := by decide +kernel
theorem dX7_divisor_26 : decode cX7_divisor 26 = .ok (.lstore 7, 2) := by decide +kernel
theorem dX7_divisor_28 : decode cX7_divisor 28 = .ok (.goto (-22), 3) := by decide +kernel
theorem dX7_divisor_31 : decode cX7_divisor 31 = .ok (.lload 5, 2) := by decide +kernel
theorem dX7_divisor_33 : decode cX7_divisor 33 = .ok (.lreturn, 1) := by decide +kernel
theorem dX7_lowest_0 : decode cX7_lowest 0 = .ok (.aload_n 0, 1) := by decide +kernel
theorem dX7_lowest_1 : decode cX7_lowest 1 = .ok (.lload_n 1, 1) := by decide +kernel
theorem dX7_lowest_2 : decode cX7_lowest 2 = .ok (.lload_n 3, 1) := by decide +kernel
theorem dX7_lowest_3 : decode cX7_lowest 3 = .ok (.invokevirtual 336, 3) := by decide +kernel
theorem dX7_lowest_6 : decode cX7_lowest 6 = .ok (.lstore 6, 2) := by decide +kernel
theorem dX7_lowest_8 : decode cX7_lowest 8 = .ok (.iload 5, 2) := by decide +kernel
theorem dX7_lowest_10 : decode cX7_lowest 10 = .ok (.ifCond .ne 10, 3) := by decide +kernel
theorem dX7_lowest_13 : decode cX7_lowest 13 = .ok (.lload_n 1, 1) := by decide +kernel
theorem dX7_lowest_14 : decode cX7_lowest 14 = .ok (.lload 6, 2) := by decide +kernel
theorem dX7_lowest_16 : decode cX7_lowest 16 = .ok (.ldiv, 1) := by decide +kernel
theorem dX7_lowest_17 : decode cX7_lowest 17 = .ok (.goto 7, 3) := by decide +kernel
theorem dX7_lowest_20 : decode cX7_lowest 20 = .ok (.lload_n 3, 1) := by decide +kernel
theorem dX7_lowest_21 : decode cX7_lowest 21 = .ok (.lload 6, 2) := by decide +kernel
theorem dX7_lowest_23 : decode cX7_lowest 23 = .ok (.ldiv, 1) := by decide +kernel
theorem dX7_lowest_24 : decode cX7_lowest 24 = .ok (.lreturn, 1) := by decide +kernel
theorem dX7_goStep_0 : decode cX7_goStep 0 = .ok (.iconst 0, 1) := by decide +kernel
theorem dX7_goStep_1 : decode cX7_goStep 1 = .ok (.istore_n 1, 1) := by decide +kernel
theorem dX7_goStep_2 : decode cX7_goStep 2 = .ok (.iload_n 1, 1) := by decide +kernel
theorem dX7_goStep_3 : decode cX7_goStep 3 = .ok (.bipush 7, 2) := by decide +kernel
theorem dX7_goStep_5 : decode cX7_goStep 5 = .ok (.if_icmp .ge 16, 3) := by decide +kernel
theorem dX7_goStep_8 : decode cX7_goStep 8 = .ok (.aload_n 0, 1) := by decide +kernel
theorem dX7_goStep_9 : decode cX7_goStep 9 = .ok (.getfield 127, 3) := by decide +kernel
theorem dX7_goStep_12 : decode cX7_goStep 12 = .ok (.iload_n 1, 1) := by decide +kernel
theorem dX7_goStep_13 : decode cX7_goStep 13 = .ok (.lconst 0, 1) := by decide +kernel
theorem dX7_goStep_14 : decode cX7_goStep 14 = .ok (.lastore, 1) := by decide +kernel
theorem dX7_goStep_15 : decode cX7_goStep 15 = .ok (.iinc 1 1, 3) := by decide +kernel
theorem dX7_goStep_18 : decode cX7_goStep 18 = .ok (.goto (-16), 3) := by decide +kernel
theorem dX7_goStep_21 : decode cX7_goStep 21 = .ok (.iconst 0, 1) := by decide +kernel
theorem dX7_goStep_22 : decode cX7_goStep 22 = .ok (.istore_n 1, 1) := by decide +kernel
theorem dX7_goStep_23 : decode cX7_goStep 23 = .ok (.iload_n 1, 1) := by decide +kernel
theorem dX7_goStep_24 : decode cX7_goStep 24 = .ok (.aload_n 0, 1) := by decide +kernel
theorem dX7_goStep_25 : decode cX7_goStep 25 = .ok (.getfield 7, 3) := by decide +kernel
theorem dX7_goStep_28 : decode cX7_goStep 28 = .ok (.if_icmp .ge 116, 3) := by decide +kernel
theorem dX7_goStep_31 : decode cX7_goStep 31 = .ok (.aload_n 0, 1) := by decide +kernel
theorem dX7_goStep_32 : decode cX7_goStep 32 = .ok (.getfield 26, 3) := by decide +kernel
theorem dX7_goStep_35 : decode cX7_goStep 35 = .ok (.iload_n 1, 1) := by decide +kernel
theorem dX7_goStep_36 : decode cX7_goStep 36 = .ok (.iaload, 1) := by decide +kernel
theorem dX7_goStep_37 : decode cX7_goStep 37 = .ok (.ifCond .ne 22, 3) := by decide +kernel
theorem dX7_goStep_40 : decode cX7_goStep 40 = .ok (.aload_n 0, 1) := by decide +kernel
theorem dX7_goStep_41 : decode cX7_goStep 41 = .ok (.getfield 127, 3) := by decide +kernel
theorem dX7_goStep_44 : decode cX7_goStep 44 = .ok (.iload_n 1, 1) := by decide +kernel
theorem dX7_goStep_45 : decode cX7_goStep 45 = .ok (.dup2, 1) := by decide +kernel
theorem dX7_goStep_46 : decode cX7_goStep 46 = .ok (.laload, 1) := by decide +kernel
theorem dX7_goStep_47 : decode cX7_goStep 47 = .ok (.ldc2_w 340, 3) := by decide +kernel
theorem dX7_goStep_50 : decode cX7_goStep 50 = .ok (.aload_n 0, 1) := by decide +kernel
theorem dX7_goStep_51 : decode cX7_goStep 51 = .ok (.getfield 123, 3) := by decide +kernel
theorem dX7_goStep_54 : decode cX7_goStep 54 = .ok (.iload_n 1, 1) := by decide +kernel
theorem dX7_goStep_55 : decode cX7_goStep 55 = .ok (.laload, 1) := by decide +kernel
theorem dX7_goStep_56 : decode cX7_goStep 56 = .ok (.lmul, 1) := by decide +kernel
theorem dX7_goStep_57 : decode cX7_goStep 57 = .ok (.ladd, 1) := by decide +kernel
theorem dX7_goStep_58 : decode cX7_goStep 58 = .ok (.lastore, 1) := by decide +kernel
theorem dX7_goStep_59 : decode cX7_goStep 59 = .ok (.iconst 0, 1) := by decide +kernel
theorem dX7_goStep_60 : decode cX7_goStep 60 = .ok (.istore_n 2, 1) := by decide +kernel
theorem dX7_goStep_61 : decode cX7_goStep 61 = .ok (.iload_n 2, 1) := by decide +kernel
theorem dX7_goStep_62 : decode cX7_goStep 62 = .ok (.aload_n 0, 1) := by decide +kernel
theorem dX7_goStep_63 : decode cX7_goStep 63 = .ok (.getfield 7, 3) := by decide +kernel
theorem dX7_goStep_66 : decode cX7_goStep 66 = .ok (.if_icmp .ge 72, 3) := by decide +kernel
theorem dX7_goStep_69 : decode cX7_goStep 69 = .ok (.aload_n 0, 1) := by decide +kernel
theorem dX7_goStep_70 : decode cX7_goStep 70 = .ok (.aload_n 0, 1) := by decide +kernel
theorem dX7_goStep_71 : decode cX7_goStep 71 = .ok (.getfield 26, 3) := by decide +kernel
theorem dX7_goStep_74 : decode cX7_goStep 74 = .ok (.iload_n 1, 1) := by decide +kernel
theorem dX7_goStep_75 : decode cX7_goStep 75 = .ok (.iaload, 1) := by decide +kernel
theorem dX7_goStep_76 : decode cX7_goStep 76 = .ok (.iload_n 2, 1) := by decide +kernel
theorem dX7_goStep_77 : decode cX7_goStep 77 = .ok (.invokevirtual 209, 3) := by decide +kernel
theorem dX7_goStep_80 : decode cX7_goStep 80 = .ok (.ifCond .ne 6, 3) := by decide +kernel
theorem dX7_goStep_83 : decode cX7_goStep 83 = .ok (.goto 49, 3) := by decide +kernel
theorem dX7_goStep_86 : decode cX7_goStep 86 = .ok (.aload_n 0, 1) := by decide +kernel
theorem dX7_goStep_87 : decode cX7_goStep 87 = .ok (.iload_n 1, 1) := by decide +kernel
theorem dX7_goStep_88 : decode cX7_goStep 88 = .ok (.iload_n 2, 1) := by decide +kernel
theorem dX7_goStep_89 : decode cX7_goStep 89 = .ok (.invokevirtual 297, 3) := by decide +kernel
theorem dX7_goStep_92 : decode cX7_goStep 92 = .ok (.istore_n 3, 1) := by decide +kernel
theorem dX7_goStep_93 : decode cX7_goStep 93 = .ok (.aload_n 0, 1) := by decide +kernel
theorem dX7_goStep_94 : decode cX7_goStep 94 = .ok (.getfield 127, 3) := by decide +kernel
theorem dX7_goStep_97 : decode cX7_goStep 97 = .ok (.iload_n 3, 1) := by decide +kernel
theorem dX7_goStep_98 : decode cX7_goStep 98 = .ok (.ifCond .ge 7, 3) := by decide +kernel
theorem dX7_goStep_101 : decode cX7_goStep 101 = .ok (.iload_n 1, 1) := by decide +kernel
theorem dX7_goStep_102 : decode cX7_goStep 102 = .ok (.goto 4, 3) := by decide +kernel
theorem dX7_goStep_105 : decode cX7_goStep 105 = .ok (.iload_n 3, 1) := by decide +kernel
theorem dX7_goStep_106 : decode cX7_goStep 106 = .ok (.dup2, 1) := by decide +kernel
theorem dX7_goStep_107 : decode cX7_goStep 107 = .ok (.laload, 1) := by decide +kernel
theorem dX7_goStep_108 : decode cX7_goStep 108 = .ok (.ldc2_w 340, 3) := by decide +kernel
theorem dX7_goStep_111 : decode cX7_goStep 111 = .ok (.aload_n 0, 1) := by decide +kernel
theorem dX7_goStep_112 : decode cX7_goStep 112 = .ok (.aload_n 0, 1) := by decide +kernel
theorem dX7_goStep_113 : decode cX7_goStep 113 = .ok (.getfield 26, 3) := by decide +kernel
theorem dX7_goStep_116 : decode cX7_goStep 116 = .ok (.iload_n 1, 1) := by decide +kernel
theorem dX7_goStep_117 : decode cX7_goStep 117 = .ok (.iaload, 1) := by decide +kernel
theorem dX7_goStep_118 : decode cX7_goStep 118 = .ok (.invokevirtual 212, 3) := by decide +kernel
theorem dX7_goStep_121 : decode cX7_goStep 121 = .ok (.i2l, 1) := by decide +kernel
theorem dX7_goStep_122 : decode cX7_goStep 122 = .ok (.ldiv, 1) := by decide +kernel
theorem dX7_goStep_123 : decode cX7_goStep 123 = .ok (.aload_n 0, 1) := by decide +kernel
theorem dX7_goStep_124 : decode cX7_goStep 124 = .ok (.getfield 123, 3) := by decide +kernel
theorem dX7_goStep_127 : decode cX7_goStep 127 = .ok (.iload_n 1, 1) := by decide +kernel
theorem dX7_goStep_128 : decode cX7_goStep 128 = .ok (.laload, 1) := by decide +kernel
theorem dX7_goStep_129 : decode cX7_goStep 129 = .ok (.lmul, 1) := by decide +kernel
theorem dX7_goStep_130 : decode cX7_goStep 130 = .ok (.ladd, 1) := by decide +kernel
theorem dX7_goStep_131 : decode cX7_goStep 131 = .ok (.lastore, 1) := by decide +kernel
theorem dX7_goStep_132 : decode cX7_goStep 132 = .ok (.iinc 2 1, 3) := by decide +kernel
theorem dX7_goStep_135 : decode cX7_goStep 135 = .ok (.goto (-74), 3) := by decide +kernel
theorem dX7_goStep_138 : decode cX7_goStep 138 = .ok (.iinc 1 1, 3) := by decide +kernel
theorem dX7_goStep_141 : decode cX7_goStep 141 = .ok (.goto (-118), 3) := by decide +kernel
theorem dX7_goStep_144 : decode cX7_goStep 144 = .ok (.iconst 0, 1) := by decide +kernel
theorem dX7_goStep_145 : decode cX7_goStep 145 = .ok (.istore_n 1, 1) := by decide +kernel
theorem dX7_goStep_146 : decode cX7_goStep 146 = .ok (.iload_n 1, 1) := by decide +kernel
theorem dX7_goStep_147 : decode cX7_goStep 147 = .ok (.bipush 7, 2) := by decide +kernel
theorem dX7_goStep_149 : decode cX7_goStep 149 = .ok (.if_icmp .ge 21, 3) := by decide +kernel
theorem dX7_goStep_152 : decode cX7_goStep 152 = .ok (.aload_n 0, 1) := by decide +kernel
theorem dX7_goStep_153 : decode cX7_goStep 153 = .ok (.getfield 123, 3) := by decide +kernel
theorem dX7_goStep_156 : decode cX7_goStep 156 = .ok (.iload_n 1, 1) := by decide +kernel
theorem dX7_goStep_157 : decode cX7_goStep 157 = .ok (.aload_n 0, 1) := by decide +kernel
theorem dX7_goStep_158 : decode cX7_goStep 158 = .ok (.getfield 127, 3) := by decide +kernel
theorem dX7_goStep_161 : decode cX7_goStep 161 = .ok (.iload_n 1, 1) := by decide +kernel
theorem dX7_goStep_162 : decode cX7_goStep 162 = .ok (.laload, 1) := by decide +kernel
theorem dX7_goStep_163 : decode cX7_goStep 163 = .ok (.lastore, 1) := by decide +kernel
theorem dX7_goStep_164 : decode cX7_goStep 164 = .ok (.iinc 1 1, 3) := by decide +kernel
theorem dX7_goStep_167 : decode cX7_goStep 167 = .ok (.goto (-21), 3) := by decide +kernel
theorem dX7_goStep_170 : decode cX7_goStep 170 = .ok (.return_, 1) := by decide +kernel
theorem dX7_odds_0 : decode cX7_odds 0 = .ok (.aload_n 0, 1) := by decide +kernel
theorem dX7_odds_1 : decode cX7_odds 1 = .ok (.iload_n 1, 1) := by decide +kernel
theorem dX7_odds_2 : decode cX7_odds 2 = .ok (.iload_n 2, 1) := by decide +kernel
theorem dX7_odds_3 : decode cX7_odds 3 = .ok (.invokevirtual 205, 3) := by decide +kernel
theorem dX7_odds_6 : decode cX7_odds 6 = .ok (.ifCond .eq 25, 3) := by decide +kernel
theorem dX7_odds_9 : decode cX7_odds 9 = .ok (.aload_n 0, 1) := by decide +kernel
theorem dX7_odds_10 : decode cX7_odds 10 = .ok (.iload_n 3, 1) := by decide +kernel
theorem dX7_odds_11 : decode cX7_odds 11 = .ok (.iconst 0, 1) := by decide +kernel
theorem dX7_odds_12 : decode cX7_odds 12 = .ok (.bipush 6, 2) := by decide +kernel
theorem dX7_odds_14 : decode cX7_odds 14 = .ok (.invokevirtual 197, 3) := by decide +kernel
theorem dX7_odds_17 : decode cX7_odds 17 = .ok (.ifCond .eq 14, 3) := by decide +kernel
theorem dX7_odds_20 : decode cX7_odds 20 = .ok (.aload_n 0, 1) := by decide +kernel
theorem dX7_odds_21 : decode cX7_odds 21 = .ok (.iload 4, 2) := by decide +kernel
theorem dX7_odds_23 : decode cX7_odds 23 = .ok (.iconst 0, 1) := by decide +kernel
theorem dX7_odds_24 : decode cX7_odds 24 = .ok (.iconst 1, 1) := by decide +kernel
theorem dX7_odds_25 : decode cX7_odds 25 = .ok (.invokevirtual 197, 3) := by decide +kernel
theorem dX7_odds_28 : decode cX7_odds 28 = .ok (.ifCond .ne 7, 3) := by decide +kernel
theorem dX7_odds_31 : decode cX7_odds 31 = .ok (.ldc2_w 342, 3) := by decide +kernel
theorem dX7_odds_34 : decode cX7_odds 34 = .ok (.lreturn, 1) := by decide +kernel
theorem dX7_odds_35 : decode cX7_odds 35 = .ok (.aload_n 0, 1) := by decide +kernel
theorem dX7_odds_36 : decode cX7_odds 36 = .ok (.invokevirtual 294, 3) := by decide +kernel
theorem dX7_odds_39 : decode cX7_odds 39 = .ok (.iconst 0, 1) := by decide +kernel
theorem dX7_odds_40 : decode cX7_odds 40 = .ok (.istore 5, 2) := by decide +kernel
theorem dX7_odds_42 : decode cX7_odds 42 = .ok (.iload 5, 2) := by decide +kernel
theorem dX7_odds_44 : decode cX7_odds 44 = .ok (.bipush 7, 2) := by decide +kernel
theorem dX7_odds_46 : decode cX7_odds 46 = .ok (.if_icmp .ge 27, 3) := by decide +kernel
theorem dX7_odds_49 : decode cX7_odds 49 = .ok (.aload_n 0, 1) := by decide +kernel
theorem dX7_odds_50 : decode cX7_odds 50 = .ok (.getfield 123, 3) := by decide +kernel
theorem dX7_odds_53 : decode cX7_odds 53 = .ok (.iload 5, 2) := by decide +kernel
theorem dX7_odds_55 : decode cX7_odds 55 = .ok (.iload 5, 2) := by decide +kernel
theorem dX7_odds_57 : decode cX7_odds 57 = .ok (.iload_n 1, 1) := by decide +kernel
theorem dX7_odds_58 : decode cX7_odds 58 = .ok (.if_icmp .ne 7, 3) := by decide +kernel
theorem dX7_odds_61 : decode cX7_odds 61 = .ok (.lconst 1, 1) := by decide +kernel
theorem dX7_odds_62 : decode cX7_odds 62 = .ok (.goto 4, 3) := by decide +kernel
theorem dX7_odds_65 : decode cX7_odds 65 = .ok (.lconst 0, 1) := by decide +kernel
theorem dX7_odds_66 : decode cX7_odds 66 = .ok (.lastore, 1) := by decide +kernel
theorem dX7_odds_67 : decode cX7_odds 67 = .ok (.iinc 5 1, 3) := by decide +kernel
theorem dX7_odds_70 : decode cX7_odds 70 = .ok (.goto (-28), 3) := by decide +kernel
theorem dX7_odds_73 : decode cX7_odds 73 = .ok (.lconst 1, 1) := by decide +kernel
theorem dX7_odds_74 : decode cX7_odds 74 = .ok (.lstore 5, 2) := by decide +kernel
theorem dX7_odds_76 : decode cX7_odds 76 = .ok (.iconst 0, 1) := by decide +kernel
theorem dX7_odds_77 : decode cX7_odds 77 = .ok (.istore 7, 2) := by decide +kernel
theorem dX7_odds_79 : decode cX7_odds 79 = .ok (.iload 7, 2) := by decide +kernel
theorem dX7_odds_81 : decode cX7_odds 81 = .ok (.iload_n 3, 1) := by decide +kernel
theorem dX7_odds_82 : decode cX7_odds 82 = .ok (.if_icmp .ge 21, 3) := by decide +kernel
theorem dX7_odds_85 : decode cX7_odds 85 = .ok (.aload_n 0, 1) := by decide +kernel
theorem dX7_odds_86 : decode cX7_odds 86 = .ok (.invokevirtual 344, 3) := by decide +kernel
theorem dX7_odds_89 : decode cX7_odds 89 = .ok (.lload 5, 2) := by decide +kernel
theorem dX7_odds_91 : decode cX7_odds 91 = .ok (.ldc2_w 340, 3) := by decide +kernel
theorem dX7_odds_94 : decode cX7_odds 94 = .ok (.lmul, 1) := by decide +kernel
theorem dX7_odds_95 : decode cX7_odds 95 = .ok (.lstore 5, 2) := by decide +kernel
theorem dX7_odds_97 : decode cX7_odds 97 = .ok (.iinc 7 1, 3) := by decide +kernel
theorem dX7_odds_100 : decode cX7_odds 100 = .ok (.goto (-21), 3) := by decide +kernel
theorem dX7_odds_103 : decode cX7_odds 103 = .ok (.aload_n 0, 1) := by decide +kernel
theorem dX7_odds_104 : decode cX7_odds 104 = .ok (.aload_n 0, 1) := by decide +kernel
theorem dX7_odds_105 : decode cX7_odds 105 = .ok (.getfield 123, 3) := by decide +kernel
theorem dX7_odds_108 : decode cX7_odds 108 = .ok (.iload_n 2, 1) := by decide +kernel
theorem dX7_odds_109 : decode cX7_odds 109 = .ok (.laload, 1) := by decide +kernel
theorem dX7_odds_110 : decode cX7_odds 110 = .ok (.lload 5, 2) := by decide +kernel
theorem dX7_odds_112 : decode cX7_odds 112 = .ok (.iload 4, 2) := by decide +kernel
theorem dX7_odds_114 : decode cX7_odds 114 = .ok (.invokevirtual 347, 3) := by decide +kernel
theorem dX7_odds_117 : decode cX7_odds 117 = .ok (.lreturn, 1) := by decide +kernel
theorem dX7_mean_0 : decode cX7_mean 0 = .ok (.aload_n 0, 1) := by decide +kernel
theorem dX7_mean_1 : decode cX7_mean 1 = .ok (.iload_n 1, 1) := by decide +kernel
theorem dX7_mean_2 : decode cX7_mean 2 = .ok (.iconst 0, 1) := by decide +kernel
theorem dX7_mean_3 : decode cX7_mean 3 = .ok (.iconst 1, 1) := by decide +kernel
theorem dX7_mean_4 : decode cX7_mean 4 = .ok (.invokevirtual 197, 3) := by decide +kernel
theorem dX7_mean_7 : decode cX7_mean 7 = .ok (.ifCond .ne 7, 3) := by decide +kernel
theorem dX7_mean_10 : decode cX7_mean 10 = .ok (.ldc2_w 342, 3) := by decide +kernel
theorem dX7_mean_13 : decode cX7_mean 13 = .ok (.lreturn, 1) := by decide +kernel
theorem dX7_mean_14 : decode cX7_mean 14 = .ok (.aload_n 0, 1) := by decide +kernel
theorem dX7_mean_15 : decode cX7_mean 15 = .ok (.invokevirtual 294, 3) := by decide +kernel
theorem dX7_mean_18 : decode cX7_mean 18 = .ok (.iconst 0, 1) := by decide +kernel
theorem dX7_mean_19 : decode cX7_mean 19 = .ok (.istore_n 2, 1) := by decide +kernel
theorem dX7_mean_20 : decode cX7_mean 20 = .ok (.iconst 0, 1) := by decide +kernel
theorem dX7_mean_21 : decode cX7_mean 21 = .ok (.istore_n 3, 1) := by decide +kernel
theorem dX7_mean_22 : decode cX7_mean 22 = .ok (.iconst 0, 1) := by decide +kernel
theorem dX7_mean_23 : decode cX7_mean 23 = .ok (.istore 4, 2) := by decide +kernel
theorem dX7_mean_25 : decode cX7_mean 25 = .ok (.iload 4, 2) := by decide +kernel
theorem dX7_mean_27 : decode cX7_mean 27 = .ok (.aload_n 0, 1) := by decide +kernel
theorem dX7_mean_28 : decode cX7_mean 28 = .ok (.getfield 7, 3) := by decide +kernel
theorem dX7_mean_31 : decode cX7_mean 31 = .ok (.if_icmp .ge 58, 3) := by decide +kernel
theorem dX7_mean_34 : decode cX7_mean 34 = .ok (.iconst 0, 1) := by decide +kernel
theorem dX7_mean_35 : decode cX7_mean 35 = .ok (.istore 5, 2) := by decide +kernel
theorem dX7_mean_37 : decode cX7_mean 37 = .ok (.iload 5, 2) := by decide +kernel
theorem dX7_mean_39 : decode cX7_mean 39 = .ok (.aload_n 0, 1) := by decide +kernel
theorem dX7_mean_40 : decode cX7_mean 40 = .ok (.getfield 7, 3) := by decide +kernel
theorem dX7_mean_43 : decode cX7_mean 43 = .ok (.if_icmp .ge 40, 3) := by decide +kernel
theorem dX7_mean_46 : decode cX7_mean 46 = .ok (.iload 4, 2) := by decide +kernel
theorem dX7_mean_48 : decode cX7_mean 48 = .ok (.iload 5, 2) := by decide +kernel
theorem dX7_mean_50 : decode cX7_mean 50 = .ok (.if_icmp .eq 27, 3) := by decide +kernel
theorem dX7_mean_53 : decode cX7_mean 53 = .ok (.aload_n 0, 1) := by decide +kernel
theorem dX7_mean_54 : decode cX7_mean 54 = .ok (.iload 4, 2) := by decide +kernel
theorem dX7_mean_56 : decode cX7_mean 56 = .ok (.iload 5, 2) := by decide +kernel
theorem dX7_mean_58 : decode cX7_mean 58 = .ok (.invokevirtual 321, 3) := by decide +kernel
theorem dX7_mean_61 : decode cX7_mean 61 = .ok (.ifCond .ne 6, 3) := by decide +kernel
theorem dX7_mean_64 : decode cX7_mean 64 = .ok (.goto 13, 3) := by decide +kernel
theorem dX7_mean_67 : decode cX7_mean 67 = .ok (.iload_n 2, 1) := by decide +kernel
theorem dX7_mean_68 : decode cX7_mean 68 = .ok (.aload_n 0, 1) := by decide +kernel
theorem dX7_mean_69 : decode cX7_mean 69 = .ok (.getfield 114, 3) := by decide +kernel
theorem dX7_mean_72 : decode cX7_mean 72 = .ok (.iadd, 1) := by decide +kernel
theorem dX7_mean_73 : decode cX7_mean 73 = .ok (.istore_n 2, 1) := by decide +kernel
theorem dX7_mean_74 : decode cX7_mean 74 = .ok (.iinc 3 1, 3) := by decide +kernel
theorem dX7_mean_77 : decode cX7_mean 77 = .ok (.iinc 5 1, 3) := by decide +kernel
theorem dX7_mean_80 : decode cX7_mean 80 = .ok (.goto (-43), 3) := by decide +kernel
theorem dX7_mean_83 : decode cX7_mean 83 = .ok (.iinc 4 1, 3) := by decide +kernel
theorem dX7_mean_86 : decode cX7_mean 86 = .ok (.goto (-61), 3) := by decide +kernel
theorem dX7_mean_89 : decode cX7_mean 89 = .ok (.iload_n 3, 1) := by decide +kernel
theorem dX7_mean_90 : decode cX7_mean 90 = .ok (.ifCond .ne 9, 3) := by decide +kernel
theorem dX7_mean_93 : decode cX7_mean 93 = .ok (.ldc2_w 342, 3) := by decide +kernel
theorem dX7_mean_96 : decode cX7_mean 96 = .ok (.goto 12, 3) := by decide +kernel
theorem dX7_mean_99 : decode cX7_mean 99 = .ok (.aload_n 0, 1) := by decide +kernel
theorem dX7_mean_100 : decode cX7_mean 100 = .ok (.iload_n 2, 1) := by decide +kernel
theorem dX7_mean_101 : decode cX7_mean 101 = .ok (.i2l, 1) := by decide +kernel
theorem dX7_mean_102 : decode cX7_mean 102 = .ok (.iload_n 3, 1) := by decide +kernel
theorem dX7_mean_103 : decode cX7_mean 103 = .ok (.i2l, 1) := by decide +kernel
theorem dX7_mean_104 : decode cX7_mean 104 = .ok (.iload_n 1, 1) := by decide +kernel
theorem dX7_mean_105 : decode cX7_mean 105 = .ok (.invokevirtual 347, 3) := by decide +kernel
theorem dX7_mean_108 : decode cX7_mean 108 = .ok (.lreturn, 1) := by decide +kernel
theorem dX7_book_0 : decode cX7_book 0 = .ok (.iload_n 1, 1) := by decide +kernel
theorem dX7_book_1 : decode cX7_book 1 = .ok (.iconst (-1), 1) := by decide +kernel
theorem dX7_book_2 : decode cX7_book 2 = .ok (.if_icmp .ne 10, 3) := by decide +kernel
theorem dX7_book_5 : decode cX7_book 5 = .ok (.aload_n 0, 1) := by decide +kernel
theorem dX7_book_6 : decode cX7_book 6 = .ok (.iconst 0, 1) := by decide +kernel
theorem dX7_book_7 : decode cX7_book 7 = .ok (.putfield 130, 3) := by decide +kernel
theorem dX7_book_10 : decode cX7_book 10 = .ok (.iconst 0, 1) := by decide +kernel
theorem dX7_book_11 : decode cX7_book 11 = .ok (.ireturn, 1) := by decide +kernel
theorem dX7_book_12 : decode cX7_book 12 = .ok (.aload_n 0, 1) := by decide +kernel
theorem dX7_book_13 : decode cX7_book 13 = .ok (.iload_n 1, 1) := by decide +kernel
theorem dX7_book_14 : decode cX7_book 14 = .ok (.invokevirtual 201, 3) := by decide +kernel
theorem dX7_book_17 : decode cX7_book 17 = .ok (.ifCond .ne 5, 3) := by decide +kernel
theorem dX7_book_20 : decode cX7_book 20 = .ok (.iconst (-1), 1) := by decide +kernel
theorem dX7_book_21 : decode cX7_book 21 = .ok (.ireturn, 1) := by decide +kernel
theorem dX7_book_22 : decode cX7_book 22 = .ok (.aload_n 0, 1) := by decide +kernel
theorem dX7_book_23 : decode cX7_book 23 = .ok (.getfield 130, 3) := by decide +kernel
theorem dX7_book_26 : decode cX7_book 26 = .ok (.bipush 12, 2) := by decide +kernel
theorem dX7_book_28 : decode cX7_book 28 = .ok (.if_icmp .ne 6, 3) := by decide +kernel
theorem dX7_book_31 : decode cX7_book 31 = .ok (.bipush (-4), 2) := by decide +kernel
theorem dX7_book_33 : decode cX7_book 33 = .ok (.ireturn, 1) := by decide +kernel
theorem dX7_book_34 : decode cX7_book 34 = .ok (.aload_n 0, 1) := by decide +kernel
theorem dX7_book_35 : decode cX7_book 35 = .ok (.getfield 133, 3) := by decide +kernel
theorem dX7_book_38 : decode cX7_book 38 = .ok (.aload_n 0, 1) := by decide +kernel
theorem dX7_book_39 : decode cX7_book 39 = .ok (.getfield 130, 3) := by decide +kernel
theorem dX7_book_42 : decode cX7_book 42 = .ok (.iload_n 1, 1) := by decide +kernel
theorem dX7_book_43 : decode cX7_book 43 = .ok (.iastore, 1) := by decide +kernel
theorem dX7_book_44 : decode cX7_book 44 = .ok (.aload_n 0, 1) := by decide +kernel
theorem dX7_book_45 : decode cX7_book 45 = .ok (.dup, 1) := by decide +kernel
theorem dX7_book_46 : decode cX7_book 46 = .ok (.getfield 130, 3) := by decide +kernel
theorem dX7_book_49 : decode cX7_book 49 = .ok (.iconst 1, 1) := by decide +kernel
theorem dX7_book_50 : decode cX7_book 50 = .ok (.iadd, 1) := by decide +kernel
theorem dX7_book_51 : decode cX7_book 51 = .ok (.putfield 130, 3) := by decide +kernel
theorem dX7_book_54 : decode cX7_book 54 = .ok (.aload_n 0, 1) := by decide +kernel
theorem dX7_book_55 : decode cX7_book 55 = .ok (.getfield 130, 3) := by decide +kernel
theorem dX7_book_58 : decode cX7_book 58 = .ok (.ireturn, 1) := by decide +kernel
theorem dX7_looked_0 : decode cX7_looked 0 = .ok (.aload_n 0, 1) := by decide +kernel
theorem dX7_looked_1 : decode cX7_looked 1 = .ok (.iload_n 1, 1) := by decide +kernel
theorem dX7_looked_2 : decode cX7_looked 2 = .ok (.invokevirtual 201, 3) := by decide +kernel
theorem dX7_looked_5 : decode cX7_looked 5 = .ok (.ifCond .ne 5, 3) := by decide +kernel
theorem dX7_looked_8 : decode cX7_looked 8 = .ok (.iconst (-1), 1) := by decide +kernel
theorem dX7_looked_9 : decode cX7_looked 9 = .ok (.ireturn, 1) := by decide +kernel
theorem dX7_looked_10 : decode cX7_looked 10 = .ok (.aload_n 0, 1) := by decide +kernel
theorem dX7_looked_11 : decode cX7_looked 11 = .ok (.invokevirtual 294, 3) := by decide +kernel
theorem dX7_looked_14 : decode cX7_looked 14 = .ok (.iconst 1, 1) := by decide +kernel
theorem dX7_looked_15 : decode cX7_looked 15 = .ok (.istore_n 2, 1) := by decide +kernel
theorem dX7_looked_16 : decode cX7_looked 16 = .ok (.iload_n 2, 1) := by decide +kernel
theorem dX7_looked_17 : decode cX7_looked 17 = .ok (.aload_n 0, 1) := by decide +kernel
theorem dX7_looked_18 : decode cX7_looked 18 = .ok (.getfield 130, 3) := by decide +kernel
theorem dX7_looked_21 : decode cX7_looked 21 = .ok (.if_icmp .ge 45, 3) := by decide +kernel
theorem dX7_looked_24 : decode cX7_looked 24 = .ok (.aload_n 0, 1) := by decide +kernel
theorem dX7_looked_25 : decode cX7_looked 25 = .ok (.getfield 133, 3) := by decide +kernel
theorem dX7_looked_28 : decode cX7_looked 28 = .ok (.iload_n 2, 1) := by decide +kernel
theorem dX7_looked_29 : decode cX7_looked 29 = .ok (.iconst 1, 1) := by decide +kernel
theorem dX7_looked_30 : decode cX7_looked 30 = .ok (.isub, 1) := by decide +kernel
theorem dX7_looked_31 : decode cX7_looked 31 = .ok (.iaload, 1) := by decide +kernel
theorem dX7_looked_32 : decode cX7_looked 32 = .ok (.iload_n 1, 1) := by decide +kernel
theorem dX7_looked_33 : decode cX7_looked 33 = .ok (.if_icmp .eq 25, 3) := by decide +kernel
theorem dX7_looked_36 : decode cX7_looked 36 = .ok (.aload_n 0, 1) := by decide +kernel
theorem dX7_looked_37 : decode cX7_looked 37 = .ok (.aload_n 0, 1) := by decide +kernel
theorem dX7_looked_38 : decode cX7_looked 38 = .ok (.getfield 133, 3) := by decide +kernel
theorem dX7_looked_41 : decode cX7_looked 41 = .ok (.iload_n 2, 1) := by decide +kernel
theorem dX7_looked_42 : decode cX7_looked 42 = .ok (.iconst 1, 1) := by decide +kernel
theorem dX7_looked_43 : decode cX7_looked 43 = .ok (.isub, 1) := by decide +kernel
theorem dX7_looked_44 : decode cX7_looked 44 = .ok (.iaload, 1) := by decide +kernel
theorem dX7_looked_45 : decode cX7_looked 45 = .ok (.iload_n 1, 1) := by decide +kernel
theorem dX7_looked_46 : decode cX7_looked 46 = .ok (.invokevirtual 318, 3) := by decide +kernel
theorem dX7_looked_49 : decode cX7_looked 49 = .ok (.aload_n 0, 1) := by decide +kernel
theorem dX7_looked_50 : decode cX7_looked 50 = .ok (.getfield 133, 3) := by decide +kernel
theorem dX7_looked_53 : decode cX7_looked 53 = .ok (.iload_n 2, 1) := by decide +kernel
theorem dX7_looked_54 : decode cX7_looked 54 = .ok (.iaload, 1) := by decide +kernel
theorem dX7_looked_55 : decode cX7_looked 55 = .ok (.if_icmp .eq 5, 3) := by decide +kernel
theorem dX7_looked_58 : decode cX7_looked 58 = .ok (.iload_n 2, 1) := by decide +kernel
theorem dX7_looked_59 : decode cX7_looked 59 = .ok (.ireturn, 1) := by decide +kernel
theorem dX7_looked_60 : decode cX7_looked 60 = .ok (.iinc 2 1, 3) := by decide +kernel
theorem dX7_looked_63 : decode cX7_looked 63 = .ok (.goto (-47), 3) := by decide +kernel
theorem dX7_looked_66 : decode cX7_looked 66 = .ok (.bipush (-5), 2) := by decide +kernel
theorem dX7_looked_68 : decode cX7_looked 68 = .ok (.ireturn, 1) := by decide +kernel
theorem dX7_judge_0 : decode cX7_judge 0 = .ok (.aload_n 0, 1) := by decide +kernel
theorem dX7_judge_1 : decode cX7_judge 1 = .ok (.iload_n 1, 1) := by decide +kernel
theorem dX7_judge_2 : decode cX7_judge 2 = .ok (.invokevirtual 351, 3) := by decide +kernel
theorem dX7_judge_5 : decode cX7_judge 5 = .ok (.ifCond .ne 5, 3) := by decide +kernel
theorem dX7_judge_8 : decode cX7_judge 8 = .ok (.iconst (-1), 1) := by decide +kernel
theorem dX7_judge_9 : decode cX7_judge 9 = .ok (.ireturn, 1) := by decide +kernel
theorem dX7_judge_10 : decode cX7_judge 10 = .ok (.aload_n 0, 1) := by decide +kernel
theorem dX7_judge_11 : decode cX7_judge 11 = .ok (.getfield 185, 3) := by decide +kernel
theorem dX7_judge_14 : decode cX7_judge 14 = .ok (.iload_n 1, 1) := by decide +kernel
theorem dX7_judge_15 : decode cX7_judge 15 = .ok (.iaload, 1) := by decide +kernel
theorem dX7_judge_16 : decode cX7_judge 16 = .ok (.ifCond .lt 16, 3) := by decide +kernel
theorem dX7_judge_19 : decode cX7_judge 19 = .ok (.aload_n 0, 1) := by decide +kernel
theorem dX7_judge_20 : decode cX7_judge 20 = .ok (.getfield 185, 3) := by decide +kernel
theorem dX7_judge_23 : decode cX7_judge 23 = .ok (.iload_n 1, 1) := by decide +kernel
theorem dX7_judge_24 : decode cX7_judge 24 = .ok (.iaload, 1) := by decide +kernel
theorem dX7_judge_25 : decode cX7_judge 25 = .ok (.iconst 2, 1) := by decide +kernel
theorem dX7_judge_26 : decode cX7_judge 26 = .ok (.if_icmp .eq 6, 3) := by decide +kernel
theorem dX7_judge_29 : decode cX7_judge 29 = .ok (.bipush (-12), 2) := by decide +kernel
theorem dX7_judge_31 : decode cX7_judge 31 = .ok (.ireturn, 1) := by decide +kernel
theorem dX7_judge_32 : decode cX7_judge 32 = .ok (.aload_n 0, 1) := by decide +kernel
theorem dX7_judge_33 : decode cX7_judge 33 = .ok (.invokevirtual 294, 3) := by decide +kernel
theorem dX7_judge_36 : decode cX7_judge 36 = .ok (.iconst 0, 1) := by decide +kernel
theorem dX7_judge_37 : decode cX7_judge 37 = .ok (.istore_n 3, 1) := by decide +kernel
theorem dX7_judge_38 : decode cX7_judge 38 = .ok (.iload_n 3, 1) := by decide +kernel
theorem dX7_judge_39 : decode cX7_judge 39 = .ok (.aload_n 0, 1) := by decide +kernel
theorem dX7_judge_40 : decode cX7_judge 40 = .ok (.getfield 7, 3) := by decide +kernel
theorem dX7_judge_43 : decode cX7_judge 43 = .ok (.if_icmp .ge 67, 3) := by decide +kernel
theorem dX7_judge_46 : decode cX7_judge 46 = .ok (.aload_n 0, 1) := by decide +kernel
theorem dX7_judge_47 : decode cX7_judge 47 = .ok (.getfield 185, 3) := by decide +kernel
theorem dX7_judge_50 : decode cX7_judge 50 = .ok (.iload_n 1, 1) := by decide +kernel
theorem dX7_judge_51 : decode cX7_judge 51 = .ok (.iaload, 1) := by decide +kernel
theorem dX7_judge_52 : decode cX7_judge 52 = .ok (.ifCond .lt 21, 3) := by decide +kernel
theorem dX7_judge_55 : decode cX7_judge 55 = .ok (.iload_n 2, 1) := by decide +kernel
theorem dX7_judge_56 : decode cX7_judge 56 = .ok (.ifCond .lt 17, 3) := by decide +kernel
theorem dX7_judge_59 : decode cX7_judge 59 = .ok (.iload_n 2, 1) := by decide +kernel
theorem dX7_judge_60 : decode cX7_judge 60 = .ok (.aload_n 0, 1) := by decide +kernel
theorem dX7_judge_61 : decode cX7_judge 61 = .ok (.getfield 188, 3) := by decide +kernel
theorem dX7_judge_64 : decode cX7_judge 64 = .ok (.iload_n 1, 1) := by decide +kernel
theorem dX7_judge_65 : decode cX7_judge 65 = .ok (.iaload, 1) := by decide +kernel
theorem dX7_judge_66 : decode cX7_judge 66 = .ok (.iload_n 3, 1) := by decide +kernel
theorem dX7_judge_67 : decode cX7_judge 67 = .ok (.isub, 1) := by decide +kernel
theorem dX7_judge_68 : decode cX7_judge 68 = .ok (.iconst 1, 1) := by decide +kernel
theorem dX7_judge_69 : decode cX7_judge 69 = .ok (.isub, 1) := by decide +kernel
theorem dX7_judge_70 : decode cX7_judge 70 = .ok (.if_icmp .le 8, 3) := by decide +kernel
theorem dX7_judge_73 : decode cX7_judge 73 = .ok (.bipush 100, 2) := by decide +kernel
theorem dX7_judge_75 : decode cX7_judge 75 = .ok (.iload_n 3, 1) := by decide +kernel
theorem dX7_judge_76 : decode cX7_judge 76 = .ok (.iadd, 1) := by decide +kernel
theorem dX7_judge_77 : decode cX7_judge 77 = .ok (.ireturn, 1) := by decide +kernel
theorem dX7_judge_78 : decode cX7_judge 78 = .ok (.aload_n 0, 1) := by decide +kernel
theorem dX7_judge_79 : decode cX7_judge 79 = .ok (.getfield 191, 3) := by decide +kernel
theorem dX7_judge_82 : decode cX7_judge 82 = .ok (.bipush 60, 2) := by decide +kernel
theorem dX7_judge_84 : decode cX7_judge 84 = .ok (.iload_n 1, 1) := by decide +kernel
theorem dX7_judge_85 : decode cX7_judge 85 = .ok (.imul, 1) := by decide +kernel
theorem dX7_judge_86 : decode cX7_judge 86 = .ok (.iload_n 2, 1) := by decide +kernel
theorem dX7_judge_87 : decode cX7_judge 87 = .ok (.iadd, 1) := by decide +kernel
theorem dX7_judge_88 : decode cX7_judge 88 = .ok (.iload_n 3, 1) := by decide +kernel
theorem dX7_judge_89 : decode cX7_judge 89 = .ok (.iadd, 1) := by decide +kernel
theorem dX7_judge_90 : decode cX7_judge 90 = .ok (.laload, 1) := by decide +kernel
theorem dX7_judge_91 : decode cX7_judge 91 = .ok (.aload_n 0, 1) := by decide +kernel
theorem dX7_judge_92 : decode cX7_judge 92 = .ok (.getfield 102, 3) := by decide +kernel
theorem dX7_judge_95 : decode cX7_judge 95 = .ok (.iload_n 3, 1) := by decide +kernel
theorem dX7_judge_96 : decode cX7_judge 96 = .ok (.iaload, 1) := by decide +kernel
theorem dX7_judge_97 : decode cX7_judge 97 = .ok (.i2l, 1) := by decide +kernel
theorem dX7_judge_98 : decode cX7_judge 98 = .ok (.lcmp, 1) := by decide +kernel
theorem dX7_judge_99 : decode cX7_judge 99 = .ok (.ifCond .eq 5, 3) := by decide +kernel
theorem dX7_judge_102 : decode cX7_judge 102 = .ok (.iload_n 3, 1) := by decide +kernel
theorem dX7_judge_103 : decode cX7_judge 103 = .ok (.ireturn, 1) := by decide +kernel
theorem dX7_judge_104 : decode cX7_judge 104 = .ok (.iinc 3 1, 3) := by decide +kernel
theorem dX7_judge_107 : decode cX7_judge 107 = .ok (.goto (-69), 3) := by decide +kernel
theorem dX7_judge_110 : decode cX7_judge 110 = .ok (.bipush (-5), 2) := by decide +kernel
theorem dX7_judge_112 : decode cX7_judge 112 = .ok (.ireturn, 1) := by decide +kernel
theorem dX7_image_0 : decode cX7_image 0 = .ok (.aload_n 0, 1) := by decide +kernel
theorem dX7_image_1 : decode cX7_image 1 = .ok (.iconst 1, 1) := by decide +kernel
theorem dX7_image_2 : decode cX7_image 2 = .ok (.putfield 136, 3) := by decide +kernel
theorem dX7_image_5 : decode cX7_image 5 = .ok (.aload_n 0, 1) := by decide +kernel
theorem dX7_image_6 : decode cX7_image 6 = .ok (.aload_n 0, 1) := by decide +kernel
theorem dX7_image_7 : decode cX7_image 7 = .ok (.getfield 44, 3) := by decide +kernel
theorem dX7_image_10 : decode cX7_image 10 = .ok (.putfield 140, 3) := by decide +kernel
theorem dX7_image_13 : decode cX7_image 13 = .ok (.aload_n 0, 1) := by decide +kernel
theorem dX7_image_14 : decode cX7_image 14 = .ok (.aload_n 0, 1) := by decide +kernel
theorem dX7_image_15 : decode cX7_image 15 = .ok (.getfield 7, 3) := by decide +kernel
theorem dX7_image_18 : decode cX7_image 18 = .ok (.putfield 143, 3) := by decide +kernel
theorem dX7_image_21 : decode cX7_image 21 = .ok (.aload_n 0, 1) := by decide +kernel
theorem dX7_image_22 : decode cX7_image 22 = .ok (.aload_n 0, 1) := by decide +kernel
theorem dX7_image_23 : decode cX7_image 23 = .ok (.getfield 13, 3) := by decide +kernel
theorem dX7_image_26 : decode cX7_image 26 = .ok (.putfield 146, 3) := by decide +kernel
theorem dX7_image_29 : decode cX7_image 29 = .ok (.aload_n 0, 1) := by decide +kernel
theorem dX7_image_30 : decode cX7_image 30 = .ok (.aload_n 0, 1) := by decide +kernel
theorem dX7_image_31 : decode cX7_image 31 = .ok (.getfield 130, 3) := by decide +kernel
theorem dX7_image_34 : decode cX7_image 34 = .ok (.putfield 149, 3) := by decide +kernel
theorem dX7_image_37 : decode cX7_image 37 = .ok (.iconst 0, 1) := by decide +kernel
theorem dX7_image_38 : decode cX7_image 38 = .ok (.istore_n 1, 1) := by decide +kernel
theorem dX7_image_39 : decode cX7_image 39 = .ok (.iload_n 1, 1) := by decide +kernel
theorem dX7_image_40 : decode cX7_image 40 = .ok (.bipush 7, 2) := by decide +kernel
theorem dX7_image_42 : decode cX7_image 42 = .ok (.if_icmp .ge 57, 3) := by decide +kernel
theorem dX7_image_45 : decode cX7_image 45 = .ok (.aload_n 0, 1) := by decide +kernel
theorem dX7_image_46 : decode cX7_image 46 = .ok (.getfield 152, 3) := by decide +kernel
theorem dX7_image_49 : decode cX7_image 49 = .ok (.iload_n 1, 1) := by decide +kernel
theorem dX7_image_50 : decode cX7_image 50 = .ok (.aload_n 0, 1) := by decide +kernel
theorem dX7_image_51 : decode cX7_image 51 = .ok (.getfield 16, 3) := by decide +kernel
theorem dX7_image_54 : decode cX7_image 54 = .ok (.iload_n 1, 1) := by decide +kernel
theorem dX7_image_55 : decode cX7_image 55 = .ok (.iaload, 1) := by decide +kernel
theorem dX7_image_56 : decode cX7_image 56 = .ok (.iastore, 1) := by decide +kernel
theorem dX7_image_57 : decode cX7_image 57 = .ok (.aload_n 0, 1) := by decide +kernel
theorem dX7_image_58 : decode cX7_image 58 = .ok (.getfield 155, 3) := by decide +kernel
theorem dX7_image_61 : decode cX7_image 61 = .ok (.iload_n 1, 1) := by decide +kernel
theorem dX7_image_62 : decode cX7_image 62 = .ok (.aload_n 0, 1) := by decide +kernel
theorem dX7_image_63 : decode cX7_image 63 = .ok (.getfield 20, 3) := by decide +kernel
theorem dX7_image_66 : decode cX7_image 66 = .ok (.iload_n 1, 1) := by decide +kernel
theorem dX7_image_67 : decode cX7_image 67 = .ok (.iaload, 1) := by decide +kernel
theorem dX7_image_68 : decode cX7_image 68 = .ok (.iastore, 1) := by decide +kernel
theorem dX7_image_69 : decode cX7_image 69 = .ok (.aload_n 0, 1) := by decide +kernel
theorem dX7_image_70 : decode cX7_image 70 = .ok (.getfield 158, 3) := by decide +kernel
theorem dX7_image_73 : decode cX7_image 73 = .ok (.iload_n 1, 1) := by decide +kernel
theorem dX7_image_74 : decode cX7_image 74 = .ok (.aload_n 0, 1) := by decide +kernel
theorem dX7_image_75 : decode cX7_image 75 = .ok (.getfield 23, 3) := by decide +kernel
theorem dX7_image_78 : decode cX7_image 78 = .ok (.iload_n 1, 1) := by decide +kernel
theorem dX7_image_79 : decode cX7_image 79 = .ok (.iaload, 1) := by decide +kernel
theorem dX7_image_80 : decode cX7_image 80 = .ok (.iastore, 1) := by decide +kernel
theorem dX7_image_81 : decode cX7_image 81 = .ok (.aload_n 0, 1) := by decide +kernel
theorem dX7_image_82 : decode cX7_image 82 = .ok (.getfield 161, 3) := by decide +kernel
theorem dX7_image_85 : decode cX7_image 85 = .ok (.iload_n 1, 1) := by decide +kernel
theorem dX7_image_86 : decode cX7_image 86 = .ok (.aload_n 0, 1) := by decide +kernel
theorem dX7_image_87 : decode cX7_image 87 = .ok (.getfield 26, 3) := by decide +kernel
theorem dX7_image_90 : decode cX7_image 90 = .ok (.iload_n 1, 1) := by decide +kernel
theorem dX7_image_91 : decode cX7_image 91 = .ok (.iaload, 1) := by decide +kernel
theorem dX7_image_92 : decode cX7_image 92 = .ok (.iastore, 1) := by decide +kernel
theorem dX7_image_93 : decode cX7_image 93 = .ok (.iinc 1 1, 3) := by decide +kernel
theorem dX7_image_96 : decode cX7_image 96 = .ok (.goto (-57), 3) := by decide +kernel
theorem dX7_image_99 : decode cX7_image 99 = .ok (.iconst 0, 1) := by decide +kernel
theorem dX7_image_100 : decode cX7_image 100 = .ok (.istore_n 1, 1) := by decide +kernel
theorem dX7_image_101 : decode cX7_image 101 = .ok (.iload_n 1, 1) := by decide +kernel
theorem dX7_image_102 : decode cX7_image 102 = .ok (.bipush 49, 2) := by decide +kernel
theorem dX7_image_104 : decode cX7_image 104 = .ok (.if_icmp .ge 21, 3) := by decide +kernel
theorem dX7_image_107 : decode cX7_image 107 = .ok (.aload_n 0, 1) := by decide +kernel
theorem dX7_image_108 : decode cX7_image 108 = .ok (.getfield 164, 3) := by decide +kernel
theorem dX7_image_111 : decode cX7_image 111 = .ok (.iload_n 1, 1) := by decide +kernel
theorem dX7_image_112 : decode cX7_image 112 = .ok (.aload_n 0, 1) := by decide +kernel
theorem dX7_image_113 : decode cX7_image 113 = .ok (.getfield 29, 3) := by decide +kernel
theorem dX7_image_116 : decode cX7_image 116 = .ok (.iload_n 1, 1) := by decide +kernel
theorem dX7_image_117 : decode cX7_image 117 = .ok (.iaload, 1) := by decide +kernel
theorem dX7_image_118 : decode cX7_image 118 = .ok (.iastore, 1) := by decide +kernel
theorem dX7_image_119 : decode cX7_image 119 = .ok (.iinc 1 1, 3) := by decide +kernel
theorem dX7_image_122 : decode cX7_image 122 = .ok (.goto (-21), 3) := by decide +kernel
theorem dX7_image_125 : decode cX7_image 125 = .ok (.iconst 0, 1) := by decide +kernel
theorem dX7_image_126 : decode cX7_image 126 = .ok (.istore_n 1, 1) := by decide +kernel
theorem dX7_image_127 : decode cX7_image 127 = .ok (.iload_n 1, 1) := by decide +kernel
theorem dX7_image_128 : decode cX7_image 128 = .ok (.bipush 8, 2) := by decide +kernel
theorem dX7_image_130 : decode cX7_image 130 = .ok (.if_icmp .ge 45, 3) := by decide +kernel
theorem dX7_image_133 : decode cX7_image 133 = .ok (.aload_n 0, 1) := by decide +kernel
theorem dX7_image_134 : decode cX7_image 134 = .ok (.getfield 167, 3) := by decide +kernel
theorem dX7_image_137 : decode cX7_image 137 = .ok (.iload_n 1, 1) := by decide +kernel
theorem dX7_image_138 : decode cX7_image 138 = .ok (.aload_n 0, 1) := by decide +kernel
theorem dX7_image_139 : decode cX7_image 139 = .ok (.getfield 32, 3) := by decide +kernel
theorem dX7_image_142 : decode cX7_image 142 = .ok (.iload_n 1, 1) := by decide +kernel
theorem dX7_image_143 : decode cX7_image 143 = .ok (.iaload, 1) := by decide +kernel
theorem dX7_image_144 : decode cX7_image 144 = .ok (.iastore, 1) := by decide +kernel
theorem dX7_image_145 : decode cX7_image 145 = .ok (.aload_n 0, 1) := by decide +kernel
theorem dX7_image_146 : decode cX7_image 146 = .ok (.getfield 170, 3) := by decide +kernel
theorem dX7_image_149 : decode cX7_image 149 = .ok (.iload_n 1, 1) := by decide +kernel
theorem dX7_image_150 : decode cX7_image 150 = .ok (.aload_n 0, 1) := by decide +kernel
theorem dX7_image_151 : decode cX7_image 151 = .ok (.getfield 35, 3) := by decide +kernel
theorem dX7_image_154 : decode cX7_image 154 = .ok (.iload_n 1, 1) := by decide +kernel
theorem dX7_image_155 : decode cX7_image 155 = .ok (.iaload, 1) := by decide +kernel
theorem dX7_image_156 : decode cX7_image 156 = .ok (.iastore, 1) := by decide +kernel
theorem dX7_image_157 : decode cX7_image 157 = .ok (.aload_n 0, 1) := by decide +kernel
theorem dX7_image_158 : decode cX7_image 158 = .ok (.getfield 173, 3) := by decide +kernel
theorem dX7_image_161 : decode cX7_image 161 = .ok (.iload_n 1, 1) := by decide +kernel
theorem dX7_image_162 : decode cX7_image 162 = .ok (.aload_n 0, 1) := by decide +kernel
theorem dX7_image_163 : decode cX7_image 163 = .ok (.getfield 38, 3) := by decide +kernel
theorem dX7_image_166 : decode cX7_image 166 = .ok (.iload_n 1, 1) := by decide +kernel
theorem dX7_image_167 : decode cX7_image 167 = .ok (.iaload, 1) := by decide +kernel
theorem dX7_image_168 : decode cX7_image 168 = .ok (.iastore, 1) := by decide +kernel
theorem dX7_image_169 : decode cX7_image 169 = .ok (.iinc 1 1, 3) := by decide +kernel
theorem dX7_image_172 : decode cX7_image 172 = .ok (.goto (-45), 3) := by decide +kernel
theorem dX7_image_175 : decode cX7_image 175 = .ok (.iconst 0, 1) := by decide +kernel
theorem dX7_image_176 : decode cX7_image 176 = .ok (.istore_n 1, 1) := by decide +kernel
theorem dX7_image_177 : decode cX7_image 177 = .ok (.iload_n 1, 1) := by decide +kernel
theorem dX7_image_178 : decode cX7_image 178 = .ok (.bipush 12, 2) := by decide +kernel
theorem dX7_image_180 : decode cX7_image 180 = .ok (.if_icmp .ge 21, 3) := by decide +kernel
theorem dX7_image_183 : decode cX7_image 183 = .ok (.aload_n 0, 1) := by decide +kernel
theorem dX7_image_184 : decode cX7_image 184 = .ok (.getfield 176, 3) := by decide +kernel
theorem dX7_image_187 : decode cX7_image 187 = .ok (.iload_n 1, 1) := by decide +kernel
theorem dX7_image_188 : decode cX7_image 188 = .ok (.aload_n 0, 1) := by decide +kernel
theorem dX7_image_189 : decode cX7_image 189 = .ok (.getfield 133, 3) := by decide +kernel
theorem dX7_image_192 : decode cX7_image 192 = .ok (.iload_n 1, 1) := by decide +kernel
theorem dX7_image_193 : decode cX7_image 193 = .ok (.iaload, 1) := by decide +kernel
theorem dX7_image_194 : decode cX7_image 194 = .ok (.iastore, 1) := by decide +kernel
theorem dX7_image_195 : decode cX7_image 195 = .ok (.iinc 1 1, 3) := by decide +kernel
theorem dX7_image_198 : decode cX7_image 198 = .ok (.goto (-21), 3) := by decide +kernel
theorem dX7_image_201 : decode cX7_image 201 = .ok (.aload_n 0, 1) := by decide +kernel
theorem dX7_image_202 : decode cX7_image 202 = .ok (.getfield 7, 3) := by decide +kernel
theorem dX7_image_205 : decode cX7_image 205 = .ok (.ireturn, 1) := by decide +kernel
theorem dX7_undo_0 : decode cX7_undo 0 = .ok (.aload_n 0, 1) := by decide +kernel
theorem dX7_undo_1 : decode cX7_undo 1 = .ok (.getfield 136, 3) := by decide +kernel
theorem dX7_undo_4 : decode cX7_undo 4 = .ok (.ifCond .ne 6, 3) := by decide +kernel
theorem dX7_undo_7 : decode cX7_undo 7 = .ok (.bipush (-3), 2) := by decide +kernel
theorem dX7_undo_9 : decode cX7_undo 9 = .ok (.ireturn, 1) := by decide +kernel
theorem dX7_undo_10 : decode cX7_undo 10 = .ok (.aload_n 0, 1) := by decide +kernel
theorem dX7_undo_11 : decode cX7_undo 11 = .ok (.aload_n 0, 1) := by decide +kernel
theorem dX7_undo_12 : decode cX7_undo 12 = .ok (.getfield 140, 3) := by decide +kernel
theorem dX7_undo_15 : decode cX7_undo 15 = .ok (.putfield 44, 3) := by decide +kernel
theorem dX7_undo_18 : decode cX7_undo 18 = .ok (.aload_n 0, 1) := by decide +kernel
theorem dX7_undo_19 : decode cX7_undo 19 = .ok (.aload_n 0, 1) := by decide +kernel
theorem dX7_undo_20 : decode cX7_undo 20 = .ok (.getfield 143, 3) := by decide +kernel
theorem dX7_undo_23 : decode cX7_undo 23 = .ok (.putfield 7, 3) := by decide +kernel
theorem dX7_undo_26 : decode cX7_undo 26 = .ok (.aload_n 0, 1) := by decide +kernel
theorem dX7_undo_27 : decode cX7_undo 27 = .ok (.aload_n 0, 1) := by decide +kernel
theorem dX7_undo_28 : decode cX7_undo 28 = .ok (.getfield 146, 3) := by decide +kernel
theorem dX7_undo_31 : decode cX7_undo 31 = .ok (.putfield 13, 3) := by decide +kernel
theorem dX7_undo_34 : decode cX7_undo 34 = .ok (.aload_n 0, 1) := by decide +kernel
theorem dX7_undo_35 : decode cX7_undo 35 = .ok (.aload_n 0, 1) := by decide +kernel
theorem dX7_undo_36 : decode cX7_undo 36 = .ok (.getfield 149, 3) := by decide +kernel
theorem dX7_undo_39 : decode cX7_undo 39 = .ok (.putfield 130, 3) := by decide +kernel
theorem dX7_undo_42 : decode cX7_undo 42 = .ok (.iconst 0, 1) := by decide +kernel
theorem dX7_undo_43 : decode cX7_undo 43 = .ok (.istore_n 1, 1) := by decide +kernel
theorem dX7_undo_44 : decode cX7_undo 44 = .ok (.iload_n 1, 1) := by decide +kernel
theorem dX7_undo_45 : decode cX7_undo 45 = .ok (.bipush 7, 2) := by decide +kernel
theorem dX7_undo_47 : decode cX7_undo 47 = .ok (.if_icmp .ge 57, 3) := by decide +kernel
theorem dX7_undo_50 : decode cX7_undo 50 = .ok (.aload_n 0, 1) := by decide +kernel
theorem dX7_undo_51 : decode cX7_undo 51 = .ok (.getfield 16, 3) := by decide +kernel
theorem dX7_undo_54 : decode cX7_undo 54 = .ok (.iload_n 1, 1) := by decide +kernel
theorem dX7_undo_55 : decode cX7_undo 55 = .ok (.aload_n 0, 1) := by decide +kernel
theorem dX7_undo_56 : decode cX7_undo 56 = .ok (.getfield 152, 3) := by decide +kernel
theorem dX7_undo_59 : decode cX7_undo 59 = .ok (.iload_n 1, 1) := by decide +kernel
theorem dX7_undo_60 : decode cX7_undo 60 = .ok (.iaload, 1) := by decide +kernel
theorem dX7_undo_61 : decode cX7_undo 61 = .ok (.iastore, 1) := by decide +kernel
theorem dX7_undo_62 : decode cX7_undo 62 = .ok (.aload_n 0, 1) := by decide +kernel
theorem dX7_undo_63 : decode cX7_undo 63 = .ok (.getfield 20, 3) := by decide +kernel
theorem dX7_undo_66 : decode cX7_undo 66 = .ok (.iload_n 1, 1) := by decide +kernel
theorem dX7_undo_67 : decode cX7_undo 67 = .ok (.aload_n 0, 1) := by decide +kernel
theorem dX7_undo_68 : decode cX7_undo 68 = .ok (.getfield 155, 3) := by decide +kernel
theorem dX7_undo_71 : decode cX7_undo 71 = .ok (.iload_n 1, 1) := by decide +kernel
theorem dX7_undo_72 : decode cX7_undo 72 = .ok (.iaload, 1) := by decide +kernel
theorem dX7_undo_73 : decode cX7_undo 73 = .ok (.iastore, 1) := by decide +kernel
theorem dX7_undo_74 : decode cX7_undo 74 = .ok (.aload_n 0, 1) := by decide +kernel
theorem dX7_undo_75 : decode cX7_undo 75 = .ok (.getfield 23, 3) := by decide +kernel
theorem dX7_undo_78 : decode cX7_undo 78 = .ok (.iload_n 1, 1) := by decide +kernel
theorem dX7_undo_79 : decode cX7_undo 79 = .ok (.aload_n 0, 1) := by decide +kernel
theorem dX7_undo_80 : decode cX7_undo 80 = .ok (.getfield 158, 3) := by decide +kernel
theorem dX7_undo_83 : decode cX7_undo 83 = .ok (.iload_n 1, 1) := by decide +kernel
theorem dX7_undo_84 : decode cX7_undo 84 = .ok (.iaload, 1) := by decide +kernel
theorem dX7_undo_85 : decode cX7_undo 85 = .ok (.iastore, 1) := by decide +kernel
theorem dX7_undo_86 : decode cX7_undo 86 = .ok (.aload_n 0, 1) := by decide +kernel
theorem dX7_undo_87 : decode cX7_undo 87 = .ok (.getfield 26, 3) := by decide +kernel
theorem dX7_undo_90 : decode cX7_undo 90 = .ok (.iload_n 1, 1) := by decide +kernel
theorem dX7_undo_91 : decode cX7_undo 91 = .ok (.aload_n 0, 1) := by decide +kernel
theorem dX7_undo_92 : decode cX7_undo 92 = .ok (.getfield 161, 3) := by decide +kernel
theorem dX7_undo_95 : decode cX7_undo 95 = .ok (.iload_n 1, 1) := by decide +kernel
theorem dX7_undo_96 : decode cX7_undo 96 = .ok (.iaload, 1) := by decide +kernel
theorem dX7_undo_97 : decode cX7_undo 97 = .ok (.iastore, 1) := by decide +kernel
theorem dX7_undo_98 : decode cX7_undo 98 = .ok (.iinc 1 1, 3) := by decide +kernel
theorem dX7_undo_101 : decode cX7_undo 101 = .ok (.goto (-57), 3) := by decide +kernel
theorem dX7_undo_104 : decode cX7_undo 104 = .ok (.iconst 0, 1) := by decide +kernel
theorem dX7_undo_105 : decode cX7_undo 105 = .ok (.istore_n 1, 1) := by decide +kernel
theorem dX7_undo_106 : decode cX7_undo 106 = .ok (.iload_n 1, 1) := by decide +kernel
theorem dX7_undo_107 : decode cX7_undo 107 = .ok (.bipush 49, 2) := by decide +kernel
theorem dX7_undo_109 : decode cX7_undo 109 = .ok (.if_icmp .ge 21, 3) := by decide +kernel
theorem dX7_undo_112 : decode cX7_undo 112 = .ok (.aload_n 0, 1) := by decide +kernel
theorem dX7_undo_113 : decode cX7_undo 113 = .ok (.getfield 29, 3) := by decide +kernel
theorem dX7_undo_116 : decode cX7_undo 116 = .ok (.iload_n 1, 1) := by decide +kernel
theorem dX7_undo_117 : decode cX7_undo 117 = .ok (.aload_n 0, 1) := by decide +kernel
theorem dX7_undo_118 : decode cX7_undo 118 = .ok (.getfield 164, 3) := by decide +kernel
theorem dX7_undo_121 : decode cX7_undo 121 = .ok (.iload_n 1, 1) := by decide +kernel
theorem dX7_undo_122 : decode cX7_undo 122 = .ok (.iaload, 1) := by decide +kernel
theorem dX7_undo_123 : decode cX7_undo 123 = .ok (.iastore, 1) := by decide +kernel
theorem dX7_undo_124 : decode cX7_undo 124 = .ok (.iinc 1 1, 3) := by decide +kernel
theorem dX7_undo_127 : decode cX7_undo 127 = .ok (.goto (-21), 3) := by decide +kernel
theorem dX7_undo_130 : decode cX7_undo 130 = .ok (.iconst 0, 1) := by decide +kernel
theorem dX7_undo_131 : decode cX7_undo 131 = .ok (.istore_n 1, 1) := by decide +kernel
theorem dX7_undo_132 : decode cX7_undo 132 = .ok (.iload_n 1, 1) := by decide +kernel
theorem dX7_undo_133 : decode cX7_undo 133 = .ok (.bipush 8, 2) := by decide +kernel
theorem dX7_undo_135 : decode cX7_undo 135 = .ok (.if_icmp .ge 45, 3) := by decide +kernel
theorem dX7_undo_138 : decode cX7_undo 138 = .ok (.aload_n 0, 1) := by decide +kernel
theorem dX7_undo_139 : decode cX7_undo 139 = .ok (.getfield 32, 3) := by decide +kernel
theorem dX7_undo_142 : decode cX7_undo 142 = .ok (.iload_n 1, 1) := by decide +kernel
theorem dX7_undo_143 : decode cX7_undo 143 = .ok (.aload_n 0, 1) := by decide +kernel
theorem dX7_undo_144 : decode cX7_undo 144 = .ok (.getfield 167, 3) := by decide +kernel
theorem dX7_undo_147 : decode cX7_undo 147 = .ok (.iload_n 1, 1) := by decide +kernel
theorem dX7_undo_148 : decode cX7_undo 148 = .ok (.iaload, 1) := by decide +kernel
theorem dX7_undo_149 : decode cX7_undo 149 = .ok (.iastore, 1) := by decide +kernel
theorem dX7_undo_150 : decode cX7_undo 150 = .ok (.aload_n 0, 1) := by decide +kernel
theorem dX7_undo_151 : decode cX7_undo 151 = .ok (.getfield 35, 3) := by decide +kernel
theorem dX7_undo_154 : decode cX7_undo 154 = .ok (.iload_n 1, 1) := by decide +kernel
theorem dX7_undo_155 : decode cX7_undo 155 = .ok (.aload_n 0, 1) := by decide +kernel
theorem dX7_undo_156 : decode cX7_undo 156 = .ok (.getfield 170, 3) := by decide +kernel
theorem dX7_undo_159 : decode cX7_undo 159 = .ok (.iload_n 1, 1) := by decide +kernel
theorem dX7_undo_160 : decode cX7_undo 160 = .ok (.iaload, 1) := by decide +kernel
theorem dX7_undo_161 : decode cX7_undo 161 = .ok (.iastore, 1) := by decide +kernel
theorem dX7_undo_162 : decode cX7_undo 162 = .ok (.aload_n 0, 1) := by decide +kernel
theorem dX7_undo_163 : decode cX7_undo 163 = .ok (.getfield 38, 3) := by decide +kernel
theorem dX7_undo_166 : decode cX7_undo 166 = .ok (.iload_n 1, 1) := by decide +kernel
theorem dX7_undo_167 : decode cX7_undo 167 = .ok (.aload_n 0, 1) := by decide +kernel
theorem dX7_undo_168 : decode cX7_undo 168 = .ok (.getfield 173, 3) := by decide +kernel
theorem dX7_undo_171 : decode cX7_undo 171 = .ok (.iload_n 1, 1) := by decide +kernel
theorem dX7_undo_172 : decode cX7_undo 172 = .ok (.iaload, 1) := by decide +kernel
theorem dX7_undo_173 : decode cX7_undo 173 = .ok (.iastore, 1) := by decide +kernel
theorem dX7_undo_174 : decode cX7_undo 174 = .ok (.iinc 1 1, 3) := by decide +kernel
theorem dX7_undo_177 : decode cX7_undo 177 = .ok (.goto (-45), 3) := by decide +kernel
theorem dX7_undo_180 : decode cX7_undo 180 = .ok (.iconst 0, 1) := by decide +kernel
theorem dX7_undo_181 : decode cX7_undo 181 = .ok (.istore_n 1, 1) := by decide +kernel
theorem dX7_undo_182 : decode cX7_undo 182 = .ok (.iload_n 1, 1) := by decide +kernel
theorem dX7_undo_183 : decode cX7_undo 183 = .ok (.bipush 12, 2) := by decide +kernel
theorem dX7_undo_185 : decode cX7_undo 185 = .ok (.if_icmp .ge 21, 3) := by decide +kernel
theorem dX7_undo_188 : decode cX7_undo 188 = .ok (.aload_n 0, 1) := by decide +kernel
theorem dX7_undo_189 : decode cX7_undo 189 = .ok (.getfield 133, 3) := by decide +kernel
theorem dX7_undo_192 : decode cX7_undo 192 = .ok (.iload_n 1, 1) := by decide +kernel
theorem dX7_undo_193 : decode cX7_undo 193 = .ok (.aload_n 0, 1) := by decide +kernel
theorem dX7_undo_194 : decode cX7_undo 194 = .ok (.getfield 176, 3) := by decide +kernel
theorem dX7_undo_197 : decode cX7_undo 197 = .ok (.iload_n 1, 1) := by decide +kernel
theorem dX7_undo_198 : decode cX7_undo 198 = .ok (.iaload, 1) := by decide +kernel
theorem dX7_undo_199 : decode cX7_undo 199 = .ok (.iastore, 1) := by decide +kernel
theorem dX7_undo_200 : decode cX7_undo 200 = .ok (.iinc 1 1, 3) := by decide +kernel
theorem dX7_undo_203 : decode cX7_undo 203 = .ok (.goto (-21), 3) := by decide +kernel
theorem dX7_undo_206 : decode cX7_undo 206 = .ok (.aload_n 0, 1) := by decide +kernel
theorem dX7_undo_207 : decode cX7_undo 207 = .ok (.getfield 7, 3) := by decide +kernel
theorem dX7_undo_210 : decode cX7_undo 210 = .ok (.ireturn, 1) := by decide +kernel
theorem dX7_body_0 : decode cX7_body 0 = .ok (.aload_n 0, 1) := by decide +kernel
theorem dX7_body_1 : decode cX7_body 1 = .ok (.getfield 179, 3) := by decide +kernel
theorem dX7_body_4 : decode cX7_body 4 = .ok (.bipush 20, 2) := by decide +kernel
theorem dX7_body_6 : decode cX7_body 6 = .ok (.if_icmp .ge 13, 3) := by decide +kernel
theorem dX7_body_9 : decode cX7_body 9 = .ok (.aload_n 0, 1) := by decide +kernel
theorem dX7_body_10 : decode cX7_body 10 = .ok (.getfield 182, 3) := by decide +kernel
theorem dX7_body_13 : decode cX7_body 13 = .ok (.aload_n 0, 1) := by decide +kernel
theorem dX7_body_14 : decode cX7_body 14 = .ok (.getfield 179, 3) := by decide +kernel
theorem dX7_body_17 : decode cX7_body 17 = .ok (.iload_n 1, 1) := by decide +kernel
theorem dX7_body_18 : decode cX7_body 18 = .ok (.iastore, 1) := by decide +kernel
theorem dX7_body_19 : decode cX7_body 19 = .ok (.aload_n 0, 1) := by decide +kernel
theorem dX7_body_20 : decode cX7_body 20 = .ok (.dup, 1) := by decide +kernel
theorem dX7_body_21 : decode cX7_body 21 = .ok (.getfield 179, 3) := by decide +kernel
theorem dX7_body_24 : decode cX7_body 24 = .ok (.iconst 1, 1) := by decide +kernel
theorem dX7_body_25 : decode cX7_body 25 = .ok (.iadd, 1) := by decide +kernel
theorem dX7_body_26 : decode cX7_body 26 = .ok (.putfield 179, 3) := by decide +kernel
theorem dX7_body_29 : decode cX7_body 29 = .ok (.return_, 1) := by decide +kernel
theorem dX7_placePoints_0 : decode cX7_placePoints 0 = .ok (.aload_n 0, 1) := by decide +kernel
theorem dX7_placePoints_1 : decode cX7_placePoints 1 = .ok (.bipush 10, 2) := by decide +kernel
theorem dX7_placePoints_3 : decode cX7_placePoints 3 = .ok (.invokevirtual 354, 3) := by decide +kernel
theorem dX7_placePoints_6 : decode cX7_placePoints 6 = .ok (.iload_n 2, 1) := by decide +kernel
theorem dX7_placePoints_7 : decode cX7_placePoints 7 = .ok (.iload_n 1, 1) := by decide +kernel
theorem dX7_placePoints_8 : decode cX7_placePoints 8 = .ok (.iadd, 1) := by decide +kernel
theorem dX7_placePoints_9 : decode cX7_placePoints 9 = .ok (.ireturn, 1) := by decide +kernel
theorem dX7_pointsAct_0 : decode cX7_pointsAct 0 = .ok (.aload_n 0, 1) := by decide +kernel
theorem dX7_pointsAct_1 : decode cX7_pointsAct 1 = .ok (.getfield 16, 3) := by decide +kernel
theorem dX7_pointsAct_4 : decode cX7_pointsAct 4 = .ok (.iload_n 1, 1) := by decide +kernel
theorem dX7_pointsAct_5 : decode cX7_pointsAct 5 = .ok (.iaload, 1) := by decide +kernel
theorem dX7_pointsAct_6 : decode cX7_pointsAct 6 = .ok (.tableswitch 83 2 6 #[34, 83, 49, 34, 63], 34) := by decide +kernel
theorem dX7_pointsAct_40 : decode cX7_pointsAct 40 = .ok (.aload_n 0, 1) := by decide +kernel
theorem dX7_pointsAct_41 : decode cX7_pointsAct 41 = .ok (.bipush 30, 2) := by decide +kernel
theorem dX7_pointsAct_43 : decode cX7_pointsAct 43 = .ok (.invokevirtual 354, 3) := by decide +kernel
theorem dX7_pointsAct_46 : decode cX7_pointsAct 46 = .ok (.aload_n 0, 1) := by decide +kernel
theorem dX7_pointsAct_47 : decode cX7_pointsAct 47 = .ok (.iload_n 1, 1) := by decide +kernel
theorem dX7_pointsAct_48 : decode cX7_pointsAct 48 = .ok (.iload_n 2, 1) := by decide +kernel
theorem dX7_pointsAct_49 : decode cX7_pointsAct 49 = .ok (.iconst 3, 1) := by decide +kernel
theorem dX7_pointsAct_50 : decode cX7_pointsAct 50 = .ok (.imul, 1) := by decide +kernel
theorem dX7_pointsAct_51 : decode cX7_pointsAct 51 = .ok (.invokevirtual 357, 3) := by decide +kernel
theorem dX7_pointsAct_54 : decode cX7_pointsAct 54 = .ok (.ireturn, 1) := by decide +kernel
theorem dX7_pointsAct_55 : decode cX7_pointsAct 55 = .ok (.aload_n 0, 1) := by decide +kernel
theorem dX7_pointsAct_56 : decode cX7_pointsAct 56 = .ok (.bipush 50, 2) := by decide +kernel
end
section
theorem dX7_pointsAct_58 : decode cX7_pointsAct 58 = .ok (.invokevirtual 354, 3) := by decide +kernel
theorem dX7_pointsAct_61 : decode cX7_pointsAct 61 = .ok (.aload_n 0, 1) := by decide +kernel
theorem dX7_pointsAct_62 : decode cX7_pointsAct 62 = .ok (.iload_n 1, 1) := by decide +kernel
theorem dX7_pointsAct_63 : decode cX7_pointsAct 63 = .ok (.iload_n 2, 1) := by decide +kernel
theorem dX7_pointsAct_64 : decode cX7_pointsAct 64 = .ok (.invokevirtual 357, 3) := by decide +kernel
theorem dX7_pointsAct_67 : decode cX7_pointsAct 67 = .ok (.ineg, 1) := by decide +kernel
theorem dX7_pointsAct_68 : decode cX7_pointsAct 68 = .ok (.ireturn, 1) := by decide +kernel
theorem dX7_pointsAct_69 : decode cX7_pointsAct 69 = .ok (.aload_n 0, 1) := by decide +kernel
theorem dX7_pointsAct_70 : decode cX7_pointsAct 70 = .ok (.bipush 71, 2) := by decide +kernel
theorem dX7_pointsAct_72 : decode cX7_pointsAct 72 = .ok (.invokevirtual 354, 3) := by decide +kernel
theorem dX7_pointsAct_75 : decode cX7_pointsAct 75 = .ok (.aload_n 0, 1) := by decide +kernel
theorem dX7_pointsAct_76 : decode cX7_pointsAct 76 = .ok (.iload_n 1, 1) := by decide +kernel
theorem dX7_pointsAct_77 : decode cX7_pointsAct 77 = .ok (.iload_n 2, 1) := by decide +kernel
theorem dX7_pointsAct_78 : decode cX7_pointsAct 78 = .ok (.invokevirtual 357, 3) := by decide +kernel
theorem dX7_pointsAct_81 : decode cX7_pointsAct 81 = .ok (.aload_n 0, 1) := by decide +kernel
theorem dX7_pointsAct_82 : decode cX7_pointsAct 82 = .ok (.getfield 20, 3) := by decide +kernel
theorem dX7_pointsAct_85 : decode cX7_pointsAct 85 = .ok (.iload_n 1, 1) := by decide +kernel
theorem dX7_pointsAct_86 : decode cX7_pointsAct 86 = .ok (.iaload, 1) := by decide +kernel
theorem dX7_pointsAct_87 : decode cX7_pointsAct 87 = .ok (.ixor, 1) := by decide +kernel
theorem dX7_pointsAct_88 : decode cX7_pointsAct 88 = .ok (.ireturn, 1) := by decide +kernel
theorem dX7_pointsAct_89 : decode cX7_pointsAct 89 = .ok (.aload_n 0, 1) := by decide +kernel
theorem dX7_pointsAct_90 : decode cX7_pointsAct 90 = .ok (.iload_n 1, 1) := by decide +kernel
theorem dX7_pointsAct_91 : decode cX7_pointsAct 91 = .ok (.iload_n 2, 1) := by decide +kernel
theorem dX7_pointsAct_92 : decode cX7_pointsAct 92 = .ok (.invokevirtual 357, 3) := by decide +kernel
theorem dX7_pointsAct_95 : decode cX7_pointsAct 95 = .ok (.ireturn, 1) := by decide +kernel
theorem dX7_placeNames_0 : decode cX7_placeNames 0 = .ok (.aload_n 0, 1) := by decide +kernel
theorem dX7_placeNames_1 : decode cX7_placeNames 1 = .ok (.bipush 11, 2) := by decide +kernel
theorem dX7_placeNames_3 : decode cX7_placeNames 3 = .ok (.invokevirtual 354, 3) := by decide +kernel
theorem dX7_placeNames_6 : decode cX7_placeNames 6 = .ok (.aload_n 0, 1) := by decide +kernel
theorem dX7_placeNames_7 : decode cX7_placeNames 7 = .ok (.iload_n 1, 1) := by decide +kernel
theorem dX7_placeNames_8 : decode cX7_placeNames 8 = .ok (.iload_n 2, 1) := by decide +kernel
theorem dX7_placeNames_9 : decode cX7_placeNames 9 = .ok (.invokevirtual 360, 3) := by decide +kernel
theorem dX7_placeNames_12 : decode cX7_placeNames 12 = .ok (.aload_n 0, 1) := by decide +kernel
theorem dX7_placeNames_13 : decode cX7_placeNames 13 = .ok (.getfield 20, 3) := by decide +kernel
theorem dX7_placeNames_16 : decode cX7_placeNames 16 = .ok (.iload_n 1, 1) := by decide +kernel
theorem dX7_placeNames_17 : decode cX7_placeNames 17 = .ok (.iaload, 1) := by decide +kernel
theorem dX7_placeNames_18 : decode cX7_placeNames 18 = .ok (.isub, 1) := by decide +kernel
theorem dX7_placeNames_19 : decode cX7_placeNames 19 = .ok (.ireturn, 1) := by decide +kernel
theorem dX7_nearNames_0 : decode cX7_nearNames 0 = .ok (.aload_n 0, 1) := by decide +kernel
theorem dX7_nearNames_1 : decode cX7_nearNames 1 = .ok (.bipush 20, 2) := by decide +kernel
theorem dX7_nearNames_3 : decode cX7_nearNames 3 = .ok (.invokevirtual 354, 3) := by decide +kernel
theorem dX7_nearNames_6 : decode cX7_nearNames 6 = .ok (.aload_n 0, 1) := by decide +kernel
theorem dX7_nearNames_7 : decode cX7_nearNames 7 = .ok (.iload_n 1, 1) := by decide +kernel
theorem dX7_nearNames_8 : decode cX7_nearNames 8 = .ok (.iload_n 2, 1) := by decide +kernel
theorem dX7_nearNames_9 : decode cX7_nearNames 9 = .ok (.invokevirtual 363, 3) := by decide +kernel
theorem dX7_nearNames_12 : decode cX7_nearNames 12 = .ok (.bipush 6, 2) := by decide +kernel
theorem dX7_nearNames_14 : decode cX7_nearNames 14 = .ok (.ixor, 1) := by decide +kernel
theorem dX7_nearNames_15 : decode cX7_nearNames 15 = .ok (.ireturn, 1) := by decide +kernel
theorem dX7_namesAct_0 : decode cX7_namesAct 0 = .ok (.aload_n 0, 1) := by decide +kernel
theorem dX7_namesAct_1 : decode cX7_namesAct 1 = .ok (.getfield 16, 3) := by decide +kernel
theorem dX7_namesAct_4 : decode cX7_namesAct 4 = .ok (.iload_n 1, 1) := by decide +kernel
theorem dX7_namesAct_5 : decode cX7_namesAct 5 = .ok (.iaload, 1) := by decide +kernel
theorem dX7_namesAct_6 : decode cX7_namesAct 6 = .ok (.lookupswitch 78 #[(1, 34), (4, 41), (6, 56)], 34) := by decide +kernel
theorem dX7_namesAct_40 : decode cX7_namesAct 40 = .ok (.aload_n 0, 1) := by decide +kernel
theorem dX7_namesAct_41 : decode cX7_namesAct 41 = .ok (.iload_n 1, 1) := by decide +kernel
theorem dX7_namesAct_42 : decode cX7_namesAct 42 = .ok (.iload_n 2, 1) := by decide +kernel
theorem dX7_namesAct_43 : decode cX7_namesAct 43 = .ok (.invokevirtual 366, 3) := by decide +kernel
theorem dX7_namesAct_46 : decode cX7_namesAct 46 = .ok (.ireturn, 1) := by decide +kernel
theorem dX7_namesAct_47 : decode cX7_namesAct 47 = .ok (.aload_n 0, 1) := by decide +kernel
theorem dX7_namesAct_48 : decode cX7_namesAct 48 = .ok (.bipush 51, 2) := by decide +kernel
theorem dX7_namesAct_50 : decode cX7_namesAct 50 = .ok (.invokevirtual 354, 3) := by decide +kernel
theorem dX7_namesAct_53 : decode cX7_namesAct 53 = .ok (.aload_n 0, 1) := by decide +kernel
theorem dX7_namesAct_54 : decode cX7_namesAct 54 = .ok (.iload_n 1, 1) := by decide +kernel
theorem dX7_namesAct_55 : decode cX7_namesAct 55 = .ok (.iload_n 2, 1) := by decide +kernel
theorem dX7_namesAct_56 : decode cX7_namesAct 56 = .ok (.iconst 1, 1) := by decide +kernel
theorem dX7_namesAct_57 : decode cX7_namesAct 57 = .ok (.iadd, 1) := by decide +kernel
theorem dX7_namesAct_58 : decode cX7_namesAct 58 = .ok (.invokevirtual 366, 3) := by decide +kernel
theorem dX7_namesAct_61 : decode cX7_namesAct 61 = .ok (.ireturn, 1) := by decide +kernel
theorem dX7_namesAct_62 : decode cX7_namesAct 62 = .ok (.aload_n 0, 1) := by decide +kernel
theorem dX7_namesAct_63 : decode cX7_namesAct 63 = .ok (.bipush 70, 2) := by decide +kernel
theorem dX7_namesAct_65 : decode cX7_namesAct 65 = .ok (.invokevirtual 354, 3) := by decide +kernel
theorem dX7_namesAct_68 : decode cX7_namesAct 68 = .ok (.aload_n 0, 1) := by decide +kernel
theorem dX7_namesAct_69 : decode cX7_namesAct 69 = .ok (.iload_n 1, 1) := by decide +kernel
theorem dX7_namesAct_70 : decode cX7_namesAct 70 = .ok (.iload_n 2, 1) := by decide +kernel
theorem dX7_namesAct_71 : decode cX7_namesAct 71 = .ok (.invokevirtual 363, 3) := by decide +kernel
theorem dX7_namesAct_74 : decode cX7_namesAct 74 = .ok (.istore_n 3, 1) := by decide +kernel
theorem dX7_namesAct_75 : decode cX7_namesAct 75 = .ok (.iload_n 3, 1) := by decide +kernel
theorem dX7_namesAct_76 : decode cX7_namesAct 76 = .ok (.aload_n 0, 1) := by decide +kernel
theorem dX7_namesAct_77 : decode cX7_namesAct 77 = .ok (.iload_n 1, 1) := by decide +kernel
theorem dX7_namesAct_78 : decode cX7_namesAct 78 = .ok (.iconst 2, 1) := by decide +kernel
theorem dX7_namesAct_79 : decode cX7_namesAct 79 = .ok (.invokevirtual 357, 3) := by decide +kernel
theorem dX7_namesAct_82 : decode cX7_namesAct 82 = .ok (.iadd, 1) := by decide +kernel
theorem dX7_namesAct_83 : decode cX7_namesAct 83 = .ok (.ireturn, 1) := by decide +kernel
theorem dX7_namesAct_84 : decode cX7_namesAct 84 = .ok (.aload_n 0, 1) := by decide +kernel
theorem dX7_namesAct_85 : decode cX7_namesAct 85 = .ok (.iload_n 1, 1) := by decide +kernel
theorem dX7_namesAct_86 : decode cX7_namesAct 86 = .ok (.iload_n 2, 1) := by decide +kernel
theorem dX7_namesAct_87 : decode cX7_namesAct 87 = .ok (.invokevirtual 363, 3) := by decide +kernel
theorem dX7_namesAct_90 : decode cX7_namesAct 90 = .ok (.ireturn, 1) := by decide +kernel
theorem dX7_placeTells_0 : decode cX7_placeTells 0 = .ok (.aload_n 0, 1) := by decide +kernel
theorem dX7_placeTells_1 : decode cX7_placeTells 1 = .ok (.bipush 12, 2) := by decide +kernel
theorem dX7_placeTells_3 : decode cX7_placeTells 3 = .ok (.invokevirtual 354, 3) := by decide +kernel
theorem dX7_placeTells_6 : decode cX7_placeTells 6 = .ok (.aload_n 0, 1) := by decide +kernel
theorem dX7_placeTells_7 : decode cX7_placeTells 7 = .ok (.iload_n 1, 1) := by decide +kernel
theorem dX7_placeTells_8 : decode cX7_placeTells 8 = .ok (.iload_n 2, 1) := by decide +kernel
theorem dX7_placeTells_9 : decode cX7_placeTells 9 = .ok (.invokevirtual 369, 3) := by decide +kernel
theorem dX7_placeTells_12 : decode cX7_placeTells 12 = .ok (.iconst 2, 1) := by decide +kernel
theorem dX7_placeTells_13 : decode cX7_placeTells 13 = .ok (.imul, 1) := by decide +kernel
theorem dX7_placeTells_14 : decode cX7_placeTells 14 = .ok (.ireturn, 1) := by decide +kernel
theorem dX7_tellsAct_0 : decode cX7_tellsAct 0 = .ok (.aload_n 0, 1) := by decide +kernel
theorem dX7_tellsAct_1 : decode cX7_tellsAct 1 = .ok (.getfield 16, 3) := by decide +kernel
theorem dX7_tellsAct_4 : decode cX7_tellsAct 4 = .ok (.iload_n 1, 1) := by decide +kernel
theorem dX7_tellsAct_5 : decode cX7_tellsAct 5 = .ok (.iaload, 1) := by decide +kernel
theorem dX7_tellsAct_6 : decode cX7_tellsAct 6 = .ok (.tableswitch 67 3 6 #[30, 67, 52, 30], 30) := by decide +kernel
theorem dX7_tellsAct_36 : decode cX7_tellsAct 36 = .ok (.aload_n 0, 1) := by decide +kernel
theorem dX7_tellsAct_37 : decode cX7_tellsAct 37 = .ok (.bipush 40, 2) := by decide +kernel
theorem dX7_tellsAct_39 : decode cX7_tellsAct 39 = .ok (.invokevirtual 354, 3) := by decide +kernel
theorem dX7_tellsAct_42 : decode cX7_tellsAct 42 = .ok (.aload_n 0, 1) := by decide +kernel
theorem dX7_tellsAct_43 : decode cX7_tellsAct 43 = .ok (.iload_n 1, 1) := by decide +kernel
theorem dX7_tellsAct_44 : decode cX7_tellsAct 44 = .ok (.iload_n 2, 1) := by decide +kernel
theorem dX7_tellsAct_45 : decode cX7_tellsAct 45 = .ok (.invokevirtual 372, 3) := by decide +kernel
theorem dX7_tellsAct_48 : decode cX7_tellsAct 48 = .ok (.istore_n 3, 1) := by decide +kernel
theorem dX7_tellsAct_49 : decode cX7_tellsAct 49 = .ok (.iload_n 3, 1) := by decide +kernel
theorem dX7_tellsAct_50 : decode cX7_tellsAct 50 = .ok (.aload_n 0, 1) := by decide +kernel
theorem dX7_tellsAct_51 : decode cX7_tellsAct 51 = .ok (.iload_n 1, 1) := by decide +kernel
theorem dX7_tellsAct_52 : decode cX7_tellsAct 52 = .ok (.iconst 1, 1) := by decide +kernel
theorem dX7_tellsAct_53 : decode cX7_tellsAct 53 = .ok (.invokevirtual 369, 3) := by decide +kernel
theorem dX7_tellsAct_56 : decode cX7_tellsAct 56 = .ok (.iadd, 1) := by decide +kernel
theorem dX7_tellsAct_57 : decode cX7_tellsAct 57 = .ok (.ireturn, 1) := by decide +kernel
theorem dX7_tellsAct_58 : decode cX7_tellsAct 58 = .ok (.aload_n 0, 1) := by decide +kernel
theorem dX7_tellsAct_59 : decode cX7_tellsAct 59 = .ok (.bipush 60, 2) := by decide +kernel
theorem dX7_tellsAct_61 : decode cX7_tellsAct 61 = .ok (.invokevirtual 354, 3) := by decide +kernel
theorem dX7_tellsAct_64 : decode cX7_tellsAct 64 = .ok (.aload_n 0, 1) := by decide +kernel
theorem dX7_tellsAct_65 : decode cX7_tellsAct 65 = .ok (.iload_n 1, 1) := by decide +kernel
theorem dX7_tellsAct_66 : decode cX7_tellsAct 66 = .ok (.iload_n 2, 1) := by decide +kernel
theorem dX7_tellsAct_67 : decode cX7_tellsAct 67 = .ok (.iload_n 1, 1) := by decide +kernel
theorem dX7_tellsAct_68 : decode cX7_tellsAct 68 = .ok (.isub, 1) := by decide +kernel
theorem dX7_tellsAct_69 : decode cX7_tellsAct 69 = .ok (.invokevirtual 372, 3) := by decide +kernel
theorem dX7_tellsAct_72 : decode cX7_tellsAct 72 = .ok (.ireturn, 1) := by decide +kernel
theorem dX7_tellsAct_73 : decode cX7_tellsAct 73 = .ok (.aload_n 0, 1) := by decide +kernel
theorem dX7_tellsAct_74 : decode cX7_tellsAct 74 = .ok (.iload_n 1, 1) := by decide +kernel
theorem dX7_tellsAct_75 : decode cX7_tellsAct 75 = .ok (.iload_n 2, 1) := by decide +kernel
theorem dX7_tellsAct_76 : decode cX7_tellsAct 76 = .ok (.invokevirtual 372, 3) := by decide +kernel
theorem dX7_tellsAct_79 : decode cX7_tellsAct 79 = .ok (.ireturn, 1) := by decide +kernel
theorem dX7_act_0 : decode cX7_act 0 = .ok (.aload_n 0, 1) := by decide +kernel
theorem dX7_act_1 : decode cX7_act 1 = .ok (.iconst 0, 1) := by decide +kernel
theorem dX7_act_2 : decode cX7_act 2 = .ok (.putfield 179, 3) := by decide +kernel
theorem dX7_act_5 : decode cX7_act 5 = .ok (.aload_n 0, 1) := by decide +kernel
theorem dX7_act_6 : decode cX7_act 6 = .ok (.iload_n 1, 1) := by decide +kernel
theorem dX7_act_7 : decode cX7_act 7 = .ok (.invokevirtual 201, 3) := by decide +kernel
theorem dX7_act_10 : decode cX7_act 10 = .ok (.ifCond .eq 13, 3) := by decide +kernel
theorem dX7_act_13 : decode cX7_act 13 = .ok (.aload_n 0, 1) := by decide +kernel
theorem dX7_act_14 : decode cX7_act 14 = .ok (.iload_n 2, 1) := by decide +kernel
theorem dX7_act_15 : decode cX7_act 15 = .ok (.iconst 0, 1) := by decide +kernel
theorem dX7_act_16 : decode cX7_act 16 = .ok (.iconst 2, 1) := by decide +kernel
theorem dX7_act_17 : decode cX7_act 17 = .ok (.invokevirtual 197, 3) := by decide +kernel
theorem dX7_act_20 : decode cX7_act 20 = .ok (.ifCond .ne 5, 3) := by decide +kernel
theorem dX7_act_23 : decode cX7_act 23 = .ok (.iconst 0, 1) := by decide +kernel
theorem dX7_act_24 : decode cX7_act 24 = .ok (.ireturn, 1) := by decide +kernel
theorem dX7_act_25 : decode cX7_act 25 = .ok (.iload_n 2, 1) := by decide +kernel
theorem dX7_act_26 : decode cX7_act 26 = .ok (.ifCond .ne 12, 3) := by decide +kernel
theorem dX7_act_29 : decode cX7_act 29 = .ok (.aload_n 0, 1) := by decide +kernel
theorem dX7_act_30 : decode cX7_act 30 = .ok (.iload_n 1, 1) := by decide +kernel
theorem dX7_act_31 : decode cX7_act 31 = .ok (.iload_n 3, 1) := by decide +kernel
theorem dX7_act_32 : decode cX7_act 32 = .ok (.invokevirtual 360, 3) := by decide +kernel
theorem dX7_act_35 : decode cX7_act 35 = .ok (.goto 23, 3) := by decide +kernel
theorem dX7_act_38 : decode cX7_act 38 = .ok (.iload_n 2, 1) := by decide +kernel
theorem dX7_act_39 : decode cX7_act 39 = .ok (.iconst 1, 1) := by decide +kernel
theorem dX7_act_40 : decode cX7_act 40 = .ok (.if_icmp .ne 12, 3) := by decide +kernel
theorem dX7_act_43 : decode cX7_act 43 = .ok (.aload_n 0, 1) := by decide +kernel
theorem dX7_act_44 : decode cX7_act 44 = .ok (.iload_n 1, 1) := by decide +kernel
theorem dX7_act_45 : decode cX7_act 45 = .ok (.iload_n 3, 1) := by decide +kernel
theorem dX7_act_46 : decode cX7_act 46 = .ok (.invokevirtual 369, 3) := by decide +kernel
theorem dX7_act_49 : decode cX7_act 49 = .ok (.goto 9, 3) := by decide +kernel
theorem dX7_act_52 : decode cX7_act 52 = .ok (.aload_n 0, 1) := by decide +kernel
theorem dX7_act_53 : decode cX7_act 53 = .ok (.iload_n 1, 1) := by decide +kernel
theorem dX7_act_54 : decode cX7_act 54 = .ok (.iload_n 3, 1) := by decide +kernel
theorem dX7_act_55 : decode cX7_act 55 = .ok (.invokevirtual 375, 3) := by decide +kernel
theorem dX7_act_58 : decode cX7_act 58 = .ok (.ireturn, 1) := by decide +kernel
theorem dX7_trace_0 : decode cX7_trace 0 = .ok (.aload_n 0, 1) := by decide +kernel
theorem dX7_trace_1 : decode cX7_trace 1 = .ok (.iload_n 1, 1) := by decide +kernel
theorem dX7_trace_2 : decode cX7_trace 2 = .ok (.iconst 0, 1) := by decide +kernel
theorem dX7_trace_3 : decode cX7_trace 3 = .ok (.bipush 19, 2) := by decide +kernel
theorem dX7_trace_5 : decode cX7_trace 5 = .ok (.invokevirtual 197, 3) := by decide +kernel
theorem dX7_trace_8 : decode cX7_trace 8 = .ok (.ifCond .eq 20, 3) := by decide +kernel
theorem dX7_trace_11 : decode cX7_trace 11 = .ok (.iload_n 1, 1) := by decide +kernel
theorem dX7_trace_12 : decode cX7_trace 12 = .ok (.aload_n 0, 1) := by decide +kernel
theorem dX7_trace_13 : decode cX7_trace 13 = .ok (.getfield 179, 3) := by decide +kernel
theorem dX7_trace_16 : decode cX7_trace 16 = .ok (.if_icmp .ge 12, 3) := by decide +kernel
theorem dX7_trace_19 : decode cX7_trace 19 = .ok (.aload_n 0, 1) := by decide +kernel
theorem dX7_trace_20 : decode cX7_trace 20 = .ok (.getfield 182, 3) := by decide +kernel
theorem dX7_trace_23 : decode cX7_trace 23 = .ok (.iload_n 1, 1) := by decide +kernel
theorem dX7_trace_24 : decode cX7_trace 24 = .ok (.iaload, 1) := by decide +kernel
theorem dX7_trace_25 : decode cX7_trace 25 = .ok (.goto 4, 3) := by decide +kernel
theorem dX7_trace_28 : decode cX7_trace 28 = .ok (.iconst (-1), 1) := by decide +kernel
theorem dX7_trace_29 : decode cX7_trace 29 = .ok (.ireturn, 1) := by decide +kernel
theorem dX7_taken_0 : decode cX7_taken 0 = .ok (.aload_n 0, 1) := by decide +kernel
theorem dX7_taken_1 : decode cX7_taken 1 = .ok (.iload_n 2, 1) := by decide +kernel
theorem dX7_taken_2 : decode cX7_taken 2 = .ok (.iconst 0, 1) := by decide +kernel
theorem dX7_taken_3 : decode cX7_taken 3 = .ok (.bipush 6, 2) := by decide +kernel
theorem dX7_taken_5 : decode cX7_taken 5 = .ok (.invokevirtual 197, 3) := by decide +kernel
theorem dX7_taken_8 : decode cX7_taken 8 = .ok (.ifCond .ne 6, 3) := by decide +kernel
theorem dX7_taken_11 : decode cX7_taken 11 = .ok (.bipush (-2), 2) := by decide +kernel
theorem dX7_taken_13 : decode cX7_taken 13 = .ok (.ireturn, 1) := by decide +kernel
theorem dX7_taken_14 : decode cX7_taken 14 = .ok (.aload_n 0, 1) := by decide +kernel
theorem dX7_taken_15 : decode cX7_taken 15 = .ok (.iload_n 1, 1) := by decide +kernel
theorem dX7_taken_16 : decode cX7_taken 16 = .ok (.invokevirtual 201, 3) := by decide +kernel
theorem dX7_taken_19 : decode cX7_taken 19 = .ok (.ifCond .ne 6, 3) := by decide +kernel
theorem dX7_taken_22 : decode cX7_taken 22 = .ok (.bipush (-11), 2) := by decide +kernel
theorem dX7_taken_24 : decode cX7_taken 24 = .ok (.ireturn, 1) := by decide +kernel
theorem dX7_taken_25 : decode cX7_taken 25 = .ok (.aload_n 0, 1) := by decide +kernel
theorem dX7_taken_26 : decode cX7_taken 26 = .ok (.getfield 16, 3) := by decide +kernel
theorem dX7_taken_29 : decode cX7_taken 29 = .ok (.iload_n 1, 1) := by decide +kernel
theorem dX7_taken_30 : decode cX7_taken 30 = .ok (.iaload, 1) := by decide +kernel
theorem dX7_taken_31 : decode cX7_taken 31 = .ok (.istore_n 3, 1) := by decide +kernel
theorem dX7_taken_32 : decode cX7_taken 32 = .ok (.iload_n 2, 1) := by decide +kernel
theorem dX7_taken_33 : decode cX7_taken 33 = .ok (.ifCond .eq 39, 3) := by decide +kernel
theorem dX7_taken_36 : decode cX7_taken 36 = .ok (.iload_n 3, 1) := by decide +kernel
theorem dX7_taken_37 : decode cX7_taken 37 = .ok (.iload_n 2, 1) := by decide +kernel
theorem dX7_taken_38 : decode cX7_taken 38 = .ok (.if_icmp .eq 34, 3) := by decide +kernel
theorem dX7_taken_41 : decode cX7_taken 41 = .ok (.iload_n 2, 1) := by decide +kernel
theorem dX7_taken_42 : decode cX7_taken 42 = .ok (.iconst 1, 1) := by decide +kernel
theorem dX7_taken_43 : decode cX7_taken 43 = .ok (.if_icmp .ne 8, 3) := by decide +kernel
theorem dX7_taken_46 : decode cX7_taken 46 = .ok (.iload_n 3, 1) := by decide +kernel
theorem dX7_taken_47 : decode cX7_taken 47 = .ok (.iconst 4, 1) := by decide +kernel
theorem dX7_taken_48 : decode cX7_taken 48 = .ok (.if_icmp .eq 24, 3) := by decide +kernel
theorem dX7_taken_51 : decode cX7_taken 51 = .ok (.iload_n 2, 1) := by decide +kernel
theorem dX7_taken_52 : decode cX7_taken 52 = .ok (.iconst 2, 1) := by decide +kernel
theorem dX7_taken_53 : decode cX7_taken 53 = .ok (.if_icmp .ne 8, 3) := by decide +kernel
theorem dX7_taken_56 : decode cX7_taken 56 = .ok (.iload_n 3, 1) := by decide +kernel
theorem dX7_taken_57 : decode cX7_taken 57 = .ok (.iconst 5, 1) := by decide +kernel
theorem dX7_taken_58 : decode cX7_taken 58 = .ok (.if_icmp .eq 14, 3) := by decide +kernel
theorem dX7_taken_61 : decode cX7_taken 61 = .ok (.iload_n 2, 1) := by decide +kernel
theorem dX7_taken_62 : decode cX7_taken 62 = .ok (.iconst 3, 1) := by decide +kernel
theorem dX7_taken_63 : decode cX7_taken 63 = .ok (.if_icmp .ne 13, 3) := by decide +kernel
theorem dX7_taken_66 : decode cX7_taken 66 = .ok (.iload_n 3, 1) := by decide +kernel
theorem dX7_taken_67 : decode cX7_taken 67 = .ok (.bipush 6, 2) := by decide +kernel
theorem dX7_taken_69 : decode cX7_taken 69 = .ok (.if_icmp .ne 7, 3) := by decide +kernel
theorem dX7_taken_72 : decode cX7_taken 72 = .ok (.iload_n 3, 1) := by decide +kernel
theorem dX7_taken_73 : decode cX7_taken 73 = .ok (.goto 5, 3) := by decide +kernel
theorem dX7_taken_76 : decode cX7_taken 76 = .ok (.bipush (-12), 2) := by decide +kernel
theorem dX7_taken_78 : decode cX7_taken 78 = .ok (.ireturn, 1) := by decide +kernel
theorem dX7_count_0 : decode cX7_count 0 = .ok (.iload_n 1, 1) := by decide +kernel
theorem dX7_count_1 : decode cX7_count 1 = .ok (.tableswitch 69 0 5 #[39, 44, 49, 54, 59, 64], 39) := by decide +kernel
theorem dX7_count_40 : decode cX7_count 40 = .ok (.aload_n 0, 1) := by decide +kernel
theorem dX7_count_41 : decode cX7_count 41 = .ok (.getfield 7, 3) := by decide +kernel
theorem dX7_count_44 : decode cX7_count 44 = .ok (.ireturn, 1) := by decide +kernel
theorem dX7_count_45 : decode cX7_count 45 = .ok (.aload_n 0, 1) := by decide +kernel
theorem dX7_count_46 : decode cX7_count 46 = .ok (.getfield 41, 3) := by decide +kernel
theorem dX7_count_49 : decode cX7_count 49 = .ok (.ireturn, 1) := by decide +kernel
theorem dX7_count_50 : decode cX7_count 50 = .ok (.aload_n 0, 1) := by decide +kernel
theorem dX7_count_51 : decode cX7_count 51 = .ok (.getfield 13, 3) := by decide +kernel
theorem dX7_count_54 : decode cX7_count 54 = .ok (.ireturn, 1) := by decide +kernel
theorem dX7_count_55 : decode cX7_count 55 = .ok (.aload_n 0, 1) := by decide +kernel
theorem dX7_count_56 : decode cX7_count 56 = .ok (.getfield 130, 3) := by decide +kernel
theorem dX7_count_59 : decode cX7_count 59 = .ok (.ireturn, 1) := by decide +kernel
theorem dX7_count_60 : decode cX7_count 60 = .ok (.aload_n 0, 1) := by decide +kernel
theorem dX7_count_61 : decode cX7_count 61 = .ok (.getfield 47, 3) := by decide +kernel
theorem dX7_count_64 : decode cX7_count 64 = .ok (.ireturn, 1) := by decide +kernel
theorem dX7_count_65 : decode cX7_count 65 = .ok (.aload_n 0, 1) := by decide +kernel
theorem dX7_count_66 : decode cX7_count 66 = .ok (.getfield 179, 3) := by decide +kernel
theorem dX7_count_69 : decode cX7_count 69 = .ok (.ireturn, 1) := by decide +kernel
theorem dX7_count_70 : decode cX7_count 70 = .ok (.bipush (-2), 2) := by decide +kernel
theorem dX7_count_72 : decode cX7_count 72 = .ok (.ireturn, 1) := by decide +kernel
theorem dX7_isTape_0 : decode cX7_isTape 0 = .ok (.aload_n 0, 1) := by decide +kernel
theorem dX7_isTape_1 : decode cX7_isTape 1 = .ok (.iload_n 1, 1) := by decide +kernel
theorem dX7_isTape_2 : decode cX7_isTape 2 = .ok (.iconst 0, 1) := by decide +kernel
theorem dX7_isTape_3 : decode cX7_isTape 3 = .ok (.iconst 5, 1) := by decide +kernel
theorem dX7_isTape_4 : decode cX7_isTape 4 = .ok (.invokevirtual 197, 3) := by decide +kernel
theorem dX7_isTape_7 : decode cX7_isTape 7 = .ok (.ireturn, 1) := by decide +kernel
theorem dX7_tape_0 : decode cX7_tape 0 = .ok (.aload_n 0, 1) := by decide +kernel
theorem dX7_tape_1 : decode cX7_tape 1 = .ok (.iload_n 1, 1) := by decide +kernel
theorem dX7_tape_2 : decode cX7_tape 2 = .ok (.invokevirtual 351, 3) := by decide +kernel
theorem dX7_tape_5 : decode cX7_tape 5 = .ok (.ifCond .ne 5, 3) := by decide +kernel
theorem dX7_tape_8 : decode cX7_tape 8 = .ok (.iconst (-1), 1) := by decide +kernel
theorem dX7_tape_9 : decode cX7_tape 9 = .ok (.ireturn, 1) := by decide +kernel
theorem dX7_tape_10 : decode cX7_tape 10 = .ok (.aload_n 0, 1) := by decide +kernel
theorem dX7_tape_11 : decode cX7_tape 11 = .ok (.iload_n 2, 1) := by decide +kernel
theorem dX7_tape_12 : decode cX7_tape 12 = .ok (.iconst (-1), 1) := by decide +kernel
theorem dX7_tape_13 : decode cX7_tape 13 = .ok (.iconst 4, 1) := by decide +kernel
theorem dX7_tape_14 : decode cX7_tape 14 = .ok (.invokevirtual 197, 3) := by decide +kernel
theorem dX7_tape_17 : decode cX7_tape 17 = .ok (.ifCond .eq 13, 3) := by decide +kernel
theorem dX7_tape_20 : decode cX7_tape 20 = .ok (.iload_n 2, 1) := by decide +kernel
theorem dX7_tape_21 : decode cX7_tape 21 = .ok (.ifCond .lt 12, 3) := by decide +kernel
theorem dX7_tape_24 : decode cX7_tape 24 = .ok (.iload_n 3, 1) := by decide +kernel
theorem dX7_tape_25 : decode cX7_tape 25 = .ok (.bipush 60, 2) := by decide +kernel
theorem dX7_tape_27 : decode cX7_tape 27 = .ok (.if_icmp .le 6, 3) := by decide +kernel
theorem dX7_tape_30 : decode cX7_tape 30 = .ok (.bipush (-2), 2) := by decide +kernel
theorem dX7_tape_32 : decode cX7_tape 32 = .ok (.ireturn, 1) := by decide +kernel
theorem dX7_tape_33 : decode cX7_tape 33 = .ok (.iload_n 2, 1) := by decide +kernel
theorem dX7_tape_34 : decode cX7_tape 34 = .ok (.ifCond .lt 10, 3) := by decide +kernel
theorem dX7_tape_37 : decode cX7_tape 37 = .ok (.iload_n 3, 1) := by decide +kernel
theorem dX7_tape_38 : decode cX7_tape 38 = .ok (.ifCond .ge 6, 3) := by decide +kernel
theorem dX7_tape_41 : decode cX7_tape 41 = .ok (.bipush (-14), 2) := by decide +kernel
theorem dX7_tape_43 : decode cX7_tape 43 = .ok (.ireturn, 1) := by decide +kernel
theorem dX7_tape_44 : decode cX7_tape 44 = .ok (.aload_n 0, 1) := by decide +kernel
theorem dX7_tape_45 : decode cX7_tape 45 = .ok (.getfield 185, 3) := by decide +kernel
theorem dX7_tape_48 : decode cX7_tape 48 = .ok (.iload_n 1, 1) := by decide +kernel
theorem dX7_tape_49 : decode cX7_tape 49 = .ok (.iload_n 2, 1) := by decide +kernel
theorem dX7_tape_50 : decode cX7_tape 50 = .ok (.iastore, 1) := by decide +kernel
theorem dX7_tape_51 : decode cX7_tape 51 = .ok (.aload_n 0, 1) := by decide +kernel
theorem dX7_tape_52 : decode cX7_tape 52 = .ok (.getfield 188, 3) := by decide +kernel
theorem dX7_tape_55 : decode cX7_tape 55 = .ok (.iload_n 1, 1) := by decide +kernel
theorem dX7_tape_56 : decode cX7_tape 56 = .ok (.iload_n 2, 1) := by decide +kernel
theorem dX7_tape_57 : decode cX7_tape 57 = .ok (.ifCond .ge 7, 3) := by decide +kernel
theorem dX7_tape_60 : decode cX7_tape 60 = .ok (.iconst 0, 1) := by decide +kernel
theorem dX7_tape_61 : decode cX7_tape 61 = .ok (.goto 4, 3) := by decide +kernel
theorem dX7_tape_64 : decode cX7_tape 64 = .ok (.iload_n 3, 1) := by decide +kernel
theorem dX7_tape_65 : decode cX7_tape 65 = .ok (.iastore, 1) := by decide +kernel
theorem dX7_tape_66 : decode cX7_tape 66 = .ok (.iconst 0, 1) := by decide +kernel
theorem dX7_tape_67 : decode cX7_tape 67 = .ok (.istore 4, 2) := by decide +kernel
theorem dX7_tape_69 : decode cX7_tape 69 = .ok (.iload 4, 2) := by decide +kernel
theorem dX7_tape_71 : decode cX7_tape 71 = .ok (.bipush 60, 2) := by decide +kernel
theorem dX7_tape_73 : decode cX7_tape 73 = .ok (.if_icmp .ge 22, 3) := by decide +kernel
theorem dX7_tape_76 : decode cX7_tape 76 = .ok (.aload_n 0, 1) := by decide +kernel
theorem dX7_tape_77 : decode cX7_tape 77 = .ok (.getfield 191, 3) := by decide +kernel
theorem dX7_tape_80 : decode cX7_tape 80 = .ok (.bipush 60, 2) := by decide +kernel
theorem dX7_tape_82 : decode cX7_tape 82 = .ok (.iload_n 1, 1) := by decide +kernel
theorem dX7_tape_83 : decode cX7_tape 83 = .ok (.imul, 1) := by decide +kernel
theorem dX7_tape_84 : decode cX7_tape 84 = .ok (.iload 4, 2) := by decide +kernel
theorem dX7_tape_86 : decode cX7_tape 86 = .ok (.iadd, 1) := by decide +kernel
theorem dX7_tape_87 : decode cX7_tape 87 = .ok (.lconst 0, 1) := by decide +kernel
theorem dX7_tape_88 : decode cX7_tape 88 = .ok (.lastore, 1) := by decide +kernel
theorem dX7_tape_89 : decode cX7_tape 89 = .ok (.iinc 4 1, 3) := by decide +kernel
theorem dX7_tape_92 : decode cX7_tape 92 = .ok (.goto (-23), 3) := by decide +kernel
theorem dX7_tape_95 : decode cX7_tape 95 = .ok (.iconst 1, 1) := by decide +kernel
theorem dX7_tape_96 : decode cX7_tape 96 = .ok (.ireturn, 1) := by decide +kernel
theorem dX7_narrow_0 : decode cX7_narrow 0 = .ok (.iload_n 1, 1) := by decide +kernel
theorem dX7_narrow_1 : decode cX7_narrow 1 = .ok (.ifCond .ne 10, 3) := by decide +kernel
theorem dX7_narrow_4 : decode cX7_narrow 4 = .ok (.lload_n 2, 1) := by decide +kernel
theorem dX7_narrow_5 : decode cX7_narrow 5 = .ok (.l2i, 1) := by decide +kernel
theorem dX7_narrow_6 : decode cX7_narrow 6 = .ok (.i2b, 1) := by decide +kernel
theorem dX7_narrow_7 : decode cX7_narrow 7 = .ok (.i2l, 1) := by decide +kernel
theorem dX7_narrow_8 : decode cX7_narrow 8 = .ok (.goto 46, 3) := by decide +kernel
theorem dX7_narrow_11 : decode cX7_narrow 11 = .ok (.iload_n 1, 1) := by decide +kernel
theorem dX7_narrow_12 : decode cX7_narrow 12 = .ok (.iconst 1, 1) := by decide +kernel
theorem dX7_narrow_13 : decode cX7_narrow 13 = .ok (.if_icmp .ne 10, 3) := by decide +kernel
theorem dX7_narrow_16 : decode cX7_narrow 16 = .ok (.lload_n 2, 1) := by decide +kernel
theorem dX7_narrow_17 : decode cX7_narrow 17 = .ok (.l2i, 1) := by decide +kernel
theorem dX7_narrow_18 : decode cX7_narrow 18 = .ok (.i2s, 1) := by decide +kernel
theorem dX7_narrow_19 : decode cX7_narrow 19 = .ok (.i2l, 1) := by decide +kernel
theorem dX7_narrow_20 : decode cX7_narrow 20 = .ok (.goto 34, 3) := by decide +kernel
theorem dX7_narrow_23 : decode cX7_narrow 23 = .ok (.iload_n 1, 1) := by decide +kernel
theorem dX7_narrow_24 : decode cX7_narrow 24 = .ok (.iconst 2, 1) := by decide +kernel
theorem dX7_narrow_25 : decode cX7_narrow 25 = .ok (.if_icmp .ne 9, 3) := by decide +kernel
theorem dX7_narrow_28 : decode cX7_narrow 28 = .ok (.lload_n 2, 1) := by decide +kernel
theorem dX7_narrow_29 : decode cX7_narrow 29 = .ok (.l2i, 1) := by decide +kernel
theorem dX7_narrow_30 : decode cX7_narrow 30 = .ok (.i2l, 1) := by decide +kernel
theorem dX7_narrow_31 : decode cX7_narrow 31 = .ok (.goto 23, 3) := by decide +kernel
theorem dX7_narrow_34 : decode cX7_narrow 34 = .ok (.iload_n 1, 1) := by decide +kernel
theorem dX7_narrow_35 : decode cX7_narrow 35 = .ok (.iconst 4, 1) := by decide +kernel
theorem dX7_narrow_36 : decode cX7_narrow 36 = .ok (.if_icmp .ne 17, 3) := by decide +kernel
theorem dX7_narrow_39 : decode cX7_narrow 39 = .ok (.lload_n 2, 1) := by decide +kernel
theorem dX7_narrow_40 : decode cX7_narrow 40 = .ok (.lconst 0, 1) := by decide +kernel
theorem dX7_narrow_41 : decode cX7_narrow 41 = .ok (.lcmp, 1) := by decide +kernel
theorem dX7_narrow_42 : decode cX7_narrow 42 = .ok (.ifCond .eq 7, 3) := by decide +kernel
theorem dX7_narrow_45 : decode cX7_narrow 45 = .ok (.lconst 1, 1) := by decide +kernel
theorem dX7_narrow_46 : decode cX7_narrow 46 = .ok (.goto 8, 3) := by decide +kernel
theorem dX7_narrow_49 : decode cX7_narrow 49 = .ok (.lconst 0, 1) := by decide +kernel
theorem dX7_narrow_50 : decode cX7_narrow 50 = .ok (.goto 4, 3) := by decide +kernel
theorem dX7_narrow_53 : decode cX7_narrow 53 = .ok (.lload_n 2, 1) := by decide +kernel
theorem dX7_narrow_54 : decode cX7_narrow 54 = .ok (.lreturn, 1) := by decide +kernel
theorem dX7_item_0 : decode cX7_item 0 = .ok (.aload_n 0, 1) := by decide +kernel
theorem dX7_item_1 : decode cX7_item 1 = .ok (.iload_n 1, 1) := by decide +kernel
theorem dX7_item_2 : decode cX7_item 2 = .ok (.invokevirtual 351, 3) := by decide +kernel
theorem dX7_item_5 : decode cX7_item 5 = .ok (.ifCond .ne 5, 3) := by decide +kernel
theorem dX7_item_8 : decode cX7_item 8 = .ok (.iconst (-1), 1) := by decide +kernel
theorem dX7_item_9 : decode cX7_item 9 = .ok (.ireturn, 1) := by decide +kernel
theorem dX7_item_10 : decode cX7_item 10 = .ok (.aload_n 0, 1) := by decide +kernel
theorem dX7_item_11 : decode cX7_item 11 = .ok (.getfield 185, 3) := by decide +kernel
theorem dX7_item_14 : decode cX7_item 14 = .ok (.iload_n 1, 1) := by decide +kernel
theorem dX7_item_15 : decode cX7_item 15 = .ok (.iaload, 1) := by decide +kernel
theorem dX7_item_16 : decode cX7_item 16 = .ok (.ifCond .ge 6, 3) := by decide +kernel
theorem dX7_item_19 : decode cX7_item 19 = .ok (.bipush (-11), 2) := by decide +kernel
theorem dX7_item_21 : decode cX7_item 21 = .ok (.ireturn, 1) := by decide +kernel
theorem dX7_item_22 : decode cX7_item 22 = .ok (.aload_n 0, 1) := by decide +kernel
theorem dX7_item_23 : decode cX7_item 23 = .ok (.iload_n 2, 1) := by decide +kernel
theorem dX7_item_24 : decode cX7_item 24 = .ok (.iconst 0, 1) := by decide +kernel
theorem dX7_item_25 : decode cX7_item 25 = .ok (.aload_n 0, 1) := by decide +kernel
theorem dX7_item_26 : decode cX7_item 26 = .ok (.getfield 188, 3) := by decide +kernel
theorem dX7_item_29 : decode cX7_item 29 = .ok (.iload_n 1, 1) := by decide +kernel
theorem dX7_item_30 : decode cX7_item 30 = .ok (.iaload, 1) := by decide +kernel
theorem dX7_item_31 : decode cX7_item 31 = .ok (.iconst 1, 1) := by decide +kernel
theorem dX7_item_32 : decode cX7_item 32 = .ok (.isub, 1) := by decide +kernel
theorem dX7_item_33 : decode cX7_item 33 = .ok (.invokevirtual 197, 3) := by decide +kernel
theorem dX7_item_36 : decode cX7_item 36 = .ok (.ifCond .ne 6, 3) := by decide +kernel
theorem dX7_item_39 : decode cX7_item 39 = .ok (.bipush (-13), 2) := by decide +kernel
theorem dX7_item_41 : decode cX7_item 41 = .ok (.ireturn, 1) := by decide +kernel
theorem dX7_item_42 : decode cX7_item 42 = .ok (.aload_n 0, 1) := by decide +kernel
theorem dX7_item_43 : decode cX7_item 43 = .ok (.getfield 191, 3) := by decide +kernel
theorem dX7_item_46 : decode cX7_item 46 = .ok (.bipush 60, 2) := by decide +kernel
theorem dX7_item_48 : decode cX7_item 48 = .ok (.iload_n 1, 1) := by decide +kernel
theorem dX7_item_49 : decode cX7_item 49 = .ok (.imul, 1) := by decide +kernel
theorem dX7_item_50 : decode cX7_item 50 = .ok (.iload_n 2, 1) := by decide +kernel
theorem dX7_item_51 : decode cX7_item 51 = .ok (.iadd, 1) := by decide +kernel
theorem dX7_item_52 : decode cX7_item 52 = .ok (.aload_n 0, 1) := by decide +kernel
theorem dX7_item_53 : decode cX7_item 53 = .ok (.aload_n 0, 1) := by decide +kernel
theorem dX7_item_54 : decode cX7_item 54 = .ok (.getfield 185, 3) := by decide +kernel
theorem dX7_item_57 : decode cX7_item 57 = .ok (.iload_n 1, 1) := by decide +kernel
theorem dX7_item_58 : decode cX7_item 58 = .ok (.iaload, 1) := by decide +kernel
theorem dX7_item_59 : decode cX7_item 59 = .ok (.lload_n 3, 1) := by decide +kernel
theorem dX7_item_60 : decode cX7_item 60 = .ok (.invokevirtual 378, 3) := by decide +kernel
theorem dX7_item_63 : decode cX7_item 63 = .ok (.lastore, 1) := by decide +kernel
theorem dX7_item_64 : decode cX7_item 64 = .ok (.iconst 1, 1) := by decide +kernel
theorem dX7_item_65 : decode cX7_item 65 = .ok (.ireturn, 1) := by decide +kernel
theorem dX7_read_0 : decode cX7_read 0 = .ok (.aload_n 0, 1) := by decide +kernel
theorem dX7_read_1 : decode cX7_read 1 = .ok (.iload_n 1, 1) := by decide +kernel
theorem dX7_read_2 : decode cX7_read 2 = .ok (.invokevirtual 351, 3) := by decide +kernel
theorem dX7_read_5 : decode cX7_read 5 = .ok (.ifCond .eq 29, 3) := by decide +kernel
theorem dX7_read_8 : decode cX7_read 8 = .ok (.aload_n 0, 1) := by decide +kernel
theorem dX7_read_9 : decode cX7_read 9 = .ok (.getfield 185, 3) := by decide +kernel
theorem dX7_read_12 : decode cX7_read 12 = .ok (.iload_n 1, 1) := by decide +kernel
theorem dX7_read_13 : decode cX7_read 13 = .ok (.iaload, 1) := by decide +kernel
theorem dX7_read_14 : decode cX7_read 14 = .ok (.ifCond .lt 20, 3) := by decide +kernel
theorem dX7_read_17 : decode cX7_read 17 = .ok (.aload_n 0, 1) := by decide +kernel
theorem dX7_read_18 : decode cX7_read 18 = .ok (.iload_n 2, 1) := by decide +kernel
theorem dX7_read_19 : decode cX7_read 19 = .ok (.iconst 0, 1) := by decide +kernel
theorem dX7_read_20 : decode cX7_read 20 = .ok (.aload_n 0, 1) := by decide +kernel
theorem dX7_read_21 : decode cX7_read 21 = .ok (.getfield 188, 3) := by decide +kernel
theorem dX7_read_24 : decode cX7_read 24 = .ok (.iload_n 1, 1) := by decide +kernel
theorem dX7_read_25 : decode cX7_read 25 = .ok (.iaload, 1) := by decide +kernel
theorem dX7_read_26 : decode cX7_read 26 = .ok (.iconst 1, 1) := by decide +kernel
theorem dX7_read_27 : decode cX7_read 27 = .ok (.isub, 1) := by decide +kernel
theorem dX7_read_28 : decode cX7_read 28 = .ok (.invokevirtual 197, 3) := by decide +kernel
theorem dX7_read_31 : decode cX7_read 31 = .ok (.ifCond .ne 9, 3) := by decide +kernel
theorem dX7_read_34 : decode cX7_read 34 = .ok (.ldc2_w 342, 3) := by decide +kernel
theorem dX7_read_37 : decode cX7_read 37 = .ok (.goto 14, 3) := by decide +kernel
theorem dX7_read_40 : decode cX7_read 40 = .ok (.aload_n 0, 1) := by decide +kernel
theorem dX7_read_41 : decode cX7_read 41 = .ok (.getfield 191, 3) := by decide +kernel
theorem dX7_read_44 : decode cX7_read 44 = .ok (.bipush 60, 2) := by decide +kernel
theorem dX7_read_46 : decode cX7_read 46 = .ok (.iload_n 1, 1) := by decide +kernel
theorem dX7_read_47 : decode cX7_read 47 = .ok (.imul, 1) := by decide +kernel
theorem dX7_read_48 : decode cX7_read 48 = .ok (.iload_n 2, 1) := by decide +kernel
theorem dX7_read_49 : decode cX7_read 49 = .ok (.iadd, 1) := by decide +kernel
theorem dX7_read_50 : decode cX7_read 50 = .ok (.laload, 1) := by decide +kernel
theorem dX7_read_51 : decode cX7_read 51 = .ok (.lreturn, 1) := by decide +kernel
theorem dX7_shift_0 : decode cX7_shift 0 = .ok (.aload_n 0, 1) := by decide +kernel
theorem dX7_shift_1 : decode cX7_shift 1 = .ok (.iload_n 1, 1) := by decide +kernel
theorem dX7_shift_2 : decode cX7_shift 2 = .ok (.invokevirtual 351, 3) := by decide +kernel
theorem dX7_shift_5 : decode cX7_shift 5 = .ok (.ifCond .eq 11, 3) := by decide +kernel
theorem dX7_shift_8 : decode cX7_shift 8 = .ok (.aload_n 0, 1) := by decide +kernel
theorem dX7_shift_9 : decode cX7_shift 9 = .ok (.iload_n 3, 1) := by decide +kernel
theorem dX7_shift_10 : decode cX7_shift 10 = .ok (.invokevirtual 351, 3) := by decide +kernel
theorem dX7_shift_13 : decode cX7_shift 13 = .ok (.ifCond .ne 5, 3) := by decide +kernel
theorem dX7_shift_16 : decode cX7_shift 16 = .ok (.iconst (-1), 1) := by decide +kernel
theorem dX7_shift_17 : decode cX7_shift 17 = .ok (.ireturn, 1) := by decide +kernel
theorem dX7_shift_18 : decode cX7_shift 18 = .ok (.aload_n 0, 1) := by decide +kernel
theorem dX7_shift_19 : decode cX7_shift 19 = .ok (.getfield 185, 3) := by decide +kernel
theorem dX7_shift_22 : decode cX7_shift 22 = .ok (.iload_n 1, 1) := by decide +kernel
theorem dX7_shift_23 : decode cX7_shift 23 = .ok (.iaload, 1) := by decide +kernel
theorem dX7_shift_24 : decode cX7_shift 24 = .ok (.ifCond .lt 12, 3) := by decide +kernel
theorem dX7_shift_27 : decode cX7_shift 27 = .ok (.aload_n 0, 1) := by decide +kernel
theorem dX7_shift_28 : decode cX7_shift 28 = .ok (.getfield 185, 3) := by decide +kernel
theorem dX7_shift_31 : decode cX7_shift 31 = .ok (.iload_n 3, 1) := by decide +kernel
theorem dX7_shift_32 : decode cX7_shift 32 = .ok (.iaload, 1) := by decide +kernel
theorem dX7_shift_33 : decode cX7_shift 33 = .ok (.ifCond .ge 6, 3) := by decide +kernel
theorem dX7_shift_36 : decode cX7_shift 36 = .ok (.bipush (-11), 2) := by decide +kernel
theorem dX7_shift_38 : decode cX7_shift 38 = .ok (.ireturn, 1) := by decide +kernel
theorem dX7_shift_39 : decode cX7_shift 39 = .ok (.aload_n 0, 1) := by decide +kernel
theorem dX7_shift_40 : decode cX7_shift 40 = .ok (.getfield 185, 3) := by decide +kernel
theorem dX7_shift_43 : decode cX7_shift 43 = .ok (.iload_n 1, 1) := by decide +kernel
theorem dX7_shift_44 : decode cX7_shift 44 = .ok (.iaload, 1) := by decide +kernel
theorem dX7_shift_45 : decode cX7_shift 45 = .ok (.aload_n 0, 1) := by decide +kernel
theorem dX7_shift_46 : decode cX7_shift 46 = .ok (.getfield 185, 3) := by decide +kernel
theorem dX7_shift_49 : decode cX7_shift 49 = .ok (.iload_n 3, 1) := by decide +kernel
theorem dX7_shift_50 : decode cX7_shift 50 = .ok (.iaload, 1) := by decide +kernel
theorem dX7_shift_51 : decode cX7_shift 51 = .ok (.if_icmp .eq 6, 3) := by decide +kernel
theorem dX7_shift_54 : decode cX7_shift 54 = .ok (.bipush (-12), 2) := by decide +kernel
theorem dX7_shift_56 : decode cX7_shift 56 = .ok (.ireturn, 1) := by decide +kernel
theorem dX7_shift_57 : decode cX7_shift 57 = .ok (.iload 5, 2) := by decide +kernel
theorem dX7_shift_59 : decode cX7_shift 59 = .ok (.ifCond .lt 39, 3) := by decide +kernel
theorem dX7_shift_62 : decode cX7_shift 62 = .ok (.iload_n 2, 1) := by decide +kernel
theorem dX7_shift_63 : decode cX7_shift 63 = .ok (.ifCond .lt 35, 3) := by decide +kernel
theorem dX7_shift_66 : decode cX7_shift 66 = .ok (.iload 4, 2) := by decide +kernel
theorem dX7_shift_68 : decode cX7_shift 68 = .ok (.ifCond .lt 30, 3) := by decide +kernel
theorem dX7_shift_71 : decode cX7_shift 71 = .ok (.iload_n 2, 1) := by decide +kernel
theorem dX7_shift_72 : decode cX7_shift 72 = .ok (.aload_n 0, 1) := by decide +kernel
theorem dX7_shift_73 : decode cX7_shift 73 = .ok (.getfield 188, 3) := by decide +kernel
theorem dX7_shift_76 : decode cX7_shift 76 = .ok (.iload_n 1, 1) := by decide +kernel
theorem dX7_shift_77 : decode cX7_shift 77 = .ok (.iaload, 1) := by decide +kernel
theorem dX7_shift_78 : decode cX7_shift 78 = .ok (.iload 5, 2) := by decide +kernel
theorem dX7_shift_80 : decode cX7_shift 80 = .ok (.isub, 1) := by decide +kernel
theorem dX7_shift_81 : decode cX7_shift 81 = .ok (.if_icmp .gt 17, 3) := by decide +kernel
theorem dX7_shift_84 : decode cX7_shift 84 = .ok (.iload 4, 2) := by decide +kernel
theorem dX7_shift_86 : decode cX7_shift 86 = .ok (.aload_n 0, 1) := by decide +kernel
theorem dX7_shift_87 : decode cX7_shift 87 = .ok (.getfield 188, 3) := by decide +kernel
theorem dX7_shift_90 : decode cX7_shift 90 = .ok (.iload_n 3, 1) := by decide +kernel
theorem dX7_shift_91 : decode cX7_shift 91 = .ok (.iaload, 1) := by decide +kernel
theorem dX7_shift_92 : decode cX7_shift 92 = .ok (.iload 5, 2) := by decide +kernel
theorem dX7_shift_94 : decode cX7_shift 94 = .ok (.isub, 1) := by decide +kernel
theorem dX7_shift_95 : decode cX7_shift 95 = .ok (.if_icmp .le 6, 3) := by decide +kernel
theorem dX7_shift_98 : decode cX7_shift 98 = .ok (.bipush (-13), 2) := by decide +kernel
theorem dX7_shift_100 : decode cX7_shift 100 = .ok (.ireturn, 1) := by decide +kernel
theorem dX7_shift_101 : decode cX7_shift 101 = .ok (.iconst 0, 1) := by decide +kernel
theorem dX7_shift_102 : decode cX7_shift 102 = .ok (.istore 6, 2) := by decide +kernel
theorem dX7_shift_104 : decode cX7_shift 104 = .ok (.iload 6, 2) := by decide +kernel
theorem dX7_shift_106 : decode cX7_shift 106 = .ok (.iload 5, 2) := by decide +kernel
theorem dX7_shift_108 : decode cX7_shift 108 = .ok (.if_icmp .ge 30, 3) := by decide +kernel
theorem dX7_shift_111 : decode cX7_shift 111 = .ok (.aload_n 0, 1) := by decide +kernel
theorem dX7_shift_112 : decode cX7_shift 112 = .ok (.getfield 194, 3) := by decide +kernel
theorem dX7_shift_115 : decode cX7_shift 115 = .ok (.iload 6, 2) := by decide +kernel
theorem dX7_shift_117 : decode cX7_shift 117 = .ok (.aload_n 0, 1) := by decide +kernel
theorem dX7_shift_118 : decode cX7_shift 118 = .ok (.getfield 191, 3) := by decide +kernel
theorem dX7_shift_121 : decode cX7_shift 121 = .ok (.bipush 60, 2) := by decide +kernel
theorem dX7_shift_123 : decode cX7_shift 123 = .ok (.iload_n 1, 1) := by decide +kernel
theorem dX7_shift_124 : decode cX7_shift 124 = .ok (.imul, 1) := by decide +kernel
theorem dX7_shift_125 : decode cX7_shift 125 = .ok (.iload_n 2, 1) := by decide +kernel
theorem dX7_shift_126 : decode cX7_shift 126 = .ok (.iadd, 1) := by decide +kernel
theorem dX7_shift_127 : decode cX7_shift 127 = .ok (.iload 6, 2) := by decide +kernel
theorem dX7_shift_129 : decode cX7_shift 129 = .ok (.iadd, 1) := by decide +kernel
theorem dX7_shift_130 : decode cX7_shift 130 = .ok (.laload, 1) := by decide +kernel
theorem dX7_shift_131 : decode cX7_shift 131 = .ok (.lastore, 1) := by decide +kernel
theorem dX7_shift_132 : decode cX7_shift 132 = .ok (.iinc 6 1, 3) := by decide +kernel
theorem dX7_shift_135 : decode cX7_shift 135 = .ok (.goto (-31), 3) := by decide +kernel
theorem dX7_shift_138 : decode cX7_shift 138 = .ok (.iconst 0, 1) := by decide +kernel
theorem dX7_shift_139 : decode cX7_shift 139 = .ok (.istore 6, 2) := by decide +kernel
theorem dX7_shift_141 : decode cX7_shift 141 = .ok (.iload 6, 2) := by decide +kernel
theorem dX7_shift_143 : decode cX7_shift 143 = .ok (.iload 5, 2) := by decide +kernel
theorem dX7_shift_145 : decode cX7_shift 145 = .ok (.if_icmp .ge 31, 3) := by decide +kernel
theorem dX7_shift_148 : decode cX7_shift 148 = .ok (.aload_n 0, 1) := by decide +kernel
theorem dX7_shift_149 : decode cX7_shift 149 = .ok (.getfield 191, 3) := by decide +kernel
theorem dX7_shift_152 : decode cX7_shift 152 = .ok (.bipush 60, 2) := by decide +kernel
theorem dX7_shift_154 : decode cX7_shift 154 = .ok (.iload_n 3, 1) := by decide +kernel
theorem dX7_shift_155 : decode cX7_shift 155 = .ok (.imul, 1) := by decide +kernel
theorem dX7_shift_156 : decode cX7_shift 156 = .ok (.iload 4, 2) := by decide +kernel
theorem dX7_shift_158 : decode cX7_shift 158 = .ok (.iadd, 1) := by decide +kernel
theorem dX7_shift_159 : decode cX7_shift 159 = .ok (.iload 6, 2) := by decide +kernel
theorem dX7_shift_161 : decode cX7_shift 161 = .ok (.iadd, 1) := by decide +kernel
theorem dX7_shift_162 : decode cX7_shift 162 = .ok (.aload_n 0, 1) := by decide +kernel
theorem dX7_shift_163 : decode cX7_shift 163 = .ok (.getfield 194, 3) := by decide +kernel
theorem dX7_shift_166 : decode cX7_shift 166 = .ok (.iload 6, 2) := by decide +kernel
theorem dX7_shift_168 : decode cX7_shift 168 = .ok (.laload, 1) := by decide +kernel
theorem dX7_shift_169 : decode cX7_shift 169 = .ok (.lastore, 1) := by decide +kernel
theorem dX7_shift_170 : decode cX7_shift 170 = .ok (.iinc 6 1, 3) := by decide +kernel
theorem dX7_shift_173 : decode cX7_shift 173 = .ok (.goto (-32), 3) := by decide +kernel
theorem dX7_shift_176 : decode cX7_shift 176 = .ok (.iload 5, 2) := by decide +kernel
theorem dX7_shift_178 : decode cX7_shift 178 = .ok (.ireturn, 1) := by decide +kernel
theorem dJ11_isValidCodePoint_9a6ad_0 : decode cJ11_isValidCodePoint_9a6ad 0 = .ok (.iload_n 0, 1) := by decide +kernel
theorem dJ11_isValidCodePoint_9a6ad_1 : decode cJ11_isValidCodePoint_9a6ad 1 = .ok (.bipush 16, 2) := by decide +kernel
theorem dJ11_isValidCodePoint_9a6ad_3 : decode cJ11_isValidCodePoint_9a6ad 3 = .ok (.iushr, 1) := by decide +kernel
theorem dJ11_isValidCodePoint_9a6ad_4 : decode cJ11_isValidCodePoint_9a6ad 4 = .ok (.istore_n 1, 1) := by decide +kernel
theorem dJ11_isValidCodePoint_9a6ad_5 : decode cJ11_isValidCodePoint_9a6ad 5 = .ok (.iload_n 1, 1) := by decide +kernel
theorem dJ11_isValidCodePoint_9a6ad_6 : decode cJ11_isValidCodePoint_9a6ad 6 = .ok (.bipush 17, 2) := by decide +kernel
theorem dJ11_isValidCodePoint_9a6ad_8 : decode cJ11_isValidCodePoint_9a6ad 8 = .ok (.if_icmp .ge 7, 3) := by decide +kernel
theorem dJ11_isValidCodePoint_9a6ad_11 : decode cJ11_isValidCodePoint_9a6ad 11 = .ok (.iconst 1, 1) := by decide +kernel
theorem dJ11_isValidCodePoint_9a6ad_12 : decode cJ11_isValidCodePoint_9a6ad 12 = .ok (.goto 4, 3) := by decide +kernel
theorem dJ11_isValidCodePoint_9a6ad_15 : decode cJ11_isValidCodePoint_9a6ad 15 = .ok (.iconst 0, 1) := by decide +kernel
theorem dJ11_isValidCodePoint_9a6ad_16 : decode cJ11_isValidCodePoint_9a6ad 16 = .ok (.ireturn, 1) := by decide +kernel
theorem dJ11_highSurrogate_5068e_0 : decode cJ11_highSurrogate_5068e 0 = .ok (.iload_n 0, 1) := by decide +kernel
theorem dJ11_highSurrogate_5068e_1 : decode cJ11_highSurrogate_5068e 1 = .ok (.bipush 10, 2) := by decide +kernel
theorem dJ11_highSurrogate_5068e_3 : decode cJ11_highSurrogate_5068e 3 = .ok (.iushr, 1) := by decide +kernel
theorem dJ11_highSurrogate_5068e_4 : decode cJ11_highSurrogate_5068e 4 = .ok (.ldc 110, 2) := by decide +kernel
theorem dJ11_highSurrogate_5068e_6 : decode cJ11_highSurrogate_5068e 6 = .ok (.iadd, 1) := by decide +kernel
theorem dJ11_highSurrogate_5068e_7 : decode cJ11_highSurrogate_5068e 7 = .ok (.i2c, 1) := by decide +kernel
theorem dJ11_highSurrogate_5068e_8 : decode cJ11_highSurrogate_5068e 8 = .ok (.ireturn, 1) := by decide +kernel
theorem dJ11_lowSurrogate_5068e_0 : decode cJ11_lowSurrogate_5068e 0 = .ok (.iload_n 0, 1) := by decide +kernel
theorem dJ11_lowSurrogate_5068e_1 : decode cJ11_lowSurrogate_5068e 1 = .ok (.sipush 1023, 3) := by decide +kernel
theorem dJ11_lowSurrogate_5068e_4 : decode cJ11_lowSurrogate_5068e 4 = .ok (.iand, 1) := by decide +kernel
theorem dJ11_lowSurrogate_5068e_5 : decode cJ11_lowSurrogate_5068e 5 = .ok (.ldc 76, 2) := by decide +kernel
theorem dJ11_lowSurrogate_5068e_7 : decode cJ11_lowSurrogate_5068e 7 = .ok (.iadd, 1) := by decide +kernel
theorem dJ11_lowSurrogate_5068e_8 : decode cJ11_lowSurrogate_5068e 8 = .ok (.i2c, 1) := by decide +kernel
theorem dJ11_lowSurrogate_5068e_9 : decode cJ11_lowSurrogate_5068e 9 = .ok (.ireturn, 1) := by decide +kernel
theorem dJ6_bitCount_0f7a4_0 : decode cJ6_bitCount_0f7a4 0 = .ok (.iload_n 0, 1) := by decide +kernel
theorem dJ6_bitCount_0f7a4_1 : decode cJ6_bitCount_0f7a4 1 = .ok (.iload_n 0, 1) := by decide +kernel
theorem dJ6_bitCount_0f7a4_2 : decode cJ6_bitCount_0f7a4 2 = .ok (.iconst 1, 1) := by decide +kernel
theorem dJ6_bitCount_0f7a4_3 : decode cJ6_bitCount_0f7a4 3 = .ok (.iushr, 1) := by decide +kernel
theorem dJ6_bitCount_0f7a4_4 : decode cJ6_bitCount_0f7a4 4 = .ok (.ldc_w 265, 3) := by decide +kernel
theorem dJ6_bitCount_0f7a4_7 : decode cJ6_bitCount_0f7a4 7 = .ok (.iand, 1) := by decide +kernel
theorem dJ6_bitCount_0f7a4_8 : decode cJ6_bitCount_0f7a4 8 = .ok (.isub, 1) := by decide +kernel
theorem dJ6_bitCount_0f7a4_9 : decode cJ6_bitCount_0f7a4 9 = .ok (.istore_n 0, 1) := by decide +kernel
theorem dJ6_bitCount_0f7a4_10 : decode cJ6_bitCount_0f7a4 10 = .ok (.iload_n 0, 1) := by decide +kernel
theorem dJ6_bitCount_0f7a4_11 : decode cJ6_bitCount_0f7a4 11 = .ok (.ldc_w 266, 3) := by decide +kernel
theorem dJ6_bitCount_0f7a4_14 : decode cJ6_bitCount_0f7a4 14 = .ok (.iand, 1) := by decide +kernel
theorem dJ6_bitCount_0f7a4_15 : decode cJ6_bitCount_0f7a4 15 = .ok (.iload_n 0, 1) := by decide +kernel
theorem dJ6_bitCount_0f7a4_16 : decode cJ6_bitCount_0f7a4 16 = .ok (.iconst 2, 1) := by decide +kernel
theorem dJ6_bitCount_0f7a4_17 : decode cJ6_bitCount_0f7a4 17 = .ok (.iushr, 1) := by decide +kernel
theorem dJ6_bitCount_0f7a4_18 : decode cJ6_bitCount_0f7a4 18 = .ok (.ldc_w 266, 3) := by decide +kernel
theorem dJ6_bitCount_0f7a4_21 : decode cJ6_bitCount_0f7a4 21 = .ok (.iand, 1) := by decide +kernel
theorem dJ6_bitCount_0f7a4_22 : decode cJ6_bitCount_0f7a4 22 = .ok (.iadd, 1) := by decide +kernel
theorem dJ6_bitCount_0f7a4_23 : decode cJ6_bitCount_0f7a4 23 = .ok (.istore_n 0, 1) := by decide +kernel
theorem dJ6_bitCount_0f7a4_24 : decode cJ6_bitCount_0f7a4 24 = .ok (.iload_n 0, 1) := by decide +kernel
theorem dJ6_bitCount_0f7a4_25 : decode cJ6_bitCount_0f7a4 25 = .ok (.iload_n 0, 1) := by decide +kernel
theorem dJ6_bitCount_0f7a4_26 : decode cJ6_bitCount_0f7a4 26 = .ok (.iconst 4, 1) := by decide +kernel
theorem dJ6_bitCount_0f7a4_27 : decode cJ6_bitCount_0f7a4 27 = .ok (.iushr, 1) := by decide +kernel
theorem dJ6_bitCount_0f7a4_28 : decode cJ6_bitCount_0f7a4 28 = .ok (.iadd, 1) := by decide +kernel
theorem dJ6_bitCount_0f7a4_29 : decode cJ6_bitCount_0f7a4 29 = .ok (.ldc_w 267, 3) := by decide +kernel
theorem dJ6_bitCount_0f7a4_32 : decode cJ6_bitCount_0f7a4 32 = .ok (.iand, 1) := by decide +kernel
theorem dJ6_bitCount_0f7a4_33 : decode cJ6_bitCount_0f7a4 33 = .ok (.istore_n 0, 1) := by decide +kernel
theorem dJ6_bitCount_0f7a4_34 : decode cJ6_bitCount_0f7a4 34 = .ok (.iload_n 0, 1) := by decide +kernel
theorem dJ6_bitCount_0f7a4_35 : decode cJ6_bitCount_0f7a4 35 = .ok (.iload_n 0, 1) := by decide +kernel
theorem dJ6_bitCount_0f7a4_36 : decode cJ6_bitCount_0f7a4 36 = .ok (.bipush 8, 2) := by decide +kernel
theorem dJ6_bitCount_0f7a4_38 : decode cJ6_bitCount_0f7a4 38 = .ok (.iushr, 1) := by decide +kernel
theorem dJ6_bitCount_0f7a4_39 : decode cJ6_bitCount_0f7a4 39 = .ok (.iadd, 1) := by decide +kernel
theorem dJ6_bitCount_0f7a4_40 : decode cJ6_bitCount_0f7a4 40 = .ok (.istore_n 0, 1) := by decide +kernel
theorem dJ6_bitCount_0f7a4_41 : decode cJ6_bitCount_0f7a4 41 = .ok (.iload_n 0, 1) := by decide +kernel
theorem dJ6_bitCount_0f7a4_42 : decode cJ6_bitCount_0f7a4 42 = .ok (.iload_n 0, 1) := by decide +kernel
theorem dJ6_bitCount_0f7a4_43 : decode cJ6_bitCount_0f7a4 43 = .ok (.bipush 16, 2) := by decide +kernel
theorem dJ6_bitCount_0f7a4_45 : decode cJ6_bitCount_0f7a4 45 = .ok (.iushr, 1) := by decide +kernel
theorem dJ6_bitCount_0f7a4_46 : decode cJ6_bitCount_0f7a4 46 = .ok (.iadd, 1) := by decide +kernel
theorem dJ6_bitCount_0f7a4_47 : decode cJ6_bitCount_0f7a4 47 = .ok (.istore_n 0, 1) := by decide +kernel
theorem dJ6_bitCount_0f7a4_48 : decode cJ6_bitCount_0f7a4 48 = .ok (.iload_n 0, 1) := by decide +kernel
theorem dJ6_bitCount_0f7a4_49 : decode cJ6_bitCount_0f7a4 49 = .ok (.bipush 63, 2) := by decide +kernel
theorem dJ6_bitCount_0f7a4_51 : decode cJ6_bitCount_0f7a4 51 = .ok (.iand, 1) := by decide +kernel
theorem dJ6_bitCount_0f7a4_52 : decode cJ6_bitCount_0f7a4 52 = .ok (.ireturn, 1) := by decide +kernel
theorem dJ9_max_7cf53_0 : decode cJ9_max_7cf53 0 = .ok (.iload_n 0, 1) := by decide +kernel
theorem dJ9_max_7cf53_1 : decode cJ9_max_7cf53 1 = .ok (.iload_n 1, 1) := by decide +kernel
theorem dJ9_max_7cf53_2 : decode cJ9_max_7cf53 2 = .ok (.if_icmp .lt 7, 3) := by decide +kernel
theorem dJ9_max_7cf53_5 : decode cJ9_max_7cf53 5 = .ok (.iload_n 0, 1) := by decide +kernel
theorem dJ9_max_7cf53_6 : decode cJ9_max_7cf53 6 = .ok (.goto 4, 3) := by decide +kernel
theorem dJ9_max_7cf53_9 : decode cJ9_max_7cf53 9 = .ok (.iload_n 1, 1) := by decide +kernel
theorem dJ9_max_7cf53_10 : decode cJ9_max_7cf53 10 = .ok (.ireturn, 1) := by decide +kernel
theorem dJ9_min_7cf53_0 : decode cJ9_min_7cf53 0 = .ok (.iload_n 0, 1) := by decide +kernel
theorem dJ9_min_7cf53_1 : decode cJ9_min_7cf53 1 = .ok (.iload_n 1, 1) := by decide +kernel
theorem dJ9_min_7cf53_2 : decode cJ9_min_7cf53 2 = .ok (.if_icmp .gt 7, 3) := by decide +kernel
theorem dJ9_min_7cf53_5 : decode cJ9_min_7cf53 5 = .ok (.iload_n 0, 1) := by decide +kernel
theorem dJ9_min_7cf53_6 : decode cJ9_min_7cf53 6 = .ok (.goto 4, 3) := by decide +kernel
theorem dJ9_min_7cf53_9 : decode cJ9_min_7cf53 9 = .ok (.iload_n 1, 1) := by decide +kernel
theorem dJ9_min_7cf53_10 : decode cJ9_min_7cf53 10 = .ok (.ireturn, 1) := by decide +kernel
theorem dJ0_length_8abf5_0 : decode cJ0_length_8abf5 0 = .ok (.aload_n 0, 1) := by decide +kernel
theorem dJ0_length_8abf5_1 : decode cJ0_length_8abf5 1 = .ok (.getfield 9, 3) := by decide +kernel
theorem dJ0_length_8abf5_4 : decode cJ0_length_8abf5 4 = .ok (.arraylength, 1) := by decide +kernel
theorem dJ0_length_8abf5_5 : decode cJ0_length_8abf5 5 = .ok (.aload_n 0, 1) := by decide +kernel
theorem dJ0_length_8abf5_6 : decode cJ0_length_8abf5 6 = .ok (.invokevirtual 335, 3) := by decide +kernel
theorem dJ0_length_8abf5_9 : decode cJ0_length_8abf5 9 = .ok (.ishr, 1) := by decide +kernel
theorem dJ0_length_8abf5_10 : decode cJ0_length_8abf5 10 = .ok (.ireturn, 1) := by decide +kernel
theorem dJ0_charAt_5068e_0 : decode cJ0_charAt_5068e 0 = .ok (.aload_n 0, 1) := by decide +kernel
theorem dJ0_charAt_5068e_1 : decode cJ0_charAt_5068e 1 = .ok (.invokevirtual 492, 3) := by decide +kernel
theorem dJ0_charAt_5068e_4 : decode cJ0_charAt_5068e 4 = .ok (.ifCond .eq 12, 3) := by decide +kernel
theorem dJ0_charAt_5068e_7 : decode cJ0_charAt_5068e 7 = .ok (.aload_n 0, 1) := by decide +kernel
theorem dJ0_charAt_5068e_8 : decode cJ0_charAt_5068e 8 = .ok (.getfield 9, 3) := by decide +kernel
theorem dJ0_charAt_5068e_11 : decode cJ0_charAt_5068e 11 = .ok (.iload_n 1, 1) := by decide +kernel
theorem dJ0_charAt_5068e_12 : decode cJ0_charAt_5068e 12 = .ok (.invokestatic 495, 3) := by decide +kernel
theorem dJ0_charAt_5068e_15 : decode cJ0_charAt_5068e 15 = .ok (.ireturn, 1) := by decide +kernel
theorem dJ0_charAt_5068e_16 : decode cJ0_charAt_5068e 16 = .ok (.aload_n 0, 1) := by decide +kernel
theorem dJ0_charAt_5068e_17 : decode cJ0_charAt_5068e 17 = .ok (.getfield 9, 3) := by decide +kernel
theorem dJ0_charAt_5068e_20 : decode cJ0_charAt_5068e 20 = .ok (.iload_n 1, 1) := by decide +kernel
theorem dJ0_charAt_5068e_21 : decode cJ0_charAt_5068e 21 = .ok (.invokestatic 498, 3) := by decide +kernel
theorem dJ0_charAt_5068e_24 : decode cJ0_charAt_5068e 24 = .ok (.ireturn, 1) := by decide +kernel
theorem dJ0_indexOf_0f7a4_0 : decode cJ0_indexOf_0f7a4 0 = .ok (.aload_n 0, 1) := by decide +kernel
theorem dJ0_indexOf_0f7a4_1 : decode cJ0_indexOf_0f7a4 1 = .ok (.iload_n 1, 1) := by decide +kernel
theorem dJ0_indexOf_0f7a4_2 : decode cJ0_indexOf_0f7a4 2 = .ok (.iconst 0, 1) := by decide +kernel
theorem dJ0_indexOf_0f7a4_3 : decode cJ0_indexOf_0f7a4 3 = .ok (.invokevirtual 633, 3) := by decide +kernel
theorem dJ0_indexOf_0f7a4_6 : decode cJ0_indexOf_0f7a4 6 = .ok (.ireturn, 1) := by decide +kernel
theorem dJ0_indexOf_7cf53_0 : decode cJ0_indexOf_7cf53 0 = .ok (.aload_n 0, 1) := by decide +kernel
theorem dJ0_indexOf_7cf53_1 : decode cJ0_indexOf_7cf53 1 = .ok (.invokevirtual 492, 3) := by decide +kernel
theorem dJ0_indexOf_7cf53_4 : decode cJ0_indexOf_7cf53 4 = .ok (.ifCond .eq 19, 3) := by decide +kernel
theorem dJ0_indexOf_7cf53_7 : decode cJ0_indexOf_7cf53 7 = .ok (.aload_n 0, 1) := by decide +kernel
theorem dJ0_indexOf_7cf53_8 : decode cJ0_indexOf_7cf53 8 = .ok (.getfield 9, 3) := by decide +kernel
theorem dJ0_indexOf_7cf53_11 : decode cJ0_indexOf_7cf53 11 = .ok (.iload_n 1, 1) := by decide +kernel
theorem dJ0_indexOf_7cf53_12 : decode cJ0_indexOf_7cf53 12 = .ok (.iload_n 2, 1) := by decide +kernel
theorem dJ0_indexOf_7cf53_13 : decode cJ0_indexOf_7cf53 13 = .ok (.aload_n 0, 1) := by decide +kernel
theorem dJ0_indexOf_7cf53_14 : decode cJ0_indexOf_7cf53 14 = .ok (.invokevirtual 505, 3) := by decide +kernel
theorem dJ0_indexOf_7cf53_17 : decode cJ0_indexOf_7cf53 17 = .ok (.invokestatic 637, 3) := by decide +kernel
theorem dJ0_indexOf_7cf53_20 : decode cJ0_indexOf_7cf53 20 = .ok (.goto 16, 3) := by decide +kernel
theorem dJ0_indexOf_7cf53_23 : decode cJ0_indexOf_7cf53 23 = .ok (.aload_n 0, 1) := by decide +kernel
theorem dJ0_indexOf_7cf53_24 : decode cJ0_indexOf_7cf53 24 = .ok (.getfield 9, 3) := by decide +kernel
theorem dJ0_indexOf_7cf53_27 : decode cJ0_indexOf_7cf53 27 = .ok (.iload_n 1, 1) := by decide +kernel
theorem dJ0_indexOf_7cf53_28 : decode cJ0_indexOf_7cf53 28 = .ok (.iload_n 2, 1) := by decide +kernel
theorem dJ0_indexOf_7cf53_29 : decode cJ0_indexOf_7cf53 29 = .ok (.aload_n 0, 1) := by decide +kernel
theorem dJ0_indexOf_7cf53_30 : decode cJ0_indexOf_7cf53 30 = .ok (.invokevirtual 505, 3) := by decide +kernel
theorem dJ0_indexOf_7cf53_33 : decode cJ0_indexOf_7cf53 33 = .ok (.invokestatic 640, 3) := by decide +kernel
theorem dJ0_indexOf_7cf53_36 : decode cJ0_indexOf_7cf53 36 = .ok (.ireturn, 1) := by decide +kernel
theorem dJ0_coder_7d493_0 : decode cJ0_coder_7d493 0 = .ok (.getstatic 38, 3) := by decide +kernel
theorem dJ0_coder_7d493_3 : decode cJ0_coder_7d493 3 = .ok (.ifCond .eq 10, 3) := by decide +kernel
theorem dJ0_coder_7d493_6 : decode cJ0_coder_7d493 6 = .ok (.aload_n 0, 1) := by decide +kernel
theorem dJ0_coder_7d493_7 : decode cJ0_coder_7d493 7 = .ok (.getfield 15, 3) := by decide +kernel
theorem dJ0_coder_7d493_10 : decode cJ0_coder_7d493 10 = .ok (.goto 4, 3) := by decide +kernel
theorem dJ0_coder_7d493_13 : decode cJ0_coder_7d493 13 = .ok (.iconst 1, 1) := by decide +kernel
theorem dJ0_coder_7d493_14 : decode cJ0_coder_7d493 14 = .ok (.ireturn, 1) := by decide +kernel
theorem dJ0_isLatin1_aae02_0 : decode cJ0_isLatin1_aae02 0 = .ok (.getstatic 38, 3) := by decide +kernel
theorem dJ0_isLatin1_aae02_3 : decode cJ0_isLatin1_aae02 3 = .ok (.ifCond .eq 14, 3) := by decide +kernel
theorem dJ0_isLatin1_aae02_6 : decode cJ0_isLatin1_aae02 6 = .ok (.aload_n 0, 1) := by decide +kernel
theorem dJ0_isLatin1_aae02_7 : decode cJ0_isLatin1_aae02 7 = .ok (.getfield 15, 3) := by decide +kernel
theorem dJ0_isLatin1_aae02_10 : decode cJ0_isLatin1_aae02 10 = .ok (.ifCond .ne 7, 3) := by decide +kernel
theorem dJ0_isLatin1_aae02_13 : decode cJ0_isLatin1_aae02 13 = .ok (.iconst 1, 1) := by decide +kernel
theorem dJ0_isLatin1_aae02_14 : decode cJ0_isLatin1_aae02 14 = .ok (.goto 4, 3) := by decide +kernel
theorem dJ0_isLatin1_aae02_17 : decode cJ0_isLatin1_aae02 17 = .ok (.iconst 0, 1) := by decide +kernel
theorem dJ0_isLatin1_aae02_18 : decode cJ0_isLatin1_aae02 18 = .ok (.ireturn, 1) := by decide +kernel
theorem dJ0_checkIndex_df160_0 : decode cJ0_checkIndex_df160 0 = .ok (.iload_n 0, 1) := by decide +kernel
theorem dJ0_checkIndex_df160_1 : decode cJ0_checkIndex_df160 1 = .ok (.iload_n 1, 1) := by decide +kernel
theorem dJ0_checkIndex_df160_2 : decode cJ0_checkIndex_df160 2 = .ok (.getstatic 1053, 3) := by decide +kernel
theorem dJ0_checkIndex_df160_5 : decode cJ0_checkIndex_df160 5 = .ok (.invokestatic 1059, 3) := by decide +kernel
theorem dJ0_checkIndex_df160_8 : decode cJ0_checkIndex_df160 8 = .ok (.pop, 1) := by decide +kernel
theorem dJ0_checkIndex_df160_9 : decode cJ0_checkIndex_df160 9 = .ok (.return_, 1) := by decide +kernel
theorem dJ0_checkBoundsBeginEnd_23922_0 : decode cJ0_checkBoundsBeginEnd_23922 0 = .ok (.iload_n 0, 1) := by decide +kernel
theorem dJ0_checkBoundsBeginEnd_23922_1 : decode cJ0_checkBoundsBeginEnd_23922 1 = .ok (.iload_n 1, 1) := by decide +kernel
theorem dJ0_checkBoundsBeginEnd_23922_2 : decode cJ0_checkBoundsBeginEnd_23922 2 = .ok (.iload_n 2, 1) := by decide +kernel
theorem dJ0_checkBoundsBeginEnd_23922_3 : decode cJ0_checkBoundsBeginEnd_23922 3 = .ok (.getstatic 1053, 3) := by decide +kernel
theorem dJ0_checkBoundsBeginEnd_23922_6 : decode cJ0_checkBoundsBeginEnd_23922 6 = .ok (.invokestatic 1062, 3) := by decide +kernel
theorem dJ0_checkBoundsBeginEnd_23922_9 : decode cJ0_checkBoundsBeginEnd_23922 9 = .ok (.pop, 1) := by decide +kernel
theorem dJ0_checkBoundsBeginEnd_23922_10 : decode cJ0_checkBoundsBeginEnd_23922 10 = .ok (.return_, 1) := by decide +kernel
theorem dJ1_charAt_3b067_0 : decode cJ1_charAt_3b067 0 = .ok (.iload_n 1, 1) := by decide +kernel
theorem dJ1_charAt_3b067_1 : decode cJ1_charAt_3b067 1 = .ok (.aload_n 0, 1) := by decide +kernel
theorem dJ1_charAt_3b067_2 : decode cJ1_charAt_3b067 2 = .ok (.arraylength, 1) := by decide +kernel
theorem dJ1_charAt_3b067_3 : decode cJ1_charAt_3b067 3 = .ok (.invokestatic 9, 3) := by decide +kernel
theorem dJ1_charAt_3b067_6 : decode cJ1_charAt_3b067 6 = .ok (.aload_n 0, 1) := by decide +kernel
theorem dJ1_charAt_3b067_7 : decode cJ1_charAt_3b067 7 = .ok (.iload_n 1, 1) := by decide +kernel
theorem dJ1_charAt_3b067_8 : decode cJ1_charAt_3b067 8 = .ok (.baload, 1) := by decide +kernel
theorem dJ1_charAt_3b067_9 : decode cJ1_charAt_3b067 9 = .ok (.sipush 255, 3) := by decide +kernel
theorem dJ1_charAt_3b067_12 : decode cJ1_charAt_3b067 12 = .ok (.iand, 1) := by decide +kernel
theorem dJ1_charAt_3b067_13 : decode cJ1_charAt_3b067 13 = .ok (.i2c, 1) := by decide +kernel
theorem dJ1_charAt_3b067_14 : decode cJ1_charAt_3b067 14 = .ok (.ireturn, 1) := by decide +kernel
theorem dJ1_canEncode_9a6ad_0 : decode cJ1_canEncode_9a6ad 0 = .ok (.iload_n 0, 1) := by decide +kernel
theorem dJ1_canEncode_9a6ad_1 : decode cJ1_canEncode_9a6ad 1 = .ok (.ifCond .lt 14, 3) := by decide +kernel
theorem dJ1_canEncode_9a6ad_4 : decode cJ1_canEncode_9a6ad 4 = .ok (.iload_n 0, 1) := by decide +kernel
theorem dJ1_canEncode_9a6ad_5 : decode cJ1_canEncode_9a6ad 5 = .ok (.sipush 255, 3) := by decide +kernel
theorem dJ1_canEncode_9a6ad_8 : decode cJ1_canEncode_9a6ad 8 = .ok (.if_icmp .gt 7, 3) := by decide +kernel
theorem dJ1_canEncode_9a6ad_11 : decode cJ1_canEncode_9a6ad 11 = .ok (.iconst 1, 1) := by decide +kernel
theorem dJ1_canEncode_9a6ad_12 : decode cJ1_canEncode_9a6ad 12 = .ok (.goto 4, 3) := by decide +kernel
theorem dJ1_canEncode_9a6ad_15 : decode cJ1_canEncode_9a6ad 15 = .ok (.iconst 0, 1) := by decide +kernel
theorem dJ1_canEncode_9a6ad_16 : decode cJ1_canEncode_9a6ad 16 = .ok (.ireturn, 1) := by decide +kernel
theorem dJ1_indexOf_4cfef_0 : decode cJ1_indexOf_4cfef 0 = .ok (.iload_n 1, 1) := by decide +kernel
theorem dJ1_indexOf_4cfef_1 : decode cJ1_indexOf_4cfef 1 = .ok (.invokestatic 88, 3) := by decide +kernel
theorem dJ1_indexOf_4cfef_4 : decode cJ1_indexOf_4cfef 4 = .ok (.ifCond .ne 5, 3) := by decide +kernel
theorem dJ1_indexOf_4cfef_7 : decode cJ1_indexOf_4cfef 7 = .ok (.iconst (-1), 1) := by decide +kernel
theorem dJ1_indexOf_4cfef_8 : decode cJ1_indexOf_4cfef 8 = .ok (.ireturn, 1) := by decide +kernel
theorem dJ1_indexOf_4cfef_9 : decode cJ1_indexOf_4cfef 9 = .ok (.iload_n 2, 1) := by decide +kernel
theorem dJ1_indexOf_4cfef_10 : decode cJ1_indexOf_4cfef 10 = .ok (.iconst 0, 1) := by decide +kernel
theorem dJ1_indexOf_4cfef_11 : decode cJ1_indexOf_4cfef 11 = .ok (.invokestatic 92, 3) := by decide +kernel
theorem dJ1_indexOf_4cfef_14 : decode cJ1_indexOf_4cfef 14 = .ok (.istore_n 2, 1) := by decide +kernel
theorem dJ1_indexOf_4cfef_15 : decode cJ1_indexOf_4cfef 15 = .ok (.iload_n 3, 1) := by decide +kernel
theorem dJ1_indexOf_4cfef_16 : decode cJ1_indexOf_4cfef 16 = .ok (.aload_n 0, 1) := by decide +kernel
theorem dJ1_indexOf_4cfef_17 : decode cJ1_indexOf_4cfef 17 = .ok (.arraylength, 1) := by decide +kernel
theorem dJ1_indexOf_4cfef_18 : decode cJ1_indexOf_4cfef 18 = .ok (.invokestatic 38, 3) := by decide +kernel
theorem dJ1_indexOf_4cfef_21 : decode cJ1_indexOf_4cfef 21 = .ok (.istore_n 3, 1) := by decide +kernel
theorem dJ1_indexOf_4cfef_22 : decode cJ1_indexOf_4cfef 22 = .ok (.iload_n 2, 1) := by decide +kernel
theorem dJ1_indexOf_4cfef_23 : decode cJ1_indexOf_4cfef 23 = .ok (.iload_n 3, 1) := by decide +kernel
theorem dJ1_indexOf_4cfef_24 : decode cJ1_indexOf_4cfef 24 = .ok (.if_icmp .lt 5, 3) := by decide +kernel
theorem dJ1_indexOf_4cfef_27 : decode cJ1_indexOf_4cfef 27 = .ok (.iconst (-1), 1) := by decide +kernel
theorem dJ1_indexOf_4cfef_28 : decode cJ1_indexOf_4cfef 28 = .ok (.ireturn, 1) := by decide +kernel
theorem dJ1_indexOf_4cfef_29 : decode cJ1_indexOf_4cfef 29 = .ok (.aload_n 0, 1) := by decide +kernel
theorem dJ1_indexOf_4cfef_30 : decode cJ1_indexOf_4cfef 30 = .ok (.iload_n 1, 1) := by decide +kernel
theorem dJ1_indexOf_4cfef_31 : decode cJ1_indexOf_4cfef 31 = .ok (.iload_n 2, 1) := by decide +kernel
theorem dJ1_indexOf_4cfef_32 : decode cJ1_indexOf_4cfef 32 = .ok (.iload_n 3, 1) := by decide +kernel
theorem dJ1_indexOf_4cfef_33 : decode cJ1_indexOf_4cfef 33 = .ok (.invokestatic 95, 3) := by decide +kernel
theorem dJ1_indexOf_4cfef_36 : decode cJ1_indexOf_4cfef 36 = .ok (.ireturn, 1) := by decide +kernel
theorem dJ1_indexOfChar_4cfef_0 : decode cJ1_indexOfChar_4cfef 0 = .ok (.iload_n 1, 1) := by decide +kernel
theorem dJ1_indexOfChar_4cfef_1 : decode cJ1_indexOfChar_4cfef 1 = .ok (.i2b, 1) := by decide +kernel
theorem dJ1_indexOfChar_4cfef_2 : decode cJ1_indexOfChar_4cfef 2 = .ok (.istore 4, 2) := by decide +kernel
theorem dJ1_indexOfChar_4cfef_4 : decode cJ1_indexOfChar_4cfef 4 = .ok (.iload_n 2, 1) := by decide +kernel
theorem dJ1_indexOfChar_4cfef_5 : decode cJ1_indexOfChar_4cfef 5 = .ok (.istore 5, 2) := by decide +kernel
theorem dJ1_indexOfChar_4cfef_7 : decode cJ1_indexOfChar_4cfef 7 = .ok (.iload 5, 2) := by decide +kernel
theorem dJ1_indexOfChar_4cfef_9 : decode cJ1_indexOfChar_4cfef 9 = .ok (.iload_n 3, 1) := by decide +kernel
theorem dJ1_indexOfChar_4cfef_10 : decode cJ1_indexOfChar_4cfef 10 = .ok (.if_icmp .ge 21, 3) := by decide +kernel
theorem dJ1_indexOfChar_4cfef_13 : decode cJ1_indexOfChar_4cfef 13 = .ok (.aload_n 0, 1) := by decide +kernel
theorem dJ1_indexOfChar_4cfef_14 : decode cJ1_indexOfChar_4cfef 14 = .ok (.iload 5, 2) := by decide +kernel
theorem dJ1_indexOfChar_4cfef_16 : decode cJ1_indexOfChar_4cfef 16 = .ok (.baload, 1) := by decide +kernel
theorem dJ1_indexOfChar_4cfef_17 : decode cJ1_indexOfChar_4cfef 17 = .ok (.iload 4, 2) := by decide +kernel
theorem dJ1_indexOfChar_4cfef_19 : decode cJ1_indexOfChar_4cfef 19 = .ok (.if_icmp .ne 6, 3) := by decide +kernel
theorem dJ1_indexOfChar_4cfef_22 : decode cJ1_indexOfChar_4cfef 22 = .ok (.iload 5, 2) := by decide +kernel
theorem dJ1_indexOfChar_4cfef_24 : decode cJ1_indexOfChar_4cfef 24 = .ok (.ireturn, 1) := by decide +kernel
theorem dJ1_indexOfChar_4cfef_25 : decode cJ1_indexOfChar_4cfef 25 = .ok (.iinc 5 1, 3) := by decide +kernel
theorem dJ1_indexOfChar_4cfef_28 : decode cJ1_indexOfChar_4cfef 28 = .ok (.goto (-21), 3) := by decide +kernel
theorem dJ1_indexOfChar_4cfef_31 : decode cJ1_indexOfChar_4cfef 31 = .ok (.iconst (-1), 1) := by decide +kernel
theorem dJ1_indexOfChar_4cfef_32 : decode cJ1_indexOfChar_4cfef 32 = .ok (.ireturn, 1) := by decide +kernel
theorem dJ2_getChar_3b067_0 : decode cJ2_getChar_3b067 0 = .ok (.getstatic 44, 3) := by decide +kernel
theorem dJ2_getChar_3b067_3 : decode cJ2_getChar_3b067 3 = .ok (.ifCond .ne 25, 3) := by decide +kernel
theorem dJ2_getChar_3b067_6 : decode cJ2_getChar_3b067 6 = .ok (.iload_n 1, 1) := by decide +kernel
theorem dJ2_getChar_3b067_7 : decode cJ2_getChar_3b067 7 = .ok (.ifCond .lt 11, 3) := by decide +kernel
theorem dJ2_getChar_3b067_10 : decode cJ2_getChar_3b067 10 = .ok (.iload_n 1, 1) := by decide +kernel
theorem dJ2_getChar_3b067_11 : decode cJ2_getChar_3b067 11 = .ok (.aload_n 0, 1) := by decide +kernel
theorem dJ2_getChar_3b067_12 : decode cJ2_getChar_3b067 12 = .ok (.invokestatic 48, 3) := by decide +kernel
theorem dJ2_getChar_3b067_15 : decode cJ2_getChar_3b067 15 = .ok (.if_icmp .lt 13, 3) := by decide +kernel
theorem dJ2_getChar_3b067_18 : decode cJ2_getChar_3b067 18 = .ok (.new 52, 3) := by decide +kernel
theorem dJ2_getChar_3b067_21 : decode cJ2_getChar_3b067 21 = .ok (.dup, 1) := by decide +kernel
theorem dJ2_getChar_3b067_22 : decode cJ2_getChar_3b067 22 = .ok (.ldc 54, 2) := by decide +kernel
theorem dJ2_getChar_3b067_24 : decode cJ2_getChar_3b067 24 = .ok (.invokespecial 56, 3) := by decide +kernel
theorem dJ2_getChar_3b067_27 : decode cJ2_getChar_3b067 27 = .ok (.athrow, 1) := by decide +kernel
theorem dJ2_getChar_3b067_28 : decode cJ2_getChar_3b067 28 = .ok (.iload_n 1, 1) := by decide +kernel
theorem dJ2_getChar_3b067_29 : decode cJ2_getChar_3b067 29 = .ok (.iconst 1, 1) := by decide +kernel
theorem dJ2_getChar_3b067_30 : decode cJ2_getChar_3b067 30 = .ok (.ishl, 1) := by decide +kernel
theorem dJ2_getChar_3b067_31 : decode cJ2_getChar_3b067 31 = .ok (.istore_n 1, 1) := by decide +kernel
theorem dJ2_getChar_3b067_32 : decode cJ2_getChar_3b067 32 = .ok (.aload_n 0, 1) := by decide +kernel
theorem dJ2_getChar_3b067_33 : decode cJ2_getChar_3b067 33 = .ok (.iload_n 1, 1) := by decide +kernel
theorem dJ2_getChar_3b067_34 : decode cJ2_getChar_3b067 34 = .ok (.iinc 1 1, 3) := by decide +kernel
theorem dJ2_getChar_3b067_37 : decode cJ2_getChar_3b067 37 = .ok (.baload, 1) := by decide +kernel
theorem dJ2_getChar_3b067_38 : decode cJ2_getChar_3b067 38 = .ok (.sipush 255, 3) := by decide +kernel
theorem dJ2_getChar_3b067_41 : decode cJ2_getChar_3b067 41 = .ok (.iand, 1) := by decide +kernel
theorem dJ2_getChar_3b067_42 : decode cJ2_getChar_3b067 42 = .ok (.getstatic 59, 3) := by decide +kernel
theorem dJ2_getChar_3b067_45 : decode cJ2_getChar_3b067 45 = .ok (.ishl, 1) := by decide +kernel
theorem dJ2_getChar_3b067_46 : decode cJ2_getChar_3b067 46 = .ok (.aload_n 0, 1) := by decide +kernel
theorem dJ2_getChar_3b067_47 : decode cJ2_getChar_3b067 47 = .ok (.iload_n 1, 1) := by decide +kernel
theorem dJ2_getChar_3b067_48 : decode cJ2_getChar_3b067 48 = .ok (.baload, 1) := by decide +kernel
theorem dJ2_getChar_3b067_49 : decode cJ2_getChar_3b067 49 = .ok (.sipush 255, 3) := by decide +kernel
theorem dJ2_getChar_3b067_52 : decode cJ2_getChar_3b067 52 = .ok (.iand, 1) := by decide +kernel
theorem dJ2_getChar_3b067_53 : decode cJ2_getChar_3b067 53 = .ok (.getstatic 63, 3) := by decide +kernel
theorem dJ2_getChar_3b067_56 : decode cJ2_getChar_3b067 56 = .ok (.ishl, 1) := by decide +kernel
theorem dJ2_getChar_3b067_57 : decode cJ2_getChar_3b067 57 = .ok (.ior, 1) := by decide +kernel
theorem dJ2_getChar_3b067_58 : decode cJ2_getChar_3b067 58 = .ok (.i2c, 1) := by decide +kernel
theorem dJ2_getChar_3b067_59 : decode cJ2_getChar_3b067 59 = .ok (.ireturn, 1) := by decide +kernel
theorem dJ2_length_9d52b_0 : decode cJ2_length_9d52b 0 = .ok (.aload_n 0, 1) := by decide +kernel
theorem dJ2_length_9d52b_1 : decode cJ2_length_9d52b 1 = .ok (.arraylength, 1) := by decide +kernel
theorem dJ2_length_9d52b_2 : decode cJ2_length_9d52b 2 = .ok (.iconst 1, 1) := by decide +kernel
theorem dJ2_length_9d52b_3 : decode cJ2_length_9d52b 3 = .ok (.ishr, 1) := by decide +kernel
theorem dJ2_length_9d52b_4 : decode cJ2_length_9d52b 4 = .ok (.ireturn, 1) := by decide +kernel
theorem dJ2_indexOf_4cfef_0 : decode cJ2_indexOf_4cfef 0 = .ok (.iload_n 2, 1) := by decide +kernel
theorem dJ2_indexOf_4cfef_1 : decode cJ2_indexOf_4cfef 1 = .ok (.iconst 0, 1) := by decide +kernel
theorem dJ2_indexOf_4cfef_2 : decode cJ2_indexOf_4cfef 2 = .ok (.invokestatic 224, 3) := by decide +kernel
theorem dJ2_indexOf_4cfef_5 : decode cJ2_indexOf_4cfef 5 = .ok (.istore_n 2, 1) := by decide +kernel
theorem dJ2_indexOf_4cfef_6 : decode cJ2_indexOf_4cfef 6 = .ok (.iload_n 3, 1) := by decide +kernel
theorem dJ2_indexOf_4cfef_7 : decode cJ2_indexOf_4cfef 7 = .ok (.aload_n 0, 1) := by decide +kernel
theorem dJ2_indexOf_4cfef_8 : decode cJ2_indexOf_4cfef 8 = .ok (.arraylength, 1) := by decide +kernel
theorem dJ2_indexOf_4cfef_9 : decode cJ2_indexOf_4cfef 9 = .ok (.iconst 1, 1) := by decide +kernel
theorem dJ2_indexOf_4cfef_10 : decode cJ2_indexOf_4cfef 10 = .ok (.ishr, 1) := by decide +kernel
theorem dJ2_indexOf_4cfef_11 : decode cJ2_indexOf_4cfef 11 = .ok (.invokestatic 183, 3) := by decide +kernel
theorem dJ2_indexOf_4cfef_14 : decode cJ2_indexOf_4cfef 14 = .ok (.istore_n 3, 1) := by decide +kernel
theorem dJ2_indexOf_4cfef_15 : decode cJ2_indexOf_4cfef 15 = .ok (.iload_n 2, 1) := by decide +kernel
theorem dJ2_indexOf_4cfef_16 : decode cJ2_indexOf_4cfef 16 = .ok (.iload_n 3, 1) := by decide +kernel
theorem dJ2_indexOf_4cfef_17 : decode cJ2_indexOf_4cfef 17 = .ok (.if_icmp .lt 5, 3) := by decide +kernel
theorem dJ2_indexOf_4cfef_20 : decode cJ2_indexOf_4cfef 20 = .ok (.iconst (-1), 1) := by decide +kernel
theorem dJ2_indexOf_4cfef_21 : decode cJ2_indexOf_4cfef 21 = .ok (.ireturn, 1) := by decide +kernel
theorem dJ2_indexOf_4cfef_22 : decode cJ2_indexOf_4cfef 22 = .ok (.iload_n 1, 1) := by decide +kernel
theorem dJ2_indexOf_4cfef_23 : decode cJ2_indexOf_4cfef 23 = .ok (.ldc 227, 2) := by decide +kernel
theorem dJ2_indexOf_4cfef_25 : decode cJ2_indexOf_4cfef 25 = .ok (.if_icmp .ge 11, 3) := by decide +kernel
theorem dJ2_indexOf_4cfef_28 : decode cJ2_indexOf_4cfef 28 = .ok (.aload_n 0, 1) := by decide +kernel
theorem dJ2_indexOf_4cfef_29 : decode cJ2_indexOf_4cfef 29 = .ok (.iload_n 1, 1) := by decide +kernel
theorem dJ2_indexOf_4cfef_30 : decode cJ2_indexOf_4cfef 30 = .ok (.iload_n 2, 1) := by decide +kernel
theorem dJ2_indexOf_4cfef_31 : decode cJ2_indexOf_4cfef 31 = .ok (.iload_n 3, 1) := by decide +kernel
theorem dJ2_indexOf_4cfef_32 : decode cJ2_indexOf_4cfef 32 = .ok (.invokestatic 228, 3) := by decide +kernel
theorem dJ2_indexOf_4cfef_35 : decode cJ2_indexOf_4cfef 35 = .ok (.ireturn, 1) := by decide +kernel
theorem dJ2_indexOf_4cfef_36 : decode cJ2_indexOf_4cfef 36 = .ok (.aload_n 0, 1) := by decide +kernel
theorem dJ2_indexOf_4cfef_37 : decode cJ2_indexOf_4cfef 37 = .ok (.iload_n 1, 1) := by decide +kernel
theorem dJ2_indexOf_4cfef_38 : decode cJ2_indexOf_4cfef 38 = .ok (.iload_n 2, 1) := by decide +kernel
theorem dJ2_indexOf_4cfef_39 : decode cJ2_indexOf_4cfef 39 = .ok (.iload_n 3, 1) := by decide +kernel
theorem dJ2_indexOf_4cfef_40 : decode cJ2_indexOf_4cfef 40 = .ok (.invokestatic 232, 3) := by decide +kernel
theorem dJ2_indexOf_4cfef_43 : decode cJ2_indexOf_4cfef 43 = .ok (.ireturn, 1) := by decide +kernel
theorem dJ2_indexOfChar_4cfef_0 : decode cJ2_indexOfChar_4cfef 0 = .ok (.iload_n 2, 1) := by decide +kernel
theorem dJ2_indexOfChar_4cfef_1 : decode cJ2_indexOfChar_4cfef 1 = .ok (.iload_n 3, 1) := by decide +kernel
theorem dJ2_indexOfChar_4cfef_2 : decode cJ2_indexOfChar_4cfef 2 = .ok (.aload_n 0, 1) := by decide +kernel
theorem dJ2_indexOfChar_4cfef_3 : decode cJ2_indexOfChar_4cfef 3 = .ok (.invokestatic 96, 3) := by decide +kernel
theorem dJ2_indexOfChar_4cfef_6 : decode cJ2_indexOfChar_4cfef 6 = .ok (.aload_n 0, 1) := by decide +kernel
theorem dJ2_indexOfChar_4cfef_7 : decode cJ2_indexOfChar_4cfef 7 = .ok (.iload_n 1, 1) := by decide +kernel
theorem dJ2_indexOfChar_4cfef_8 : decode cJ2_indexOfChar_4cfef 8 = .ok (.iload_n 2, 1) := by decide +kernel
theorem dJ2_indexOfChar_4cfef_9 : decode cJ2_indexOfChar_4cfef 9 = .ok (.iload_n 3, 1) := by decide +kernel
theorem dJ2_indexOfChar_4cfef_10 : decode cJ2_indexOfChar_4cfef 10 = .ok (.invokestatic 244, 3) := by decide +kernel
theorem dJ2_indexOfChar_4cfef_13 : decode cJ2_indexOfChar_4cfef 13 = .ok (.ireturn, 1) := by decide +kernel
theorem dJ2_indexOfCharUnsafe_4cfef_0 : decode cJ2_indexOfCharUnsafe_4cfef 0 = .ok (.iload_n 2, 1) := by decide +kernel
theorem dJ2_indexOfCharUnsafe_4cfef_1 : decode cJ2_indexOfCharUnsafe_4cfef 1 = .ok (.istore 4, 2) := by decide +kernel
theorem dJ2_indexOfCharUnsafe_4cfef_3 : decode cJ2_indexOfCharUnsafe_4cfef 3 = .ok (.iload 4, 2) := by decide +kernel
theorem dJ2_indexOfCharUnsafe_4cfef_5 : decode cJ2_indexOfCharUnsafe_4cfef 5 = .ok (.iload_n 3, 1) := by decide +kernel
theorem dJ2_indexOfCharUnsafe_4cfef_6 : decode cJ2_indexOfCharUnsafe_4cfef 6 = .ok (.if_icmp .ge 22, 3) := by decide +kernel
theorem dJ2_indexOfCharUnsafe_4cfef_9 : decode cJ2_indexOfCharUnsafe_4cfef 9 = .ok (.aload_n 0, 1) := by decide +kernel
theorem dJ2_indexOfCharUnsafe_4cfef_10 : decode cJ2_indexOfCharUnsafe_4cfef 10 = .ok (.iload 4, 2) := by decide +kernel
theorem dJ2_indexOfCharUnsafe_4cfef_12 : decode cJ2_indexOfCharUnsafe_4cfef 12 = .ok (.invokestatic 71, 3) := by decide +kernel
theorem dJ2_indexOfCharUnsafe_4cfef_15 : decode cJ2_indexOfCharUnsafe_4cfef 15 = .ok (.iload_n 1, 1) := by decide +kernel
theorem dJ2_indexOfCharUnsafe_4cfef_16 : decode cJ2_indexOfCharUnsafe_4cfef 16 = .ok (.if_icmp .ne 6, 3) := by decide +kernel
theorem dJ2_indexOfCharUnsafe_4cfef_19 : decode cJ2_indexOfCharUnsafe_4cfef 19 = .ok (.iload 4, 2) := by decide +kernel
theorem dJ2_indexOfCharUnsafe_4cfef_21 : decode cJ2_indexOfCharUnsafe_4cfef 21 = .ok (.ireturn, 1) := by decide +kernel
theorem dJ2_indexOfCharUnsafe_4cfef_22 : decode cJ2_indexOfCharUnsafe_4cfef 22 = .ok (.iinc 4 1, 3) := by decide +kernel
theorem dJ2_indexOfCharUnsafe_4cfef_25 : decode cJ2_indexOfCharUnsafe_4cfef 25 = .ok (.goto (-22), 3) := by decide +kernel
theorem dJ2_indexOfCharUnsafe_4cfef_28 : decode cJ2_indexOfCharUnsafe_4cfef 28 = .ok (.iconst (-1), 1) := by decide +kernel
theorem dJ2_indexOfCharUnsafe_4cfef_29 : decode cJ2_indexOfCharUnsafe_4cfef 29 = .ok (.ireturn, 1) := by decide +kernel
theorem dJ2_indexOfSupplementary_4cfef_0 : decode cJ2_indexOfSupplementary_4cfef 0 = .ok (.iload_n 1, 1) := by decide +kernel
theorem dJ2_indexOfSupplementary_4cfef_1 : decode cJ2_indexOfSupplementary_4cfef 1 = .ok (.invokestatic 164, 3) := by decide +kernel
theorem dJ2_indexOfSupplementary_4cfef_4 : decode cJ2_indexOfSupplementary_4cfef 4 = .ok (.ifCond .eq 65, 3) := by decide +kernel
theorem dJ2_indexOfSupplementary_4cfef_7 : decode cJ2_indexOfSupplementary_4cfef 7 = .ok (.iload_n 1, 1) := by decide +kernel
theorem dJ2_indexOfSupplementary_4cfef_8 : decode cJ2_indexOfSupplementary_4cfef 8 = .ok (.invokestatic 157, 3) := by decide +kernel
theorem dJ2_indexOfSupplementary_4cfef_11 : decode cJ2_indexOfSupplementary_4cfef 11 = .ok (.istore 4, 2) := by decide +kernel
theorem dJ2_indexOfSupplementary_4cfef_13 : decode cJ2_indexOfSupplementary_4cfef 13 = .ok (.iload_n 1, 1) := by decide +kernel
theorem dJ2_indexOfSupplementary_4cfef_14 : decode cJ2_indexOfSupplementary_4cfef 14 = .ok (.invokestatic 161, 3) := by decide +kernel
theorem dJ2_indexOfSupplementary_4cfef_17 : decode cJ2_indexOfSupplementary_4cfef 17 = .ok (.istore 5, 2) := by decide +kernel
theorem dJ2_indexOfSupplementary_4cfef_19 : decode cJ2_indexOfSupplementary_4cfef 19 = .ok (.iload_n 2, 1) := by decide +kernel
theorem dJ2_indexOfSupplementary_4cfef_20 : decode cJ2_indexOfSupplementary_4cfef 20 = .ok (.iload_n 3, 1) := by decide +kernel
theorem dJ2_indexOfSupplementary_4cfef_21 : decode cJ2_indexOfSupplementary_4cfef 21 = .ok (.aload_n 0, 1) := by decide +kernel
theorem dJ2_indexOfSupplementary_4cfef_22 : decode cJ2_indexOfSupplementary_4cfef 22 = .ok (.invokestatic 96, 3) := by decide +kernel
theorem dJ2_indexOfSupplementary_4cfef_25 : decode cJ2_indexOfSupplementary_4cfef 25 = .ok (.iload_n 2, 1) := by decide +kernel
theorem dJ2_indexOfSupplementary_4cfef_26 : decode cJ2_indexOfSupplementary_4cfef 26 = .ok (.istore 6, 2) := by decide +kernel
theorem dJ2_indexOfSupplementary_4cfef_28 : decode cJ2_indexOfSupplementary_4cfef 28 = .ok (.iload 6, 2) := by decide +kernel
theorem dJ2_indexOfSupplementary_4cfef_30 : decode cJ2_indexOfSupplementary_4cfef 30 = .ok (.iload_n 3, 1) := by decide +kernel
theorem dJ2_indexOfSupplementary_4cfef_31 : decode cJ2_indexOfSupplementary_4cfef 31 = .ok (.iconst 1, 1) := by decide +kernel
theorem dJ2_indexOfSupplementary_4cfef_32 : decode cJ2_indexOfSupplementary_4cfef 32 = .ok (.isub, 1) := by decide +kernel
theorem dJ2_indexOfSupplementary_4cfef_33 : decode cJ2_indexOfSupplementary_4cfef 33 = .ok (.if_icmp .ge 36, 3) := by decide +kernel
theorem dJ2_indexOfSupplementary_4cfef_36 : decode cJ2_indexOfSupplementary_4cfef 36 = .ok (.aload_n 0, 1) := by decide +kernel
theorem dJ2_indexOfSupplementary_4cfef_37 : decode cJ2_indexOfSupplementary_4cfef 37 = .ok (.iload 6, 2) := by decide +kernel
theorem dJ2_indexOfSupplementary_4cfef_39 : decode cJ2_indexOfSupplementary_4cfef 39 = .ok (.invokestatic 71, 3) := by decide +kernel
theorem dJ2_indexOfSupplementary_4cfef_42 : decode cJ2_indexOfSupplementary_4cfef 42 = .ok (.iload 4, 2) := by decide +kernel
theorem dJ2_indexOfSupplementary_4cfef_44 : decode cJ2_indexOfSupplementary_4cfef 44 = .ok (.if_icmp .ne 19, 3) := by decide +kernel
theorem dJ2_indexOfSupplementary_4cfef_47 : decode cJ2_indexOfSupplementary_4cfef 47 = .ok (.aload_n 0, 1) := by decide +kernel
theorem dJ2_indexOfSupplementary_4cfef_48 : decode cJ2_indexOfSupplementary_4cfef 48 = .ok (.iload 6, 2) := by decide +kernel
theorem dJ2_indexOfSupplementary_4cfef_50 : decode cJ2_indexOfSupplementary_4cfef 50 = .ok (.iconst 1, 1) := by decide +kernel
theorem dJ2_indexOfSupplementary_4cfef_51 : decode cJ2_indexOfSupplementary_4cfef 51 = .ok (.iadd, 1) := by decide +kernel
theorem dJ2_indexOfSupplementary_4cfef_52 : decode cJ2_indexOfSupplementary_4cfef 52 = .ok (.invokestatic 71, 3) := by decide +kernel
theorem dJ2_indexOfSupplementary_4cfef_55 : decode cJ2_indexOfSupplementary_4cfef 55 = .ok (.iload 5, 2) := by decide +kernel
theorem dJ2_indexOfSupplementary_4cfef_57 : decode cJ2_indexOfSupplementary_4cfef 57 = .ok (.if_icmp .ne 6, 3) := by decide +kernel
theorem dJ2_indexOfSupplementary_4cfef_60 : decode cJ2_indexOfSupplementary_4cfef 60 = .ok (.iload 6, 2) := by decide +kernel
theorem dJ2_indexOfSupplementary_4cfef_62 : decode cJ2_indexOfSupplementary_4cfef 62 = .ok (.ireturn, 1) := by decide +kernel
theorem dJ2_indexOfSupplementary_4cfef_63 : decode cJ2_indexOfSupplementary_4cfef 63 = .ok (.iinc 6 1, 3) := by decide +kernel
theorem dJ2_indexOfSupplementary_4cfef_66 : decode cJ2_indexOfSupplementary_4cfef 66 = .ok (.goto (-38), 3) := by decide +kernel
theorem dJ2_indexOfSupplementary_4cfef_69 : decode cJ2_indexOfSupplementary_4cfef 69 = .ok (.iconst (-1), 1) := by decide +kernel
theorem dJ2_indexOfSupplementary_4cfef_70 : decode cJ2_indexOfSupplementary_4cfef 70 = .ok (.ireturn, 1) := by decide +kernel
theorem dJ2_charAt_3b067_0 : decode cJ2_charAt_3b067 0 = .ok (.iload_n 1, 1) := by decide +kernel
theorem dJ2_charAt_3b067_1 : decode cJ2_charAt_3b067 1 = .ok (.aload_n 0, 1) := by decide +kernel
theorem dJ2_charAt_3b067_2 : decode cJ2_charAt_3b067 2 = .ok (.invokestatic 67, 3) := by decide +kernel
theorem dJ2_charAt_3b067_5 : decode cJ2_charAt_3b067 5 = .ok (.aload_n 0, 1) := by decide +kernel
theorem dJ2_charAt_3b067_6 : decode cJ2_charAt_3b067 6 = .ok (.iload_n 1, 1) := by decide +kernel
theorem dJ2_charAt_3b067_7 : decode cJ2_charAt_3b067 7 = .ok (.invokestatic 71, 3) := by decide +kernel
theorem dJ2_charAt_3b067_10 : decode cJ2_charAt_3b067 10 = .ok (.ireturn, 1) := by decide +kernel
theorem dJ2_checkIndex_2214a_0 : decode cJ2_checkIndex_2214a 0 = .ok (.iload_n 0, 1) := by decide +kernel
theorem dJ2_checkIndex_2214a_1 : decode cJ2_checkIndex_2214a 1 = .ok (.aload_n 1, 1) := by decide +kernel
theorem dJ2_checkIndex_2214a_2 : decode cJ2_checkIndex_2214a 2 = .ok (.invokestatic 48, 3) := by decide +kernel
theorem dJ2_checkIndex_2214a_5 : decode cJ2_checkIndex_2214a 5 = .ok (.invokestatic 414, 3) := by decide +kernel
theorem dJ2_checkIndex_2214a_8 : decode cJ2_checkIndex_2214a 8 = .ok (.return_, 1) := by decide +kernel
theorem dJ2_checkBoundsBeginEnd_d044e_0 : decode cJ2_checkBoundsBeginEnd_d044e 0 = .ok (.iload_n 0, 1) := by decide +kernel
theorem dJ2_checkBoundsBeginEnd_d044e_1 : decode cJ2_checkBoundsBeginEnd_d044e 1 = .ok (.iload_n 1, 1) := by decide +kernel
theorem dJ2_checkBoundsBeginEnd_d044e_2 : decode cJ2_checkBoundsBeginEnd_d044e 2 = .ok (.aload_n 2, 1) := by decide +kernel
theorem dJ2_checkBoundsBeginEnd_d044e_3 : decode cJ2_checkBoundsBeginEnd_d044e 3 = .ok (.invokestatic 48, 3) := by decide +kernel
theorem dJ2_checkBoundsBeginEnd_d044e_6 : decode cJ2_checkBoundsBeginEnd_d044e 6 = .ok (.invokestatic 241, 3) := by decide +kernel
theorem dJ2_checkBoundsBeginEnd_d044e_9 : decode cJ2_checkBoundsBeginEnd_d044e 9 = .ok (.return_, 1) := by decide +kernel
theorem dJ7_fill_d0a16_0 : decode cJ7_fill_d0a16 0 = .ok (.iconst 0, 1) := by decide +kernel
theorem dJ7_fill_d0a16_1 : decode cJ7_fill_d0a16 1 = .ok (.istore_n 3, 1) := by decide +kernel
theorem dJ7_fill_d0a16_2 : decode cJ7_fill_d0a16 2 = .ok (.aload_n 0, 1) := by decide +kernel
theorem dJ7_fill_d0a16_3 : decode cJ7_fill_d0a16 3 = .ok (.arraylength, 1) := by decide +kernel
theorem dJ7_fill_d0a16_4 : decode cJ7_fill_d0a16 4 = .ok (.istore 4, 2) := by decide +kernel
theorem dJ7_fill_d0a16_6 : decode cJ7_fill_d0a16 6 = .ok (.iload_n 3, 1) := by decide +kernel
theorem dJ7_fill_d0a16_7 : decode cJ7_fill_d0a16 7 = .ok (.iload 4, 2) := by decide +kernel
theorem dJ7_fill_d0a16_9 : decode cJ7_fill_d0a16 9 = .ok (.if_icmp .ge 13, 3) := by decide +kernel
theorem dJ7_fill_d0a16_12 : decode cJ7_fill_d0a16 12 = .ok (.aload_n 0, 1) := by decide +kernel
theorem dJ7_fill_d0a16_13 : decode cJ7_fill_d0a16 13 = .ok (.iload_n 3, 1) := by decide +kernel
theorem dJ7_fill_d0a16_14 : decode cJ7_fill_d0a16 14 = .ok (.lload_n 1, 1) := by decide +kernel
theorem dJ7_fill_d0a16_15 : decode cJ7_fill_d0a16 15 = .ok (.lastore, 1) := by decide +kernel
theorem dJ7_fill_d0a16_16 : decode cJ7_fill_d0a16 16 = .ok (.iinc 3 1, 3) := by decide +kernel
theorem dJ7_fill_d0a16_19 : decode cJ7_fill_d0a16 19 = .ok (.goto (-13), 3) := by decide +kernel
theorem dJ7_fill_d0a16_22 : decode cJ7_fill_d0a16 22 = .ok (.return_, 1) := by decide +kernel
theorem dJ3_checkIndex_8e157_0 : decode cJ3_checkIndex_8e157 0 = .ok (.iload_n 0, 1) := by decide +kernel
theorem dJ3_checkIndex_8e157_1 : decode cJ3_checkIndex_8e157 1 = .ok (.ifCond .lt 8, 3) := by decide +kernel
theorem dJ3_checkIndex_8e157_4 : decode cJ3_checkIndex_8e157 4 = .ok (.iload_n 0, 1) := by decide +kernel
theorem dJ3_checkIndex_8e157_5 : decode cJ3_checkIndex_8e157 5 = .ok (.iload_n 1, 1) := by decide +kernel
theorem dJ3_checkIndex_8e157_6 : decode cJ3_checkIndex_8e157 6 = .ok (.if_icmp .lt 10, 3) := by decide +kernel
theorem dJ3_checkIndex_8e157_9 : decode cJ3_checkIndex_8e157 9 = .ok (.aload_n 2, 1) := by decide +kernel
theorem dJ3_checkIndex_8e157_10 : decode cJ3_checkIndex_8e157 10 = .ok (.iload_n 0, 1) := by decide +kernel
theorem dJ3_checkIndex_8e157_11 : decode cJ3_checkIndex_8e157 11 = .ok (.iload_n 1, 1) := by decide +kernel
theorem dJ3_checkIndex_8e157_12 : decode cJ3_checkIndex_8e157 12 = .ok (.invokestatic 95, 3) := by decide +kernel
theorem dJ3_checkIndex_8e157_15 : decode cJ3_checkIndex_8e157 15 = .ok (.athrow, 1) := by decide +kernel
theorem dJ3_checkIndex_8e157_16 : decode cJ3_checkIndex_8e157 16 = .ok (.iload_n 0, 1) := by decide +kernel
theorem dJ3_checkIndex_8e157_17 : decode cJ3_checkIndex_8e157 17 = .ok (.ireturn, 1) := by decide +kernel
theorem dJ3_checkFromToIndex_8c36e_0 : decode cJ3_checkFromToIndex_8c36e 0 = .ok (.iload_n 0, 1) := by decide +kernel
theorem dJ3_checkFromToIndex_8c36e_1 : decode cJ3_checkFromToIndex_8c36e 1 = .ok (.ifCond .lt 13, 3) := by decide +kernel
theorem dJ3_checkFromToIndex_8c36e_4 : decode cJ3_checkFromToIndex_8c36e 4 = .ok (.iload_n 0, 1) := by decide +kernel
theorem dJ3_checkFromToIndex_8c36e_5 : decode cJ3_checkFromToIndex_8c36e 5 = .ok (.iload_n 1, 1) := by decide +kernel
theorem dJ3_checkFromToIndex_8c36e_6 : decode cJ3_checkFromToIndex_8c36e 6 = .ok (.if_icmp .gt 8, 3) := by decide +kernel
theorem dJ3_checkFromToIndex_8c36e_9 : decode cJ3_checkFromToIndex_8c36e 9 = .ok (.iload_n 1, 1) := by decide +kernel
theorem dJ3_checkFromToIndex_8c36e_10 : decode cJ3_checkFromToIndex_8c36e 10 = .ok (.iload_n 2, 1) := by decide +kernel
theorem dJ3_checkFromToIndex_8c36e_11 : decode cJ3_checkFromToIndex_8c36e 11 = .ok (.if_icmp .le 11, 3) := by decide +kernel
theorem dJ3_checkFromToIndex_8c36e_14 : decode cJ3_checkFromToIndex_8c36e 14 = .ok (.aload_n 3, 1) := by decide +kernel
theorem dJ3_checkFromToIndex_8c36e_15 : decode cJ3_checkFromToIndex_8c36e 15 = .ok (.iload_n 0, 1) := by decide +kernel
theorem dJ3_checkFromToIndex_8c36e_16 : decode cJ3_checkFromToIndex_8c36e 16 = .ok (.iload_n 1, 1) := by decide +kernel
theorem dJ3_checkFromToIndex_8c36e_17 : decode cJ3_checkFromToIndex_8c36e 17 = .ok (.iload_n 2, 1) := by decide +kernel
theorem dJ3_checkFromToIndex_8c36e_18 : decode cJ3_checkFromToIndex_8c36e 18 = .ok (.invokestatic 99, 3) := by decide +kernel
theorem dJ3_checkFromToIndex_8c36e_21 : decode cJ3_checkFromToIndex_8c36e 21 = .ok (.athrow, 1) := by decide +kernel
theorem dJ3_checkFromToIndex_8c36e_22 : decode cJ3_checkFromToIndex_8c36e 22 = .ok (.iload_n 0, 1) := by decide +kernel
theorem dJ3_checkFromToIndex_8c36e_23 : decode cJ3_checkFromToIndex_8c36e 23 = .ok (.ireturn, 1) := by decide +kernel
theorem dL_law_0 : decode cL_law 0 = .ok (.new 7, 3) := by decide +kernel
theorem dL_law_3 : decode cL_law 3 = .ok (.dup, 1) := by decide +kernel
theorem dL_law_4 : decode cL_law 4 = .ok (.invokespecial 9, 3) := by decide +kernel
theorem dL_law_7 : decode cL_law 7 = .ok (.astore_n 1, 1) := by decide +kernel
theorem dL_law_8 : decode cL_law 8 = .ok (.new 10, 3) := by decide +kernel
theorem dL_law_11 : decode cL_law 11 = .ok (.dup, 1) := by decide +kernel
theorem dL_law_12 : decode cL_law 12 = .ok (.invokespecial 12, 3) := by decide +kernel
theorem dL_law_15 : decode cL_law 15 = .ok (.astore_n 2, 1) := by decide +kernel
theorem dL_law_16 : decode cL_law 16 = .ok (.iconst 0, 1) := by decide +kernel
theorem dL_law_17 : decode cL_law 17 = .ok (.istore_n 3, 1) := by decide +kernel
theorem dL_law_18 : decode cL_law 18 = .ok (.iload_n 3, 1) := by decide +kernel
theorem dL_law_19 : decode cL_law 19 = .ok (.aload_n 0, 1) := by decide +kernel
theorem dL_law_20 : decode cL_law 20 = .ok (.arraylength, 1) := by decide +kernel
theorem dL_law_21 : decode cL_law 21 = .ok (.bipush 6, 2) := by decide +kernel
theorem dL_law_23 : decode cL_law 23 = .ok (.isub, 1) := by decide +kernel
theorem dL_law_24 : decode cL_law 24 = .ok (.if_icmp .gt 1416, 3) := by decide +kernel
theorem dL_law_27 : decode cL_law 27 = .ok (.aload_n 0, 1) := by decide +kernel
theorem dL_law_28 : decode cL_law 28 = .ok (.iload_n 3, 1) := by decide +kernel
theorem dL_law_29 : decode cL_law 29 = .ok (.iaload, 1) := by decide +kernel
theorem dL_law_30 : decode cL_law 30 = .ok (.bipush 63, 2) := by decide +kernel
theorem dL_law_32 : decode cL_law 32 = .ok (.iand, 1) := by decide +kernel
theorem dL_law_33 : decode cL_law 33 = .ok (.tableswitch 1401 0 38 #[171, 214, 247, 290, 323, 356, 389, 432, 455, 468, 491, 524, 557, 590, 633, 656, 679, 702, 725, 758, 791, 814, 827, 860, 883, 937, 961, 984, 1007, 1040, 1053, 1066, 1109, 1132, 1165, 1188, 1231, 1304, 1338], 171) := by decide +kernel
theorem dL_law_204 : decode cL_law 204 = .ok (.aload_n 1, 1) := by decide +kernel
theorem dL_law_205 : decode cL_law 205 = .ok (.aload_n 0, 1) := by decide +kernel
theorem dL_law_206 : decode cL_law 206 = .ok (.iload_n 3, 1) := by decide +kernel
theorem dL_law_207 : decode cL_law 207 = .ok (.iconst 1, 1) := by decide +kernel
theorem dL_law_208 : decode cL_law 208 = .ok (.iadd, 1) := by decide +kernel
theorem dL_law_209 : decode cL_law 209 = .ok (.iaload, 1) := by decide +kernel
theorem dL_law_210 : decode cL_law 210 = .ok (.aload_n 0, 1) := by decide +kernel
theorem dL_law_211 : decode cL_law 211 = .ok (.iload_n 3, 1) := by decide +kernel
theorem dL_law_212 : decode cL_law 212 = .ok (.iconst 2, 1) := by decide +kernel
theorem dL_law_213 : decode cL_law 213 = .ok (.iadd, 1) := by decide +kernel
theorem dL_law_214 : decode cL_law 214 = .ok (.iaload, 1) := by decide +kernel
theorem dL_law_215 : decode cL_law 215 = .ok (.aload_n 0, 1) := by decide +kernel
theorem dL_law_216 : decode cL_law 216 = .ok (.iload_n 3, 1) := by decide +kernel
theorem dL_law_217 : decode cL_law 217 = .ok (.iconst 3, 1) := by decide +kernel
theorem dL_law_218 : decode cL_law 218 = .ok (.iadd, 1) := by decide +kernel
theorem dL_law_219 : decode cL_law 219 = .ok (.iaload, 1) := by decide +kernel
theorem dL_law_220 : decode cL_law 220 = .ok (.invokevirtual 13, 3) := by decide +kernel
theorem dL_law_223 : decode cL_law 223 = .ok (.aload_n 2, 1) := by decide +kernel
theorem dL_law_224 : decode cL_law 224 = .ok (.aload_n 0, 1) := by decide +kernel
theorem dL_law_225 : decode cL_law 225 = .ok (.iload_n 3, 1) := by decide +kernel
theorem dL_law_226 : decode cL_law 226 = .ok (.iconst 1, 1) := by decide +kernel
theorem dL_law_227 : decode cL_law 227 = .ok (.iadd, 1) := by decide +kernel
theorem dL_law_228 : decode cL_law 228 = .ok (.iaload, 1) := by decide +kernel
theorem dL_law_229 : decode cL_law 229 = .ok (.aload_n 0, 1) := by decide +kernel
theorem dL_law_230 : decode cL_law 230 = .ok (.iload_n 3, 1) := by decide +kernel
theorem dL_law_231 : decode cL_law 231 = .ok (.iconst 2, 1) := by decide +kernel
theorem dL_law_232 : decode cL_law 232 = .ok (.iadd, 1) := by decide +kernel
theorem dL_law_233 : decode cL_law 233 = .ok (.iaload, 1) := by decide +kernel
theorem dL_law_234 : decode cL_law 234 = .ok (.aload_n 0, 1) := by decide +kernel
theorem dL_law_235 : decode cL_law 235 = .ok (.iload_n 3, 1) := by decide +kernel
theorem dL_law_236 : decode cL_law 236 = .ok (.iconst 3, 1) := by decide +kernel
theorem dL_law_237 : decode cL_law 237 = .ok (.iadd, 1) := by decide +kernel
theorem dL_law_238 : decode cL_law 238 = .ok (.iaload, 1) := by decide +kernel
theorem dL_law_239 : decode cL_law 239 = .ok (.invokevirtual 17, 3) := by decide +kernel
theorem dL_law_242 : decode cL_law 242 = .ok (.if_icmp .eq 1192, 3) := by decide +kernel
theorem dL_law_245 : decode cL_law 245 = .ok (.iconst 0, 1) := by decide +kernel
theorem dL_law_246 : decode cL_law 246 = .ok (.ireturn, 1) := by decide +kernel
theorem dL_law_247 : decode cL_law 247 = .ok (.aload_n 1, 1) := by decide +kernel
theorem dL_law_248 : decode cL_law 248 = .ok (.aload_n 0, 1) := by decide +kernel
theorem dL_law_249 : decode cL_law 249 = .ok (.iload_n 3, 1) := by decide +kernel
theorem dL_law_250 : decode cL_law 250 = .ok (.iconst 1, 1) := by decide +kernel
theorem dL_law_251 : decode cL_law 251 = .ok (.iadd, 1) := by decide +kernel
theorem dL_law_252 : decode cL_law 252 = .ok (.iaload, 1) := by decide +kernel
theorem dL_law_253 : decode cL_law 253 = .ok (.aload_n 0, 1) := by decide +kernel
theorem dL_law_254 : decode cL_law 254 = .ok (.iload_n 3, 1) := by decide +kernel
theorem dL_law_255 : decode cL_law 255 = .ok (.iconst 2, 1) := by decide +kernel
theorem dL_law_256 : decode cL_law 256 = .ok (.iadd, 1) := by decide +kernel
theorem dL_law_257 : decode cL_law 257 = .ok (.iaload, 1) := by decide +kernel
theorem dL_law_258 : decode cL_law 258 = .ok (.invokevirtual 18, 3) := by decide +kernel
theorem dL_law_261 : decode cL_law 261 = .ok (.aload_n 2, 1) := by decide +kernel
theorem dL_law_262 : decode cL_law 262 = .ok (.aload_n 0, 1) := by decide +kernel
theorem dL_law_263 : decode cL_law 263 = .ok (.iload_n 3, 1) := by decide +kernel
theorem dL_law_264 : decode cL_law 264 = .ok (.iconst 1, 1) := by decide +kernel
theorem dL_law_265 : decode cL_law 265 = .ok (.iadd, 1) := by decide +kernel
theorem dL_law_266 : decode cL_law 266 = .ok (.iaload, 1) := by decide +kernel
theorem dL_law_267 : decode cL_law 267 = .ok (.aload_n 0, 1) := by decide +kernel
theorem dL_law_268 : decode cL_law 268 = .ok (.iload_n 3, 1) := by decide +kernel
theorem dL_law_269 : decode cL_law 269 = .ok (.iconst 2, 1) := by decide +kernel
theorem dL_law_270 : decode cL_law 270 = .ok (.iadd, 1) := by decide +kernel
theorem dL_law_271 : decode cL_law 271 = .ok (.iaload, 1) := by decide +kernel
theorem dL_law_272 : decode cL_law 272 = .ok (.invokevirtual 22, 3) := by decide +kernel
theorem dL_law_275 : decode cL_law 275 = .ok (.if_icmp .eq 1159, 3) := by decide +kernel
theorem dL_law_278 : decode cL_law 278 = .ok (.iconst 0, 1) := by decide +kernel
theorem dL_law_279 : decode cL_law 279 = .ok (.ireturn, 1) := by decide +kernel
theorem dL_law_280 : decode cL_law 280 = .ok (.aload_n 1, 1) := by decide +kernel
theorem dL_law_281 : decode cL_law 281 = .ok (.aload_n 0, 1) := by decide +kernel
theorem dL_law_282 : decode cL_law 282 = .ok (.iload_n 3, 1) := by decide +kernel
theorem dL_law_283 : decode cL_law 283 = .ok (.iconst 1, 1) := by decide +kernel
theorem dL_law_284 : decode cL_law 284 = .ok (.iadd, 1) := by decide +kernel
theorem dL_law_285 : decode cL_law 285 = .ok (.iaload, 1) := by decide +kernel
theorem dL_law_286 : decode cL_law 286 = .ok (.aload_n 0, 1) := by decide +kernel
theorem dL_law_287 : decode cL_law 287 = .ok (.iload_n 3, 1) := by decide +kernel
theorem dL_law_288 : decode cL_law 288 = .ok (.iconst 2, 1) := by decide +kernel
theorem dL_law_289 : decode cL_law 289 = .ok (.iadd, 1) := by decide +kernel
theorem dL_law_290 : decode cL_law 290 = .ok (.iaload, 1) := by decide +kernel
theorem dL_law_291 : decode cL_law 291 = .ok (.aload_n 0, 1) := by decide +kernel
theorem dL_law_292 : decode cL_law 292 = .ok (.iload_n 3, 1) := by decide +kernel
theorem dL_law_293 : decode cL_law 293 = .ok (.iconst 3, 1) := by decide +kernel
theorem dL_law_294 : decode cL_law 294 = .ok (.iadd, 1) := by decide +kernel
theorem dL_law_295 : decode cL_law 295 = .ok (.iaload, 1) := by decide +kernel
theorem dL_law_296 : decode cL_law 296 = .ok (.invokevirtual 23, 3) := by decide +kernel
theorem dL_law_299 : decode cL_law 299 = .ok (.aload_n 2, 1) := by decide +kernel
theorem dL_law_300 : decode cL_law 300 = .ok (.aload_n 0, 1) := by decide +kernel
theorem dL_law_301 : decode cL_law 301 = .ok (.iload_n 3, 1) := by decide +kernel
theorem dL_law_302 : decode cL_law 302 = .ok (.iconst 1, 1) := by decide +kernel
theorem dL_law_303 : decode cL_law 303 = .ok (.iadd, 1) := by decide +kernel
theorem dL_law_304 : decode cL_law 304 = .ok (.iaload, 1) := by decide +kernel
theorem dL_law_305 : decode cL_law 305 = .ok (.aload_n 0, 1) := by decide +kernel
theorem dL_law_306 : decode cL_law 306 = .ok (.iload_n 3, 1) := by decide +kernel
theorem dL_law_307 : decode cL_law 307 = .ok (.iconst 2, 1) := by decide +kernel
theorem dL_law_308 : decode cL_law 308 = .ok (.iadd, 1) := by decide +kernel
theorem dL_law_309 : decode cL_law 309 = .ok (.iaload, 1) := by decide +kernel
theorem dL_law_310 : decode cL_law 310 = .ok (.aload_n 0, 1) := by decide +kernel
theorem dL_law_311 : decode cL_law 311 = .ok (.iload_n 3, 1) := by decide +kernel
theorem dL_law_312 : decode cL_law 312 = .ok (.iconst 3, 1) := by decide +kernel
theorem dL_law_313 : decode cL_law 313 = .ok (.iadd, 1) := by decide +kernel
theorem dL_law_314 : decode cL_law 314 = .ok (.iaload, 1) := by decide +kernel
theorem dL_law_315 : decode cL_law 315 = .ok (.invokevirtual 26, 3) := by decide +kernel
theorem dL_law_318 : decode cL_law 318 = .ok (.if_icmp .eq 1116, 3) := by decide +kernel
theorem dL_law_321 : decode cL_law 321 = .ok (.iconst 0, 1) := by decide +kernel
theorem dL_law_322 : decode cL_law 322 = .ok (.ireturn, 1) := by decide +kernel
theorem dL_law_323 : decode cL_law 323 = .ok (.aload_n 1, 1) := by decide +kernel
theorem dL_law_324 : decode cL_law 324 = .ok (.aload_n 0, 1) := by decide +kernel
theorem dL_law_325 : decode cL_law 325 = .ok (.iload_n 3, 1) := by decide +kernel
theorem dL_law_326 : decode cL_law 326 = .ok (.iconst 1, 1) := by decide +kernel
theorem dL_law_327 : decode cL_law 327 = .ok (.iadd, 1) := by decide +kernel
theorem dL_law_328 : decode cL_law 328 = .ok (.iaload, 1) := by decide +kernel
theorem dL_law_329 : decode cL_law 329 = .ok (.aload_n 0, 1) := by decide +kernel
theorem dL_law_330 : decode cL_law 330 = .ok (.iload_n 3, 1) := by decide +kernel
theorem dL_law_331 : decode cL_law 331 = .ok (.iconst 2, 1) := by decide +kernel
theorem dL_law_332 : decode cL_law 332 = .ok (.iadd, 1) := by decide +kernel
theorem dL_law_333 : decode cL_law 333 = .ok (.iaload, 1) := by decide +kernel
theorem dL_law_334 : decode cL_law 334 = .ok (.invokevirtual 27, 3) := by decide +kernel
theorem dL_law_337 : decode cL_law 337 = .ok (.aload_n 2, 1) := by decide +kernel
theorem dL_law_338 : decode cL_law 338 = .ok (.aload_n 0, 1) := by decide +kernel
theorem dL_law_339 : decode cL_law 339 = .ok (.iload_n 3, 1) := by decide +kernel
theorem dL_law_340 : decode cL_law 340 = .ok (.iconst 1, 1) := by decide +kernel
theorem dL_law_341 : decode cL_law 341 = .ok (.iadd, 1) := by decide +kernel
theorem dL_law_342 : decode cL_law 342 = .ok (.iaload, 1) := by decide +kernel
theorem dL_law_343 : decode cL_law 343 = .ok (.aload_n 0, 1) := by decide +kernel
theorem dL_law_344 : decode cL_law 344 = .ok (.iload_n 3, 1) := by decide +kernel
theorem dL_law_345 : decode cL_law 345 = .ok (.iconst 2, 1) := by decide +kernel
theorem dL_law_346 : decode cL_law 346 = .ok (.iadd, 1) := by decide +kernel
theorem dL_law_347 : decode cL_law 347 = .ok (.iaload, 1) := by decide +kernel
theorem dL_law_348 : decode cL_law 348 = .ok (.invokevirtual 30, 3) := by decide +kernel
theorem dL_law_351 : decode cL_law 351 = .ok (.if_icmp .eq 1083, 3) := by decide +kernel
theorem dL_law_354 : decode cL_law 354 = .ok (.iconst 0, 1) := by decide +kernel
theorem dL_law_355 : decode cL_law 355 = .ok (.ireturn, 1) := by decide +kernel
theorem dL_law_356 : decode cL_law 356 = .ok (.aload_n 1, 1) := by decide +kernel
theorem dL_law_357 : decode cL_law 357 = .ok (.aload_n 0, 1) := by decide +kernel
theorem dL_law_358 : decode cL_law 358 = .ok (.iload_n 3, 1) := by decide +kernel
theorem dL_law_359 : decode cL_law 359 = .ok (.iconst 1, 1) := by decide +kernel
theorem dL_law_360 : decode cL_law 360 = .ok (.iadd, 1) := by decide +kernel
theorem dL_law_361 : decode cL_law 361 = .ok (.iaload, 1) := by decide +kernel
theorem dL_law_362 : decode cL_law 362 = .ok (.aload_n 0, 1) := by decide +kernel
theorem dL_law_363 : decode cL_law 363 = .ok (.iload_n 3, 1) := by decide +kernel
theorem dL_law_364 : decode cL_law 364 = .ok (.iconst 2, 1) := by decide +kernel
theorem dL_law_365 : decode cL_law 365 = .ok (.iadd, 1) := by decide +kernel
theorem dL_law_366 : decode cL_law 366 = .ok (.iaload, 1) := by decide +kernel
theorem dL_law_367 : decode cL_law 367 = .ok (.invokevirtual 31, 3) := by decide +kernel
theorem dL_law_370 : decode cL_law 370 = .ok (.aload_n 2, 1) := by decide +kernel
theorem dL_law_371 : decode cL_law 371 = .ok (.aload_n 0, 1) := by decide +kernel
theorem dL_law_372 : decode cL_law 372 = .ok (.iload_n 3, 1) := by decide +kernel
theorem dL_law_373 : decode cL_law 373 = .ok (.iconst 1, 1) := by decide +kernel
theorem dL_law_374 : decode cL_law 374 = .ok (.iadd, 1) := by decide +kernel
theorem dL_law_375 : decode cL_law 375 = .ok (.iaload, 1) := by decide +kernel
theorem dL_law_376 : decode cL_law 376 = .ok (.aload_n 0, 1) := by decide +kernel
theorem dL_law_377 : decode cL_law 377 = .ok (.iload_n 3, 1) := by decide +kernel
theorem dL_law_378 : decode cL_law 378 = .ok (.iconst 2, 1) := by decide +kernel
theorem dL_law_379 : decode cL_law 379 = .ok (.iadd, 1) := by decide +kernel
theorem dL_law_380 : decode cL_law 380 = .ok (.iaload, 1) := by decide +kernel
theorem dL_law_381 : decode cL_law 381 = .ok (.invokevirtual 34, 3) := by decide +kernel
theorem dL_law_384 : decode cL_law 384 = .ok (.if_icmp .eq 1050, 3) := by decide +kernel
theorem dL_law_387 : decode cL_law 387 = .ok (.iconst 0, 1) := by decide +kernel
theorem dL_law_388 : decode cL_law 388 = .ok (.ireturn, 1) := by decide +kernel
theorem dL_law_389 : decode cL_law 389 = .ok (.aload_n 1, 1) := by decide +kernel
theorem dL_law_390 : decode cL_law 390 = .ok (.aload_n 0, 1) := by decide +kernel
theorem dL_law_391 : decode cL_law 391 = .ok (.iload_n 3, 1) := by decide +kernel
theorem dL_law_392 : decode cL_law 392 = .ok (.iconst 1, 1) := by decide +kernel
theorem dL_law_393 : decode cL_law 393 = .ok (.iadd, 1) := by decide +kernel
theorem dL_law_394 : decode cL_law 394 = .ok (.iaload, 1) := by decide +kernel
theorem dL_law_395 : decode cL_law 395 = .ok (.aload_n 0, 1) := by decide +kernel
theorem dL_law_396 : decode cL_law 396 = .ok (.iload_n 3, 1) := by decide +kernel
theorem dL_law_397 : decode cL_law 397 = .ok (.iconst 2, 1) := by decide +kernel
theorem dL_law_398 : decode cL_law 398 = .ok (.iadd, 1) := by decide +kernel
theorem dL_law_399 : decode cL_law 399 = .ok (.iaload, 1) := by decide +kernel
theorem dL_law_400 : decode cL_law 400 = .ok (.invokevirtual 35, 3) := by decide +kernel
theorem dL_law_403 : decode cL_law 403 = .ok (.aload_n 2, 1) := by decide +kernel
theorem dL_law_404 : decode cL_law 404 = .ok (.aload_n 0, 1) := by decide +kernel
theorem dL_law_405 : decode cL_law 405 = .ok (.iload_n 3, 1) := by decide +kernel
theorem dL_law_406 : decode cL_law 406 = .ok (.iconst 1, 1) := by decide +kernel
theorem dL_law_407 : decode cL_law 407 = .ok (.iadd, 1) := by decide +kernel
theorem dL_law_408 : decode cL_law 408 = .ok (.iaload, 1) := by decide +kernel
theorem dL_law_409 : decode cL_law 409 = .ok (.aload_n 0, 1) := by decide +kernel
theorem dL_law_410 : decode cL_law 410 = .ok (.iload_n 3, 1) := by decide +kernel
theorem dL_law_411 : decode cL_law 411 = .ok (.iconst 2, 1) := by decide +kernel
theorem dL_law_412 : decode cL_law 412 = .ok (.iadd, 1) := by decide +kernel
theorem dL_law_413 : decode cL_law 413 = .ok (.iaload, 1) := by decide +kernel
theorem dL_law_414 : decode cL_law 414 = .ok (.invokevirtual 38, 3) := by decide +kernel
theorem dL_law_417 : decode cL_law 417 = .ok (.if_icmp .eq 1017, 3) := by decide +kernel
theorem dL_law_420 : decode cL_law 420 = .ok (.iconst 0, 1) := by decide +kernel
theorem dL_law_421 : decode cL_law 421 = .ok (.ireturn, 1) := by decide +kernel
theorem dL_law_422 : decode cL_law 422 = .ok (.aload_n 1, 1) := by decide +kernel
theorem dL_law_423 : decode cL_law 423 = .ok (.aload_n 0, 1) := by decide +kernel
theorem dL_law_424 : decode cL_law 424 = .ok (.iload_n 3, 1) := by decide +kernel
theorem dL_law_425 : decode cL_law 425 = .ok (.iconst 1, 1) := by decide +kernel
theorem dL_law_426 : decode cL_law 426 = .ok (.iadd, 1) := by decide +kernel
theorem dL_law_427 : decode cL_law 427 = .ok (.iaload, 1) := by decide +kernel
theorem dL_law_428 : decode cL_law 428 = .ok (.aload_n 0, 1) := by decide +kernel
theorem dL_law_429 : decode cL_law 429 = .ok (.iload_n 3, 1) := by decide +kernel
theorem dL_law_430 : decode cL_law 430 = .ok (.iconst 2, 1) := by decide +kernel
theorem dL_law_431 : decode cL_law 431 = .ok (.iadd, 1) := by decide +kernel
theorem dL_law_432 : decode cL_law 432 = .ok (.iaload, 1) := by decide +kernel
theorem dL_law_433 : decode cL_law 433 = .ok (.aload_n 0, 1) := by decide +kernel
theorem dL_law_434 : decode cL_law 434 = .ok (.iload_n 3, 1) := by decide +kernel
theorem dL_law_435 : decode cL_law 435 = .ok (.iconst 3, 1) := by decide +kernel
theorem dL_law_436 : decode cL_law 436 = .ok (.iadd, 1) := by decide +kernel
theorem dL_law_437 : decode cL_law 437 = .ok (.iaload, 1) := by decide +kernel
theorem dL_law_438 : decode cL_law 438 = .ok (.invokevirtual 39, 3) := by decide +kernel
theorem dL_law_441 : decode cL_law 441 = .ok (.aload_n 2, 1) := by decide +kernel
theorem dL_law_442 : decode cL_law 442 = .ok (.aload_n 0, 1) := by decide +kernel
theorem dL_law_443 : decode cL_law 443 = .ok (.iload_n 3, 1) := by decide +kernel
theorem dL_law_444 : decode cL_law 444 = .ok (.iconst 1, 1) := by decide +kernel
theorem dL_law_445 : decode cL_law 445 = .ok (.iadd, 1) := by decide +kernel
theorem dL_law_446 : decode cL_law 446 = .ok (.iaload, 1) := by decide +kernel
theorem dL_law_447 : decode cL_law 447 = .ok (.aload_n 0, 1) := by decide +kernel
theorem dL_law_448 : decode cL_law 448 = .ok (.iload_n 3, 1) := by decide +kernel
theorem dL_law_449 : decode cL_law 449 = .ok (.iconst 2, 1) := by decide +kernel
theorem dL_law_450 : decode cL_law 450 = .ok (.iadd, 1) := by decide +kernel
theorem dL_law_451 : decode cL_law 451 = .ok (.iaload, 1) := by decide +kernel
theorem dL_law_452 : decode cL_law 452 = .ok (.aload_n 0, 1) := by decide +kernel
theorem dL_law_453 : decode cL_law 453 = .ok (.iload_n 3, 1) := by decide +kernel
theorem dL_law_454 : decode cL_law 454 = .ok (.iconst 3, 1) := by decide +kernel
theorem dL_law_455 : decode cL_law 455 = .ok (.iadd, 1) := by decide +kernel
theorem dL_law_456 : decode cL_law 456 = .ok (.iaload, 1) := by decide +kernel
theorem dL_law_457 : decode cL_law 457 = .ok (.invokevirtual 42, 3) := by decide +kernel
theorem dL_law_460 : decode cL_law 460 = .ok (.if_icmp .eq 974, 3) := by decide +kernel
theorem dL_law_463 : decode cL_law 463 = .ok (.iconst 0, 1) := by decide +kernel
theorem dL_law_464 : decode cL_law 464 = .ok (.ireturn, 1) := by decide +kernel
theorem dL_law_465 : decode cL_law 465 = .ok (.aload_n 1, 1) := by decide +kernel
theorem dL_law_466 : decode cL_law 466 = .ok (.aload_n 0, 1) := by decide +kernel
theorem dL_law_467 : decode cL_law 467 = .ok (.iload_n 3, 1) := by decide +kernel
theorem dL_law_468 : decode cL_law 468 = .ok (.iconst 1, 1) := by decide +kernel
theorem dL_law_469 : decode cL_law 469 = .ok (.iadd, 1) := by decide +kernel
theorem dL_law_470 : decode cL_law 470 = .ok (.iaload, 1) := by decide +kernel
theorem dL_law_471 : decode cL_law 471 = .ok (.invokevirtual 43, 3) := by decide +kernel
theorem dL_law_474 : decode cL_law 474 = .ok (.aload_n 2, 1) := by decide +kernel
theorem dL_law_475 : decode cL_law 475 = .ok (.aload_n 0, 1) := by decide +kernel
theorem dL_law_476 : decode cL_law 476 = .ok (.iload_n 3, 1) := by decide +kernel
theorem dL_law_477 : decode cL_law 477 = .ok (.iconst 1, 1) := by decide +kernel
theorem dL_law_478 : decode cL_law 478 = .ok (.iadd, 1) := by decide +kernel
theorem dL_law_479 : decode cL_law 479 = .ok (.iaload, 1) := by decide +kernel
theorem dL_law_480 : decode cL_law 480 = .ok (.invokevirtual 47, 3) := by decide +kernel
theorem dL_law_483 : decode cL_law 483 = .ok (.if_icmp .eq 951, 3) := by decide +kernel
theorem dL_law_486 : decode cL_law 486 = .ok (.iconst 0, 1) := by decide +kernel
theorem dL_law_487 : decode cL_law 487 = .ok (.ireturn, 1) := by decide +kernel
theorem dL_law_488 : decode cL_law 488 = .ok (.aload_n 1, 1) := by decide +kernel
theorem dL_law_489 : decode cL_law 489 = .ok (.invokevirtual 48, 3) := by decide +kernel
theorem dL_law_492 : decode cL_law 492 = .ok (.aload_n 2, 1) := by decide +kernel
theorem dL_law_493 : decode cL_law 493 = .ok (.invokevirtual 52, 3) := by decide +kernel
theorem dL_law_496 : decode cL_law 496 = .ok (.if_icmp .eq 938, 3) := by decide +kernel
theorem dL_law_499 : decode cL_law 499 = .ok (.iconst 0, 1) := by decide +kernel
theorem dL_law_500 : decode cL_law 500 = .ok (.ireturn, 1) := by decide +kernel
theorem dL_law_501 : decode cL_law 501 = .ok (.aload_n 1, 1) := by decide +kernel
theorem dL_law_502 : decode cL_law 502 = .ok (.aload_n 0, 1) := by decide +kernel
theorem dL_law_503 : decode cL_law 503 = .ok (.iload_n 3, 1) := by decide +kernel
theorem dL_law_504 : decode cL_law 504 = .ok (.iconst 1, 1) := by decide +kernel
theorem dL_law_505 : decode cL_law 505 = .ok (.iadd, 1) := by decide +kernel
theorem dL_law_506 : decode cL_law 506 = .ok (.iaload, 1) := by decide +kernel
theorem dL_law_507 : decode cL_law 507 = .ok (.invokevirtual 53, 3) := by decide +kernel
theorem dL_law_510 : decode cL_law 510 = .ok (.aload_n 2, 1) := by decide +kernel
theorem dL_law_511 : decode cL_law 511 = .ok (.aload_n 0, 1) := by decide +kernel
theorem dL_law_512 : decode cL_law 512 = .ok (.iload_n 3, 1) := by decide +kernel
theorem dL_law_513 : decode cL_law 513 = .ok (.iconst 1, 1) := by decide +kernel
theorem dL_law_514 : decode cL_law 514 = .ok (.iadd, 1) := by decide +kernel
theorem dL_law_515 : decode cL_law 515 = .ok (.iaload, 1) := by decide +kernel
theorem dL_law_516 : decode cL_law 516 = .ok (.invokevirtual 56, 3) := by decide +kernel
theorem dL_law_519 : decode cL_law 519 = .ok (.if_icmp .eq 915, 3) := by decide +kernel
theorem dL_law_522 : decode cL_law 522 = .ok (.iconst 0, 1) := by decide +kernel
theorem dL_law_523 : decode cL_law 523 = .ok (.ireturn, 1) := by decide +kernel
theorem dL_law_524 : decode cL_law 524 = .ok (.aload_n 1, 1) := by decide +kernel
theorem dL_law_525 : decode cL_law 525 = .ok (.aload_n 0, 1) := by decide +kernel
theorem dL_law_526 : decode cL_law 526 = .ok (.iload_n 3, 1) := by decide +kernel
theorem dL_law_527 : decode cL_law 527 = .ok (.iconst 1, 1) := by decide +kernel
theorem dL_law_528 : decode cL_law 528 = .ok (.iadd, 1) := by decide +kernel
theorem dL_law_529 : decode cL_law 529 = .ok (.iaload, 1) := by decide +kernel
theorem dL_law_530 : decode cL_law 530 = .ok (.aload_n 0, 1) := by decide +kernel
theorem dL_law_531 : decode cL_law 531 = .ok (.iload_n 3, 1) := by decide +kernel
theorem dL_law_532 : decode cL_law 532 = .ok (.iconst 2, 1) := by decide +kernel
theorem dL_law_533 : decode cL_law 533 = .ok (.iadd, 1) := by decide +kernel
theorem dL_law_534 : decode cL_law 534 = .ok (.iaload, 1) := by decide +kernel
theorem dL_law_535 : decode cL_law 535 = .ok (.invokevirtual 57, 3) := by decide +kernel
theorem dL_law_538 : decode cL_law 538 = .ok (.aload_n 2, 1) := by decide +kernel
theorem dL_law_539 : decode cL_law 539 = .ok (.aload_n 0, 1) := by decide +kernel
theorem dL_law_540 : decode cL_law 540 = .ok (.iload_n 3, 1) := by decide +kernel
theorem dL_law_541 : decode cL_law 541 = .ok (.iconst 1, 1) := by decide +kernel
theorem dL_law_542 : decode cL_law 542 = .ok (.iadd, 1) := by decide +kernel
theorem dL_law_543 : decode cL_law 543 = .ok (.iaload, 1) := by decide +kernel
theorem dL_law_544 : decode cL_law 544 = .ok (.aload_n 0, 1) := by decide +kernel
theorem dL_law_545 : decode cL_law 545 = .ok (.iload_n 3, 1) := by decide +kernel
theorem dL_law_546 : decode cL_law 546 = .ok (.iconst 2, 1) := by decide +kernel
theorem dL_law_547 : decode cL_law 547 = .ok (.iadd, 1) := by decide +kernel
theorem dL_law_548 : decode cL_law 548 = .ok (.iaload, 1) := by decide +kernel
theorem dL_law_549 : decode cL_law 549 = .ok (.invokevirtual 60, 3) := by decide +kernel
theorem dL_law_552 : decode cL_law 552 = .ok (.if_icmp .eq 882, 3) := by decide +kernel
theorem dL_law_555 : decode cL_law 555 = .ok (.iconst 0, 1) := by decide +kernel
theorem dL_law_556 : decode cL_law 556 = .ok (.ireturn, 1) := by decide +kernel
theorem dL_law_557 : decode cL_law 557 = .ok (.aload_n 1, 1) := by decide +kernel
theorem dL_law_558 : decode cL_law 558 = .ok (.aload_n 0, 1) := by decide +kernel
theorem dL_law_559 : decode cL_law 559 = .ok (.iload_n 3, 1) := by decide +kernel
theorem dL_law_560 : decode cL_law 560 = .ok (.iconst 1, 1) := by decide +kernel
theorem dL_law_561 : decode cL_law 561 = .ok (.iadd, 1) := by decide +kernel
theorem dL_law_562 : decode cL_law 562 = .ok (.iaload, 1) := by decide +kernel
theorem dL_law_563 : decode cL_law 563 = .ok (.aload_n 0, 1) := by decide +kernel
theorem dL_law_564 : decode cL_law 564 = .ok (.iload_n 3, 1) := by decide +kernel
theorem dL_law_565 : decode cL_law 565 = .ok (.iconst 2, 1) := by decide +kernel
theorem dL_law_566 : decode cL_law 566 = .ok (.iadd, 1) := by decide +kernel
theorem dL_law_567 : decode cL_law 567 = .ok (.iaload, 1) := by decide +kernel
theorem dL_law_568 : decode cL_law 568 = .ok (.invokevirtual 61, 3) := by decide +kernel
theorem dL_law_571 : decode cL_law 571 = .ok (.aload_n 2, 1) := by decide +kernel
theorem dL_law_572 : decode cL_law 572 = .ok (.aload_n 0, 1) := by decide +kernel
theorem dL_law_573 : decode cL_law 573 = .ok (.iload_n 3, 1) := by decide +kernel
theorem dL_law_574 : decode cL_law 574 = .ok (.iconst 1, 1) := by decide +kernel
theorem dL_law_575 : decode cL_law 575 = .ok (.iadd, 1) := by decide +kernel
theorem dL_law_576 : decode cL_law 576 = .ok (.iaload, 1) := by decide +kernel
theorem dL_law_577 : decode cL_law 577 = .ok (.aload_n 0, 1) := by decide +kernel
theorem dL_law_578 : decode cL_law 578 = .ok (.iload_n 3, 1) := by decide +kernel
theorem dL_law_579 : decode cL_law 579 = .ok (.iconst 2, 1) := by decide +kernel
theorem dL_law_580 : decode cL_law 580 = .ok (.iadd, 1) := by decide +kernel
theorem dL_law_581 : decode cL_law 581 = .ok (.iaload, 1) := by decide +kernel
theorem dL_law_582 : decode cL_law 582 = .ok (.invokevirtual 64, 3) := by decide +kernel
theorem dL_law_585 : decode cL_law 585 = .ok (.if_icmp .eq 849, 3) := by decide +kernel
theorem dL_law_588 : decode cL_law 588 = .ok (.iconst 0, 1) := by decide +kernel
theorem dL_law_589 : decode cL_law 589 = .ok (.ireturn, 1) := by decide +kernel
theorem dL_law_590 : decode cL_law 590 = .ok (.aload_n 1, 1) := by decide +kernel
theorem dL_law_591 : decode cL_law 591 = .ok (.aload_n 0, 1) := by decide +kernel
theorem dL_law_592 : decode cL_law 592 = .ok (.iload_n 3, 1) := by decide +kernel
theorem dL_law_593 : decode cL_law 593 = .ok (.iconst 1, 1) := by decide +kernel
theorem dL_law_594 : decode cL_law 594 = .ok (.iadd, 1) := by decide +kernel
theorem dL_law_595 : decode cL_law 595 = .ok (.iaload, 1) := by decide +kernel
theorem dL_law_596 : decode cL_law 596 = .ok (.aload_n 0, 1) := by decide +kernel
theorem dL_law_597 : decode cL_law 597 = .ok (.iload_n 3, 1) := by decide +kernel
theorem dL_law_598 : decode cL_law 598 = .ok (.iconst 2, 1) := by decide +kernel
theorem dL_law_599 : decode cL_law 599 = .ok (.iadd, 1) := by decide +kernel
theorem dL_law_600 : decode cL_law 600 = .ok (.iaload, 1) := by decide +kernel
theorem dL_law_601 : decode cL_law 601 = .ok (.invokevirtual 65, 3) := by decide +kernel
theorem dL_law_604 : decode cL_law 604 = .ok (.aload_n 2, 1) := by decide +kernel
theorem dL_law_605 : decode cL_law 605 = .ok (.aload_n 0, 1) := by decide +kernel
theorem dL_law_606 : decode cL_law 606 = .ok (.iload_n 3, 1) := by decide +kernel
theorem dL_law_607 : decode cL_law 607 = .ok (.iconst 1, 1) := by decide +kernel
theorem dL_law_608 : decode cL_law 608 = .ok (.iadd, 1) := by decide +kernel
theorem dL_law_609 : decode cL_law 609 = .ok (.iaload, 1) := by decide +kernel
theorem dL_law_610 : decode cL_law 610 = .ok (.aload_n 0, 1) := by decide +kernel
theorem dL_law_611 : decode cL_law 611 = .ok (.iload_n 3, 1) := by decide +kernel
theorem dL_law_612 : decode cL_law 612 = .ok (.iconst 2, 1) := by decide +kernel
theorem dL_law_613 : decode cL_law 613 = .ok (.iadd, 1) := by decide +kernel
theorem dL_law_614 : decode cL_law 614 = .ok (.iaload, 1) := by decide +kernel
theorem dL_law_615 : decode cL_law 615 = .ok (.invokevirtual 68, 3) := by decide +kernel
theorem dL_law_618 : decode cL_law 618 = .ok (.if_icmp .eq 816, 3) := by decide +kernel
theorem dL_law_621 : decode cL_law 621 = .ok (.iconst 0, 1) := by decide +kernel
theorem dL_law_622 : decode cL_law 622 = .ok (.ireturn, 1) := by decide +kernel
theorem dL_law_623 : decode cL_law 623 = .ok (.aload_n 1, 1) := by decide +kernel
theorem dL_law_624 : decode cL_law 624 = .ok (.aload_n 0, 1) := by decide +kernel
theorem dL_law_625 : decode cL_law 625 = .ok (.iload_n 3, 1) := by decide +kernel
theorem dL_law_626 : decode cL_law 626 = .ok (.iconst 1, 1) := by decide +kernel
theorem dL_law_627 : decode cL_law 627 = .ok (.iadd, 1) := by decide +kernel
theorem dL_law_628 : decode cL_law 628 = .ok (.iaload, 1) := by decide +kernel
theorem dL_law_629 : decode cL_law 629 = .ok (.aload_n 0, 1) := by decide +kernel
theorem dL_law_630 : decode cL_law 630 = .ok (.iload_n 3, 1) := by decide +kernel
theorem dL_law_631 : decode cL_law 631 = .ok (.iconst 2, 1) := by decide +kernel
theorem dL_law_632 : decode cL_law 632 = .ok (.iadd, 1) := by decide +kernel
theorem dL_law_633 : decode cL_law 633 = .ok (.iaload, 1) := by decide +kernel
theorem dL_law_634 : decode cL_law 634 = .ok (.aload_n 0, 1) := by decide +kernel
theorem dL_law_635 : decode cL_law 635 = .ok (.iload_n 3, 1) := by decide +kernel
theorem dL_law_636 : decode cL_law 636 = .ok (.iconst 3, 1) := by decide +kernel
theorem dL_law_637 : decode cL_law 637 = .ok (.iadd, 1) := by decide +kernel
theorem dL_law_638 : decode cL_law 638 = .ok (.iaload, 1) := by decide +kernel
theorem dL_law_639 : decode cL_law 639 = .ok (.invokevirtual 69, 3) := by decide +kernel
theorem dL_law_642 : decode cL_law 642 = .ok (.aload_n 2, 1) := by decide +kernel
theorem dL_law_643 : decode cL_law 643 = .ok (.aload_n 0, 1) := by decide +kernel
theorem dL_law_644 : decode cL_law 644 = .ok (.iload_n 3, 1) := by decide +kernel
theorem dL_law_645 : decode cL_law 645 = .ok (.iconst 1, 1) := by decide +kernel
theorem dL_law_646 : decode cL_law 646 = .ok (.iadd, 1) := by decide +kernel
theorem dL_law_647 : decode cL_law 647 = .ok (.iaload, 1) := by decide +kernel
theorem dL_law_648 : decode cL_law 648 = .ok (.aload_n 0, 1) := by decide +kernel
theorem dL_law_649 : decode cL_law 649 = .ok (.iload_n 3, 1) := by decide +kernel
theorem dL_law_650 : decode cL_law 650 = .ok (.iconst 2, 1) := by decide +kernel
theorem dL_law_651 : decode cL_law 651 = .ok (.iadd, 1) := by decide +kernel
theorem dL_law_652 : decode cL_law 652 = .ok (.iaload, 1) := by decide +kernel
theorem dL_law_653 : decode cL_law 653 = .ok (.aload_n 0, 1) := by decide +kernel
theorem dL_law_654 : decode cL_law 654 = .ok (.iload_n 3, 1) := by decide +kernel
theorem dL_law_655 : decode cL_law 655 = .ok (.iconst 3, 1) := by decide +kernel
theorem dL_law_656 : decode cL_law 656 = .ok (.iadd, 1) := by decide +kernel
theorem dL_law_657 : decode cL_law 657 = .ok (.iaload, 1) := by decide +kernel
theorem dL_law_658 : decode cL_law 658 = .ok (.invokevirtual 72, 3) := by decide +kernel
theorem dL_law_661 : decode cL_law 661 = .ok (.if_icmp .eq 773, 3) := by decide +kernel
theorem dL_law_664 : decode cL_law 664 = .ok (.iconst 0, 1) := by decide +kernel
theorem dL_law_665 : decode cL_law 665 = .ok (.ireturn, 1) := by decide +kernel
theorem dL_law_666 : decode cL_law 666 = .ok (.aload_n 1, 1) := by decide +kernel
theorem dL_law_667 : decode cL_law 667 = .ok (.aload_n 0, 1) := by decide +kernel
theorem dL_law_668 : decode cL_law 668 = .ok (.iload_n 3, 1) := by decide +kernel
theorem dL_law_669 : decode cL_law 669 = .ok (.iconst 1, 1) := by decide +kernel
theorem dL_law_670 : decode cL_law 670 = .ok (.iadd, 1) := by decide +kernel
theorem dL_law_671 : decode cL_law 671 = .ok (.iaload, 1) := by decide +kernel
theorem dL_law_672 : decode cL_law 672 = .ok (.invokevirtual 73, 3) := by decide +kernel
theorem dL_law_675 : decode cL_law 675 = .ok (.aload_n 2, 1) := by decide +kernel
theorem dL_law_676 : decode cL_law 676 = .ok (.aload_n 0, 1) := by decide +kernel
theorem dL_law_677 : decode cL_law 677 = .ok (.iload_n 3, 1) := by decide +kernel
theorem dL_law_678 : decode cL_law 678 = .ok (.iconst 1, 1) := by decide +kernel
theorem dL_law_679 : decode cL_law 679 = .ok (.iadd, 1) := by decide +kernel
theorem dL_law_680 : decode cL_law 680 = .ok (.iaload, 1) := by decide +kernel
theorem dL_law_681 : decode cL_law 681 = .ok (.invokevirtual 76, 3) := by decide +kernel
theorem dL_law_684 : decode cL_law 684 = .ok (.if_icmp .eq 750, 3) := by decide +kernel
theorem dL_law_687 : decode cL_law 687 = .ok (.iconst 0, 1) := by decide +kernel
theorem dL_law_688 : decode cL_law 688 = .ok (.ireturn, 1) := by decide +kernel
theorem dL_law_689 : decode cL_law 689 = .ok (.aload_n 1, 1) := by decide +kernel
theorem dL_law_690 : decode cL_law 690 = .ok (.aload_n 0, 1) := by decide +kernel
theorem dL_law_691 : decode cL_law 691 = .ok (.iload_n 3, 1) := by decide +kernel
theorem dL_law_692 : decode cL_law 692 = .ok (.iconst 1, 1) := by decide +kernel
theorem dL_law_693 : decode cL_law 693 = .ok (.iadd, 1) := by decide +kernel
theorem dL_law_694 : decode cL_law 694 = .ok (.iaload, 1) := by decide +kernel
theorem dL_law_695 : decode cL_law 695 = .ok (.invokevirtual 77, 3) := by decide +kernel
theorem dL_law_698 : decode cL_law 698 = .ok (.aload_n 2, 1) := by decide +kernel
theorem dL_law_699 : decode cL_law 699 = .ok (.aload_n 0, 1) := by decide +kernel
theorem dL_law_700 : decode cL_law 700 = .ok (.iload_n 3, 1) := by decide +kernel
theorem dL_law_701 : decode cL_law 701 = .ok (.iconst 1, 1) := by decide +kernel
theorem dL_law_702 : decode cL_law 702 = .ok (.iadd, 1) := by decide +kernel
theorem dL_law_703 : decode cL_law 703 = .ok (.iaload, 1) := by decide +kernel
theorem dL_law_704 : decode cL_law 704 = .ok (.invokevirtual 80, 3) := by decide +kernel
theorem dL_law_707 : decode cL_law 707 = .ok (.if_icmp .eq 727, 3) := by decide +kernel
theorem dL_law_710 : decode cL_law 710 = .ok (.iconst 0, 1) := by decide +kernel
theorem dL_law_711 : decode cL_law 711 = .ok (.ireturn, 1) := by decide +kernel
theorem dL_law_712 : decode cL_law 712 = .ok (.aload_n 1, 1) := by decide +kernel
theorem dL_law_713 : decode cL_law 713 = .ok (.aload_n 0, 1) := by decide +kernel
theorem dL_law_714 : decode cL_law 714 = .ok (.iload_n 3, 1) := by decide +kernel
theorem dL_law_715 : decode cL_law 715 = .ok (.iconst 1, 1) := by decide +kernel
theorem dL_law_716 : decode cL_law 716 = .ok (.iadd, 1) := by decide +kernel
theorem dL_law_717 : decode cL_law 717 = .ok (.iaload, 1) := by decide +kernel
theorem dL_law_718 : decode cL_law 718 = .ok (.invokevirtual 81, 3) := by decide +kernel
theorem dL_law_721 : decode cL_law 721 = .ok (.aload_n 2, 1) := by decide +kernel
theorem dL_law_722 : decode cL_law 722 = .ok (.aload_n 0, 1) := by decide +kernel
theorem dL_law_723 : decode cL_law 723 = .ok (.iload_n 3, 1) := by decide +kernel
theorem dL_law_724 : decode cL_law 724 = .ok (.iconst 1, 1) := by decide +kernel
theorem dL_law_725 : decode cL_law 725 = .ok (.iadd, 1) := by decide +kernel
theorem dL_law_726 : decode cL_law 726 = .ok (.iaload, 1) := by decide +kernel
theorem dL_law_727 : decode cL_law 727 = .ok (.invokevirtual 84, 3) := by decide +kernel
theorem dL_law_730 : decode cL_law 730 = .ok (.if_icmp .eq 704, 3) := by decide +kernel
theorem dL_law_733 : decode cL_law 733 = .ok (.iconst 0, 1) := by decide +kernel
theorem dL_law_734 : decode cL_law 734 = .ok (.ireturn, 1) := by decide +kernel
theorem dL_law_735 : decode cL_law 735 = .ok (.aload_n 1, 1) := by decide +kernel
theorem dL_law_736 : decode cL_law 736 = .ok (.aload_n 0, 1) := by decide +kernel
theorem dL_law_737 : decode cL_law 737 = .ok (.iload_n 3, 1) := by decide +kernel
theorem dL_law_738 : decode cL_law 738 = .ok (.iconst 1, 1) := by decide +kernel
theorem dL_law_739 : decode cL_law 739 = .ok (.iadd, 1) := by decide +kernel
theorem dL_law_740 : decode cL_law 740 = .ok (.iaload, 1) := by decide +kernel
theorem dL_law_741 : decode cL_law 741 = .ok (.invokevirtual 85, 3) := by decide +kernel
theorem dL_law_744 : decode cL_law 744 = .ok (.aload_n 2, 1) := by decide +kernel
theorem dL_law_745 : decode cL_law 745 = .ok (.aload_n 0, 1) := by decide +kernel
theorem dL_law_746 : decode cL_law 746 = .ok (.iload_n 3, 1) := by decide +kernel
theorem dL_law_747 : decode cL_law 747 = .ok (.iconst 1, 1) := by decide +kernel
theorem dL_law_748 : decode cL_law 748 = .ok (.iadd, 1) := by decide +kernel
theorem dL_law_749 : decode cL_law 749 = .ok (.iaload, 1) := by decide +kernel
theorem dL_law_750 : decode cL_law 750 = .ok (.invokevirtual 88, 3) := by decide +kernel
theorem dL_law_753 : decode cL_law 753 = .ok (.if_icmp .eq 681, 3) := by decide +kernel
theorem dL_law_756 : decode cL_law 756 = .ok (.iconst 0, 1) := by decide +kernel
theorem dL_law_757 : decode cL_law 757 = .ok (.ireturn, 1) := by decide +kernel
theorem dL_law_758 : decode cL_law 758 = .ok (.aload_n 1, 1) := by decide +kernel
theorem dL_law_759 : decode cL_law 759 = .ok (.aload_n 0, 1) := by decide +kernel
theorem dL_law_760 : decode cL_law 760 = .ok (.iload_n 3, 1) := by decide +kernel
theorem dL_law_761 : decode cL_law 761 = .ok (.iconst 1, 1) := by decide +kernel
theorem dL_law_762 : decode cL_law 762 = .ok (.iadd, 1) := by decide +kernel
theorem dL_law_763 : decode cL_law 763 = .ok (.iaload, 1) := by decide +kernel
theorem dL_law_764 : decode cL_law 764 = .ok (.aload_n 0, 1) := by decide +kernel
theorem dL_law_765 : decode cL_law 765 = .ok (.iload_n 3, 1) := by decide +kernel
theorem dL_law_766 : decode cL_law 766 = .ok (.iconst 2, 1) := by decide +kernel
theorem dL_law_767 : decode cL_law 767 = .ok (.iadd, 1) := by decide +kernel
theorem dL_law_768 : decode cL_law 768 = .ok (.iaload, 1) := by decide +kernel
theorem dL_law_769 : decode cL_law 769 = .ok (.invokevirtual 89, 3) := by decide +kernel
theorem dL_law_772 : decode cL_law 772 = .ok (.aload_n 2, 1) := by decide +kernel
theorem dL_law_773 : decode cL_law 773 = .ok (.aload_n 0, 1) := by decide +kernel
theorem dL_law_774 : decode cL_law 774 = .ok (.iload_n 3, 1) := by decide +kernel
theorem dL_law_775 : decode cL_law 775 = .ok (.iconst 1, 1) := by decide +kernel
theorem dL_law_776 : decode cL_law 776 = .ok (.iadd, 1) := by decide +kernel
theorem dL_law_777 : decode cL_law 777 = .ok (.iaload, 1) := by decide +kernel
theorem dL_law_778 : decode cL_law 778 = .ok (.aload_n 0, 1) := by decide +kernel
theorem dL_law_779 : decode cL_law 779 = .ok (.iload_n 3, 1) := by decide +kernel
theorem dL_law_780 : decode cL_law 780 = .ok (.iconst 2, 1) := by decide +kernel
theorem dL_law_781 : decode cL_law 781 = .ok (.iadd, 1) := by decide +kernel
theorem dL_law_782 : decode cL_law 782 = .ok (.iaload, 1) := by decide +kernel
theorem dL_law_783 : decode cL_law 783 = .ok (.invokevirtual 92, 3) := by decide +kernel
theorem dL_law_786 : decode cL_law 786 = .ok (.if_icmp .eq 648, 3) := by decide +kernel
theorem dL_law_789 : decode cL_law 789 = .ok (.iconst 0, 1) := by decide +kernel
theorem dL_law_790 : decode cL_law 790 = .ok (.ireturn, 1) := by decide +kernel
theorem dL_law_791 : decode cL_law 791 = .ok (.aload_n 1, 1) := by decide +kernel
theorem dL_law_792 : decode cL_law 792 = .ok (.aload_n 0, 1) := by decide +kernel
theorem dL_law_793 : decode cL_law 793 = .ok (.iload_n 3, 1) := by decide +kernel
theorem dL_law_794 : decode cL_law 794 = .ok (.iconst 1, 1) := by decide +kernel
theorem dL_law_795 : decode cL_law 795 = .ok (.iadd, 1) := by decide +kernel
theorem dL_law_796 : decode cL_law 796 = .ok (.iaload, 1) := by decide +kernel
theorem dL_law_797 : decode cL_law 797 = .ok (.aload_n 0, 1) := by decide +kernel
theorem dL_law_798 : decode cL_law 798 = .ok (.iload_n 3, 1) := by decide +kernel
theorem dL_law_799 : decode cL_law 799 = .ok (.iconst 2, 1) := by decide +kernel
theorem dL_law_800 : decode cL_law 800 = .ok (.iadd, 1) := by decide +kernel
theorem dL_law_801 : decode cL_law 801 = .ok (.iaload, 1) := by decide +kernel
theorem dL_law_802 : decode cL_law 802 = .ok (.invokevirtual 93, 3) := by decide +kernel
theorem dL_law_805 : decode cL_law 805 = .ok (.aload_n 2, 1) := by decide +kernel
theorem dL_law_806 : decode cL_law 806 = .ok (.aload_n 0, 1) := by decide +kernel
theorem dL_law_807 : decode cL_law 807 = .ok (.iload_n 3, 1) := by decide +kernel
theorem dL_law_808 : decode cL_law 808 = .ok (.iconst 1, 1) := by decide +kernel
theorem dL_law_809 : decode cL_law 809 = .ok (.iadd, 1) := by decide +kernel
theorem dL_law_810 : decode cL_law 810 = .ok (.iaload, 1) := by decide +kernel
theorem dL_law_811 : decode cL_law 811 = .ok (.aload_n 0, 1) := by decide +kernel
theorem dL_law_812 : decode cL_law 812 = .ok (.iload_n 3, 1) := by decide +kernel
theorem dL_law_813 : decode cL_law 813 = .ok (.iconst 2, 1) := by decide +kernel
theorem dL_law_814 : decode cL_law 814 = .ok (.iadd, 1) := by decide +kernel
theorem dL_law_815 : decode cL_law 815 = .ok (.iaload, 1) := by decide +kernel
theorem dL_law_816 : decode cL_law 816 = .ok (.invokevirtual 96, 3) := by decide +kernel
theorem dL_law_819 : decode cL_law 819 = .ok (.if_icmp .eq 615, 3) := by decide +kernel
theorem dL_law_822 : decode cL_law 822 = .ok (.iconst 0, 1) := by decide +kernel
theorem dL_law_823 : decode cL_law 823 = .ok (.ireturn, 1) := by decide +kernel
theorem dL_law_824 : decode cL_law 824 = .ok (.aload_n 1, 1) := by decide +kernel
theorem dL_law_825 : decode cL_law 825 = .ok (.aload_n 0, 1) := by decide +kernel
theorem dL_law_826 : decode cL_law 826 = .ok (.iload_n 3, 1) := by decide +kernel
theorem dL_law_827 : decode cL_law 827 = .ok (.iconst 1, 1) := by decide +kernel
theorem dL_law_828 : decode cL_law 828 = .ok (.iadd, 1) := by decide +kernel
theorem dL_law_829 : decode cL_law 829 = .ok (.iaload, 1) := by decide +kernel
theorem dL_law_830 : decode cL_law 830 = .ok (.invokevirtual 97, 3) := by decide +kernel
theorem dL_law_833 : decode cL_law 833 = .ok (.aload_n 2, 1) := by decide +kernel
theorem dL_law_834 : decode cL_law 834 = .ok (.aload_n 0, 1) := by decide +kernel
theorem dL_law_835 : decode cL_law 835 = .ok (.iload_n 3, 1) := by decide +kernel
theorem dL_law_836 : decode cL_law 836 = .ok (.iconst 1, 1) := by decide +kernel
theorem dL_law_837 : decode cL_law 837 = .ok (.iadd, 1) := by decide +kernel
theorem dL_law_838 : decode cL_law 838 = .ok (.iaload, 1) := by decide +kernel
theorem dL_law_839 : decode cL_law 839 = .ok (.invokevirtual 100, 3) := by decide +kernel
theorem dL_law_842 : decode cL_law 842 = .ok (.if_icmp .eq 592, 3) := by decide +kernel
theorem dL_law_845 : decode cL_law 845 = .ok (.iconst 0, 1) := by decide +kernel
theorem dL_law_846 : decode cL_law 846 = .ok (.ireturn, 1) := by decide +kernel
theorem dL_law_847 : decode cL_law 847 = .ok (.aload_n 1, 1) := by decide +kernel
theorem dL_law_848 : decode cL_law 848 = .ok (.invokevirtual 101, 3) := by decide +kernel
theorem dL_law_851 : decode cL_law 851 = .ok (.aload_n 2, 1) := by decide +kernel
theorem dL_law_852 : decode cL_law 852 = .ok (.invokevirtual 104, 3) := by decide +kernel
theorem dL_law_855 : decode cL_law 855 = .ok (.if_icmp .eq 579, 3) := by decide +kernel
theorem dL_law_858 : decode cL_law 858 = .ok (.iconst 0, 1) := by decide +kernel
theorem dL_law_859 : decode cL_law 859 = .ok (.ireturn, 1) := by decide +kernel
theorem dL_law_860 : decode cL_law 860 = .ok (.aload_n 1, 1) := by decide +kernel
theorem dL_law_861 : decode cL_law 861 = .ok (.aload_n 0, 1) := by decide +kernel
theorem dL_law_862 : decode cL_law 862 = .ok (.iload_n 3, 1) := by decide +kernel
theorem dL_law_863 : decode cL_law 863 = .ok (.iconst 1, 1) := by decide +kernel
theorem dL_law_864 : decode cL_law 864 = .ok (.iadd, 1) := by decide +kernel
theorem dL_law_865 : decode cL_law 865 = .ok (.iaload, 1) := by decide +kernel
theorem dL_law_866 : decode cL_law 866 = .ok (.aload_n 0, 1) := by decide +kernel
theorem dL_law_867 : decode cL_law 867 = .ok (.iload_n 3, 1) := by decide +kernel
theorem dL_law_868 : decode cL_law 868 = .ok (.iconst 2, 1) := by decide +kernel
theorem dL_law_869 : decode cL_law 869 = .ok (.iadd, 1) := by decide +kernel
theorem dL_law_870 : decode cL_law 870 = .ok (.iaload, 1) := by decide +kernel
theorem dL_law_871 : decode cL_law 871 = .ok (.invokevirtual 105, 3) := by decide +kernel
theorem dL_law_874 : decode cL_law 874 = .ok (.aload_n 2, 1) := by decide +kernel
theorem dL_law_875 : decode cL_law 875 = .ok (.aload_n 0, 1) := by decide +kernel
theorem dL_law_876 : decode cL_law 876 = .ok (.iload_n 3, 1) := by decide +kernel
theorem dL_law_877 : decode cL_law 877 = .ok (.iconst 1, 1) := by decide +kernel
theorem dL_law_878 : decode cL_law 878 = .ok (.iadd, 1) := by decide +kernel
theorem dL_law_879 : decode cL_law 879 = .ok (.iaload, 1) := by decide +kernel
theorem dL_law_880 : decode cL_law 880 = .ok (.aload_n 0, 1) := by decide +kernel
theorem dL_law_881 : decode cL_law 881 = .ok (.iload_n 3, 1) := by decide +kernel
theorem dL_law_882 : decode cL_law 882 = .ok (.iconst 2, 1) := by decide +kernel
theorem dL_law_883 : decode cL_law 883 = .ok (.iadd, 1) := by decide +kernel
theorem dL_law_884 : decode cL_law 884 = .ok (.iaload, 1) := by decide +kernel
theorem dL_law_885 : decode cL_law 885 = .ok (.invokevirtual 108, 3) := by decide +kernel
theorem dL_law_888 : decode cL_law 888 = .ok (.if_icmp .eq 546, 3) := by decide +kernel
theorem dL_law_891 : decode cL_law 891 = .ok (.iconst 0, 1) := by decide +kernel
theorem dL_law_892 : decode cL_law 892 = .ok (.ireturn, 1) := by decide +kernel
theorem dL_law_893 : decode cL_law 893 = .ok (.aload_n 1, 1) := by decide +kernel
theorem dL_law_894 : decode cL_law 894 = .ok (.aload_n 0, 1) := by decide +kernel
theorem dL_law_895 : decode cL_law 895 = .ok (.iload_n 3, 1) := by decide +kernel
theorem dL_law_896 : decode cL_law 896 = .ok (.iconst 1, 1) := by decide +kernel
theorem dL_law_897 : decode cL_law 897 = .ok (.iadd, 1) := by decide +kernel
theorem dL_law_898 : decode cL_law 898 = .ok (.iaload, 1) := by decide +kernel
theorem dL_law_899 : decode cL_law 899 = .ok (.invokevirtual 109, 3) := by decide +kernel
theorem dL_law_902 : decode cL_law 902 = .ok (.aload_n 2, 1) := by decide +kernel
theorem dL_law_903 : decode cL_law 903 = .ok (.aload_n 0, 1) := by decide +kernel
theorem dL_law_904 : decode cL_law 904 = .ok (.iload_n 3, 1) := by decide +kernel
theorem dL_law_905 : decode cL_law 905 = .ok (.iconst 1, 1) := by decide +kernel
theorem dL_law_906 : decode cL_law 906 = .ok (.iadd, 1) := by decide +kernel
theorem dL_law_907 : decode cL_law 907 = .ok (.iaload, 1) := by decide +kernel
theorem dL_law_908 : decode cL_law 908 = .ok (.invokevirtual 112, 3) := by decide +kernel
theorem dL_law_911 : decode cL_law 911 = .ok (.if_icmp .eq 523, 3) := by decide +kernel
theorem dL_law_914 : decode cL_law 914 = .ok (.iconst 0, 1) := by decide +kernel
theorem dL_law_915 : decode cL_law 915 = .ok (.ireturn, 1) := by decide +kernel
theorem dL_law_916 : decode cL_law 916 = .ok (.aload_n 1, 1) := by decide +kernel
theorem dL_law_917 : decode cL_law 917 = .ok (.aload_n 0, 1) := by decide +kernel
theorem dL_law_918 : decode cL_law 918 = .ok (.iload_n 3, 1) := by decide +kernel
theorem dL_law_919 : decode cL_law 919 = .ok (.iconst 1, 1) := by decide +kernel
theorem dL_law_920 : decode cL_law 920 = .ok (.iadd, 1) := by decide +kernel
theorem dL_law_921 : decode cL_law 921 = .ok (.iaload, 1) := by decide +kernel
theorem dL_law_922 : decode cL_law 922 = .ok (.aload_n 0, 1) := by decide +kernel
theorem dL_law_923 : decode cL_law 923 = .ok (.iload_n 3, 1) := by decide +kernel
theorem dL_law_924 : decode cL_law 924 = .ok (.iconst 2, 1) := by decide +kernel
theorem dL_law_925 : decode cL_law 925 = .ok (.iadd, 1) := by decide +kernel
theorem dL_law_926 : decode cL_law 926 = .ok (.iaload, 1) := by decide +kernel
theorem dL_law_927 : decode cL_law 927 = .ok (.aload_n 0, 1) := by decide +kernel
theorem dL_law_928 : decode cL_law 928 = .ok (.iload_n 3, 1) := by decide +kernel
theorem dL_law_929 : decode cL_law 929 = .ok (.iconst 3, 1) := by decide +kernel
theorem dL_law_930 : decode cL_law 930 = .ok (.iadd, 1) := by decide +kernel
theorem dL_law_931 : decode cL_law 931 = .ok (.iaload, 1) := by decide +kernel
theorem dL_law_932 : decode cL_law 932 = .ok (.aload_n 0, 1) := by decide +kernel
theorem dL_law_933 : decode cL_law 933 = .ok (.iload_n 3, 1) := by decide +kernel
theorem dL_law_934 : decode cL_law 934 = .ok (.iconst 4, 1) := by decide +kernel
theorem dL_law_935 : decode cL_law 935 = .ok (.iadd, 1) := by decide +kernel
theorem dL_law_936 : decode cL_law 936 = .ok (.iaload, 1) := by decide +kernel
theorem dL_law_937 : decode cL_law 937 = .ok (.invokevirtual 113, 3) := by decide +kernel
theorem dL_law_940 : decode cL_law 940 = .ok (.aload_n 2, 1) := by decide +kernel
theorem dL_law_941 : decode cL_law 941 = .ok (.aload_n 0, 1) := by decide +kernel
theorem dL_law_942 : decode cL_law 942 = .ok (.iload_n 3, 1) := by decide +kernel
theorem dL_law_943 : decode cL_law 943 = .ok (.iconst 1, 1) := by decide +kernel
theorem dL_law_944 : decode cL_law 944 = .ok (.iadd, 1) := by decide +kernel
theorem dL_law_945 : decode cL_law 945 = .ok (.iaload, 1) := by decide +kernel
theorem dL_law_946 : decode cL_law 946 = .ok (.aload_n 0, 1) := by decide +kernel
theorem dL_law_947 : decode cL_law 947 = .ok (.iload_n 3, 1) := by decide +kernel
theorem dL_law_948 : decode cL_law 948 = .ok (.iconst 2, 1) := by decide +kernel
theorem dL_law_949 : decode cL_law 949 = .ok (.iadd, 1) := by decide +kernel
theorem dL_law_950 : decode cL_law 950 = .ok (.iaload, 1) := by decide +kernel
theorem dL_law_951 : decode cL_law 951 = .ok (.aload_n 0, 1) := by decide +kernel
theorem dL_law_952 : decode cL_law 952 = .ok (.iload_n 3, 1) := by decide +kernel
theorem dL_law_953 : decode cL_law 953 = .ok (.iconst 3, 1) := by decide +kernel
theorem dL_law_954 : decode cL_law 954 = .ok (.iadd, 1) := by decide +kernel
theorem dL_law_955 : decode cL_law 955 = .ok (.iaload, 1) := by decide +kernel
theorem dL_law_956 : decode cL_law 956 = .ok (.aload_n 0, 1) := by decide +kernel
theorem dL_law_957 : decode cL_law 957 = .ok (.iload_n 3, 1) := by decide +kernel
theorem dL_law_958 : decode cL_law 958 = .ok (.iconst 4, 1) := by decide +kernel
theorem dL_law_959 : decode cL_law 959 = .ok (.iadd, 1) := by decide +kernel
theorem dL_law_960 : decode cL_law 960 = .ok (.iaload, 1) := by decide +kernel
theorem dL_law_961 : decode cL_law 961 = .ok (.invokevirtual 117, 3) := by decide +kernel
theorem dL_law_964 : decode cL_law 964 = .ok (.lcmp, 1) := by decide +kernel
theorem dL_law_965 : decode cL_law 965 = .ok (.ifCond .eq 469, 3) := by decide +kernel
theorem dL_law_968 : decode cL_law 968 = .ok (.iconst 0, 1) := by decide +kernel
theorem dL_law_969 : decode cL_law 969 = .ok (.ireturn, 1) := by decide +kernel
theorem dL_law_970 : decode cL_law 970 = .ok (.aload_n 1, 1) := by decide +kernel
theorem dL_law_971 : decode cL_law 971 = .ok (.aload_n 0, 1) := by decide +kernel
theorem dL_law_972 : decode cL_law 972 = .ok (.iload_n 3, 1) := by decide +kernel
theorem dL_law_973 : decode cL_law 973 = .ok (.iconst 1, 1) := by decide +kernel
theorem dL_law_974 : decode cL_law 974 = .ok (.iadd, 1) := by decide +kernel
theorem dL_law_975 : decode cL_law 975 = .ok (.iaload, 1) := by decide +kernel
theorem dL_law_976 : decode cL_law 976 = .ok (.invokevirtual 118, 3) := by decide +kernel
theorem dL_law_979 : decode cL_law 979 = .ok (.aload_n 2, 1) := by decide +kernel
theorem dL_law_980 : decode cL_law 980 = .ok (.aload_n 0, 1) := by decide +kernel
theorem dL_law_981 : decode cL_law 981 = .ok (.iload_n 3, 1) := by decide +kernel
theorem dL_law_982 : decode cL_law 982 = .ok (.iconst 1, 1) := by decide +kernel
theorem dL_law_983 : decode cL_law 983 = .ok (.iadd, 1) := by decide +kernel
theorem dL_law_984 : decode cL_law 984 = .ok (.iaload, 1) := by decide +kernel
theorem dL_law_985 : decode cL_law 985 = .ok (.invokevirtual 122, 3) := by decide +kernel
theorem dL_law_988 : decode cL_law 988 = .ok (.lcmp, 1) := by decide +kernel
theorem dL_law_989 : decode cL_law 989 = .ok (.ifCond .eq 445, 3) := by decide +kernel
theorem dL_law_992 : decode cL_law 992 = .ok (.iconst 0, 1) := by decide +kernel
theorem dL_law_993 : decode cL_law 993 = .ok (.ireturn, 1) := by decide +kernel
theorem dL_law_994 : decode cL_law 994 = .ok (.aload_n 1, 1) := by decide +kernel
theorem dL_law_995 : decode cL_law 995 = .ok (.aload_n 0, 1) := by decide +kernel
theorem dL_law_996 : decode cL_law 996 = .ok (.iload_n 3, 1) := by decide +kernel
theorem dL_law_997 : decode cL_law 997 = .ok (.iconst 1, 1) := by decide +kernel
theorem dL_law_998 : decode cL_law 998 = .ok (.iadd, 1) := by decide +kernel
theorem dL_law_999 : decode cL_law 999 = .ok (.iaload, 1) := by decide +kernel
theorem dL_law_1000 : decode cL_law 1000 = .ok (.invokevirtual 123, 3) := by decide +kernel
theorem dL_law_1003 : decode cL_law 1003 = .ok (.aload_n 2, 1) := by decide +kernel
theorem dL_law_1004 : decode cL_law 1004 = .ok (.aload_n 0, 1) := by decide +kernel
theorem dL_law_1005 : decode cL_law 1005 = .ok (.iload_n 3, 1) := by decide +kernel
theorem dL_law_1006 : decode cL_law 1006 = .ok (.iconst 1, 1) := by decide +kernel
theorem dL_law_1007 : decode cL_law 1007 = .ok (.iadd, 1) := by decide +kernel
theorem dL_law_1008 : decode cL_law 1008 = .ok (.iaload, 1) := by decide +kernel
theorem dL_law_1009 : decode cL_law 1009 = .ok (.invokevirtual 126, 3) := by decide +kernel
theorem dL_law_1012 : decode cL_law 1012 = .ok (.if_icmp .eq 422, 3) := by decide +kernel
theorem dL_law_1015 : decode cL_law 1015 = .ok (.iconst 0, 1) := by decide +kernel
theorem dL_law_1016 : decode cL_law 1016 = .ok (.ireturn, 1) := by decide +kernel
theorem dL_law_1017 : decode cL_law 1017 = .ok (.aload_n 1, 1) := by decide +kernel
theorem dL_law_1018 : decode cL_law 1018 = .ok (.aload_n 0, 1) := by decide +kernel
theorem dL_law_1019 : decode cL_law 1019 = .ok (.iload_n 3, 1) := by decide +kernel
theorem dL_law_1020 : decode cL_law 1020 = .ok (.iconst 1, 1) := by decide +kernel
theorem dL_law_1021 : decode cL_law 1021 = .ok (.iadd, 1) := by decide +kernel
theorem dL_law_1022 : decode cL_law 1022 = .ok (.iaload, 1) := by decide +kernel
theorem dL_law_1023 : decode cL_law 1023 = .ok (.invokevirtual 127, 3) := by decide +kernel
theorem dL_law_1026 : decode cL_law 1026 = .ok (.aload_n 2, 1) := by decide +kernel
theorem dL_law_1027 : decode cL_law 1027 = .ok (.aload_n 0, 1) := by decide +kernel
theorem dL_law_1028 : decode cL_law 1028 = .ok (.iload_n 3, 1) := by decide +kernel
theorem dL_law_1029 : decode cL_law 1029 = .ok (.iconst 1, 1) := by decide +kernel
theorem dL_law_1030 : decode cL_law 1030 = .ok (.iadd, 1) := by decide +kernel
theorem dL_law_1031 : decode cL_law 1031 = .ok (.iaload, 1) := by decide +kernel
theorem dL_law_1032 : decode cL_law 1032 = .ok (.invokevirtual 130, 3) := by decide +kernel
theorem dL_law_1035 : decode cL_law 1035 = .ok (.if_icmp .eq 399, 3) := by decide +kernel
theorem dL_law_1038 : decode cL_law 1038 = .ok (.iconst 0, 1) := by decide +kernel
theorem dL_law_1039 : decode cL_law 1039 = .ok (.ireturn, 1) := by decide +kernel
theorem dL_law_1040 : decode cL_law 1040 = .ok (.aload_n 1, 1) := by decide +kernel
theorem dL_law_1041 : decode cL_law 1041 = .ok (.aload_n 0, 1) := by decide +kernel
theorem dL_law_1042 : decode cL_law 1042 = .ok (.iload_n 3, 1) := by decide +kernel
theorem dL_law_1043 : decode cL_law 1043 = .ok (.iconst 1, 1) := by decide +kernel
theorem dL_law_1044 : decode cL_law 1044 = .ok (.iadd, 1) := by decide +kernel
theorem dL_law_1045 : decode cL_law 1045 = .ok (.iaload, 1) := by decide +kernel
theorem dL_law_1046 : decode cL_law 1046 = .ok (.aload_n 0, 1) := by decide +kernel
theorem dL_law_1047 : decode cL_law 1047 = .ok (.iload_n 3, 1) := by decide +kernel
theorem dL_law_1048 : decode cL_law 1048 = .ok (.iconst 2, 1) := by decide +kernel
theorem dL_law_1049 : decode cL_law 1049 = .ok (.iadd, 1) := by decide +kernel
theorem dL_law_1050 : decode cL_law 1050 = .ok (.iaload, 1) := by decide +kernel
theorem dL_law_1051 : decode cL_law 1051 = .ok (.invokevirtual 131, 3) := by decide +kernel
theorem dL_law_1054 : decode cL_law 1054 = .ok (.aload_n 2, 1) := by decide +kernel
theorem dL_law_1055 : decode cL_law 1055 = .ok (.aload_n 0, 1) := by decide +kernel
theorem dL_law_1056 : decode cL_law 1056 = .ok (.iload_n 3, 1) := by decide +kernel
theorem dL_law_1057 : decode cL_law 1057 = .ok (.iconst 1, 1) := by decide +kernel
theorem dL_law_1058 : decode cL_law 1058 = .ok (.iadd, 1) := by decide +kernel
theorem dL_law_1059 : decode cL_law 1059 = .ok (.iaload, 1) := by decide +kernel
theorem dL_law_1060 : decode cL_law 1060 = .ok (.aload_n 0, 1) := by decide +kernel
theorem dL_law_1061 : decode cL_law 1061 = .ok (.iload_n 3, 1) := by decide +kernel
theorem dL_law_1062 : decode cL_law 1062 = .ok (.iconst 2, 1) := by decide +kernel
theorem dL_law_1063 : decode cL_law 1063 = .ok (.iadd, 1) := by decide +kernel
theorem dL_law_1064 : decode cL_law 1064 = .ok (.iaload, 1) := by decide +kernel
theorem dL_law_1065 : decode cL_law 1065 = .ok (.invokevirtual 134, 3) := by decide +kernel
theorem dL_law_1068 : decode cL_law 1068 = .ok (.if_icmp .eq 366, 3) := by decide +kernel
theorem dL_law_1071 : decode cL_law 1071 = .ok (.iconst 0, 1) := by decide +kernel
theorem dL_law_1072 : decode cL_law 1072 = .ok (.ireturn, 1) := by decide +kernel
theorem dL_law_1073 : decode cL_law 1073 = .ok (.aload_n 1, 1) := by decide +kernel
theorem dL_law_1074 : decode cL_law 1074 = .ok (.invokevirtual 135, 3) := by decide +kernel
theorem dL_law_1077 : decode cL_law 1077 = .ok (.aload_n 2, 1) := by decide +kernel
theorem dL_law_1078 : decode cL_law 1078 = .ok (.invokevirtual 138, 3) := by decide +kernel
theorem dL_law_1081 : decode cL_law 1081 = .ok (.if_icmp .eq 353, 3) := by decide +kernel
theorem dL_law_1084 : decode cL_law 1084 = .ok (.iconst 0, 1) := by decide +kernel
theorem dL_law_1085 : decode cL_law 1085 = .ok (.ireturn, 1) := by decide +kernel
theorem dL_law_1086 : decode cL_law 1086 = .ok (.aload_n 1, 1) := by decide +kernel
theorem dL_law_1087 : decode cL_law 1087 = .ok (.invokevirtual 139, 3) := by decide +kernel
theorem dL_law_1090 : decode cL_law 1090 = .ok (.aload_n 2, 1) := by decide +kernel
theorem dL_law_1091 : decode cL_law 1091 = .ok (.invokevirtual 142, 3) := by decide +kernel
theorem dL_law_1094 : decode cL_law 1094 = .ok (.if_icmp .eq 340, 3) := by decide +kernel
theorem dL_law_1097 : decode cL_law 1097 = .ok (.iconst 0, 1) := by decide +kernel
theorem dL_law_1098 : decode cL_law 1098 = .ok (.ireturn, 1) := by decide +kernel
theorem dL_law_1099 : decode cL_law 1099 = .ok (.aload_n 1, 1) := by decide +kernel
theorem dL_law_1100 : decode cL_law 1100 = .ok (.aload_n 0, 1) := by decide +kernel
theorem dL_law_1101 : decode cL_law 1101 = .ok (.iload_n 3, 1) := by decide +kernel
theorem dL_law_1102 : decode cL_law 1102 = .ok (.iconst 1, 1) := by decide +kernel
theorem dL_law_1103 : decode cL_law 1103 = .ok (.iadd, 1) := by decide +kernel
theorem dL_law_1104 : decode cL_law 1104 = .ok (.iaload, 1) := by decide +kernel
theorem dL_law_1105 : decode cL_law 1105 = .ok (.aload_n 0, 1) := by decide +kernel
theorem dL_law_1106 : decode cL_law 1106 = .ok (.iload_n 3, 1) := by decide +kernel
theorem dL_law_1107 : decode cL_law 1107 = .ok (.iconst 2, 1) := by decide +kernel
theorem dL_law_1108 : decode cL_law 1108 = .ok (.iadd, 1) := by decide +kernel
theorem dL_law_1109 : decode cL_law 1109 = .ok (.iaload, 1) := by decide +kernel
theorem dL_law_1110 : decode cL_law 1110 = .ok (.aload_n 0, 1) := by decide +kernel
theorem dL_law_1111 : decode cL_law 1111 = .ok (.iload_n 3, 1) := by decide +kernel
theorem dL_law_1112 : decode cL_law 1112 = .ok (.iconst 3, 1) := by decide +kernel
theorem dL_law_1113 : decode cL_law 1113 = .ok (.iadd, 1) := by decide +kernel
theorem dL_law_1114 : decode cL_law 1114 = .ok (.iaload, 1) := by decide +kernel
theorem dL_law_1115 : decode cL_law 1115 = .ok (.invokevirtual 143, 3) := by decide +kernel
theorem dL_law_1118 : decode cL_law 1118 = .ok (.aload_n 2, 1) := by decide +kernel
theorem dL_law_1119 : decode cL_law 1119 = .ok (.aload_n 0, 1) := by decide +kernel
theorem dL_law_1120 : decode cL_law 1120 = .ok (.iload_n 3, 1) := by decide +kernel
theorem dL_law_1121 : decode cL_law 1121 = .ok (.iconst 1, 1) := by decide +kernel
theorem dL_law_1122 : decode cL_law 1122 = .ok (.iadd, 1) := by decide +kernel
theorem dL_law_1123 : decode cL_law 1123 = .ok (.iaload, 1) := by decide +kernel
theorem dL_law_1124 : decode cL_law 1124 = .ok (.aload_n 0, 1) := by decide +kernel
theorem dL_law_1125 : decode cL_law 1125 = .ok (.iload_n 3, 1) := by decide +kernel
theorem dL_law_1126 : decode cL_law 1126 = .ok (.iconst 2, 1) := by decide +kernel
theorem dL_law_1127 : decode cL_law 1127 = .ok (.iadd, 1) := by decide +kernel
theorem dL_law_1128 : decode cL_law 1128 = .ok (.iaload, 1) := by decide +kernel
theorem dL_law_1129 : decode cL_law 1129 = .ok (.aload_n 0, 1) := by decide +kernel
theorem dL_law_1130 : decode cL_law 1130 = .ok (.iload_n 3, 1) := by decide +kernel
theorem dL_law_1131 : decode cL_law 1131 = .ok (.iconst 3, 1) := by decide +kernel
theorem dL_law_1132 : decode cL_law 1132 = .ok (.iadd, 1) := by decide +kernel
theorem dL_law_1133 : decode cL_law 1133 = .ok (.iaload, 1) := by decide +kernel
theorem dL_law_1134 : decode cL_law 1134 = .ok (.invokevirtual 146, 3) := by decide +kernel
theorem dL_law_1137 : decode cL_law 1137 = .ok (.if_icmp .eq 297, 3) := by decide +kernel
theorem dL_law_1140 : decode cL_law 1140 = .ok (.iconst 0, 1) := by decide +kernel
theorem dL_law_1141 : decode cL_law 1141 = .ok (.ireturn, 1) := by decide +kernel
theorem dL_law_1142 : decode cL_law 1142 = .ok (.aload_n 1, 1) := by decide +kernel
theorem dL_law_1143 : decode cL_law 1143 = .ok (.aload_n 0, 1) := by decide +kernel
theorem dL_law_1144 : decode cL_law 1144 = .ok (.iload_n 3, 1) := by decide +kernel
theorem dL_law_1145 : decode cL_law 1145 = .ok (.iconst 1, 1) := by decide +kernel
theorem dL_law_1146 : decode cL_law 1146 = .ok (.iadd, 1) := by decide +kernel
theorem dL_law_1147 : decode cL_law 1147 = .ok (.iaload, 1) := by decide +kernel
theorem dL_law_1148 : decode cL_law 1148 = .ok (.invokevirtual 147, 3) := by decide +kernel
theorem dL_law_1151 : decode cL_law 1151 = .ok (.aload_n 2, 1) := by decide +kernel
theorem dL_law_1152 : decode cL_law 1152 = .ok (.aload_n 0, 1) := by decide +kernel
theorem dL_law_1153 : decode cL_law 1153 = .ok (.iload_n 3, 1) := by decide +kernel
theorem dL_law_1154 : decode cL_law 1154 = .ok (.iconst 1, 1) := by decide +kernel
theorem dL_law_1155 : decode cL_law 1155 = .ok (.iadd, 1) := by decide +kernel
theorem dL_law_1156 : decode cL_law 1156 = .ok (.iaload, 1) := by decide +kernel
theorem dL_law_1157 : decode cL_law 1157 = .ok (.invokevirtual 150, 3) := by decide +kernel
theorem dL_law_1160 : decode cL_law 1160 = .ok (.if_icmp .eq 274, 3) := by decide +kernel
theorem dL_law_1163 : decode cL_law 1163 = .ok (.iconst 0, 1) := by decide +kernel
theorem dL_law_1164 : decode cL_law 1164 = .ok (.ireturn, 1) := by decide +kernel
theorem dL_law_1165 : decode cL_law 1165 = .ok (.aload_n 1, 1) := by decide +kernel
theorem dL_law_1166 : decode cL_law 1166 = .ok (.aload_n 0, 1) := by decide +kernel
theorem dL_law_1167 : decode cL_law 1167 = .ok (.iload_n 3, 1) := by decide +kernel
theorem dL_law_1168 : decode cL_law 1168 = .ok (.iconst 1, 1) := by decide +kernel
theorem dL_law_1169 : decode cL_law 1169 = .ok (.iadd, 1) := by decide +kernel
theorem dL_law_1170 : decode cL_law 1170 = .ok (.iaload, 1) := by decide +kernel
theorem dL_law_1171 : decode cL_law 1171 = .ok (.aload_n 0, 1) := by decide +kernel
theorem dL_law_1172 : decode cL_law 1172 = .ok (.iload_n 3, 1) := by decide +kernel
theorem dL_law_1173 : decode cL_law 1173 = .ok (.iconst 2, 1) := by decide +kernel
theorem dL_law_1174 : decode cL_law 1174 = .ok (.iadd, 1) := by decide +kernel
theorem dL_law_1175 : decode cL_law 1175 = .ok (.iaload, 1) := by decide +kernel
theorem dL_law_1176 : decode cL_law 1176 = .ok (.invokevirtual 151, 3) := by decide +kernel
theorem dL_law_1179 : decode cL_law 1179 = .ok (.aload_n 2, 1) := by decide +kernel
theorem dL_law_1180 : decode cL_law 1180 = .ok (.aload_n 0, 1) := by decide +kernel
theorem dL_law_1181 : decode cL_law 1181 = .ok (.iload_n 3, 1) := by decide +kernel
theorem dL_law_1182 : decode cL_law 1182 = .ok (.iconst 1, 1) := by decide +kernel
theorem dL_law_1183 : decode cL_law 1183 = .ok (.iadd, 1) := by decide +kernel
theorem dL_law_1184 : decode cL_law 1184 = .ok (.iaload, 1) := by decide +kernel
theorem dL_law_1185 : decode cL_law 1185 = .ok (.aload_n 0, 1) := by decide +kernel
theorem dL_law_1186 : decode cL_law 1186 = .ok (.iload_n 3, 1) := by decide +kernel
theorem dL_law_1187 : decode cL_law 1187 = .ok (.iconst 2, 1) := by decide +kernel
theorem dL_law_1188 : decode cL_law 1188 = .ok (.iadd, 1) := by decide +kernel
theorem dL_law_1189 : decode cL_law 1189 = .ok (.iaload, 1) := by decide +kernel
theorem dL_law_1190 : decode cL_law 1190 = .ok (.invokevirtual 154, 3) := by decide +kernel
theorem dL_law_1193 : decode cL_law 1193 = .ok (.if_icmp .eq 241, 3) := by decide +kernel
theorem dL_law_1196 : decode cL_law 1196 = .ok (.iconst 0, 1) := by decide +kernel
theorem dL_law_1197 : decode cL_law 1197 = .ok (.ireturn, 1) := by decide +kernel
theorem dL_law_1198 : decode cL_law 1198 = .ok (.aload_n 1, 1) := by decide +kernel
theorem dL_law_1199 : decode cL_law 1199 = .ok (.aload_n 0, 1) := by decide +kernel
theorem dL_law_1200 : decode cL_law 1200 = .ok (.iload_n 3, 1) := by decide +kernel
theorem dL_law_1201 : decode cL_law 1201 = .ok (.iconst 1, 1) := by decide +kernel
theorem dL_law_1202 : decode cL_law 1202 = .ok (.iadd, 1) := by decide +kernel
theorem dL_law_1203 : decode cL_law 1203 = .ok (.iaload, 1) := by decide +kernel
theorem dL_law_1204 : decode cL_law 1204 = .ok (.invokevirtual 155, 3) := by decide +kernel
theorem dL_law_1207 : decode cL_law 1207 = .ok (.aload_n 2, 1) := by decide +kernel
theorem dL_law_1208 : decode cL_law 1208 = .ok (.aload_n 0, 1) := by decide +kernel
theorem dL_law_1209 : decode cL_law 1209 = .ok (.iload_n 3, 1) := by decide +kernel
theorem dL_law_1210 : decode cL_law 1210 = .ok (.iconst 1, 1) := by decide +kernel
theorem dL_law_1211 : decode cL_law 1211 = .ok (.iadd, 1) := by decide +kernel
theorem dL_law_1212 : decode cL_law 1212 = .ok (.iaload, 1) := by decide +kernel
theorem dL_law_1213 : decode cL_law 1213 = .ok (.invokevirtual 158, 3) := by decide +kernel
theorem dL_law_1216 : decode cL_law 1216 = .ok (.if_icmp .eq 218, 3) := by decide +kernel
theorem dL_law_1219 : decode cL_law 1219 = .ok (.iconst 0, 1) := by decide +kernel
theorem dL_law_1220 : decode cL_law 1220 = .ok (.ireturn, 1) := by decide +kernel
theorem dL_law_1221 : decode cL_law 1221 = .ok (.aload_n 1, 1) := by decide +kernel
theorem dL_law_1222 : decode cL_law 1222 = .ok (.aload_n 0, 1) := by decide +kernel
theorem dL_law_1223 : decode cL_law 1223 = .ok (.iload_n 3, 1) := by decide +kernel
theorem dL_law_1224 : decode cL_law 1224 = .ok (.iconst 1, 1) := by decide +kernel
theorem dL_law_1225 : decode cL_law 1225 = .ok (.iadd, 1) := by decide +kernel
theorem dL_law_1226 : decode cL_law 1226 = .ok (.iaload, 1) := by decide +kernel
theorem dL_law_1227 : decode cL_law 1227 = .ok (.aload_n 0, 1) := by decide +kernel
theorem dL_law_1228 : decode cL_law 1228 = .ok (.iload_n 3, 1) := by decide +kernel
theorem dL_law_1229 : decode cL_law 1229 = .ok (.iconst 2, 1) := by decide +kernel
theorem dL_law_1230 : decode cL_law 1230 = .ok (.iadd, 1) := by decide +kernel
theorem dL_law_1231 : decode cL_law 1231 = .ok (.iaload, 1) := by decide +kernel
theorem dL_law_1232 : decode cL_law 1232 = .ok (.aload_n 0, 1) := by decide +kernel
theorem dL_law_1233 : decode cL_law 1233 = .ok (.iload_n 3, 1) := by decide +kernel
theorem dL_law_1234 : decode cL_law 1234 = .ok (.iconst 3, 1) := by decide +kernel
theorem dL_law_1235 : decode cL_law 1235 = .ok (.iadd, 1) := by decide +kernel
theorem dL_law_1236 : decode cL_law 1236 = .ok (.iaload, 1) := by decide +kernel
theorem dL_law_1237 : decode cL_law 1237 = .ok (.invokevirtual 159, 3) := by decide +kernel
theorem dL_law_1240 : decode cL_law 1240 = .ok (.aload_n 2, 1) := by decide +kernel
theorem dL_law_1241 : decode cL_law 1241 = .ok (.aload_n 0, 1) := by decide +kernel
theorem dL_law_1242 : decode cL_law 1242 = .ok (.iload_n 3, 1) := by decide +kernel
theorem dL_law_1243 : decode cL_law 1243 = .ok (.iconst 1, 1) := by decide +kernel
theorem dL_law_1244 : decode cL_law 1244 = .ok (.iadd, 1) := by decide +kernel
theorem dL_law_1245 : decode cL_law 1245 = .ok (.iaload, 1) := by decide +kernel
theorem dL_law_1246 : decode cL_law 1246 = .ok (.aload_n 0, 1) := by decide +kernel
theorem dL_law_1247 : decode cL_law 1247 = .ok (.iload_n 3, 1) := by decide +kernel
theorem dL_law_1248 : decode cL_law 1248 = .ok (.iconst 2, 1) := by decide +kernel
theorem dL_law_1249 : decode cL_law 1249 = .ok (.iadd, 1) := by decide +kernel
theorem dL_law_1250 : decode cL_law 1250 = .ok (.iaload, 1) := by decide +kernel
theorem dL_law_1251 : decode cL_law 1251 = .ok (.aload_n 0, 1) := by decide +kernel
theorem dL_law_1252 : decode cL_law 1252 = .ok (.iload_n 3, 1) := by decide +kernel
theorem dL_law_1253 : decode cL_law 1253 = .ok (.iconst 3, 1) := by decide +kernel
theorem dL_law_1254 : decode cL_law 1254 = .ok (.iadd, 1) := by decide +kernel
theorem dL_law_1255 : decode cL_law 1255 = .ok (.iaload, 1) := by decide +kernel
theorem dL_law_1256 : decode cL_law 1256 = .ok (.invokevirtual 162, 3) := by decide +kernel
theorem dL_law_1259 : decode cL_law 1259 = .ok (.if_icmp .eq 175, 3) := by decide +kernel
theorem dL_law_1262 : decode cL_law 1262 = .ok (.iconst 0, 1) := by decide +kernel
theorem dL_law_1263 : decode cL_law 1263 = .ok (.ireturn, 1) := by decide +kernel
theorem dL_law_1264 : decode cL_law 1264 = .ok (.aload_n 1, 1) := by decide +kernel
theorem dL_law_1265 : decode cL_law 1265 = .ok (.aload_n 0, 1) := by decide +kernel
theorem dL_law_1266 : decode cL_law 1266 = .ok (.iload_n 3, 1) := by decide +kernel
theorem dL_law_1267 : decode cL_law 1267 = .ok (.iconst 1, 1) := by decide +kernel
theorem dL_law_1268 : decode cL_law 1268 = .ok (.iadd, 1) := by decide +kernel
theorem dL_law_1269 : decode cL_law 1269 = .ok (.iaload, 1) := by decide +kernel
theorem dL_law_1270 : decode cL_law 1270 = .ok (.aload_n 0, 1) := by decide +kernel
theorem dL_law_1271 : decode cL_law 1271 = .ok (.iload_n 3, 1) := by decide +kernel
theorem dL_law_1272 : decode cL_law 1272 = .ok (.iconst 2, 1) := by decide +kernel
theorem dL_law_1273 : decode cL_law 1273 = .ok (.iadd, 1) := by decide +kernel
theorem dL_law_1274 : decode cL_law 1274 = .ok (.iaload, 1) := by decide +kernel
theorem dL_law_1275 : decode cL_law 1275 = .ok (.aload_n 0, 1) := by decide +kernel
theorem dL_law_1276 : decode cL_law 1276 = .ok (.iload_n 3, 1) := by decide +kernel
theorem dL_law_1277 : decode cL_law 1277 = .ok (.iconst 3, 1) := by decide +kernel
theorem dL_law_1278 : decode cL_law 1278 = .ok (.iadd, 1) := by decide +kernel
theorem dL_law_1279 : decode cL_law 1279 = .ok (.iaload, 1) := by decide +kernel
theorem dL_law_1280 : decode cL_law 1280 = .ok (.i2l, 1) := by decide +kernel
theorem dL_law_1281 : decode cL_law 1281 = .ok (.bipush 32, 2) := by decide +kernel
theorem dL_law_1283 : decode cL_law 1283 = .ok (.lshl, 1) := by decide +kernel
theorem dL_law_1284 : decode cL_law 1284 = .ok (.aload_n 0, 1) := by decide +kernel
theorem dL_law_1285 : decode cL_law 1285 = .ok (.iload_n 3, 1) := by decide +kernel
theorem dL_law_1286 : decode cL_law 1286 = .ok (.iconst 4, 1) := by decide +kernel
theorem dL_law_1287 : decode cL_law 1287 = .ok (.iadd, 1) := by decide +kernel
theorem dL_law_1288 : decode cL_law 1288 = .ok (.iaload, 1) := by decide +kernel
theorem dL_law_1289 : decode cL_law 1289 = .ok (.i2l, 1) := by decide +kernel
theorem dL_law_1290 : decode cL_law 1290 = .ok (.ldc2_w 163, 3) := by decide +kernel
theorem dL_law_1293 : decode cL_law 1293 = .ok (.land, 1) := by decide +kernel
theorem dL_law_1294 : decode cL_law 1294 = .ok (.lor, 1) := by decide +kernel
theorem dL_law_1295 : decode cL_law 1295 = .ok (.invokevirtual 165, 3) := by decide +kernel
theorem dL_law_1298 : decode cL_law 1298 = .ok (.aload_n 2, 1) := by decide +kernel
theorem dL_law_1299 : decode cL_law 1299 = .ok (.aload_n 0, 1) := by decide +kernel
theorem dL_law_1300 : decode cL_law 1300 = .ok (.iload_n 3, 1) := by decide +kernel
theorem dL_law_1301 : decode cL_law 1301 = .ok (.iconst 1, 1) := by decide +kernel
theorem dL_law_1302 : decode cL_law 1302 = .ok (.iadd, 1) := by decide +kernel
theorem dL_law_1303 : decode cL_law 1303 = .ok (.iaload, 1) := by decide +kernel
theorem dL_law_1304 : decode cL_law 1304 = .ok (.aload_n 0, 1) := by decide +kernel
theorem dL_law_1305 : decode cL_law 1305 = .ok (.iload_n 3, 1) := by decide +kernel
theorem dL_law_1306 : decode cL_law 1306 = .ok (.iconst 2, 1) := by decide +kernel
theorem dL_law_1307 : decode cL_law 1307 = .ok (.iadd, 1) := by decide +kernel
theorem dL_law_1308 : decode cL_law 1308 = .ok (.iaload, 1) := by decide +kernel
theorem dL_law_1309 : decode cL_law 1309 = .ok (.aload_n 0, 1) := by decide +kernel
theorem dL_law_1310 : decode cL_law 1310 = .ok (.iload_n 3, 1) := by decide +kernel
theorem dL_law_1311 : decode cL_law 1311 = .ok (.iconst 3, 1) := by decide +kernel
theorem dL_law_1312 : decode cL_law 1312 = .ok (.iadd, 1) := by decide +kernel
theorem dL_law_1313 : decode cL_law 1313 = .ok (.iaload, 1) := by decide +kernel
theorem dL_law_1314 : decode cL_law 1314 = .ok (.i2l, 1) := by decide +kernel
theorem dL_law_1315 : decode cL_law 1315 = .ok (.bipush 32, 2) := by decide +kernel
theorem dL_law_1317 : decode cL_law 1317 = .ok (.lshl, 1) := by decide +kernel
theorem dL_law_1318 : decode cL_law 1318 = .ok (.aload_n 0, 1) := by decide +kernel
theorem dL_law_1319 : decode cL_law 1319 = .ok (.iload_n 3, 1) := by decide +kernel
theorem dL_law_1320 : decode cL_law 1320 = .ok (.iconst 4, 1) := by decide +kernel
theorem dL_law_1321 : decode cL_law 1321 = .ok (.iadd, 1) := by decide +kernel
theorem dL_law_1322 : decode cL_law 1322 = .ok (.iaload, 1) := by decide +kernel
theorem dL_law_1323 : decode cL_law 1323 = .ok (.i2l, 1) := by decide +kernel
theorem dL_law_1324 : decode cL_law 1324 = .ok (.ldc2_w 163, 3) := by decide +kernel
theorem dL_law_1327 : decode cL_law 1327 = .ok (.land, 1) := by decide +kernel
theorem dL_law_1328 : decode cL_law 1328 = .ok (.lor, 1) := by decide +kernel
theorem dL_law_1329 : decode cL_law 1329 = .ok (.invokevirtual 169, 3) := by decide +kernel
theorem dL_law_1332 : decode cL_law 1332 = .ok (.if_icmp .eq 102, 3) := by decide +kernel
theorem dL_law_1335 : decode cL_law 1335 = .ok (.iconst 0, 1) := by decide +kernel
theorem dL_law_1336 : decode cL_law 1336 = .ok (.ireturn, 1) := by decide +kernel
theorem dL_law_1337 : decode cL_law 1337 = .ok (.aload_n 1, 1) := by decide +kernel
theorem dL_law_1338 : decode cL_law 1338 = .ok (.aload_n 0, 1) := by decide +kernel
theorem dL_law_1339 : decode cL_law 1339 = .ok (.iload_n 3, 1) := by decide +kernel
theorem dL_law_1340 : decode cL_law 1340 = .ok (.iconst 1, 1) := by decide +kernel
theorem dL_law_1341 : decode cL_law 1341 = .ok (.iadd, 1) := by decide +kernel
theorem dL_law_1342 : decode cL_law 1342 = .ok (.iaload, 1) := by decide +kernel
theorem dL_law_1343 : decode cL_law 1343 = .ok (.aload_n 0, 1) := by decide +kernel
theorem dL_law_1344 : decode cL_law 1344 = .ok (.iload_n 3, 1) := by decide +kernel
theorem dL_law_1345 : decode cL_law 1345 = .ok (.iconst 2, 1) := by decide +kernel
theorem dL_law_1346 : decode cL_law 1346 = .ok (.iadd, 1) := by decide +kernel
theorem dL_law_1347 : decode cL_law 1347 = .ok (.iaload, 1) := by decide +kernel
theorem dL_law_1348 : decode cL_law 1348 = .ok (.invokevirtual 170, 3) := by decide +kernel
theorem dL_law_1351 : decode cL_law 1351 = .ok (.aload_n 2, 1) := by decide +kernel
theorem dL_law_1352 : decode cL_law 1352 = .ok (.aload_n 0, 1) := by decide +kernel
theorem dL_law_1353 : decode cL_law 1353 = .ok (.iload_n 3, 1) := by decide +kernel
theorem dL_law_1354 : decode cL_law 1354 = .ok (.iconst 1, 1) := by decide +kernel
theorem dL_law_1355 : decode cL_law 1355 = .ok (.iadd, 1) := by decide +kernel
theorem dL_law_1356 : decode cL_law 1356 = .ok (.iaload, 1) := by decide +kernel
theorem dL_law_1357 : decode cL_law 1357 = .ok (.aload_n 0, 1) := by decide +kernel
theorem dL_law_1358 : decode cL_law 1358 = .ok (.iload_n 3, 1) := by decide +kernel
theorem dL_law_1359 : decode cL_law 1359 = .ok (.iconst 2, 1) := by decide +kernel
theorem dL_law_1360 : decode cL_law 1360 = .ok (.iadd, 1) := by decide +kernel
theorem dL_law_1361 : decode cL_law 1361 = .ok (.iaload, 1) := by decide +kernel
theorem dL_law_1362 : decode cL_law 1362 = .ok (.invokevirtual 174, 3) := by decide +kernel
theorem dL_law_1365 : decode cL_law 1365 = .ok (.lcmp, 1) := by decide +kernel
theorem dL_law_1366 : decode cL_law 1366 = .ok (.ifCond .eq 68, 3) := by decide +kernel
theorem dL_law_1369 : decode cL_law 1369 = .ok (.iconst 0, 1) := by decide +kernel
theorem dL_law_1370 : decode cL_law 1370 = .ok (.ireturn, 1) := by decide +kernel
theorem dL_law_1371 : decode cL_law 1371 = .ok (.aload_n 1, 1) := by decide +kernel
theorem dL_law_1372 : decode cL_law 1372 = .ok (.aload_n 0, 1) := by decide +kernel
theorem dL_law_1373 : decode cL_law 1373 = .ok (.iload_n 3, 1) := by decide +kernel
theorem dL_law_1374 : decode cL_law 1374 = .ok (.iconst 1, 1) := by decide +kernel
theorem dL_law_1375 : decode cL_law 1375 = .ok (.iadd, 1) := by decide +kernel
theorem dL_law_1376 : decode cL_law 1376 = .ok (.iaload, 1) := by decide +kernel
theorem dL_law_1377 : decode cL_law 1377 = .ok (.aload_n 0, 1) := by decide +kernel
theorem dL_law_1378 : decode cL_law 1378 = .ok (.iload_n 3, 1) := by decide +kernel
theorem dL_law_1379 : decode cL_law 1379 = .ok (.iconst 2, 1) := by decide +kernel
theorem dL_law_1380 : decode cL_law 1380 = .ok (.iadd, 1) := by decide +kernel
theorem dL_law_1381 : decode cL_law 1381 = .ok (.iaload, 1) := by decide +kernel
theorem dL_law_1382 : decode cL_law 1382 = .ok (.aload_n 0, 1) := by decide +kernel
theorem dL_law_1383 : decode cL_law 1383 = .ok (.iload_n 3, 1) := by decide +kernel
theorem dL_law_1384 : decode cL_law 1384 = .ok (.iconst 3, 1) := by decide +kernel
theorem dL_law_1385 : decode cL_law 1385 = .ok (.iadd, 1) := by decide +kernel
theorem dL_law_1386 : decode cL_law 1386 = .ok (.iaload, 1) := by decide +kernel
theorem dL_law_1387 : decode cL_law 1387 = .ok (.aload_n 0, 1) := by decide +kernel
theorem dL_law_1388 : decode cL_law 1388 = .ok (.iload_n 3, 1) := by decide +kernel
theorem dL_law_1389 : decode cL_law 1389 = .ok (.iconst 4, 1) := by decide +kernel
theorem dL_law_1390 : decode cL_law 1390 = .ok (.iadd, 1) := by decide +kernel
theorem dL_law_1391 : decode cL_law 1391 = .ok (.iaload, 1) := by decide +kernel
theorem dL_law_1392 : decode cL_law 1392 = .ok (.aload_n 0, 1) := by decide +kernel
theorem dL_law_1393 : decode cL_law 1393 = .ok (.iload_n 3, 1) := by decide +kernel
theorem dL_law_1394 : decode cL_law 1394 = .ok (.iconst 5, 1) := by decide +kernel
theorem dL_law_1395 : decode cL_law 1395 = .ok (.iadd, 1) := by decide +kernel
theorem dL_law_1396 : decode cL_law 1396 = .ok (.iaload, 1) := by decide +kernel
theorem dL_law_1397 : decode cL_law 1397 = .ok (.invokevirtual 175, 3) := by decide +kernel
theorem dL_law_1400 : decode cL_law 1400 = .ok (.aload_n 2, 1) := by decide +kernel
theorem dL_law_1401 : decode cL_law 1401 = .ok (.aload_n 0, 1) := by decide +kernel
theorem dL_law_1402 : decode cL_law 1402 = .ok (.iload_n 3, 1) := by decide +kernel
theorem dL_law_1403 : decode cL_law 1403 = .ok (.iconst 1, 1) := by decide +kernel
theorem dL_law_1404 : decode cL_law 1404 = .ok (.iadd, 1) := by decide +kernel
theorem dL_law_1405 : decode cL_law 1405 = .ok (.iaload, 1) := by decide +kernel
theorem dL_law_1406 : decode cL_law 1406 = .ok (.aload_n 0, 1) := by decide +kernel
theorem dL_law_1407 : decode cL_law 1407 = .ok (.iload_n 3, 1) := by decide +kernel
theorem dL_law_1408 : decode cL_law 1408 = .ok (.iconst 2, 1) := by decide +kernel
theorem dL_law_1409 : decode cL_law 1409 = .ok (.iadd, 1) := by decide +kernel
theorem dL_law_1410 : decode cL_law 1410 = .ok (.iaload, 1) := by decide +kernel
theorem dL_law_1411 : decode cL_law 1411 = .ok (.aload_n 0, 1) := by decide +kernel
theorem dL_law_1412 : decode cL_law 1412 = .ok (.iload_n 3, 1) := by decide +kernel
theorem dL_law_1413 : decode cL_law 1413 = .ok (.iconst 3, 1) := by decide +kernel
theorem dL_law_1414 : decode cL_law 1414 = .ok (.iadd, 1) := by decide +kernel
theorem dL_law_1415 : decode cL_law 1415 = .ok (.iaload, 1) := by decide +kernel
theorem dL_law_1416 : decode cL_law 1416 = .ok (.aload_n 0, 1) := by decide +kernel
theorem dL_law_1417 : decode cL_law 1417 = .ok (.iload_n 3, 1) := by decide +kernel
theorem dL_law_1418 : decode cL_law 1418 = .ok (.iconst 4, 1) := by decide +kernel
theorem dL_law_1419 : decode cL_law 1419 = .ok (.iadd, 1) := by decide +kernel
theorem dL_law_1420 : decode cL_law 1420 = .ok (.iaload, 1) := by decide +kernel
theorem dL_law_1421 : decode cL_law 1421 = .ok (.aload_n 0, 1) := by decide +kernel
theorem dL_law_1422 : decode cL_law 1422 = .ok (.iload_n 3, 1) := by decide +kernel
theorem dL_law_1423 : decode cL_law 1423 = .ok (.iconst 5, 1) := by decide +kernel
theorem dL_law_1424 : decode cL_law 1424 = .ok (.iadd, 1) := by decide +kernel
theorem dL_law_1425 : decode cL_law 1425 = .ok (.iaload, 1) := by decide +kernel
theorem dL_law_1426 : decode cL_law 1426 = .ok (.invokevirtual 179, 3) := by decide +kernel
theorem dL_law_1429 : decode cL_law 1429 = .ok (.if_icmp .eq 5, 3) := by decide +kernel
theorem dL_law_1432 : decode cL_law 1432 = .ok (.iconst 0, 1) := by decide +kernel
theorem dL_law_1433 : decode cL_law 1433 = .ok (.ireturn, 1) := by decide +kernel
theorem dL_law_1434 : decode cL_law 1434 = .ok (.iinc 3 6, 3) := by decide +kernel
theorem dL_law_1437 : decode cL_law 1437 = .ok (.goto (-1419), 3) := by decide +kernel
theorem dL_law_1440 : decode cL_law 1440 = .ok (.iconst 1, 1) := by decide +kernel
theorem dL_law_1441 : decode cL_law 1441 = .ok (.ireturn, 1) := by decide +kernel
end
section
-- ===== the mini machine: memory by cells, one judgement V over W =====
abbrev Mm : Type := (Nat → Nat → Int32) × (Nat → Nat → Int64) × (Nat → Nat → Nat)
abbrev Shp : Type := Nat × Nat × List Nat
/-- field tables of the kit, type names of arrays, addresses, shapes, the start, the launch -/
abbrev Gw : Type := va_G × (Nat → ClassId) × (Nat → Nat) × List Shp × State × Launch
abbrev gD (G : Gw) : va_G := G.1
abbrev gc (G : Gw) : Nat → ClassId := G.2.1
abbrev gr (G : Gw) : Nat → Nat := G.2.2.1
abbrev gsh (G : Gw) : List Shp := G.2.2.2.1
abbrev gs0 (G : Gw) : State := G.2.2.2.2.1
abbrev gl (G : Gw) : Launch := G.2.2.2.2.2
def gty (G : Gw) : List (ClassId × FieldType) := [(gc G 0, .int), (gc G 1, .long), (gc G 2, .char), (gc G 3, .boolean), (gc G 4, .object "NamesBack$Land"), (gc G 5, .object "NamesBack$Tape")]
def si (m : Mm) (k i : Nat) (x : Int32) : Mm := (fun a => if a = k then upd (m.1 k) i x else m.1 a, m.2.1, m.2.2)
def sl (m : Mm) (k i : Nat) (x : Int64) : Mm := (m.1, fun a => if a = k then vp_updL (m.2.1 k) i x else m.2.1 a, m.2.2)
def sr (m : Mm) (k i : Nat) (x : Nat) : Mm := (m.1, m.2.1, fun a => if a = k then (fun j => if j = i then x else m.2.2 k j) else m.2.2 a)
def sia (m : Mm) (k : Nat) (f : Nat → Int32) : Mm := (fun a => if a = k then f else m.1 a, m.2.1, m.2.2)
def sla (m : Mm) (k : Nat) (f : Nat → Int64) : Mm := (m.1, fun a => if a = k then f else m.2.1 a, m.2.2)
def mfv (G : Gw) (m : Mm) (k j t : Nat) : Value := if t = 0 then .int (m.1 k j) else if t = 1 then .ref (gr G (m.2.2 k j)) else .ref (gr G (t - 2))
def mcell (G : Gw) (m : Mm) (k : Nat) (s : Shp) : va_E := match s.1 with
  | 0 => .inl (gc G 0, s.2.1, .inl (m.1 k))
  | 1 => .inl (gc G 1, s.2.1, .inr (.inl (m.2.1 k)))
  | 2 => .inl (gc G 2, s.2.1, .inl (m.1 k))
  | 3 => .inl (gc G 3, s.2.1, .inl (m.1 k))
  | 4 => .inl (gc G 4, s.2.1, .inr (.inr (.inr (.inr (fun j => some (gr G (s.2.2.getD 0 0 + s.2.2.getD 1 0 * j)))))))
  | 5 => .inl (gc G 5, s.2.1, .inr (.inr (.inr (.inr (fun j => some (gr G (s.2.2.getD 0 0 + s.2.2.getD 1 0 * j)))))))
  | _ => .inr (s.2.1, s.2.2.mapIdx fun j t => mfv G m k j t)
def mw (G : Gw) (m : Mm) : va_W := (gsh G).mapIdx fun k s => (gr G k, mcell G m k s)
theorem mw_at {G : Gw} {m : Mm} {k : Nat} {s : Shp} (h : (gsh G)[k]? = some s) : (mw G m)[k]? = some (gr G k, mcell G m k s) := by
  unfold mw
  rw [List.getElem?_mapIdx, h]
  rfl
theorem mw_set {G : Gw} {m m' : Mm} {k : Nat} {s : Shp} (h : (gsh G)[k]? = some s) {e : va_E} (he : mcell G m' k s = e) (ho : ∀ j t, j ≠ k → mcell G m' j t = mcell G m j t) : (mw G m).set k (gr G k, e) = mw G m' := by
  have hl : k < (mw G m).length := (List.getElem?_eq_some_iff.mp (mw_at (m := m) h)).1
  apply List.ext_getElem?
  intro j
  by_cases hj : j = k
  · subst hj
    rw [List.getElem?_set_self hl, mw_at h, he]
  · rw [List.getElem?_set_ne (Ne.symm hj)]
    unfold mw
    rw [List.getElem?_mapIdx, List.getElem?_mapIdx]
    cases (gsh G)[j]? with
    | none => rfl
    | some t => show some (gr G j, mcell G m j t) = some (gr G j, mcell G m' j t); rw [ho j t hj]
theorem mfv_si {G : Gw} {m : Mm} {k i : Nat} {x : Int32} {j u t : Nat} (hj : j ≠ k) : mfv G (si m k i x) j u t = mfv G m j u t := by
  simp only [mfv, si]
  rw [if_neg hj]
theorem mfv_sl {G : Gw} {m : Mm} {k i : Nat} {x : Int64} {j u t : Nat} : mfv G (sl m k i x) j u t = mfv G m j u t := rfl
theorem mcell_si {G : Gw} {m : Mm} {k i : Nat} {x : Int32} (j : Nat) (t : Shp) (hj : j ≠ k) : mcell G (si m k i x) j t = mcell G m j t := by
  have e : (si m k i x).1 j = m.1 j := by simp only [si]; rw [if_neg hj]
  unfold mcell
  simp only [e, mfv_si hj]
  rfl
theorem mcell_sia {G : Gw} {m : Mm} {k : Nat} {f : Nat → Int32} (j : Nat) (t : Shp) (hj : j ≠ k) : mcell G (sia m k f) j t = mcell G m j t := by
  have e : (sia m k f).1 j = m.1 j := by simp only [sia]; rw [if_neg hj]
  unfold mcell
  simp only [mfv, e]
  rfl
theorem mcell_sl {G : Gw} {m : Mm} {k i : Nat} {x : Int64} (j : Nat) (t : Shp) (hj : j ≠ k) : mcell G (sl m k i x) j t = mcell G m j t := by
  have e : (sl m k i x).2.1 j = m.2.1 j := by simp only [sl]; rw [if_neg hj]
  unfold mcell
  simp only [mfv_sl, e]
  rfl
theorem mcell_sla {G : Gw} {m : Mm} {k : Nat} {f : Nat → Int64} (j : Nat) (t : Shp) (hj : j ≠ k) : mcell G (sla m k f) j t = mcell G m j t := by
  have e : (sla m k f).2.1 j = m.2.1 j := by simp only [sla]; rw [if_neg hj]
  unfold mcell
  simp only [mfv, e]
  rfl
theorem mcell_sr {G : Gw} {m : Mm} {k i x : Nat} (j : Nat) (t : Shp) (hj : j ≠ k) : mcell G (sr m k i x) j t = mcell G m j t := by
  have e : (sr m k i x).2.2 j = m.2.2 j := by simp only [sr]; rw [if_neg hj]
  unfold mcell
  simp only [mfv, e]
  rfl
theorem mfs_si {G : Gw} {m : Mm} {k i : Nat} {x : Int32} {fl : List Nat} (hf : fl[i]? = some 0) : (fl.mapIdx fun j t => mfv G (si m k i x) k j t) = (fl.mapIdx fun j t => mfv G m k j t).set i (.int x) := by
  have hl : i < (fl.mapIdx fun j t => mfv G m k j t).length := by rw [List.length_mapIdx]; exact (List.getElem?_eq_some_iff.mp hf).1
  apply List.ext_getElem?
  intro j
  by_cases hj : j = i
  · subst hj
    rw [List.getElem?_set_self hl, List.getElem?_mapIdx, hf]
    simp [mfv, si, upd]
  · rw [List.getElem?_set_ne (Ne.symm hj), List.getElem?_mapIdx, List.getElem?_mapIdx]
    cases fl[j]? with
    | none => rfl
    | some t => simp [mfv, si, upd, hj]
theorem mfs_sr {G : Gw} {m : Mm} {k i x : Nat} {fl : List Nat} (hf : fl[i]? = some 1) : (fl.mapIdx fun j t => mfv G (sr m k i x) k j t) = (fl.mapIdx fun j t => mfv G m k j t).set i (.ref (gr G x)) := by
  have hl : i < (fl.mapIdx fun j t => mfv G m k j t).length := by rw [List.length_mapIdx]; exact (List.getElem?_eq_some_iff.mp hf).1
  apply List.ext_getElem?
  intro j
  by_cases hj : j = i
  · subst hj
    rw [List.getElem?_set_self hl, List.getElem?_mapIdx, hf]
    simp [mfv, sr]
  · rw [List.getElem?_set_ne (Ne.symm hj), List.getElem?_mapIdx, List.getElem?_mapIdx]
    cases fl[j]? with
    | none => rfl
    | some t => simp [mfv, sr, hj]
/-- the words that go with every call -/
def gw_tbl : List Cond := lw_tbl.filter goodWord
theorem gw_mem {w : Cond} (h : w ∈ lw_tbl) (hg : goodWord w = true) : w ∈ gw_tbl := List.mem_filter.mpr ⟨h, hg⟩
theorem gw_tab {w : Cond} {i : Nat} (h : tables_1[i]? = some w) (hg : goodWord w = true) : w ∈ gw_tbl := gw_mem (List.mem_append_right _ (List.mem_of_getElem? h)) hg
theorem lw_tab {w : Cond} {i : Nat} (h : tables_1[i]? = some w) : w ∈ lw_tbl := List.mem_append_right _ (List.mem_of_getElem? h)
theorem gw_sel {y : MethodName} {n i : Nat} (h : lw_privs[i]? = some (y, n)) : Cond.selects y.cls y y ∈ gw_tbl := gw_mem (List.mem_append_left _ (List.mem_map.mpr ⟨(y, n), List.mem_of_getElem? h, rfl⟩)) rfl
theorem gw_lst {ws : List Cond} (ps : List Nat) (hp : ws = ps.filterMap (fun i => tables_1[i]?)) (hg : ws.all goodWord = true) : ∀ w ∈ ws, w ∈ gw_tbl := by
  intro w hw
  have h1 := List.all_eq_true.mp hg w hw
  rw [hp] at hw
  obtain ⟨i, -, hi⟩ := List.mem_filterMap.mp hw
  exact gw_tab hi h1
theorem gw_good : GoodIn gw_tbl gw_tbl := fun w h => ⟨h, good_of_word (List.mem_filter.mp h).2⟩
def gA (G : Gw) : Nat → Prop := fun q => ∃ k, k < (gsh G).length ∧ gr G k = q
def gOk (G : Gw) : Prop := (∃ a0, (∀ w ∈ lw_tbl, w.before a0 (gs0 G) = true) ∧ (Jvm.Cond.and given_1 narrow_1).before a0 (gs0 G) = true) ∧ (∀ i j, i < (gsh G).length → j < (gsh G).length → gr G i = gr G j → i = j) ∧ ∀ i, i < (gsh G).length → (gs0 G).heap.size ≤ gr G i
def gK (G : Gw) (U : State) : Prop := va_K (gD G) vwCl (gty G) U ∧ (gs0 G).WarmedH U.vm ∧ (gs0 G).heap.size ≤ U.heap.size ∧ ∀ q : Nat, q < (gs0 G).heap.size → U.heap[q]? = (gs0 G).heap[q]?
def gP (G : Gw) (m : Mm) (H : Heap) : Prop := va_P (gD G) vwCl (mw G m) H
theorem mw_len {G : Gw} {m : Mm} : (mw G m).length = (gsh G).length := by unfold mw; exact List.length_mapIdx
theorem mw_adr {G : Gw} {m : Mm} {k : Nat} {q : Nat × va_E} (h : (mw G m)[k]? = some q) : k < (gsh G).length ∧ gr G k = q.1 := by
  have hl := (List.getElem?_eq_some_iff.mp h).1
  rw [mw_len] at hl
  refine ⟨hl, ?_⟩
  have e := mw_at (G := G) (m := m) (List.getElem?_eq_getElem hl)
  rw [h] at e
  exact (congrArg Prod.fst (Option.some.inj e)).symm
theorem mw_D {G : Gw} (hG : gOk G) (m : Mm) : va_D (gA G) (mw G m) := by
  refine ⟨fun i j p q hi hj hpq => ?_, fun k q hk => ?_⟩
  · obtain ⟨a1, a2⟩ := mw_adr hi
    obtain ⟨b1, b2⟩ := mw_adr hj
    exact hG.2.1 i j a1 b1 (a2.trans (hpq.trans b2.symm))
  · obtain ⟨a1, a2⟩ := mw_adr hk
    exact ⟨k, a1, a2⟩
theorem gA_low {G : Gw} (hG : gOk G) {q : Nat} (h : q < (gs0 G).heap.size) : ¬ gA G q := by
  rintro ⟨k, h1, h2⟩
  have := hG.2.2 k h1
  omega
def rmd (d : Nat) : Room := { frames := d + 1, cells := 0, slots := 0, locals := 60 * d + 100 }
/-- what a method leaves -/
def mjQ (G : Gw) (P : Option Value → Mm → Prop) : Array Value → State → Outcome → State → Prop := fun _ st oc t => (∃ (v : Option Value) (m' : Mm), oc = .returned v ∧ P v m' ∧ gP G m' t.heap) ∧ va_F (gA G) st t
/-- a method's contract -/
def mjR (G : Gw) (d : Nat) (y : MethodName) (bytes : ByteArray) (maxL : Nat) (ret : Option FieldType) (av : List Value) (m : Mm) (P : Option Value → Mm → Prop) : Prop :=
  Met (gl G) y (.code y bytes maxL ret :: gw_tbl) (rmd d) (va_Pc av (fun U => gP G m U.heap ∧ gK G U)) (mjQ G P) 0 0 (gA G)
abbrev Cx : Type := Program × Launch × Env × Room × State × MethodId × Array Value × List Frame × Method × Code
def mjF (G : Gw) (X : Cx) (b : ByteArray) (own : String) (nL d : Nat) (ret : Option FieldType) : Prop :=
  X.1.tables.exec = Jvm.exec ∧ X.2.2.2.2.2.2.2.2.2.code = b ∧ X.2.2.2.2.2.2.2.2.2.maxLocals = nL ∧ X.2.2.2.2.1.vm.findClass own = some X.2.2.2.2.2.1.cls ∧ (∀ w ∈ gw_tbl, w.before X.2.2.2.2.2.2.1 X.2.2.2.2.1 = true) ∧ gK G X.2.2.2.2.1 ∧ gOk G ∧ X.2.2.2.1 = rmd d ∧ X.2.2.2.2.2.2.2.2.1.sig.returnType = ret ∧ X.2.2.2.2.2.2.2.2.1.locks = false ∧ X.2.1 = gl G
def mjV (G : Gw) (X : Cx) (nL pc : Nat) (L : List (Nat × Value)) (st : List Value) (m : Mm) (P : Option Value → Mm → Prop) : Prop :=
  ∀ (H : Heap) (locs : List Loc) (ls : Array Slot), gP G m H → va_S (gA G) X.2.2.2.2.1.heap H locs → lv_has ls nL L →
    W X.1 X.2.1 X.2.2.1 X.2.2.2.1 X.2.2.2.2.1 X.2.2.2.2.2.1 X.2.2.2.2.2.2.1 X.2.2.2.2.2.2.2.1 X.2.2.2.2.2.2.2.2.1 X.2.2.2.2.2.2.2.2.2 H locs 0 0 (MQ X.2.2.2.2.2.2.2.1 (mjQ G P) X.2.2.2.2.2.2.1 X.2.2.2.2.1 0 0 (gA G)) (F0 X.2.2.2.2.2.1 pc ls st)
theorem mjR_of {G : Gw} (hG : gOk G) {d : Nat} {y : MethodName} {bytes : ByteArray} {maxL : Nat} {ret : Option FieldType} {av : List Value} {m : Mm} {P : Option Value → Mm → Prop} (hy : plainName y.cls = true) (hn : (lg_sl av).length ≤ maxL)
    (k : ∀ X : Cx, mjF G X bytes y.cls maxL d ret → mjV G X maxL 0 (lv_args 0 av) [] m P) : mjR G d y bytes maxL ret av m P := by
  refine Met.ofW (cc := bytes) (maxL := maxL) (ret := ret) hy rfl ?_
  intro p e s mm args below meth c s₁ B hml hv
  obtain ⟨rfl, hP, hK⟩ := hv
  have hts := atoms_spec (ws := .code y bytes maxL ret :: gw_tbl) B.pre
  have hl := lv_entry av hn
  rw [lg_entry_eq]
  exact k (p, gl G, e, rmd d, s, mm, av.toArray, below, meth, c) ⟨B.exec, B.bytes, hml, findClass_of_methodNamed B.named, fun w h => hts w (List.mem_cons_of_mem _ h), hK, hG, rfl, B.returns, B.notSynchronized, rfl⟩ s.heap [] _ hP va_S.rf hl
-- ===== options, loops =====
def mjO {α : Type} (x : Option α) (k : α → Prop) : Prop := ∃ a, x = some a ∧ k a
theorem okS {α : Type} {a : α} {k : α → Prop} (h : mjO (some a) k) : k a := by
  obtain ⟨b, e, h⟩ := h
  cases e
  exact h
theorem okB {α β : Type} {x : Option α} {g : α → Option β} {k : β → Prop} (h : mjO (x.bind g) k) {P' : α → Prop} (hk : ∀ a, mjO (g a) k → P' a) : mjO x P' := by
  obtain ⟨b, e, h⟩ := h
  cases x with
  | none => cases e
  | some a => exact ⟨a, rfl, hk a ⟨b, e, h⟩⟩
theorem okT {α : Type} {c : Prop} [Decidable c] {x y : Option α} {k : α → Prop} (h : mjO (if c then x else y) k) (hc : c) : mjO x k := by rwa [if_pos hc] at h
theorem okF {α : Type} {c : Prop} [Decidable c] {x y : Option α} {k : α → Prop} (h : mjO (if c then x else y) k) (hc : ¬ c) : mjO y k := by rwa [if_neg hc] at h
def ga {α : Type} (i : Int32) (n : Nat) (x : Option α) : Option α := if i < 0 ∨ n ≤ i.toNatClampNeg then none else x
def gz {α : Type} (y : Int32) (x : Option α) : Option α := if y = 0 then none else x
def gzl {α : Type} (y : Int64) (x : Option α) : Option α := if y = 0 then none else x
def gq {α : Type} (c : Bool) (x : Option α) : Option α := if c = true then x else none
theorem okga {α : Type} {i : Int32} {n : Nat} {x : Option α} {k : α → Prop} (h : mjO (ga i n x) k) : vp_in i n ∧ mjO x k := by
  unfold ga at h
  by_cases hc : i < 0 ∨ n ≤ i.toNatClampNeg
  · rw [if_pos hc] at h
    obtain ⟨b, e, -⟩ := h
    cases e
  · rw [if_neg hc] at h
    exact ⟨hc, h⟩
theorem okgz {α : Type} {y : Int32} {x : Option α} {k : α → Prop} (h : mjO (gz y x) k) : ¬ y = 0 ∧ mjO x k := by
  unfold gz at h
  by_cases hc : y = 0
  · rw [if_pos hc] at h
    obtain ⟨b, e, -⟩ := h
    cases e
  · rw [if_neg hc] at h
    exact ⟨hc, h⟩
theorem okgzl {α : Type} {y : Int64} {x : Option α} {k : α → Prop} (h : mjO (gzl y x) k) : ¬ y = 0 ∧ mjO x k := by
  unfold gzl at h
  by_cases hc : y = 0
  · rw [if_pos hc] at h
    obtain ⟨b, e, -⟩ := h
    cases e
  · rw [if_neg hc] at h
    exact ⟨hc, h⟩
theorem okgq {α : Type} {c : Bool} {x : Option α} {k : α → Prop} (h : mjO (gq c x) k) : c = true ∧ mjO x k := by
  unfold gq at h
  by_cases hc : c = true
  · rw [if_pos hc] at h
    exact ⟨hc, h⟩
  · rw [if_neg hc] at h
    obtain ⟨b, e, -⟩ := h
    cases e
def itN {σ ρ : Type} (step : σ → Option (σ ⊕ ρ)) : Nat → σ → Option ρ
  | 0, _ => none
  | n + 1, s => match step s with
    | none => none
    | some (.inr r) => some r
    | some (.inl s') => itN step n s'
theorem itN_succ {σ ρ : Type} {step : σ → Option (σ ⊕ ρ)} : ∀ {n : Nat} {s : σ} {r : ρ}, itN step n s = some r → itN step (n + 1) s = some r
  | 0, _, _, h => by cases h
  | n + 1, s, r, h => by
    unfold itN at h ⊢
    cases hs : step s with
    | none => rw [hs] at h; cases h
    | some x =>
      rw [hs] at h
      cases x with
      | inr r' => exact h
      | inl s' => exact itN_succ h
theorem itN_mono {σ ρ : Type} {step : σ → Option (σ ⊕ ρ)} {n k : Nat} {s : σ} {r : ρ} (h : itN step n s = some r) (hk : n ≤ k) : itN step k s = some r := by
  induction hk with
  | refl => exact h
  | step _ ih => exact itN_succ ih
noncomputable def iter {σ ρ : Type} (step : σ → Option (σ ⊕ ρ)) (s : σ) : Option ρ :=
  have := Classical.propDecidable (∃ (n : Nat) (r : ρ), itN step n s = some r)
  if h : ∃ (n : Nat) (r : ρ), itN step n s = some r then some (Classical.choose (Classical.choose_spec h)) else none
theorem iter_of {σ ρ : Type} {step : σ → Option (σ ⊕ ρ)} {n : Nat} {s : σ} {r : ρ} (h : itN step n s = some r) : iter step s = some r := by
  have hx : ∃ (n : Nat) (r : ρ), itN step n s = some r := ⟨n, r, h⟩
  unfold iter
  rw [dif_pos hx]
  have h2 := Classical.choose_spec (Classical.choose_spec hx)
  have h3 := itN_mono h (Nat.le_max_left n (Classical.choose hx))
  have h4 := itN_mono h2 (Nat.le_max_right n (Classical.choose hx))
  exact h4.symm.trans h3
theorem iter_ex {σ ρ : Type} {step : σ → Option (σ ⊕ ρ)} {s : σ} {r : ρ} (h : iter step s = some r) : ∃ n, itN step n s = some r := by
  unfold iter at h
  by_cases hx : ∃ (n : Nat) (r : ρ), itN step n s = some r
  · rw [dif_pos hx] at h
    have h2 := Classical.choose_spec (Classical.choose_spec hx)
    rw [← Option.some.inj h]
    exact ⟨_, h2⟩
  · rw [dif_neg hx] at h
    cases h
theorem okI {σ ρ : Type} {step : σ → Option (σ ⊕ ρ)} {s0 : σ} {k : ρ → Prop} (T : σ → Prop) (h : mjO (iter step s0) k) (hs : ∀ s, mjO (step s) (Sum.elim T k) → T s) : T s0 := by
  obtain ⟨r, e, hk⟩ := h
  obtain ⟨n, hn⟩ := iter_ex e
  clear e
  induction n generalizing s0 with
  | zero => cases hn
  | succ n ih =>
    unfold itN at hn
    cases h1 : step s0 with
    | none => rw [h1] at hn; cases hn
    | some x =>
      rw [h1] at hn
      cases x with
      | inr r' =>
        cases hn
        exact hs s0 ⟨_, h1, hk⟩
      | inl s' => exact hs s0 ⟨_, h1, ih hn⟩
/-- a loop by the states that it goes through -/
theorem iter_eq {σ ρ : Type} {step : σ → Option (σ ⊕ ρ)} (s : σ) : iter step s = match step s with
    | none => none
    | some (.inr r) => some r
    | some (.inl s') => iter step s' := by
  cases h : step s with
  | none =>
    cases hi : iter step s with
    | none => rfl
    | some r =>
      obtain ⟨n, hn⟩ := iter_ex hi
      cases n with
      | zero => cases hn
      | succ n => unfold itN at hn; rw [h] at hn; cases hn
  | some x =>
    cases x with
    | inr r => exact iter_of (n := 1) (by unfold itN; rw [h])
    | inl s' =>
      show iter step s = iter step s'
      cases hi : iter step s' with
      | some r =>
        obtain ⟨n, hn⟩ := iter_ex hi
        exact iter_of (n := n + 1) (by unfold itN; rw [h]; exact hn)
      | none =>
        cases hj : iter step s with
        | none => rfl
        | some r =>
          obtain ⟨n, hn⟩ := iter_ex hj
          cases n with
          | zero => cases hn
          | succ n =>
            unfold itN at hn
            rw [h] at hn
            rw [iter_of hn] at hi
            cases hi
theorem iter_inr {σ ρ : Type} {step : σ → Option (σ ⊕ ρ)} {s : σ} {r : ρ} (h : step s = some (.inr r)) : iter step s = some r := by rw [iter_eq, h]
theorem iter_inl {σ ρ : Type} {step : σ → Option (σ ⊕ ρ)} {s s' : σ} (h : step s = some (.inl s')) : iter step s = iter step s' := by rw [iter_eq, h]
theorem iter_seq {σ ρ : Type} {step : σ → Option (σ ⊕ ρ)} (t : Nat → σ) (n : Nat) {r : ρ} (hs : ∀ i, i < n → step (t i) = some (.inl (t (i + 1)))) (he : step (t n) = some (.inr r)) : iter step (t 0) = some r := by
  have key : ∀ k, k ≤ n → iter step (t (n - k)) = some r := by
    intro k
    induction k with
    | zero => intro _; exact iter_inr he
    | succ k ih =>
      intro hk
      have h1 := hs (n - (k + 1)) (by omega)
      rw [show n - (k + 1) + 1 = n - k by omega] at h1
      rw [iter_inl h1]
      exact ih (by omega)
  have := key n (Nat.le_refl n)
  rwa [Nat.sub_self] at this
def jn {α β : Type} (j : α → β) (body : (α → β) → β) : β := body j
def bI (b : Bool) : Int32 := if b = true then 1 else 0
end
section
section
variable {G : Gw} {X : Cx} {b : ByteArray} {own : String} {nL d pc : Nat} {ret : Option FieldType} {L : List (Nat × Value)} {st : List Value} {m : Mm} {P : Option Value → Mm → Prop}
theorem vIload (F : mjF G X b own nL d ret) {i k : Nat} {x : Int32} (hd : decode b pc = .ok (.iload i, 2)) (hl : L[k]? = some (i, .int x)) (kk : mjV G X nL (pc + 2) L (.int x :: st) m P) : mjV G X nL pc L (st) m P := by
  obtain ⟨p, l, e, R, s, mm, args, below, meth, cd⟩ := X
  intro H locs ls hP hS hL
  exact lv_iload F.1 F.2.1 hd (lv_at hL k hl) (kk H locs ls hP hS hL)
theorem vIloadN (F : mjF G X b own nL d ret) {i : Fin 4} {k : Nat} {x : Int32} (hd : decode b pc = .ok (.iload_n i, 1)) (hl : L[k]? = some ((i : Nat), .int x)) (kk : mjV G X nL (pc + 1) L (.int x :: st) m P) : mjV G X nL pc L (st) m P := by
  obtain ⟨p, l, e, R, s, mm, args, below, meth, cd⟩ := X
  intro H locs ls hP hS hL
  exact lv_iload_n F.1 F.2.1 hd rfl (lv_at hL k hl) (kk H locs ls hP hS hL)
theorem vAload (F : mjF G X b own nL d ret) {i k : Nat} {x : Nat} (hd : decode b pc = .ok (.aload i, 2)) (hl : L[k]? = some (i, .ref x)) (kk : mjV G X nL (pc + 2) L (.ref x :: st) m P) : mjV G X nL pc L (st) m P := by
  obtain ⟨p, l, e, R, s, mm, args, below, meth, cd⟩ := X
  intro H locs ls hP hS hL
  exact lv_aload F.1 F.2.1 hd (lv_at hL k hl) (kk H locs ls hP hS hL)
theorem vAloadN (F : mjF G X b own nL d ret) {i : Fin 4} {k : Nat} {x : Nat} (hd : decode b pc = .ok (.aload_n i, 1)) (hl : L[k]? = some ((i : Nat), .ref x)) (kk : mjV G X nL (pc + 1) L (.ref x :: st) m P) : mjV G X nL pc L (st) m P := by
  obtain ⟨p, l, e, R, s, mm, args, below, meth, cd⟩ := X
  intro H locs ls hP hS hL
  exact lv_aload_n F.1 F.2.1 hd rfl (lv_at hL k hl) (kk H locs ls hP hS hL)
theorem vLload (F : mjF G X b own nL d ret) {i k : Nat} {x : Int64} (hd : decode b pc = .ok (.lload i, 2)) (hl : L[k]? = some (i, .long x)) (kk : mjV G X nL (pc + 2) L (.long x :: st) m P) : mjV G X nL pc L (st) m P := by
  obtain ⟨p, l, e, R, s, mm, args, below, meth, cd⟩ := X
  intro H locs ls hP hS hL
  exact lv_lload F.1 F.2.1 hd (lv_at hL k hl) (kk H locs ls hP hS hL)
theorem vLloadN (F : mjF G X b own nL d ret) {i : Fin 4} {k : Nat} {x : Int64} (hd : decode b pc = .ok (.lload_n i, 1)) (hl : L[k]? = some ((i : Nat), .long x)) (kk : mjV G X nL (pc + 1) L (.long x :: st) m P) : mjV G X nL pc L (st) m P := by
  obtain ⟨p, l, e, R, s, mm, args, below, meth, cd⟩ := X
  intro H locs ls hP hS hL
  exact lv_lload_n F.1 F.2.1 hd rfl (lv_at hL k hl) (kk H locs ls hP hS hL)
theorem vIstore (F : mjF G X b own nL d ret) {i : Nat} {x : Int32} {L' : List (Nat × Value)} (hd : decode b pc = .ok (.istore i, 2)) (hn : i < nL) (hl : (i, Value.int x) :: L.filter (fun q => !(q.1 == i) && !(q.1 + 1 == i && q.2.category == 2)) = L') (kk : mjV G X nL (pc + 2) L' st m P) : mjV G X nL pc L (.int x :: st) m P := by
  obtain ⟨p, l, e, R, s, mm, args, below, meth, cd⟩ := X
  intro H locs ls hP hS hL
  exact lv_istore F.1 F.2.1 hd hL hn hl (fun ls' hL' => kk H locs ls' hP hS hL')
theorem vIstoreN (F : mjF G X b own nL d ret) {k : Fin 4} {i : Nat} {x : Int32} {L' : List (Nat × Value)} (hd : decode b pc = .ok (.istore_n k, 1)) (hi : (k : Nat) = i) (hn : i < nL) (hl : (i, Value.int x) :: L.filter (fun q => !(q.1 == i) && !(q.1 + 1 == i && q.2.category == 2)) = L') (kk : mjV G X nL (pc + 1) L' st m P) : mjV G X nL pc L (.int x :: st) m P := by
  obtain ⟨p, l, e, R, s, mm, args, below, meth, cd⟩ := X
  intro H locs ls hP hS hL
  exact lv_istore_n F.1 F.2.1 hd hi hL hn hl (fun ls' hL' => kk H locs ls' hP hS hL')
theorem vAstore (F : mjF G X b own nL d ret) {i : Nat} {x : Nat} {L' : List (Nat × Value)} (hd : decode b pc = .ok (.astore i, 2)) (hn : i < nL) (hl : (i, Value.ref x) :: L.filter (fun q => !(q.1 == i) && !(q.1 + 1 == i && q.2.category == 2)) = L') (kk : mjV G X nL (pc + 2) L' st m P) : mjV G X nL pc L (.ref x :: st) m P := by
  obtain ⟨p, l, e, R, s, mm, args, below, meth, cd⟩ := X
  intro H locs ls hP hS hL
  exact lv_astore F.1 F.2.1 hd hL hn hl (fun ls' hL' => kk H locs ls' hP hS hL')
theorem vAstoreN (F : mjF G X b own nL d ret) {k : Fin 4} {i : Nat} {x : Nat} {L' : List (Nat × Value)} (hd : decode b pc = .ok (.astore_n k, 1)) (hi : (k : Nat) = i) (hn : i < nL) (hl : (i, Value.ref x) :: L.filter (fun q => !(q.1 == i) && !(q.1 + 1 == i && q.2.category == 2)) = L') (kk : mjV G X nL (pc + 1) L' st m P) : mjV G X nL pc L (.ref x :: st) m P := by
  obtain ⟨p, l, e, R, s, mm, args, below, meth, cd⟩ := X
  intro H locs ls hP hS hL
  exact lv_astore_n F.1 F.2.1 hd hi hL hn hl (fun ls' hL' => kk H locs ls' hP hS hL')
theorem vLstore (F : mjF G X b own nL d ret) {i : Nat} {x : Int64} {L' : List (Nat × Value)} (hd : decode b pc = .ok (.lstore i, 2)) (hn : i + 1 < nL) (hl : (i, Value.long x) :: L.filter (fun q => !(q.1 == i) && (!(q.1 == i + 1) && !(q.1 + 1 == i && q.2.category == 2))) = L') (kk : mjV G X nL (pc + 2) L' st m P) : mjV G X nL pc L (.long x :: st) m P := by
  obtain ⟨p, l, e, R, s, mm, args, below, meth, cd⟩ := X
  intro H locs ls hP hS hL
  exact lv_lstore F.1 F.2.1 hd hL hn hl (fun ls' hL' => kk H locs ls' hP hS hL')
theorem vLstoreN (F : mjF G X b own nL d ret) {k : Fin 4} {i : Nat} {x : Int64} {L' : List (Nat × Value)} (hd : decode b pc = .ok (.lstore_n k, 1)) (hi : (k : Nat) = i) (hn : i + 1 < nL) (hl : (i, Value.long x) :: L.filter (fun q => !(q.1 == i) && (!(q.1 == i + 1) && !(q.1 + 1 == i && q.2.category == 2))) = L') (kk : mjV G X nL (pc + 1) L' st m P) : mjV G X nL pc L (.long x :: st) m P := by
  obtain ⟨p, l, e, R, s, mm, args, below, meth, cd⟩ := X
  intro H locs ls hP hS hL
  exact lv_lstore_n F.1 F.2.1 hd hi hL hn hl (fun ls' hL' => kk H locs ls' hP hS hL')
theorem vIinc (F : mjF G X b own nL d ret) {i k : Nat} {n : Int} {x v : Int32} {L' : List (Nat × Value)} (hd : decode b pc = .ok (.iinc i n, 3)) (hk : L[k]? = some (i, .int x)) (hv : Int32.ofInt n = v) (hn : i < nL) (hl : (i, Value.int (x + v)) :: L.filter (fun q => !(q.1 == i) && !(q.1 + 1 == i && q.2.category == 2)) = L') (kk : mjV G X nL (pc + 3) L' st m P) : mjV G X nL pc L st m P := by
  obtain ⟨p, l, e, R, s, mm, args, below, meth, cd⟩ := X
  intro H locs ls hP hS hL
  exact lv_iinc F.1 F.2.1 hd hL hk (by rw [hv]) hn hl (fun ls' hL' => kk H locs ls' hP hS hL')
theorem vIconst (F : mjF G X b own nL d ret) {n : Int} {v : Int32} (hd : decode b pc = .ok (.iconst n, 1)) (hv : Int32.ofInt n = v) (kk : mjV G X nL (pc + 1) L (.int v :: st) m P) : mjV G X nL pc L (st) m P := by
  obtain ⟨p, l, e, R, s, mm, args, below, meth, cd⟩ := X
  intro H locs ls hP hS hL
  exact lv_iconst F.1 F.2.1 hd hv (kk H locs ls hP hS hL)
theorem vBipush (F : mjF G X b own nL d ret) {n : Int} {v : Int32} (hd : decode b pc = .ok (.bipush n, 2)) (hv : (Int8.ofInt n).toInt32 = v) (kk : mjV G X nL (pc + 2) L (.int v :: st) m P) : mjV G X nL pc L (st) m P := by
  obtain ⟨p, l, e, R, s, mm, args, below, meth, cd⟩ := X
  intro H locs ls hP hS hL
  exact lv_bipush F.1 F.2.1 hd hv (kk H locs ls hP hS hL)
theorem vSipush (F : mjF G X b own nL d ret) {n : Int} {v : Int32} (hd : decode b pc = .ok (.sipush n, 3)) (hv : (Int16.ofInt n).toInt32 = v) (kk : mjV G X nL (pc + 3) L (.int v :: st) m P) : mjV G X nL pc L (st) m P := by
  obtain ⟨p, l, e, R, s, mm, args, below, meth, cd⟩ := X
  intro H locs ls hP hS hL
  exact lv_sipush F.1 F.2.1 hd hv (kk H locs ls hP hS hL)
theorem vLconst (F : mjF G X b own nL d ret) {n : Fin 2} {v : Int64} (hd : decode b pc = .ok (.lconst n, 1)) (hv : Int64.ofNat (n : Nat) = v) (kk : mjV G X nL (pc + 1) L (.long v :: st) m P) : mjV G X nL pc L (st) m P := by
  obtain ⟨p, l, e, R, s, mm, args, below, meth, cd⟩ := X
  intro H locs ls hP hS hL
  exact lv_lconst F.1 F.2.1 hd hv (kk H locs ls hP hS hL)
theorem vLdc (F : mjF G X b own nL d ret) {i : Nat} {v : Int32} (hd : decode b pc = .ok (.ldc i, 2)) (hw : Cond.constant own i v ∈ gw_tbl) (kk : mjV G X nL (pc + 2) L (.int v :: st) m P) : mjV G X nL pc L (st) m P := by
  obtain ⟨p, l, e, R, s, mm, args, below, meth, cd⟩ := X
  intro H locs ls hP hS hL
  exact lv_ldc F.1 F.2.1 F.2.2.2.1 (F.2.2.2.2.1 _ hw) hd (kk H locs ls hP hS hL)
theorem vLdcW (F : mjF G X b own nL d ret) {i : Nat} {v : Int32} (hd : decode b pc = .ok (.ldc_w i, 3)) (hw : Cond.constant own i v ∈ gw_tbl) (kk : mjV G X nL (pc + 3) L (.int v :: st) m P) : mjV G X nL pc L (st) m P := by
  obtain ⟨p, l, e, R, s, mm, args, below, meth, cd⟩ := X
  intro H locs ls hP hS hL
  exact lv_ldcw F.1 F.2.1 F.2.2.2.1 (F.2.2.2.2.1 _ hw) hd (kk H locs ls hP hS hL)
theorem vLdc2 (F : mjF G X b own nL d ret) {i : Nat} {v : Int64} (hd : decode b pc = .ok (.ldc2_w i, 3)) (hw : Cond.constantLong own i v ∈ gw_tbl) (kk : mjV G X nL (pc + 3) L (.long v :: st) m P) : mjV G X nL pc L (st) m P := by
  obtain ⟨p, l, e, R, s, mm, args, below, meth, cd⟩ := X
  intro H locs ls hP hS hL
  exact lv_ldc2 F.1 F.2.1 F.2.2.2.1 (F.2.2.2.2.1 _ hw) hd (kk H locs ls hP hS hL)
theorem vIadd (F : mjF G X b own nL d ret) {x y : Int32} (hd : decode b pc = .ok (.iadd, 1)) (kk : mjV G X nL (pc + 1) L (.int (x + y) :: st) m P) : mjV G X nL pc L (.int y :: .int x :: st) m P := by
  obtain ⟨p, l, e, R, s, mm, args, below, meth, cd⟩ := X
  intro H locs ls hP hS hL
  exact lv_iadd F.1 F.2.1 hd (kk H locs ls hP hS hL)
theorem vIsub (F : mjF G X b own nL d ret) {x y : Int32} (hd : decode b pc = .ok (.isub, 1)) (kk : mjV G X nL (pc + 1) L (.int (x - y) :: st) m P) : mjV G X nL pc L (.int y :: .int x :: st) m P := by
  obtain ⟨p, l, e, R, s, mm, args, below, meth, cd⟩ := X
  intro H locs ls hP hS hL
  exact lv_isub F.1 F.2.1 hd (kk H locs ls hP hS hL)
theorem vImul (F : mjF G X b own nL d ret) {x y : Int32} (hd : decode b pc = .ok (.imul, 1)) (kk : mjV G X nL (pc + 1) L (.int (x * y) :: st) m P) : mjV G X nL pc L (.int y :: .int x :: st) m P := by
  obtain ⟨p, l, e, R, s, mm, args, below, meth, cd⟩ := X
  intro H locs ls hP hS hL
  exact lv_imul F.1 F.2.1 hd (kk H locs ls hP hS hL)
theorem vIand (F : mjF G X b own nL d ret) {x y : Int32} (hd : decode b pc = .ok (.iand, 1)) (kk : mjV G X nL (pc + 1) L (.int (x &&& y) :: st) m P) : mjV G X nL pc L (.int y :: .int x :: st) m P := by
  obtain ⟨p, l, e, R, s, mm, args, below, meth, cd⟩ := X
  intro H locs ls hP hS hL
  exact lv_iand F.1 F.2.1 hd (kk H locs ls hP hS hL)
theorem vIor (F : mjF G X b own nL d ret) {x y : Int32} (hd : decode b pc = .ok (.ior, 1)) (kk : mjV G X nL (pc + 1) L (.int (x ||| y) :: st) m P) : mjV G X nL pc L (.int y :: .int x :: st) m P := by
  obtain ⟨p, l, e, R, s, mm, args, below, meth, cd⟩ := X
  intro H locs ls hP hS hL
  exact lv_ior F.1 F.2.1 hd (kk H locs ls hP hS hL)
theorem vIxor (F : mjF G X b own nL d ret) {x y : Int32} (hd : decode b pc = .ok (.ixor, 1)) (kk : mjV G X nL (pc + 1) L (.int (x ^^^ y) :: st) m P) : mjV G X nL pc L (.int y :: .int x :: st) m P := by
  obtain ⟨p, l, e, R, s, mm, args, below, meth, cd⟩ := X
  intro H locs ls hP hS hL
  exact lv_ixor F.1 F.2.1 hd (kk H locs ls hP hS hL)
theorem vIshl (F : mjF G X b own nL d ret) {x y : Int32} (hd : decode b pc = .ok (.ishl, 1)) (kk : mjV G X nL (pc + 1) L (.int (x <<< (y &&& 31)) :: st) m P) : mjV G X nL pc L (.int y :: .int x :: st) m P := by
  obtain ⟨p, l, e, R, s, mm, args, below, meth, cd⟩ := X
  intro H locs ls hP hS hL
  exact lv_ishl F.1 F.2.1 hd (kk H locs ls hP hS hL)
theorem vIshr (F : mjF G X b own nL d ret) {x y : Int32} (hd : decode b pc = .ok (.ishr, 1)) (kk : mjV G X nL (pc + 1) L (.int (x >>> (y &&& 31)) :: st) m P) : mjV G X nL pc L (.int y :: .int x :: st) m P := by
  obtain ⟨p, l, e, R, s, mm, args, below, meth, cd⟩ := X
  intro H locs ls hP hS hL
  exact lv_ishr F.1 F.2.1 hd (kk H locs ls hP hS hL)
theorem vIushr (F : mjF G X b own nL d ret) {x y v : Int32} (hd : decode b pc = .ok (.iushr, 1)) (hv : (x.toUInt32 >>> (y.toUInt32 &&& Int32.toUInt32 31)).toInt32 = v) (kk : mjV G X nL (pc + 1) L (.int v :: st) m P) : mjV G X nL pc L (.int y :: .int x :: st) m P := by
  obtain ⟨p, l, e, R, s, mm, args, below, meth, cd⟩ := X
  intro H locs ls hP hS hL
  exact lv_iushr F.1 F.2.1 hd hv (kk H locs ls hP hS hL)
theorem vIdiv (F : mjF G X b own nL d ret) {x y : Int32} (hd : decode b pc = .ok (.idiv, 1)) (hne : ¬ y = 0) (kk : mjV G X nL (pc + 1) L (.int (x / y) :: st) m P) : mjV G X nL pc L (.int y :: .int x :: st) m P := by
  obtain ⟨p, l, e, R, s, mm, args, below, meth, cd⟩ := X
  intro H locs ls hP hS hL
  exact lv_idiv F.1 F.2.1 hd hne (kk H locs ls hP hS hL)
theorem vIrem (F : mjF G X b own nL d ret) {x y : Int32} (hd : decode b pc = .ok (.irem, 1)) (hne : ¬ y = 0) (kk : mjV G X nL (pc + 1) L (.int (x - x / y * y) :: st) m P) : mjV G X nL pc L (.int y :: .int x :: st) m P := by
  obtain ⟨p, l, e, R, s, mm, args, below, meth, cd⟩ := X
  intro H locs ls hP hS hL
  exact lv_irem F.1 F.2.1 hd hne (kk H locs ls hP hS hL)
theorem vLdiv (F : mjF G X b own nL d ret) {x y : Int64} (hd : decode b pc = .ok (.ldiv, 1)) (hne : ¬ y = 0) (kk : mjV G X nL (pc + 1) L (.long (x / y) :: st) m P) : mjV G X nL pc L (.long y :: .long x :: st) m P := by
  obtain ⟨p, l, e, R, s, mm, args, below, meth, cd⟩ := X
  intro H locs ls hP hS hL
  exact lv_ldiv F.1 F.2.1 hd hne (kk H locs ls hP hS hL)
theorem vLrem (F : mjF G X b own nL d ret) {x y : Int64} (hd : decode b pc = .ok (.lrem, 1)) (hne : ¬ y = 0) (kk : mjV G X nL (pc + 1) L (.long (x - x / y * y) :: st) m P) : mjV G X nL pc L (.long y :: .long x :: st) m P := by
  obtain ⟨p, l, e, R, s, mm, args, below, meth, cd⟩ := X
  intro H locs ls hP hS hL
  exact lv_lrem F.1 F.2.1 hd hne (kk H locs ls hP hS hL)
theorem vLadd (F : mjF G X b own nL d ret) {x y : Int64} (hd : decode b pc = .ok (.ladd, 1)) (kk : mjV G X nL (pc + 1) L (.long (x + y) :: st) m P) : mjV G X nL pc L (.long y :: .long x :: st) m P := by
  obtain ⟨p, l, e, R, s, mm, args, below, meth, cd⟩ := X
  intro H locs ls hP hS hL
  exact lv_ladd F.1 F.2.1 hd (kk H locs ls hP hS hL)
theorem vLmul (F : mjF G X b own nL d ret) {x y : Int64} (hd : decode b pc = .ok (.lmul, 1)) (kk : mjV G X nL (pc + 1) L (.long (x * y) :: st) m P) : mjV G X nL pc L (.long y :: .long x :: st) m P := by
  obtain ⟨p, l, e, R, s, mm, args, below, meth, cd⟩ := X
  intro H locs ls hP hS hL
  exact lv_lmul F.1 F.2.1 hd (kk H locs ls hP hS hL)
theorem vLcmp (F : mjF G X b own nL d ret) {x y : Int64} (hd : decode b pc = .ok (.lcmp, 1)) (kk : mjV G X nL (pc + 1) L (.int (lg_cmp x y) :: st) m P) : mjV G X nL pc L (.long y :: .long x :: st) m P := by
  obtain ⟨p, l, e, R, s, mm, args, below, meth, cd⟩ := X
  intro H locs ls hP hS hL
  exact W.lcmp F.1 F.2.1 hd (kk H locs ls hP hS hL)
theorem vIneg (F : mjF G X b own nL d ret) {x : Int32} (hd : decode b pc = .ok (.ineg, 1)) (kk : mjV G X nL (pc + 1) L (.int (-x) :: st) m P) : mjV G X nL pc L (.int x :: st) m P := by
  obtain ⟨p, l, e, R, s, mm, args, below, meth, cd⟩ := X
  intro H locs ls hP hS hL
  exact lv_ineg F.1 F.2.1 hd (kk H locs ls hP hS hL)
theorem vI2l (F : mjF G X b own nL d ret) {x : Int32} (hd : decode b pc = .ok (.i2l, 1)) (kk : mjV G X nL (pc + 1) L (.long x.toInt64 :: st) m P) : mjV G X nL pc L (.int x :: st) m P := by
  obtain ⟨p, l, e, R, s, mm, args, below, meth, cd⟩ := X
  intro H locs ls hP hS hL
  exact lv_i2l F.1 F.2.1 hd rfl (kk H locs ls hP hS hL)
theorem vL2i (F : mjF G X b own nL d ret) {x : Int64} (hd : decode b pc = .ok (.l2i, 1)) (kk : mjV G X nL (pc + 1) L (.int x.toInt32 :: st) m P) : mjV G X nL pc L (.long x :: st) m P := by
  obtain ⟨p, l, e, R, s, mm, args, below, meth, cd⟩ := X
  intro H locs ls hP hS hL
  exact lv_l2i F.1 F.2.1 hd rfl (kk H locs ls hP hS hL)
theorem vI2b (F : mjF G X b own nL d ret) {x : Int32} (hd : decode b pc = .ok (.i2b, 1)) (kk : mjV G X nL (pc + 1) L (.int x.toInt8.toInt32 :: st) m P) : mjV G X nL pc L (.int x :: st) m P := by
  obtain ⟨p, l, e, R, s, mm, args, below, meth, cd⟩ := X
  intro H locs ls hP hS hL
  exact lv_i2b F.1 F.2.1 hd rfl (kk H locs ls hP hS hL)
theorem vI2s (F : mjF G X b own nL d ret) {x : Int32} (hd : decode b pc = .ok (.i2s, 1)) (kk : mjV G X nL (pc + 1) L (.int x.toInt16.toInt32 :: st) m P) : mjV G X nL pc L (.int x :: st) m P := by
  obtain ⟨p, l, e, R, s, mm, args, below, meth, cd⟩ := X
  intro H locs ls hP hS hL
  exact lv_i2s F.1 F.2.1 hd rfl (kk H locs ls hP hS hL)
theorem vI2c (F : mjF G X b own nL d ret) {x : Int32} (hd : decode b pc = .ok (.i2c, 1)) (kk : mjV G X nL (pc + 1) L (.int (x.toUInt32 % 65536).toInt32 :: st) m P) : mjV G X nL pc L (.int x :: st) m P := by
  obtain ⟨p, l, e, R, s, mm, args, below, meth, cd⟩ := X
  intro H locs ls hP hS hL
  exact lv_i2c F.1 F.2.1 hd rfl (kk H locs ls hP hS hL)
theorem vDup (F : mjF G X b own nL d ret) {v : Value} (hd : decode b pc = .ok (.dup, 1)) (hv : v.category = 1) (kk : mjV G X nL (pc + 1) L (v :: v :: st) m P) : mjV G X nL pc L (v :: st) m P := by
  obtain ⟨p, l, e, R, s, mm, args, below, meth, cd⟩ := X
  intro H locs ls hP hS hL
  exact lv_dup F.1 F.2.1 hd hv (kk H locs ls hP hS hL)
theorem vPop (F : mjF G X b own nL d ret) {v : Value} (hd : decode b pc = .ok (.pop, 1)) (hv : v.category = 1) (kk : mjV G X nL (pc + 1) L (st) m P) : mjV G X nL pc L (v :: st) m P := by
  obtain ⟨p, l, e, R, s, mm, args, below, meth, cd⟩ := X
  intro H locs ls hP hS hL
  exact lv_pop F.1 F.2.1 hd hv (kk H locs ls hP hS hL)
theorem vDup2 (F : mjF G X b own nL d ret) {v u : Value} (hd : decode b pc = .ok (.dup2, 1)) (hv : v.category = 1) (hu : u.category = 1) (kk : mjV G X nL (pc + 1) L (v :: u :: v :: u :: st) m P) : mjV G X nL pc L (v :: u :: st) m P := by
  obtain ⟨p, l, e, R, s, mm, args, below, meth, cd⟩ := X
  intro H locs ls hP hS hL
  exact lv_dup2_11 F.1 F.2.1 hd hv hu (kk H locs ls hP hS hL)
theorem vIfEq (F : mjF G X b own nL d ret) {x : Int32} {off : Int} {tgt : Nat} (hd : decode b pc = .ok (.ifCond .eq off, 3)) (ht : (pc : Int) + off = (tgt : Int)) (kt : x = 0 → mjV G X nL tgt L st m P) (kf : ¬ x = 0 → mjV G X nL (pc + 3) L st m P) : mjV G X nL pc L (.int x :: st) m P := by
  obtain ⟨p, l, e, R, s, mm, args, below, meth, cd⟩ := X
  intro H locs ls hP hS hL
  exact lv_if_eq F.1 F.2.1 hd ht (fun c => kt c H locs ls hP hS hL) (fun c => kf c H locs ls hP hS hL)
theorem vIfNe (F : mjF G X b own nL d ret) {x : Int32} {off : Int} {tgt : Nat} (hd : decode b pc = .ok (.ifCond .ne off, 3)) (ht : (pc : Int) + off = (tgt : Int)) (kt : ¬ x = 0 → mjV G X nL tgt L st m P) (kf : x = 0 → mjV G X nL (pc + 3) L st m P) : mjV G X nL pc L (.int x :: st) m P := by
  obtain ⟨p, l, e, R, s, mm, args, below, meth, cd⟩ := X
  intro H locs ls hP hS hL
  exact lv_if_ne F.1 F.2.1 hd ht (fun c => kt c H locs ls hP hS hL) (fun c => kf c H locs ls hP hS hL)
theorem vIfLt (F : mjF G X b own nL d ret) {x : Int32} {off : Int} {tgt : Nat} (hd : decode b pc = .ok (.ifCond .lt off, 3)) (ht : (pc : Int) + off = (tgt : Int)) (kt : x < 0 → mjV G X nL tgt L st m P) (kf : ¬ x < 0 → mjV G X nL (pc + 3) L st m P) : mjV G X nL pc L (.int x :: st) m P := by
  obtain ⟨p, l, e, R, s, mm, args, below, meth, cd⟩ := X
  intro H locs ls hP hS hL
  exact lv_if_lt F.1 F.2.1 hd ht (fun c => kt c H locs ls hP hS hL) (fun c => kf c H locs ls hP hS hL)
theorem vIfGe (F : mjF G X b own nL d ret) {x : Int32} {off : Int} {tgt : Nat} (hd : decode b pc = .ok (.ifCond .ge off, 3)) (ht : (pc : Int) + off = (tgt : Int)) (kt : 0 ≤ x → mjV G X nL tgt L st m P) (kf : ¬ 0 ≤ x → mjV G X nL (pc + 3) L st m P) : mjV G X nL pc L (.int x :: st) m P := by
  obtain ⟨p, l, e, R, s, mm, args, below, meth, cd⟩ := X
  intro H locs ls hP hS hL
  exact lv_if_ge F.1 F.2.1 hd ht (fun c => kt c H locs ls hP hS hL) (fun c => kf c H locs ls hP hS hL)
theorem vIfGt (F : mjF G X b own nL d ret) {x : Int32} {off : Int} {tgt : Nat} (hd : decode b pc = .ok (.ifCond .gt off, 3)) (ht : (pc : Int) + off = (tgt : Int)) (kt : 0 < x → mjV G X nL tgt L st m P) (kf : ¬ 0 < x → mjV G X nL (pc + 3) L st m P) : mjV G X nL pc L (.int x :: st) m P := by
  obtain ⟨p, l, e, R, s, mm, args, below, meth, cd⟩ := X
  intro H locs ls hP hS hL
  exact lv_if_gt F.1 F.2.1 hd ht (fun c => kt c H locs ls hP hS hL) (fun c => kf c H locs ls hP hS hL)
theorem vIfLe (F : mjF G X b own nL d ret) {x : Int32} {off : Int} {tgt : Nat} (hd : decode b pc = .ok (.ifCond .le off, 3)) (ht : (pc : Int) + off = (tgt : Int)) (kt : x ≤ 0 → mjV G X nL tgt L st m P) (kf : ¬ x ≤ 0 → mjV G X nL (pc + 3) L st m P) : mjV G X nL pc L (.int x :: st) m P := by
  obtain ⟨p, l, e, R, s, mm, args, below, meth, cd⟩ := X
  intro H locs ls hP hS hL
  exact lv_if_le F.1 F.2.1 hd ht (fun c => kt c H locs ls hP hS hL) (fun c => kf c H locs ls hP hS hL)
theorem vIcmpEq (F : mjF G X b own nL d ret) {x y : Int32} {off : Int} {tgt : Nat} (hd : decode b pc = .ok (.if_icmp .eq off, 3)) (ht : (pc : Int) + off = (tgt : Int)) (kt : x = y → mjV G X nL tgt L st m P) (kf : ¬ x = y → mjV G X nL (pc + 3) L st m P) : mjV G X nL pc L (.int y :: .int x :: st) m P := by
  obtain ⟨p, l, e, R, s, mm, args, below, meth, cd⟩ := X
  intro H locs ls hP hS hL
  exact lv_icmp_eq F.1 F.2.1 hd ht (fun c => kt c H locs ls hP hS hL) (fun c => kf c H locs ls hP hS hL)
theorem vIcmpNe (F : mjF G X b own nL d ret) {x y : Int32} {off : Int} {tgt : Nat} (hd : decode b pc = .ok (.if_icmp .ne off, 3)) (ht : (pc : Int) + off = (tgt : Int)) (kt : ¬ x = y → mjV G X nL tgt L st m P) (kf : x = y → mjV G X nL (pc + 3) L st m P) : mjV G X nL pc L (.int y :: .int x :: st) m P := by
  obtain ⟨p, l, e, R, s, mm, args, below, meth, cd⟩ := X
  intro H locs ls hP hS hL
  exact lv_icmp_ne F.1 F.2.1 hd ht (fun c => kt c H locs ls hP hS hL) (fun c => kf c H locs ls hP hS hL)
theorem vIcmpLt (F : mjF G X b own nL d ret) {x y : Int32} {off : Int} {tgt : Nat} (hd : decode b pc = .ok (.if_icmp .lt off, 3)) (ht : (pc : Int) + off = (tgt : Int)) (kt : x < y → mjV G X nL tgt L st m P) (kf : ¬ x < y → mjV G X nL (pc + 3) L st m P) : mjV G X nL pc L (.int y :: .int x :: st) m P := by
  obtain ⟨p, l, e, R, s, mm, args, below, meth, cd⟩ := X
  intro H locs ls hP hS hL
  exact lv_icmp_lt F.1 F.2.1 hd ht (fun c => kt c H locs ls hP hS hL) (fun c => kf c H locs ls hP hS hL)
theorem vIcmpGe (F : mjF G X b own nL d ret) {x y : Int32} {off : Int} {tgt : Nat} (hd : decode b pc = .ok (.if_icmp .ge off, 3)) (ht : (pc : Int) + off = (tgt : Int)) (kt : y ≤ x → mjV G X nL tgt L st m P) (kf : ¬ y ≤ x → mjV G X nL (pc + 3) L st m P) : mjV G X nL pc L (.int y :: .int x :: st) m P := by
  obtain ⟨p, l, e, R, s, mm, args, below, meth, cd⟩ := X
  intro H locs ls hP hS hL
  exact lv_icmp_ge F.1 F.2.1 hd ht (fun c => kt c H locs ls hP hS hL) (fun c => kf c H locs ls hP hS hL)
theorem vIcmpGt (F : mjF G X b own nL d ret) {x y : Int32} {off : Int} {tgt : Nat} (hd : decode b pc = .ok (.if_icmp .gt off, 3)) (ht : (pc : Int) + off = (tgt : Int)) (kt : y < x → mjV G X nL tgt L st m P) (kf : ¬ y < x → mjV G X nL (pc + 3) L st m P) : mjV G X nL pc L (.int y :: .int x :: st) m P := by
  obtain ⟨p, l, e, R, s, mm, args, below, meth, cd⟩ := X
  intro H locs ls hP hS hL
  exact lv_icmp_gt F.1 F.2.1 hd ht (fun c => kt c H locs ls hP hS hL) (fun c => kf c H locs ls hP hS hL)
theorem vIcmpLe (F : mjF G X b own nL d ret) {x y : Int32} {off : Int} {tgt : Nat} (hd : decode b pc = .ok (.if_icmp .le off, 3)) (ht : (pc : Int) + off = (tgt : Int)) (kt : x ≤ y → mjV G X nL tgt L st m P) (kf : ¬ x ≤ y → mjV G X nL (pc + 3) L st m P) : mjV G X nL pc L (.int y :: .int x :: st) m P := by
  obtain ⟨p, l, e, R, s, mm, args, below, meth, cd⟩ := X
  intro H locs ls hP hS hL
  exact lv_icmp_le F.1 F.2.1 hd ht (fun c => kt c H locs ls hP hS hL) (fun c => kf c H locs ls hP hS hL)
theorem bI_0 {r : Bool} (h : bI r = 0) : ¬ r = true := by
  intro e
  rw [e] at h
  exact absurd h (by decide)
theorem bI_1 {r : Bool} (h : ¬ bI r = 0) : r = true := by
  cases r with
  | true => rfl
  | false => exact absurd rfl h
theorem vIfEqB (F : mjF G X b own nL d ret) {r : Bool} {off : Int} {tgt : Nat} (hd : decode b pc = .ok (.ifCond .eq off, 3)) (ht : (pc : Int) + off = (tgt : Int)) (kt : ¬ r = true → mjV G X nL tgt L st m P) (kf : r = true → mjV G X nL (pc + 3) L st m P) : mjV G X nL pc L (.int (bI r) :: st) m P :=
  vIfEq F hd ht (fun c => kt (bI_0 c)) (fun c => kf (bI_1 c))
theorem vIfNeB (F : mjF G X b own nL d ret) {r : Bool} {off : Int} {tgt : Nat} (hd : decode b pc = .ok (.ifCond .ne off, 3)) (ht : (pc : Int) + off = (tgt : Int)) (kt : r = true → mjV G X nL tgt L st m P) (kf : ¬ r = true → mjV G X nL (pc + 3) L st m P) : mjV G X nL pc L (.int (bI r) :: st) m P :=
  vIfNe F hd ht (fun c => kt (bI_1 c)) (fun c => kf (bI_0 c))
theorem vGoto (F : mjF G X b own nL d ret) {off : Int} {tgt : Nat} (hd : decode b pc = .ok (.goto off, 3)) (ht : (pc : Int) + off = (tgt : Int)) (kk : mjV G X nL tgt L st m P) : mjV G X nL pc L st m P := by
  obtain ⟨p, l, e, R, s, mm, args, below, meth, cd⟩ := X
  intro H locs ls hP hS hL
  exact lv_goto F.1 F.2.1 hd ht (kk H locs ls hP hS hL)
theorem vTabIn (F : mjF G X b own nL d ret) {dflt lo hi : Int} {offs : Array Int} {len : Nat} {x : Int32} {z : Int32} {off : Int} {tgt : Nat} (hd : decode b pc = .ok (.tableswitch dflt lo hi offs, len)) (hx : x = z) (h1 : ¬ z.toInt < lo) (h2 : ¬ hi < z.toInt) (ho : offs[(z.toInt - lo).toNat]? = some off) (ht : (pc : Int) + off = (tgt : Int)) (kk : mjV G X nL tgt L st m P) : mjV G X nL pc L (.int x :: st) m P := by
  subst hx
  obtain ⟨p, l, e, R, s, mm, args, below, meth, cd⟩ := X
  intro H locs ls hP hS hL
  exact lv_tableIn F.1 F.2.1 hd h1 h2 ho ht (kk H locs ls hP hS hL)
theorem vTabOut (F : mjF G X b own nL d ret) {dflt lo hi : Int} {offs : Array Int} {len : Nat} {x : Int32} {tgt : Nat} (hd : decode b pc = .ok (.tableswitch dflt lo hi offs, len)) (h : x.toInt < lo ∨ hi < x.toInt) (ht : (pc : Int) + dflt = (tgt : Int)) (kk : mjV G X nL tgt L st m P) : mjV G X nL pc L (.int x :: st) m P := by
  obtain ⟨p, l, e, R, s, mm, args, below, meth, cd⟩ := X
  intro H locs ls hP hS hL
  exact lv_tableOut F.1 F.2.1 hd h ht (kk H locs ls hP hS hL)
theorem vLook (F : mjF G X b own nL d ret) {dflt : Int} {ps : Array (Int × Int)} {len : Nat} {x : Int32} {off : Int} {tgt : Nat} (hd : decode b pc = .ok (.lookupswitch dflt ps, len)) (hp : (ps.toList.zip (ps.toList.drop 1)).all (fun (a, next) => a.1 < next.1) = true) (ho : Op.lookupswitch.offset ps.toList dflt x.toInt = off) (ht : (pc : Int) + off = (tgt : Int)) (kk : mjV G X nL tgt L st m P) : mjV G X nL pc L (.int x :: st) m P := by
  obtain ⟨p, l, e, R, s, mm, args, below, meth, cd⟩ := X
  intro H locs ls hP hS hL
  exact lv_lookup F.1 F.2.1 hd hp ho ht (kk H locs ls hP hS hL)
theorem lk_in {x : Int32} {a o d : Int} {r : List (Int × Int)} (z : Int32) (h : x = z) (hz : z.toInt = a) : Op.lookupswitch.offset ((a, o) :: r) d x.toInt = o := by
  rw [Op.lookupswitch.offset_cons, if_pos]
  rw [h, hz]
theorem lk_nil {x : Int32} {d : Int} : Op.lookupswitch.offset [] d x.toInt = d := rfl
/-- fewer locals -/
theorem vSub {L' : List (Nat × Value)} (ks : List Nat) (hl : lv_pick L ks = L') (kk : mjV G X nL pc L' st m P) : mjV G X nL pc L st m P :=
  fun H locs ls hP hS hL => kk H locs ls hP hS (lv_sub hL ks hl)
/-- the same at a written place -/
theorem vAt {pc' : Nat} (h : pc = pc') (kk : mjV G X nL pc' L st m P) : mjV G X nL pc L st m P := by subst h; exact kk
-- ends
theorem vIret (F : mjF G X b own nL d (some .int)) {x : Int32} (hd : decode b pc = .ok (.ireturn, 1)) (h : P (some (.int x)) m) : mjV G X nL pc L [.int x] m P := by
  obtain ⟨p, l, e, R, s, mm, args, below, meth, cd⟩ := X
  intro H locs ls hP hS hL
  exact W.iret F.1 F.2.1 F.2.2.2.2.2.2.2.2.1 (fun t ht hW => ⟨⟨_, m, rfl, h, by rw [ht]; exact hP⟩, hS.F ht⟩) hS.2.2 hd F.2.2.2.2.2.2.2.2.2.1
theorem vZret {ty : FieldType} (F : mjF G X b own nL d (some ty)) {x : Int32} (hd : decode b pc = .ok (.ireturn, 1)) (hn : narrow ty (.int x) = .int x) (h : P (some (.int x)) m) : mjV G X nL pc L [.int x] m P := by
  obtain ⟨p, l, e, R, s, mm, args, below, meth, cd⟩ := X
  intro H locs ls hP hS hL
  exact W.zret (ty := ty) F.1 F.2.1 F.2.2.2.2.2.2.2.2.1 hn (fun t ht hW => ⟨⟨_, m, rfl, h, by rw [ht]; exact hP⟩, hS.F ht⟩) hS.2.2 hd F.2.2.2.2.2.2.2.2.2.1
theorem vLret (F : mjF G X b own nL d (some .long)) {x : Int64} (hd : decode b pc = .ok (.lreturn, 1)) (h : P (some (.long x)) m) : mjV G X nL pc L [.long x] m P := by
  obtain ⟨p, l, e, R, s, mm, args, below, meth, cd⟩ := X
  intro H locs ls hP hS hL
  exact W.lret F.1 F.2.1 F.2.2.2.2.2.2.2.2.1 (fun t ht hW => ⟨⟨_, m, rfl, h, by rw [ht]; exact hP⟩, hS.F ht⟩) hS.2.2 hd F.2.2.2.2.2.2.2.2.2.1
theorem vVret (F : mjF G X b own nL d none) (hd : decode b pc = .ok (.return_, 1)) (h : P none m) : mjV G X nL pc L [] m P := by
  obtain ⟨p, l, e, R, s, mm, args, below, meth, cd⟩ := X
  intro H locs ls hP hS hL
  exact W.vret F.1 F.2.1 F.2.2.2.2.2.2.2.2.1 (fun t ht hW => ⟨⟨_, m, rfl, h, by rw [ht]; exact hP⟩, hS.F ht⟩) hS.2.2 hd F.2.2.2.2.2.2.2.2.2.1
theorem vAret {rt : FieldType} (F : mjF G X b own nL d (some rt)) {x : Nat} (hd : decode b pc = .ok (.areturn, 1)) (hn : (∃ n, rt = .object n) ∨ ∃ t, rt = .array t) (h : P (some (.ref x)) m) : mjV G X nL pc L [.ref x] m P := by
  obtain ⟨p, l, e, R, s, mm, args, below, meth, cd⟩ := X
  intro H locs ls hP hS hL
  exact W.aret F.1 F.2.1 F.2.2.2.2.2.2.2.2.1 hn (Or.inr ⟨_, rfl⟩) (fun t ht hW => ⟨⟨_, m, rfl, h, by rw [ht]; exact hP⟩, hS.F ht⟩) hS.2.2 hd F.2.2.2.2.2.2.2.2.2.1
end
end
section
section
variable {G : Gw} {X : Cx} {b : ByteArray} {own : String} {nL d pc : Nat} {ret : Option FieldType} {L : List (Nat × Value)} {st : List Value} {m : Mm} {P : Option Value → Mm → Prop}
-- ===== fields =====
def mjNest (own : String) (idx : Nat) (q : String × String × String × Bool) : Prop := ∃ host : String, Cond.fieldLinkNest own idx q.1 q.2.1 q.2.2.1 host ∈ lw_tbl
/-- entry idx of own's pool is field j of class ci -/
def mjFA (own : String) (idx ci j : Nat) : Prop := ∃ (C : String) (T : u_T) (N : Nat), vwCl[ci]? = some (C, T, N) ∧ (∀ w ∈ u_ws C T N, w ∈ gw_tbl) ∧ j < N ∧ (Cond.fieldLink own idx (T j).1 (T j).2.1 (T j).2.2.1 ∈ gw_tbl ∨ mjNest own idx (T j))
/-- and may be written: its type -/
def mjFW (own : String) (idx ci j : Nat) (ty : FieldType) : Prop := ∃ (C : String) (T : u_T) (N : Nat) (ty0 : Nat → FieldType), vwCl[ci]? = some (C, T, N) ∧ (∀ w ∈ u_ws C T N, w ∈ gw_tbl) ∧ j < N ∧ (Cond.fieldLink own idx (T j).1 (T j).2.1 (T j).2.2.1 ∈ gw_tbl ∨ mjNest own idx (T j)) ∧
  (∀ k, k < N → parseFieldDescriptor (T k).2.2.1 = some (ty0 k)) ∧ (∀ a, a < N → ∀ b, b < N → a ≠ b → (T a).2.1 ≠ (T b).2.1) ∧ (T j).2.2.2 = false ∧ parseFieldDescriptor (T j).2.2.1 = some ty
theorem mjF_nestF (F : mjF G X b own nL d ret) {own' : String} {idx : Nat} {r n t h : String} (hw : Cond.fieldLinkNest own' idx r n t h ∈ lw_tbl) : (Cond.fieldLinkNest own' idx r n t h).before X.2.2.2.2.2.2.1 X.2.2.2.2.1 = true := by
  obtain ⟨a0, h0, -⟩ := F.2.2.2.2.2.2.1.1
  exact va_Nw.use rfl (va_Nw.warmF F.2.2.2.2.2.1.2.1 (va_Nw.of rfl (h0 _ hw)))
theorem mjF_nestM (F : mjF G X b own nL d ret) {own' : String} {idx : Nat} {y : MethodName} {h : String} (hw : Cond.methodLinkNest own' idx y h ∈ lw_tbl) : va_Nw (.methodLinkNest own' idx y h) X.2.2.2.2.1 := by
  obtain ⟨a0, h0, -⟩ := F.2.2.2.2.2.2.1.1
  exact va_Nw.warmM F.2.2.2.2.2.1.2.1 (va_Nw.of rfl (h0 _ hw))
theorem mw_obj {k ci : Nat} {fl : List Nat} (h : (gsh G)[k]? = some (6, ci, fl)) : (mw G m)[k]? = some (gr G k, .inr (ci, fl.mapIdx fun j t => mfv G m k j t)) := mw_at h
theorem vGet (F : mjF G X b own nL d ret) {x ci j idx t : Nat} {fl : List Nat} {v : Value} (hd : decode b pc = .ok (.getfield idx, 3)) (fa : mjFA own idx ci j) (hx : (gsh G)[x]? = some (6, ci, fl)) (hf : fl[j]? = some t) (hv : mfv G m x j t = v) (kk : mjV G X nL (pc + 3) L (v :: st) m P) : mjV G X nL pc L (.ref (gr G x) :: st) m P := by
  obtain ⟨C, T, N, hc, hin, hk, hw⟩ := fa
  intro H locs ls hP hS hL
  have hv' : (fl.mapIdx fun j t => mfv G m x j t)[j]? = some v := by rw [List.getElem?_mapIdx, hf, ← hv]; rfl
  rcases hw with hw | ⟨host, hw⟩
  · exact va_get (ref := (T j).1) F.1 F.2.1 F.2.2.2.2.1 hin F.2.2.2.1 F.2.2.2.2.2.1.1 hP x (mw_obj hx) hc j hk (F.2.2.2.2.1 _ hw) (fun _ h => h) hv' hd (kk H locs ls hP hS hL)
  · exact va_getN (ref := (T j).1) F.1 F.2.1 F.2.2.2.2.1 hin F.2.2.2.1 F.2.2.2.2.2.1.1 hP x (mw_obj hx) hc j hk (mjF_nestF F hw) (fun _ h => h) hv' hd (kk H locs ls hP hS hL)
theorem vGetI (F : mjF G X b own nL d ret) {x ci j idx : Nat} {fl : List Nat} (hd : decode b pc = .ok (.getfield idx, 3)) (fa : mjFA own idx ci j) (hx : (gsh G)[x]? = some (6, ci, fl)) (hf : fl[j]? = some 0) (kk : mjV G X nL (pc + 3) L (.int (m.1 x j) :: st) m P) : mjV G X nL pc L (.ref (gr G x) :: st) m P := vGet F hd fa hx hf rfl kk
theorem vGetM (F : mjF G X b own nL d ret) {x ci j idx : Nat} {fl : List Nat} (hd : decode b pc = .ok (.getfield idx, 3)) (fa : mjFA own idx ci j) (hx : (gsh G)[x]? = some (6, ci, fl)) (hf : fl[j]? = some 1) (kk : mjV G X nL (pc + 3) L (.ref (gr G (m.2.2 x j)) :: st) m P) : mjV G X nL pc L (.ref (gr G x) :: st) m P := vGet F hd fa hx hf rfl kk
theorem vGetR (F : mjF G X b own nL d ret) {x ci j idx t : Nat} {fl : List Nat} (hd : decode b pc = .ok (.getfield idx, 3)) (fa : mjFA own idx ci j) (hx : (gsh G)[x]? = some (6, ci, fl)) (hf : fl[j]? = some (t + 2)) (kk : mjV G X nL (pc + 3) L (.ref (gr G t) :: st) m P) : mjV G X nL pc L (.ref (gr G x) :: st) m P := vGet F hd fa hx hf rfl kk
theorem mw_put {x ci j : Nat} {fl : List Nat} {v : Int32} (hx : (gsh G)[x]? = some (6, ci, fl)) (hf : fl[j]? = some 0) : (mw G m).set x (gr G x, .inr (ci, (fl.mapIdx fun j t => mfv G m x j t).set j (.int v))) = mw G (si m x j v) :=
  mw_set hx (by rw [← mfs_si hf]; rfl) (fun a t ha => mcell_si a t ha)
theorem mw_putr {x ci j t : Nat} {fl : List Nat} (hx : (gsh G)[x]? = some (6, ci, fl)) (hf : fl[j]? = some 1) : (mw G m).set x (gr G x, .inr (ci, (fl.mapIdx fun j t => mfv G m x j t).set j (.ref (gr G t)))) = mw G (sr m x j t) :=
  mw_set hx (by rw [← mfs_sr hf]; rfl) (fun a t ha => mcell_sr a t ha)
theorem vPut (F : mjF G X b own nL d ret) {x ci j idx t : Nat} {fl : List Nat} {ty : FieldType} {v : Value} {m' : Mm} (hd : decode b pc = .ok (.putfield idx, 3)) (fa : mjFW own idx ci j ty) (hx : (gsh G)[x]? = some (6, ci, fl)) (hf : fl[j]? = some t) (hn : narrow ty v = v ∧ fits ty v = true)
    (hm : (mw G m).set x (gr G x, .inr (ci, (fl.mapIdx fun j t => mfv G m x j t).set j v)) = mw G m') (kk : mjV G X nL (pc + 3) L st m' P) : mjV G X nL pc L (v :: .ref (gr G x) :: st) m P := by
  obtain ⟨C, T, N, ty0, hc, hin, hk, hw, hty, hnm, hfin, hpd⟩ := fa
  intro H locs ls hP hS hL
  have hl : j < (fl.mapIdx fun j t => mfv G m x j t).length := by rw [List.length_mapIdx]; exact (List.getElem?_eq_some_iff.mp hf).1
  rcases hw with hw | ⟨host, hw⟩
  · refine va_put (ref := (T j).1) F.1 F.2.1 F.2.2.2.2.1 hin ty0 hty hnm F.2.2.2.1 F.2.2.2.2.2.1.1 hP (mw_D F.2.2.2.2.2.2.1 m) hS x (mw_obj hx) hc j hk (F.2.2.2.2.1 _ hw) (fun _ h => h) hfin hpd hn.1 hn.2 hl hd (fun H1 locs1 hP1 hD1 hS1 => ?_)
    rw [hm] at hP1
    exact kk H1 locs1 ls hP1 hS1 hL
  · refine va_putN (ref := (T j).1) F.1 F.2.1 F.2.2.2.2.1 hin ty0 hty hnm F.2.2.2.1 F.2.2.2.2.2.1.1 hP (mw_D F.2.2.2.2.2.2.1 m) hS x (mw_obj hx) hc j hk (mjF_nestF F hw) (fun _ h => h) hfin hpd hn.1 hn.2 hl hd (fun H1 locs1 hP1 hD1 hS1 => ?_)
    rw [hm] at hP1
    exact kk H1 locs1 ls hP1 hS1 hL
theorem vPutI (F : mjF G X b own nL d ret) {x ci j idx : Nat} {fl : List Nat} {ty : FieldType} {v : Int32} (hd : decode b pc = .ok (.putfield idx, 3)) (fa : mjFW own idx ci j ty) (hx : (gsh G)[x]? = some (6, ci, fl)) (hf : fl[j]? = some 0) (hn : narrow ty (.int v) = .int v ∧ fits ty (.int v) = true) (kk : mjV G X nL (pc + 3) L st (si m x j v) P) : mjV G X nL pc L (.int v :: .ref (gr G x) :: st) m P :=
  vPut F hd fa hx hf hn (mw_put hx hf) kk
theorem vPutM (F : mjF G X b own nL d ret) {x ci j idx t : Nat} {fl : List Nat} {ty : FieldType} (hd : decode b pc = .ok (.putfield idx, 3)) (fa : mjFW own idx ci j ty) (hx : (gsh G)[x]? = some (6, ci, fl)) (hf : fl[j]? = some 1) (hn : narrow ty (.ref (gr G t)) = .ref (gr G t) ∧ fits ty (.ref (gr G t)) = true) (kk : mjV G X nL (pc + 3) L st (sr m x j t) P) : mjV G X nL pc L (.ref (gr G t) :: .ref (gr G x) :: st) m P :=
  vPut F hd fa hx hf hn (mw_putr hx hf) kk
-- ===== arrays =====
theorem vIald (F : mjF G X b own nL d ret) {x n : Nat} {fl : List Nat} {i : Int32} (hd : decode b pc = .ok (.iaload, 1)) (hx : (gsh G)[x]? = some (0, n, fl)) (hin : vp_in i n) (kk : mjV G X nL (pc + 1) L (.int (m.1 x i.toNatClampNeg) :: st) m P) : mjV G X nL pc L (.int i :: .ref (gr G x) :: st) m P :=
  fun H locs ls hP hS hL => va_iald F.1 F.2.1 F.2.2.2.2.2.1.1 hP x 0 (mw_at hx) rfl hin hd (kk H locs ls hP hS hL)
theorem vLald (F : mjF G X b own nL d ret) {x n : Nat} {fl : List Nat} {i : Int32} (hd : decode b pc = .ok (.laload, 1)) (hx : (gsh G)[x]? = some (1, n, fl)) (hin : vp_in i n) (kk : mjV G X nL (pc + 1) L (.long (m.2.1 x i.toNatClampNeg) :: st) m P) : mjV G X nL pc L (.int i :: .ref (gr G x) :: st) m P :=
  fun H locs ls hP hS hL => va_lald F.1 F.2.1 F.2.2.2.2.2.1.1 hP x 1 (mw_at hx) rfl hin hd (kk H locs ls hP hS hL)
theorem vCald (F : mjF G X b own nL d ret) {x n : Nat} {fl : List Nat} {i : Int32} (hd : decode b pc = .ok (.caload, 1)) (hx : (gsh G)[x]? = some (2, n, fl)) (hin : vp_in i n) (kk : mjV G X nL (pc + 1) L (.int (m.1 x i.toNatClampNeg) :: st) m P) : mjV G X nL pc L (.int i :: .ref (gr G x) :: st) m P :=
  fun H locs ls hP hS hL => va_cald F.1 F.2.1 F.2.2.2.2.2.1.1 hP x 2 (mw_at hx) rfl hin hd (kk H locs ls hP hS hL)
theorem vZald (F : mjF G X b own nL d ret) {x n : Nat} {fl : List Nat} {i : Int32} (hd : decode b pc = .ok (.baload, 1)) (hx : (gsh G)[x]? = some (3, n, fl)) (hin : vp_in i n) (kk : mjV G X nL (pc + 1) L (.int (m.1 x i.toNatClampNeg) :: st) m P) : mjV G X nL pc L (.int i :: .ref (gr G x) :: st) m P :=
  fun H locs ls hP hS hL => va_zald F.1 F.2.1 F.2.2.2.2.2.1.1 hP x 3 (mw_at hx) rfl hin hd (kk H locs ls hP hS hL)
theorem vIast (F : mjF G X b own nL d ret) {x n : Nat} {fl : List Nat} {i v : Int32} (hd : decode b pc = .ok (.iastore, 1)) (hx : (gsh G)[x]? = some (0, n, fl)) (hin : vp_in i n) (kk : mjV G X nL (pc + 1) L st (si m x i.toNatClampNeg v) P) : mjV G X nL pc L (.int v :: .int i :: .ref (gr G x) :: st) m P := by
  intro H locs ls hP hS hL
  refine va_iast F.1 F.2.1 F.2.2.2.2.2.1.1 hP (mw_D F.2.2.2.2.2.2.1 m) hS x 0 (mw_at hx) rfl hin hd (fun H1 locs1 hP1 hD1 hS1 => ?_)
  rw [mw_set (m' := si m x i.toNatClampNeg v) hx (by simp [mcell, si]) (fun a t ha => mcell_si a t ha)] at hP1
  exact kk H1 locs1 ls hP1 hS1 hL
theorem vCast (F : mjF G X b own nL d ret) {x n : Nat} {fl : List Nat} {i v : Int32} (hd : decode b pc = .ok (.castore, 1)) (hx : (gsh G)[x]? = some (2, n, fl)) (hin : vp_in i n) (kk : mjV G X nL (pc + 1) L st (si m x i.toNatClampNeg (vp_nar .char v)) P) : mjV G X nL pc L (.int v :: .int i :: .ref (gr G x) :: st) m P := by
  intro H locs ls hP hS hL
  refine va_cast F.1 F.2.1 F.2.2.2.2.2.1.1 hP (mw_D F.2.2.2.2.2.2.1 m) hS x 2 (mw_at hx) rfl hin hd (fun H1 locs1 hP1 hD1 hS1 => ?_)
  rw [mw_set (m' := si m x i.toNatClampNeg (vp_nar .char v)) hx (by simp [mcell, si]) (fun a t ha => mcell_si a t ha)] at hP1
  exact kk H1 locs1 ls hP1 hS1 hL
theorem vZast (F : mjF G X b own nL d ret) {x n : Nat} {fl : List Nat} {i v : Int32} (hd : decode b pc = .ok (.bastore, 1)) (hx : (gsh G)[x]? = some (3, n, fl)) (hin : vp_in i n) (hv : vp_nar .boolean v = v) (kk : mjV G X nL (pc + 1) L st (si m x i.toNatClampNeg v) P) : mjV G X nL pc L (.int v :: .int i :: .ref (gr G x) :: st) m P := by
  intro H locs ls hP hS hL
  refine va_zast F.1 F.2.1 F.2.2.2.2.2.1.1 hP (mw_D F.2.2.2.2.2.2.1 m) hS x 3 (mw_at hx) rfl hin hd (fun H1 locs1 hP1 hD1 hS1 => ?_)
  rw [hv] at hP1
  rw [mw_set (m' := si m x i.toNatClampNeg v) hx (by simp [mcell, si]) (fun a t ha => mcell_si a t ha)] at hP1
  exact kk H1 locs1 ls hP1 hS1 hL
theorem vLast (F : mjF G X b own nL d ret) {x n : Nat} {fl : List Nat} {i : Int32} {v : Int64} (hd : decode b pc = .ok (.lastore, 1)) (hx : (gsh G)[x]? = some (1, n, fl)) (hin : vp_in i n) (kk : mjV G X nL (pc + 1) L st (sl m x i.toNatClampNeg v) P) : mjV G X nL pc L (.long v :: .int i :: .ref (gr G x) :: st) m P := by
  intro H locs ls hP hS hL
  refine va_last F.1 F.2.1 F.2.2.2.2.2.1.1 hP (mw_D F.2.2.2.2.2.2.1 m) hS x 1 (mw_at hx) rfl hin hd (fun H1 locs1 hP1 hD1 hS1 => ?_)
  rw [mw_set (m' := sl m x i.toNatClampNeg v) hx (by simp [mcell, sl]) (fun a t ha => mcell_sl a t ha)] at hP1
  exact kk H1 locs1 ls hP1 hS1 hL
theorem vAald4 (F : mjF G X b own nL d ret) {x n : Nat} {fl : List Nat} {i : Int32} (hd : decode b pc = .ok (.aaload, 1)) (hx : (gsh G)[x]? = some (4, n, fl)) (hin : vp_in i n) (kk : mjV G X nL (pc + 1) L (.ref (gr G (fl.getD 0 0 + fl.getD 1 0 * i.toNatClampNeg)) :: st) m P) : mjV G X nL pc L (.int i :: .ref (gr G x) :: st) m P :=
  fun H locs ls hP hS hL => va_aldq F.1 F.2.1 F.2.2.2.2.2.1.1 hP x 4 (mw_at hx) rfl hin hd (kk H locs ls hP hS hL)
theorem vAald5 (F : mjF G X b own nL d ret) {x n : Nat} {fl : List Nat} {i : Int32} (hd : decode b pc = .ok (.aaload, 1)) (hx : (gsh G)[x]? = some (5, n, fl)) (hin : vp_in i n) (kk : mjV G X nL (pc + 1) L (.ref (gr G (fl.getD 0 0 + fl.getD 1 0 * i.toNatClampNeg)) :: st) m P) : mjV G X nL pc L (.int i :: .ref (gr G x) :: st) m P :=
  fun H locs ls hP hS hL => va_aldq F.1 F.2.1 F.2.2.2.2.2.1.1 hP x 5 (mw_at hx) rfl hin hd (kk H locs ls hP hS hL)
theorem vAlen0 (F : mjF G X b own nL d ret) {x n : Nat} {fl : List Nat} {v : Int32} (hd : decode b pc = .ok (.arraylength, 1)) (hx : (gsh G)[x]? = some (0, n, fl)) (hv : Int32.ofNat n = v) (kk : mjV G X nL (pc + 1) L (.int v :: st) m P) : mjV G X nL pc L (.ref (gr G x) :: st) m P :=
  fun H locs ls hP hS hL => va_alen F.1 F.2.1 F.2.2.2.2.2.1.1 hP x 0 (mw_at hx) rfl hv hd (kk H locs ls hP hS hL)
theorem vAlen1 (F : mjF G X b own nL d ret) {x n : Nat} {fl : List Nat} {v : Int32} (hd : decode b pc = .ok (.arraylength, 1)) (hx : (gsh G)[x]? = some (1, n, fl)) (hv : Int32.ofNat n = v) (kk : mjV G X nL (pc + 1) L (.int v :: st) m P) : mjV G X nL pc L (.ref (gr G x) :: st) m P :=
  fun H locs ls hP hS hL => va_alen F.1 F.2.1 F.2.2.2.2.2.1.1 hP x 1 (mw_at hx) rfl hv hd (kk H locs ls hP hS hL)
-- ===== calls =====
/-- the words of a method that is called -/
def mjY (y : MethodName) (bytes : ByteArray) (maxL : Nat) (ret : Option FieldType) (n : Nat) : Prop := Cond.code y bytes maxL ret ∈ gw_tbl ∧ Cond.initialized y.cls ∈ gw_tbl ∧ (y.cls ≠ "java/lang/invoke/MethodHandle" ∧ y.cls ≠ "java/lang/invoke/VarHandle") ∧ (parseMethodDescriptor y.desc).map (fun d => d.parameters.length) = some n ∧ maxL ≤ 41
def mjYV (y : MethodName) : Prop := Cond.instanceMethod y ∈ gw_tbl ∧ Cond.selects y.cls y y ∈ gw_tbl
theorem mj_blind {av : List Value} : FrameBlind (va_Pc av (fun U => gP G m U.heap ∧ gK G U)) := by
  intro a U g mk h
  obtain ⟨h1, h2, h3, h4, h5, h6⟩ := h
  exact ⟨h1, h2, va_K.moved (u := U) (U := U.calling g mk a) (Vm.Alike.refl U.vm) h3, h4, h5, h6⟩
theorem gK_at {U : State} {s : State} {H : Heap} {locs : List Loc} (hG : gOk G) (hK : gK G s) (hS : va_S (gA G) s.heap H locs) (hU : U.heap = H) (hW : s.WarmedH U.vm) : gK G U := by
  obtain ⟨h1, h2, h3, h4⟩ := hK
  refine ⟨va_K.moved hW.alike h1, State.WarmedH.trans h2 hW, ?_, fun q hq => ?_⟩
  · rw [hU]; exact Nat.le_trans h3 hS.1
  · rw [hU, hS.2.1 q (Nat.lt_of_lt_of_le hq h3) (gA_low hG hq)]
    exact h4 q hq
theorem mj_go {p : Program} {l : Launch} {e : Env} {R : Room} {s : State} {mm : MethodId} {args : Array Value} {below : List Frame} {meth : Method} {cd : Code} {H : Heap} {locs : List Loc} {ls : Array Slot} {st0 rest : List Value} {Q : State → Prop} {a : Array Value} {P' : Option Value → Mm → Prop}
    (hr : va_Run p l e R s mm args below meth cd H locs 0 0 0 0 (F0 mm pc ls st0) rest (mjQ G P' a) (gA G)) (hS : va_S (gA G) s.heap H locs)
    (kk : ∀ (v : Option Value) (m' : Mm) (H1 : Heap) (locs1 : List Loc), P' v m' → gP G m' H1 → va_S (gA G) s.heap H1 locs1 → W p l e R s mm args below meth cd H1 locs1 0 0 Q (F0 mm (pc + 3) ls (v.toList ++ rest))) : W p l e R s mm args below meth cd H locs 0 0 Q (F0 mm pc ls st0) := by
  intro T hT Y
  obtain ⟨v, st₀, t, T', L, h0, X', hL, e1, e2, ⟨⟨v', m', hv, hp, hb⟩, hz, hk⟩, st⟩ := hr T hT Y
  cases hv
  rw [h0] at hz hk
  obtain ⟨t2, a1, b1⟩ := kk v m' T'.heap (locs ++ L) hp (by rw [e1]; exact hb)
    ⟨Nat.le_trans hS.1 (by rw [e1]; exact hz), fun q h1 h2 => by rw [e1, hk q (Nat.lt_of_lt_of_le h1 hS.1) h2]; exact hS.2.1 q h1 h2, fun q hq => by
      rcases List.mem_append.mp hq with h | h
      · exact hS.2.2 q h
      · exact hL q h⟩ T' rfl X'
  exact ⟨t2, st t2 a1, b1⟩
theorem mj_room {R : Room} {d d' : Nat} (hR : R = rmd d) (hd : d' + 1 ≤ d) {maxL : Nat} (hm : maxL ≤ 41) : (rmd d').frames + 1 ≤ R.frames ∧ 8 + (maxL + 11) + (rmd d').locals ≤ R.locals := by
  subst hR
  refine ⟨?_, ?_⟩
  · show d' + 1 + 1 ≤ d + 1
    omega
  · show 8 + (maxL + 11) + (60 * d' + 100) ≤ 60 * d + 100
    omega
theorem mj_good {y : MethodName} {bytes : ByteArray} {maxL : Nat} {ret : Option FieldType} (h : Cond.code y bytes maxL ret ∈ gw_tbl) : GoodIn gw_tbl (.code y bytes maxL ret :: gw_tbl) := fun w hw => by
  rcases List.mem_cons.mp hw with rfl | hw
  · exact gw_good _ h
  · exact gw_good _ hw
theorem vCallV (F : mjF G X b own nL d ret) {x ci idx d' maxL n : Nat} {fl : List Nat} {y : MethodName} {bytes : ByteArray} {rt : Option FieldType} {As : List Value} {st0 : List Value} {T : u_T} {N : Nat} (hd : decode b pc = .ok (.invokevirtual idx, 3)) (hw : Cond.methodLink own idx y ∈ gw_tbl ∨ ∃ host, Cond.methodLinkNest own idx y host ∈ lw_tbl) (hy : mjY y bytes maxL rt n) (hv : mjYV y) (hx : (gsh G)[x]? = some (6, ci, fl)) (hc : vwCl[ci]? = some (y.cls, T, N)) (hdd : d' + 1 ≤ d) (hn : As.length = n) (hst : st0 = As.reverse ++ .ref (gr G x) :: st) (hcat : (st.map fun v => v.category).sum ≤ 8)
    (hR : mjR G d' y bytes maxL rt (.ref (gr G x) :: As) m (fun v m' => mjV G X nL (pc + 3) L (v.toList ++ st) m' P)) : mjV G X nL pc L st0 m P := by
  subst hst
  obtain ⟨p, l, e, R, s, mm, args, below, meth, cd⟩ := X
  intro H locs ls hP hS hL
  obtain ⟨w1, w2, w3, w4, w5⟩ := hy
  have hl : l = gl G := F.2.2.2.2.2.2.2.2.2.2
  subst hl
  have hrm := mj_room F.2.2.2.2.2.2.2.1 hdd w5
  have hrecv := va_recv F.2.2.2.2.2.1.1 hP hc (mw_obj (m := m) hx)
  have pre : PreV s H y.cls (gr G x) (va_Pc (.ref (gr G x) :: As) (fun U => gP G m U.heap ∧ gK G U)) As :=
    ⟨mj_blind, hrecv, fun U hU hW => ⟨rfl, by rw [hU]; exact hP, gK_at F.2.2.2.2.2.2.1 F.2.2.2.2.2.1 hS hU hW⟩⟩
  have hgood := mj_good w1
  have hlen : ∀ sig, parseMethodDescriptor y.desc = some sig → n = sig.parameters.length := fun sig h => by
    rw [h] at w4
    exact (Option.some.inj w4).symm
  rcases hw with hw | ⟨host, hw⟩
  · refine mj_go (va_runV ⟨F.1, F.2.1, F.2.2.1, F.2.2.2.1, F.2.2.2.2.1⟩ hR ⟨⟨rfl, rfl, hrm.1, hrm.2, pay_in F.2.2.2.2.1 hgood, List.mem_cons_self, F.2.2.2.2.1 _ w1, F.2.2.2.2.1 _ w2, w3, hlen, F.2.2.2.2.1 _ hw⟩, F.2.2.2.2.1 _ hv.1, F.2.2.2.2.1 _ hv.2⟩ pre rfl hn hL.1 rfl (lv_room hcat) hd ⟨Nat.zero_le _, Nat.zero_le _⟩) hS (fun v m' H1 locs1 h hP1 hS1 => h H1 locs1 ls hP1 hS1 hL)
  · refine mj_go (va_runVN ⟨F.1, F.2.1, F.2.2.1, F.2.2.2.1, F.2.2.2.2.1⟩ hR ⟨⟨⟨rfl, rfl, hrm.1, hrm.2, pay_in F.2.2.2.2.1 hgood, List.mem_cons_self⟩, F.2.2.2.2.1 _ w1, F.2.2.2.2.1 _ w2, w3, hlen, va_Nw.use rfl (mjF_nestM F hw)⟩, F.2.2.2.2.1 _ hv.1, F.2.2.2.2.1 _ hv.2⟩ pre rfl hn hL.1 rfl (lv_room hcat) hd ⟨Nat.zero_le _, Nat.zero_le _⟩) hS (fun v m' H1 locs1 h hP1 hS1 => h H1 locs1 ls hP1 hS1 hL)
theorem vCallS (F : mjF G X b own nL d ret) {idx d' maxL n : Nat} {y : MethodName} {bytes : ByteArray} {rt : Option FieldType} {As : List Value} {st0 : List Value} (hd : decode b pc = .ok (.invokestatic idx, 3)) (hw : Cond.methodLink own idx y ∈ gw_tbl ∨ ∃ host, Cond.methodLinkNest own idx y host ∈ lw_tbl) (hy : mjY y bytes maxL rt n) (hv : Cond.static y ∈ gw_tbl) (hdd : d' + 1 ≤ d) (hn : As.length = n) (hst : st0 = As.reverse ++ st) (hcat : (st.map fun v => v.category).sum ≤ 8)
    (hR : mjR G d' y bytes maxL rt As m (fun v m' => mjV G X nL (pc + 3) L (v.toList ++ st) m' P)) : mjV G X nL pc L st0 m P := by
  subst hst
  obtain ⟨p, l, e, R, s, mm, args, below, meth, cd⟩ := X
  intro H locs ls hP hS hL
  obtain ⟨w1, w2, w3, w4, w5⟩ := hy
  have hl : l = gl G := F.2.2.2.2.2.2.2.2.2.2
  subst hl
  have hrm := mj_room F.2.2.2.2.2.2.2.1 hdd w5
  have pre : PreS s H (va_Pc As (fun U => gP G m U.heap ∧ gK G U)) As :=
    ⟨mj_blind, fun U hU hW => ⟨rfl, by rw [hU]; exact hP, gK_at F.2.2.2.2.2.2.1 F.2.2.2.2.2.1 hS hU hW⟩⟩
  have hgood := mj_good w1
  have hlen : ∀ sig, parseMethodDescriptor y.desc = some sig → n = sig.parameters.length := fun sig h => by
    rw [h] at w4
    exact (Option.some.inj w4).symm
  rcases hw with hw | ⟨host, hw⟩
  · refine mj_go (va_runS ⟨F.1, F.2.1, F.2.2.1, F.2.2.2.1, F.2.2.2.2.1⟩ hR ⟨⟨rfl, rfl, hrm.1, hrm.2, pay_in F.2.2.2.2.1 hgood, List.mem_cons_self, F.2.2.2.2.1 _ w1, F.2.2.2.2.1 _ w2, w3, hlen, F.2.2.2.2.1 _ hw⟩, F.2.2.2.2.1 _ hv⟩ pre rfl hn hL.1 rfl (lv_room hcat) hd ⟨Nat.zero_le _, Nat.zero_le _⟩) hS (fun v m' H1 locs1 h hP1 hS1 => h H1 locs1 ls hP1 hS1 hL)
  · refine mj_go (va_runSN ⟨F.1, F.2.1, F.2.2.1, F.2.2.2.1, F.2.2.2.2.1⟩ hR ⟨⟨⟨rfl, rfl, hrm.1, hrm.2, pay_in F.2.2.2.2.1 hgood, List.mem_cons_self⟩, F.2.2.2.2.1 _ w1, F.2.2.2.2.1 _ w2, w3, hlen, va_Nw.use rfl (mjF_nestM F hw)⟩, F.2.2.2.2.1 _ hv, trivial⟩ pre rfl hn hL.1 rfl (lv_room hcat) hd ⟨Nat.zero_le _, Nat.zero_le _⟩) hS (fun v m' H1 locs1 h hP1 hS1 => h H1 locs1 ls hP1 hS1 hL)
end
end
