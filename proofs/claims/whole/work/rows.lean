section
-- ===== PART A: goes FIRST, ahead of the names: the tables' words, and 'selects' of the private methods out of them =====
/-- a private method of a class that the tables say can be made, by its rows of tables_1 -/
def lw_okq (q : MethodName × Nat) : Prop := (q.1.cls ≠ "java/lang/invoke/MethodHandle" ∧ q.1.cls ≠ "java/lang/invoke/VarHandle") ∧ Cond.instantiable q.1.cls q.2 ∈ tables_1 ∧ Cond.privateMethod q.1 ∈ tables_1 ∧ Cond.instanceMethod q.1 ∈ tables_1
theorem lw_p0 : lw_okq (⟨"FewLooks", "isPlace", "(I)Z"⟩, 6) := ⟨⟨by decide +kernel, by decide +kernel⟩, List.mem_of_getElem? (i := 10) (by decide +kernel), List.mem_of_getElem? (i := 110) (by decide +kernel), List.mem_of_getElem? (i := 111) (by decide +kernel)⟩
theorem lw_p1 : lw_okq (⟨"FewLooks", "howFar", "(I)I"⟩, 6) := ⟨⟨by decide +kernel, by decide +kernel⟩, List.mem_of_getElem? (i := 10) (by decide +kernel), List.mem_of_getElem? (i := 168) (by decide +kernel), List.mem_of_getElem? (i := 169) (by decide +kernel)⟩
theorem lw_p2 : lw_okq (⟨"FewLooks$Mender", "raise", "(LFewLooks$Row;)V"⟩, 3) := ⟨⟨by decide +kernel, by decide +kernel⟩, List.mem_of_getElem? (i := 36) (by decide +kernel), List.mem_of_getElem? (i := 183) (by decide +kernel), List.mem_of_getElem? (i := 184) (by decide +kernel)⟩
theorem lw_p3 : lw_okq (⟨"FewLooks$Mender", "fillCosts", "(LFewLooks$Row;)V"⟩, 3) := ⟨⟨by decide +kernel, by decide +kernel⟩, List.mem_of_getElem? (i := 36) (by decide +kernel), List.mem_of_getElem? (i := 187) (by decide +kernel), List.mem_of_getElem? (i := 188) (by decide +kernel)⟩
theorem lw_p4 : lw_okq (⟨"FewLooks$Mender", "costWith", "(LFewLooks$Row;II)I"⟩, 3) := ⟨⟨by decide +kernel, by decide +kernel⟩, List.mem_of_getElem? (i := 36) (by decide +kernel), List.mem_of_getElem? (i := 191) (by decide +kernel), List.mem_of_getElem? (i := 192) (by decide +kernel)⟩
theorem lw_p5 : lw_okq (⟨"FewLooks$Mender", "mirror", "(LFewLooks$Row;)V"⟩, 3) := ⟨⟨by decide +kernel, by decide +kernel⟩, List.mem_of_getElem? (i := 36) (by decide +kernel), List.mem_of_getElem? (i := 198) (by decide +kernel), List.mem_of_getElem? (i := 199) (by decide +kernel)⟩
theorem lw_p6 : lw_okq (⟨"FewLooks$Mender", "makeEven", "()V"⟩, 3) := ⟨⟨by decide +kernel, by decide +kernel⟩, List.mem_of_getElem? (i := 36) (by decide +kernel), List.mem_of_getElem? (i := 202) (by decide +kernel), List.mem_of_getElem? (i := 203) (by decide +kernel)⟩
theorem lw_p7 : lw_okq (⟨"FewLooks$Mender", "makeRound", "(LFewLooks$Row;)V"⟩, 3) := ⟨⟨by decide +kernel, by decide +kernel⟩, List.mem_of_getElem? (i := 36) (by decide +kernel), List.mem_of_getElem? (i := 210) (by decide +kernel), List.mem_of_getElem? (i := 211) (by decide +kernel)⟩
theorem lw_p8 : lw_okq (⟨"FewLooks$Mender", "guessPeriod", "(LFewLooks$Row;I)V"⟩, 3) := ⟨⟨by decide +kernel, by decide +kernel⟩, List.mem_of_getElem? (i := 36) (by decide +kernel), List.mem_of_getElem? (i := 214) (by decide +kernel), List.mem_of_getElem? (i := 215) (by decide +kernel)⟩
theorem lw_p9 : lw_okq (⟨"FewLooks$Net", "bestColouringOf", "(I)I"⟩, 1) := ⟨⟨by decide +kernel, by decide +kernel⟩, List.mem_of_getElem? (i := 66) (by decide +kernel), List.mem_of_getElem? (i := 243) (by decide +kernel), List.mem_of_getElem? (i := 244) (by decide +kernel)⟩
theorem lw_p10 : lw_okq (⟨"FewLooks", "passing", "(I)I"⟩, 6) := ⟨⟨by decide +kernel, by decide +kernel⟩, List.mem_of_getElem? (i := 10) (by decide +kernel), List.mem_of_getElem? (i := 278) (by decide +kernel), List.mem_of_getElem? (i := 279) (by decide +kernel)⟩
theorem lw_p11 : lw_okq (⟨"FewLooks$Row", "risingPairs", "()I"⟩, 2) := ⟨⟨by decide +kernel, by decide +kernel⟩, List.mem_of_getElem? (i := 18) (by decide +kernel), List.mem_of_getElem? (i := 286) (by decide +kernel), List.mem_of_getElem? (i := 287) (by decide +kernel)⟩
theorem lw_p12 : lw_okq (⟨"FewLooks$Row", "mirroredPlaces", "()I"⟩, 2) := ⟨⟨by decide +kernel, by decide +kernel⟩, List.mem_of_getElem? (i := 18) (by decide +kernel), List.mem_of_getElem? (i := 290) (by decide +kernel), List.mem_of_getElem? (i := 291) (by decide +kernel)⟩
theorem lw_p13 : lw_okq (⟨"FewLooks$Row", "alikeShifts", "()I"⟩, 2) := ⟨⟨by decide +kernel, by decide +kernel⟩, List.mem_of_getElem? (i := 18) (by decide +kernel), List.mem_of_getElem? (i := 295) (by decide +kernel), List.mem_of_getElem? (i := 296) (by decide +kernel)⟩
theorem lw_p14 : lw_okq (⟨"FewLooks", "looks", "(I)I"⟩, 6) := ⟨⟨by decide +kernel, by decide +kernel⟩, List.mem_of_getElem? (i := 10) (by decide +kernel), List.mem_of_getElem? (i := 316) (by decide +kernel), List.mem_of_getElem? (i := 317) (by decide +kernel)⟩
theorem lw_p15 : lw_okq (⟨"FewLooks", "worstCode", "(II)I"⟩, 6) := ⟨⟨by decide +kernel, by decide +kernel⟩, List.mem_of_getElem? (i := 10) (by decide +kernel), List.mem_of_getElem? (i := 338) (by decide +kernel), List.mem_of_getElem? (i := 339) (by decide +kernel)⟩
def lw_privs_1 : List (MethodName × Nat) := [(⟨"FewLooks", "isPlace", "(I)Z"⟩, 6), (⟨"FewLooks", "howFar", "(I)I"⟩, 6), (⟨"FewLooks$Mender", "raise", "(LFewLooks$Row;)V"⟩, 3), (⟨"FewLooks$Mender", "fillCosts", "(LFewLooks$Row;)V"⟩, 3), (⟨"FewLooks$Mender", "costWith", "(LFewLooks$Row;II)I"⟩, 3), (⟨"FewLooks$Mender", "mirror", "(LFewLooks$Row;)V"⟩, 3), (⟨"FewLooks$Mender", "makeEven", "()V"⟩, 3), (⟨"FewLooks$Mender", "makeRound", "(LFewLooks$Row;)V"⟩, 3), (⟨"FewLooks$Mender", "guessPeriod", "(LFewLooks$Row;I)V"⟩, 3), (⟨"FewLooks$Net", "bestColouringOf", "(I)I"⟩, 1), (⟨"FewLooks", "passing", "(I)I"⟩, 6), (⟨"FewLooks$Row", "risingPairs", "()I"⟩, 2), (⟨"FewLooks$Row", "mirroredPlaces", "()I"⟩, 2), (⟨"FewLooks$Row", "alikeShifts", "()I"⟩, 2), (⟨"FewLooks", "looks", "(I)I"⟩, 6), (⟨"FewLooks", "worstCode", "(II)I"⟩, 6)]
theorem lw_r1 : ∀ q ∈ lw_privs_1, lw_okq q := List.forall_mem_cons.mpr ⟨lw_p0, List.forall_mem_cons.mpr ⟨lw_p1, List.forall_mem_cons.mpr ⟨lw_p2, List.forall_mem_cons.mpr ⟨lw_p3, List.forall_mem_cons.mpr ⟨lw_p4, List.forall_mem_cons.mpr ⟨lw_p5, List.forall_mem_cons.mpr ⟨lw_p6, List.forall_mem_cons.mpr ⟨lw_p7, List.forall_mem_cons.mpr ⟨lw_p8, List.forall_mem_cons.mpr ⟨lw_p9, List.forall_mem_cons.mpr ⟨lw_p10, List.forall_mem_cons.mpr ⟨lw_p11, List.forall_mem_cons.mpr ⟨lw_p12, List.forall_mem_cons.mpr ⟨lw_p13, List.forall_mem_cons.mpr ⟨lw_p14, List.forall_mem_cons.mpr ⟨lw_p15, fun _ h => absurd h List.not_mem_nil⟩⟩⟩⟩⟩⟩⟩⟩⟩⟩⟩⟩⟩⟩⟩⟩
theorem lw_p16 : lw_okq (⟨"FewLooks", "isLook", "(III)Z"⟩, 6) := ⟨⟨by decide +kernel, by decide +kernel⟩, List.mem_of_getElem? (i := 10) (by decide +kernel), List.mem_of_getElem? (i := 358) (by decide +kernel), List.mem_of_getElem? (i := 359) (by decide +kernel)⟩
theorem lw_p17 : lw_okq (⟨"FewLooks", "fails", "(III)Z"⟩, 6) := ⟨⟨by decide +kernel, by decide +kernel⟩, List.mem_of_getElem? (i := 10) (by decide +kernel), List.mem_of_getElem? (i := 363) (by decide +kernel), List.mem_of_getElem? (i := 364) (by decide +kernel)⟩
theorem lw_p18 : lw_okq (⟨"FewLooks", "firstFailingSet", "()I"⟩, 6) := ⟨⟨by decide +kernel, by decide +kernel⟩, List.mem_of_getElem? (i := 10) (by decide +kernel), List.mem_of_getElem? (i := 373) (by decide +kernel), List.mem_of_getElem? (i := 374) (by decide +kernel)⟩
theorem lw_p19 : lw_okq (⟨"FewLooks", "firstFailingPair", "(I)I"⟩, 6) := ⟨⟨by decide +kernel, by decide +kernel⟩, List.mem_of_getElem? (i := 10) (by decide +kernel), List.mem_of_getElem? (i := 377) (by decide +kernel), List.mem_of_getElem? (i := 378) (by decide +kernel)⟩
theorem lw_p20 : lw_okq (⟨"FewLooksModel", "isPlace", "(I)Z"⟩, 11) := ⟨⟨by decide +kernel, by decide +kernel⟩, List.mem_of_getElem? (i := 390) (by decide +kernel), List.mem_of_getElem? (i := 441) (by decide +kernel), List.mem_of_getElem? (i := 442) (by decide +kernel)⟩
theorem lw_p21 : lw_okq (⟨"FewLooksModel", "distanceOf", "(I)I"⟩, 11) := ⟨⟨by decide +kernel, by decide +kernel⟩, List.mem_of_getElem? (i := 390) (by decide +kernel), List.mem_of_getElem? (i := 483) (by decide +kernel), List.mem_of_getElem? (i := 484) (by decide +kernel)⟩
theorem lw_p22 : lw_okq (⟨"FewLooksModel", "rowDistance", "(I)I"⟩, 11) := ⟨⟨by decide +kernel, by decide +kernel⟩, List.mem_of_getElem? (i := 390) (by decide +kernel), List.mem_of_getElem? (i := 487) (by decide +kernel), List.mem_of_getElem? (i := 488) (by decide +kernel)⟩
theorem lw_p23 : lw_okq (⟨"FewLooksModel", "takeRow", "()V"⟩, 11) := ⟨⟨by decide +kernel, by decide +kernel⟩, List.mem_of_getElem? (i := 390) (by decide +kernel), List.mem_of_getElem? (i := 491) (by decide +kernel), List.mem_of_getElem? (i := 492) (by decide +kernel)⟩
theorem lw_p24 : lw_okq (⟨"FewLooksModel", "fromKind", "(I)I"⟩, 11) := ⟨⟨by decide +kernel, by decide +kernel⟩, List.mem_of_getElem? (i := 390) (by decide +kernel), List.mem_of_getElem? (i := 495) (by decide +kernel), List.mem_of_getElem? (i := 496) (by decide +kernel)⟩
theorem lw_p25 : lw_okq (⟨"FewLooksModel", "fromRising", "()I"⟩, 11) := ⟨⟨by decide +kernel, by decide +kernel⟩, List.mem_of_getElem? (i := 390) (by decide +kernel), List.mem_of_getElem? (i := 499) (by decide +kernel), List.mem_of_getElem? (i := 500) (by decide +kernel)⟩
theorem lw_p26 : lw_okq (⟨"FewLooksModel", "fromMirrored", "()I"⟩, 11) := ⟨⟨by decide +kernel, by decide +kernel⟩, List.mem_of_getElem? (i := 390) (by decide +kernel), List.mem_of_getElem? (i := 503) (by decide +kernel), List.mem_of_getElem? (i := 504) (by decide +kernel)⟩
theorem lw_p27 : lw_okq (⟨"FewLooksModel", "fromEven", "()I"⟩, 11) := ⟨⟨by decide +kernel, by decide +kernel⟩, List.mem_of_getElem? (i := 390) (by decide +kernel), List.mem_of_getElem? (i := 507) (by decide +kernel), List.mem_of_getElem? (i := 508) (by decide +kernel)⟩
theorem lw_p28 : lw_okq (⟨"FewLooksModel", "fromRound", "()I"⟩, 11) := ⟨⟨by decide +kernel, by decide +kernel⟩, List.mem_of_getElem? (i := 390) (by decide +kernel), List.mem_of_getElem? (i := 511) (by decide +kernel), List.mem_of_getElem? (i := 512) (by decide +kernel)⟩
theorem lw_p29 : lw_okq (⟨"FewLooksModel", "fromShift", "(I)I"⟩, 11) := ⟨⟨by decide +kernel, by decide +kernel⟩, List.mem_of_getElem? (i := 390) (by decide +kernel), List.mem_of_getElem? (i := 515) (by decide +kernel), List.mem_of_getElem? (i := 516) (by decide +kernel)⟩
theorem lw_p30 : lw_okq (⟨"FewLooksModel", "nearestTable", "()I"⟩, 11) := ⟨⟨by decide +kernel, by decide +kernel⟩, List.mem_of_getElem? (i := 390) (by decide +kernel), List.mem_of_getElem? (i := 519) (by decide +kernel), List.mem_of_getElem? (i := 520) (by decide +kernel)⟩
theorem lw_p31 : lw_okq (⟨"FewLooksModel", "tableFar", "(I)I"⟩, 11) := ⟨⟨by decide +kernel, by decide +kernel⟩, List.mem_of_getElem? (i := 390) (by decide +kernel), List.mem_of_getElem? (i := 523) (by decide +kernel), List.mem_of_getElem? (i := 524) (by decide +kernel)⟩
def lw_privs_2 : List (MethodName × Nat) := [(⟨"FewLooks", "isLook", "(III)Z"⟩, 6), (⟨"FewLooks", "fails", "(III)Z"⟩, 6), (⟨"FewLooks", "firstFailingSet", "()I"⟩, 6), (⟨"FewLooks", "firstFailingPair", "(I)I"⟩, 6), (⟨"FewLooksModel", "isPlace", "(I)Z"⟩, 11), (⟨"FewLooksModel", "distanceOf", "(I)I"⟩, 11), (⟨"FewLooksModel", "rowDistance", "(I)I"⟩, 11), (⟨"FewLooksModel", "takeRow", "()V"⟩, 11), (⟨"FewLooksModel", "fromKind", "(I)I"⟩, 11), (⟨"FewLooksModel", "fromRising", "()I"⟩, 11), (⟨"FewLooksModel", "fromMirrored", "()I"⟩, 11), (⟨"FewLooksModel", "fromEven", "()I"⟩, 11), (⟨"FewLooksModel", "fromRound", "()I"⟩, 11), (⟨"FewLooksModel", "fromShift", "(I)I"⟩, 11), (⟨"FewLooksModel", "nearestTable", "()I"⟩, 11), (⟨"FewLooksModel", "tableFar", "(I)I"⟩, 11)]
theorem lw_r2 : ∀ q ∈ lw_privs_2, lw_okq q := List.forall_mem_cons.mpr ⟨lw_p16, List.forall_mem_cons.mpr ⟨lw_p17, List.forall_mem_cons.mpr ⟨lw_p18, List.forall_mem_cons.mpr ⟨lw_p19, List.forall_mem_cons.mpr ⟨lw_p20, List.forall_mem_cons.mpr ⟨lw_p21, List.forall_mem_cons.mpr ⟨lw_p22, List.forall_mem_cons.mpr ⟨lw_p23, List.forall_mem_cons.mpr ⟨lw_p24, List.forall_mem_cons.mpr ⟨lw_p25, List.forall_mem_cons.mpr ⟨lw_p26, List.forall_mem_cons.mpr ⟨lw_p27, List.forall_mem_cons.mpr ⟨lw_p28, List.forall_mem_cons.mpr ⟨lw_p29, List.forall_mem_cons.mpr ⟨lw_p30, List.forall_mem_cons.mpr ⟨lw_p31, fun _ h => absurd h List.not_mem_nil⟩⟩⟩⟩⟩⟩⟩⟩⟩⟩⟩⟩⟩⟩⟩⟩
theorem lw_p32 : lw_okq (⟨"FewLooksModel", "nearestNet", "(I)I"⟩, 11) := ⟨⟨by decide +kernel, by decide +kernel⟩, List.mem_of_getElem? (i := 390) (by decide +kernel), List.mem_of_getElem? (i := 527) (by decide +kernel), List.mem_of_getElem? (i := 528) (by decide +kernel)⟩
theorem lw_p33 : lw_okq (⟨"FewLooksModel", "netFar", "(II)I"⟩, 11) := ⟨⟨by decide +kernel, by decide +kernel⟩, List.mem_of_getElem? (i := 390) (by decide +kernel), List.mem_of_getElem? (i := 531) (by decide +kernel), List.mem_of_getElem? (i := 532) (by decide +kernel)⟩
theorem lw_p34 : lw_okq (⟨"FewLooksModel", "findNearest", "(I)V"⟩, 11) := ⟨⟨by decide +kernel, by decide +kernel⟩, List.mem_of_getElem? (i := 390) (by decide +kernel), List.mem_of_getElem? (i := 543) (by decide +kernel), List.mem_of_getElem? (i := 544) (by decide +kernel)⟩
theorem lw_p35 : lw_okq (⟨"FewLooksModel", "findPass", "(I)V"⟩, 11) := ⟨⟨by decide +kernel, by decide +kernel⟩, List.mem_of_getElem? (i := 390) (by decide +kernel), List.mem_of_getElem? (i := 557) (by decide +kernel), List.mem_of_getElem? (i := 558) (by decide +kernel)⟩
theorem lw_p36 : lw_okq (⟨"FewLooksModel", "countRow", "(I)V"⟩, 11) := ⟨⟨by decide +kernel, by decide +kernel⟩, List.mem_of_getElem? (i := 390) (by decide +kernel), List.mem_of_getElem? (i := 561) (by decide +kernel), List.mem_of_getElem? (i := 562) (by decide +kernel)⟩
theorem lw_p37 : lw_okq (⟨"FewLooksModel", "countTable", "()V"⟩, 11) := ⟨⟨by decide +kernel, by decide +kernel⟩, List.mem_of_getElem? (i := 390) (by decide +kernel), List.mem_of_getElem? (i := 565) (by decide +kernel), List.mem_of_getElem? (i := 566) (by decide +kernel)⟩
theorem lw_p38 : lw_okq (⟨"FewLooksModel", "countNet", "()V"⟩, 11) := ⟨⟨by decide +kernel, by decide +kernel⟩, List.mem_of_getElem? (i := 390) (by decide +kernel), List.mem_of_getElem? (i := 573) (by decide +kernel), List.mem_of_getElem? (i := 574) (by decide +kernel)⟩
theorem lw_p39 : lw_okq (⟨"FewLooksModel", "passesNet", "(I)Z"⟩, 11) := ⟨⟨by decide +kernel, by decide +kernel⟩, List.mem_of_getElem? (i := 390) (by decide +kernel), List.mem_of_getElem? (i := 577) (by decide +kernel), List.mem_of_getElem? (i := 578) (by decide +kernel)⟩
theorem lw_p40 : lw_okq (⟨"FewLooksModel", "reduce", "()V"⟩, 11) := ⟨⟨by decide +kernel, by decide +kernel⟩, List.mem_of_getElem? (i := 390) (by decide +kernel), List.mem_of_getElem? (i := 581) (by decide +kernel), List.mem_of_getElem? (i := 582) (by decide +kernel)⟩
theorem lw_p41 : lw_okq (⟨"FewLooksModel", "findWorst", "(II)I"⟩, 11) := ⟨⟨by decide +kernel, by decide +kernel⟩, List.mem_of_getElem? (i := 390) (by decide +kernel), List.mem_of_getElem? (i := 593) (by decide +kernel), List.mem_of_getElem? (i := 594) (by decide +kernel)⟩
theorem lw_p42 : lw_okq (⟨"FewLooksModel", "maySubject", "(III)Z"⟩, 11) := ⟨⟨by decide +kernel, by decide +kernel⟩, List.mem_of_getElem? (i := 390) (by decide +kernel), List.mem_of_getElem? (i := 605) (by decide +kernel), List.mem_of_getElem? (i := 606) (by decide +kernel)⟩
theorem lw_p43 : lw_okq (⟨"FewLooksModel", "showsOf", "(III)Z"⟩, 11) := ⟨⟨by decide +kernel, by decide +kernel⟩, List.mem_of_getElem? (i := 390) (by decide +kernel), List.mem_of_getElem? (i := 609) (by decide +kernel), List.mem_of_getElem? (i := 610) (by decide +kernel)⟩
def lw_privs_3 : List (MethodName × Nat) := [(⟨"FewLooksModel", "nearestNet", "(I)I"⟩, 11), (⟨"FewLooksModel", "netFar", "(II)I"⟩, 11), (⟨"FewLooksModel", "findNearest", "(I)V"⟩, 11), (⟨"FewLooksModel", "findPass", "(I)V"⟩, 11), (⟨"FewLooksModel", "countRow", "(I)V"⟩, 11), (⟨"FewLooksModel", "countTable", "()V"⟩, 11), (⟨"FewLooksModel", "countNet", "()V"⟩, 11), (⟨"FewLooksModel", "passesNet", "(I)Z"⟩, 11), (⟨"FewLooksModel", "reduce", "()V"⟩, 11), (⟨"FewLooksModel", "findWorst", "(II)I"⟩, 11), (⟨"FewLooksModel", "maySubject", "(III)Z"⟩, 11), (⟨"FewLooksModel", "showsOf", "(III)Z"⟩, 11)]
theorem lw_r3 : ∀ q ∈ lw_privs_3, lw_okq q := List.forall_mem_cons.mpr ⟨lw_p32, List.forall_mem_cons.mpr ⟨lw_p33, List.forall_mem_cons.mpr ⟨lw_p34, List.forall_mem_cons.mpr ⟨lw_p35, List.forall_mem_cons.mpr ⟨lw_p36, List.forall_mem_cons.mpr ⟨lw_p37, List.forall_mem_cons.mpr ⟨lw_p38, List.forall_mem_cons.mpr ⟨lw_p39, List.forall_mem_cons.mpr ⟨lw_p40, List.forall_mem_cons.mpr ⟨lw_p41, List.forall_mem_cons.mpr ⟨lw_p42, List.forall_mem_cons.mpr ⟨lw_p43, fun _ h => absurd h List.not_mem_nil⟩⟩⟩⟩⟩⟩⟩⟩⟩⟩⟩⟩
def lw_privs : List (MethodName × Nat) := lw_privs_1 ++ (lw_privs_2 ++ (lw_privs_3))
def lw_tbl : List Cond := k2_sels lw_privs ++ tables_1
theorem lw_privs_ok : ∀ q ∈ lw_privs, lw_okq q := by
  show ∀ q ∈ lw_privs_1 ++ (lw_privs_2 ++ (lw_privs_3)), lw_okq q
  exact List.forall_mem_append.mpr ⟨lw_r1, List.forall_mem_append.mpr ⟨lw_r2, lw_r3⟩⟩
end
section
/-! ===== BEGIN words of one list among another's, by their places ===== -/
theorem goodIn_r {big : List Cond} (ws : List Cond) (ps : List Nat) (hp : ws = ps.filterMap (fun i => big[i]?)) (h : ws.all goodWord = true) : GoodIn big ws := by
  intro w hw
  have h1 := List.all_eq_true.mp h w hw
  rw [hp] at hw
  obtain ⟨i, -, hi⟩ := List.mem_filterMap.mp hw
  have hm : w ∈ big := by first | exact List.mem_of_getElem? hi | exact List.getElem?_mem hi
  exact ⟨hm, good_of_word h1⟩
theorem goodIn_app {big a b : List Cond} (ha : GoodIn big a) (hb : GoodIn big b) : GoodIn big (a ++ b) := fun w h => (List.mem_append.mp h).elim (ha w) (hb w)
theorem goodIn_ca {big a b : List Cond} {c : Cond} (ha : GoodIn big (c :: a)) (hb : GoodIn big b) : GoodIn big (c :: (a ++ b)) := fun w h => (List.mem_cons.mp h).elim (fun e => ha w (List.mem_cons.mpr (Or.inl e))) (fun h => (List.mem_append.mp h).elim (fun h => ha w (List.mem_cons.mpr (Or.inr h))) (hb w))
theorem goodIn_sub {big ws : List Cond} (hm : ∀ w ∈ ws, w ∈ big) (h : ws.all goodWord = true) : GoodIn big ws := fun w hw => ⟨hm w hw, good_of_word (List.all_eq_true.mp h w hw)⟩
/-! ===== END ===== -/

/-! ===== BEGIN printed: names, fields, word lists, decode rows ===== -/
def RX0 : String := "FewLooks$Mender"
def TX0 : u_T := fun k => match k with
  | 0 => ("FewLooks$Mender", "near", "LFewLooks$Row;", true)
  | 1 => ("FewLooks$Mender", "guess", "LFewLooks$Row;", true)
  | _ => ("FewLooks$Mender", "costs", "[I", true)
def tyX0 : Nat → FieldType := fun k => match k with
  | 0 => .object "FewLooks$Row"
  | 1 => .object "FewLooks$Row"
  | _ => .array .int
abbrev wsX00 : List Cond := u_ws RX0 TX0 3
theorem nmX0 : ∀ a, a < 3 → ∀ b, b < 3 → a ≠ b → (TX0 a).2.1 ≠ (TX0 b).2.1 := by decide +kernel
theorem tyX0_ok : ∀ k, k < 3 → parseFieldDescriptor (TX0 k).2.2.1 = some (tyX0 k) := by decide +kernel
abbrev cX0_init : ByteArray := prog_2_method_1_code
def yX0_init : MethodName := ⟨RX0, "<init>", "()V"⟩
abbrev cX0_seek : ByteArray := prog_2_method_2_code
def yX0_seek : MethodName := ⟨RX0, "seek", "(LFewLooks$Row;I)I"⟩
abbrev cX0_raise : ByteArray := prog_2_method_3_code
def yX0_raise : MethodName := ⟨RX0, "raise", "(LFewLooks$Row;)V"⟩
abbrev cX0_fillCosts : ByteArray := prog_2_method_4_code
def yX0_fillCosts : MethodName := ⟨RX0, "fillCosts", "(LFewLooks$Row;)V"⟩
abbrev cX0_costWith : ByteArray := prog_2_method_5_code
def yX0_costWith : MethodName := ⟨RX0, "costWith", "(LFewLooks$Row;II)I"⟩
abbrev cX0_mirror : ByteArray := prog_2_method_6_code
def yX0_mirror : MethodName := ⟨RX0, "mirror", "(LFewLooks$Row;)V"⟩
abbrev cX0_makeEven : ByteArray := prog_2_method_7_code
def yX0_makeEven : MethodName := ⟨RX0, "makeEven", "()V"⟩
abbrev cX0_makeRound : ByteArray := prog_2_method_8_code
def yX0_makeRound : MethodName := ⟨RX0, "makeRound", "(LFewLooks$Row;)V"⟩
abbrev cX0_guessPeriod : ByteArray := prog_2_method_9_code
def yX0_guessPeriod : MethodName := ⟨RX0, "guessPeriod", "(LFewLooks$Row;I)V"⟩
abbrev cX0_commonest : ByteArray := prog_2_method_10_code
def yX0_commonest : MethodName := ⟨RX0, "commonest", "(LFewLooks$Row;II)I"⟩
def RX1 : String := "FewLooks$Net"
def TX1 : u_T := fun k => match k with
  | _ => ("FewLooks$Net", "joins", "[I", true)
def tyX1 : Nat → FieldType := fun k => match k with
  | _ => .array .int
abbrev wsX10 : List Cond := u_ws RX1 TX1 1
theorem nmX1 : ∀ a, a < 1 → ∀ b, b < 1 → a ≠ b → (TX1 a).2.1 ≠ (TX1 b).2.1 := by decide +kernel
theorem tyX1_ok : ∀ k, k < 1 → parseFieldDescriptor (TX1 k).2.2.1 = some (tyX1 k) := by decide +kernel
abbrev cX1_init : ByteArray := prog_3_method_1_code
def yX1_init : MethodName := ⟨RX1, "<init>", "()V"⟩
abbrev cX1_joined : ByteArray := prog_3_method_2_code
def yX1_joined : MethodName := ⟨RX1, "joined", "(II)I"⟩
abbrev cX1_join : ByteArray := prog_3_method_3_code
def yX1_join : MethodName := ⟨RX1, "join", "(IIZ)V"⟩
abbrev cX1_lines : ByteArray := prog_3_method_4_code
def yX1_lines : MethodName := ⟨RX1, "lines", "()I"⟩
abbrev cX1_alikeTo : ByteArray := prog_3_method_5_code
def yX1_alikeTo : MethodName := ⟨RX1, "alikeTo", "(II)I"⟩
abbrev cX1_likeLines : ByteArray := prog_3_method_6_code
def yX1_likeLines : MethodName := ⟨RX1, "likeLines", "(II)I"⟩
abbrev cX1_cutLikeLines : ByteArray := prog_3_method_7_code
def yX1_cutLikeLines : MethodName := ⟨RX1, "cutLikeLines", "(I)V"⟩
abbrev cX1_bestColouring : ByteArray := prog_3_method_8_code
def yX1_bestColouring : MethodName := ⟨RX1, "bestColouring", "()I"⟩
abbrev cX1_bestColouringOf : ByteArray := prog_3_method_9_code
def yX1_bestColouringOf : MethodName := ⟨RX1, "bestColouringOf", "(I)I"⟩
abbrev cX1_twoColoured : ByteArray := prog_3_method_10_code
def yX1_twoColoured : MethodName := ⟨RX1, "twoColoured", "(I)Z"⟩
abbrev cX1_sets : ByteArray := prog_3_method_11_code
def yX1_sets : MethodName := ⟨RX1, "sets", "(I)I"⟩
abbrev cX1_passing : ByteArray := prog_3_method_12_code
def yX1_passing : MethodName := ⟨RX1, "passing", "(I)I"⟩
def RX2 : String := "FewLooks$Row"
def TX2 : u_T := fun k => match k with
  | 0 => ("FewLooks$Row", "digits", "[I", true)
  | _ => ("FewLooks$Row", "size", "I", false)
def tyX2 : Nat → FieldType := fun k => match k with
  | 0 => .array .int
  | _ => .int
abbrev wsX20 : List Cond := u_ws RX2 TX2 2
theorem nmX2 : ∀ a, a < 2 → ∀ b, b < 2 → a ≠ b → (TX2 a).2.1 ≠ (TX2 b).2.1 := by decide +kernel
theorem tyX2_ok : ∀ k, k < 2 → parseFieldDescriptor (TX2 k).2.2.1 = some (tyX2 k) := by decide +kernel
abbrev cX2_init : ByteArray := prog_4_method_1_code
def yX2_init : MethodName := ⟨RX2, "<init>", "()V"⟩
abbrev cX2_clear : ByteArray := prog_4_method_2_code
def yX2_clear : MethodName := ⟨RX2, "clear", "(I)V"⟩
abbrev cX2_become : ByteArray := prog_4_method_3_code
def yX2_become : MethodName := ⟨RX2, "become", "(LFewLooks$Row;)V"⟩
abbrev cX2_spell : ByteArray := prog_4_method_4_code
def yX2_spell : MethodName := ⟨RX2, "spell", "(II)V"⟩
abbrev cX2_total : ByteArray := prog_4_method_5_code
def yX2_total : MethodName := ⟨RX2, "total", "()I"⟩
abbrev cX2_differing : ByteArray := prog_4_method_6_code
def yX2_differing : MethodName := ⟨RX2, "differing", "(LFewLooks$Row;)I"⟩
abbrev cX2_isAheadOf : ByteArray := prog_4_method_7_code
def yX2_isAheadOf : MethodName := ⟨RX2, "isAheadOf", "(LFewLooks$Row;)Z"⟩
abbrev cX2_looks : ByteArray := prog_4_method_8_code
def yX2_looks : MethodName := ⟨RX2, "looks", "(I)I"⟩
abbrev cX2_passing : ByteArray := prog_4_method_9_code
def yX2_passing : MethodName := ⟨RX2, "passing", "(I)I"⟩
abbrev cX2_risingPairs : ByteArray := prog_4_method_10_code
def yX2_risingPairs : MethodName := ⟨RX2, "risingPairs", "()I"⟩
abbrev cX2_mirroredPlaces : ByteArray := prog_4_method_11_code
def yX2_mirroredPlaces : MethodName := ⟨RX2, "mirroredPlaces", "()I"⟩
abbrev cX2_alikeShifts : ByteArray := prog_4_method_12_code
def yX2_alikeShifts : MethodName := ⟨RX2, "alikeShifts", "()I"⟩
def RX3 : String := "FewLooks$Table"
def TX3 : u_T := fun k => match k with
  | _ => ("FewLooks$Table", "bits", "I", false)
def tyX3 : Nat → FieldType := fun k => match k with
  | _ => .int
abbrev wsX30 : List Cond := u_ws RX3 TX3 1
theorem nmX3 : ∀ a, a < 1 → ∀ b, b < 1 → a ≠ b → (TX3 a).2.1 ≠ (TX3 b).2.1 := by decide +kernel
theorem tyX3_ok : ∀ k, k < 1 → parseFieldDescriptor (TX3 k).2.2.1 = some (tyX3 k) := by decide +kernel
abbrev cX3_init : ByteArray := prog_5_method_1_code
def yX3_init : MethodName := ⟨RX3, "<init>", "()V"⟩
abbrev cX3_at : ByteArray := prog_5_method_2_code
def yX3_at : MethodName := ⟨RX3, "at", "(I)I"⟩
abbrev cX3_put : ByteArray := prog_5_method_3_code
def yX3_put : MethodName := ⟨RX3, "put", "(II)V"⟩
abbrev cX3_parities : ByteArray := prog_5_method_4_code
def yX3_parities : MethodName := ⟨RX3, "parities", "(I)I"⟩
abbrev cX3_differing : ByteArray := prog_5_method_5_code
def yX3_differing : MethodName := ⟨RX3, "differing", "(I)I"⟩
abbrev cX3_closest : ByteArray := prog_5_method_6_code
def yX3_closest : MethodName := ⟨RX3, "closest", "()I"⟩
abbrev cX3_agrees : ByteArray := prog_5_method_7_code
def yX3_agrees : MethodName := ⟨RX3, "agrees", "(II)Z"⟩
abbrev cX3_passing : ByteArray := prog_5_method_8_code
def yX3_passing : MethodName := ⟨RX3, "passing", "()I"⟩
abbrev cX3_tellers : ByteArray := prog_5_method_9_code
def yX3_tellers : MethodName := ⟨RX3, "tellers", "(II)I"⟩
def RX4 : String := "FewLooks"
def TX4 : u_T := fun k => match k with
  | 0 => ("FewLooks", "row", "LFewLooks$Row;", true)
  | 1 => ("FewLooks", "trial", "LFewLooks$Row;", true)
  | 2 => ("FewLooks", "mender", "LFewLooks$Mender;", true)
  | 3 => ("FewLooks", "table", "LFewLooks$Table;", true)
  | 4 => ("FewLooks", "net", "LFewLooks$Net;", true)
  | _ => ("FewLooks", "drawn", "I", false)
def tyX4 : Nat → FieldType := fun k => match k with
  | 0 => .object "FewLooks$Row"
  | 1 => .object "FewLooks$Row"
  | 2 => .object "FewLooks$Mender"
  | 3 => .object "FewLooks$Table"
  | 4 => .object "FewLooks$Net"
  | _ => .int
abbrev wsX40 : List Cond := u_ws RX4 TX4 6
theorem nmX4 : ∀ a, a < 6 → ∀ b, b < 6 → a ≠ b → (TX4 a).2.1 ≠ (TX4 b).2.1 := by decide +kernel
theorem tyX4_ok : ∀ k, k < 6 → parseFieldDescriptor (TX4 k).2.2.1 = some (tyX4 k) := by decide +kernel
abbrev cX4_init : ByteArray := prog_1_method_1_code
def yX4_init : MethodName := ⟨RX4, "<init>", "()V"⟩
abbrev cX4_places : ByteArray := prog_1_method_2_code
def yX4_places : MethodName := ⟨RX4, "places", "(I)I"⟩
abbrev cX4_digit : ByteArray := prog_1_method_3_code
def yX4_digit : MethodName := ⟨RX4, "digit", "(II)I"⟩
abbrev cX4_bit : ByteArray := prog_1_method_4_code
def yX4_bit : MethodName := ⟨RX4, "bit", "(II)I"⟩
abbrev cX4_linear : ByteArray := prog_1_method_5_code
def yX4_linear : MethodName := ⟨RX4, "linear", "(I)I"⟩
abbrev cX4_line : ByteArray := prog_1_method_6_code
def yX4_line : MethodName := ⟨RX4, "line", "(IIZ)I"⟩
abbrev cX4_draw : ByteArray := prog_1_method_7_code
def yX4_draw : MethodName := ⟨RX4, "draw", "(I)I"⟩
abbrev cX4_is : ByteArray := prog_1_method_8_code
def yX4_is : MethodName := ⟨RX4, "is", "(I)I"⟩
abbrev cX4_distance : ByteArray := prog_1_method_9_code
def yX4_distance : MethodName := ⟨RX4, "distance", "(I)I"⟩
abbrev cX4_nearest : ByteArray := prog_1_method_10_code
def yX4_nearest : MethodName := ⟨RX4, "nearest", "(II)I"⟩
abbrev cX4_mend : ByteArray := prog_1_method_11_code
def yX4_mend : MethodName := ⟨RX4, "mend", "(I)I"⟩
abbrev cX4_pass : ByteArray := prog_1_method_12_code
def yX4_pass : MethodName := ⟨RX4, "pass", "(II)J"⟩
abbrev cX4_repeats : ByteArray := prog_1_method_13_code
def yX4_repeats : MethodName := ⟨RX4, "repeats", "(III)I"⟩
abbrev cX4_worst : ByteArray := prog_1_method_14_code
def yX4_worst : MethodName := ⟨RX4, "worst", "(IIII)I"⟩
abbrev cX4_mended : ByteArray := prog_1_method_15_code
def yX4_mended : MethodName := ⟨RX4, "mended", "(II)I"⟩
abbrev cX4_shows : ByteArray := prog_1_method_16_code
def yX4_shows : MethodName := ⟨RX4, "shows", "(III)I"⟩
abbrev cX4_witness : ByteArray := prog_1_method_17_code
def yX4_witness : MethodName := ⟨RX4, "witness", "(I)I"⟩
abbrev cX4_count : ByteArray := prog_1_method_18_code
def yX4_count : MethodName := ⟨RX4, "count", "(I)I"⟩
abbrev cX4_within : ByteArray := prog_1_method_19_code
def yX4_within : MethodName := ⟨RX4, "within", "(III)Z"⟩
abbrev cX4_isSubject : ByteArray := prog_1_method_20_code
def yX4_isSubject : MethodName := ⟨RX4, "isSubject", "(I)Z"⟩
abbrev cX4_isRow : ByteArray := prog_1_method_21_code
def yX4_isRow : MethodName := ⟨RX4, "isRow", "(I)Z"⟩
abbrev cX4_isEntry : ByteArray := prog_1_method_22_code
def yX4_isEntry : MethodName := ⟨RX4, "isEntry", "(I)Z"⟩
abbrev cX4_isPoint : ByteArray := prog_1_method_23_code
def yX4_isPoint : MethodName := ⟨RX4, "isPoint", "(I)Z"⟩
abbrev cX4_isPlace : ByteArray := prog_1_method_24_code
def yX4_isPlace : MethodName := ⟨RX4, "isPlace", "(I)Z"⟩
abbrev cX4_howFar : ByteArray := prog_1_method_25_code
def yX4_howFar : MethodName := ⟨RX4, "howFar", "(I)I"⟩
abbrev cX4_passing : ByteArray := prog_1_method_26_code
def yX4_passing : MethodName := ⟨RX4, "passing", "(I)I"⟩
abbrev cX4_looks : ByteArray := prog_1_method_27_code
def yX4_looks : MethodName := ⟨RX4, "looks", "(I)I"⟩
abbrev cX4_lowestTerm : ByteArray := prog_1_method_28_code
def yX4_lowestTerm : MethodName := ⟨RX4, "lowestTerm", "(III)I"⟩
abbrev cX4_worstCode : ByteArray := prog_1_method_29_code
def yX4_worstCode : MethodName := ⟨RX4, "worstCode", "(II)I"⟩
abbrev cX4_isLook : ByteArray := prog_1_method_30_code
def yX4_isLook : MethodName := ⟨RX4, "isLook", "(III)Z"⟩
abbrev cX4_fails : ByteArray := prog_1_method_31_code
def yX4_fails : MethodName := ⟨RX4, "fails", "(III)Z"⟩
abbrev cX4_firstFailingSet : ByteArray := prog_1_method_32_code
def yX4_firstFailingSet : MethodName := ⟨RX4, "firstFailingSet", "()I"⟩
abbrev cX4_firstFailingPair : ByteArray := prog_1_method_33_code
def yX4_firstFailingPair : MethodName := ⟨RX4, "firstFailingPair", "(I)I"⟩
def RX5 : String := "FewLooksModel"
def TX5 : u_T := fun k => match k with
  | 0 => ("FewLooksModel", "n", "I", false)
  | 1 => ("FewLooksModel", "row", "[I", true)
  | 2 => ("FewLooksModel", "table", "[I", true)
  | 3 => ("FewLooksModel", "joined", "[I", true)
  | 4 => ("FewLooksModel", "k", "I", false)
  | 5 => ("FewLooksModel", "it", "[I", true)
  | 6 => ("FewLooksModel", "rise", "[I", true)
  | 7 => ("FewLooksModel", "above", "J", false)
  | 8 => ("FewLooksModel", "below", "J", false)
  | 9 => ("FewLooksModel", "worstAbove", "J", false)
  | _ => ("FewLooksModel", "worstBelow", "J", false)
def tyX5 : Nat → FieldType := fun k => match k with
  | 0 => .int
  | 1 => .array .int
  | 2 => .array .int
  | 3 => .array .int
  | 4 => .int
  | 5 => .array .int
  | 6 => .array .int
  | 7 => .long
  | 8 => .long
  | 9 => .long
  | _ => .long
abbrev wsX50 : List Cond := u_ws RX5 TX5 11
theorem nmX5 : ∀ a, a < 11 → ∀ b, b < 11 → a ≠ b → (TX5 a).2.1 ≠ (TX5 b).2.1 := by decide +kernel
theorem tyX5_ok : ∀ k, k < 11 → parseFieldDescriptor (TX5 k).2.2.1 = some (tyX5 k) := by decide +kernel
abbrev cX5_init : ByteArray := prog_7_method_1_code
def yX5_init : MethodName := ⟨RX5, "<init>", "()V"⟩
abbrev cX5_in : ByteArray := prog_7_method_2_code
def yX5_in : MethodName := ⟨RX5, "in", "(III)Z"⟩
abbrev cX5_ones : ByteArray := prog_7_method_3_code
def yX5_ones : MethodName := ⟨RX5, "ones", "(I)I"⟩
abbrev cX5_isSubject : ByteArray := prog_7_method_4_code
def yX5_isSubject : MethodName := ⟨RX5, "isSubject", "(I)Z"⟩
abbrev cX5_isPlace : ByteArray := prog_7_method_5_code
def yX5_isPlace : MethodName := ⟨RX5, "isPlace", "(I)Z"⟩
abbrev cX5_isEight : ByteArray := prog_7_method_6_code
def yX5_isEight : MethodName := ⟨RX5, "isEight", "(I)Z"⟩
abbrev cX5_isBit : ByteArray := prog_7_method_7_code
def yX5_isBit : MethodName := ⟨RX5, "isBit", "(I)Z"⟩
abbrev cX5_places : ByteArray := prog_7_method_8_code
def yX5_places : MethodName := ⟨RX5, "places", "(I)I"⟩
abbrev cX5_digit : ByteArray := prog_7_method_9_code
def yX5_digit : MethodName := ⟨RX5, "digit", "(II)I"⟩
abbrev cX5_bit : ByteArray := prog_7_method_10_code
def yX5_bit : MethodName := ⟨RX5, "bit", "(II)I"⟩
abbrev cX5_parity : ByteArray := prog_7_method_11_code
def yX5_parity : MethodName := ⟨RX5, "parity", "(II)I"⟩
abbrev cX5_linear : ByteArray := prog_7_method_12_code
def yX5_linear : MethodName := ⟨RX5, "linear", "(I)I"⟩
abbrev cX5_isPoint : ByteArray := prog_7_method_13_code
def yX5_isPoint : MethodName := ⟨RX5, "isPoint", "(I)Z"⟩
abbrev cX5_line : ByteArray := prog_7_method_14_code
def yX5_line : MethodName := ⟨RX5, "line", "(IIZ)I"⟩
abbrev cX5_draw : ByteArray := prog_7_method_15_code
def yX5_draw : MethodName := ⟨RX5, "draw", "(I)I"⟩
abbrev cX5_takeRow : ByteArray := prog_7_method_16_code
def yX5_takeRow : MethodName := ⟨RX5, "takeRow", "()V"⟩
abbrev cX5_fromRising : ByteArray := prog_7_method_17_code
def yX5_fromRising : MethodName := ⟨RX5, "fromRising", "()I"⟩
abbrev cX5_fromMirrored : ByteArray := prog_7_method_18_code
def yX5_fromMirrored : MethodName := ⟨RX5, "fromMirrored", "()I"⟩
abbrev cX5_fromEven : ByteArray := prog_7_method_19_code
def yX5_fromEven : MethodName := ⟨RX5, "fromEven", "()I"⟩
abbrev cX5_fromShift : ByteArray := prog_7_method_20_code
def yX5_fromShift : MethodName := ⟨RX5, "fromShift", "(I)I"⟩
abbrev cX5_fromRound : ByteArray := prog_7_method_21_code
def yX5_fromRound : MethodName := ⟨RX5, "fromRound", "()I"⟩
abbrev cX5_fromKind : ByteArray := prog_7_method_22_code
def yX5_fromKind : MethodName := ⟨RX5, "fromKind", "(I)I"⟩
abbrev cX5_rowDistance : ByteArray := prog_7_method_23_code
def yX5_rowDistance : MethodName := ⟨RX5, "rowDistance", "(I)I"⟩
abbrev cX5_findNearest : ByteArray := prog_7_method_24_code
def yX5_findNearest : MethodName := ⟨RX5, "findNearest", "(I)V"⟩
abbrev cX5_tableFar : ByteArray := prog_7_method_25_code
def yX5_tableFar : MethodName := ⟨RX5, "tableFar", "(I)I"⟩
abbrev cX5_nearestTable : ByteArray := prog_7_method_26_code
def yX5_nearestTable : MethodName := ⟨RX5, "nearestTable", "()I"⟩
abbrev cX5_netFar : ByteArray := prog_7_method_27_code
def yX5_netFar : MethodName := ⟨RX5, "netFar", "(II)I"⟩
abbrev cX5_nearestNet : ByteArray := prog_7_method_28_code
def yX5_nearestNet : MethodName := ⟨RX5, "nearestNet", "(I)I"⟩
abbrev cX5_distanceOf : ByteArray := prog_7_method_29_code
def yX5_distanceOf : MethodName := ⟨RX5, "distanceOf", "(I)I"⟩
abbrev cX5_is : ByteArray := prog_7_method_30_code
def yX5_is : MethodName := ⟨RX5, "is", "(I)I"⟩
abbrev cX5_distance : ByteArray := prog_7_method_31_code
def yX5_distance : MethodName := ⟨RX5, "distance", "(I)I"⟩
abbrev cX5_nearest : ByteArray := prog_7_method_32_code
def yX5_nearest : MethodName := ⟨RX5, "nearest", "(II)I"⟩
abbrev cX5_mend : ByteArray := prog_7_method_33_code
def yX5_mend : MethodName := ⟨RX5, "mend", "(I)I"⟩
abbrev cX5_passesTable : ByteArray := prog_7_method_34_code
def yX5_passesTable : MethodName := ⟨RX5, "passesTable", "(III)Z"⟩
abbrev cX5_countRow : ByteArray := prog_7_method_35_code
def yX5_countRow : MethodName := ⟨RX5, "countRow", "(I)V"⟩
abbrev cX5_countTable : ByteArray := prog_7_method_36_code
def yX5_countTable : MethodName := ⟨RX5, "countTable", "()V"⟩
abbrev cX5_passesNet : ByteArray := prog_7_method_37_code
def yX5_passesNet : MethodName := ⟨RX5, "passesNet", "(I)Z"⟩
abbrev cX5_countNet : ByteArray := prog_7_method_38_code
def yX5_countNet : MethodName := ⟨RX5, "countNet", "()V"⟩
abbrev cX5_reduce : ByteArray := prog_7_method_39_code
def yX5_reduce : MethodName := ⟨RX5, "reduce", "()V"⟩
abbrev cX5_findPass : ByteArray := prog_7_method_40_code
def yX5_findPass : MethodName := ⟨RX5, "findPass", "(I)V"⟩
abbrev cX5_pass : ByteArray := prog_7_method_41_code
def yX5_pass : MethodName := ⟨RX5, "pass", "(II)J"⟩
abbrev cX5_repeats : ByteArray := prog_7_method_42_code
def yX5_repeats : MethodName := ⟨RX5, "repeats", "(III)I"⟩
abbrev cX5_findWorst : ByteArray := prog_7_method_43_code
def yX5_findWorst : MethodName := ⟨RX5, "findWorst", "(II)I"⟩
abbrev cX5_worst : ByteArray := prog_7_method_44_code
def yX5_worst : MethodName := ⟨RX5, "worst", "(IIII)I"⟩
abbrev cX5_mended : ByteArray := prog_7_method_45_code
def yX5_mended : MethodName := ⟨RX5, "mended", "(II)I"⟩
abbrev cX5_maySubject : ByteArray := prog_7_method_46_code
def yX5_maySubject : MethodName := ⟨RX5, "maySubject", "(III)Z"⟩
abbrev cX5_showsOf : ByteArray := prog_7_method_47_code
def yX5_showsOf : MethodName := ⟨RX5, "showsOf", "(III)Z"⟩
abbrev cX5_shows : ByteArray := prog_7_method_48_code
def yX5_shows : MethodName := ⟨RX5, "shows", "(III)I"⟩
abbrev cX5_witness : ByteArray := prog_7_method_49_code
def yX5_witness : MethodName := ⟨RX5, "witness", "(I)I"⟩
abbrev cX5_count : ByteArray := prog_7_method_50_code
def yX5_count : MethodName := ⟨RX5, "count", "(I)I"⟩
def RJ6 : String := "java/lang/Integer"
def TJ6 : u_T := fun k => match k with
  | _ => ("", "", "", false)
def tyJ6 : Nat → FieldType := fun k => match k with
  | _ => .int
abbrev wsJ60 : List Cond := u_ws RJ6 TJ6 0
theorem nmJ6 : ∀ a, a < 0 → ∀ b, b < 0 → a ≠ b → (TJ6 a).2.1 ≠ (TJ6 b).2.1 := by decide +kernel
theorem tyJ6_ok : ∀ k, k < 0 → parseFieldDescriptor (TJ6 k).2.2.1 = some (tyJ6 k) := by decide +kernel
abbrev cJ6_bitCount_0f7a4 : ByteArray := prog_8_method_49_code
def yJ6_bitCount_0f7a4 : MethodName := ⟨RJ6, "bitCount", "(I)I"⟩
def RJ9 : String := "java/lang/Math"
def TJ9 : u_T := fun k => match k with
  | _ => ("", "", "", false)
def tyJ9 : Nat → FieldType := fun k => match k with
  | _ => .int
abbrev wsJ90 : List Cond := u_ws RJ9 TJ9 0
theorem nmJ9 : ∀ a, a < 0 → ∀ b, b < 0 → a ≠ b → (TJ9 a).2.1 ≠ (TJ9 b).2.1 := by decide +kernel
theorem tyJ9_ok : ∀ k, k < 0 → parseFieldDescriptor (TJ9 k).2.2.1 = some (tyJ9 k) := by decide +kernel
abbrev cJ9_min_7cf53 : ByteArray := prog_9_method_69_code
def yJ9_min_7cf53 : MethodName := ⟨RJ9, "min", "(II)I"⟩
def RL : String := "FewLooksLaw"
abbrev cL_law : ByteArray := code
def yL_law : MethodName := ⟨RL, "law", "([I)Z"⟩
def wsX2_init : List Cond := .code yX2_init cX2_init 1 none :: ([.methodLink RX2 3 objectInit, .instanceMethod objectInit, .code objectInit ⟨#[0xb1]⟩ 1 none, .arrayClass .int, .fieldLink RX2 9 "FewLooks$Row" "digits" "[I", .fieldLink RX2 15 "FewLooks$Row" "size" "I"] ++ wsX20)
def wsX0_init : List Cond := .code yX0_init cX0_init 1 none :: ([.methodLink RX0 3 objectInit, .instanceMethod objectInit, .code objectInit ⟨#[0xb1]⟩ 1 none, .classLink RX0 9 RX2, .instantiable RX2 2, .initialized RX2, .fieldLink RX0 12 "FewLooks$Mender" "near" "LFewLooks$Row;", .fieldLink RX0 18 "FewLooks$Mender" "guess" "LFewLooks$Row;", .arrayClass .int, .fieldLink RX0 21 "FewLooks$Mender" "costs" "[I", .instanceMethod yX2_init, .code yX2_init cX2_init 1 none, .methodLink RX2 3 objectInit, .fieldLink RX2 9 "FewLooks$Row" "digits" "[I", .fieldLink RX2 15 "FewLooks$Row" "size" "I"] ++ wsX20 ++ wsX00)
def wsX2_become : List Cond := .code yX2_become cX2_become 3 none :: ([.fieldLink RX2 15 "FewLooks$Row" "size" "I", .fieldLink RX2 9 "FewLooks$Row" "digits" "[I"] ++ wsX20)
def wsX0_costWith : List Cond := .code yX0_costWith cX0_costWith 5 (some .int) :: ([.fieldLink RX0 21 "FewLooks$Mender" "costs" "[I"] ++ wsX20 ++ wsX00)
def wsX0_fillCosts : List Cond := .code yX0_fillCosts cX0_fillCosts 5 none :: ([.fieldLink RX0 21 "FewLooks$Mender" "costs" "[I", .methodLink RX0 59 Lib.Math.min.name, .static Lib.Math.min.name, .initialized "java/lang/Math", .code Lib.Math.min.name Lib.Math.min.code 2 (some .int), .methodLink RX0 52 yX0_costWith, .instanceMethod yX0_costWith, .selects RX0 yX0_costWith yX0_costWith, .initialized RX0, .code yX0_costWith cX0_costWith 5 (some .int)] ++ wsX00 ++ wsX20)
def wsX0_raise : List Cond := .code yX0_raise cX0_raise 5 none :: ([.fieldLink RX0 21 "FewLooks$Mender" "costs" "[I", .fieldLink RX0 12 "FewLooks$Mender" "near" "LFewLooks$Row;", .methodLink RX0 45 yX0_fillCosts, .instanceMethod yX0_fillCosts, .selects RX0 yX0_fillCosts yX0_fillCosts, .initialized RX0, .code yX0_fillCosts cX0_fillCosts 5 none, .methodLink RX0 59 Lib.Math.min.name, .static Lib.Math.min.name, .initialized "java/lang/Math", .code Lib.Math.min.name Lib.Math.min.code 2 (some .int), .methodLink RX0 52 yX0_costWith, .instanceMethod yX0_costWith, .selects RX0 yX0_costWith yX0_costWith, .code yX0_costWith cX0_costWith 5 (some .int)] ++ wsX20 ++ wsX00)
def wsX0_mirror : List Cond := .code yX0_mirror cX0_mirror 3 none :: ([.fieldLink RX0 12 "FewLooks$Mender" "near" "LFewLooks$Row;", .methodLink RX0 59 Lib.Math.min.name, .static Lib.Math.min.name, .initialized "java/lang/Math", .code Lib.Math.min.name Lib.Math.min.code 2 (some .int)] ++ wsX20 ++ wsX00)
def wsX2_total : List Cond := .code yX2_total cX2_total 3 (some .int) :: ([.fieldLink RX2 15 "FewLooks$Row" "size" "I", .fieldLink RX2 9 "FewLooks$Row" "digits" "[I"] ++ wsX20)
def wsX0_makeEven : List Cond := .code yX0_makeEven cX0_makeEven 2 none :: ([.fieldLink RX0 12 "FewLooks$Mender" "near" "LFewLooks$Row;", .methodLink RX0 65 yX2_total, .instanceMethod yX2_total, .selects RX2 yX2_total yX2_total, .initialized RX2, .code yX2_total cX2_total 3 (some .int), .fieldLink RX2 15 "FewLooks$Row" "size" "I", .fieldLink RX2 9 "FewLooks$Row" "digits" "[I"] ++ wsX00 ++ wsX20)
def wsX0_commonest : List Cond := .code yX0_commonest cX0_commonest 9 (some .int) :: ([] ++ wsX20)
def wsX0_guessPeriod : List Cond := .code yX0_guessPeriod cX0_guessPeriod 4 none :: ([.fieldLink RX0 18 "FewLooks$Mender" "guess" "LFewLooks$Row;", .methodLink RX0 25 yX2_become, .instanceMethod yX2_become, .selects RX2 yX2_become yX2_become, .initialized RX2, .code yX2_become cX2_become 3 none, .fieldLink RX2 15 "FewLooks$Row" "size" "I", .fieldLink RX2 9 "FewLooks$Row" "digits" "[I", .methodLink RX0 77 yX0_commonest, .static yX0_commonest, .initialized RX0, .code yX0_commonest cX0_commonest 9 (some .int)] ++ wsX00 ++ wsX20)
def wsX2_differing : List Cond := .code yX2_differing cX2_differing 4 (some .int) :: ([.fieldLink RX2 15 "FewLooks$Row" "size" "I", .fieldLink RX2 9 "FewLooks$Row" "digits" "[I"] ++ wsX20)
def wsX2_isAheadOf : List Cond := .code yX2_isAheadOf cX2_isAheadOf 3 (some .boolean) :: ([.fieldLink RX2 15 "FewLooks$Row" "size" "I", .fieldLink RX2 9 "FewLooks$Row" "digits" "[I"] ++ wsX20)
def wsX0_makeRound_r1 : List Cond := [Cond.fieldLink RX0 18 "FewLooks$Mender" "guess" "LFewLooks$Row;", Cond.fieldLink RX0 12 "FewLooks$Mender" "near" "LFewLooks$Row;", Cond.methodLink RX0 69 yX0_guessPeriod, Cond.instanceMethod yX0_guessPeriod, Cond.selects RX0 yX0_guessPeriod yX0_guessPeriod, Cond.initialized RX0, Cond.code yX0_guessPeriod cX0_guessPeriod 4 none, Cond.methodLink RX0 25 yX2_become, Cond.instanceMethod yX2_become, Cond.selects RX2 yX2_become yX2_become, Cond.initialized RX2, Cond.code yX2_become cX2_become 3 none, Cond.fieldLink RX2 15 "FewLooks$Row" "size" "I", Cond.fieldLink RX2 9 "FewLooks$Row" "digits" "[I", Cond.methodLink RX0 77 yX0_commonest, Cond.static yX0_commonest, Cond.code yX0_commonest cX0_commonest 9 (some .int), Cond.methodLink RX0 41 yX2_differing, Cond.instanceMethod yX2_differing, Cond.selects RX2 yX2_differing yX2_differing, Cond.code yX2_differing cX2_differing 4 (some .int), Cond.methodLink RX0 73 yX2_isAheadOf, Cond.instanceMethod yX2_isAheadOf, Cond.selects RX2 yX2_isAheadOf yX2_isAheadOf]
def wsX0_makeRound_r2 : List Cond := [Cond.code yX2_isAheadOf cX2_isAheadOf 3 (some .boolean)]
def wsX0_makeRound : List Cond := .code yX0_makeRound cX0_makeRound 5 none :: ((wsX0_makeRound_r1 ++ wsX0_makeRound_r2) ++ wsX20 ++ wsX00)
def wsX0_seek_r1 : List Cond := [Cond.fieldLink RX0 12 "FewLooks$Mender" "near" "LFewLooks$Row;", Cond.methodLink RX0 25 yX2_become, Cond.instanceMethod yX2_become, Cond.selects RX2 yX2_become yX2_become, Cond.initialized RX2, Cond.code yX2_become cX2_become 3 none, Cond.fieldLink RX2 15 "FewLooks$Row" "size" "I", Cond.fieldLink RX2 9 "FewLooks$Row" "digits" "[I", Cond.methodLink RX0 29 yX0_raise, Cond.instanceMethod yX0_raise, Cond.selects RX0 yX0_raise yX0_raise, Cond.initialized RX0, Cond.code yX0_raise cX0_raise 5 none, Cond.fieldLink RX0 21 "FewLooks$Mender" "costs" "[I", Cond.methodLink RX0 45 yX0_fillCosts, Cond.instanceMethod yX0_fillCosts, Cond.selects RX0 yX0_fillCosts yX0_fillCosts, Cond.code yX0_fillCosts cX0_fillCosts 5 none, Cond.methodLink RX0 59 Lib.Math.min.name, Cond.static Lib.Math.min.name, Cond.initialized "java/lang/Math", Cond.code Lib.Math.min.name Lib.Math.min.code 2 (some .int), Cond.methodLink RX0 52 yX0_costWith, Cond.instanceMethod yX0_costWith]
def wsX0_seek_r2 : List Cond := [Cond.selects RX0 yX0_costWith yX0_costWith, Cond.code yX0_costWith cX0_costWith 5 (some .int), Cond.methodLink RX0 32 yX0_mirror, Cond.instanceMethod yX0_mirror, Cond.selects RX0 yX0_mirror yX0_mirror, Cond.code yX0_mirror cX0_mirror 3 none, Cond.methodLink RX0 35 yX0_makeEven, Cond.instanceMethod yX0_makeEven, Cond.selects RX0 yX0_makeEven yX0_makeEven, Cond.code yX0_makeEven cX0_makeEven 2 none, Cond.methodLink RX0 65 yX2_total, Cond.instanceMethod yX2_total, Cond.selects RX2 yX2_total yX2_total, Cond.code yX2_total cX2_total 3 (some .int), Cond.methodLink RX0 38 yX0_makeRound, Cond.instanceMethod yX0_makeRound, Cond.selects RX0 yX0_makeRound yX0_makeRound, Cond.code yX0_makeRound cX0_makeRound 5 none, Cond.fieldLink RX0 18 "FewLooks$Mender" "guess" "LFewLooks$Row;", Cond.methodLink RX0 69 yX0_guessPeriod, Cond.instanceMethod yX0_guessPeriod, Cond.selects RX0 yX0_guessPeriod yX0_guessPeriod, Cond.code yX0_guessPeriod cX0_guessPeriod 4 none, Cond.methodLink RX0 77 yX0_commonest]
def wsX0_seek_r3 : List Cond := [Cond.static yX0_commonest, Cond.code yX0_commonest cX0_commonest 9 (some .int), Cond.methodLink RX0 41 yX2_differing, Cond.instanceMethod yX2_differing, Cond.selects RX2 yX2_differing yX2_differing, Cond.code yX2_differing cX2_differing 4 (some .int), Cond.methodLink RX0 73 yX2_isAheadOf, Cond.instanceMethod yX2_isAheadOf, Cond.selects RX2 yX2_isAheadOf yX2_isAheadOf, Cond.code yX2_isAheadOf cX2_isAheadOf 3 (some .boolean)]
def wsX0_seek : List Cond := .code yX0_seek cX0_seek 3 (some .int) :: ((wsX0_seek_r1 ++ (wsX0_seek_r2 ++ wsX0_seek_r3)) ++ wsX00 ++ wsX20)
def wsX1_init : List Cond := .code yX1_init cX1_init 1 none :: ([.methodLink RX1 3 objectInit, .instanceMethod objectInit, .code objectInit ⟨#[0xb1]⟩ 1 none, .arrayClass .int, .fieldLink RX1 9 "FewLooks$Net" "joins" "[I"] ++ wsX10)
def wsX1_joined : List Cond := .code yX1_joined cX1_joined 3 (some .int) :: ([.fieldLink RX1 9 "FewLooks$Net" "joins" "[I"] ++ wsX10)
def wsX1_join : List Cond := .code yX1_join cX1_join 4 none :: ([.fieldLink RX1 9 "FewLooks$Net" "joins" "[I"] ++ wsX10)
def wsX1_alikeTo : List Cond := .code yX1_alikeTo cX1_alikeTo 2 (some .int) :: ([])
def wsJ6_bitCount_0f7a4 : List Cond := .code yJ6_bitCount_0f7a4 cJ6_bitCount_0f7a4 1 (some .int) :: ([.constant RJ6 265 (1431655765), .constant RJ6 266 (858993459), .constant RJ6 267 (252645135)])
def wsX1_likeLines : List Cond := .code yX1_likeLines cX1_likeLines 5 (some .int) :: ([.fieldLink RX1 9 "FewLooks$Net" "joins" "[I", .methodLink RX1 19 yX1_alikeTo, .static yX1_alikeTo, .initialized RX1, .code yX1_alikeTo cX1_alikeTo 2 (some .int), .methodLink RX1 22 yJ6_bitCount_0f7a4, .static yJ6_bitCount_0f7a4, .initialized RJ6, .code yJ6_bitCount_0f7a4 cJ6_bitCount_0f7a4 1 (some .int), .constant RJ6 265 (1431655765), .constant RJ6 266 (858993459), .constant RJ6 267 (252645135)] ++ wsX10)
def wsX1_lines : List Cond := .code yX1_lines cX1_lines 1 (some .int) :: ([.methodLink RX1 15 yX1_likeLines, .instanceMethod yX1_likeLines, .selects RX1 yX1_likeLines yX1_likeLines, .initialized RX1, .code yX1_likeLines cX1_likeLines 5 (some .int), .fieldLink RX1 9 "FewLooks$Net" "joins" "[I", .methodLink RX1 19 yX1_alikeTo, .static yX1_alikeTo, .code yX1_alikeTo cX1_alikeTo 2 (some .int), .methodLink RX1 22 yJ6_bitCount_0f7a4, .static yJ6_bitCount_0f7a4, .initialized RJ6, .code yJ6_bitCount_0f7a4 cJ6_bitCount_0f7a4 1 (some .int), .constant RJ6 265 (1431655765), .constant RJ6 266 (858993459), .constant RJ6 267 (252645135)] ++ wsX10)
def wsX1_cutLikeLines : List Cond := .code yX1_cutLikeLines cX1_cutLikeLines 3 none :: ([.fieldLink RX1 9 "FewLooks$Net" "joins" "[I", .methodLink RX1 19 yX1_alikeTo, .static yX1_alikeTo, .initialized RX1, .code yX1_alikeTo cX1_alikeTo 2 (some .int)] ++ wsX10)
def wsX1_bestColouringOf : List Cond := .code yX1_bestColouringOf cX1_bestColouringOf 6 (some .int) :: ([.methodLink RX1 15 yX1_likeLines, .instanceMethod yX1_likeLines, .selects RX1 yX1_likeLines yX1_likeLines, .initialized RX1, .code yX1_likeLines cX1_likeLines 5 (some .int), .fieldLink RX1 9 "FewLooks$Net" "joins" "[I", .methodLink RX1 19 yX1_alikeTo, .static yX1_alikeTo, .code yX1_alikeTo cX1_alikeTo 2 (some .int), .methodLink RX1 22 yJ6_bitCount_0f7a4, .static yJ6_bitCount_0f7a4, .initialized RJ6, .code yJ6_bitCount_0f7a4 cJ6_bitCount_0f7a4 1 (some .int), .constant RJ6 265 (1431655765), .constant RJ6 266 (858993459), .constant RJ6 267 (252645135)] ++ wsX10)
def wsX1_bestColouring : List Cond := .code yX1_bestColouring cX1_bestColouring 1 (some .int) :: ([.methodLink RX1 28 yX1_bestColouringOf, .instanceMethod yX1_bestColouringOf, .selects RX1 yX1_bestColouringOf yX1_bestColouringOf, .initialized RX1, .code yX1_bestColouringOf cX1_bestColouringOf 6 (some .int), .methodLink RX1 15 yX1_likeLines, .instanceMethod yX1_likeLines, .selects RX1 yX1_likeLines yX1_likeLines, .code yX1_likeLines cX1_likeLines 5 (some .int), .fieldLink RX1 9 "FewLooks$Net" "joins" "[I", .methodLink RX1 19 yX1_alikeTo, .static yX1_alikeTo, .code yX1_alikeTo cX1_alikeTo 2 (some .int), .methodLink RX1 22 yJ6_bitCount_0f7a4, .static yJ6_bitCount_0f7a4, .initialized RJ6, .code yJ6_bitCount_0f7a4 cJ6_bitCount_0f7a4 1 (some .int), .constant RJ6 265 (1431655765), .constant RJ6 266 (858993459), .constant RJ6 267 (252645135)] ++ wsX10)
def wsX1_twoColoured : List Cond := .code yX1_twoColoured cX1_twoColoured 2 (some .boolean) :: ([.methodLink RX1 28 yX1_bestColouringOf, .instanceMethod yX1_bestColouringOf, .selects RX1 yX1_bestColouringOf yX1_bestColouringOf, .initialized RX1, .code yX1_bestColouringOf cX1_bestColouringOf 6 (some .int), .methodLink RX1 15 yX1_likeLines, .instanceMethod yX1_likeLines, .selects RX1 yX1_likeLines yX1_likeLines, .code yX1_likeLines cX1_likeLines 5 (some .int), .fieldLink RX1 9 "FewLooks$Net" "joins" "[I", .methodLink RX1 19 yX1_alikeTo, .static yX1_alikeTo, .code yX1_alikeTo cX1_alikeTo 2 (some .int), .methodLink RX1 22 yJ6_bitCount_0f7a4, .static yJ6_bitCount_0f7a4, .initialized RJ6, .code yJ6_bitCount_0f7a4 cJ6_bitCount_0f7a4 1 (some .int), .constant RJ6 265 (1431655765), .constant RJ6 266 (858993459), .constant RJ6 267 (252645135)] ++ wsX10)
def wsX1_sets : List Cond := .code yX1_sets cX1_sets 3 (some .int) :: ([.methodLink RX1 22 yJ6_bitCount_0f7a4, .static yJ6_bitCount_0f7a4, .initialized RJ6, .code yJ6_bitCount_0f7a4 cJ6_bitCount_0f7a4 1 (some .int), .constant RJ6 265 (1431655765), .constant RJ6 266 (858993459), .constant RJ6 267 (252645135)])
def wsX1_passing : List Cond := .code yX1_passing cX1_passing 4 (some .int) :: ([.methodLink RX1 22 yJ6_bitCount_0f7a4, .static yJ6_bitCount_0f7a4, .initialized RJ6, .code yJ6_bitCount_0f7a4 cJ6_bitCount_0f7a4 1 (some .int), .constant RJ6 265 (1431655765), .constant RJ6 266 (858993459), .constant RJ6 267 (252645135), .methodLink RX1 31 yX1_twoColoured, .instanceMethod yX1_twoColoured, .selects RX1 yX1_twoColoured yX1_twoColoured, .initialized RX1, .code yX1_twoColoured cX1_twoColoured 2 (some .boolean), .methodLink RX1 28 yX1_bestColouringOf, .instanceMethod yX1_bestColouringOf, .selects RX1 yX1_bestColouringOf yX1_bestColouringOf, .code yX1_bestColouringOf cX1_bestColouringOf 6 (some .int), .methodLink RX1 15 yX1_likeLines, .instanceMethod yX1_likeLines, .selects RX1 yX1_likeLines yX1_likeLines, .code yX1_likeLines cX1_likeLines 5 (some .int), .fieldLink RX1 9 "FewLooks$Net" "joins" "[I", .methodLink RX1 19 yX1_alikeTo, .static yX1_alikeTo, .code yX1_alikeTo cX1_alikeTo 2 (some .int)] ++ wsX10)
def wsX2_clear : List Cond := .code yX2_clear cX2_clear 3 none :: ([.fieldLink RX2 15 "FewLooks$Row" "size" "I", .fieldLink RX2 9 "FewLooks$Row" "digits" "[I"] ++ wsX20)
def wsX2_spell : List Cond := .code yX2_spell cX2_spell 4 none :: ([.fieldLink RX2 15 "FewLooks$Row" "size" "I", .fieldLink RX2 9 "FewLooks$Row" "digits" "[I"] ++ wsX20)
def wsX2_looks : List Cond := .code yX2_looks cX2_looks 2 (some .int) :: ([.fieldLink RX2 15 "FewLooks$Row" "size" "I"] ++ wsX20)
def wsX2_risingPairs : List Cond := .code yX2_risingPairs cX2_risingPairs 4 (some .int) :: ([.fieldLink RX2 15 "FewLooks$Row" "size" "I", .fieldLink RX2 9 "FewLooks$Row" "digits" "[I"] ++ wsX20)
def wsX2_mirroredPlaces : List Cond := .code yX2_mirroredPlaces cX2_mirroredPlaces 3 (some .int) :: ([.fieldLink RX2 15 "FewLooks$Row" "size" "I", .fieldLink RX2 9 "FewLooks$Row" "digits" "[I"] ++ wsX20)
def wsX2_alikeShifts : List Cond := .code yX2_alikeShifts cX2_alikeShifts 4 (some .int) :: ([.fieldLink RX2 15 "FewLooks$Row" "size" "I", .fieldLink RX2 9 "FewLooks$Row" "digits" "[I"] ++ wsX20)
def wsX2_passing : List Cond := .code yX2_passing cX2_passing 2 (some .int) :: ([.methodLink RX2 19 yX2_risingPairs, .instanceMethod yX2_risingPairs, .selects RX2 yX2_risingPairs yX2_risingPairs, .initialized RX2, .code yX2_risingPairs cX2_risingPairs 4 (some .int), .fieldLink RX2 15 "FewLooks$Row" "size" "I", .fieldLink RX2 9 "FewLooks$Row" "digits" "[I", .methodLink RX2 23 yX2_mirroredPlaces, .instanceMethod yX2_mirroredPlaces, .selects RX2 yX2_mirroredPlaces yX2_mirroredPlaces, .code yX2_mirroredPlaces cX2_mirroredPlaces 3 (some .int), .methodLink RX2 26 yX2_total, .instanceMethod yX2_total, .selects RX2 yX2_total yX2_total, .code yX2_total cX2_total 3 (some .int), .methodLink RX2 29 yX2_alikeShifts, .instanceMethod yX2_alikeShifts, .selects RX2 yX2_alikeShifts yX2_alikeShifts, .code yX2_alikeShifts cX2_alikeShifts 4 (some .int)] ++ wsX20)
def wsX3_init : List Cond := .code yX3_init cX3_init 1 none :: ([.methodLink RX3 3 objectInit, .instanceMethod objectInit, .code objectInit ⟨#[0xb1]⟩ 1 none, .fieldLink RX3 9 "FewLooks$Table" "bits" "I"] ++ wsX30)
def wsX3_at : List Cond := .code yX3_at cX3_at 2 (some .int) :: ([.fieldLink RX3 9 "FewLooks$Table" "bits" "I"] ++ wsX30)
def wsX3_put : List Cond := .code yX3_put cX3_put 3 none :: ([.fieldLink RX3 9 "FewLooks$Table" "bits" "I"] ++ wsX30)
def wsX3_parities : List Cond := .code yX3_parities cX3_parities 3 (some .int) :: ([.methodLink RX3 15 yJ6_bitCount_0f7a4, .static yJ6_bitCount_0f7a4, .initialized RJ6, .code yJ6_bitCount_0f7a4 cJ6_bitCount_0f7a4 1 (some .int), .constant RJ6 265 (1431655765), .constant RJ6 266 (858993459), .constant RJ6 267 (252645135)])
def wsX3_differing : List Cond := .code yX3_differing cX3_differing 2 (some .int) :: ([.fieldLink RX3 9 "FewLooks$Table" "bits" "I", .methodLink RX3 21 yX3_parities, .static yX3_parities, .initialized RX3, .code yX3_parities cX3_parities 3 (some .int), .methodLink RX3 15 yJ6_bitCount_0f7a4, .static yJ6_bitCount_0f7a4, .initialized RJ6, .code yJ6_bitCount_0f7a4 cJ6_bitCount_0f7a4 1 (some .int), .constant RJ6 265 (1431655765), .constant RJ6 266 (858993459), .constant RJ6 267 (252645135)] ++ wsX30)
def wsX3_closest : List Cond := .code yX3_closest cX3_closest 3 (some .int) :: ([.methodLink RX3 24 yX3_differing, .instanceMethod yX3_differing, .selects RX3 yX3_differing yX3_differing, .initialized RX3, .code yX3_differing cX3_differing 2 (some .int), .fieldLink RX3 9 "FewLooks$Table" "bits" "I", .methodLink RX3 21 yX3_parities, .static yX3_parities, .code yX3_parities cX3_parities 3 (some .int), .methodLink RX3 15 yJ6_bitCount_0f7a4, .static yJ6_bitCount_0f7a4, .initialized RJ6, .code yJ6_bitCount_0f7a4 cJ6_bitCount_0f7a4 1 (some .int), .constant RJ6 265 (1431655765), .constant RJ6 266 (858993459), .constant RJ6 267 (252645135)] ++ wsX30)
def wsX3_agrees : List Cond := .code yX3_agrees cX3_agrees 3 (some .boolean) :: ([.methodLink RX3 27 yX3_at, .instanceMethod yX3_at, .selects RX3 yX3_at yX3_at, .initialized RX3, .code yX3_at cX3_at 2 (some .int), .fieldLink RX3 9 "FewLooks$Table" "bits" "I"] ++ wsX30)
def wsX3_passing : List Cond := .code yX3_passing cX3_passing 4 (some .int) :: ([.methodLink RX3 30 yX3_agrees, .instanceMethod yX3_agrees, .selects RX3 yX3_agrees yX3_agrees, .initialized RX3, .code yX3_agrees cX3_agrees 3 (some .boolean), .methodLink RX3 27 yX3_at, .instanceMethod yX3_at, .selects RX3 yX3_at yX3_at, .code yX3_at cX3_at 2 (some .int), .fieldLink RX3 9 "FewLooks$Table" "bits" "I"] ++ wsX30)
def wsX3_tellers : List Cond := .code yX3_tellers cX3_tellers 5 (some .int) :: ([.methodLink RX3 27 yX3_at, .instanceMethod yX3_at, .selects RX3 yX3_at yX3_at, .initialized RX3, .code yX3_at cX3_at 2 (some .int), .fieldLink RX3 9 "FewLooks$Table" "bits" "I"] ++ wsX30)
def wsX4_init_r1 : List Cond := [Cond.methodLink RX4 1 objectInit, Cond.instanceMethod objectInit, Cond.code objectInit ⟨#[0xb1]⟩ 1 none, Cond.classLink RX4 7 RX2, Cond.instantiable RX2 2, Cond.initialized RX2, Cond.fieldLink RX4 10 "FewLooks" "row" "LFewLooks$Row;", Cond.fieldLink RX4 16 "FewLooks" "trial" "LFewLooks$Row;", Cond.classLink RX4 19 RX0, Cond.instantiable RX0 3, Cond.initialized RX0, Cond.fieldLink RX4 22 "FewLooks" "mender" "LFewLooks$Mender;", Cond.classLink RX4 26 RX3, Cond.instantiable RX3 1, Cond.initialized RX3, Cond.fieldLink RX4 29 "FewLooks" "table" "LFewLooks$Table;", Cond.classLink RX4 33 RX1, Cond.instantiable RX1 1, Cond.initialized RX1, Cond.fieldLink RX4 36 "FewLooks" "net" "LFewLooks$Net;", Cond.fieldLink RX4 40 "FewLooks" "drawn" "I", Cond.instanceMethod yX2_init, Cond.code yX2_init cX2_init 1 none, Cond.methodLink RX2 3 objectInit]
def wsX4_init_r2 : List Cond := [Cond.arrayClass .int, Cond.fieldLink RX2 9 "FewLooks$Row" "digits" "[I", Cond.fieldLink RX2 15 "FewLooks$Row" "size" "I", Cond.instanceMethod yX0_init, Cond.code yX0_init cX0_init 1 none, Cond.methodLink RX0 3 objectInit, Cond.classLink RX0 9 RX2, Cond.fieldLink RX0 12 "FewLooks$Mender" "near" "LFewLooks$Row;", Cond.fieldLink RX0 18 "FewLooks$Mender" "guess" "LFewLooks$Row;", Cond.fieldLink RX0 21 "FewLooks$Mender" "costs" "[I", Cond.instanceMethod yX3_init, Cond.code yX3_init cX3_init 1 none, Cond.methodLink RX3 3 objectInit, Cond.fieldLink RX3 9 "FewLooks$Table" "bits" "I", Cond.instanceMethod yX1_init, Cond.code yX1_init cX1_init 1 none, Cond.methodLink RX1 3 objectInit, Cond.fieldLink RX1 9 "FewLooks$Net" "joins" "[I"]
def wsX4_init : List Cond := .code yX4_init cX4_init 1 none :: ((wsX4_init_r1 ++ wsX4_init_r2) ++ wsX20 ++ wsX40 ++ wsX00 ++ wsX30 ++ wsX10)
def wsX4_within : List Cond := .code yX4_within cX4_within 3 (some .boolean) :: ([])
def wsX4_places : List Cond := .code yX4_places cX4_places 3 (some .int) :: ([.fieldLink RX4 10 "FewLooks" "row" "LFewLooks$Row;", .methodLink RX4 44 yX4_within, .static yX4_within, .initialized RX4, .code yX4_within cX4_within 3 (some .boolean), .methodLink RX4 51 yX2_clear, .instanceMethod yX2_clear, .selects RX2 yX2_clear yX2_clear, .initialized RX2, .code yX2_clear cX2_clear 3 none, .fieldLink RX2 15 "FewLooks$Row" "size" "I", .fieldLink RX2 9 "FewLooks$Row" "digits" "[I"] ++ wsX40 ++ wsX20)
def wsX4_isPlace : List Cond := .code yX4_isPlace cX4_isPlace 2 (some .boolean) :: ([.fieldLink RX4 10 "FewLooks" "row" "LFewLooks$Row;", .methodLink RX4 44 yX4_within, .static yX4_within, .initialized RX4, .code yX4_within cX4_within 3 (some .boolean)] ++ wsX40 ++ wsX20)
def wsX4_digit : List Cond := .code yX4_digit cX4_digit 4 (some .int) :: ([.fieldLink RX4 10 "FewLooks" "row" "LFewLooks$Row;", .methodLink RX4 55 yX4_isPlace, .instanceMethod yX4_isPlace, .selects RX4 yX4_isPlace yX4_isPlace, .initialized RX4, .code yX4_isPlace cX4_isPlace 2 (some .boolean), .methodLink RX4 44 yX4_within, .static yX4_within, .code yX4_within cX4_within 3 (some .boolean)] ++ wsX40 ++ wsX20)
def wsX4_isEntry : List Cond := .code yX4_isEntry cX4_isEntry 1 (some .boolean) :: ([.methodLink RX4 44 yX4_within, .static yX4_within, .initialized RX4, .code yX4_within cX4_within 3 (some .boolean)])
def wsX4_bit : List Cond := .code yX4_bit cX4_bit 4 (some .int) :: ([.fieldLink RX4 29 "FewLooks" "table" "LFewLooks$Table;", .methodLink RX4 63 yX4_isEntry, .static yX4_isEntry, .initialized RX4, .code yX4_isEntry cX4_isEntry 1 (some .boolean), .methodLink RX4 44 yX4_within, .static yX4_within, .code yX4_within cX4_within 3 (some .boolean), .methodLink RX4 66 yX3_at, .instanceMethod yX3_at, .selects RX3 yX3_at yX3_at, .initialized RX3, .code yX3_at cX3_at 2 (some .int), .fieldLink RX3 9 "FewLooks$Table" "bits" "I", .methodLink RX4 70 yX3_put, .instanceMethod yX3_put, .selects RX3 yX3_put yX3_put, .code yX3_put cX3_put 3 none] ++ wsX40 ++ wsX30)
def wsX4_linear : List Cond := .code yX4_linear cX4_linear 2 (some .int) :: ([.fieldLink RX4 29 "FewLooks" "table" "LFewLooks$Table;", .methodLink RX4 63 yX4_isEntry, .static yX4_isEntry, .initialized RX4, .code yX4_isEntry cX4_isEntry 1 (some .boolean), .methodLink RX4 44 yX4_within, .static yX4_within, .code yX4_within cX4_within 3 (some .boolean), .methodLink RX4 74 yX3_parities, .static yX3_parities, .initialized RX3, .code yX3_parities cX3_parities 3 (some .int), .methodLink RX3 15 yJ6_bitCount_0f7a4, .static yJ6_bitCount_0f7a4, .initialized RJ6, .code yJ6_bitCount_0f7a4 cJ6_bitCount_0f7a4 1 (some .int), .constant RJ6 265 (1431655765), .constant RJ6 266 (858993459), .constant RJ6 267 (252645135)] ++ wsX40 ++ wsX30)
def wsX4_isPoint : List Cond := .code yX4_isPoint cX4_isPoint 1 (some .boolean) :: ([.methodLink RX4 44 yX4_within, .static yX4_within, .initialized RX4, .code yX4_within cX4_within 3 (some .boolean)])
def wsX4_line : List Cond := .code yX4_line cX4_line 5 (some .int) :: ([.fieldLink RX4 36 "FewLooks" "net" "LFewLooks$Net;", .methodLink RX4 80 yX4_isPoint, .static yX4_isPoint, .initialized RX4, .code yX4_isPoint cX4_isPoint 1 (some .boolean), .methodLink RX4 44 yX4_within, .static yX4_within, .code yX4_within cX4_within 3 (some .boolean), .methodLink RX4 83 yX1_joined, .instanceMethod yX1_joined, .selects RX1 yX1_joined yX1_joined, .initialized RX1, .code yX1_joined cX1_joined 3 (some .int), .fieldLink RX1 9 "FewLooks$Net" "joins" "[I", .methodLink RX4 87 yX1_join, .instanceMethod yX1_join, .selects RX1 yX1_join yX1_join, .code yX1_join cX1_join 4 none] ++ wsX40 ++ wsX10)
def wsX4_draw : List Cond := .code yX4_draw cX4_draw 3 (some .int) :: ([.fieldLink RX4 40 "FewLooks" "drawn" "I", .methodLink RX4 44 yX4_within, .static yX4_within, .initialized RX4, .code yX4_within cX4_within 3 (some .boolean)] ++ wsX40)
def wsX4_isSubject : List Cond := .code yX4_isSubject cX4_isSubject 1 (some .boolean) :: ([.methodLink RX4 44 yX4_within, .static yX4_within, .initialized RX4, .code yX4_within cX4_within 3 (some .boolean)])
def wsX4_isRow : List Cond := .code yX4_isRow cX4_isRow 1 (some .boolean) :: ([.methodLink RX4 44 yX4_within, .static yX4_within, .initialized RX4, .code yX4_within cX4_within 3 (some .boolean)])
def wsX4_howFar_r1 : List Cond := [Cond.fieldLink RX4 22 "FewLooks" "mender" "LFewLooks$Mender;", Cond.fieldLink RX4 10 "FewLooks" "row" "LFewLooks$Row;", Cond.fieldLink RX4 29 "FewLooks" "table" "LFewLooks$Table;", Cond.fieldLink RX4 36 "FewLooks" "net" "LFewLooks$Net;", Cond.methodLink RX4 97 yX4_isRow, Cond.static yX4_isRow, Cond.initialized RX4, Cond.code yX4_isRow cX4_isRow 1 (some .boolean), Cond.methodLink RX4 44 yX4_within, Cond.static yX4_within, Cond.code yX4_within cX4_within 3 (some .boolean), Cond.methodLink RX4 100 yX0_seek, Cond.instanceMethod yX0_seek, Cond.selects RX0 yX0_seek yX0_seek, Cond.initialized RX0, Cond.code yX0_seek cX0_seek 3 (some .int), Cond.fieldLink RX0 12 "FewLooks$Mender" "near" "LFewLooks$Row;", Cond.methodLink RX0 25 yX2_become, Cond.instanceMethod yX2_become, Cond.selects RX2 yX2_become yX2_become, Cond.initialized RX2, Cond.code yX2_become cX2_become 3 none, Cond.fieldLink RX2 15 "FewLooks$Row" "size" "I", Cond.fieldLink RX2 9 "FewLooks$Row" "digits" "[I"]
def wsX4_howFar_r2 : List Cond := [Cond.methodLink RX0 29 yX0_raise, Cond.instanceMethod yX0_raise, Cond.selects RX0 yX0_raise yX0_raise, Cond.code yX0_raise cX0_raise 5 none, Cond.fieldLink RX0 21 "FewLooks$Mender" "costs" "[I", Cond.methodLink RX0 45 yX0_fillCosts, Cond.instanceMethod yX0_fillCosts, Cond.selects RX0 yX0_fillCosts yX0_fillCosts, Cond.code yX0_fillCosts cX0_fillCosts 5 none, Cond.methodLink RX0 59 Lib.Math.min.name, Cond.static Lib.Math.min.name, Cond.initialized "java/lang/Math", Cond.code Lib.Math.min.name Lib.Math.min.code 2 (some .int), Cond.methodLink RX0 52 yX0_costWith, Cond.instanceMethod yX0_costWith, Cond.selects RX0 yX0_costWith yX0_costWith, Cond.code yX0_costWith cX0_costWith 5 (some .int), Cond.methodLink RX0 32 yX0_mirror, Cond.instanceMethod yX0_mirror, Cond.selects RX0 yX0_mirror yX0_mirror, Cond.code yX0_mirror cX0_mirror 3 none, Cond.methodLink RX0 35 yX0_makeEven, Cond.instanceMethod yX0_makeEven, Cond.selects RX0 yX0_makeEven yX0_makeEven]
def wsX4_howFar_r3 : List Cond := [Cond.code yX0_makeEven cX0_makeEven 2 none, Cond.methodLink RX0 65 yX2_total, Cond.instanceMethod yX2_total, Cond.selects RX2 yX2_total yX2_total, Cond.code yX2_total cX2_total 3 (some .int), Cond.methodLink RX0 38 yX0_makeRound, Cond.instanceMethod yX0_makeRound, Cond.selects RX0 yX0_makeRound yX0_makeRound, Cond.code yX0_makeRound cX0_makeRound 5 none, Cond.fieldLink RX0 18 "FewLooks$Mender" "guess" "LFewLooks$Row;", Cond.methodLink RX0 69 yX0_guessPeriod, Cond.instanceMethod yX0_guessPeriod, Cond.selects RX0 yX0_guessPeriod yX0_guessPeriod, Cond.code yX0_guessPeriod cX0_guessPeriod 4 none, Cond.methodLink RX0 77 yX0_commonest, Cond.static yX0_commonest, Cond.code yX0_commonest cX0_commonest 9 (some .int), Cond.methodLink RX0 41 yX2_differing, Cond.instanceMethod yX2_differing, Cond.selects RX2 yX2_differing yX2_differing, Cond.code yX2_differing cX2_differing 4 (some .int), Cond.methodLink RX0 73 yX2_isAheadOf, Cond.instanceMethod yX2_isAheadOf, Cond.selects RX2 yX2_isAheadOf yX2_isAheadOf]
def wsX4_howFar_r4 : List Cond := [Cond.code yX2_isAheadOf cX2_isAheadOf 3 (some .boolean), Cond.methodLink RX4 107 yX3_closest, Cond.instanceMethod yX3_closest, Cond.selects RX3 yX3_closest yX3_closest, Cond.initialized RX3, Cond.code yX3_closest cX3_closest 3 (some .int), Cond.methodLink RX3 24 yX3_differing, Cond.instanceMethod yX3_differing, Cond.selects RX3 yX3_differing yX3_differing, Cond.code yX3_differing cX3_differing 2 (some .int), Cond.fieldLink RX3 9 "FewLooks$Table" "bits" "I", Cond.methodLink RX3 21 yX3_parities, Cond.static yX3_parities, Cond.code yX3_parities cX3_parities 3 (some .int), Cond.methodLink RX3 15 yJ6_bitCount_0f7a4, Cond.static yJ6_bitCount_0f7a4, Cond.initialized RJ6, Cond.code yJ6_bitCount_0f7a4 cJ6_bitCount_0f7a4 1 (some .int), Cond.constant RJ6 265 (1431655765), Cond.constant RJ6 266 (858993459), Cond.constant RJ6 267 (252645135), Cond.methodLink RX4 167 yX3_differing, Cond.methodLink RX4 111 yX1_bestColouring, Cond.instanceMethod yX1_bestColouring]
def wsX4_howFar_r5 : List Cond := [Cond.selects RX1 yX1_bestColouring yX1_bestColouring, Cond.initialized RX1, Cond.code yX1_bestColouring cX1_bestColouring 1 (some .int), Cond.methodLink RX1 28 yX1_bestColouringOf, Cond.instanceMethod yX1_bestColouringOf, Cond.selects RX1 yX1_bestColouringOf yX1_bestColouringOf, Cond.code yX1_bestColouringOf cX1_bestColouringOf 6 (some .int), Cond.methodLink RX1 15 yX1_likeLines, Cond.instanceMethod yX1_likeLines, Cond.selects RX1 yX1_likeLines yX1_likeLines, Cond.code yX1_likeLines cX1_likeLines 5 (some .int), Cond.fieldLink RX1 9 "FewLooks$Net" "joins" "[I", Cond.methodLink RX1 19 yX1_alikeTo, Cond.static yX1_alikeTo, Cond.code yX1_alikeTo cX1_alikeTo 2 (some .int), Cond.methodLink RX1 22 yJ6_bitCount_0f7a4, Cond.methodLink RX4 170 yX1_likeLines]
def wsX4_howFar : List Cond := .code yX4_howFar cX4_howFar 2 (some .int) :: ((wsX4_howFar_r1 ++ (wsX4_howFar_r2 ++ (wsX4_howFar_r3 ++ (wsX4_howFar_r4 ++ wsX4_howFar_r5)))) ++ wsX40 ++ wsX00 ++ wsX20 ++ wsX30 ++ wsX10)
def wsX4_is_r1 : List Cond := [Cond.methodLink RX4 91 yX4_isSubject, Cond.static yX4_isSubject, Cond.initialized RX4, Cond.code yX4_isSubject cX4_isSubject 1 (some .boolean), Cond.methodLink RX4 44 yX4_within, Cond.static yX4_within, Cond.code yX4_within cX4_within 3 (some .boolean), Cond.methodLink RX4 94 yX4_howFar, Cond.instanceMethod yX4_howFar, Cond.selects RX4 yX4_howFar yX4_howFar, Cond.code yX4_howFar cX4_howFar 2 (some .int), Cond.fieldLink RX4 22 "FewLooks" "mender" "LFewLooks$Mender;", Cond.fieldLink RX4 10 "FewLooks" "row" "LFewLooks$Row;", Cond.fieldLink RX4 29 "FewLooks" "table" "LFewLooks$Table;", Cond.fieldLink RX4 36 "FewLooks" "net" "LFewLooks$Net;", Cond.methodLink RX4 97 yX4_isRow, Cond.static yX4_isRow, Cond.code yX4_isRow cX4_isRow 1 (some .boolean), Cond.methodLink RX4 100 yX0_seek, Cond.instanceMethod yX0_seek, Cond.selects RX0 yX0_seek yX0_seek, Cond.initialized RX0, Cond.code yX0_seek cX0_seek 3 (some .int), Cond.fieldLink RX0 12 "FewLooks$Mender" "near" "LFewLooks$Row;"]
def wsX4_is_r2 : List Cond := [Cond.methodLink RX0 25 yX2_become, Cond.instanceMethod yX2_become, Cond.selects RX2 yX2_become yX2_become, Cond.initialized RX2, Cond.code yX2_become cX2_become 3 none, Cond.fieldLink RX2 15 "FewLooks$Row" "size" "I", Cond.fieldLink RX2 9 "FewLooks$Row" "digits" "[I", Cond.methodLink RX0 29 yX0_raise, Cond.instanceMethod yX0_raise, Cond.selects RX0 yX0_raise yX0_raise, Cond.code yX0_raise cX0_raise 5 none, Cond.fieldLink RX0 21 "FewLooks$Mender" "costs" "[I", Cond.methodLink RX0 45 yX0_fillCosts, Cond.instanceMethod yX0_fillCosts, Cond.selects RX0 yX0_fillCosts yX0_fillCosts, Cond.code yX0_fillCosts cX0_fillCosts 5 none, Cond.methodLink RX0 59 Lib.Math.min.name, Cond.static Lib.Math.min.name, Cond.initialized "java/lang/Math", Cond.code Lib.Math.min.name Lib.Math.min.code 2 (some .int), Cond.methodLink RX0 52 yX0_costWith, Cond.instanceMethod yX0_costWith, Cond.selects RX0 yX0_costWith yX0_costWith, Cond.code yX0_costWith cX0_costWith 5 (some .int)]
def wsX4_is_r3 : List Cond := [Cond.methodLink RX0 32 yX0_mirror, Cond.instanceMethod yX0_mirror, Cond.selects RX0 yX0_mirror yX0_mirror, Cond.code yX0_mirror cX0_mirror 3 none, Cond.methodLink RX0 35 yX0_makeEven, Cond.instanceMethod yX0_makeEven, Cond.selects RX0 yX0_makeEven yX0_makeEven, Cond.code yX0_makeEven cX0_makeEven 2 none, Cond.methodLink RX0 65 yX2_total, Cond.instanceMethod yX2_total, Cond.selects RX2 yX2_total yX2_total, Cond.code yX2_total cX2_total 3 (some .int), Cond.methodLink RX0 38 yX0_makeRound, Cond.instanceMethod yX0_makeRound, Cond.selects RX0 yX0_makeRound yX0_makeRound, Cond.code yX0_makeRound cX0_makeRound 5 none, Cond.fieldLink RX0 18 "FewLooks$Mender" "guess" "LFewLooks$Row;", Cond.methodLink RX0 69 yX0_guessPeriod, Cond.instanceMethod yX0_guessPeriod, Cond.selects RX0 yX0_guessPeriod yX0_guessPeriod, Cond.code yX0_guessPeriod cX0_guessPeriod 4 none, Cond.methodLink RX0 77 yX0_commonest, Cond.static yX0_commonest, Cond.code yX0_commonest cX0_commonest 9 (some .int)]
def wsX4_is_r4 : List Cond := [Cond.methodLink RX0 41 yX2_differing, Cond.instanceMethod yX2_differing, Cond.selects RX2 yX2_differing yX2_differing, Cond.code yX2_differing cX2_differing 4 (some .int), Cond.methodLink RX0 73 yX2_isAheadOf, Cond.instanceMethod yX2_isAheadOf, Cond.selects RX2 yX2_isAheadOf yX2_isAheadOf, Cond.code yX2_isAheadOf cX2_isAheadOf 3 (some .boolean), Cond.methodLink RX4 107 yX3_closest, Cond.instanceMethod yX3_closest, Cond.selects RX3 yX3_closest yX3_closest, Cond.initialized RX3, Cond.code yX3_closest cX3_closest 3 (some .int), Cond.methodLink RX3 24 yX3_differing, Cond.instanceMethod yX3_differing, Cond.selects RX3 yX3_differing yX3_differing, Cond.code yX3_differing cX3_differing 2 (some .int), Cond.fieldLink RX3 9 "FewLooks$Table" "bits" "I", Cond.methodLink RX3 21 yX3_parities, Cond.static yX3_parities, Cond.code yX3_parities cX3_parities 3 (some .int), Cond.methodLink RX3 15 yJ6_bitCount_0f7a4, Cond.static yJ6_bitCount_0f7a4, Cond.initialized RJ6]
def wsX4_is_r5 : List Cond := [Cond.code yJ6_bitCount_0f7a4 cJ6_bitCount_0f7a4 1 (some .int), Cond.constant RJ6 265 (1431655765), Cond.constant RJ6 266 (858993459), Cond.constant RJ6 267 (252645135), Cond.methodLink RX4 167 yX3_differing, Cond.methodLink RX4 111 yX1_bestColouring, Cond.instanceMethod yX1_bestColouring, Cond.selects RX1 yX1_bestColouring yX1_bestColouring, Cond.initialized RX1, Cond.code yX1_bestColouring cX1_bestColouring 1 (some .int), Cond.methodLink RX1 28 yX1_bestColouringOf, Cond.instanceMethod yX1_bestColouringOf, Cond.selects RX1 yX1_bestColouringOf yX1_bestColouringOf, Cond.code yX1_bestColouringOf cX1_bestColouringOf 6 (some .int), Cond.methodLink RX1 15 yX1_likeLines, Cond.instanceMethod yX1_likeLines, Cond.selects RX1 yX1_likeLines yX1_likeLines, Cond.code yX1_likeLines cX1_likeLines 5 (some .int), Cond.fieldLink RX1 9 "FewLooks$Net" "joins" "[I", Cond.methodLink RX1 19 yX1_alikeTo, Cond.static yX1_alikeTo, Cond.code yX1_alikeTo cX1_alikeTo 2 (some .int), Cond.methodLink RX1 22 yJ6_bitCount_0f7a4, Cond.methodLink RX4 170 yX1_likeLines]
def wsX4_is : List Cond := .code yX4_is cX4_is 2 (some .int) :: ((wsX4_is_r1 ++ (wsX4_is_r2 ++ (wsX4_is_r3 ++ (wsX4_is_r4 ++ wsX4_is_r5)))) ++ wsX40 ++ wsX00 ++ wsX20 ++ wsX30 ++ wsX10)
def wsX4_distance_r1 : List Cond := [Cond.methodLink RX4 91 yX4_isSubject, Cond.static yX4_isSubject, Cond.initialized RX4, Cond.code yX4_isSubject cX4_isSubject 1 (some .boolean), Cond.methodLink RX4 44 yX4_within, Cond.static yX4_within, Cond.code yX4_within cX4_within 3 (some .boolean), Cond.methodLink RX4 94 yX4_howFar, Cond.instanceMethod yX4_howFar, Cond.selects RX4 yX4_howFar yX4_howFar, Cond.code yX4_howFar cX4_howFar 2 (some .int), Cond.fieldLink RX4 22 "FewLooks" "mender" "LFewLooks$Mender;", Cond.fieldLink RX4 10 "FewLooks" "row" "LFewLooks$Row;", Cond.fieldLink RX4 29 "FewLooks" "table" "LFewLooks$Table;", Cond.fieldLink RX4 36 "FewLooks" "net" "LFewLooks$Net;", Cond.methodLink RX4 97 yX4_isRow, Cond.static yX4_isRow, Cond.code yX4_isRow cX4_isRow 1 (some .boolean), Cond.methodLink RX4 100 yX0_seek, Cond.instanceMethod yX0_seek, Cond.selects RX0 yX0_seek yX0_seek, Cond.initialized RX0, Cond.code yX0_seek cX0_seek 3 (some .int), Cond.fieldLink RX0 12 "FewLooks$Mender" "near" "LFewLooks$Row;"]
def wsX4_distance_r2 : List Cond := [Cond.methodLink RX0 25 yX2_become, Cond.instanceMethod yX2_become, Cond.selects RX2 yX2_become yX2_become, Cond.initialized RX2, Cond.code yX2_become cX2_become 3 none, Cond.fieldLink RX2 15 "FewLooks$Row" "size" "I", Cond.fieldLink RX2 9 "FewLooks$Row" "digits" "[I", Cond.methodLink RX0 29 yX0_raise, Cond.instanceMethod yX0_raise, Cond.selects RX0 yX0_raise yX0_raise, Cond.code yX0_raise cX0_raise 5 none, Cond.fieldLink RX0 21 "FewLooks$Mender" "costs" "[I", Cond.methodLink RX0 45 yX0_fillCosts, Cond.instanceMethod yX0_fillCosts, Cond.selects RX0 yX0_fillCosts yX0_fillCosts, Cond.code yX0_fillCosts cX0_fillCosts 5 none, Cond.methodLink RX0 59 Lib.Math.min.name, Cond.static Lib.Math.min.name, Cond.initialized "java/lang/Math", Cond.code Lib.Math.min.name Lib.Math.min.code 2 (some .int), Cond.methodLink RX0 52 yX0_costWith, Cond.instanceMethod yX0_costWith, Cond.selects RX0 yX0_costWith yX0_costWith, Cond.code yX0_costWith cX0_costWith 5 (some .int)]
def wsX4_distance_r3 : List Cond := [Cond.methodLink RX0 32 yX0_mirror, Cond.instanceMethod yX0_mirror, Cond.selects RX0 yX0_mirror yX0_mirror, Cond.code yX0_mirror cX0_mirror 3 none, Cond.methodLink RX0 35 yX0_makeEven, Cond.instanceMethod yX0_makeEven, Cond.selects RX0 yX0_makeEven yX0_makeEven, Cond.code yX0_makeEven cX0_makeEven 2 none, Cond.methodLink RX0 65 yX2_total, Cond.instanceMethod yX2_total, Cond.selects RX2 yX2_total yX2_total, Cond.code yX2_total cX2_total 3 (some .int), Cond.methodLink RX0 38 yX0_makeRound, Cond.instanceMethod yX0_makeRound, Cond.selects RX0 yX0_makeRound yX0_makeRound, Cond.code yX0_makeRound cX0_makeRound 5 none, Cond.fieldLink RX0 18 "FewLooks$Mender" "guess" "LFewLooks$Row;", Cond.methodLink RX0 69 yX0_guessPeriod, Cond.instanceMethod yX0_guessPeriod, Cond.selects RX0 yX0_guessPeriod yX0_guessPeriod, Cond.code yX0_guessPeriod cX0_guessPeriod 4 none, Cond.methodLink RX0 77 yX0_commonest, Cond.static yX0_commonest, Cond.code yX0_commonest cX0_commonest 9 (some .int)]
def wsX4_distance_r4 : List Cond := [Cond.methodLink RX0 41 yX2_differing, Cond.instanceMethod yX2_differing, Cond.selects RX2 yX2_differing yX2_differing, Cond.code yX2_differing cX2_differing 4 (some .int), Cond.methodLink RX0 73 yX2_isAheadOf, Cond.instanceMethod yX2_isAheadOf, Cond.selects RX2 yX2_isAheadOf yX2_isAheadOf, Cond.code yX2_isAheadOf cX2_isAheadOf 3 (some .boolean), Cond.methodLink RX4 107 yX3_closest, Cond.instanceMethod yX3_closest, Cond.selects RX3 yX3_closest yX3_closest, Cond.initialized RX3, Cond.code yX3_closest cX3_closest 3 (some .int), Cond.methodLink RX3 24 yX3_differing, Cond.instanceMethod yX3_differing, Cond.selects RX3 yX3_differing yX3_differing, Cond.code yX3_differing cX3_differing 2 (some .int), Cond.fieldLink RX3 9 "FewLooks$Table" "bits" "I", Cond.methodLink RX3 21 yX3_parities, Cond.static yX3_parities, Cond.code yX3_parities cX3_parities 3 (some .int), Cond.methodLink RX3 15 yJ6_bitCount_0f7a4, Cond.static yJ6_bitCount_0f7a4, Cond.initialized RJ6]
def wsX4_distance_r5 : List Cond := [Cond.code yJ6_bitCount_0f7a4 cJ6_bitCount_0f7a4 1 (some .int), Cond.constant RJ6 265 (1431655765), Cond.constant RJ6 266 (858993459), Cond.constant RJ6 267 (252645135), Cond.methodLink RX4 167 yX3_differing, Cond.methodLink RX4 111 yX1_bestColouring, Cond.instanceMethod yX1_bestColouring, Cond.selects RX1 yX1_bestColouring yX1_bestColouring, Cond.initialized RX1, Cond.code yX1_bestColouring cX1_bestColouring 1 (some .int), Cond.methodLink RX1 28 yX1_bestColouringOf, Cond.instanceMethod yX1_bestColouringOf, Cond.selects RX1 yX1_bestColouringOf yX1_bestColouringOf, Cond.code yX1_bestColouringOf cX1_bestColouringOf 6 (some .int), Cond.methodLink RX1 15 yX1_likeLines, Cond.instanceMethod yX1_likeLines, Cond.selects RX1 yX1_likeLines yX1_likeLines, Cond.code yX1_likeLines cX1_likeLines 5 (some .int), Cond.fieldLink RX1 9 "FewLooks$Net" "joins" "[I", Cond.methodLink RX1 19 yX1_alikeTo, Cond.static yX1_alikeTo, Cond.code yX1_alikeTo cX1_alikeTo 2 (some .int), Cond.methodLink RX1 22 yJ6_bitCount_0f7a4, Cond.methodLink RX4 170 yX1_likeLines]
def wsX4_distance : List Cond := .code yX4_distance cX4_distance 2 (some .int) :: ((wsX4_distance_r1 ++ (wsX4_distance_r2 ++ (wsX4_distance_r3 ++ (wsX4_distance_r4 ++ wsX4_distance_r5)))) ++ wsX40 ++ wsX00 ++ wsX20 ++ wsX30 ++ wsX10)
def wsX4_nearest_r1 : List Cond := [Cond.fieldLink RX4 22 "FewLooks" "mender" "LFewLooks$Mender;", Cond.fieldLink RX4 10 "FewLooks" "row" "LFewLooks$Row;", Cond.fieldLink RX4 29 "FewLooks" "table" "LFewLooks$Table;", Cond.fieldLink RX4 36 "FewLooks" "net" "LFewLooks$Net;", Cond.methodLink RX4 91 yX4_isSubject, Cond.static yX4_isSubject, Cond.initialized RX4, Cond.code yX4_isSubject cX4_isSubject 1 (some .boolean), Cond.methodLink RX4 44 yX4_within, Cond.static yX4_within, Cond.code yX4_within cX4_within 3 (some .boolean), Cond.methodLink RX4 97 yX4_isRow, Cond.static yX4_isRow, Cond.code yX4_isRow cX4_isRow 1 (some .boolean), Cond.methodLink RX4 55 yX4_isPlace, Cond.instanceMethod yX4_isPlace, Cond.selects RX4 yX4_isPlace yX4_isPlace, Cond.code yX4_isPlace cX4_isPlace 2 (some .boolean), Cond.methodLink RX4 100 yX0_seek, Cond.instanceMethod yX0_seek, Cond.selects RX0 yX0_seek yX0_seek, Cond.initialized RX0, Cond.code yX0_seek cX0_seek 3 (some .int), Cond.fieldLink RX0 12 "FewLooks$Mender" "near" "LFewLooks$Row;"]
def wsX4_nearest_r2 : List Cond := [Cond.methodLink RX0 25 yX2_become, Cond.instanceMethod yX2_become, Cond.selects RX2 yX2_become yX2_become, Cond.initialized RX2, Cond.code yX2_become cX2_become 3 none, Cond.fieldLink RX2 15 "FewLooks$Row" "size" "I", Cond.fieldLink RX2 9 "FewLooks$Row" "digits" "[I", Cond.methodLink RX0 29 yX0_raise, Cond.instanceMethod yX0_raise, Cond.selects RX0 yX0_raise yX0_raise, Cond.code yX0_raise cX0_raise 5 none, Cond.fieldLink RX0 21 "FewLooks$Mender" "costs" "[I", Cond.methodLink RX0 45 yX0_fillCosts, Cond.instanceMethod yX0_fillCosts, Cond.selects RX0 yX0_fillCosts yX0_fillCosts, Cond.code yX0_fillCosts cX0_fillCosts 5 none, Cond.methodLink RX0 59 Lib.Math.min.name, Cond.static Lib.Math.min.name, Cond.initialized "java/lang/Math", Cond.code Lib.Math.min.name Lib.Math.min.code 2 (some .int), Cond.methodLink RX0 52 yX0_costWith, Cond.instanceMethod yX0_costWith, Cond.selects RX0 yX0_costWith yX0_costWith, Cond.code yX0_costWith cX0_costWith 5 (some .int)]
def wsX4_nearest_r3 : List Cond := [Cond.methodLink RX0 32 yX0_mirror, Cond.instanceMethod yX0_mirror, Cond.selects RX0 yX0_mirror yX0_mirror, Cond.code yX0_mirror cX0_mirror 3 none, Cond.methodLink RX0 35 yX0_makeEven, Cond.instanceMethod yX0_makeEven, Cond.selects RX0 yX0_makeEven yX0_makeEven, Cond.code yX0_makeEven cX0_makeEven 2 none, Cond.methodLink RX0 65 yX2_total, Cond.instanceMethod yX2_total, Cond.selects RX2 yX2_total yX2_total, Cond.code yX2_total cX2_total 3 (some .int), Cond.methodLink RX0 38 yX0_makeRound, Cond.instanceMethod yX0_makeRound, Cond.selects RX0 yX0_makeRound yX0_makeRound, Cond.code yX0_makeRound cX0_makeRound 5 none, Cond.fieldLink RX0 18 "FewLooks$Mender" "guess" "LFewLooks$Row;", Cond.methodLink RX0 69 yX0_guessPeriod, Cond.instanceMethod yX0_guessPeriod, Cond.selects RX0 yX0_guessPeriod yX0_guessPeriod, Cond.code yX0_guessPeriod cX0_guessPeriod 4 none, Cond.methodLink RX0 77 yX0_commonest, Cond.static yX0_commonest, Cond.code yX0_commonest cX0_commonest 9 (some .int)]
def wsX4_nearest_r4 : List Cond := [Cond.methodLink RX0 41 yX2_differing, Cond.instanceMethod yX2_differing, Cond.selects RX2 yX2_differing yX2_differing, Cond.code yX2_differing cX2_differing 4 (some .int), Cond.methodLink RX0 73 yX2_isAheadOf, Cond.instanceMethod yX2_isAheadOf, Cond.selects RX2 yX2_isAheadOf yX2_isAheadOf, Cond.code yX2_isAheadOf cX2_isAheadOf 3 (some .boolean), Cond.methodLink RX4 107 yX3_closest, Cond.instanceMethod yX3_closest, Cond.selects RX3 yX3_closest yX3_closest, Cond.initialized RX3, Cond.code yX3_closest cX3_closest 3 (some .int), Cond.methodLink RX3 24 yX3_differing, Cond.instanceMethod yX3_differing, Cond.selects RX3 yX3_differing yX3_differing, Cond.code yX3_differing cX3_differing 2 (some .int), Cond.fieldLink RX3 9 "FewLooks$Table" "bits" "I", Cond.methodLink RX3 21 yX3_parities, Cond.static yX3_parities, Cond.code yX3_parities cX3_parities 3 (some .int), Cond.methodLink RX3 15 yJ6_bitCount_0f7a4, Cond.static yJ6_bitCount_0f7a4, Cond.initialized RJ6]
def wsX4_nearest_r5 : List Cond := [Cond.code yJ6_bitCount_0f7a4 cJ6_bitCount_0f7a4 1 (some .int), Cond.constant RJ6 265 (1431655765), Cond.constant RJ6 266 (858993459), Cond.constant RJ6 267 (252645135), Cond.methodLink RX4 111 yX1_bestColouring, Cond.instanceMethod yX1_bestColouring, Cond.selects RX1 yX1_bestColouring yX1_bestColouring, Cond.initialized RX1, Cond.code yX1_bestColouring cX1_bestColouring 1 (some .int), Cond.methodLink RX1 28 yX1_bestColouringOf, Cond.instanceMethod yX1_bestColouringOf, Cond.selects RX1 yX1_bestColouringOf yX1_bestColouringOf, Cond.code yX1_bestColouringOf cX1_bestColouringOf 6 (some .int), Cond.methodLink RX1 15 yX1_likeLines, Cond.instanceMethod yX1_likeLines, Cond.selects RX1 yX1_likeLines yX1_likeLines, Cond.code yX1_likeLines cX1_likeLines 5 (some .int), Cond.fieldLink RX1 9 "FewLooks$Net" "joins" "[I", Cond.methodLink RX1 19 yX1_alikeTo, Cond.static yX1_alikeTo, Cond.code yX1_alikeTo cX1_alikeTo 2 (some .int), Cond.methodLink RX1 22 yJ6_bitCount_0f7a4]
def wsX4_nearest : List Cond := .code yX4_nearest cX4_nearest 3 (some .int) :: ((wsX4_nearest_r1 ++ (wsX4_nearest_r2 ++ (wsX4_nearest_r3 ++ (wsX4_nearest_r4 ++ wsX4_nearest_r5)))) ++ wsX40 ++ wsX00 ++ wsX20 ++ wsX30 ++ wsX10)
def wsX4_mend_r1 : List Cond := [Cond.fieldLink RX4 10 "FewLooks" "row" "LFewLooks$Row;", Cond.fieldLink RX4 22 "FewLooks" "mender" "LFewLooks$Mender;", Cond.fieldLink RX4 29 "FewLooks" "table" "LFewLooks$Table;", Cond.fieldLink RX4 36 "FewLooks" "net" "LFewLooks$Net;", Cond.methodLink RX4 91 yX4_isSubject, Cond.static yX4_isSubject, Cond.initialized RX4, Cond.code yX4_isSubject cX4_isSubject 1 (some .boolean), Cond.methodLink RX4 44 yX4_within, Cond.static yX4_within, Cond.code yX4_within cX4_within 3 (some .boolean), Cond.methodLink RX4 94 yX4_howFar, Cond.instanceMethod yX4_howFar, Cond.selects RX4 yX4_howFar yX4_howFar, Cond.code yX4_howFar cX4_howFar 2 (some .int), Cond.methodLink RX4 97 yX4_isRow, Cond.static yX4_isRow, Cond.code yX4_isRow cX4_isRow 1 (some .boolean), Cond.methodLink RX4 100 yX0_seek, Cond.instanceMethod yX0_seek, Cond.selects RX0 yX0_seek yX0_seek, Cond.initialized RX0, Cond.code yX0_seek cX0_seek 3 (some .int), Cond.fieldLink RX0 12 "FewLooks$Mender" "near" "LFewLooks$Row;"]
def wsX4_mend_r2 : List Cond := [Cond.methodLink RX0 25 yX2_become, Cond.instanceMethod yX2_become, Cond.selects RX2 yX2_become yX2_become, Cond.initialized RX2, Cond.code yX2_become cX2_become 3 none, Cond.fieldLink RX2 15 "FewLooks$Row" "size" "I", Cond.fieldLink RX2 9 "FewLooks$Row" "digits" "[I", Cond.methodLink RX0 29 yX0_raise, Cond.instanceMethod yX0_raise, Cond.selects RX0 yX0_raise yX0_raise, Cond.code yX0_raise cX0_raise 5 none, Cond.fieldLink RX0 21 "FewLooks$Mender" "costs" "[I", Cond.methodLink RX0 45 yX0_fillCosts, Cond.instanceMethod yX0_fillCosts, Cond.selects RX0 yX0_fillCosts yX0_fillCosts, Cond.code yX0_fillCosts cX0_fillCosts 5 none, Cond.methodLink RX0 59 Lib.Math.min.name, Cond.static Lib.Math.min.name, Cond.initialized "java/lang/Math", Cond.code Lib.Math.min.name Lib.Math.min.code 2 (some .int), Cond.methodLink RX0 52 yX0_costWith, Cond.instanceMethod yX0_costWith, Cond.selects RX0 yX0_costWith yX0_costWith, Cond.code yX0_costWith cX0_costWith 5 (some .int)]
def wsX4_mend_r3 : List Cond := [Cond.methodLink RX0 32 yX0_mirror, Cond.instanceMethod yX0_mirror, Cond.selects RX0 yX0_mirror yX0_mirror, Cond.code yX0_mirror cX0_mirror 3 none, Cond.methodLink RX0 35 yX0_makeEven, Cond.instanceMethod yX0_makeEven, Cond.selects RX0 yX0_makeEven yX0_makeEven, Cond.code yX0_makeEven cX0_makeEven 2 none, Cond.methodLink RX0 65 yX2_total, Cond.instanceMethod yX2_total, Cond.selects RX2 yX2_total yX2_total, Cond.code yX2_total cX2_total 3 (some .int), Cond.methodLink RX0 38 yX0_makeRound, Cond.instanceMethod yX0_makeRound, Cond.selects RX0 yX0_makeRound yX0_makeRound, Cond.code yX0_makeRound cX0_makeRound 5 none, Cond.fieldLink RX0 18 "FewLooks$Mender" "guess" "LFewLooks$Row;", Cond.methodLink RX0 69 yX0_guessPeriod, Cond.instanceMethod yX0_guessPeriod, Cond.selects RX0 yX0_guessPeriod yX0_guessPeriod, Cond.code yX0_guessPeriod cX0_guessPeriod 4 none, Cond.methodLink RX0 77 yX0_commonest, Cond.static yX0_commonest, Cond.code yX0_commonest cX0_commonest 9 (some .int)]
def wsX4_mend_r4 : List Cond := [Cond.methodLink RX0 41 yX2_differing, Cond.instanceMethod yX2_differing, Cond.selects RX2 yX2_differing yX2_differing, Cond.code yX2_differing cX2_differing 4 (some .int), Cond.methodLink RX0 73 yX2_isAheadOf, Cond.instanceMethod yX2_isAheadOf, Cond.selects RX2 yX2_isAheadOf yX2_isAheadOf, Cond.code yX2_isAheadOf cX2_isAheadOf 3 (some .boolean), Cond.methodLink RX4 107 yX3_closest, Cond.instanceMethod yX3_closest, Cond.selects RX3 yX3_closest yX3_closest, Cond.initialized RX3, Cond.code yX3_closest cX3_closest 3 (some .int), Cond.methodLink RX3 24 yX3_differing, Cond.instanceMethod yX3_differing, Cond.selects RX3 yX3_differing yX3_differing, Cond.code yX3_differing cX3_differing 2 (some .int), Cond.fieldLink RX3 9 "FewLooks$Table" "bits" "I", Cond.methodLink RX3 21 yX3_parities, Cond.static yX3_parities, Cond.code yX3_parities cX3_parities 3 (some .int), Cond.methodLink RX3 15 yJ6_bitCount_0f7a4, Cond.static yJ6_bitCount_0f7a4, Cond.initialized RJ6]
def wsX4_mend_r5 : List Cond := [Cond.code yJ6_bitCount_0f7a4 cJ6_bitCount_0f7a4 1 (some .int), Cond.constant RJ6 265 (1431655765), Cond.constant RJ6 266 (858993459), Cond.constant RJ6 267 (252645135), Cond.methodLink RX4 167 yX3_differing, Cond.methodLink RX4 111 yX1_bestColouring, Cond.instanceMethod yX1_bestColouring, Cond.selects RX1 yX1_bestColouring yX1_bestColouring, Cond.initialized RX1, Cond.code yX1_bestColouring cX1_bestColouring 1 (some .int), Cond.methodLink RX1 28 yX1_bestColouringOf, Cond.instanceMethod yX1_bestColouringOf, Cond.selects RX1 yX1_bestColouringOf yX1_bestColouringOf, Cond.code yX1_bestColouringOf cX1_bestColouringOf 6 (some .int), Cond.methodLink RX1 15 yX1_likeLines, Cond.instanceMethod yX1_likeLines, Cond.selects RX1 yX1_likeLines yX1_likeLines, Cond.code yX1_likeLines cX1_likeLines 5 (some .int), Cond.fieldLink RX1 9 "FewLooks$Net" "joins" "[I", Cond.methodLink RX1 19 yX1_alikeTo, Cond.static yX1_alikeTo, Cond.code yX1_alikeTo cX1_alikeTo 2 (some .int), Cond.methodLink RX1 22 yJ6_bitCount_0f7a4, Cond.methodLink RX4 170 yX1_likeLines]
def wsX4_mend_r6 : List Cond := [Cond.methodLink RX4 114 yX2_become, Cond.methodLink RX4 74 yX3_parities, Cond.methodLink RX4 118 yX1_cutLikeLines, Cond.instanceMethod yX1_cutLikeLines, Cond.selects RX1 yX1_cutLikeLines yX1_cutLikeLines, Cond.code yX1_cutLikeLines cX1_cutLikeLines 3 none]
def wsX4_mend : List Cond := .code yX4_mend cX4_mend 3 (some .int) :: ((wsX4_mend_r1 ++ (wsX4_mend_r2 ++ (wsX4_mend_r3 ++ (wsX4_mend_r4 ++ (wsX4_mend_r5 ++ wsX4_mend_r6))))) ++ wsX40 ++ wsX00 ++ wsX30 ++ wsX20 ++ wsX10)
def wsX4_passing_r1 : List Cond := [Cond.fieldLink RX4 10 "FewLooks" "row" "LFewLooks$Row;", Cond.fieldLink RX4 29 "FewLooks" "table" "LFewLooks$Table;", Cond.fieldLink RX4 36 "FewLooks" "net" "LFewLooks$Net;", Cond.fieldLink RX4 40 "FewLooks" "drawn" "I", Cond.methodLink RX4 97 yX4_isRow, Cond.static yX4_isRow, Cond.initialized RX4, Cond.code yX4_isRow cX4_isRow 1 (some .boolean), Cond.methodLink RX4 44 yX4_within, Cond.static yX4_within, Cond.code yX4_within cX4_within 3 (some .boolean), Cond.methodLink RX4 139 yX2_passing, Cond.instanceMethod yX2_passing, Cond.selects RX2 yX2_passing yX2_passing, Cond.initialized RX2, Cond.code yX2_passing cX2_passing 2 (some .int), Cond.methodLink RX2 19 yX2_risingPairs, Cond.instanceMethod yX2_risingPairs, Cond.selects RX2 yX2_risingPairs yX2_risingPairs, Cond.code yX2_risingPairs cX2_risingPairs 4 (some .int), Cond.fieldLink RX2 15 "FewLooks$Row" "size" "I", Cond.fieldLink RX2 9 "FewLooks$Row" "digits" "[I", Cond.methodLink RX2 23 yX2_mirroredPlaces, Cond.instanceMethod yX2_mirroredPlaces]
def wsX4_passing_r2 : List Cond := [Cond.selects RX2 yX2_mirroredPlaces yX2_mirroredPlaces, Cond.code yX2_mirroredPlaces cX2_mirroredPlaces 3 (some .int), Cond.methodLink RX2 26 yX2_total, Cond.instanceMethod yX2_total, Cond.selects RX2 yX2_total yX2_total, Cond.code yX2_total cX2_total 3 (some .int), Cond.methodLink RX2 29 yX2_alikeShifts, Cond.instanceMethod yX2_alikeShifts, Cond.selects RX2 yX2_alikeShifts yX2_alikeShifts, Cond.code yX2_alikeShifts cX2_alikeShifts 4 (some .int), Cond.methodLink RX4 173 yX3_passing, Cond.instanceMethod yX3_passing, Cond.selects RX3 yX3_passing yX3_passing, Cond.initialized RX3, Cond.code yX3_passing cX3_passing 4 (some .int), Cond.methodLink RX3 30 yX3_agrees, Cond.instanceMethod yX3_agrees, Cond.selects RX3 yX3_agrees yX3_agrees, Cond.code yX3_agrees cX3_agrees 3 (some .boolean), Cond.methodLink RX3 27 yX3_at, Cond.instanceMethod yX3_at, Cond.selects RX3 yX3_at yX3_at, Cond.code yX3_at cX3_at 2 (some .int), Cond.fieldLink RX3 9 "FewLooks$Table" "bits" "I"]
def wsX4_passing_r3 : List Cond := [Cond.methodLink RX4 175 yX1_passing, Cond.instanceMethod yX1_passing, Cond.selects RX1 yX1_passing yX1_passing, Cond.initialized RX1, Cond.code yX1_passing cX1_passing 4 (some .int), Cond.methodLink RX1 22 yJ6_bitCount_0f7a4, Cond.static yJ6_bitCount_0f7a4, Cond.initialized RJ6, Cond.code yJ6_bitCount_0f7a4 cJ6_bitCount_0f7a4 1 (some .int), Cond.constant RJ6 265 (1431655765), Cond.constant RJ6 266 (858993459), Cond.constant RJ6 267 (252645135), Cond.methodLink RX1 31 yX1_twoColoured, Cond.instanceMethod yX1_twoColoured, Cond.selects RX1 yX1_twoColoured yX1_twoColoured, Cond.code yX1_twoColoured cX1_twoColoured 2 (some .boolean), Cond.methodLink RX1 28 yX1_bestColouringOf, Cond.instanceMethod yX1_bestColouringOf, Cond.selects RX1 yX1_bestColouringOf yX1_bestColouringOf, Cond.code yX1_bestColouringOf cX1_bestColouringOf 6 (some .int), Cond.methodLink RX1 15 yX1_likeLines, Cond.instanceMethod yX1_likeLines, Cond.selects RX1 yX1_likeLines yX1_likeLines, Cond.code yX1_likeLines cX1_likeLines 5 (some .int)]
def wsX4_passing_r4 : List Cond := [Cond.fieldLink RX1 9 "FewLooks$Net" "joins" "[I", Cond.methodLink RX1 19 yX1_alikeTo, Cond.static yX1_alikeTo, Cond.code yX1_alikeTo cX1_alikeTo 2 (some .int)]
def wsX4_passing : List Cond := .code yX4_passing cX4_passing 2 (some .int) :: ((wsX4_passing_r1 ++ (wsX4_passing_r2 ++ (wsX4_passing_r3 ++ wsX4_passing_r4))) ++ wsX40 ++ wsX20 ++ wsX30 ++ wsX10)
def wsX4_looks_r1 : List Cond := [Cond.fieldLink RX4 10 "FewLooks" "row" "LFewLooks$Row;", Cond.fieldLink RX4 40 "FewLooks" "drawn" "I", Cond.methodLink RX4 97 yX4_isRow, Cond.static yX4_isRow, Cond.initialized RX4, Cond.code yX4_isRow cX4_isRow 1 (some .boolean), Cond.methodLink RX4 44 yX4_within, Cond.static yX4_within, Cond.code yX4_within cX4_within 3 (some .boolean), Cond.methodLink RX4 140 yX2_looks, Cond.instanceMethod yX2_looks, Cond.selects RX2 yX2_looks yX2_looks, Cond.initialized RX2, Cond.code yX2_looks cX2_looks 2 (some .int), Cond.fieldLink RX2 15 "FewLooks$Row" "size" "I", Cond.methodLink RX4 176 yX1_sets, Cond.static yX1_sets, Cond.initialized RX1, Cond.code yX1_sets cX1_sets 3 (some .int), Cond.methodLink RX1 22 yJ6_bitCount_0f7a4, Cond.static yJ6_bitCount_0f7a4, Cond.initialized RJ6, Cond.code yJ6_bitCount_0f7a4 cJ6_bitCount_0f7a4 1 (some .int), Cond.constant RJ6 265 (1431655765)]
def wsX4_looks_r2 : List Cond := [Cond.constant RJ6 266 (858993459), Cond.constant RJ6 267 (252645135)]
def wsX4_looks : List Cond := .code yX4_looks cX4_looks 2 (some .int) :: ((wsX4_looks_r1 ++ wsX4_looks_r2) ++ wsX40 ++ wsX20)
def wsX4_lowestTerm : List Cond := .code yX4_lowestTerm cX4_lowestTerm 5 (some .int) :: ([])
def wsX4_pass_r1 : List Cond := [Cond.constantLong RX4 121 (-2), Cond.methodLink RX4 91 yX4_isSubject, Cond.static yX4_isSubject, Cond.initialized RX4, Cond.code yX4_isSubject cX4_isSubject 1 (some .boolean), Cond.methodLink RX4 44 yX4_within, Cond.static yX4_within, Cond.code yX4_within cX4_within 3 (some .boolean), Cond.methodLink RX4 123 yX4_passing, Cond.instanceMethod yX4_passing, Cond.selects RX4 yX4_passing yX4_passing, Cond.code yX4_passing cX4_passing 2 (some .int), Cond.fieldLink RX4 10 "FewLooks" "row" "LFewLooks$Row;", Cond.fieldLink RX4 29 "FewLooks" "table" "LFewLooks$Table;", Cond.fieldLink RX4 36 "FewLooks" "net" "LFewLooks$Net;", Cond.fieldLink RX4 40 "FewLooks" "drawn" "I", Cond.methodLink RX4 97 yX4_isRow, Cond.static yX4_isRow, Cond.code yX4_isRow cX4_isRow 1 (some .boolean), Cond.methodLink RX4 139 yX2_passing, Cond.instanceMethod yX2_passing, Cond.selects RX2 yX2_passing yX2_passing, Cond.initialized RX2, Cond.code yX2_passing cX2_passing 2 (some .int)]
def wsX4_pass_r2 : List Cond := [Cond.methodLink RX2 19 yX2_risingPairs, Cond.instanceMethod yX2_risingPairs, Cond.selects RX2 yX2_risingPairs yX2_risingPairs, Cond.code yX2_risingPairs cX2_risingPairs 4 (some .int), Cond.fieldLink RX2 15 "FewLooks$Row" "size" "I", Cond.fieldLink RX2 9 "FewLooks$Row" "digits" "[I", Cond.methodLink RX2 23 yX2_mirroredPlaces, Cond.instanceMethod yX2_mirroredPlaces, Cond.selects RX2 yX2_mirroredPlaces yX2_mirroredPlaces, Cond.code yX2_mirroredPlaces cX2_mirroredPlaces 3 (some .int), Cond.methodLink RX2 26 yX2_total, Cond.instanceMethod yX2_total, Cond.selects RX2 yX2_total yX2_total, Cond.code yX2_total cX2_total 3 (some .int), Cond.methodLink RX2 29 yX2_alikeShifts, Cond.instanceMethod yX2_alikeShifts, Cond.selects RX2 yX2_alikeShifts yX2_alikeShifts, Cond.code yX2_alikeShifts cX2_alikeShifts 4 (some .int), Cond.methodLink RX4 173 yX3_passing, Cond.instanceMethod yX3_passing, Cond.selects RX3 yX3_passing yX3_passing, Cond.initialized RX3, Cond.code yX3_passing cX3_passing 4 (some .int), Cond.methodLink RX3 30 yX3_agrees]
def wsX4_pass_r3 : List Cond := [Cond.instanceMethod yX3_agrees, Cond.selects RX3 yX3_agrees yX3_agrees, Cond.code yX3_agrees cX3_agrees 3 (some .boolean), Cond.methodLink RX3 27 yX3_at, Cond.instanceMethod yX3_at, Cond.selects RX3 yX3_at yX3_at, Cond.code yX3_at cX3_at 2 (some .int), Cond.fieldLink RX3 9 "FewLooks$Table" "bits" "I", Cond.methodLink RX4 175 yX1_passing, Cond.instanceMethod yX1_passing, Cond.selects RX1 yX1_passing yX1_passing, Cond.initialized RX1, Cond.code yX1_passing cX1_passing 4 (some .int), Cond.methodLink RX1 22 yJ6_bitCount_0f7a4, Cond.static yJ6_bitCount_0f7a4, Cond.initialized RJ6, Cond.code yJ6_bitCount_0f7a4 cJ6_bitCount_0f7a4 1 (some .int), Cond.constant RJ6 265 (1431655765), Cond.constant RJ6 266 (858993459), Cond.constant RJ6 267 (252645135), Cond.methodLink RX1 31 yX1_twoColoured, Cond.instanceMethod yX1_twoColoured, Cond.selects RX1 yX1_twoColoured yX1_twoColoured, Cond.code yX1_twoColoured cX1_twoColoured 2 (some .boolean)]
def wsX4_pass_r4 : List Cond := [Cond.methodLink RX1 28 yX1_bestColouringOf, Cond.instanceMethod yX1_bestColouringOf, Cond.selects RX1 yX1_bestColouringOf yX1_bestColouringOf, Cond.code yX1_bestColouringOf cX1_bestColouringOf 6 (some .int), Cond.methodLink RX1 15 yX1_likeLines, Cond.instanceMethod yX1_likeLines, Cond.selects RX1 yX1_likeLines yX1_likeLines, Cond.code yX1_likeLines cX1_likeLines 5 (some .int), Cond.fieldLink RX1 9 "FewLooks$Net" "joins" "[I", Cond.methodLink RX1 19 yX1_alikeTo, Cond.static yX1_alikeTo, Cond.code yX1_alikeTo cX1_alikeTo 2 (some .int), Cond.methodLink RX4 126 yX4_looks, Cond.instanceMethod yX4_looks, Cond.selects RX4 yX4_looks yX4_looks, Cond.code yX4_looks cX4_looks 2 (some .int), Cond.methodLink RX4 140 yX2_looks, Cond.instanceMethod yX2_looks, Cond.selects RX2 yX2_looks yX2_looks, Cond.code yX2_looks cX2_looks 2 (some .int), Cond.methodLink RX4 176 yX1_sets, Cond.static yX1_sets, Cond.code yX1_sets cX1_sets 3 (some .int), Cond.methodLink RX4 129 yX4_lowestTerm]
def wsX4_pass_r5 : List Cond := [Cond.static yX4_lowestTerm, Cond.code yX4_lowestTerm cX4_lowestTerm 5 (some .int)]
def wsX4_pass : List Cond := .code yX4_pass cX4_pass 3 (some .long) :: ((wsX4_pass_r1 ++ (wsX4_pass_r2 ++ (wsX4_pass_r3 ++ (wsX4_pass_r4 ++ wsX4_pass_r5)))) ++ wsX40 ++ wsX20 ++ wsX30 ++ wsX10)
def wsX4_repeats_r1 : List Cond := [Cond.methodLink RX4 91 yX4_isSubject, Cond.static yX4_isSubject, Cond.initialized RX4, Cond.code yX4_isSubject cX4_isSubject 1 (some .boolean), Cond.methodLink RX4 44 yX4_within, Cond.static yX4_within, Cond.code yX4_within cX4_within 3 (some .boolean), Cond.methodLink RX4 123 yX4_passing, Cond.instanceMethod yX4_passing, Cond.selects RX4 yX4_passing yX4_passing, Cond.code yX4_passing cX4_passing 2 (some .int), Cond.fieldLink RX4 10 "FewLooks" "row" "LFewLooks$Row;", Cond.fieldLink RX4 29 "FewLooks" "table" "LFewLooks$Table;", Cond.fieldLink RX4 36 "FewLooks" "net" "LFewLooks$Net;", Cond.fieldLink RX4 40 "FewLooks" "drawn" "I", Cond.methodLink RX4 97 yX4_isRow, Cond.static yX4_isRow, Cond.code yX4_isRow cX4_isRow 1 (some .boolean), Cond.methodLink RX4 139 yX2_passing, Cond.instanceMethod yX2_passing, Cond.selects RX2 yX2_passing yX2_passing, Cond.initialized RX2, Cond.code yX2_passing cX2_passing 2 (some .int), Cond.methodLink RX2 19 yX2_risingPairs]
def wsX4_repeats_r2 : List Cond := [Cond.instanceMethod yX2_risingPairs, Cond.selects RX2 yX2_risingPairs yX2_risingPairs, Cond.code yX2_risingPairs cX2_risingPairs 4 (some .int), Cond.fieldLink RX2 15 "FewLooks$Row" "size" "I", Cond.fieldLink RX2 9 "FewLooks$Row" "digits" "[I", Cond.methodLink RX2 23 yX2_mirroredPlaces, Cond.instanceMethod yX2_mirroredPlaces, Cond.selects RX2 yX2_mirroredPlaces yX2_mirroredPlaces, Cond.code yX2_mirroredPlaces cX2_mirroredPlaces 3 (some .int), Cond.methodLink RX2 26 yX2_total, Cond.instanceMethod yX2_total, Cond.selects RX2 yX2_total yX2_total, Cond.code yX2_total cX2_total 3 (some .int), Cond.methodLink RX2 29 yX2_alikeShifts, Cond.instanceMethod yX2_alikeShifts, Cond.selects RX2 yX2_alikeShifts yX2_alikeShifts, Cond.code yX2_alikeShifts cX2_alikeShifts 4 (some .int), Cond.methodLink RX4 173 yX3_passing, Cond.instanceMethod yX3_passing, Cond.selects RX3 yX3_passing yX3_passing, Cond.initialized RX3, Cond.code yX3_passing cX3_passing 4 (some .int), Cond.methodLink RX3 30 yX3_agrees, Cond.instanceMethod yX3_agrees]
def wsX4_repeats_r3 : List Cond := [Cond.selects RX3 yX3_agrees yX3_agrees, Cond.code yX3_agrees cX3_agrees 3 (some .boolean), Cond.methodLink RX3 27 yX3_at, Cond.instanceMethod yX3_at, Cond.selects RX3 yX3_at yX3_at, Cond.code yX3_at cX3_at 2 (some .int), Cond.fieldLink RX3 9 "FewLooks$Table" "bits" "I", Cond.methodLink RX4 175 yX1_passing, Cond.instanceMethod yX1_passing, Cond.selects RX1 yX1_passing yX1_passing, Cond.initialized RX1, Cond.code yX1_passing cX1_passing 4 (some .int), Cond.methodLink RX1 22 yJ6_bitCount_0f7a4, Cond.static yJ6_bitCount_0f7a4, Cond.initialized RJ6, Cond.code yJ6_bitCount_0f7a4 cJ6_bitCount_0f7a4 1 (some .int), Cond.constant RJ6 265 (1431655765), Cond.constant RJ6 266 (858993459), Cond.constant RJ6 267 (252645135), Cond.methodLink RX1 31 yX1_twoColoured, Cond.instanceMethod yX1_twoColoured, Cond.selects RX1 yX1_twoColoured yX1_twoColoured, Cond.code yX1_twoColoured cX1_twoColoured 2 (some .boolean), Cond.methodLink RX1 28 yX1_bestColouringOf]
def wsX4_repeats_r4 : List Cond := [Cond.instanceMethod yX1_bestColouringOf, Cond.selects RX1 yX1_bestColouringOf yX1_bestColouringOf, Cond.code yX1_bestColouringOf cX1_bestColouringOf 6 (some .int), Cond.methodLink RX1 15 yX1_likeLines, Cond.instanceMethod yX1_likeLines, Cond.selects RX1 yX1_likeLines yX1_likeLines, Cond.code yX1_likeLines cX1_likeLines 5 (some .int), Cond.fieldLink RX1 9 "FewLooks$Net" "joins" "[I", Cond.methodLink RX1 19 yX1_alikeTo, Cond.static yX1_alikeTo, Cond.code yX1_alikeTo cX1_alikeTo 2 (some .int), Cond.methodLink RX4 126 yX4_looks, Cond.instanceMethod yX4_looks, Cond.selects RX4 yX4_looks yX4_looks, Cond.code yX4_looks cX4_looks 2 (some .int), Cond.methodLink RX4 140 yX2_looks, Cond.instanceMethod yX2_looks, Cond.selects RX2 yX2_looks yX2_looks, Cond.code yX2_looks cX2_looks 2 (some .int), Cond.methodLink RX4 176 yX1_sets, Cond.static yX1_sets, Cond.code yX1_sets cX1_sets 3 (some .int)]
def wsX4_repeats : List Cond := .code yX4_repeats cX4_repeats 13 (some .int) :: ((wsX4_repeats_r1 ++ (wsX4_repeats_r2 ++ (wsX4_repeats_r3 ++ wsX4_repeats_r4))) ++ wsX40 ++ wsX20 ++ wsX30 ++ wsX10)
def wsX4_worstCode_r1 : List Cond := [Cond.fieldLink RX4 10 "FewLooks" "row" "LFewLooks$Row;", Cond.fieldLink RX4 16 "FewLooks" "trial" "LFewLooks$Row;", Cond.fieldLink RX4 22 "FewLooks" "mender" "LFewLooks$Mender;", Cond.methodLink RX4 136 yX2_spell, Cond.instanceMethod yX2_spell, Cond.selects RX2 yX2_spell yX2_spell, Cond.initialized RX2, Cond.code yX2_spell cX2_spell 4 none, Cond.fieldLink RX2 15 "FewLooks$Row" "size" "I", Cond.fieldLink RX2 9 "FewLooks$Row" "digits" "[I", Cond.methodLink RX4 139 yX2_passing, Cond.instanceMethod yX2_passing, Cond.selects RX2 yX2_passing yX2_passing, Cond.code yX2_passing cX2_passing 2 (some .int), Cond.methodLink RX2 19 yX2_risingPairs, Cond.instanceMethod yX2_risingPairs, Cond.selects RX2 yX2_risingPairs yX2_risingPairs, Cond.code yX2_risingPairs cX2_risingPairs 4 (some .int), Cond.methodLink RX2 23 yX2_mirroredPlaces, Cond.instanceMethod yX2_mirroredPlaces, Cond.selects RX2 yX2_mirroredPlaces yX2_mirroredPlaces, Cond.code yX2_mirroredPlaces cX2_mirroredPlaces 3 (some .int), Cond.methodLink RX2 26 yX2_total, Cond.instanceMethod yX2_total]
def wsX4_worstCode_r2 : List Cond := [Cond.selects RX2 yX2_total yX2_total, Cond.code yX2_total cX2_total 3 (some .int), Cond.methodLink RX2 29 yX2_alikeShifts, Cond.instanceMethod yX2_alikeShifts, Cond.selects RX2 yX2_alikeShifts yX2_alikeShifts, Cond.code yX2_alikeShifts cX2_alikeShifts 4 (some .int), Cond.methodLink RX4 100 yX0_seek, Cond.instanceMethod yX0_seek, Cond.selects RX0 yX0_seek yX0_seek, Cond.initialized RX0, Cond.code yX0_seek cX0_seek 3 (some .int), Cond.fieldLink RX0 12 "FewLooks$Mender" "near" "LFewLooks$Row;", Cond.methodLink RX0 25 yX2_become, Cond.instanceMethod yX2_become, Cond.selects RX2 yX2_become yX2_become, Cond.code yX2_become cX2_become 3 none, Cond.methodLink RX0 29 yX0_raise, Cond.instanceMethod yX0_raise, Cond.selects RX0 yX0_raise yX0_raise, Cond.code yX0_raise cX0_raise 5 none, Cond.fieldLink RX0 21 "FewLooks$Mender" "costs" "[I", Cond.methodLink RX0 45 yX0_fillCosts, Cond.instanceMethod yX0_fillCosts, Cond.selects RX0 yX0_fillCosts yX0_fillCosts]
def wsX4_worstCode_r3 : List Cond := [Cond.code yX0_fillCosts cX0_fillCosts 5 none, Cond.methodLink RX0 59 Lib.Math.min.name, Cond.static Lib.Math.min.name, Cond.initialized "java/lang/Math", Cond.code Lib.Math.min.name Lib.Math.min.code 2 (some .int), Cond.methodLink RX0 52 yX0_costWith, Cond.instanceMethod yX0_costWith, Cond.selects RX0 yX0_costWith yX0_costWith, Cond.code yX0_costWith cX0_costWith 5 (some .int), Cond.methodLink RX0 32 yX0_mirror, Cond.instanceMethod yX0_mirror, Cond.selects RX0 yX0_mirror yX0_mirror, Cond.code yX0_mirror cX0_mirror 3 none, Cond.methodLink RX0 35 yX0_makeEven, Cond.instanceMethod yX0_makeEven, Cond.selects RX0 yX0_makeEven yX0_makeEven, Cond.code yX0_makeEven cX0_makeEven 2 none, Cond.methodLink RX0 65 yX2_total, Cond.methodLink RX0 38 yX0_makeRound, Cond.instanceMethod yX0_makeRound, Cond.selects RX0 yX0_makeRound yX0_makeRound, Cond.code yX0_makeRound cX0_makeRound 5 none, Cond.fieldLink RX0 18 "FewLooks$Mender" "guess" "LFewLooks$Row;", Cond.methodLink RX0 69 yX0_guessPeriod]
def wsX4_worstCode_r4 : List Cond := [Cond.instanceMethod yX0_guessPeriod, Cond.selects RX0 yX0_guessPeriod yX0_guessPeriod, Cond.code yX0_guessPeriod cX0_guessPeriod 4 none, Cond.methodLink RX0 77 yX0_commonest, Cond.static yX0_commonest, Cond.code yX0_commonest cX0_commonest 9 (some .int), Cond.methodLink RX0 41 yX2_differing, Cond.instanceMethod yX2_differing, Cond.selects RX2 yX2_differing yX2_differing, Cond.code yX2_differing cX2_differing 4 (some .int), Cond.methodLink RX0 73 yX2_isAheadOf, Cond.instanceMethod yX2_isAheadOf, Cond.selects RX2 yX2_isAheadOf yX2_isAheadOf, Cond.code yX2_isAheadOf cX2_isAheadOf 3 (some .boolean)]
def wsX4_worstCode : List Cond := .code yX4_worstCode cX4_worstCode 7 (some .int) :: ((wsX4_worstCode_r1 ++ (wsX4_worstCode_r2 ++ (wsX4_worstCode_r3 ++ wsX4_worstCode_r4))) ++ wsX40 ++ wsX20 ++ wsX00)
def wsX4_worst_r1 : List Cond := [Cond.fieldLink RX4 10 "FewLooks" "row" "LFewLooks$Row;", Cond.fieldLink RX4 16 "FewLooks" "trial" "LFewLooks$Row;", Cond.methodLink RX4 97 yX4_isRow, Cond.static yX4_isRow, Cond.initialized RX4, Cond.code yX4_isRow cX4_isRow 1 (some .boolean), Cond.methodLink RX4 44 yX4_within, Cond.static yX4_within, Cond.code yX4_within cX4_within 3 (some .boolean), Cond.methodLink RX4 133 yX4_worstCode, Cond.instanceMethod yX4_worstCode, Cond.selects RX4 yX4_worstCode yX4_worstCode, Cond.code yX4_worstCode cX4_worstCode 7 (some .int), Cond.fieldLink RX4 22 "FewLooks" "mender" "LFewLooks$Mender;", Cond.methodLink RX4 136 yX2_spell, Cond.instanceMethod yX2_spell, Cond.selects RX2 yX2_spell yX2_spell, Cond.initialized RX2, Cond.code yX2_spell cX2_spell 4 none, Cond.fieldLink RX2 15 "FewLooks$Row" "size" "I", Cond.fieldLink RX2 9 "FewLooks$Row" "digits" "[I", Cond.methodLink RX4 139 yX2_passing, Cond.instanceMethod yX2_passing, Cond.selects RX2 yX2_passing yX2_passing]
def wsX4_worst_r2 : List Cond := [Cond.code yX2_passing cX2_passing 2 (some .int), Cond.methodLink RX2 19 yX2_risingPairs, Cond.instanceMethod yX2_risingPairs, Cond.selects RX2 yX2_risingPairs yX2_risingPairs, Cond.code yX2_risingPairs cX2_risingPairs 4 (some .int), Cond.methodLink RX2 23 yX2_mirroredPlaces, Cond.instanceMethod yX2_mirroredPlaces, Cond.selects RX2 yX2_mirroredPlaces yX2_mirroredPlaces, Cond.code yX2_mirroredPlaces cX2_mirroredPlaces 3 (some .int), Cond.methodLink RX2 26 yX2_total, Cond.instanceMethod yX2_total, Cond.selects RX2 yX2_total yX2_total, Cond.code yX2_total cX2_total 3 (some .int), Cond.methodLink RX2 29 yX2_alikeShifts, Cond.instanceMethod yX2_alikeShifts, Cond.selects RX2 yX2_alikeShifts yX2_alikeShifts, Cond.code yX2_alikeShifts cX2_alikeShifts 4 (some .int), Cond.methodLink RX4 100 yX0_seek, Cond.instanceMethod yX0_seek, Cond.selects RX0 yX0_seek yX0_seek, Cond.initialized RX0, Cond.code yX0_seek cX0_seek 3 (some .int), Cond.fieldLink RX0 12 "FewLooks$Mender" "near" "LFewLooks$Row;", Cond.methodLink RX0 25 yX2_become]
def wsX4_worst_r3 : List Cond := [Cond.instanceMethod yX2_become, Cond.selects RX2 yX2_become yX2_become, Cond.code yX2_become cX2_become 3 none, Cond.methodLink RX0 29 yX0_raise, Cond.instanceMethod yX0_raise, Cond.selects RX0 yX0_raise yX0_raise, Cond.code yX0_raise cX0_raise 5 none, Cond.fieldLink RX0 21 "FewLooks$Mender" "costs" "[I", Cond.methodLink RX0 45 yX0_fillCosts, Cond.instanceMethod yX0_fillCosts, Cond.selects RX0 yX0_fillCosts yX0_fillCosts, Cond.code yX0_fillCosts cX0_fillCosts 5 none, Cond.methodLink RX0 59 Lib.Math.min.name, Cond.static Lib.Math.min.name, Cond.initialized "java/lang/Math", Cond.code Lib.Math.min.name Lib.Math.min.code 2 (some .int), Cond.methodLink RX0 52 yX0_costWith, Cond.instanceMethod yX0_costWith, Cond.selects RX0 yX0_costWith yX0_costWith, Cond.code yX0_costWith cX0_costWith 5 (some .int), Cond.methodLink RX0 32 yX0_mirror, Cond.instanceMethod yX0_mirror, Cond.selects RX0 yX0_mirror yX0_mirror, Cond.code yX0_mirror cX0_mirror 3 none]
def wsX4_worst_r4 : List Cond := [Cond.methodLink RX0 35 yX0_makeEven, Cond.instanceMethod yX0_makeEven, Cond.selects RX0 yX0_makeEven yX0_makeEven, Cond.code yX0_makeEven cX0_makeEven 2 none, Cond.methodLink RX0 65 yX2_total, Cond.methodLink RX0 38 yX0_makeRound, Cond.instanceMethod yX0_makeRound, Cond.selects RX0 yX0_makeRound yX0_makeRound, Cond.code yX0_makeRound cX0_makeRound 5 none, Cond.fieldLink RX0 18 "FewLooks$Mender" "guess" "LFewLooks$Row;", Cond.methodLink RX0 69 yX0_guessPeriod, Cond.instanceMethod yX0_guessPeriod, Cond.selects RX0 yX0_guessPeriod yX0_guessPeriod, Cond.code yX0_guessPeriod cX0_guessPeriod 4 none, Cond.methodLink RX0 77 yX0_commonest, Cond.static yX0_commonest, Cond.code yX0_commonest cX0_commonest 9 (some .int), Cond.methodLink RX0 41 yX2_differing, Cond.instanceMethod yX2_differing, Cond.selects RX2 yX2_differing yX2_differing, Cond.code yX2_differing cX2_differing 4 (some .int), Cond.methodLink RX0 73 yX2_isAheadOf, Cond.instanceMethod yX2_isAheadOf, Cond.selects RX2 yX2_isAheadOf yX2_isAheadOf]
def wsX4_worst_r5 : List Cond := [Cond.code yX2_isAheadOf cX2_isAheadOf 3 (some .boolean), Cond.methodLink RX4 140 yX2_looks, Cond.instanceMethod yX2_looks, Cond.selects RX2 yX2_looks yX2_looks, Cond.code yX2_looks cX2_looks 2 (some .int), Cond.methodLink RX4 129 yX4_lowestTerm, Cond.static yX4_lowestTerm, Cond.code yX4_lowestTerm cX4_lowestTerm 5 (some .int)]
def wsX4_worst : List Cond := .code yX4_worst cX4_worst 6 (some .int) :: ((wsX4_worst_r1 ++ (wsX4_worst_r2 ++ (wsX4_worst_r3 ++ (wsX4_worst_r4 ++ wsX4_worst_r5)))) ++ wsX40 ++ wsX20 ++ wsX00)
def wsX4_mended : List Cond := .code yX4_mended cX4_mended 3 (some .int) :: ([.fieldLink RX4 29 "FewLooks" "table" "LFewLooks$Table;", .methodLink RX4 63 yX4_isEntry, .static yX4_isEntry, .initialized RX4, .code yX4_isEntry cX4_isEntry 1 (some .boolean), .methodLink RX4 44 yX4_within, .static yX4_within, .code yX4_within cX4_within 3 (some .boolean), .methodLink RX4 141 yX3_tellers, .instanceMethod yX3_tellers, .selects RX3 yX3_tellers yX3_tellers, .initialized RX3, .code yX3_tellers cX3_tellers 5 (some .int), .methodLink RX3 27 yX3_at, .instanceMethod yX3_at, .selects RX3 yX3_at yX3_at, .code yX3_at cX3_at 2 (some .int), .fieldLink RX3 9 "FewLooks$Table" "bits" "I"] ++ wsX40 ++ wsX30)
def wsX4_isLook : List Cond := .code yX4_isLook cX4_isLook 4 (some .boolean) :: ([.fieldLink RX4 40 "FewLooks" "drawn" "I", .methodLink RX4 55 yX4_isPlace, .instanceMethod yX4_isPlace, .selects RX4 yX4_isPlace yX4_isPlace, .initialized RX4, .code yX4_isPlace cX4_isPlace 2 (some .boolean), .fieldLink RX4 10 "FewLooks" "row" "LFewLooks$Row;", .methodLink RX4 44 yX4_within, .static yX4_within, .code yX4_within cX4_within 3 (some .boolean), .methodLink RX4 63 yX4_isEntry, .static yX4_isEntry, .code yX4_isEntry cX4_isEntry 1 (some .boolean), .methodLink RX4 159 yJ6_bitCount_0f7a4, .static yJ6_bitCount_0f7a4, .initialized RJ6, .code yJ6_bitCount_0f7a4 cJ6_bitCount_0f7a4 1 (some .int), .constant RJ6 265 (1431655765), .constant RJ6 266 (858993459), .constant RJ6 267 (252645135)] ++ wsX40 ++ wsX20)
def wsX4_fails_r1 : List Cond := [Cond.fieldLink RX4 10 "FewLooks" "row" "LFewLooks$Row;", Cond.fieldLink RX4 29 "FewLooks" "table" "LFewLooks$Table;", Cond.fieldLink RX4 36 "FewLooks" "net" "LFewLooks$Net;", Cond.methodLink RX4 179 yX3_agrees, Cond.instanceMethod yX3_agrees, Cond.selects RX3 yX3_agrees yX3_agrees, Cond.initialized RX3, Cond.code yX3_agrees cX3_agrees 3 (some .boolean), Cond.methodLink RX3 27 yX3_at, Cond.instanceMethod yX3_at, Cond.selects RX3 yX3_at yX3_at, Cond.code yX3_at cX3_at 2 (some .int), Cond.fieldLink RX3 9 "FewLooks$Table" "bits" "I", Cond.methodLink RX4 183 yX1_twoColoured, Cond.instanceMethod yX1_twoColoured, Cond.selects RX1 yX1_twoColoured yX1_twoColoured, Cond.initialized RX1, Cond.code yX1_twoColoured cX1_twoColoured 2 (some .boolean), Cond.methodLink RX1 28 yX1_bestColouringOf, Cond.instanceMethod yX1_bestColouringOf, Cond.selects RX1 yX1_bestColouringOf yX1_bestColouringOf, Cond.code yX1_bestColouringOf cX1_bestColouringOf 6 (some .int), Cond.methodLink RX1 15 yX1_likeLines, Cond.instanceMethod yX1_likeLines]
def wsX4_fails_r2 : List Cond := [Cond.selects RX1 yX1_likeLines yX1_likeLines, Cond.code yX1_likeLines cX1_likeLines 5 (some .int), Cond.fieldLink RX1 9 "FewLooks$Net" "joins" "[I", Cond.methodLink RX1 19 yX1_alikeTo, Cond.static yX1_alikeTo, Cond.code yX1_alikeTo cX1_alikeTo 2 (some .int), Cond.methodLink RX1 22 yJ6_bitCount_0f7a4, Cond.static yJ6_bitCount_0f7a4, Cond.initialized RJ6, Cond.code yJ6_bitCount_0f7a4 cJ6_bitCount_0f7a4 1 (some .int), Cond.constant RJ6 265 (1431655765), Cond.constant RJ6 266 (858993459), Cond.constant RJ6 267 (252645135)]
def wsX4_fails : List Cond := .code yX4_fails cX4_fails 4 (some .boolean) :: ((wsX4_fails_r1 ++ wsX4_fails_r2) ++ wsX40 ++ wsX20 ++ wsX30 ++ wsX10)
def wsX4_shows_r1 : List Cond := [Cond.methodLink RX4 144 yX4_isLook, Cond.instanceMethod yX4_isLook, Cond.selects RX4 yX4_isLook yX4_isLook, Cond.initialized RX4, Cond.code yX4_isLook cX4_isLook 4 (some .boolean), Cond.fieldLink RX4 40 "FewLooks" "drawn" "I", Cond.methodLink RX4 55 yX4_isPlace, Cond.instanceMethod yX4_isPlace, Cond.selects RX4 yX4_isPlace yX4_isPlace, Cond.code yX4_isPlace cX4_isPlace 2 (some .boolean), Cond.fieldLink RX4 10 "FewLooks" "row" "LFewLooks$Row;", Cond.methodLink RX4 44 yX4_within, Cond.static yX4_within, Cond.code yX4_within cX4_within 3 (some .boolean), Cond.methodLink RX4 63 yX4_isEntry, Cond.static yX4_isEntry, Cond.code yX4_isEntry cX4_isEntry 1 (some .boolean), Cond.methodLink RX4 159 yJ6_bitCount_0f7a4, Cond.static yJ6_bitCount_0f7a4, Cond.initialized RJ6, Cond.code yJ6_bitCount_0f7a4 cJ6_bitCount_0f7a4 1 (some .int), Cond.constant RJ6 265 (1431655765), Cond.constant RJ6 266 (858993459), Cond.constant RJ6 267 (252645135)]
def wsX4_shows_r2 : List Cond := [Cond.methodLink RX4 147 yX4_fails, Cond.instanceMethod yX4_fails, Cond.selects RX4 yX4_fails yX4_fails, Cond.code yX4_fails cX4_fails 4 (some .boolean), Cond.fieldLink RX4 29 "FewLooks" "table" "LFewLooks$Table;", Cond.fieldLink RX4 36 "FewLooks" "net" "LFewLooks$Net;", Cond.methodLink RX4 179 yX3_agrees, Cond.instanceMethod yX3_agrees, Cond.selects RX3 yX3_agrees yX3_agrees, Cond.initialized RX3, Cond.code yX3_agrees cX3_agrees 3 (some .boolean), Cond.methodLink RX3 27 yX3_at, Cond.instanceMethod yX3_at, Cond.selects RX3 yX3_at yX3_at, Cond.code yX3_at cX3_at 2 (some .int), Cond.fieldLink RX3 9 "FewLooks$Table" "bits" "I", Cond.methodLink RX4 183 yX1_twoColoured, Cond.instanceMethod yX1_twoColoured, Cond.selects RX1 yX1_twoColoured yX1_twoColoured, Cond.initialized RX1, Cond.code yX1_twoColoured cX1_twoColoured 2 (some .boolean), Cond.methodLink RX1 28 yX1_bestColouringOf, Cond.instanceMethod yX1_bestColouringOf, Cond.selects RX1 yX1_bestColouringOf yX1_bestColouringOf]
def wsX4_shows_r3 : List Cond := [Cond.code yX1_bestColouringOf cX1_bestColouringOf 6 (some .int), Cond.methodLink RX1 15 yX1_likeLines, Cond.instanceMethod yX1_likeLines, Cond.selects RX1 yX1_likeLines yX1_likeLines, Cond.code yX1_likeLines cX1_likeLines 5 (some .int), Cond.fieldLink RX1 9 "FewLooks$Net" "joins" "[I", Cond.methodLink RX1 19 yX1_alikeTo, Cond.static yX1_alikeTo, Cond.code yX1_alikeTo cX1_alikeTo 2 (some .int), Cond.methodLink RX1 22 yJ6_bitCount_0f7a4]
def wsX4_shows : List Cond := .code yX4_shows cX4_shows 4 (some .int) :: ((wsX4_shows_r1 ++ (wsX4_shows_r2 ++ wsX4_shows_r3)) ++ wsX40 ++ wsX20 ++ wsX30 ++ wsX10)
def wsX4_firstFailingSet_r1 : List Cond := [Cond.methodLink RX4 144 yX4_isLook, Cond.instanceMethod yX4_isLook, Cond.selects RX4 yX4_isLook yX4_isLook, Cond.initialized RX4, Cond.code yX4_isLook cX4_isLook 4 (some .boolean), Cond.fieldLink RX4 40 "FewLooks" "drawn" "I", Cond.methodLink RX4 55 yX4_isPlace, Cond.instanceMethod yX4_isPlace, Cond.selects RX4 yX4_isPlace yX4_isPlace, Cond.code yX4_isPlace cX4_isPlace 2 (some .boolean), Cond.fieldLink RX4 10 "FewLooks" "row" "LFewLooks$Row;", Cond.methodLink RX4 44 yX4_within, Cond.static yX4_within, Cond.code yX4_within cX4_within 3 (some .boolean), Cond.methodLink RX4 63 yX4_isEntry, Cond.static yX4_isEntry, Cond.code yX4_isEntry cX4_isEntry 1 (some .boolean), Cond.methodLink RX4 159 yJ6_bitCount_0f7a4, Cond.static yJ6_bitCount_0f7a4, Cond.initialized RJ6, Cond.code yJ6_bitCount_0f7a4 cJ6_bitCount_0f7a4 1 (some .int), Cond.constant RJ6 265 (1431655765), Cond.constant RJ6 266 (858993459), Cond.constant RJ6 267 (252645135)]
def wsX4_firstFailingSet_r2 : List Cond := [Cond.methodLink RX4 147 yX4_fails, Cond.instanceMethod yX4_fails, Cond.selects RX4 yX4_fails yX4_fails, Cond.code yX4_fails cX4_fails 4 (some .boolean), Cond.fieldLink RX4 29 "FewLooks" "table" "LFewLooks$Table;", Cond.fieldLink RX4 36 "FewLooks" "net" "LFewLooks$Net;", Cond.methodLink RX4 179 yX3_agrees, Cond.instanceMethod yX3_agrees, Cond.selects RX3 yX3_agrees yX3_agrees, Cond.initialized RX3, Cond.code yX3_agrees cX3_agrees 3 (some .boolean), Cond.methodLink RX3 27 yX3_at, Cond.instanceMethod yX3_at, Cond.selects RX3 yX3_at yX3_at, Cond.code yX3_at cX3_at 2 (some .int), Cond.fieldLink RX3 9 "FewLooks$Table" "bits" "I", Cond.methodLink RX4 183 yX1_twoColoured, Cond.instanceMethod yX1_twoColoured, Cond.selects RX1 yX1_twoColoured yX1_twoColoured, Cond.initialized RX1, Cond.code yX1_twoColoured cX1_twoColoured 2 (some .boolean), Cond.methodLink RX1 28 yX1_bestColouringOf, Cond.instanceMethod yX1_bestColouringOf, Cond.selects RX1 yX1_bestColouringOf yX1_bestColouringOf]
def wsX4_firstFailingSet_r3 : List Cond := [Cond.code yX1_bestColouringOf cX1_bestColouringOf 6 (some .int), Cond.methodLink RX1 15 yX1_likeLines, Cond.instanceMethod yX1_likeLines, Cond.selects RX1 yX1_likeLines yX1_likeLines, Cond.code yX1_likeLines cX1_likeLines 5 (some .int), Cond.fieldLink RX1 9 "FewLooks$Net" "joins" "[I", Cond.methodLink RX1 19 yX1_alikeTo, Cond.static yX1_alikeTo, Cond.code yX1_alikeTo cX1_alikeTo 2 (some .int), Cond.methodLink RX1 22 yJ6_bitCount_0f7a4]
def wsX4_firstFailingSet : List Cond := .code yX4_firstFailingSet cX4_firstFailingSet 2 (some .int) :: ((wsX4_firstFailingSet_r1 ++ (wsX4_firstFailingSet_r2 ++ wsX4_firstFailingSet_r3)) ++ wsX40 ++ wsX20 ++ wsX30 ++ wsX10)
def wsX4_firstFailingPair_r1 : List Cond := [Cond.methodLink RX4 144 yX4_isLook, Cond.instanceMethod yX4_isLook, Cond.selects RX4 yX4_isLook yX4_isLook, Cond.initialized RX4, Cond.code yX4_isLook cX4_isLook 4 (some .boolean), Cond.fieldLink RX4 40 "FewLooks" "drawn" "I", Cond.methodLink RX4 55 yX4_isPlace, Cond.instanceMethod yX4_isPlace, Cond.selects RX4 yX4_isPlace yX4_isPlace, Cond.code yX4_isPlace cX4_isPlace 2 (some .boolean), Cond.fieldLink RX4 10 "FewLooks" "row" "LFewLooks$Row;", Cond.methodLink RX4 44 yX4_within, Cond.static yX4_within, Cond.code yX4_within cX4_within 3 (some .boolean), Cond.methodLink RX4 63 yX4_isEntry, Cond.static yX4_isEntry, Cond.code yX4_isEntry cX4_isEntry 1 (some .boolean), Cond.methodLink RX4 159 yJ6_bitCount_0f7a4, Cond.static yJ6_bitCount_0f7a4, Cond.initialized RJ6, Cond.code yJ6_bitCount_0f7a4 cJ6_bitCount_0f7a4 1 (some .int), Cond.constant RJ6 265 (1431655765), Cond.constant RJ6 266 (858993459), Cond.constant RJ6 267 (252645135)]
def wsX4_firstFailingPair_r2 : List Cond := [Cond.methodLink RX4 147 yX4_fails, Cond.instanceMethod yX4_fails, Cond.selects RX4 yX4_fails yX4_fails, Cond.code yX4_fails cX4_fails 4 (some .boolean), Cond.fieldLink RX4 29 "FewLooks" "table" "LFewLooks$Table;", Cond.fieldLink RX4 36 "FewLooks" "net" "LFewLooks$Net;", Cond.methodLink RX4 179 yX3_agrees, Cond.instanceMethod yX3_agrees, Cond.selects RX3 yX3_agrees yX3_agrees, Cond.initialized RX3, Cond.code yX3_agrees cX3_agrees 3 (some .boolean), Cond.methodLink RX3 27 yX3_at, Cond.instanceMethod yX3_at, Cond.selects RX3 yX3_at yX3_at, Cond.code yX3_at cX3_at 2 (some .int), Cond.fieldLink RX3 9 "FewLooks$Table" "bits" "I", Cond.methodLink RX4 183 yX1_twoColoured, Cond.instanceMethod yX1_twoColoured, Cond.selects RX1 yX1_twoColoured yX1_twoColoured, Cond.initialized RX1, Cond.code yX1_twoColoured cX1_twoColoured 2 (some .boolean), Cond.methodLink RX1 28 yX1_bestColouringOf, Cond.instanceMethod yX1_bestColouringOf, Cond.selects RX1 yX1_bestColouringOf yX1_bestColouringOf]
def wsX4_firstFailingPair_r3 : List Cond := [Cond.code yX1_bestColouringOf cX1_bestColouringOf 6 (some .int), Cond.methodLink RX1 15 yX1_likeLines, Cond.instanceMethod yX1_likeLines, Cond.selects RX1 yX1_likeLines yX1_likeLines, Cond.code yX1_likeLines cX1_likeLines 5 (some .int), Cond.fieldLink RX1 9 "FewLooks$Net" "joins" "[I", Cond.methodLink RX1 19 yX1_alikeTo, Cond.static yX1_alikeTo, Cond.code yX1_alikeTo cX1_alikeTo 2 (some .int), Cond.methodLink RX1 22 yJ6_bitCount_0f7a4]
def wsX4_firstFailingPair : List Cond := .code yX4_firstFailingPair cX4_firstFailingPair 4 (some .int) :: ((wsX4_firstFailingPair_r1 ++ (wsX4_firstFailingPair_r2 ++ wsX4_firstFailingPair_r3)) ++ wsX40 ++ wsX20 ++ wsX30 ++ wsX10)
def wsX4_witness_r1 : List Cond := [Cond.methodLink RX4 150 yX4_firstFailingSet, Cond.instanceMethod yX4_firstFailingSet, Cond.selects RX4 yX4_firstFailingSet yX4_firstFailingSet, Cond.initialized RX4, Cond.code yX4_firstFailingSet cX4_firstFailingSet 2 (some .int), Cond.methodLink RX4 144 yX4_isLook, Cond.instanceMethod yX4_isLook, Cond.selects RX4 yX4_isLook yX4_isLook, Cond.code yX4_isLook cX4_isLook 4 (some .boolean), Cond.fieldLink RX4 40 "FewLooks" "drawn" "I", Cond.methodLink RX4 55 yX4_isPlace, Cond.instanceMethod yX4_isPlace, Cond.selects RX4 yX4_isPlace yX4_isPlace, Cond.code yX4_isPlace cX4_isPlace 2 (some .boolean), Cond.fieldLink RX4 10 "FewLooks" "row" "LFewLooks$Row;", Cond.methodLink RX4 44 yX4_within, Cond.static yX4_within, Cond.code yX4_within cX4_within 3 (some .boolean), Cond.methodLink RX4 63 yX4_isEntry, Cond.static yX4_isEntry, Cond.code yX4_isEntry cX4_isEntry 1 (some .boolean), Cond.methodLink RX4 159 yJ6_bitCount_0f7a4, Cond.static yJ6_bitCount_0f7a4, Cond.initialized RJ6]
def wsX4_witness_r2 : List Cond := [Cond.code yJ6_bitCount_0f7a4 cJ6_bitCount_0f7a4 1 (some .int), Cond.constant RJ6 265 (1431655765), Cond.constant RJ6 266 (858993459), Cond.constant RJ6 267 (252645135), Cond.methodLink RX4 147 yX4_fails, Cond.instanceMethod yX4_fails, Cond.selects RX4 yX4_fails yX4_fails, Cond.code yX4_fails cX4_fails 4 (some .boolean), Cond.fieldLink RX4 29 "FewLooks" "table" "LFewLooks$Table;", Cond.fieldLink RX4 36 "FewLooks" "net" "LFewLooks$Net;", Cond.methodLink RX4 179 yX3_agrees, Cond.instanceMethod yX3_agrees, Cond.selects RX3 yX3_agrees yX3_agrees, Cond.initialized RX3, Cond.code yX3_agrees cX3_agrees 3 (some .boolean), Cond.methodLink RX3 27 yX3_at, Cond.instanceMethod yX3_at, Cond.selects RX3 yX3_at yX3_at, Cond.code yX3_at cX3_at 2 (some .int), Cond.fieldLink RX3 9 "FewLooks$Table" "bits" "I", Cond.methodLink RX4 183 yX1_twoColoured, Cond.instanceMethod yX1_twoColoured, Cond.selects RX1 yX1_twoColoured yX1_twoColoured, Cond.initialized RX1]
def wsX4_witness_r3 : List Cond := [Cond.code yX1_twoColoured cX1_twoColoured 2 (some .boolean), Cond.methodLink RX1 28 yX1_bestColouringOf, Cond.instanceMethod yX1_bestColouringOf, Cond.selects RX1 yX1_bestColouringOf yX1_bestColouringOf, Cond.code yX1_bestColouringOf cX1_bestColouringOf 6 (some .int), Cond.methodLink RX1 15 yX1_likeLines, Cond.instanceMethod yX1_likeLines, Cond.selects RX1 yX1_likeLines yX1_likeLines, Cond.code yX1_likeLines cX1_likeLines 5 (some .int), Cond.fieldLink RX1 9 "FewLooks$Net" "joins" "[I", Cond.methodLink RX1 19 yX1_alikeTo, Cond.static yX1_alikeTo, Cond.code yX1_alikeTo cX1_alikeTo 2 (some .int), Cond.methodLink RX1 22 yJ6_bitCount_0f7a4, Cond.methodLink RX4 153 yX4_firstFailingPair, Cond.instanceMethod yX4_firstFailingPair, Cond.selects RX4 yX4_firstFailingPair yX4_firstFailingPair, Cond.code yX4_firstFailingPair cX4_firstFailingPair 4 (some .int)]
def wsX4_witness : List Cond := .code yX4_witness cX4_witness 2 (some .int) :: ((wsX4_witness_r1 ++ (wsX4_witness_r2 ++ wsX4_witness_r3)) ++ wsX40 ++ wsX20 ++ wsX30 ++ wsX10)
def wsX4_count_r1 : List Cond := [Cond.fieldLink RX4 10 "FewLooks" "row" "LFewLooks$Row;", Cond.fieldLink RX4 40 "FewLooks" "drawn" "I", Cond.fieldLink RX4 36 "FewLooks" "net" "LFewLooks$Net;", Cond.fieldLink RX4 29 "FewLooks" "table" "LFewLooks$Table;", Cond.methodLink RX4 156 yX1_lines, Cond.instanceMethod yX1_lines, Cond.selects RX1 yX1_lines yX1_lines, Cond.initialized RX1, Cond.code yX1_lines cX1_lines 1 (some .int), Cond.methodLink RX1 15 yX1_likeLines, Cond.instanceMethod yX1_likeLines, Cond.selects RX1 yX1_likeLines yX1_likeLines, Cond.code yX1_likeLines cX1_likeLines 5 (some .int), Cond.fieldLink RX1 9 "FewLooks$Net" "joins" "[I", Cond.methodLink RX1 19 yX1_alikeTo, Cond.static yX1_alikeTo, Cond.code yX1_alikeTo cX1_alikeTo 2 (some .int), Cond.methodLink RX1 22 yJ6_bitCount_0f7a4, Cond.static yJ6_bitCount_0f7a4, Cond.initialized RJ6, Cond.code yJ6_bitCount_0f7a4 cJ6_bitCount_0f7a4 1 (some .int), Cond.constant RJ6 265 (1431655765), Cond.constant RJ6 266 (858993459), Cond.constant RJ6 267 (252645135)]
def wsX4_count_r2 : List Cond := [Cond.methodLink RX4 159 yJ6_bitCount_0f7a4, Cond.methodLink RX4 164 yX2_total, Cond.instanceMethod yX2_total, Cond.selects RX2 yX2_total yX2_total, Cond.initialized RX2, Cond.code yX2_total cX2_total 3 (some .int), Cond.fieldLink RX2 15 "FewLooks$Row" "size" "I", Cond.fieldLink RX2 9 "FewLooks$Row" "digits" "[I"]
def wsX4_count : List Cond := .code yX4_count cX4_count 2 (some .int) :: ((wsX4_count_r1 ++ wsX4_count_r2) ++ wsX40 ++ wsX20 ++ wsX30 ++ wsX10)
def wsX5_init : List Cond := .code yX5_init cX5_init 1 none :: ([.methodLink RX5 1 objectInit, .instanceMethod objectInit, .code objectInit ⟨#[0xb1]⟩ 1 none, .fieldLink RX5 7 "FewLooksModel" "n" "I", .arrayClass .int, .fieldLink RX5 13 "FewLooksModel" "row" "[I", .fieldLink RX5 17 "FewLooksModel" "table" "[I", .fieldLink RX5 20 "FewLooksModel" "joined" "[I", .fieldLink RX5 23 "FewLooksModel" "k" "I", .fieldLink RX5 26 "FewLooksModel" "it" "[I", .fieldLink RX5 29 "FewLooksModel" "rise" "[I"] ++ wsX50)
def wsX5_in : List Cond := .code yX5_in cX5_in 3 (some .boolean) :: ([])
def wsX5_ones : List Cond := .code yX5_ones cX5_ones 3 (some .int) :: ([])
def wsX5_isSubject : List Cond := .code yX5_isSubject cX5_isSubject 1 (some .boolean) :: ([.methodLink RX5 32 yX5_in, .static yX5_in, .initialized RX5, .code yX5_in cX5_in 3 (some .boolean)])
def wsX5_isPlace : List Cond := .code yX5_isPlace cX5_isPlace 2 (some .boolean) :: ([.fieldLink RX5 7 "FewLooksModel" "n" "I", .methodLink RX5 32 yX5_in, .static yX5_in, .initialized RX5, .code yX5_in cX5_in 3 (some .boolean)] ++ wsX50)
def wsX5_isEight : List Cond := .code yX5_isEight cX5_isEight 1 (some .boolean) :: ([.methodLink RX5 32 yX5_in, .static yX5_in, .initialized RX5, .code yX5_in cX5_in 3 (some .boolean)])
def wsX5_isBit : List Cond := .code yX5_isBit cX5_isBit 1 (some .boolean) :: ([.methodLink RX5 32 yX5_in, .static yX5_in, .initialized RX5, .code yX5_in cX5_in 3 (some .boolean)])
def wsX5_places : List Cond := .code yX5_places cX5_places 4 (some .int) :: ([.fieldLink RX5 7 "FewLooksModel" "n" "I", .fieldLink RX5 13 "FewLooksModel" "row" "[I", .methodLink RX5 32 yX5_in, .static yX5_in, .initialized RX5, .code yX5_in cX5_in 3 (some .boolean)] ++ wsX50)
def wsX5_digit : List Cond := .code yX5_digit cX5_digit 4 (some .int) :: ([.fieldLink RX5 13 "FewLooksModel" "row" "[I", .methodLink RX5 36 yX5_isPlace, .instanceMethod yX5_isPlace, .selects RX5 yX5_isPlace yX5_isPlace, .initialized RX5, .code yX5_isPlace cX5_isPlace 2 (some .boolean), .fieldLink RX5 7 "FewLooksModel" "n" "I", .methodLink RX5 32 yX5_in, .static yX5_in, .code yX5_in cX5_in 3 (some .boolean)] ++ wsX50)
def wsX5_bit : List Cond := .code yX5_bit cX5_bit 4 (some .int) :: ([.fieldLink RX5 17 "FewLooksModel" "table" "[I", .methodLink RX5 40 yX5_isEight, .static yX5_isEight, .initialized RX5, .code yX5_isEight cX5_isEight 1 (some .boolean), .methodLink RX5 32 yX5_in, .static yX5_in, .code yX5_in cX5_in 3 (some .boolean), .methodLink RX5 43 yX5_isBit, .static yX5_isBit, .code yX5_isBit cX5_isBit 1 (some .boolean)] ++ wsX50)
def wsX5_parity : List Cond := .code yX5_parity cX5_parity 2 (some .int) :: ([.methodLink RX5 46 yX5_ones, .static yX5_ones, .initialized RX5, .code yX5_ones cX5_ones 3 (some .int)])
def wsX5_linear : List Cond := .code yX5_linear cX5_linear 3 (some .int) :: ([.fieldLink RX5 17 "FewLooksModel" "table" "[I", .methodLink RX5 40 yX5_isEight, .static yX5_isEight, .initialized RX5, .code yX5_isEight cX5_isEight 1 (some .boolean), .methodLink RX5 32 yX5_in, .static yX5_in, .code yX5_in cX5_in 3 (some .boolean), .methodLink RX5 50 yX5_parity, .static yX5_parity, .code yX5_parity cX5_parity 2 (some .int), .methodLink RX5 46 yX5_ones, .static yX5_ones, .code yX5_ones cX5_ones 3 (some .int)] ++ wsX50)
def wsX5_isPoint : List Cond := .code yX5_isPoint cX5_isPoint 1 (some .boolean) :: ([.methodLink RX5 32 yX5_in, .static yX5_in, .initialized RX5, .code yX5_in cX5_in 3 (some .boolean)])
def wsX5_line : List Cond := .code yX5_line cX5_line 5 (some .int) :: ([.fieldLink RX5 20 "FewLooksModel" "joined" "[I", .methodLink RX5 54 yX5_isPoint, .static yX5_isPoint, .initialized RX5, .code yX5_isPoint cX5_isPoint 1 (some .boolean), .methodLink RX5 32 yX5_in, .static yX5_in, .code yX5_in cX5_in 3 (some .boolean)] ++ wsX50)
def wsX5_draw : List Cond := .code yX5_draw cX5_draw 3 (some .int) :: ([.fieldLink RX5 23 "FewLooksModel" "k" "I", .methodLink RX5 32 yX5_in, .static yX5_in, .initialized RX5, .code yX5_in cX5_in 3 (some .boolean)] ++ wsX50)
def wsX5_takeRow : List Cond := .code yX5_takeRow cX5_takeRow 2 none :: ([.fieldLink RX5 7 "FewLooksModel" "n" "I", .fieldLink RX5 26 "FewLooksModel" "it" "[I", .fieldLink RX5 13 "FewLooksModel" "row" "[I"] ++ wsX50)
def wsX5_fromRising : List Cond := .code yX5_fromRising cX5_fromRising 4 (some .int) :: ([.fieldLink RX5 7 "FewLooksModel" "n" "I", .fieldLink RX5 29 "FewLooksModel" "rise" "[I", .fieldLink RX5 26 "FewLooksModel" "it" "[I"] ++ wsX50)
def wsX5_fromMirrored : List Cond := .code yX5_fromMirrored cX5_fromMirrored 3 (some .int) :: ([.fieldLink RX5 7 "FewLooksModel" "n" "I", .fieldLink RX5 26 "FewLooksModel" "it" "[I"] ++ wsX50)
def wsX5_fromEven : List Cond := .code yX5_fromEven cX5_fromEven 3 (some .int) :: ([.fieldLink RX5 7 "FewLooksModel" "n" "I", .fieldLink RX5 26 "FewLooksModel" "it" "[I"] ++ wsX50)
def wsX5_fromShift : List Cond := .code yX5_fromShift cX5_fromShift 10 (some .int) :: ([.fieldLink RX5 7 "FewLooksModel" "n" "I", .fieldLink RX5 26 "FewLooksModel" "it" "[I"] ++ wsX50)
def wsX5_fromRound : List Cond := .code yX5_fromRound cX5_fromRound 4 (some .int) :: ([.fieldLink RX5 7 "FewLooksModel" "n" "I", .methodLink RX5 57 yX5_fromShift, .instanceMethod yX5_fromShift, .selects RX5 yX5_fromShift yX5_fromShift, .initialized RX5, .code yX5_fromShift cX5_fromShift 10 (some .int), .fieldLink RX5 26 "FewLooksModel" "it" "[I"] ++ wsX50)
def wsX5_fromKind : List Cond := .code yX5_fromKind cX5_fromKind 2 (some .int) :: ([.methodLink RX5 60 yX5_fromRising, .instanceMethod yX5_fromRising, .selects RX5 yX5_fromRising yX5_fromRising, .initialized RX5, .code yX5_fromRising cX5_fromRising 4 (some .int), .fieldLink RX5 7 "FewLooksModel" "n" "I", .fieldLink RX5 29 "FewLooksModel" "rise" "[I", .fieldLink RX5 26 "FewLooksModel" "it" "[I", .methodLink RX5 64 yX5_fromMirrored, .instanceMethod yX5_fromMirrored, .selects RX5 yX5_fromMirrored yX5_fromMirrored, .code yX5_fromMirrored cX5_fromMirrored 3 (some .int), .methodLink RX5 67 yX5_fromEven, .instanceMethod yX5_fromEven, .selects RX5 yX5_fromEven yX5_fromEven, .code yX5_fromEven cX5_fromEven 3 (some .int), .methodLink RX5 70 yX5_fromRound, .instanceMethod yX5_fromRound, .selects RX5 yX5_fromRound yX5_fromRound, .code yX5_fromRound cX5_fromRound 4 (some .int), .methodLink RX5 57 yX5_fromShift, .instanceMethod yX5_fromShift, .selects RX5 yX5_fromShift yX5_fromShift, .code yX5_fromShift cX5_fromShift 10 (some .int)] ++ wsX50)
def wsX5_rowDistance_r1 : List Cond := [Cond.methodLink RX5 73 yX5_takeRow, Cond.instanceMethod yX5_takeRow, Cond.selects RX5 yX5_takeRow yX5_takeRow, Cond.initialized RX5, Cond.code yX5_takeRow cX5_takeRow 2 none, Cond.fieldLink RX5 7 "FewLooksModel" "n" "I", Cond.fieldLink RX5 26 "FewLooksModel" "it" "[I", Cond.fieldLink RX5 13 "FewLooksModel" "row" "[I", Cond.methodLink RX5 76 yX5_fromKind, Cond.instanceMethod yX5_fromKind, Cond.selects RX5 yX5_fromKind yX5_fromKind, Cond.code yX5_fromKind cX5_fromKind 2 (some .int), Cond.methodLink RX5 60 yX5_fromRising, Cond.instanceMethod yX5_fromRising, Cond.selects RX5 yX5_fromRising yX5_fromRising, Cond.code yX5_fromRising cX5_fromRising 4 (some .int), Cond.fieldLink RX5 29 "FewLooksModel" "rise" "[I", Cond.methodLink RX5 64 yX5_fromMirrored, Cond.instanceMethod yX5_fromMirrored, Cond.selects RX5 yX5_fromMirrored yX5_fromMirrored, Cond.code yX5_fromMirrored cX5_fromMirrored 3 (some .int), Cond.methodLink RX5 67 yX5_fromEven, Cond.instanceMethod yX5_fromEven, Cond.selects RX5 yX5_fromEven yX5_fromEven]
def wsX5_rowDistance_r2 : List Cond := [Cond.code yX5_fromEven cX5_fromEven 3 (some .int), Cond.methodLink RX5 70 yX5_fromRound, Cond.instanceMethod yX5_fromRound, Cond.selects RX5 yX5_fromRound yX5_fromRound, Cond.code yX5_fromRound cX5_fromRound 4 (some .int), Cond.methodLink RX5 57 yX5_fromShift, Cond.instanceMethod yX5_fromShift, Cond.selects RX5 yX5_fromShift yX5_fromShift, Cond.code yX5_fromShift cX5_fromShift 10 (some .int)]
def wsX5_rowDistance : List Cond := .code yX5_rowDistance cX5_rowDistance 2 (some .int) :: ((wsX5_rowDistance_r1 ++ wsX5_rowDistance_r2) ++ wsX50)
def wsX5_findNearest_r1 : List Cond := [Cond.fieldLink RX5 7 "FewLooksModel" "n" "I", Cond.fieldLink RX5 26 "FewLooksModel" "it" "[I", Cond.fieldLink RX5 13 "FewLooksModel" "row" "[I", Cond.methodLink RX5 79 yX5_rowDistance, Cond.instanceMethod yX5_rowDistance, Cond.selects RX5 yX5_rowDistance yX5_rowDistance, Cond.initialized RX5, Cond.code yX5_rowDistance cX5_rowDistance 2 (some .int), Cond.methodLink RX5 73 yX5_takeRow, Cond.instanceMethod yX5_takeRow, Cond.selects RX5 yX5_takeRow yX5_takeRow, Cond.code yX5_takeRow cX5_takeRow 2 none, Cond.methodLink RX5 76 yX5_fromKind, Cond.instanceMethod yX5_fromKind, Cond.selects RX5 yX5_fromKind yX5_fromKind, Cond.code yX5_fromKind cX5_fromKind 2 (some .int), Cond.methodLink RX5 60 yX5_fromRising, Cond.instanceMethod yX5_fromRising, Cond.selects RX5 yX5_fromRising yX5_fromRising, Cond.code yX5_fromRising cX5_fromRising 4 (some .int), Cond.fieldLink RX5 29 "FewLooksModel" "rise" "[I", Cond.methodLink RX5 64 yX5_fromMirrored, Cond.instanceMethod yX5_fromMirrored, Cond.selects RX5 yX5_fromMirrored yX5_fromMirrored]
def wsX5_findNearest_r2 : List Cond := [Cond.code yX5_fromMirrored cX5_fromMirrored 3 (some .int), Cond.methodLink RX5 67 yX5_fromEven, Cond.instanceMethod yX5_fromEven, Cond.selects RX5 yX5_fromEven yX5_fromEven, Cond.code yX5_fromEven cX5_fromEven 3 (some .int), Cond.methodLink RX5 70 yX5_fromRound, Cond.instanceMethod yX5_fromRound, Cond.selects RX5 yX5_fromRound yX5_fromRound, Cond.code yX5_fromRound cX5_fromRound 4 (some .int), Cond.methodLink RX5 57 yX5_fromShift, Cond.instanceMethod yX5_fromShift, Cond.selects RX5 yX5_fromShift yX5_fromShift, Cond.code yX5_fromShift cX5_fromShift 10 (some .int)]
def wsX5_findNearest : List Cond := .code yX5_findNearest cX5_findNearest 7 none :: ((wsX5_findNearest_r1 ++ wsX5_findNearest_r2) ++ wsX50)
def wsX5_tableFar : List Cond := .code yX5_tableFar cX5_tableFar 4 (some .int) :: ([.fieldLink RX5 17 "FewLooksModel" "table" "[I", .methodLink RX5 50 yX5_parity, .static yX5_parity, .initialized RX5, .code yX5_parity cX5_parity 2 (some .int), .methodLink RX5 46 yX5_ones, .static yX5_ones, .code yX5_ones cX5_ones 3 (some .int)] ++ wsX50)
def wsX5_nearestTable : List Cond := .code yX5_nearestTable cX5_nearestTable 3 (some .int) :: ([.methodLink RX5 82 yX5_tableFar, .instanceMethod yX5_tableFar, .selects RX5 yX5_tableFar yX5_tableFar, .initialized RX5, .code yX5_tableFar cX5_tableFar 4 (some .int), .fieldLink RX5 17 "FewLooksModel" "table" "[I", .methodLink RX5 50 yX5_parity, .static yX5_parity, .code yX5_parity cX5_parity 2 (some .int), .methodLink RX5 46 yX5_ones, .static yX5_ones, .code yX5_ones cX5_ones 3 (some .int)] ++ wsX50)
def wsX5_netFar : List Cond := .code yX5_netFar cX5_netFar 7 (some .int) :: ([.fieldLink RX5 20 "FewLooksModel" "joined" "[I"] ++ wsX50)
def wsX5_nearestNet : List Cond := .code yX5_nearestNet cX5_nearestNet 4 (some .int) :: ([.methodLink RX5 85 yX5_netFar, .instanceMethod yX5_netFar, .selects RX5 yX5_netFar yX5_netFar, .initialized RX5, .code yX5_netFar cX5_netFar 7 (some .int), .fieldLink RX5 20 "FewLooksModel" "joined" "[I"] ++ wsX50)
def wsX5_distanceOf_r1 : List Cond := [Cond.methodLink RX5 79 yX5_rowDistance, Cond.instanceMethod yX5_rowDistance, Cond.selects RX5 yX5_rowDistance yX5_rowDistance, Cond.initialized RX5, Cond.code yX5_rowDistance cX5_rowDistance 2 (some .int), Cond.methodLink RX5 73 yX5_takeRow, Cond.instanceMethod yX5_takeRow, Cond.selects RX5 yX5_takeRow yX5_takeRow, Cond.code yX5_takeRow cX5_takeRow 2 none, Cond.fieldLink RX5 7 "FewLooksModel" "n" "I", Cond.fieldLink RX5 26 "FewLooksModel" "it" "[I", Cond.fieldLink RX5 13 "FewLooksModel" "row" "[I", Cond.methodLink RX5 76 yX5_fromKind, Cond.instanceMethod yX5_fromKind, Cond.selects RX5 yX5_fromKind yX5_fromKind, Cond.code yX5_fromKind cX5_fromKind 2 (some .int), Cond.methodLink RX5 60 yX5_fromRising, Cond.instanceMethod yX5_fromRising, Cond.selects RX5 yX5_fromRising yX5_fromRising, Cond.code yX5_fromRising cX5_fromRising 4 (some .int), Cond.fieldLink RX5 29 "FewLooksModel" "rise" "[I", Cond.methodLink RX5 64 yX5_fromMirrored, Cond.instanceMethod yX5_fromMirrored, Cond.selects RX5 yX5_fromMirrored yX5_fromMirrored]
def wsX5_distanceOf_r2 : List Cond := [Cond.code yX5_fromMirrored cX5_fromMirrored 3 (some .int), Cond.methodLink RX5 67 yX5_fromEven, Cond.instanceMethod yX5_fromEven, Cond.selects RX5 yX5_fromEven yX5_fromEven, Cond.code yX5_fromEven cX5_fromEven 3 (some .int), Cond.methodLink RX5 70 yX5_fromRound, Cond.instanceMethod yX5_fromRound, Cond.selects RX5 yX5_fromRound yX5_fromRound, Cond.code yX5_fromRound cX5_fromRound 4 (some .int), Cond.methodLink RX5 57 yX5_fromShift, Cond.instanceMethod yX5_fromShift, Cond.selects RX5 yX5_fromShift yX5_fromShift, Cond.code yX5_fromShift cX5_fromShift 10 (some .int), Cond.methodLink RX5 88 yX5_nearestTable, Cond.instanceMethod yX5_nearestTable, Cond.selects RX5 yX5_nearestTable yX5_nearestTable, Cond.code yX5_nearestTable cX5_nearestTable 3 (some .int), Cond.methodLink RX5 82 yX5_tableFar, Cond.instanceMethod yX5_tableFar, Cond.selects RX5 yX5_tableFar yX5_tableFar, Cond.code yX5_tableFar cX5_tableFar 4 (some .int), Cond.fieldLink RX5 17 "FewLooksModel" "table" "[I", Cond.methodLink RX5 50 yX5_parity, Cond.static yX5_parity]
def wsX5_distanceOf_r3 : List Cond := [Cond.code yX5_parity cX5_parity 2 (some .int), Cond.methodLink RX5 46 yX5_ones, Cond.static yX5_ones, Cond.code yX5_ones cX5_ones 3 (some .int), Cond.methodLink RX5 91 yX5_nearestNet, Cond.instanceMethod yX5_nearestNet, Cond.selects RX5 yX5_nearestNet yX5_nearestNet, Cond.code yX5_nearestNet cX5_nearestNet 4 (some .int), Cond.methodLink RX5 85 yX5_netFar, Cond.instanceMethod yX5_netFar, Cond.selects RX5 yX5_netFar yX5_netFar, Cond.code yX5_netFar cX5_netFar 7 (some .int), Cond.fieldLink RX5 20 "FewLooksModel" "joined" "[I"]
def wsX5_distanceOf : List Cond := .code yX5_distanceOf cX5_distanceOf 2 (some .int) :: ((wsX5_distanceOf_r1 ++ (wsX5_distanceOf_r2 ++ wsX5_distanceOf_r3)) ++ wsX50)
def wsX5_is_r1 : List Cond := [Cond.methodLink RX5 94 yX5_isSubject, Cond.static yX5_isSubject, Cond.initialized RX5, Cond.code yX5_isSubject cX5_isSubject 1 (some .boolean), Cond.methodLink RX5 32 yX5_in, Cond.static yX5_in, Cond.code yX5_in cX5_in 3 (some .boolean), Cond.methodLink RX5 97 yX5_distanceOf, Cond.instanceMethod yX5_distanceOf, Cond.selects RX5 yX5_distanceOf yX5_distanceOf, Cond.code yX5_distanceOf cX5_distanceOf 2 (some .int), Cond.methodLink RX5 79 yX5_rowDistance, Cond.instanceMethod yX5_rowDistance, Cond.selects RX5 yX5_rowDistance yX5_rowDistance, Cond.code yX5_rowDistance cX5_rowDistance 2 (some .int), Cond.methodLink RX5 73 yX5_takeRow, Cond.instanceMethod yX5_takeRow, Cond.selects RX5 yX5_takeRow yX5_takeRow, Cond.code yX5_takeRow cX5_takeRow 2 none, Cond.fieldLink RX5 7 "FewLooksModel" "n" "I", Cond.fieldLink RX5 26 "FewLooksModel" "it" "[I", Cond.fieldLink RX5 13 "FewLooksModel" "row" "[I", Cond.methodLink RX5 76 yX5_fromKind, Cond.instanceMethod yX5_fromKind]
def wsX5_is_r2 : List Cond := [Cond.selects RX5 yX5_fromKind yX5_fromKind, Cond.code yX5_fromKind cX5_fromKind 2 (some .int), Cond.methodLink RX5 60 yX5_fromRising, Cond.instanceMethod yX5_fromRising, Cond.selects RX5 yX5_fromRising yX5_fromRising, Cond.code yX5_fromRising cX5_fromRising 4 (some .int), Cond.fieldLink RX5 29 "FewLooksModel" "rise" "[I", Cond.methodLink RX5 64 yX5_fromMirrored, Cond.instanceMethod yX5_fromMirrored, Cond.selects RX5 yX5_fromMirrored yX5_fromMirrored, Cond.code yX5_fromMirrored cX5_fromMirrored 3 (some .int), Cond.methodLink RX5 67 yX5_fromEven, Cond.instanceMethod yX5_fromEven, Cond.selects RX5 yX5_fromEven yX5_fromEven, Cond.code yX5_fromEven cX5_fromEven 3 (some .int), Cond.methodLink RX5 70 yX5_fromRound, Cond.instanceMethod yX5_fromRound, Cond.selects RX5 yX5_fromRound yX5_fromRound, Cond.code yX5_fromRound cX5_fromRound 4 (some .int), Cond.methodLink RX5 57 yX5_fromShift, Cond.instanceMethod yX5_fromShift, Cond.selects RX5 yX5_fromShift yX5_fromShift, Cond.code yX5_fromShift cX5_fromShift 10 (some .int), Cond.methodLink RX5 88 yX5_nearestTable]
def wsX5_is_r3 : List Cond := [Cond.instanceMethod yX5_nearestTable, Cond.selects RX5 yX5_nearestTable yX5_nearestTable, Cond.code yX5_nearestTable cX5_nearestTable 3 (some .int), Cond.methodLink RX5 82 yX5_tableFar, Cond.instanceMethod yX5_tableFar, Cond.selects RX5 yX5_tableFar yX5_tableFar, Cond.code yX5_tableFar cX5_tableFar 4 (some .int), Cond.fieldLink RX5 17 "FewLooksModel" "table" "[I", Cond.methodLink RX5 50 yX5_parity, Cond.static yX5_parity, Cond.code yX5_parity cX5_parity 2 (some .int), Cond.methodLink RX5 46 yX5_ones, Cond.static yX5_ones, Cond.code yX5_ones cX5_ones 3 (some .int), Cond.methodLink RX5 91 yX5_nearestNet, Cond.instanceMethod yX5_nearestNet, Cond.selects RX5 yX5_nearestNet yX5_nearestNet, Cond.code yX5_nearestNet cX5_nearestNet 4 (some .int), Cond.methodLink RX5 85 yX5_netFar, Cond.instanceMethod yX5_netFar, Cond.selects RX5 yX5_netFar yX5_netFar, Cond.code yX5_netFar cX5_netFar 7 (some .int), Cond.fieldLink RX5 20 "FewLooksModel" "joined" "[I"]
def wsX5_is : List Cond := .code yX5_is cX5_is 2 (some .int) :: ((wsX5_is_r1 ++ (wsX5_is_r2 ++ wsX5_is_r3)) ++ wsX50)
def wsX5_distance_r1 : List Cond := [Cond.methodLink RX5 94 yX5_isSubject, Cond.static yX5_isSubject, Cond.initialized RX5, Cond.code yX5_isSubject cX5_isSubject 1 (some .boolean), Cond.methodLink RX5 32 yX5_in, Cond.static yX5_in, Cond.code yX5_in cX5_in 3 (some .boolean), Cond.methodLink RX5 97 yX5_distanceOf, Cond.instanceMethod yX5_distanceOf, Cond.selects RX5 yX5_distanceOf yX5_distanceOf, Cond.code yX5_distanceOf cX5_distanceOf 2 (some .int), Cond.methodLink RX5 79 yX5_rowDistance, Cond.instanceMethod yX5_rowDistance, Cond.selects RX5 yX5_rowDistance yX5_rowDistance, Cond.code yX5_rowDistance cX5_rowDistance 2 (some .int), Cond.methodLink RX5 73 yX5_takeRow, Cond.instanceMethod yX5_takeRow, Cond.selects RX5 yX5_takeRow yX5_takeRow, Cond.code yX5_takeRow cX5_takeRow 2 none, Cond.fieldLink RX5 7 "FewLooksModel" "n" "I", Cond.fieldLink RX5 26 "FewLooksModel" "it" "[I", Cond.fieldLink RX5 13 "FewLooksModel" "row" "[I", Cond.methodLink RX5 76 yX5_fromKind, Cond.instanceMethod yX5_fromKind]
def wsX5_distance_r2 : List Cond := [Cond.selects RX5 yX5_fromKind yX5_fromKind, Cond.code yX5_fromKind cX5_fromKind 2 (some .int), Cond.methodLink RX5 60 yX5_fromRising, Cond.instanceMethod yX5_fromRising, Cond.selects RX5 yX5_fromRising yX5_fromRising, Cond.code yX5_fromRising cX5_fromRising 4 (some .int), Cond.fieldLink RX5 29 "FewLooksModel" "rise" "[I", Cond.methodLink RX5 64 yX5_fromMirrored, Cond.instanceMethod yX5_fromMirrored, Cond.selects RX5 yX5_fromMirrored yX5_fromMirrored, Cond.code yX5_fromMirrored cX5_fromMirrored 3 (some .int), Cond.methodLink RX5 67 yX5_fromEven, Cond.instanceMethod yX5_fromEven, Cond.selects RX5 yX5_fromEven yX5_fromEven, Cond.code yX5_fromEven cX5_fromEven 3 (some .int), Cond.methodLink RX5 70 yX5_fromRound, Cond.instanceMethod yX5_fromRound, Cond.selects RX5 yX5_fromRound yX5_fromRound, Cond.code yX5_fromRound cX5_fromRound 4 (some .int), Cond.methodLink RX5 57 yX5_fromShift, Cond.instanceMethod yX5_fromShift, Cond.selects RX5 yX5_fromShift yX5_fromShift, Cond.code yX5_fromShift cX5_fromShift 10 (some .int), Cond.methodLink RX5 88 yX5_nearestTable]
def wsX5_distance_r3 : List Cond := [Cond.instanceMethod yX5_nearestTable, Cond.selects RX5 yX5_nearestTable yX5_nearestTable, Cond.code yX5_nearestTable cX5_nearestTable 3 (some .int), Cond.methodLink RX5 82 yX5_tableFar, Cond.instanceMethod yX5_tableFar, Cond.selects RX5 yX5_tableFar yX5_tableFar, Cond.code yX5_tableFar cX5_tableFar 4 (some .int), Cond.fieldLink RX5 17 "FewLooksModel" "table" "[I", Cond.methodLink RX5 50 yX5_parity, Cond.static yX5_parity, Cond.code yX5_parity cX5_parity 2 (some .int), Cond.methodLink RX5 46 yX5_ones, Cond.static yX5_ones, Cond.code yX5_ones cX5_ones 3 (some .int), Cond.methodLink RX5 91 yX5_nearestNet, Cond.instanceMethod yX5_nearestNet, Cond.selects RX5 yX5_nearestNet yX5_nearestNet, Cond.code yX5_nearestNet cX5_nearestNet 4 (some .int), Cond.methodLink RX5 85 yX5_netFar, Cond.instanceMethod yX5_netFar, Cond.selects RX5 yX5_netFar yX5_netFar, Cond.code yX5_netFar cX5_netFar 7 (some .int), Cond.fieldLink RX5 20 "FewLooksModel" "joined" "[I"]
def wsX5_distance : List Cond := .code yX5_distance cX5_distance 2 (some .int) :: ((wsX5_distance_r1 ++ (wsX5_distance_r2 ++ wsX5_distance_r3)) ++ wsX50)
def wsX5_nearest_r1 : List Cond := [Cond.fieldLink RX5 26 "FewLooksModel" "it" "[I", Cond.methodLink RX5 94 yX5_isSubject, Cond.static yX5_isSubject, Cond.initialized RX5, Cond.code yX5_isSubject cX5_isSubject 1 (some .boolean), Cond.methodLink RX5 32 yX5_in, Cond.static yX5_in, Cond.code yX5_in cX5_in 3 (some .boolean), Cond.methodLink RX5 36 yX5_isPlace, Cond.instanceMethod yX5_isPlace, Cond.selects RX5 yX5_isPlace yX5_isPlace, Cond.code yX5_isPlace cX5_isPlace 2 (some .boolean), Cond.fieldLink RX5 7 "FewLooksModel" "n" "I", Cond.methodLink RX5 100 yX5_findNearest, Cond.instanceMethod yX5_findNearest, Cond.selects RX5 yX5_findNearest yX5_findNearest, Cond.code yX5_findNearest cX5_findNearest 7 none, Cond.fieldLink RX5 13 "FewLooksModel" "row" "[I", Cond.methodLink RX5 79 yX5_rowDistance, Cond.instanceMethod yX5_rowDistance, Cond.selects RX5 yX5_rowDistance yX5_rowDistance, Cond.code yX5_rowDistance cX5_rowDistance 2 (some .int), Cond.methodLink RX5 73 yX5_takeRow, Cond.instanceMethod yX5_takeRow]
def wsX5_nearest_r2 : List Cond := [Cond.selects RX5 yX5_takeRow yX5_takeRow, Cond.code yX5_takeRow cX5_takeRow 2 none, Cond.methodLink RX5 76 yX5_fromKind, Cond.instanceMethod yX5_fromKind, Cond.selects RX5 yX5_fromKind yX5_fromKind, Cond.code yX5_fromKind cX5_fromKind 2 (some .int), Cond.methodLink RX5 60 yX5_fromRising, Cond.instanceMethod yX5_fromRising, Cond.selects RX5 yX5_fromRising yX5_fromRising, Cond.code yX5_fromRising cX5_fromRising 4 (some .int), Cond.fieldLink RX5 29 "FewLooksModel" "rise" "[I", Cond.methodLink RX5 64 yX5_fromMirrored, Cond.instanceMethod yX5_fromMirrored, Cond.selects RX5 yX5_fromMirrored yX5_fromMirrored, Cond.code yX5_fromMirrored cX5_fromMirrored 3 (some .int), Cond.methodLink RX5 67 yX5_fromEven, Cond.instanceMethod yX5_fromEven, Cond.selects RX5 yX5_fromEven yX5_fromEven, Cond.code yX5_fromEven cX5_fromEven 3 (some .int), Cond.methodLink RX5 70 yX5_fromRound, Cond.instanceMethod yX5_fromRound, Cond.selects RX5 yX5_fromRound yX5_fromRound, Cond.code yX5_fromRound cX5_fromRound 4 (some .int), Cond.methodLink RX5 57 yX5_fromShift]
def wsX5_nearest_r3 : List Cond := [Cond.instanceMethod yX5_fromShift, Cond.selects RX5 yX5_fromShift yX5_fromShift, Cond.code yX5_fromShift cX5_fromShift 10 (some .int), Cond.methodLink RX5 88 yX5_nearestTable, Cond.instanceMethod yX5_nearestTable, Cond.selects RX5 yX5_nearestTable yX5_nearestTable, Cond.code yX5_nearestTable cX5_nearestTable 3 (some .int), Cond.methodLink RX5 82 yX5_tableFar, Cond.instanceMethod yX5_tableFar, Cond.selects RX5 yX5_tableFar yX5_tableFar, Cond.code yX5_tableFar cX5_tableFar 4 (some .int), Cond.fieldLink RX5 17 "FewLooksModel" "table" "[I", Cond.methodLink RX5 50 yX5_parity, Cond.static yX5_parity, Cond.code yX5_parity cX5_parity 2 (some .int), Cond.methodLink RX5 46 yX5_ones, Cond.static yX5_ones, Cond.code yX5_ones cX5_ones 3 (some .int), Cond.methodLink RX5 91 yX5_nearestNet, Cond.instanceMethod yX5_nearestNet, Cond.selects RX5 yX5_nearestNet yX5_nearestNet, Cond.code yX5_nearestNet cX5_nearestNet 4 (some .int), Cond.methodLink RX5 85 yX5_netFar, Cond.instanceMethod yX5_netFar]
def wsX5_nearest_r4 : List Cond := [Cond.selects RX5 yX5_netFar yX5_netFar, Cond.code yX5_netFar cX5_netFar 7 (some .int), Cond.fieldLink RX5 20 "FewLooksModel" "joined" "[I"]
def wsX5_nearest : List Cond := .code yX5_nearest cX5_nearest 3 (some .int) :: ((wsX5_nearest_r1 ++ (wsX5_nearest_r2 ++ (wsX5_nearest_r3 ++ wsX5_nearest_r4))) ++ wsX50)
def wsX5_mend_r1 : List Cond := [Cond.fieldLink RX5 7 "FewLooksModel" "n" "I", Cond.fieldLink RX5 13 "FewLooksModel" "row" "[I", Cond.fieldLink RX5 26 "FewLooksModel" "it" "[I", Cond.fieldLink RX5 20 "FewLooksModel" "joined" "[I", Cond.methodLink RX5 94 yX5_isSubject, Cond.static yX5_isSubject, Cond.initialized RX5, Cond.code yX5_isSubject cX5_isSubject 1 (some .boolean), Cond.methodLink RX5 32 yX5_in, Cond.static yX5_in, Cond.code yX5_in cX5_in 3 (some .boolean), Cond.methodLink RX5 97 yX5_distanceOf, Cond.instanceMethod yX5_distanceOf, Cond.selects RX5 yX5_distanceOf yX5_distanceOf, Cond.code yX5_distanceOf cX5_distanceOf 2 (some .int), Cond.methodLink RX5 79 yX5_rowDistance, Cond.instanceMethod yX5_rowDistance, Cond.selects RX5 yX5_rowDistance yX5_rowDistance, Cond.code yX5_rowDistance cX5_rowDistance 2 (some .int), Cond.methodLink RX5 73 yX5_takeRow, Cond.instanceMethod yX5_takeRow, Cond.selects RX5 yX5_takeRow yX5_takeRow, Cond.code yX5_takeRow cX5_takeRow 2 none, Cond.methodLink RX5 76 yX5_fromKind]
def wsX5_mend_r2 : List Cond := [Cond.instanceMethod yX5_fromKind, Cond.selects RX5 yX5_fromKind yX5_fromKind, Cond.code yX5_fromKind cX5_fromKind 2 (some .int), Cond.methodLink RX5 60 yX5_fromRising, Cond.instanceMethod yX5_fromRising, Cond.selects RX5 yX5_fromRising yX5_fromRising, Cond.code yX5_fromRising cX5_fromRising 4 (some .int), Cond.fieldLink RX5 29 "FewLooksModel" "rise" "[I", Cond.methodLink RX5 64 yX5_fromMirrored, Cond.instanceMethod yX5_fromMirrored, Cond.selects RX5 yX5_fromMirrored yX5_fromMirrored, Cond.code yX5_fromMirrored cX5_fromMirrored 3 (some .int), Cond.methodLink RX5 67 yX5_fromEven, Cond.instanceMethod yX5_fromEven, Cond.selects RX5 yX5_fromEven yX5_fromEven, Cond.code yX5_fromEven cX5_fromEven 3 (some .int), Cond.methodLink RX5 70 yX5_fromRound, Cond.instanceMethod yX5_fromRound, Cond.selects RX5 yX5_fromRound yX5_fromRound, Cond.code yX5_fromRound cX5_fromRound 4 (some .int), Cond.methodLink RX5 57 yX5_fromShift, Cond.instanceMethod yX5_fromShift, Cond.selects RX5 yX5_fromShift yX5_fromShift, Cond.code yX5_fromShift cX5_fromShift 10 (some .int)]
def wsX5_mend_r3 : List Cond := [Cond.methodLink RX5 88 yX5_nearestTable, Cond.instanceMethod yX5_nearestTable, Cond.selects RX5 yX5_nearestTable yX5_nearestTable, Cond.code yX5_nearestTable cX5_nearestTable 3 (some .int), Cond.methodLink RX5 82 yX5_tableFar, Cond.instanceMethod yX5_tableFar, Cond.selects RX5 yX5_tableFar yX5_tableFar, Cond.code yX5_tableFar cX5_tableFar 4 (some .int), Cond.fieldLink RX5 17 "FewLooksModel" "table" "[I", Cond.methodLink RX5 50 yX5_parity, Cond.static yX5_parity, Cond.code yX5_parity cX5_parity 2 (some .int), Cond.methodLink RX5 46 yX5_ones, Cond.static yX5_ones, Cond.code yX5_ones cX5_ones 3 (some .int), Cond.methodLink RX5 91 yX5_nearestNet, Cond.instanceMethod yX5_nearestNet, Cond.selects RX5 yX5_nearestNet yX5_nearestNet, Cond.code yX5_nearestNet cX5_nearestNet 4 (some .int), Cond.methodLink RX5 85 yX5_netFar, Cond.instanceMethod yX5_netFar, Cond.selects RX5 yX5_netFar yX5_netFar, Cond.code yX5_netFar cX5_netFar 7 (some .int), Cond.methodLink RX5 100 yX5_findNearest]
def wsX5_mend_r4 : List Cond := [Cond.instanceMethod yX5_findNearest, Cond.selects RX5 yX5_findNearest yX5_findNearest, Cond.code yX5_findNearest cX5_findNearest 7 none, Cond.methodLink RX5 104 yX5_linear, Cond.instanceMethod yX5_linear, Cond.selects RX5 yX5_linear yX5_linear, Cond.code yX5_linear cX5_linear 3 (some .int), Cond.methodLink RX5 40 yX5_isEight, Cond.static yX5_isEight, Cond.code yX5_isEight cX5_isEight 1 (some .boolean)]
def wsX5_mend : List Cond := .code yX5_mend cX5_mend 6 (some .int) :: ((wsX5_mend_r1 ++ (wsX5_mend_r2 ++ (wsX5_mend_r3 ++ wsX5_mend_r4))) ++ wsX50)
def wsX5_passesTable : List Cond := .code yX5_passesTable cX5_passesTable 3 (some .boolean) :: ([])
def wsX5_countRow : List Cond := .code yX5_countRow cX5_countRow 4 none :: ([.fieldLink RX5 107 "FewLooksModel" "above" "J", .fieldLink RX5 111 "FewLooksModel" "below" "J", .fieldLink RX5 7 "FewLooksModel" "n" "I", .fieldLink RX5 26 "FewLooksModel" "it" "[I", .methodLink RX5 67 yX5_fromEven, .instanceMethod yX5_fromEven, .selects RX5 yX5_fromEven yX5_fromEven, .initialized RX5, .code yX5_fromEven cX5_fromEven 3 (some .int)] ++ wsX50)
def wsX5_countTable : List Cond := .code yX5_countTable cX5_countTable 3 none :: ([.fieldLink RX5 107 "FewLooksModel" "above" "J", .constantLong RX5 114 (64), .fieldLink RX5 111 "FewLooksModel" "below" "J", .fieldLink RX5 17 "FewLooksModel" "table" "[I", .methodLink RX5 116 yX5_passesTable, .static yX5_passesTable, .initialized RX5, .code yX5_passesTable cX5_passesTable 3 (some .boolean)] ++ wsX50)
def wsX5_passesNet : List Cond := .code yX5_passesNet cX5_passesNet 2 (some .boolean) :: ([.methodLink RX5 91 yX5_nearestNet, .instanceMethod yX5_nearestNet, .selects RX5 yX5_nearestNet yX5_nearestNet, .initialized RX5, .code yX5_nearestNet cX5_nearestNet 4 (some .int), .methodLink RX5 85 yX5_netFar, .instanceMethod yX5_netFar, .selects RX5 yX5_netFar yX5_netFar, .code yX5_netFar cX5_netFar 7 (some .int), .fieldLink RX5 20 "FewLooksModel" "joined" "[I"] ++ wsX50)
def wsX5_countNet : List Cond := .code yX5_countNet cX5_countNet 2 none :: ([.fieldLink RX5 107 "FewLooksModel" "above" "J", .fieldLink RX5 111 "FewLooksModel" "below" "J", .fieldLink RX5 23 "FewLooksModel" "k" "I", .methodLink RX5 46 yX5_ones, .static yX5_ones, .initialized RX5, .code yX5_ones cX5_ones 3 (some .int), .methodLink RX5 119 yX5_passesNet, .instanceMethod yX5_passesNet, .selects RX5 yX5_passesNet yX5_passesNet, .code yX5_passesNet cX5_passesNet 2 (some .boolean), .methodLink RX5 91 yX5_nearestNet, .instanceMethod yX5_nearestNet, .selects RX5 yX5_nearestNet yX5_nearestNet, .code yX5_nearestNet cX5_nearestNet 4 (some .int), .methodLink RX5 85 yX5_netFar, .instanceMethod yX5_netFar, .selects RX5 yX5_netFar yX5_netFar, .code yX5_netFar cX5_netFar 7 (some .int), .fieldLink RX5 20 "FewLooksModel" "joined" "[I"] ++ wsX50)
def wsX5_reduce : List Cond := .code yX5_reduce cX5_reduce 7 none :: ([.fieldLink RX5 107 "FewLooksModel" "above" "J", .fieldLink RX5 111 "FewLooksModel" "below" "J"] ++ wsX50)
def wsX5_findPass_r1 : List Cond := [Cond.methodLink RX5 73 yX5_takeRow, Cond.instanceMethod yX5_takeRow, Cond.selects RX5 yX5_takeRow yX5_takeRow, Cond.initialized RX5, Cond.code yX5_takeRow cX5_takeRow 2 none, Cond.fieldLink RX5 7 "FewLooksModel" "n" "I", Cond.fieldLink RX5 26 "FewLooksModel" "it" "[I", Cond.fieldLink RX5 13 "FewLooksModel" "row" "[I", Cond.methodLink RX5 122 yX5_countRow, Cond.instanceMethod yX5_countRow, Cond.selects RX5 yX5_countRow yX5_countRow, Cond.code yX5_countRow cX5_countRow 4 none, Cond.fieldLink RX5 107 "FewLooksModel" "above" "J", Cond.fieldLink RX5 111 "FewLooksModel" "below" "J", Cond.methodLink RX5 67 yX5_fromEven, Cond.instanceMethod yX5_fromEven, Cond.selects RX5 yX5_fromEven yX5_fromEven, Cond.code yX5_fromEven cX5_fromEven 3 (some .int), Cond.methodLink RX5 125 yX5_countTable, Cond.instanceMethod yX5_countTable, Cond.selects RX5 yX5_countTable yX5_countTable, Cond.code yX5_countTable cX5_countTable 3 none, Cond.constantLong RX5 114 (64), Cond.fieldLink RX5 17 "FewLooksModel" "table" "[I"]
def wsX5_findPass_r2 : List Cond := [Cond.methodLink RX5 116 yX5_passesTable, Cond.static yX5_passesTable, Cond.code yX5_passesTable cX5_passesTable 3 (some .boolean), Cond.methodLink RX5 128 yX5_countNet, Cond.instanceMethod yX5_countNet, Cond.selects RX5 yX5_countNet yX5_countNet, Cond.code yX5_countNet cX5_countNet 2 none, Cond.fieldLink RX5 23 "FewLooksModel" "k" "I", Cond.methodLink RX5 46 yX5_ones, Cond.static yX5_ones, Cond.code yX5_ones cX5_ones 3 (some .int), Cond.methodLink RX5 119 yX5_passesNet, Cond.instanceMethod yX5_passesNet, Cond.selects RX5 yX5_passesNet yX5_passesNet, Cond.code yX5_passesNet cX5_passesNet 2 (some .boolean), Cond.methodLink RX5 91 yX5_nearestNet, Cond.instanceMethod yX5_nearestNet, Cond.selects RX5 yX5_nearestNet yX5_nearestNet, Cond.code yX5_nearestNet cX5_nearestNet 4 (some .int), Cond.methodLink RX5 85 yX5_netFar, Cond.instanceMethod yX5_netFar, Cond.selects RX5 yX5_netFar yX5_netFar, Cond.code yX5_netFar cX5_netFar 7 (some .int), Cond.fieldLink RX5 20 "FewLooksModel" "joined" "[I"]
def wsX5_findPass_r3 : List Cond := [Cond.methodLink RX5 131 yX5_reduce, Cond.instanceMethod yX5_reduce, Cond.selects RX5 yX5_reduce yX5_reduce, Cond.code yX5_reduce cX5_reduce 7 none]
def wsX5_findPass : List Cond := .code yX5_findPass cX5_findPass 2 none :: ((wsX5_findPass_r1 ++ (wsX5_findPass_r2 ++ wsX5_findPass_r3)) ++ wsX50)
def wsX5_pass_r1 : List Cond := [Cond.constantLong RX5 134 (-2), Cond.fieldLink RX5 107 "FewLooksModel" "above" "J", Cond.fieldLink RX5 111 "FewLooksModel" "below" "J", Cond.methodLink RX5 94 yX5_isSubject, Cond.static yX5_isSubject, Cond.initialized RX5, Cond.code yX5_isSubject cX5_isSubject 1 (some .boolean), Cond.methodLink RX5 32 yX5_in, Cond.static yX5_in, Cond.code yX5_in cX5_in 3 (some .boolean), Cond.methodLink RX5 43 yX5_isBit, Cond.static yX5_isBit, Cond.code yX5_isBit cX5_isBit 1 (some .boolean), Cond.methodLink RX5 136 yX5_findPass, Cond.instanceMethod yX5_findPass, Cond.selects RX5 yX5_findPass yX5_findPass, Cond.code yX5_findPass cX5_findPass 2 none, Cond.methodLink RX5 73 yX5_takeRow, Cond.instanceMethod yX5_takeRow, Cond.selects RX5 yX5_takeRow yX5_takeRow, Cond.code yX5_takeRow cX5_takeRow 2 none, Cond.fieldLink RX5 7 "FewLooksModel" "n" "I", Cond.fieldLink RX5 26 "FewLooksModel" "it" "[I", Cond.fieldLink RX5 13 "FewLooksModel" "row" "[I"]
def wsX5_pass_r2 : List Cond := [Cond.methodLink RX5 122 yX5_countRow, Cond.instanceMethod yX5_countRow, Cond.selects RX5 yX5_countRow yX5_countRow, Cond.code yX5_countRow cX5_countRow 4 none, Cond.methodLink RX5 67 yX5_fromEven, Cond.instanceMethod yX5_fromEven, Cond.selects RX5 yX5_fromEven yX5_fromEven, Cond.code yX5_fromEven cX5_fromEven 3 (some .int), Cond.methodLink RX5 125 yX5_countTable, Cond.instanceMethod yX5_countTable, Cond.selects RX5 yX5_countTable yX5_countTable, Cond.code yX5_countTable cX5_countTable 3 none, Cond.constantLong RX5 114 (64), Cond.fieldLink RX5 17 "FewLooksModel" "table" "[I", Cond.methodLink RX5 116 yX5_passesTable, Cond.static yX5_passesTable, Cond.code yX5_passesTable cX5_passesTable 3 (some .boolean), Cond.methodLink RX5 128 yX5_countNet, Cond.instanceMethod yX5_countNet, Cond.selects RX5 yX5_countNet yX5_countNet, Cond.code yX5_countNet cX5_countNet 2 none, Cond.fieldLink RX5 23 "FewLooksModel" "k" "I", Cond.methodLink RX5 46 yX5_ones, Cond.static yX5_ones]
def wsX5_pass_r3 : List Cond := [Cond.code yX5_ones cX5_ones 3 (some .int), Cond.methodLink RX5 119 yX5_passesNet, Cond.instanceMethod yX5_passesNet, Cond.selects RX5 yX5_passesNet yX5_passesNet, Cond.code yX5_passesNet cX5_passesNet 2 (some .boolean), Cond.methodLink RX5 91 yX5_nearestNet, Cond.instanceMethod yX5_nearestNet, Cond.selects RX5 yX5_nearestNet yX5_nearestNet, Cond.code yX5_nearestNet cX5_nearestNet 4 (some .int), Cond.methodLink RX5 85 yX5_netFar, Cond.instanceMethod yX5_netFar, Cond.selects RX5 yX5_netFar yX5_netFar, Cond.code yX5_netFar cX5_netFar 7 (some .int), Cond.fieldLink RX5 20 "FewLooksModel" "joined" "[I", Cond.methodLink RX5 131 yX5_reduce, Cond.instanceMethod yX5_reduce, Cond.selects RX5 yX5_reduce yX5_reduce, Cond.code yX5_reduce cX5_reduce 7 none]
def wsX5_pass : List Cond := .code yX5_pass cX5_pass 3 (some .long) :: ((wsX5_pass_r1 ++ (wsX5_pass_r2 ++ wsX5_pass_r3)) ++ wsX50)
def wsX5_repeats_r1 : List Cond := [Cond.fieldLink RX5 107 "FewLooksModel" "above" "J", Cond.fieldLink RX5 111 "FewLooksModel" "below" "J", Cond.methodLink RX5 94 yX5_isSubject, Cond.static yX5_isSubject, Cond.initialized RX5, Cond.code yX5_isSubject cX5_isSubject 1 (some .boolean), Cond.methodLink RX5 32 yX5_in, Cond.static yX5_in, Cond.code yX5_in cX5_in 3 (some .boolean), Cond.methodLink RX5 136 yX5_findPass, Cond.instanceMethod yX5_findPass, Cond.selects RX5 yX5_findPass yX5_findPass, Cond.code yX5_findPass cX5_findPass 2 none, Cond.methodLink RX5 73 yX5_takeRow, Cond.instanceMethod yX5_takeRow, Cond.selects RX5 yX5_takeRow yX5_takeRow, Cond.code yX5_takeRow cX5_takeRow 2 none, Cond.fieldLink RX5 7 "FewLooksModel" "n" "I", Cond.fieldLink RX5 26 "FewLooksModel" "it" "[I", Cond.fieldLink RX5 13 "FewLooksModel" "row" "[I", Cond.methodLink RX5 122 yX5_countRow, Cond.instanceMethod yX5_countRow, Cond.selects RX5 yX5_countRow yX5_countRow, Cond.code yX5_countRow cX5_countRow 4 none]
def wsX5_repeats_r2 : List Cond := [Cond.methodLink RX5 67 yX5_fromEven, Cond.instanceMethod yX5_fromEven, Cond.selects RX5 yX5_fromEven yX5_fromEven, Cond.code yX5_fromEven cX5_fromEven 3 (some .int), Cond.methodLink RX5 125 yX5_countTable, Cond.instanceMethod yX5_countTable, Cond.selects RX5 yX5_countTable yX5_countTable, Cond.code yX5_countTable cX5_countTable 3 none, Cond.constantLong RX5 114 (64), Cond.fieldLink RX5 17 "FewLooksModel" "table" "[I", Cond.methodLink RX5 116 yX5_passesTable, Cond.static yX5_passesTable, Cond.code yX5_passesTable cX5_passesTable 3 (some .boolean), Cond.methodLink RX5 128 yX5_countNet, Cond.instanceMethod yX5_countNet, Cond.selects RX5 yX5_countNet yX5_countNet, Cond.code yX5_countNet cX5_countNet 2 none, Cond.fieldLink RX5 23 "FewLooksModel" "k" "I", Cond.methodLink RX5 46 yX5_ones, Cond.static yX5_ones, Cond.code yX5_ones cX5_ones 3 (some .int), Cond.methodLink RX5 119 yX5_passesNet, Cond.instanceMethod yX5_passesNet, Cond.selects RX5 yX5_passesNet yX5_passesNet]
def wsX5_repeats_r3 : List Cond := [Cond.code yX5_passesNet cX5_passesNet 2 (some .boolean), Cond.methodLink RX5 91 yX5_nearestNet, Cond.instanceMethod yX5_nearestNet, Cond.selects RX5 yX5_nearestNet yX5_nearestNet, Cond.code yX5_nearestNet cX5_nearestNet 4 (some .int), Cond.methodLink RX5 85 yX5_netFar, Cond.instanceMethod yX5_netFar, Cond.selects RX5 yX5_netFar yX5_netFar, Cond.code yX5_netFar cX5_netFar 7 (some .int), Cond.fieldLink RX5 20 "FewLooksModel" "joined" "[I", Cond.methodLink RX5 131 yX5_reduce, Cond.instanceMethod yX5_reduce, Cond.selects RX5 yX5_reduce yX5_reduce, Cond.code yX5_reduce cX5_reduce 7 none]
def wsX5_repeats : List Cond := .code yX5_repeats cX5_repeats 9 (some .int) :: ((wsX5_repeats_r1 ++ (wsX5_repeats_r2 ++ wsX5_repeats_r3)) ++ wsX50)
def wsX5_findWorst_r1 : List Cond := [Cond.fieldLink RX5 7 "FewLooksModel" "n" "I", Cond.fieldLink RX5 26 "FewLooksModel" "it" "[I", Cond.fieldLink RX5 107 "FewLooksModel" "above" "J", Cond.fieldLink RX5 139 "FewLooksModel" "worstBelow" "J", Cond.fieldLink RX5 142 "FewLooksModel" "worstAbove" "J", Cond.fieldLink RX5 111 "FewLooksModel" "below" "J", Cond.methodLink RX5 76 yX5_fromKind, Cond.instanceMethod yX5_fromKind, Cond.selects RX5 yX5_fromKind yX5_fromKind, Cond.initialized RX5, Cond.code yX5_fromKind cX5_fromKind 2 (some .int), Cond.methodLink RX5 60 yX5_fromRising, Cond.instanceMethod yX5_fromRising, Cond.selects RX5 yX5_fromRising yX5_fromRising, Cond.code yX5_fromRising cX5_fromRising 4 (some .int), Cond.fieldLink RX5 29 "FewLooksModel" "rise" "[I", Cond.methodLink RX5 64 yX5_fromMirrored, Cond.instanceMethod yX5_fromMirrored, Cond.selects RX5 yX5_fromMirrored yX5_fromMirrored, Cond.code yX5_fromMirrored cX5_fromMirrored 3 (some .int), Cond.methodLink RX5 67 yX5_fromEven, Cond.instanceMethod yX5_fromEven, Cond.selects RX5 yX5_fromEven yX5_fromEven, Cond.code yX5_fromEven cX5_fromEven 3 (some .int)]
def wsX5_findWorst_r2 : List Cond := [Cond.methodLink RX5 70 yX5_fromRound, Cond.instanceMethod yX5_fromRound, Cond.selects RX5 yX5_fromRound yX5_fromRound, Cond.code yX5_fromRound cX5_fromRound 4 (some .int), Cond.methodLink RX5 57 yX5_fromShift, Cond.instanceMethod yX5_fromShift, Cond.selects RX5 yX5_fromShift yX5_fromShift, Cond.code yX5_fromShift cX5_fromShift 10 (some .int), Cond.methodLink RX5 122 yX5_countRow, Cond.instanceMethod yX5_countRow, Cond.selects RX5 yX5_countRow yX5_countRow, Cond.code yX5_countRow cX5_countRow 4 none]
def wsX5_findWorst : List Cond := .code yX5_findWorst cX5_findWorst 6 (some .int) :: ((wsX5_findWorst_r1 ++ wsX5_findWorst_r2) ++ wsX50)
def wsX5_worst_r1 : List Cond := [Cond.fieldLink RX5 7 "FewLooksModel" "n" "I", Cond.fieldLink RX5 142 "FewLooksModel" "worstAbove" "J", Cond.fieldLink RX5 107 "FewLooksModel" "above" "J", Cond.fieldLink RX5 139 "FewLooksModel" "worstBelow" "J", Cond.fieldLink RX5 111 "FewLooksModel" "below" "J", Cond.methodLink RX5 32 yX5_in, Cond.static yX5_in, Cond.initialized RX5, Cond.code yX5_in cX5_in 3 (some .boolean), Cond.methodLink RX5 36 yX5_isPlace, Cond.instanceMethod yX5_isPlace, Cond.selects RX5 yX5_isPlace yX5_isPlace, Cond.code yX5_isPlace cX5_isPlace 2 (some .boolean), Cond.methodLink RX5 145 yX5_findWorst, Cond.instanceMethod yX5_findWorst, Cond.selects RX5 yX5_findWorst yX5_findWorst, Cond.code yX5_findWorst cX5_findWorst 6 (some .int), Cond.fieldLink RX5 26 "FewLooksModel" "it" "[I", Cond.methodLink RX5 76 yX5_fromKind, Cond.instanceMethod yX5_fromKind, Cond.selects RX5 yX5_fromKind yX5_fromKind, Cond.code yX5_fromKind cX5_fromKind 2 (some .int), Cond.methodLink RX5 60 yX5_fromRising, Cond.instanceMethod yX5_fromRising]
def wsX5_worst_r2 : List Cond := [Cond.selects RX5 yX5_fromRising yX5_fromRising, Cond.code yX5_fromRising cX5_fromRising 4 (some .int), Cond.fieldLink RX5 29 "FewLooksModel" "rise" "[I", Cond.methodLink RX5 64 yX5_fromMirrored, Cond.instanceMethod yX5_fromMirrored, Cond.selects RX5 yX5_fromMirrored yX5_fromMirrored, Cond.code yX5_fromMirrored cX5_fromMirrored 3 (some .int), Cond.methodLink RX5 67 yX5_fromEven, Cond.instanceMethod yX5_fromEven, Cond.selects RX5 yX5_fromEven yX5_fromEven, Cond.code yX5_fromEven cX5_fromEven 3 (some .int), Cond.methodLink RX5 70 yX5_fromRound, Cond.instanceMethod yX5_fromRound, Cond.selects RX5 yX5_fromRound yX5_fromRound, Cond.code yX5_fromRound cX5_fromRound 4 (some .int), Cond.methodLink RX5 57 yX5_fromShift, Cond.instanceMethod yX5_fromShift, Cond.selects RX5 yX5_fromShift yX5_fromShift, Cond.code yX5_fromShift cX5_fromShift 10 (some .int), Cond.methodLink RX5 122 yX5_countRow, Cond.instanceMethod yX5_countRow, Cond.selects RX5 yX5_countRow yX5_countRow, Cond.code yX5_countRow cX5_countRow 4 none, Cond.methodLink RX5 131 yX5_reduce]
def wsX5_worst_r3 : List Cond := [Cond.instanceMethod yX5_reduce, Cond.selects RX5 yX5_reduce yX5_reduce, Cond.code yX5_reduce cX5_reduce 7 none]
def wsX5_worst : List Cond := .code yX5_worst cX5_worst 6 (some .int) :: ((wsX5_worst_r1 ++ (wsX5_worst_r2 ++ wsX5_worst_r3)) ++ wsX50)
def wsX5_mended : List Cond := .code yX5_mended cX5_mended 5 (some .int) :: ([.fieldLink RX5 17 "FewLooksModel" "table" "[I", .methodLink RX5 40 yX5_isEight, .static yX5_isEight, .initialized RX5, .code yX5_isEight cX5_isEight 1 (some .boolean), .methodLink RX5 32 yX5_in, .static yX5_in, .code yX5_in cX5_in 3 (some .boolean), .methodLink RX5 43 yX5_isBit, .static yX5_isBit, .code yX5_isBit cX5_isBit 1 (some .boolean)] ++ wsX50)
def wsX5_maySubject : List Cond := .code yX5_maySubject cX5_maySubject 4 (some .boolean) :: ([.fieldLink RX5 23 "FewLooksModel" "k" "I", .methodLink RX5 36 yX5_isPlace, .instanceMethod yX5_isPlace, .selects RX5 yX5_isPlace yX5_isPlace, .initialized RX5, .code yX5_isPlace cX5_isPlace 2 (some .boolean), .fieldLink RX5 7 "FewLooksModel" "n" "I", .methodLink RX5 32 yX5_in, .static yX5_in, .code yX5_in cX5_in 3 (some .boolean), .methodLink RX5 40 yX5_isEight, .static yX5_isEight, .code yX5_isEight cX5_isEight 1 (some .boolean), .methodLink RX5 46 yX5_ones, .static yX5_ones, .code yX5_ones cX5_ones 3 (some .int)] ++ wsX50)
def wsX5_showsOf : List Cond := .code yX5_showsOf cX5_showsOf 4 (some .boolean) :: ([.fieldLink RX5 13 "FewLooksModel" "row" "[I", .fieldLink RX5 17 "FewLooksModel" "table" "[I", .methodLink RX5 116 yX5_passesTable, .static yX5_passesTable, .initialized RX5, .code yX5_passesTable cX5_passesTable 3 (some .boolean), .methodLink RX5 119 yX5_passesNet, .instanceMethod yX5_passesNet, .selects RX5 yX5_passesNet yX5_passesNet, .code yX5_passesNet cX5_passesNet 2 (some .boolean), .methodLink RX5 91 yX5_nearestNet, .instanceMethod yX5_nearestNet, .selects RX5 yX5_nearestNet yX5_nearestNet, .code yX5_nearestNet cX5_nearestNet 4 (some .int), .methodLink RX5 85 yX5_netFar, .instanceMethod yX5_netFar, .selects RX5 yX5_netFar yX5_netFar, .code yX5_netFar cX5_netFar 7 (some .int), .fieldLink RX5 20 "FewLooksModel" "joined" "[I"] ++ wsX50)
def wsX5_shows_r1 : List Cond := [Cond.methodLink RX5 148 yX5_maySubject, Cond.instanceMethod yX5_maySubject, Cond.selects RX5 yX5_maySubject yX5_maySubject, Cond.initialized RX5, Cond.code yX5_maySubject cX5_maySubject 4 (some .boolean), Cond.fieldLink RX5 23 "FewLooksModel" "k" "I", Cond.methodLink RX5 36 yX5_isPlace, Cond.instanceMethod yX5_isPlace, Cond.selects RX5 yX5_isPlace yX5_isPlace, Cond.code yX5_isPlace cX5_isPlace 2 (some .boolean), Cond.fieldLink RX5 7 "FewLooksModel" "n" "I", Cond.methodLink RX5 32 yX5_in, Cond.static yX5_in, Cond.code yX5_in cX5_in 3 (some .boolean), Cond.methodLink RX5 40 yX5_isEight, Cond.static yX5_isEight, Cond.code yX5_isEight cX5_isEight 1 (some .boolean), Cond.methodLink RX5 46 yX5_ones, Cond.static yX5_ones, Cond.code yX5_ones cX5_ones 3 (some .int), Cond.methodLink RX5 151 yX5_showsOf, Cond.instanceMethod yX5_showsOf, Cond.selects RX5 yX5_showsOf yX5_showsOf, Cond.code yX5_showsOf cX5_showsOf 4 (some .boolean)]
def wsX5_shows_r2 : List Cond := [Cond.fieldLink RX5 13 "FewLooksModel" "row" "[I", Cond.fieldLink RX5 17 "FewLooksModel" "table" "[I", Cond.methodLink RX5 116 yX5_passesTable, Cond.static yX5_passesTable, Cond.code yX5_passesTable cX5_passesTable 3 (some .boolean), Cond.methodLink RX5 119 yX5_passesNet, Cond.instanceMethod yX5_passesNet, Cond.selects RX5 yX5_passesNet yX5_passesNet, Cond.code yX5_passesNet cX5_passesNet 2 (some .boolean), Cond.methodLink RX5 91 yX5_nearestNet, Cond.instanceMethod yX5_nearestNet, Cond.selects RX5 yX5_nearestNet yX5_nearestNet, Cond.code yX5_nearestNet cX5_nearestNet 4 (some .int), Cond.methodLink RX5 85 yX5_netFar, Cond.instanceMethod yX5_netFar, Cond.selects RX5 yX5_netFar yX5_netFar, Cond.code yX5_netFar cX5_netFar 7 (some .int), Cond.fieldLink RX5 20 "FewLooksModel" "joined" "[I"]
def wsX5_shows : List Cond := .code yX5_shows cX5_shows 4 (some .int) :: ((wsX5_shows_r1 ++ wsX5_shows_r2) ++ wsX50)
def wsX5_witness_r1 : List Cond := [Cond.methodLink RX5 148 yX5_maySubject, Cond.instanceMethod yX5_maySubject, Cond.selects RX5 yX5_maySubject yX5_maySubject, Cond.initialized RX5, Cond.code yX5_maySubject cX5_maySubject 4 (some .boolean), Cond.fieldLink RX5 23 "FewLooksModel" "k" "I", Cond.methodLink RX5 36 yX5_isPlace, Cond.instanceMethod yX5_isPlace, Cond.selects RX5 yX5_isPlace yX5_isPlace, Cond.code yX5_isPlace cX5_isPlace 2 (some .boolean), Cond.fieldLink RX5 7 "FewLooksModel" "n" "I", Cond.methodLink RX5 32 yX5_in, Cond.static yX5_in, Cond.code yX5_in cX5_in 3 (some .boolean), Cond.methodLink RX5 40 yX5_isEight, Cond.static yX5_isEight, Cond.code yX5_isEight cX5_isEight 1 (some .boolean), Cond.methodLink RX5 46 yX5_ones, Cond.static yX5_ones, Cond.code yX5_ones cX5_ones 3 (some .int), Cond.methodLink RX5 151 yX5_showsOf, Cond.instanceMethod yX5_showsOf, Cond.selects RX5 yX5_showsOf yX5_showsOf, Cond.code yX5_showsOf cX5_showsOf 4 (some .boolean)]
def wsX5_witness_r2 : List Cond := [Cond.fieldLink RX5 13 "FewLooksModel" "row" "[I", Cond.fieldLink RX5 17 "FewLooksModel" "table" "[I", Cond.methodLink RX5 116 yX5_passesTable, Cond.static yX5_passesTable, Cond.code yX5_passesTable cX5_passesTable 3 (some .boolean), Cond.methodLink RX5 119 yX5_passesNet, Cond.instanceMethod yX5_passesNet, Cond.selects RX5 yX5_passesNet yX5_passesNet, Cond.code yX5_passesNet cX5_passesNet 2 (some .boolean), Cond.methodLink RX5 91 yX5_nearestNet, Cond.instanceMethod yX5_nearestNet, Cond.selects RX5 yX5_nearestNet yX5_nearestNet, Cond.code yX5_nearestNet cX5_nearestNet 4 (some .int), Cond.methodLink RX5 85 yX5_netFar, Cond.instanceMethod yX5_netFar, Cond.selects RX5 yX5_netFar yX5_netFar, Cond.code yX5_netFar cX5_netFar 7 (some .int), Cond.fieldLink RX5 20 "FewLooksModel" "joined" "[I"]
def wsX5_witness : List Cond := .code yX5_witness cX5_witness 4 (some .int) :: ((wsX5_witness_r1 ++ wsX5_witness_r2) ++ wsX50)
def wsX5_count : List Cond := .code yX5_count cX5_count 4 (some .int) :: ([.fieldLink RX5 7 "FewLooksModel" "n" "I", .fieldLink RX5 23 "FewLooksModel" "k" "I", .fieldLink RX5 20 "FewLooksModel" "joined" "[I", .fieldLink RX5 17 "FewLooksModel" "table" "[I", .fieldLink RX5 13 "FewLooksModel" "row" "[I", .methodLink RX5 46 yX5_ones, .static yX5_ones, .initialized RX5, .code yX5_ones cX5_ones 3 (some .int)] ++ wsX50)
def wsJ9_min_7cf53 : List Cond := .code yJ9_min_7cf53 cJ9_min_7cf53 2 (some .int) :: ([])
def wsL_law_r1 : List Cond := [Cond.classLink RL 7 RX4, Cond.instantiable RX4 6, Cond.initialized RX4, Cond.classLink RL 10 RX5, Cond.instantiable RX5 11, Cond.initialized RX5, Cond.methodLink RL 9 yX4_init, Cond.instanceMethod yX4_init, Cond.code yX4_init cX4_init 1 none, Cond.methodLink RX4 1 objectInit, Cond.instanceMethod objectInit, Cond.code objectInit ⟨#[0xb1]⟩ 1 none, Cond.classLink RX4 7 RX2, Cond.instantiable RX2 2, Cond.initialized RX2, Cond.fieldLink RX4 10 "FewLooks" "row" "LFewLooks$Row;", Cond.fieldLink RX4 16 "FewLooks" "trial" "LFewLooks$Row;", Cond.classLink RX4 19 RX0, Cond.instantiable RX0 3, Cond.initialized RX0, Cond.fieldLink RX4 22 "FewLooks" "mender" "LFewLooks$Mender;", Cond.classLink RX4 26 RX3, Cond.instantiable RX3 1, Cond.initialized RX3]
def wsL_law_r2 : List Cond := [Cond.fieldLink RX4 29 "FewLooks" "table" "LFewLooks$Table;", Cond.classLink RX4 33 RX1, Cond.instantiable RX1 1, Cond.initialized RX1, Cond.fieldLink RX4 36 "FewLooks" "net" "LFewLooks$Net;", Cond.fieldLink RX4 40 "FewLooks" "drawn" "I", Cond.instanceMethod yX2_init, Cond.code yX2_init cX2_init 1 none, Cond.methodLink RX2 3 objectInit, Cond.arrayClass .int, Cond.fieldLink RX2 9 "FewLooks$Row" "digits" "[I", Cond.fieldLink RX2 15 "FewLooks$Row" "size" "I", Cond.instanceMethod yX0_init, Cond.code yX0_init cX0_init 1 none, Cond.methodLink RX0 3 objectInit, Cond.classLink RX0 9 RX2, Cond.fieldLink RX0 12 "FewLooks$Mender" "near" "LFewLooks$Row;", Cond.fieldLink RX0 18 "FewLooks$Mender" "guess" "LFewLooks$Row;", Cond.fieldLink RX0 21 "FewLooks$Mender" "costs" "[I", Cond.instanceMethod yX3_init, Cond.code yX3_init cX3_init 1 none, Cond.methodLink RX3 3 objectInit, Cond.fieldLink RX3 9 "FewLooks$Table" "bits" "I", Cond.instanceMethod yX1_init]
def wsL_law_r3 : List Cond := [Cond.code yX1_init cX1_init 1 none, Cond.methodLink RX1 3 objectInit, Cond.fieldLink RX1 9 "FewLooks$Net" "joins" "[I", Cond.methodLink RL 12 yX5_init, Cond.instanceMethod yX5_init, Cond.code yX5_init cX5_init 1 none, Cond.methodLink RX5 1 objectInit, Cond.fieldLink RX5 7 "FewLooksModel" "n" "I", Cond.fieldLink RX5 13 "FewLooksModel" "row" "[I", Cond.fieldLink RX5 17 "FewLooksModel" "table" "[I", Cond.fieldLink RX5 20 "FewLooksModel" "joined" "[I", Cond.fieldLink RX5 23 "FewLooksModel" "k" "I", Cond.fieldLink RX5 26 "FewLooksModel" "it" "[I", Cond.fieldLink RX5 29 "FewLooksModel" "rise" "[I", Cond.methodLink RL 13 yX4_places, Cond.instanceMethod yX4_places, Cond.selects RX4 yX4_places yX4_places, Cond.code yX4_places cX4_places 3 (some .int), Cond.methodLink RX4 44 yX4_within, Cond.static yX4_within, Cond.code yX4_within cX4_within 3 (some .boolean), Cond.methodLink RX4 51 yX2_clear, Cond.instanceMethod yX2_clear, Cond.selects RX2 yX2_clear yX2_clear]
def wsL_law_r4 : List Cond := [Cond.code yX2_clear cX2_clear 3 none, Cond.methodLink RL 17 yX5_places, Cond.instanceMethod yX5_places, Cond.selects RX5 yX5_places yX5_places, Cond.code yX5_places cX5_places 4 (some .int), Cond.methodLink RX5 32 yX5_in, Cond.static yX5_in, Cond.code yX5_in cX5_in 3 (some .boolean), Cond.methodLink RL 18 yX4_digit, Cond.instanceMethod yX4_digit, Cond.selects RX4 yX4_digit yX4_digit, Cond.code yX4_digit cX4_digit 4 (some .int), Cond.methodLink RX4 55 yX4_isPlace, Cond.instanceMethod yX4_isPlace, Cond.selects RX4 yX4_isPlace yX4_isPlace, Cond.code yX4_isPlace cX4_isPlace 2 (some .boolean), Cond.methodLink RL 22 yX5_digit, Cond.instanceMethod yX5_digit, Cond.selects RX5 yX5_digit yX5_digit, Cond.code yX5_digit cX5_digit 4 (some .int), Cond.methodLink RX5 36 yX5_isPlace, Cond.instanceMethod yX5_isPlace, Cond.selects RX5 yX5_isPlace yX5_isPlace, Cond.code yX5_isPlace cX5_isPlace 2 (some .boolean)]
def wsL_law_r5 : List Cond := [Cond.methodLink RL 23 yX4_bit, Cond.instanceMethod yX4_bit, Cond.selects RX4 yX4_bit yX4_bit, Cond.code yX4_bit cX4_bit 4 (some .int), Cond.methodLink RX4 63 yX4_isEntry, Cond.static yX4_isEntry, Cond.code yX4_isEntry cX4_isEntry 1 (some .boolean), Cond.methodLink RX4 66 yX3_at, Cond.instanceMethod yX3_at, Cond.selects RX3 yX3_at yX3_at, Cond.code yX3_at cX3_at 2 (some .int), Cond.methodLink RX4 70 yX3_put, Cond.instanceMethod yX3_put, Cond.selects RX3 yX3_put yX3_put, Cond.code yX3_put cX3_put 3 none, Cond.methodLink RL 26 yX5_bit, Cond.instanceMethod yX5_bit, Cond.selects RX5 yX5_bit yX5_bit, Cond.code yX5_bit cX5_bit 4 (some .int), Cond.methodLink RX5 40 yX5_isEight, Cond.static yX5_isEight, Cond.code yX5_isEight cX5_isEight 1 (some .boolean), Cond.methodLink RX5 43 yX5_isBit, Cond.static yX5_isBit]
def wsL_law_r6 : List Cond := [Cond.code yX5_isBit cX5_isBit 1 (some .boolean), Cond.methodLink RL 27 yX4_linear, Cond.instanceMethod yX4_linear, Cond.selects RX4 yX4_linear yX4_linear, Cond.code yX4_linear cX4_linear 2 (some .int), Cond.methodLink RX4 74 yX3_parities, Cond.static yX3_parities, Cond.code yX3_parities cX3_parities 3 (some .int), Cond.methodLink RX3 15 yJ6_bitCount_0f7a4, Cond.static yJ6_bitCount_0f7a4, Cond.initialized RJ6, Cond.code yJ6_bitCount_0f7a4 cJ6_bitCount_0f7a4 1 (some .int), Cond.constant RJ6 265 (1431655765), Cond.constant RJ6 266 (858993459), Cond.constant RJ6 267 (252645135), Cond.methodLink RL 30 yX5_linear, Cond.instanceMethod yX5_linear, Cond.selects RX5 yX5_linear yX5_linear, Cond.code yX5_linear cX5_linear 3 (some .int), Cond.methodLink RX5 50 yX5_parity, Cond.static yX5_parity, Cond.code yX5_parity cX5_parity 2 (some .int), Cond.methodLink RX5 46 yX5_ones, Cond.static yX5_ones]
def wsL_law_r7 : List Cond := [Cond.code yX5_ones cX5_ones 3 (some .int), Cond.methodLink RL 31 yX4_line, Cond.instanceMethod yX4_line, Cond.selects RX4 yX4_line yX4_line, Cond.code yX4_line cX4_line 5 (some .int), Cond.methodLink RX4 80 yX4_isPoint, Cond.static yX4_isPoint, Cond.code yX4_isPoint cX4_isPoint 1 (some .boolean), Cond.methodLink RX4 83 yX1_joined, Cond.instanceMethod yX1_joined, Cond.selects RX1 yX1_joined yX1_joined, Cond.code yX1_joined cX1_joined 3 (some .int), Cond.methodLink RX4 87 yX1_join, Cond.instanceMethod yX1_join, Cond.selects RX1 yX1_join yX1_join, Cond.code yX1_join cX1_join 4 none, Cond.methodLink RL 35 yX5_line, Cond.instanceMethod yX5_line, Cond.selects RX5 yX5_line yX5_line, Cond.code yX5_line cX5_line 5 (some .int), Cond.methodLink RX5 54 yX5_isPoint, Cond.static yX5_isPoint, Cond.code yX5_isPoint cX5_isPoint 1 (some .boolean), Cond.methodLink RL 36 yX4_draw]
def wsL_law_r8 : List Cond := [Cond.instanceMethod yX4_draw, Cond.selects RX4 yX4_draw yX4_draw, Cond.code yX4_draw cX4_draw 3 (some .int), Cond.methodLink RL 39 yX5_draw, Cond.instanceMethod yX5_draw, Cond.selects RX5 yX5_draw yX5_draw, Cond.code yX5_draw cX5_draw 3 (some .int), Cond.methodLink RL 40 yX4_is, Cond.instanceMethod yX4_is, Cond.selects RX4 yX4_is yX4_is, Cond.code yX4_is cX4_is 2 (some .int), Cond.methodLink RX4 91 yX4_isSubject, Cond.static yX4_isSubject, Cond.code yX4_isSubject cX4_isSubject 1 (some .boolean), Cond.methodLink RX4 94 yX4_howFar, Cond.instanceMethod yX4_howFar, Cond.selects RX4 yX4_howFar yX4_howFar, Cond.code yX4_howFar cX4_howFar 2 (some .int), Cond.methodLink RX4 97 yX4_isRow, Cond.static yX4_isRow, Cond.code yX4_isRow cX4_isRow 1 (some .boolean), Cond.methodLink RX4 100 yX0_seek, Cond.instanceMethod yX0_seek, Cond.selects RX0 yX0_seek yX0_seek]
def wsL_law_r9 : List Cond := [Cond.code yX0_seek cX0_seek 3 (some .int), Cond.methodLink RX0 25 yX2_become, Cond.instanceMethod yX2_become, Cond.selects RX2 yX2_become yX2_become, Cond.code yX2_become cX2_become 3 none, Cond.methodLink RX0 29 yX0_raise, Cond.instanceMethod yX0_raise, Cond.selects RX0 yX0_raise yX0_raise, Cond.code yX0_raise cX0_raise 5 none, Cond.methodLink RX0 45 yX0_fillCosts, Cond.instanceMethod yX0_fillCosts, Cond.selects RX0 yX0_fillCosts yX0_fillCosts, Cond.code yX0_fillCosts cX0_fillCosts 5 none, Cond.methodLink RX0 59 Lib.Math.min.name, Cond.static Lib.Math.min.name, Cond.initialized "java/lang/Math", Cond.code Lib.Math.min.name Lib.Math.min.code 2 (some .int), Cond.methodLink RX0 52 yX0_costWith, Cond.instanceMethod yX0_costWith, Cond.selects RX0 yX0_costWith yX0_costWith, Cond.code yX0_costWith cX0_costWith 5 (some .int), Cond.methodLink RX0 32 yX0_mirror, Cond.instanceMethod yX0_mirror, Cond.selects RX0 yX0_mirror yX0_mirror]
def wsL_law_r10 : List Cond := [Cond.code yX0_mirror cX0_mirror 3 none, Cond.methodLink RX0 35 yX0_makeEven, Cond.instanceMethod yX0_makeEven, Cond.selects RX0 yX0_makeEven yX0_makeEven, Cond.code yX0_makeEven cX0_makeEven 2 none, Cond.methodLink RX0 65 yX2_total, Cond.instanceMethod yX2_total, Cond.selects RX2 yX2_total yX2_total, Cond.code yX2_total cX2_total 3 (some .int), Cond.methodLink RX0 38 yX0_makeRound, Cond.instanceMethod yX0_makeRound, Cond.selects RX0 yX0_makeRound yX0_makeRound, Cond.code yX0_makeRound cX0_makeRound 5 none, Cond.methodLink RX0 69 yX0_guessPeriod, Cond.instanceMethod yX0_guessPeriod, Cond.selects RX0 yX0_guessPeriod yX0_guessPeriod, Cond.code yX0_guessPeriod cX0_guessPeriod 4 none, Cond.methodLink RX0 77 yX0_commonest, Cond.static yX0_commonest, Cond.code yX0_commonest cX0_commonest 9 (some .int), Cond.methodLink RX0 41 yX2_differing, Cond.instanceMethod yX2_differing, Cond.selects RX2 yX2_differing yX2_differing, Cond.code yX2_differing cX2_differing 4 (some .int)]
def wsL_law_r11 : List Cond := [Cond.methodLink RX0 73 yX2_isAheadOf, Cond.instanceMethod yX2_isAheadOf, Cond.selects RX2 yX2_isAheadOf yX2_isAheadOf, Cond.code yX2_isAheadOf cX2_isAheadOf 3 (some .boolean), Cond.methodLink RX4 107 yX3_closest, Cond.instanceMethod yX3_closest, Cond.selects RX3 yX3_closest yX3_closest, Cond.code yX3_closest cX3_closest 3 (some .int), Cond.methodLink RX3 24 yX3_differing, Cond.instanceMethod yX3_differing, Cond.selects RX3 yX3_differing yX3_differing, Cond.code yX3_differing cX3_differing 2 (some .int), Cond.methodLink RX3 21 yX3_parities, Cond.methodLink RX4 167 yX3_differing, Cond.methodLink RX4 111 yX1_bestColouring, Cond.instanceMethod yX1_bestColouring, Cond.selects RX1 yX1_bestColouring yX1_bestColouring, Cond.code yX1_bestColouring cX1_bestColouring 1 (some .int), Cond.methodLink RX1 28 yX1_bestColouringOf, Cond.instanceMethod yX1_bestColouringOf, Cond.selects RX1 yX1_bestColouringOf yX1_bestColouringOf, Cond.code yX1_bestColouringOf cX1_bestColouringOf 6 (some .int), Cond.methodLink RX1 15 yX1_likeLines, Cond.instanceMethod yX1_likeLines]
def wsL_law_r12 : List Cond := [Cond.selects RX1 yX1_likeLines yX1_likeLines, Cond.code yX1_likeLines cX1_likeLines 5 (some .int), Cond.methodLink RX1 19 yX1_alikeTo, Cond.static yX1_alikeTo, Cond.code yX1_alikeTo cX1_alikeTo 2 (some .int), Cond.methodLink RX1 22 yJ6_bitCount_0f7a4, Cond.methodLink RX4 170 yX1_likeLines, Cond.methodLink RL 43 yX5_is, Cond.instanceMethod yX5_is, Cond.selects RX5 yX5_is yX5_is, Cond.code yX5_is cX5_is 2 (some .int), Cond.methodLink RX5 94 yX5_isSubject, Cond.static yX5_isSubject, Cond.code yX5_isSubject cX5_isSubject 1 (some .boolean), Cond.methodLink RX5 97 yX5_distanceOf, Cond.instanceMethod yX5_distanceOf, Cond.selects RX5 yX5_distanceOf yX5_distanceOf, Cond.code yX5_distanceOf cX5_distanceOf 2 (some .int), Cond.methodLink RX5 79 yX5_rowDistance, Cond.instanceMethod yX5_rowDistance, Cond.selects RX5 yX5_rowDistance yX5_rowDistance, Cond.code yX5_rowDistance cX5_rowDistance 2 (some .int), Cond.methodLink RX5 73 yX5_takeRow, Cond.instanceMethod yX5_takeRow]
def wsL_law_r13 : List Cond := [Cond.selects RX5 yX5_takeRow yX5_takeRow, Cond.code yX5_takeRow cX5_takeRow 2 none, Cond.methodLink RX5 76 yX5_fromKind, Cond.instanceMethod yX5_fromKind, Cond.selects RX5 yX5_fromKind yX5_fromKind, Cond.code yX5_fromKind cX5_fromKind 2 (some .int), Cond.methodLink RX5 60 yX5_fromRising, Cond.instanceMethod yX5_fromRising, Cond.selects RX5 yX5_fromRising yX5_fromRising, Cond.code yX5_fromRising cX5_fromRising 4 (some .int), Cond.methodLink RX5 64 yX5_fromMirrored, Cond.instanceMethod yX5_fromMirrored, Cond.selects RX5 yX5_fromMirrored yX5_fromMirrored, Cond.code yX5_fromMirrored cX5_fromMirrored 3 (some .int), Cond.methodLink RX5 67 yX5_fromEven, Cond.instanceMethod yX5_fromEven, Cond.selects RX5 yX5_fromEven yX5_fromEven, Cond.code yX5_fromEven cX5_fromEven 3 (some .int), Cond.methodLink RX5 70 yX5_fromRound, Cond.instanceMethod yX5_fromRound, Cond.selects RX5 yX5_fromRound yX5_fromRound, Cond.code yX5_fromRound cX5_fromRound 4 (some .int), Cond.methodLink RX5 57 yX5_fromShift, Cond.instanceMethod yX5_fromShift]
def wsL_law_r14 : List Cond := [Cond.selects RX5 yX5_fromShift yX5_fromShift, Cond.code yX5_fromShift cX5_fromShift 10 (some .int), Cond.methodLink RX5 88 yX5_nearestTable, Cond.instanceMethod yX5_nearestTable, Cond.selects RX5 yX5_nearestTable yX5_nearestTable, Cond.code yX5_nearestTable cX5_nearestTable 3 (some .int), Cond.methodLink RX5 82 yX5_tableFar, Cond.instanceMethod yX5_tableFar, Cond.selects RX5 yX5_tableFar yX5_tableFar, Cond.code yX5_tableFar cX5_tableFar 4 (some .int), Cond.methodLink RX5 91 yX5_nearestNet, Cond.instanceMethod yX5_nearestNet, Cond.selects RX5 yX5_nearestNet yX5_nearestNet, Cond.code yX5_nearestNet cX5_nearestNet 4 (some .int), Cond.methodLink RX5 85 yX5_netFar, Cond.instanceMethod yX5_netFar, Cond.selects RX5 yX5_netFar yX5_netFar, Cond.code yX5_netFar cX5_netFar 7 (some .int), Cond.methodLink RL 44 yX4_distance, Cond.instanceMethod yX4_distance, Cond.selects RX4 yX4_distance yX4_distance, Cond.code yX4_distance cX4_distance 2 (some .int), Cond.methodLink RL 47 yX5_distance, Cond.instanceMethod yX5_distance]
def wsL_law_r15 : List Cond := [Cond.selects RX5 yX5_distance yX5_distance, Cond.code yX5_distance cX5_distance 2 (some .int), Cond.methodLink RL 48 yX4_nearest, Cond.instanceMethod yX4_nearest, Cond.selects RX4 yX4_nearest yX4_nearest, Cond.code yX4_nearest cX4_nearest 3 (some .int), Cond.methodLink RL 51 yX5_nearest, Cond.instanceMethod yX5_nearest, Cond.selects RX5 yX5_nearest yX5_nearest, Cond.code yX5_nearest cX5_nearest 3 (some .int), Cond.methodLink RX5 100 yX5_findNearest, Cond.instanceMethod yX5_findNearest, Cond.selects RX5 yX5_findNearest yX5_findNearest, Cond.code yX5_findNearest cX5_findNearest 7 none, Cond.methodLink RL 52 yX4_mend, Cond.instanceMethod yX4_mend, Cond.selects RX4 yX4_mend yX4_mend, Cond.code yX4_mend cX4_mend 3 (some .int), Cond.methodLink RX4 114 yX2_become, Cond.methodLink RX4 118 yX1_cutLikeLines, Cond.instanceMethod yX1_cutLikeLines, Cond.selects RX1 yX1_cutLikeLines yX1_cutLikeLines, Cond.code yX1_cutLikeLines cX1_cutLikeLines 3 none, Cond.methodLink RL 55 yX5_mend]
def wsL_law_r16 : List Cond := [Cond.instanceMethod yX5_mend, Cond.selects RX5 yX5_mend yX5_mend, Cond.code yX5_mend cX5_mend 6 (some .int), Cond.methodLink RX5 104 yX5_linear, Cond.methodLink RL 56 yX4_pass, Cond.instanceMethod yX4_pass, Cond.selects RX4 yX4_pass yX4_pass, Cond.code yX4_pass cX4_pass 3 (some .long), Cond.constantLong RX4 121 (-2), Cond.methodLink RX4 123 yX4_passing, Cond.instanceMethod yX4_passing, Cond.selects RX4 yX4_passing yX4_passing, Cond.code yX4_passing cX4_passing 2 (some .int), Cond.methodLink RX4 139 yX2_passing, Cond.instanceMethod yX2_passing, Cond.selects RX2 yX2_passing yX2_passing, Cond.code yX2_passing cX2_passing 2 (some .int), Cond.methodLink RX2 19 yX2_risingPairs, Cond.instanceMethod yX2_risingPairs, Cond.selects RX2 yX2_risingPairs yX2_risingPairs, Cond.code yX2_risingPairs cX2_risingPairs 4 (some .int), Cond.methodLink RX2 23 yX2_mirroredPlaces, Cond.instanceMethod yX2_mirroredPlaces, Cond.selects RX2 yX2_mirroredPlaces yX2_mirroredPlaces]
def wsL_law_r17 : List Cond := [Cond.code yX2_mirroredPlaces cX2_mirroredPlaces 3 (some .int), Cond.methodLink RX2 26 yX2_total, Cond.methodLink RX2 29 yX2_alikeShifts, Cond.instanceMethod yX2_alikeShifts, Cond.selects RX2 yX2_alikeShifts yX2_alikeShifts, Cond.code yX2_alikeShifts cX2_alikeShifts 4 (some .int), Cond.methodLink RX4 173 yX3_passing, Cond.instanceMethod yX3_passing, Cond.selects RX3 yX3_passing yX3_passing, Cond.code yX3_passing cX3_passing 4 (some .int), Cond.methodLink RX3 30 yX3_agrees, Cond.instanceMethod yX3_agrees, Cond.selects RX3 yX3_agrees yX3_agrees, Cond.code yX3_agrees cX3_agrees 3 (some .boolean), Cond.methodLink RX3 27 yX3_at, Cond.methodLink RX4 175 yX1_passing, Cond.instanceMethod yX1_passing, Cond.selects RX1 yX1_passing yX1_passing, Cond.code yX1_passing cX1_passing 4 (some .int), Cond.methodLink RX1 31 yX1_twoColoured, Cond.instanceMethod yX1_twoColoured, Cond.selects RX1 yX1_twoColoured yX1_twoColoured, Cond.code yX1_twoColoured cX1_twoColoured 2 (some .boolean), Cond.methodLink RX4 126 yX4_looks]
def wsL_law_r18 : List Cond := [Cond.instanceMethod yX4_looks, Cond.selects RX4 yX4_looks yX4_looks, Cond.code yX4_looks cX4_looks 2 (some .int), Cond.methodLink RX4 140 yX2_looks, Cond.instanceMethod yX2_looks, Cond.selects RX2 yX2_looks yX2_looks, Cond.code yX2_looks cX2_looks 2 (some .int), Cond.methodLink RX4 176 yX1_sets, Cond.static yX1_sets, Cond.code yX1_sets cX1_sets 3 (some .int), Cond.methodLink RX4 129 yX4_lowestTerm, Cond.static yX4_lowestTerm, Cond.code yX4_lowestTerm cX4_lowestTerm 5 (some .int), Cond.methodLink RL 60 yX5_pass, Cond.instanceMethod yX5_pass, Cond.selects RX5 yX5_pass yX5_pass, Cond.code yX5_pass cX5_pass 3 (some .long), Cond.constantLong RX5 134 (-2), Cond.fieldLink RX5 107 "FewLooksModel" "above" "J", Cond.fieldLink RX5 111 "FewLooksModel" "below" "J", Cond.methodLink RX5 136 yX5_findPass, Cond.instanceMethod yX5_findPass, Cond.selects RX5 yX5_findPass yX5_findPass, Cond.code yX5_findPass cX5_findPass 2 none]
def wsL_law_r19 : List Cond := [Cond.methodLink RX5 122 yX5_countRow, Cond.instanceMethod yX5_countRow, Cond.selects RX5 yX5_countRow yX5_countRow, Cond.code yX5_countRow cX5_countRow 4 none, Cond.methodLink RX5 125 yX5_countTable, Cond.instanceMethod yX5_countTable, Cond.selects RX5 yX5_countTable yX5_countTable, Cond.code yX5_countTable cX5_countTable 3 none, Cond.constantLong RX5 114 (64), Cond.methodLink RX5 116 yX5_passesTable, Cond.static yX5_passesTable, Cond.code yX5_passesTable cX5_passesTable 3 (some .boolean), Cond.methodLink RX5 128 yX5_countNet, Cond.instanceMethod yX5_countNet, Cond.selects RX5 yX5_countNet yX5_countNet, Cond.code yX5_countNet cX5_countNet 2 none, Cond.methodLink RX5 119 yX5_passesNet, Cond.instanceMethod yX5_passesNet, Cond.selects RX5 yX5_passesNet yX5_passesNet, Cond.code yX5_passesNet cX5_passesNet 2 (some .boolean), Cond.methodLink RX5 131 yX5_reduce, Cond.instanceMethod yX5_reduce, Cond.selects RX5 yX5_reduce yX5_reduce, Cond.code yX5_reduce cX5_reduce 7 none]
def wsL_law_r20 : List Cond := [Cond.methodLink RL 61 yX4_repeats, Cond.instanceMethod yX4_repeats, Cond.selects RX4 yX4_repeats yX4_repeats, Cond.code yX4_repeats cX4_repeats 13 (some .int), Cond.methodLink RL 65 yX5_repeats, Cond.instanceMethod yX5_repeats, Cond.selects RX5 yX5_repeats yX5_repeats, Cond.code yX5_repeats cX5_repeats 9 (some .int), Cond.methodLink RL 66 yX4_worst, Cond.instanceMethod yX4_worst, Cond.selects RX4 yX4_worst yX4_worst, Cond.code yX4_worst cX4_worst 6 (some .int), Cond.methodLink RX4 133 yX4_worstCode, Cond.instanceMethod yX4_worstCode, Cond.selects RX4 yX4_worstCode yX4_worstCode, Cond.code yX4_worstCode cX4_worstCode 7 (some .int), Cond.methodLink RX4 136 yX2_spell, Cond.instanceMethod yX2_spell, Cond.selects RX2 yX2_spell yX2_spell, Cond.code yX2_spell cX2_spell 4 none, Cond.methodLink RL 70 yX5_worst, Cond.instanceMethod yX5_worst, Cond.selects RX5 yX5_worst yX5_worst, Cond.code yX5_worst cX5_worst 6 (some .int)]
def wsL_law_r21 : List Cond := [Cond.fieldLink RX5 142 "FewLooksModel" "worstAbove" "J", Cond.fieldLink RX5 139 "FewLooksModel" "worstBelow" "J", Cond.methodLink RX5 145 yX5_findWorst, Cond.instanceMethod yX5_findWorst, Cond.selects RX5 yX5_findWorst yX5_findWorst, Cond.code yX5_findWorst cX5_findWorst 6 (some .int), Cond.methodLink RL 71 yX4_mended, Cond.instanceMethod yX4_mended, Cond.selects RX4 yX4_mended yX4_mended, Cond.code yX4_mended cX4_mended 3 (some .int), Cond.methodLink RX4 141 yX3_tellers, Cond.instanceMethod yX3_tellers, Cond.selects RX3 yX3_tellers yX3_tellers, Cond.code yX3_tellers cX3_tellers 5 (some .int), Cond.methodLink RL 74 yX5_mended, Cond.instanceMethod yX5_mended, Cond.selects RX5 yX5_mended yX5_mended, Cond.code yX5_mended cX5_mended 5 (some .int), Cond.methodLink RL 75 yX4_shows, Cond.instanceMethod yX4_shows, Cond.selects RX4 yX4_shows yX4_shows, Cond.code yX4_shows cX4_shows 4 (some .int), Cond.methodLink RX4 144 yX4_isLook, Cond.instanceMethod yX4_isLook]
def wsL_law_r22 : List Cond := [Cond.selects RX4 yX4_isLook yX4_isLook, Cond.code yX4_isLook cX4_isLook 4 (some .boolean), Cond.methodLink RX4 159 yJ6_bitCount_0f7a4, Cond.methodLink RX4 147 yX4_fails, Cond.instanceMethod yX4_fails, Cond.selects RX4 yX4_fails yX4_fails, Cond.code yX4_fails cX4_fails 4 (some .boolean), Cond.methodLink RX4 179 yX3_agrees, Cond.methodLink RX4 183 yX1_twoColoured, Cond.methodLink RL 78 yX5_shows, Cond.instanceMethod yX5_shows, Cond.selects RX5 yX5_shows yX5_shows, Cond.code yX5_shows cX5_shows 4 (some .int), Cond.methodLink RX5 148 yX5_maySubject, Cond.instanceMethod yX5_maySubject, Cond.selects RX5 yX5_maySubject yX5_maySubject, Cond.code yX5_maySubject cX5_maySubject 4 (some .boolean), Cond.methodLink RX5 151 yX5_showsOf, Cond.instanceMethod yX5_showsOf, Cond.selects RX5 yX5_showsOf yX5_showsOf, Cond.code yX5_showsOf cX5_showsOf 4 (some .boolean), Cond.methodLink RL 79 yX4_witness, Cond.instanceMethod yX4_witness, Cond.selects RX4 yX4_witness yX4_witness]
def wsL_law_r23 : List Cond := [Cond.code yX4_witness cX4_witness 2 (some .int), Cond.methodLink RX4 150 yX4_firstFailingSet, Cond.instanceMethod yX4_firstFailingSet, Cond.selects RX4 yX4_firstFailingSet yX4_firstFailingSet, Cond.code yX4_firstFailingSet cX4_firstFailingSet 2 (some .int), Cond.methodLink RX4 153 yX4_firstFailingPair, Cond.instanceMethod yX4_firstFailingPair, Cond.selects RX4 yX4_firstFailingPair yX4_firstFailingPair, Cond.code yX4_firstFailingPair cX4_firstFailingPair 4 (some .int), Cond.methodLink RL 82 yX5_witness, Cond.instanceMethod yX5_witness, Cond.selects RX5 yX5_witness yX5_witness, Cond.code yX5_witness cX5_witness 4 (some .int), Cond.methodLink RL 83 yX4_count, Cond.instanceMethod yX4_count, Cond.selects RX4 yX4_count yX4_count, Cond.code yX4_count cX4_count 2 (some .int), Cond.methodLink RX4 156 yX1_lines, Cond.instanceMethod yX1_lines, Cond.selects RX1 yX1_lines yX1_lines, Cond.code yX1_lines cX1_lines 1 (some .int), Cond.methodLink RX4 164 yX2_total, Cond.methodLink RL 86 yX5_count, Cond.instanceMethod yX5_count]
def wsL_law_r24 : List Cond := [Cond.selects RX5 yX5_count yX5_count, Cond.code yX5_count cX5_count 4 (some .int)]
def wsL_law : List Cond := (wsL_law_r1 ++ (wsL_law_r2 ++ (wsL_law_r3 ++ (wsL_law_r4 ++ (wsL_law_r5 ++ (wsL_law_r6 ++ (wsL_law_r7 ++ (wsL_law_r8 ++ (wsL_law_r9 ++ (wsL_law_r10 ++ (wsL_law_r11 ++ (wsL_law_r12 ++ (wsL_law_r13 ++ (wsL_law_r14 ++ (wsL_law_r15 ++ (wsL_law_r16 ++ (wsL_law_r17 ++ (wsL_law_r18 ++ (wsL_law_r19 ++ (wsL_law_r20 ++ (wsL_law_r21 ++ (wsL_law_r22 ++ (wsL_law_r23 ++ wsL_law_r24))))))))))))))))))))))) ++ wsX40 ++ wsX50 ++ wsX20 ++ wsX00 ++ wsX30 ++ wsX10 ++ ([] : List Cond)
abbrev vwCl : List vw_C := [(RX0, TX0, 3), (RX1, TX1, 1), (RX2, TX2, 2), (RX3, TX3, 1), (RX4, TX4, 6), (RX5, TX5, 11)]
end
section
/-! base: nest words, worlds before and behind a call, guards of the pure functions -/
def bo (r : Int32) : Prop := narrow .boolean (.int r) = .int r
theorem bo_0 : bo 0 := rfl
theorem bo_1 : bo 1 := rfl
def nw_F48 : Cond := .fieldLinkNest RX4 48 "FewLooks$Row" "size" "I" "FewLooks"
def nw_F59 : Cond := .fieldLinkNest RX4 59 "FewLooks$Row" "digits" "[I" "FewLooks"
def nw_F77 : Cond := .fieldLinkNest RX4 77 "FewLooks$Table" "bits" "I" "FewLooks"
def nw_F104 : Cond := .fieldLinkNest RX4 104 "FewLooks$Mender" "near" "LFewLooks$Row;" "FewLooks"
def nw_M48 : Cond := .fieldLinkNest RX0 48 "FewLooks$Row" "size" "I" "FewLooks"
def nw_M56 : Cond := .fieldLinkNest RX0 56 "FewLooks$Row" "digits" "[I" "FewLooks"
def nw_I9 : Cond := .methodLinkNest RX4 9 yX2_init "FewLooks"
def nw_I21 : Cond := .methodLinkNest RX4 21 yX0_init "FewLooks"
def nw_I28 : Cond := .methodLinkNest RX4 28 yX3_init "FewLooks"
def nw_I35 : Cond := .methodLinkNest RX4 35 yX1_init "FewLooks"
def nw_I11 : Cond := .methodLinkNest RX0 11 yX2_init "FewLooks"
def NW (U : State) : Prop := va_Nw nw_F48 U ∧ va_Nw nw_F59 U ∧ va_Nw nw_F77 U ∧ va_Nw nw_F104 U ∧ va_Nw nw_M48 U ∧ va_Nw nw_M56 U ∧ va_Nw nw_I9 U ∧ va_Nw nw_I21 U ∧ va_Nw nw_I28 U ∧ va_Nw nw_I35 U ∧ va_Nw nw_I11 U
theorem NW.warm {s U : State} (hW : s.WarmedH U.vm) (h : NW s) : NW U := by
  obtain ⟨h1, h2, h3, h4, h5, h6, h7, h8, h9, h10, h11⟩ := h
  exact ⟨h1.warmF hW, h2.warmF hW, h3.warmF hW, h4.warmF hW, h5.warmF hW, h6.warmF hW, h7.warmM hW, h8.warmM hW, h9.warmM hW, h10.warmM hW, h11.warmM hW⟩
theorem NW.same {s U : State} (e : s.vm = U.vm) (h : NW s) : NW U := by
  obtain ⟨h1, h2, h3, h4, h5, h6, h7, h8, h9, h10, h11⟩ := h
  exact ⟨h1.same rfl e, h2.same rfl e, h3.same rfl e, h4.same rfl e, h5.same rfl e, h6.same rfl e, h7.same rfl e, h8.same rfl e, h9.same rfl e, h10.same rfl e, h11.same rfl e⟩
def PW (D : va_G) (cy : ClassId) (sz : Nat) (ws : va_W) (U : State) : Prop := U.heap.size = sz ∧ va_P D vwCl ws U.heap ∧ va_K D vwCl [(cy, .int)] U ∧ va_D (fun _ => True) ws ∧ NW U
def QW (D : va_G) (cy : ClassId) (A : Nat → Prop) (ws : va_W) (_ : Unit) (t : State) : Prop := va_P D vwCl ws t.heap ∧ va_K D vwCl [(cy, .int)] t ∧ va_D A ws
theorem PW_fb {av : List Value} {D : va_G} {cy : ClassId} {sz : Nat} {ws : va_W} : FrameBlind (va_Pc av (PW D cy sz ws)) := by
  intro a U g mk q
  obtain ⟨q0, q1, qP, qK, qD, qN⟩ := q
  exact ⟨q0, q1, qP, va_K.moved (u := U) (U := U.calling g mk a) (Vm.Alike.refl U.vm) qK, qD, NW.same (s := U) (U := U.calling g mk a) rfl qN⟩
theorem PW_pre {D : va_G} {cy : ClassId} {ws : va_W} {A : Nat → Prop} {s : State} {H : Heap} {av : List Value} (hP : va_P D vwCl ws H) (hK : va_K D vwCl [(cy, .int)] s) (hD : va_D A ws) (hN : NW s) : ∀ U : State, U.heap = H → s.WarmedH U.vm → va_Pc av (PW D cy H.size ws) av.toArray U :=
  fun U hU hW => ⟨rfl, by rw [hU], by rw [hU]; exact hP, va_K.moved hW.alike hK, hD.weaken (fun _ _ _ _ => trivial), hN.warm hW⟩
theorem QW_mk {D : va_G} {cy : ClassId} {ws : va_W} {A : Nat → Prop} {s t : State} {H : Heap} (hP : va_P D vwCl ws H) (hK : va_K D vwCl [(cy, .int)] s) (hD : va_D A ws) (ht : t.heap = H) (hW : s.WarmedH t.vm) : QW D cy A ws () t :=
  ⟨by rw [ht]; exact hP, va_K.moved hW.alike hK, hD⟩
theorem jn {A0 : Nat → Prop} {D : va_G} {cy : ClassId} {ws wc wr w1 ws' : va_W} {H H1 : Heap} {t : State} {u : Unit} (hP : va_P D vwCl ws H) (hD : va_D A0 ws) (isC isR : List Nat) (hC : isC.map (fun i => ws[i]?) = wc.map some) (hR : isR.map (fun i => ws[i]?) = wr.map some) (hn : va_nd isR = true) (hdis : ∀ i ∈ isR, i ∉ isC)
    (hk : ∀ q : Nat, q < H.size → ¬ va_A wc H.size q → H1[q]? = H[q]?) (hF : ∀ q, va_A wc H.size q → A0 q) (hB : QW D cy (va_A wc H.size) w1 u t) (ht : t.heap = H1) (perm : List Nat) (hp : perm.map (fun i => (wr ++ w1)[i]?) = ws'.map some) (hpn : va_nd perm = true) : va_P D vwCl ws' H1 ∧ va_D A0 ws' := by
  obtain ⟨hP1, _, hD1⟩ := hB
  rw [ht] at hP1
  obtain ⟨h1, h2⟩ := va_join hP hD isC isR hC hR hn hdis hk hF hP1 hD1
  exact ⟨h1.sub perm hp, h2.sub perm hpn hp⟩
def gin {α : Type} (i : Int32) (n : Nat) (x : Option α) : Option α := if i < 0 ∨ n ≤ i.toNatClampNeg then none else x
theorem gin_some {α : Type} {i : Int32} {n : Nat} {x : Option α} {y : α} (h : gin i n x = some y) : vp_in i n ∧ x = some y := by
  unfold gin at h
  split at h
  · cases h
  · exact ⟨by assumption, h⟩
theorem gin_of {α : Type} {i : Int32} {n : Nat} {x : Option α} (h : vp_in i n) : gin i n x = x := if_neg h
theorem gin_nI {α : Type} {k n : Nat} {x : Option α} (h : k < n) (hn : n < 2 ^ 31) : gin (nI k) n x = x := gin_of (vp_in_nI h hn)
def gnz {α : Type} (y : Int32) (x : Option α) : Option α := if y = 0 then none else x
theorem gnz_some {α : Type} {i : Int32} {x : Option α} {y : α} (h : gnz i x = some y) : ¬ i = 0 ∧ x = some y := by
  unfold gnz at h
  split at h
  · cases h
  · exact ⟨by assumption, h⟩
theorem gnz_of {α : Type} {i : Int32} {x : Option α} (h : ¬ i = 0) : gnz i x = x := if_neg h
def gnl {α : Type} (y : Int64) (x : Option α) : Option α := if y = 0 then none else x
theorem gnl_some {α : Type} {i : Int64} {x : Option α} {y : α} (h : gnl i x = some y) : ¬ i = 0 ∧ x = some y := by
  unfold gnl at h
  split at h
  · cases h
  · exact ⟨by assumption, h⟩
theorem gnl_of {α : Type} {i : Int64} {x : Option α} (h : ¬ i = 0) : gnl i x = x := if_neg h
def bd {α β : Type} (x : Option α) (k : α → Option β) : Option β := match x with
  | none => none
  | some a => k a
theorem bd_some {α β : Type} {x : Option α} {k : α → Option β} {y : β} (h : bd x k = some y) : ∃ a, x = some a ∧ k a = some y := by
  cases x with
  | none => cases h
  | some a => exact ⟨a, rfl, h⟩
theorem bd_of {α β : Type} {x : Option α} {k : α → Option β} {a : α} (h : x = some a) : bd x k = k a := by rw [h]; rfl
def bs {α β : Type} (x : Option (α ⊕ β)) (k : β → Option α) : Option α := match x with
  | none => none
  | some (.inl a) => some a
  | some (.inr b) => k b
theorem bs_some {α β : Type} {x : Option (α ⊕ β)} {k : β → Option α} {y : α} (h : bs x k = some y) : ∃ r, x = some r ∧ (∀ q, r = .inl q → q = y) ∧ (∀ q, r = .inr q → k q = some y) := by
  cases x with
  | none => cases h
  | some r =>
    refine ⟨r, rfl, ?_, ?_⟩
    · intro q e
      subst e
      exact Option.some.inj h
    · intro q e
      subst e
      exact h
theorem bs_l {α β : Type} {x : Option (α ⊕ β)} {k : β → Option α} {a : α} (h : x = some (.inl a)) : bs x k = some a := by rw [h]; rfl
theorem bs_r {α β : Type} {x : Option (α ⊕ β)} {k : β → Option α} {b : β} (h : x = some (.inr b)) : bs x k = k b := by rw [h]; rfl
def bt {α β γ : Type} (x : Option (α ⊕ β)) (k : β → Option (α ⊕ γ)) : Option (α ⊕ γ) := match x with
  | none => none
  | some (.inl a) => some (.inl a)
  | some (.inr b) => k b
theorem bt_some {α β γ : Type} {x : Option (α ⊕ β)} {k : β → Option (α ⊕ γ)} {y : α ⊕ γ} (h : bt x k = some y) : ∃ r, x = some r ∧ (∀ q, r = .inl q → y = .inl q) ∧ (∀ q, r = .inr q → k q = some y) := by
  cases x with
  | none => cases h
  | some r =>
    refine ⟨r, rfl, ?_, ?_⟩
    · intro q e
      subst e
      exact (Option.some.inj h).symm
    · intro q e
      subst e
      exact h
theorem bt_l {α β γ : Type} {x : Option (α ⊕ β)} {k : β → Option (α ⊕ γ)} {a : α} (h : x = some (.inl a)) : bt x k = some (.inl a) := by rw [h]; rfl
theorem bt_r {α β γ : Type} {x : Option (α ⊕ β)} {k : β → Option (α ⊕ γ)} {b : β} (h : x = some (.inr b)) : bt x k = k b := by rw [h]; rfl
def FU : Nat := 70000
/-- a table switch whose cases are 0 .. n - 1: none of them -/
theorem tb_out {x : Int32} {n : Nat} (hn : n < 2 ^ 31) (h : ∀ k, k < n → ¬ x = nI k) : x.toInt < 0 ∨ (n : Int) - 1 < x.toInt := by
  rcases pk_ix x hn with h1 | h1 | ⟨j, h1, h2⟩
  · exact Or.inl (Int32.lt_iff_toInt_lt.mp h1)
  · right
    have h2 := Int32.le_iff_toInt_le.mp h1
    rw [nI_toInt hn] at h2
    omega
  · exact absurd h2 (h j h1)
end
section
theorem dX1_init_0 : decode cX1_init 0 = .ok (.aload_n 0, 1) := by decide +kernel
theorem dX1_init_1 : decode cX1_init 1 = .ok (.invokespecial 3, 3) := by decide +kernel
theorem dX1_init_4 : decode cX1_init 4 = .ok (.aload_n 0, 1) := by decide +kernel
theorem dX1_init_5 : decode cX1_init 5 = .ok (.bipush 6, 2) := by decide +kernel
theorem dX1_init_7 : decode cX1_init 7 = .ok (.newarray .int, 2) := by decide +kernel
theorem dX1_init_9 : decode cX1_init 9 = .ok (.putfield 9, 3) := by decide +kernel
theorem dX1_init_12 : decode cX1_init 12 = .ok (.return_, 1) := by decide +kernel
theorem dX1_joined_0 : decode cX1_joined 0 = .ok (.aload_n 0, 1) := by decide +kernel
theorem dX1_joined_1 : decode cX1_joined 1 = .ok (.getfield 9, 3) := by decide +kernel
theorem dX1_joined_4 : decode cX1_joined 4 = .ok (.iload_n 1, 1) := by decide +kernel
theorem dX1_joined_5 : decode cX1_joined 5 = .ok (.iaload, 1) := by decide +kernel
theorem dX1_joined_6 : decode cX1_joined 6 = .ok (.iload_n 2, 1) := by decide +kernel
theorem dX1_joined_7 : decode cX1_joined 7 = .ok (.ishr, 1) := by decide +kernel
theorem dX1_joined_8 : decode cX1_joined 8 = .ok (.iconst 1, 1) := by decide +kernel
theorem dX1_joined_9 : decode cX1_joined 9 = .ok (.iand, 1) := by decide +kernel
theorem dX1_joined_10 : decode cX1_joined 10 = .ok (.ireturn, 1) := by decide +kernel
theorem dX1_join_0 : decode cX1_join 0 = .ok (.iload_n 3, 1) := by decide +kernel
theorem dX1_join_1 : decode cX1_join 1 = .ok (.ifCond .eq 30, 3) := by decide +kernel
theorem dX1_join_4 : decode cX1_join 4 = .ok (.aload_n 0, 1) := by decide +kernel
theorem dX1_join_5 : decode cX1_join 5 = .ok (.getfield 9, 3) := by decide +kernel
theorem dX1_join_8 : decode cX1_join 8 = .ok (.iload_n 1, 1) := by decide +kernel
theorem dX1_join_9 : decode cX1_join 9 = .ok (.dup2, 1) := by decide +kernel
theorem dX1_join_10 : decode cX1_join 10 = .ok (.iaload, 1) := by decide +kernel
theorem dX1_join_11 : decode cX1_join 11 = .ok (.iconst 1, 1) := by decide +kernel
theorem dX1_join_12 : decode cX1_join 12 = .ok (.iload_n 2, 1) := by decide +kernel
theorem dX1_join_13 : decode cX1_join 13 = .ok (.ishl, 1) := by decide +kernel
theorem dX1_join_14 : decode cX1_join 14 = .ok (.ior, 1) := by decide +kernel
theorem dX1_join_15 : decode cX1_join 15 = .ok (.iastore, 1) := by decide +kernel
theorem dX1_join_16 : decode cX1_join 16 = .ok (.aload_n 0, 1) := by decide +kernel
theorem dX1_join_17 : decode cX1_join 17 = .ok (.getfield 9, 3) := by decide +kernel
theorem dX1_join_20 : decode cX1_join 20 = .ok (.iload_n 2, 1) := by decide +kernel
theorem dX1_join_21 : decode cX1_join 21 = .ok (.dup2, 1) := by decide +kernel
theorem dX1_join_22 : decode cX1_join 22 = .ok (.iaload, 1) := by decide +kernel
theorem dX1_join_23 : decode cX1_join 23 = .ok (.iconst 1, 1) := by decide +kernel
theorem dX1_join_24 : decode cX1_join 24 = .ok (.iload_n 1, 1) := by decide +kernel
theorem dX1_join_25 : decode cX1_join 25 = .ok (.ishl, 1) := by decide +kernel
theorem dX1_join_26 : decode cX1_join 26 = .ok (.ior, 1) := by decide +kernel
theorem dX1_join_27 : decode cX1_join 27 = .ok (.iastore, 1) := by decide +kernel
theorem dX1_join_28 : decode cX1_join 28 = .ok (.goto 31, 3) := by decide +kernel
theorem dX1_join_31 : decode cX1_join 31 = .ok (.aload_n 0, 1) := by decide +kernel
theorem dX1_join_32 : decode cX1_join 32 = .ok (.getfield 9, 3) := by decide +kernel
theorem dX1_join_35 : decode cX1_join 35 = .ok (.iload_n 1, 1) := by decide +kernel
theorem dX1_join_36 : decode cX1_join 36 = .ok (.dup2, 1) := by decide +kernel
theorem dX1_join_37 : decode cX1_join 37 = .ok (.iaload, 1) := by decide +kernel
theorem dX1_join_38 : decode cX1_join 38 = .ok (.iconst 1, 1) := by decide +kernel
theorem dX1_join_39 : decode cX1_join 39 = .ok (.iload_n 2, 1) := by decide +kernel
theorem dX1_join_40 : decode cX1_join 40 = .ok (.ishl, 1) := by decide +kernel
theorem dX1_join_41 : decode cX1_join 41 = .ok (.iconst (-1), 1) := by decide +kernel
theorem dX1_join_42 : decode cX1_join 42 = .ok (.ixor, 1) := by decide +kernel
theorem dX1_join_43 : decode cX1_join 43 = .ok (.iand, 1) := by decide +kernel
theorem dX1_join_44 : decode cX1_join 44 = .ok (.iastore, 1) := by decide +kernel
theorem dX1_join_45 : decode cX1_join 45 = .ok (.aload_n 0, 1) := by decide +kernel
theorem dX1_join_46 : decode cX1_join 46 = .ok (.getfield 9, 3) := by decide +kernel
theorem dX1_join_49 : decode cX1_join 49 = .ok (.iload_n 2, 1) := by decide +kernel
theorem dX1_join_50 : decode cX1_join 50 = .ok (.dup2, 1) := by decide +kernel
theorem dX1_join_51 : decode cX1_join 51 = .ok (.iaload, 1) := by decide +kernel
theorem dX1_join_52 : decode cX1_join 52 = .ok (.iconst 1, 1) := by decide +kernel
theorem dX1_join_53 : decode cX1_join 53 = .ok (.iload_n 1, 1) := by decide +kernel
theorem dX1_join_54 : decode cX1_join 54 = .ok (.ishl, 1) := by decide +kernel
theorem dX1_join_55 : decode cX1_join 55 = .ok (.iconst (-1), 1) := by decide +kernel
theorem dX1_join_56 : decode cX1_join 56 = .ok (.ixor, 1) := by decide +kernel
theorem dX1_join_57 : decode cX1_join 57 = .ok (.iand, 1) := by decide +kernel
theorem dX1_join_58 : decode cX1_join 58 = .ok (.iastore, 1) := by decide +kernel
theorem dX1_join_59 : decode cX1_join 59 = .ok (.return_, 1) := by decide +kernel
set_option maxRecDepth 20000 in
theorem ggX1_lines_X1_likeLines : GoodIn wsX1_lines wsX1_likeLines := goodIn_r _ [5, 6, 7, 8, 4, 9, 10, 11, 12, 13, 14, 15, 16, 17] (by decide +kernel) (by decide +kernel)
set_option maxRecDepth 20000 in
theorem gX1_lines_X1_likeLines : GoodIn wsX1_lines (wsV RX1 15 RX1 yX1_likeLines wsX1_likeLines) := goodIn_app (goodIn_of _ (by decide +kernel)) ggX1_lines_X1_likeLines
theorem dX1_lines_0 : decode cX1_lines 0 = .ok (.aload_n 0, 1) := by decide +kernel
theorem dX1_lines_1 : decode cX1_lines 1 = .ok (.bipush 63, 2) := by decide +kernel
theorem dX1_lines_3 : decode cX1_lines 3 = .ok (.iconst 0, 1) := by decide +kernel
theorem dX1_lines_4 : decode cX1_lines 4 = .ok (.invokevirtual 15, 3) := by decide +kernel
theorem dX1_lines_7 : decode cX1_lines 7 = .ok (.ireturn, 1) := by decide +kernel
theorem dX1_alikeTo_0 : decode cX1_alikeTo 0 = .ok (.iload_n 1, 1) := by decide +kernel
theorem dX1_alikeTo_1 : decode cX1_alikeTo 1 = .ok (.iload_n 0, 1) := by decide +kernel
theorem dX1_alikeTo_2 : decode cX1_alikeTo 2 = .ok (.ishr, 1) := by decide +kernel
theorem dX1_alikeTo_3 : decode cX1_alikeTo 3 = .ok (.iconst 1, 1) := by decide +kernel
theorem dX1_alikeTo_4 : decode cX1_alikeTo 4 = .ok (.iand, 1) := by decide +kernel
theorem dX1_alikeTo_5 : decode cX1_alikeTo 5 = .ok (.iconst 1, 1) := by decide +kernel
theorem dX1_alikeTo_6 : decode cX1_alikeTo 6 = .ok (.if_icmp .ne 7, 3) := by decide +kernel
theorem dX1_alikeTo_9 : decode cX1_alikeTo 9 = .ok (.iload_n 1, 1) := by decide +kernel
theorem dX1_alikeTo_10 : decode cX1_alikeTo 10 = .ok (.goto 6, 3) := by decide +kernel
theorem dX1_alikeTo_13 : decode cX1_alikeTo 13 = .ok (.iload_n 1, 1) := by decide +kernel
theorem dX1_alikeTo_14 : decode cX1_alikeTo 14 = .ok (.iconst (-1), 1) := by decide +kernel
theorem dX1_alikeTo_15 : decode cX1_alikeTo 15 = .ok (.ixor, 1) := by decide +kernel
theorem dX1_alikeTo_16 : decode cX1_alikeTo 16 = .ok (.ireturn, 1) := by decide +kernel
set_option maxRecDepth 20000 in
theorem ggX1_likeLines_X1_alikeTo : GoodIn wsX1_likeLines wsX1_alikeTo := goodIn_r _ [5] (by decide +kernel) (by decide +kernel)
set_option maxRecDepth 20000 in
theorem gX1_likeLines_X1_alikeTo : GoodIn wsX1_likeLines (va_wsS RX1 19 yX1_alikeTo wsX1_alikeTo) := goodIn_app (goodIn_of _ (by decide +kernel)) ggX1_likeLines_X1_alikeTo
set_option maxRecDepth 20000 in
theorem ggX1_likeLines_J6_bitCount_0f7a4 : GoodIn wsX1_likeLines wsJ6_bitCount_0f7a4 := goodIn_r _ [9, 10, 11, 12] (by decide +kernel) (by decide +kernel)
set_option maxRecDepth 20000 in
theorem gX1_likeLines_J6_bitCount_0f7a4 : GoodIn wsX1_likeLines (va_wsS RX1 22 yJ6_bitCount_0f7a4 wsJ6_bitCount_0f7a4) := goodIn_app (goodIn_of _ (by decide +kernel)) ggX1_likeLines_J6_bitCount_0f7a4
theorem dX1_likeLines_0 : decode cX1_likeLines 0 = .ok (.iconst 0, 1) := by decide +kernel
theorem dX1_likeLines_1 : decode cX1_likeLines 1 = .ok (.istore_n 3, 1) := by decide +kernel
theorem dX1_likeLines_2 : decode cX1_likeLines 2 = .ok (.iconst 0, 1) := by decide +kernel
theorem dX1_likeLines_3 : decode cX1_likeLines 3 = .ok (.istore 4, 2) := by decide +kernel
theorem dX1_likeLines_5 : decode cX1_likeLines 5 = .ok (.iload 4, 2) := by decide +kernel
theorem dX1_likeLines_7 : decode cX1_likeLines 7 = .ok (.bipush 6, 2) := by decide +kernel
theorem dX1_likeLines_9 : decode cX1_likeLines 9 = .ok (.if_icmp .ge 41, 3) := by decide +kernel
theorem dX1_likeLines_12 : decode cX1_likeLines 12 = .ok (.iload_n 1, 1) := by decide +kernel
theorem dX1_likeLines_13 : decode cX1_likeLines 13 = .ok (.iload 4, 2) := by decide +kernel
theorem dX1_likeLines_15 : decode cX1_likeLines 15 = .ok (.ishr, 1) := by decide +kernel
theorem dX1_likeLines_16 : decode cX1_likeLines 16 = .ok (.iconst 1, 1) := by decide +kernel
theorem dX1_likeLines_17 : decode cX1_likeLines 17 = .ok (.iand, 1) := by decide +kernel
theorem dX1_likeLines_18 : decode cX1_likeLines 18 = .ok (.iconst 1, 1) := by decide +kernel
theorem dX1_likeLines_19 : decode cX1_likeLines 19 = .ok (.if_icmp .ne 25, 3) := by decide +kernel
theorem dX1_likeLines_22 : decode cX1_likeLines 22 = .ok (.iload_n 3, 1) := by decide +kernel
theorem dX1_likeLines_23 : decode cX1_likeLines 23 = .ok (.aload_n 0, 1) := by decide +kernel
theorem dX1_likeLines_24 : decode cX1_likeLines 24 = .ok (.getfield 9, 3) := by decide +kernel
theorem dX1_likeLines_27 : decode cX1_likeLines 27 = .ok (.iload 4, 2) := by decide +kernel
theorem dX1_likeLines_29 : decode cX1_likeLines 29 = .ok (.iaload, 1) := by decide +kernel
theorem dX1_likeLines_30 : decode cX1_likeLines 30 = .ok (.iload_n 1, 1) := by decide +kernel
theorem dX1_likeLines_31 : decode cX1_likeLines 31 = .ok (.iand, 1) := by decide +kernel
theorem dX1_likeLines_32 : decode cX1_likeLines 32 = .ok (.iload 4, 2) := by decide +kernel
theorem dX1_likeLines_34 : decode cX1_likeLines 34 = .ok (.iload_n 2, 1) := by decide +kernel
theorem dX1_likeLines_35 : decode cX1_likeLines 35 = .ok (.invokestatic 19, 3) := by decide +kernel
theorem dX1_likeLines_38 : decode cX1_likeLines 38 = .ok (.iand, 1) := by decide +kernel
theorem dX1_likeLines_39 : decode cX1_likeLines 39 = .ok (.invokestatic 22, 3) := by decide +kernel
theorem dX1_likeLines_42 : decode cX1_likeLines 42 = .ok (.iadd, 1) := by decide +kernel
theorem dX1_likeLines_43 : decode cX1_likeLines 43 = .ok (.istore_n 3, 1) := by decide +kernel
theorem dX1_likeLines_44 : decode cX1_likeLines 44 = .ok (.iinc 4 1, 3) := by decide +kernel
theorem dX1_likeLines_47 : decode cX1_likeLines 47 = .ok (.goto (-42), 3) := by decide +kernel
theorem dX1_likeLines_50 : decode cX1_likeLines 50 = .ok (.iload_n 3, 1) := by decide +kernel
theorem dX1_likeLines_51 : decode cX1_likeLines 51 = .ok (.iconst 2, 1) := by decide +kernel
theorem dX1_likeLines_52 : decode cX1_likeLines 52 = .ok (.idiv, 1) := by decide +kernel
theorem dX1_likeLines_53 : decode cX1_likeLines 53 = .ok (.ireturn, 1) := by decide +kernel
set_option maxRecDepth 20000 in
theorem ggX1_cutLikeLines_X1_alikeTo : GoodIn wsX1_cutLikeLines wsX1_alikeTo := goodIn_r _ [5] (by decide +kernel) (by decide +kernel)
set_option maxRecDepth 20000 in
theorem gX1_cutLikeLines_X1_alikeTo : GoodIn wsX1_cutLikeLines (va_wsS RX1 19 yX1_alikeTo wsX1_alikeTo) := goodIn_app (goodIn_of _ (by decide +kernel)) ggX1_cutLikeLines_X1_alikeTo
theorem dX1_cutLikeLines_0 : decode cX1_cutLikeLines 0 = .ok (.iconst 0, 1) := by decide +kernel
theorem dX1_cutLikeLines_1 : decode cX1_cutLikeLines 1 = .ok (.istore_n 2, 1) := by decide +kernel
theorem dX1_cutLikeLines_2 : decode cX1_cutLikeLines 2 = .ok (.iload_n 2, 1) := by decide +kernel
theorem dX1_cutLikeLines_3 : decode cX1_cutLikeLines 3 = .ok (.bipush 6, 2) := by decide +kernel
theorem dX1_cutLikeLines_5 : decode cX1_cutLikeLines 5 = .ok (.if_icmp .ge 25, 3) := by decide +kernel
theorem dX1_cutLikeLines_8 : decode cX1_cutLikeLines 8 = .ok (.aload_n 0, 1) := by decide +kernel
theorem dX1_cutLikeLines_9 : decode cX1_cutLikeLines 9 = .ok (.getfield 9, 3) := by decide +kernel
theorem dX1_cutLikeLines_12 : decode cX1_cutLikeLines 12 = .ok (.iload_n 2, 1) := by decide +kernel
theorem dX1_cutLikeLines_13 : decode cX1_cutLikeLines 13 = .ok (.dup2, 1) := by decide +kernel
theorem dX1_cutLikeLines_14 : decode cX1_cutLikeLines 14 = .ok (.iaload, 1) := by decide +kernel
theorem dX1_cutLikeLines_15 : decode cX1_cutLikeLines 15 = .ok (.iload_n 2, 1) := by decide +kernel
theorem dX1_cutLikeLines_16 : decode cX1_cutLikeLines 16 = .ok (.iload_n 1, 1) := by decide +kernel
theorem dX1_cutLikeLines_17 : decode cX1_cutLikeLines 17 = .ok (.invokestatic 19, 3) := by decide +kernel
theorem dX1_cutLikeLines_20 : decode cX1_cutLikeLines 20 = .ok (.iconst (-1), 1) := by decide +kernel
theorem dX1_cutLikeLines_21 : decode cX1_cutLikeLines 21 = .ok (.ixor, 1) := by decide +kernel
theorem dX1_cutLikeLines_22 : decode cX1_cutLikeLines 22 = .ok (.iand, 1) := by decide +kernel
theorem dX1_cutLikeLines_23 : decode cX1_cutLikeLines 23 = .ok (.iastore, 1) := by decide +kernel
theorem dX1_cutLikeLines_24 : decode cX1_cutLikeLines 24 = .ok (.iinc 2 1, 3) := by decide +kernel
theorem dX1_cutLikeLines_27 : decode cX1_cutLikeLines 27 = .ok (.goto (-25), 3) := by decide +kernel
theorem dX1_cutLikeLines_30 : decode cX1_cutLikeLines 30 = .ok (.return_, 1) := by decide +kernel
set_option maxRecDepth 20000 in
theorem ggX1_bestColouring_X1_bestColouringOf : GoodIn wsX1_bestColouring wsX1_bestColouringOf := goodIn_r _ [5, 6, 7, 8, 4, 9, 10, 11, 12, 13, 14, 15, 16, 17, 18, 19, 20, 21] (by decide +kernel) (by decide +kernel)
set_option maxRecDepth 20000 in
theorem gX1_bestColouring_X1_bestColouringOf : GoodIn wsX1_bestColouring (wsV RX1 28 RX1 yX1_bestColouringOf wsX1_bestColouringOf) := goodIn_app (goodIn_of _ (by decide +kernel)) ggX1_bestColouring_X1_bestColouringOf
theorem dX1_bestColouring_0 : decode cX1_bestColouring 0 = .ok (.aload_n 0, 1) := by decide +kernel
theorem dX1_bestColouring_1 : decode cX1_bestColouring 1 = .ok (.bipush 63, 2) := by decide +kernel
theorem dX1_bestColouring_3 : decode cX1_bestColouring 3 = .ok (.invokevirtual 28, 3) := by decide +kernel
theorem dX1_bestColouring_6 : decode cX1_bestColouring 6 = .ok (.ireturn, 1) := by decide +kernel
set_option maxRecDepth 20000 in
theorem ggX1_bestColouringOf_X1_likeLines : GoodIn wsX1_bestColouringOf wsX1_likeLines := goodIn_r _ [5, 6, 7, 8, 4, 9, 10, 11, 12, 13, 14, 15, 16, 17] (by decide +kernel) (by decide +kernel)
set_option maxRecDepth 20000 in
theorem gX1_bestColouringOf_X1_likeLines : GoodIn wsX1_bestColouringOf (wsV RX1 15 RX1 yX1_likeLines wsX1_likeLines) := goodIn_app (goodIn_of _ (by decide +kernel)) ggX1_bestColouringOf_X1_likeLines
theorem dX1_bestColouringOf_0 : decode cX1_bestColouringOf 0 = .ok (.iconst 0, 1) := by decide +kernel
theorem dX1_bestColouringOf_1 : decode cX1_bestColouringOf 1 = .ok (.istore_n 2, 1) := by decide +kernel
theorem dX1_bestColouringOf_2 : decode cX1_bestColouringOf 2 = .ok (.aload_n 0, 1) := by decide +kernel
theorem dX1_bestColouringOf_3 : decode cX1_bestColouringOf 3 = .ok (.iload_n 1, 1) := by decide +kernel
theorem dX1_bestColouringOf_4 : decode cX1_bestColouringOf 4 = .ok (.iconst 0, 1) := by decide +kernel
theorem dX1_bestColouringOf_5 : decode cX1_bestColouringOf 5 = .ok (.invokevirtual 15, 3) := by decide +kernel
theorem dX1_bestColouringOf_8 : decode cX1_bestColouringOf 8 = .ok (.istore_n 3, 1) := by decide +kernel
theorem dX1_bestColouringOf_9 : decode cX1_bestColouringOf 9 = .ok (.iconst 2, 1) := by decide +kernel
theorem dX1_bestColouringOf_10 : decode cX1_bestColouringOf 10 = .ok (.istore 4, 2) := by decide +kernel
theorem dX1_bestColouringOf_12 : decode cX1_bestColouringOf 12 = .ok (.iload 4, 2) := by decide +kernel
theorem dX1_bestColouringOf_14 : decode cX1_bestColouringOf 14 = .ok (.bipush 63, 2) := by decide +kernel
theorem dX1_bestColouringOf_16 : decode cX1_bestColouringOf 16 = .ok (.if_icmp .gt 30, 3) := by decide +kernel
theorem dX1_bestColouringOf_19 : decode cX1_bestColouringOf 19 = .ok (.aload_n 0, 1) := by decide +kernel
theorem dX1_bestColouringOf_20 : decode cX1_bestColouringOf 20 = .ok (.iload_n 1, 1) := by decide +kernel
theorem dX1_bestColouringOf_21 : decode cX1_bestColouringOf 21 = .ok (.iload 4, 2) := by decide +kernel
theorem dX1_bestColouringOf_23 : decode cX1_bestColouringOf 23 = .ok (.invokevirtual 15, 3) := by decide +kernel
theorem dX1_bestColouringOf_26 : decode cX1_bestColouringOf 26 = .ok (.istore 5, 2) := by decide +kernel
theorem dX1_bestColouringOf_28 : decode cX1_bestColouringOf 28 = .ok (.iload 5, 2) := by decide +kernel
theorem dX1_bestColouringOf_30 : decode cX1_bestColouringOf 30 = .ok (.iload_n 3, 1) := by decide +kernel
theorem dX1_bestColouringOf_31 : decode cX1_bestColouringOf 31 = .ok (.if_icmp .ge 9, 3) := by decide +kernel
theorem dX1_bestColouringOf_34 : decode cX1_bestColouringOf 34 = .ok (.iload 5, 2) := by decide +kernel
theorem dX1_bestColouringOf_36 : decode cX1_bestColouringOf 36 = .ok (.istore_n 3, 1) := by decide +kernel
theorem dX1_bestColouringOf_37 : decode cX1_bestColouringOf 37 = .ok (.iload 4, 2) := by decide +kernel
theorem dX1_bestColouringOf_39 : decode cX1_bestColouringOf 39 = .ok (.istore_n 2, 1) := by decide +kernel
theorem dX1_bestColouringOf_40 : decode cX1_bestColouringOf 40 = .ok (.iinc 4 2, 3) := by decide +kernel
theorem dX1_bestColouringOf_43 : decode cX1_bestColouringOf 43 = .ok (.goto (-31), 3) := by decide +kernel
theorem dX1_bestColouringOf_46 : decode cX1_bestColouringOf 46 = .ok (.iload_n 2, 1) := by decide +kernel
theorem dX1_bestColouringOf_47 : decode cX1_bestColouringOf 47 = .ok (.ireturn, 1) := by decide +kernel
set_option maxRecDepth 20000 in
theorem ggX1_twoColoured_X1_bestColouringOf : GoodIn wsX1_twoColoured wsX1_bestColouringOf := goodIn_r _ [5, 6, 7, 8, 4, 9, 10, 11, 12, 13, 14, 15, 16, 17, 18, 19, 20, 21] (by decide +kernel) (by decide +kernel)
set_option maxRecDepth 20000 in
theorem gX1_twoColoured_X1_bestColouringOf : GoodIn wsX1_twoColoured (wsV RX1 28 RX1 yX1_bestColouringOf wsX1_bestColouringOf) := goodIn_app (goodIn_of _ (by decide +kernel)) ggX1_twoColoured_X1_bestColouringOf
set_option maxRecDepth 20000 in
theorem ggX1_twoColoured_X1_likeLines : GoodIn wsX1_twoColoured wsX1_likeLines := goodIn_r _ [9, 10, 11, 12, 4, 13, 14, 15, 16, 17, 18, 19, 20, 21] (by decide +kernel) (by decide +kernel)
set_option maxRecDepth 20000 in
theorem gX1_twoColoured_X1_likeLines : GoodIn wsX1_twoColoured (wsV RX1 15 RX1 yX1_likeLines wsX1_likeLines) := goodIn_app (goodIn_of _ (by decide +kernel)) ggX1_twoColoured_X1_likeLines
theorem dX1_twoColoured_0 : decode cX1_twoColoured 0 = .ok (.aload_n 0, 1) := by decide +kernel
theorem dX1_twoColoured_1 : decode cX1_twoColoured 1 = .ok (.iload_n 1, 1) := by decide +kernel
theorem dX1_twoColoured_2 : decode cX1_twoColoured 2 = .ok (.aload_n 0, 1) := by decide +kernel
theorem dX1_twoColoured_3 : decode cX1_twoColoured 3 = .ok (.iload_n 1, 1) := by decide +kernel
theorem dX1_twoColoured_4 : decode cX1_twoColoured 4 = .ok (.invokevirtual 28, 3) := by decide +kernel
theorem dX1_twoColoured_7 : decode cX1_twoColoured 7 = .ok (.invokevirtual 15, 3) := by decide +kernel
theorem dX1_twoColoured_10 : decode cX1_twoColoured 10 = .ok (.ifCond .ne 7, 3) := by decide +kernel
theorem dX1_twoColoured_13 : decode cX1_twoColoured 13 = .ok (.iconst 1, 1) := by decide +kernel
theorem dX1_twoColoured_14 : decode cX1_twoColoured 14 = .ok (.goto 4, 3) := by decide +kernel
theorem dX1_twoColoured_17 : decode cX1_twoColoured 17 = .ok (.iconst 0, 1) := by decide +kernel
theorem dX1_twoColoured_18 : decode cX1_twoColoured 18 = .ok (.ireturn, 1) := by decide +kernel
set_option maxRecDepth 20000 in
theorem ggX1_sets_J6_bitCount_0f7a4 : GoodIn wsX1_sets wsJ6_bitCount_0f7a4 := goodIn_r _ [4, 5, 6, 7] (by decide +kernel) (by decide +kernel)
set_option maxRecDepth 20000 in
theorem gX1_sets_J6_bitCount_0f7a4 : GoodIn wsX1_sets (va_wsS RX1 22 yJ6_bitCount_0f7a4 wsJ6_bitCount_0f7a4) := goodIn_app (goodIn_of _ (by decide +kernel)) ggX1_sets_J6_bitCount_0f7a4
theorem dX1_sets_0 : decode cX1_sets 0 = .ok (.iconst 0, 1) := by decide +kernel
theorem dX1_sets_1 : decode cX1_sets 1 = .ok (.istore_n 1, 1) := by decide +kernel
theorem dX1_sets_2 : decode cX1_sets 2 = .ok (.iconst 0, 1) := by decide +kernel
theorem dX1_sets_3 : decode cX1_sets 3 = .ok (.istore_n 2, 1) := by decide +kernel
theorem dX1_sets_4 : decode cX1_sets 4 = .ok (.iload_n 2, 1) := by decide +kernel
theorem dX1_sets_5 : decode cX1_sets 5 = .ok (.bipush 63, 2) := by decide +kernel
theorem dX1_sets_7 : decode cX1_sets 7 = .ok (.if_icmp .gt 20, 3) := by decide +kernel
theorem dX1_sets_10 : decode cX1_sets 10 = .ok (.iload_n 2, 1) := by decide +kernel
theorem dX1_sets_11 : decode cX1_sets 11 = .ok (.invokestatic 22, 3) := by decide +kernel
theorem dX1_sets_14 : decode cX1_sets 14 = .ok (.iload_n 0, 1) := by decide +kernel
theorem dX1_sets_15 : decode cX1_sets 15 = .ok (.if_icmp .ne 6, 3) := by decide +kernel
theorem dX1_sets_18 : decode cX1_sets 18 = .ok (.iinc 1 1, 3) := by decide +kernel
theorem dX1_sets_21 : decode cX1_sets 21 = .ok (.iinc 2 1, 3) := by decide +kernel
theorem dX1_sets_24 : decode cX1_sets 24 = .ok (.goto (-20), 3) := by decide +kernel
theorem dX1_sets_27 : decode cX1_sets 27 = .ok (.iload_n 1, 1) := by decide +kernel
theorem dX1_sets_28 : decode cX1_sets 28 = .ok (.ireturn, 1) := by decide +kernel
set_option maxRecDepth 20000 in
theorem ggX1_passing_J6_bitCount_0f7a4 : GoodIn wsX1_passing wsJ6_bitCount_0f7a4 := goodIn_r _ [4, 5, 6, 7] (by decide +kernel) (by decide +kernel)
set_option maxRecDepth 20000 in
theorem gX1_passing_J6_bitCount_0f7a4 : GoodIn wsX1_passing (va_wsS RX1 22 yJ6_bitCount_0f7a4 wsJ6_bitCount_0f7a4) := goodIn_app (goodIn_of _ (by decide +kernel)) ggX1_passing_J6_bitCount_0f7a4
set_option maxRecDepth 20000 in
theorem ggX1_passing_X1_twoColoured : GoodIn wsX1_passing wsX1_twoColoured := goodIn_r _ [12, 13, 14, 15, 11, 16, 17, 18, 19, 20, 21, 22, 23, 24, 1, 2, 3, 4, 5, 6, 7, 25] (by decide +kernel) (by decide +kernel)
set_option maxRecDepth 20000 in
theorem gX1_passing_X1_twoColoured : GoodIn wsX1_passing (wsV RX1 31 RX1 yX1_twoColoured wsX1_twoColoured) := goodIn_app (goodIn_of _ (by decide +kernel)) ggX1_passing_X1_twoColoured
theorem dX1_passing_0 : decode cX1_passing 0 = .ok (.iconst 0, 1) := by decide +kernel
theorem dX1_passing_1 : decode cX1_passing 1 = .ok (.istore_n 2, 1) := by decide +kernel
theorem dX1_passing_2 : decode cX1_passing 2 = .ok (.iconst 0, 1) := by decide +kernel
theorem dX1_passing_3 : decode cX1_passing 3 = .ok (.istore_n 3, 1) := by decide +kernel
theorem dX1_passing_4 : decode cX1_passing 4 = .ok (.iload_n 3, 1) := by decide +kernel
theorem dX1_passing_5 : decode cX1_passing 5 = .ok (.bipush 63, 2) := by decide +kernel
theorem dX1_passing_7 : decode cX1_passing 7 = .ok (.if_icmp .gt 28, 3) := by decide +kernel
theorem dX1_passing_10 : decode cX1_passing 10 = .ok (.iload_n 3, 1) := by decide +kernel
theorem dX1_passing_11 : decode cX1_passing 11 = .ok (.invokestatic 22, 3) := by decide +kernel
theorem dX1_passing_14 : decode cX1_passing 14 = .ok (.iload_n 1, 1) := by decide +kernel
theorem dX1_passing_15 : decode cX1_passing 15 = .ok (.if_icmp .ne 14, 3) := by decide +kernel
theorem dX1_passing_18 : decode cX1_passing 18 = .ok (.aload_n 0, 1) := by decide +kernel
theorem dX1_passing_19 : decode cX1_passing 19 = .ok (.iload_n 3, 1) := by decide +kernel
theorem dX1_passing_20 : decode cX1_passing 20 = .ok (.invokevirtual 31, 3) := by decide +kernel
theorem dX1_passing_23 : decode cX1_passing 23 = .ok (.ifCond .eq 6, 3) := by decide +kernel
theorem dX1_passing_26 : decode cX1_passing 26 = .ok (.iinc 2 1, 3) := by decide +kernel
theorem dX1_passing_29 : decode cX1_passing 29 = .ok (.iinc 3 1, 3) := by decide +kernel
theorem dX1_passing_32 : decode cX1_passing 32 = .ok (.goto (-28), 3) := by decide +kernel
theorem dX1_passing_35 : decode cX1_passing 35 = .ok (.iload_n 2, 1) := by decide +kernel
theorem dX1_passing_36 : decode cX1_passing 36 = .ok (.ireturn, 1) := by decide +kernel
theorem dX2_init_0 : decode cX2_init 0 = .ok (.aload_n 0, 1) := by decide +kernel
theorem dX2_init_1 : decode cX2_init 1 = .ok (.invokespecial 3, 3) := by decide +kernel
theorem dX2_init_4 : decode cX2_init 4 = .ok (.aload_n 0, 1) := by decide +kernel
theorem dX2_init_5 : decode cX2_init 5 = .ok (.bipush 8, 2) := by decide +kernel
theorem dX2_init_7 : decode cX2_init 7 = .ok (.newarray .int, 2) := by decide +kernel
theorem dX2_init_9 : decode cX2_init 9 = .ok (.putfield 9, 3) := by decide +kernel
theorem dX2_init_12 : decode cX2_init 12 = .ok (.aload_n 0, 1) := by decide +kernel
theorem dX2_init_13 : decode cX2_init 13 = .ok (.bipush 8, 2) := by decide +kernel
theorem dX2_init_15 : decode cX2_init 15 = .ok (.putfield 15, 3) := by decide +kernel
theorem dX2_init_18 : decode cX2_init 18 = .ok (.return_, 1) := by decide +kernel
theorem dX2_clear_0 : decode cX2_clear 0 = .ok (.aload_n 0, 1) := by decide +kernel
theorem dX2_clear_1 : decode cX2_clear 1 = .ok (.iload_n 1, 1) := by decide +kernel
theorem dX2_clear_2 : decode cX2_clear 2 = .ok (.putfield 15, 3) := by decide +kernel
theorem dX2_clear_5 : decode cX2_clear 5 = .ok (.iconst 0, 1) := by decide +kernel
theorem dX2_clear_6 : decode cX2_clear 6 = .ok (.istore_n 2, 1) := by decide +kernel
theorem dX2_clear_7 : decode cX2_clear 7 = .ok (.iload_n 2, 1) := by decide +kernel
theorem dX2_clear_8 : decode cX2_clear 8 = .ok (.bipush 8, 2) := by decide +kernel
theorem dX2_clear_10 : decode cX2_clear 10 = .ok (.if_icmp .ge 16, 3) := by decide +kernel
theorem dX2_clear_13 : decode cX2_clear 13 = .ok (.aload_n 0, 1) := by decide +kernel
theorem dX2_clear_14 : decode cX2_clear 14 = .ok (.getfield 9, 3) := by decide +kernel
theorem dX2_clear_17 : decode cX2_clear 17 = .ok (.iload_n 2, 1) := by decide +kernel
theorem dX2_clear_18 : decode cX2_clear 18 = .ok (.iconst 0, 1) := by decide +kernel
theorem dX2_clear_19 : decode cX2_clear 19 = .ok (.iastore, 1) := by decide +kernel
theorem dX2_clear_20 : decode cX2_clear 20 = .ok (.iinc 2 1, 3) := by decide +kernel
theorem dX2_clear_23 : decode cX2_clear 23 = .ok (.goto (-16), 3) := by decide +kernel
theorem dX2_clear_26 : decode cX2_clear 26 = .ok (.return_, 1) := by decide +kernel
theorem dX2_become_0 : decode cX2_become 0 = .ok (.aload_n 0, 1) := by decide +kernel
theorem dX2_become_1 : decode cX2_become 1 = .ok (.aload_n 1, 1) := by decide +kernel
theorem dX2_become_2 : decode cX2_become 2 = .ok (.getfield 15, 3) := by decide +kernel
theorem dX2_become_5 : decode cX2_become 5 = .ok (.putfield 15, 3) := by decide +kernel
theorem dX2_become_8 : decode cX2_become 8 = .ok (.iconst 0, 1) := by decide +kernel
theorem dX2_become_9 : decode cX2_become 9 = .ok (.istore_n 2, 1) := by decide +kernel
theorem dX2_become_10 : decode cX2_become 10 = .ok (.iload_n 2, 1) := by decide +kernel
theorem dX2_become_11 : decode cX2_become 11 = .ok (.bipush 8, 2) := by decide +kernel
theorem dX2_become_13 : decode cX2_become 13 = .ok (.if_icmp .ge 21, 3) := by decide +kernel
theorem dX2_become_16 : decode cX2_become 16 = .ok (.aload_n 0, 1) := by decide +kernel
theorem dX2_become_17 : decode cX2_become 17 = .ok (.getfield 9, 3) := by decide +kernel
theorem dX2_become_20 : decode cX2_become 20 = .ok (.iload_n 2, 1) := by decide +kernel
theorem dX2_become_21 : decode cX2_become 21 = .ok (.aload_n 1, 1) := by decide +kernel
theorem dX2_become_22 : decode cX2_become 22 = .ok (.getfield 9, 3) := by decide +kernel
theorem dX2_become_25 : decode cX2_become 25 = .ok (.iload_n 2, 1) := by decide +kernel
theorem dX2_become_26 : decode cX2_become 26 = .ok (.iaload, 1) := by decide +kernel
theorem dX2_become_27 : decode cX2_become 27 = .ok (.iastore, 1) := by decide +kernel
theorem dX2_become_28 : decode cX2_become 28 = .ok (.iinc 2 1, 3) := by decide +kernel
theorem dX2_become_31 : decode cX2_become 31 = .ok (.goto (-21), 3) := by decide +kernel
theorem dX2_become_34 : decode cX2_become 34 = .ok (.return_, 1) := by decide +kernel
theorem dX2_spell_0 : decode cX2_spell 0 = .ok (.aload_n 0, 1) := by decide +kernel
theorem dX2_spell_1 : decode cX2_spell 1 = .ok (.iload_n 2, 1) := by decide +kernel
theorem dX2_spell_2 : decode cX2_spell 2 = .ok (.putfield 15, 3) := by decide +kernel
theorem dX2_spell_5 : decode cX2_spell 5 = .ok (.iconst 0, 1) := by decide +kernel
theorem dX2_spell_6 : decode cX2_spell 6 = .ok (.istore_n 3, 1) := by decide +kernel
theorem dX2_spell_7 : decode cX2_spell 7 = .ok (.iload_n 3, 1) := by decide +kernel
theorem dX2_spell_8 : decode cX2_spell 8 = .ok (.aload_n 0, 1) := by decide +kernel
theorem dX2_spell_9 : decode cX2_spell 9 = .ok (.getfield 15, 3) := by decide +kernel
theorem dX2_spell_12 : decode cX2_spell 12 = .ok (.if_icmp .ge 27, 3) := by decide +kernel
theorem dX2_spell_15 : decode cX2_spell 15 = .ok (.aload_n 0, 1) := by decide +kernel
theorem dX2_spell_16 : decode cX2_spell 16 = .ok (.getfield 9, 3) := by decide +kernel
theorem dX2_spell_19 : decode cX2_spell 19 = .ok (.iload_n 3, 1) := by decide +kernel
theorem dX2_spell_20 : decode cX2_spell 20 = .ok (.iload_n 1, 1) := by decide +kernel
theorem dX2_spell_21 : decode cX2_spell 21 = .ok (.aload_n 0, 1) := by decide +kernel
theorem dX2_spell_22 : decode cX2_spell 22 = .ok (.getfield 15, 3) := by decide +kernel
theorem dX2_spell_25 : decode cX2_spell 25 = .ok (.iconst 1, 1) := by decide +kernel
theorem dX2_spell_26 : decode cX2_spell 26 = .ok (.isub, 1) := by decide +kernel
theorem dX2_spell_27 : decode cX2_spell 27 = .ok (.iload_n 3, 1) := by decide +kernel
theorem dX2_spell_28 : decode cX2_spell 28 = .ok (.isub, 1) := by decide +kernel
theorem dX2_spell_29 : decode cX2_spell 29 = .ok (.ishr, 1) := by decide +kernel
theorem dX2_spell_30 : decode cX2_spell 30 = .ok (.iconst 1, 1) := by decide +kernel
theorem dX2_spell_31 : decode cX2_spell 31 = .ok (.iand, 1) := by decide +kernel
theorem dX2_spell_32 : decode cX2_spell 32 = .ok (.iastore, 1) := by decide +kernel
theorem dX2_spell_33 : decode cX2_spell 33 = .ok (.iinc 3 1, 3) := by decide +kernel
theorem dX2_spell_36 : decode cX2_spell 36 = .ok (.goto (-29), 3) := by decide +kernel
theorem dX2_spell_39 : decode cX2_spell 39 = .ok (.return_, 1) := by decide +kernel
theorem dX2_total_0 : decode cX2_total 0 = .ok (.iconst 0, 1) := by decide +kernel
theorem dX2_total_1 : decode cX2_total 1 = .ok (.istore_n 1, 1) := by decide +kernel
theorem dX2_total_2 : decode cX2_total 2 = .ok (.iconst 0, 1) := by decide +kernel
theorem dX2_total_3 : decode cX2_total 3 = .ok (.istore_n 2, 1) := by decide +kernel
theorem dX2_total_4 : decode cX2_total 4 = .ok (.iload_n 2, 1) := by decide +kernel
theorem dX2_total_5 : decode cX2_total 5 = .ok (.aload_n 0, 1) := by decide +kernel
theorem dX2_total_6 : decode cX2_total 6 = .ok (.getfield 15, 3) := by decide +kernel
theorem dX2_total_9 : decode cX2_total 9 = .ok (.if_icmp .ge 18, 3) := by decide +kernel
theorem dX2_total_12 : decode cX2_total 12 = .ok (.iload_n 1, 1) := by decide +kernel
theorem dX2_total_13 : decode cX2_total 13 = .ok (.aload_n 0, 1) := by decide +kernel
theorem dX2_total_14 : decode cX2_total 14 = .ok (.getfield 9, 3) := by decide +kernel
theorem dX2_total_17 : decode cX2_total 17 = .ok (.iload_n 2, 1) := by decide +kernel
theorem dX2_total_18 : decode cX2_total 18 = .ok (.iaload, 1) := by decide +kernel
theorem dX2_total_19 : decode cX2_total 19 = .ok (.iadd, 1) := by decide +kernel
theorem dX2_total_20 : decode cX2_total 20 = .ok (.istore_n 1, 1) := by decide +kernel
theorem dX2_total_21 : decode cX2_total 21 = .ok (.iinc 2 1, 3) := by decide +kernel
theorem dX2_total_24 : decode cX2_total 24 = .ok (.goto (-20), 3) := by decide +kernel
theorem dX2_total_27 : decode cX2_total 27 = .ok (.iload_n 1, 1) := by decide +kernel
theorem dX2_total_28 : decode cX2_total 28 = .ok (.ireturn, 1) := by decide +kernel
theorem dX2_differing_0 : decode cX2_differing 0 = .ok (.iconst 0, 1) := by decide +kernel
theorem dX2_differing_1 : decode cX2_differing 1 = .ok (.istore_n 2, 1) := by decide +kernel
theorem dX2_differing_2 : decode cX2_differing 2 = .ok (.iconst 0, 1) := by decide +kernel
theorem dX2_differing_3 : decode cX2_differing 3 = .ok (.istore_n 3, 1) := by decide +kernel
theorem dX2_differing_4 : decode cX2_differing 4 = .ok (.iload_n 3, 1) := by decide +kernel
theorem dX2_differing_5 : decode cX2_differing 5 = .ok (.aload_n 0, 1) := by decide +kernel
theorem dX2_differing_6 : decode cX2_differing 6 = .ok (.getfield 15, 3) := by decide +kernel
theorem dX2_differing_9 : decode cX2_differing 9 = .ok (.if_icmp .ge 27, 3) := by decide +kernel
theorem dX2_differing_12 : decode cX2_differing 12 = .ok (.aload_n 0, 1) := by decide +kernel
theorem dX2_differing_13 : decode cX2_differing 13 = .ok (.getfield 9, 3) := by decide +kernel
theorem dX2_differing_16 : decode cX2_differing 16 = .ok (.iload_n 3, 1) := by decide +kernel
theorem dX2_differing_17 : decode cX2_differing 17 = .ok (.iaload, 1) := by decide +kernel
theorem dX2_differing_18 : decode cX2_differing 18 = .ok (.aload_n 1, 1) := by decide +kernel
theorem dX2_differing_19 : decode cX2_differing 19 = .ok (.getfield 9, 3) := by decide +kernel
theorem dX2_differing_22 : decode cX2_differing 22 = .ok (.iload_n 3, 1) := by decide +kernel
theorem dX2_differing_23 : decode cX2_differing 23 = .ok (.iaload, 1) := by decide +kernel
theorem dX2_differing_24 : decode cX2_differing 24 = .ok (.if_icmp .eq 6, 3) := by decide +kernel
theorem dX2_differing_27 : decode cX2_differing 27 = .ok (.iinc 2 1, 3) := by decide +kernel
theorem dX2_differing_30 : decode cX2_differing 30 = .ok (.iinc 3 1, 3) := by decide +kernel
theorem dX2_differing_33 : decode cX2_differing 33 = .ok (.goto (-29), 3) := by decide +kernel
theorem dX2_differing_36 : decode cX2_differing 36 = .ok (.iload_n 2, 1) := by decide +kernel
theorem dX2_differing_37 : decode cX2_differing 37 = .ok (.ireturn, 1) := by decide +kernel
theorem dX2_isAheadOf_0 : decode cX2_isAheadOf 0 = .ok (.iconst 0, 1) := by decide +kernel
theorem dX2_isAheadOf_1 : decode cX2_isAheadOf 1 = .ok (.istore_n 2, 1) := by decide +kernel
theorem dX2_isAheadOf_2 : decode cX2_isAheadOf 2 = .ok (.iload_n 2, 1) := by decide +kernel
theorem dX2_isAheadOf_3 : decode cX2_isAheadOf 3 = .ok (.aload_n 0, 1) := by decide +kernel
theorem dX2_isAheadOf_4 : decode cX2_isAheadOf 4 = .ok (.getfield 15, 3) := by decide +kernel
theorem dX2_isAheadOf_7 : decode cX2_isAheadOf 7 = .ok (.if_icmp .ge 45, 3) := by decide +kernel
theorem dX2_isAheadOf_10 : decode cX2_isAheadOf 10 = .ok (.aload_n 0, 1) := by decide +kernel
theorem dX2_isAheadOf_11 : decode cX2_isAheadOf 11 = .ok (.getfield 9, 3) := by decide +kernel
theorem dX2_isAheadOf_14 : decode cX2_isAheadOf 14 = .ok (.iload_n 2, 1) := by decide +kernel
theorem dX2_isAheadOf_15 : decode cX2_isAheadOf 15 = .ok (.iaload, 1) := by decide +kernel
theorem dX2_isAheadOf_16 : decode cX2_isAheadOf 16 = .ok (.aload_n 1, 1) := by decide +kernel
theorem dX2_isAheadOf_17 : decode cX2_isAheadOf 17 = .ok (.getfield 9, 3) := by decide +kernel
theorem dX2_isAheadOf_20 : decode cX2_isAheadOf 20 = .ok (.iload_n 2, 1) := by decide +kernel
theorem dX2_isAheadOf_21 : decode cX2_isAheadOf 21 = .ok (.iaload, 1) := by decide +kernel
theorem dX2_isAheadOf_22 : decode cX2_isAheadOf 22 = .ok (.if_icmp .eq 24, 3) := by decide +kernel
theorem dX2_isAheadOf_25 : decode cX2_isAheadOf 25 = .ok (.aload_n 0, 1) := by decide +kernel
theorem dX2_isAheadOf_26 : decode cX2_isAheadOf 26 = .ok (.getfield 9, 3) := by decide +kernel
theorem dX2_isAheadOf_29 : decode cX2_isAheadOf 29 = .ok (.iload_n 2, 1) := by decide +kernel
theorem dX2_isAheadOf_30 : decode cX2_isAheadOf 30 = .ok (.iaload, 1) := by decide +kernel
theorem dX2_isAheadOf_31 : decode cX2_isAheadOf 31 = .ok (.aload_n 1, 1) := by decide +kernel
theorem dX2_isAheadOf_32 : decode cX2_isAheadOf 32 = .ok (.getfield 9, 3) := by decide +kernel
theorem dX2_isAheadOf_35 : decode cX2_isAheadOf 35 = .ok (.iload_n 2, 1) := by decide +kernel
theorem dX2_isAheadOf_36 : decode cX2_isAheadOf 36 = .ok (.iaload, 1) := by decide +kernel
theorem dX2_isAheadOf_37 : decode cX2_isAheadOf 37 = .ok (.if_icmp .ge 7, 3) := by decide +kernel
theorem dX2_isAheadOf_40 : decode cX2_isAheadOf 40 = .ok (.iconst 1, 1) := by decide +kernel
theorem dX2_isAheadOf_41 : decode cX2_isAheadOf 41 = .ok (.goto 4, 3) := by decide +kernel
theorem dX2_isAheadOf_44 : decode cX2_isAheadOf 44 = .ok (.iconst 0, 1) := by decide +kernel
theorem dX2_isAheadOf_45 : decode cX2_isAheadOf 45 = .ok (.ireturn, 1) := by decide +kernel
theorem dX2_isAheadOf_46 : decode cX2_isAheadOf 46 = .ok (.iinc 2 1, 3) := by decide +kernel
theorem dX2_isAheadOf_49 : decode cX2_isAheadOf 49 = .ok (.goto (-47), 3) := by decide +kernel
theorem dX2_isAheadOf_52 : decode cX2_isAheadOf 52 = .ok (.iconst 0, 1) := by decide +kernel
theorem dX2_isAheadOf_53 : decode cX2_isAheadOf 53 = .ok (.ireturn, 1) := by decide +kernel
theorem dX2_looks_0 : decode cX2_looks 0 = .ok (.iload_n 1, 1) := by decide +kernel
theorem dX2_looks_1 : decode cX2_looks 1 = .ok (.tableswitch 48 0 2 #[27, 41, 46], 27) := by decide +kernel
theorem dX2_looks_28 : decode cX2_looks 28 = .ok (.aload_n 0, 1) := by decide +kernel
theorem dX2_looks_29 : decode cX2_looks 29 = .ok (.getfield 15, 3) := by decide +kernel
theorem dX2_looks_32 : decode cX2_looks 32 = .ok (.aload_n 0, 1) := by decide +kernel
theorem dX2_looks_33 : decode cX2_looks 33 = .ok (.getfield 15, 3) := by decide +kernel
theorem dX2_looks_36 : decode cX2_looks 36 = .ok (.iconst 1, 1) := by decide +kernel
theorem dX2_looks_37 : decode cX2_looks 37 = .ok (.isub, 1) := by decide +kernel
theorem dX2_looks_38 : decode cX2_looks 38 = .ok (.imul, 1) := by decide +kernel
theorem dX2_looks_39 : decode cX2_looks 39 = .ok (.iconst 2, 1) := by decide +kernel
theorem dX2_looks_40 : decode cX2_looks 40 = .ok (.idiv, 1) := by decide +kernel
theorem dX2_looks_41 : decode cX2_looks 41 = .ok (.ireturn, 1) := by decide +kernel
theorem dX2_looks_42 : decode cX2_looks 42 = .ok (.aload_n 0, 1) := by decide +kernel
theorem dX2_looks_43 : decode cX2_looks 43 = .ok (.getfield 15, 3) := by decide +kernel
theorem dX2_looks_46 : decode cX2_looks 46 = .ok (.ireturn, 1) := by decide +kernel
theorem dX2_looks_47 : decode cX2_looks 47 = .ok (.iconst 1, 1) := by decide +kernel
theorem dX2_looks_48 : decode cX2_looks 48 = .ok (.ireturn, 1) := by decide +kernel
theorem dX2_looks_49 : decode cX2_looks 49 = .ok (.aload_n 0, 1) := by decide +kernel
theorem dX2_looks_50 : decode cX2_looks 50 = .ok (.getfield 15, 3) := by decide +kernel
theorem dX2_looks_53 : decode cX2_looks 53 = .ok (.aload_n 0, 1) := by decide +kernel
theorem dX2_looks_54 : decode cX2_looks 54 = .ok (.getfield 15, 3) := by decide +kernel
theorem dX2_looks_57 : decode cX2_looks 57 = .ok (.iconst 1, 1) := by decide +kernel
theorem dX2_looks_58 : decode cX2_looks 58 = .ok (.isub, 1) := by decide +kernel
theorem dX2_looks_59 : decode cX2_looks 59 = .ok (.imul, 1) := by decide +kernel
theorem dX2_looks_60 : decode cX2_looks 60 = .ok (.ireturn, 1) := by decide +kernel
set_option maxRecDepth 20000 in
theorem ggX2_passing_X2_risingPairs : GoodIn wsX2_passing wsX2_risingPairs := goodIn_r _ [5, 6, 7, 20, 21] (by decide +kernel) (by decide +kernel)
set_option maxRecDepth 20000 in
theorem gX2_passing_X2_risingPairs : GoodIn wsX2_passing (wsV RX2 19 RX2 yX2_risingPairs wsX2_risingPairs) := goodIn_app (goodIn_of _ (by decide +kernel)) ggX2_passing_X2_risingPairs
set_option maxRecDepth 20000 in
theorem ggX2_passing_X2_mirroredPlaces : GoodIn wsX2_passing wsX2_mirroredPlaces := goodIn_r _ [11, 6, 7, 20, 21] (by decide +kernel) (by decide +kernel)
set_option maxRecDepth 20000 in
theorem gX2_passing_X2_mirroredPlaces : GoodIn wsX2_passing (wsV RX2 23 RX2 yX2_mirroredPlaces wsX2_mirroredPlaces) := goodIn_app (goodIn_of _ (by decide +kernel)) ggX2_passing_X2_mirroredPlaces
set_option maxRecDepth 20000 in
theorem ggX2_passing_X2_total : GoodIn wsX2_passing wsX2_total := goodIn_r _ [15, 6, 7, 20, 21] (by decide +kernel) (by decide +kernel)
set_option maxRecDepth 20000 in
theorem gX2_passing_X2_total : GoodIn wsX2_passing (wsV RX2 26 RX2 yX2_total wsX2_total) := goodIn_app (goodIn_of _ (by decide +kernel)) ggX2_passing_X2_total
set_option maxRecDepth 20000 in
theorem ggX2_passing_X2_alikeShifts : GoodIn wsX2_passing wsX2_alikeShifts := goodIn_r _ [19, 6, 7, 20, 21] (by decide +kernel) (by decide +kernel)
set_option maxRecDepth 20000 in
theorem gX2_passing_X2_alikeShifts : GoodIn wsX2_passing (wsV RX2 29 RX2 yX2_alikeShifts wsX2_alikeShifts) := goodIn_app (goodIn_of _ (by decide +kernel)) ggX2_passing_X2_alikeShifts
theorem dX2_passing_0 : decode cX2_passing 0 = .ok (.iload_n 1, 1) := by decide +kernel
theorem dX2_passing_1 : decode cX2_passing 1 = .ok (.tableswitch 52 0 2 #[27, 32, 37], 27) := by decide +kernel
theorem dX2_passing_28 : decode cX2_passing 28 = .ok (.aload_n 0, 1) := by decide +kernel
theorem dX2_passing_29 : decode cX2_passing 29 = .ok (.invokevirtual 19, 3) := by decide +kernel
theorem dX2_passing_32 : decode cX2_passing 32 = .ok (.ireturn, 1) := by decide +kernel
theorem dX2_passing_33 : decode cX2_passing 33 = .ok (.aload_n 0, 1) := by decide +kernel
theorem dX2_passing_34 : decode cX2_passing 34 = .ok (.invokevirtual 23, 3) := by decide +kernel
theorem dX2_passing_37 : decode cX2_passing 37 = .ok (.ireturn, 1) := by decide +kernel
theorem dX2_passing_38 : decode cX2_passing 38 = .ok (.aload_n 0, 1) := by decide +kernel
theorem dX2_passing_39 : decode cX2_passing 39 = .ok (.invokevirtual 26, 3) := by decide +kernel
theorem dX2_passing_42 : decode cX2_passing 42 = .ok (.iconst 2, 1) := by decide +kernel
theorem dX2_passing_43 : decode cX2_passing 43 = .ok (.irem, 1) := by decide +kernel
theorem dX2_passing_44 : decode cX2_passing 44 = .ok (.ifCond .ne 7, 3) := by decide +kernel
theorem dX2_passing_47 : decode cX2_passing 47 = .ok (.iconst 1, 1) := by decide +kernel
theorem dX2_passing_48 : decode cX2_passing 48 = .ok (.goto 4, 3) := by decide +kernel
theorem dX2_passing_51 : decode cX2_passing 51 = .ok (.iconst 0, 1) := by decide +kernel
theorem dX2_passing_52 : decode cX2_passing 52 = .ok (.ireturn, 1) := by decide +kernel
theorem dX2_passing_53 : decode cX2_passing 53 = .ok (.aload_n 0, 1) := by decide +kernel
theorem dX2_passing_54 : decode cX2_passing 54 = .ok (.invokevirtual 29, 3) := by decide +kernel
theorem dX2_passing_57 : decode cX2_passing 57 = .ok (.ireturn, 1) := by decide +kernel
theorem dX2_risingPairs_0 : decode cX2_risingPairs 0 = .ok (.iconst 0, 1) := by decide +kernel
theorem dX2_risingPairs_1 : decode cX2_risingPairs 1 = .ok (.istore_n 1, 1) := by decide +kernel
theorem dX2_risingPairs_2 : decode cX2_risingPairs 2 = .ok (.iconst 0, 1) := by decide +kernel
theorem dX2_risingPairs_3 : decode cX2_risingPairs 3 = .ok (.istore_n 2, 1) := by decide +kernel
theorem dX2_risingPairs_4 : decode cX2_risingPairs 4 = .ok (.iload_n 2, 1) := by decide +kernel
theorem dX2_risingPairs_5 : decode cX2_risingPairs 5 = .ok (.aload_n 0, 1) := by decide +kernel
theorem dX2_risingPairs_6 : decode cX2_risingPairs 6 = .ok (.getfield 15, 3) := by decide +kernel
theorem dX2_risingPairs_9 : decode cX2_risingPairs 9 = .ok (.if_icmp .ge 45, 3) := by decide +kernel
theorem dX2_risingPairs_12 : decode cX2_risingPairs 12 = .ok (.iload_n 2, 1) := by decide +kernel
theorem dX2_risingPairs_13 : decode cX2_risingPairs 13 = .ok (.iconst 1, 1) := by decide +kernel
theorem dX2_risingPairs_14 : decode cX2_risingPairs 14 = .ok (.iadd, 1) := by decide +kernel
theorem dX2_risingPairs_15 : decode cX2_risingPairs 15 = .ok (.istore_n 3, 1) := by decide +kernel
theorem dX2_risingPairs_16 : decode cX2_risingPairs 16 = .ok (.iload_n 3, 1) := by decide +kernel
theorem dX2_risingPairs_17 : decode cX2_risingPairs 17 = .ok (.aload_n 0, 1) := by decide +kernel
theorem dX2_risingPairs_18 : decode cX2_risingPairs 18 = .ok (.getfield 15, 3) := by decide +kernel
theorem dX2_risingPairs_21 : decode cX2_risingPairs 21 = .ok (.if_icmp .ge 27, 3) := by decide +kernel
theorem dX2_risingPairs_24 : decode cX2_risingPairs 24 = .ok (.aload_n 0, 1) := by decide +kernel
theorem dX2_risingPairs_25 : decode cX2_risingPairs 25 = .ok (.getfield 9, 3) := by decide +kernel
theorem dX2_risingPairs_28 : decode cX2_risingPairs 28 = .ok (.iload_n 2, 1) := by decide +kernel
theorem dX2_risingPairs_29 : decode cX2_risingPairs 29 = .ok (.iaload, 1) := by decide +kernel
theorem dX2_risingPairs_30 : decode cX2_risingPairs 30 = .ok (.aload_n 0, 1) := by decide +kernel
theorem dX2_risingPairs_31 : decode cX2_risingPairs 31 = .ok (.getfield 9, 3) := by decide +kernel
theorem dX2_risingPairs_34 : decode cX2_risingPairs 34 = .ok (.iload_n 3, 1) := by decide +kernel
theorem dX2_risingPairs_35 : decode cX2_risingPairs 35 = .ok (.iaload, 1) := by decide +kernel
theorem dX2_risingPairs_36 : decode cX2_risingPairs 36 = .ok (.if_icmp .gt 6, 3) := by decide +kernel
theorem dX2_risingPairs_39 : decode cX2_risingPairs 39 = .ok (.iinc 1 1, 3) := by decide +kernel
theorem dX2_risingPairs_42 : decode cX2_risingPairs 42 = .ok (.iinc 3 1, 3) := by decide +kernel
theorem dX2_risingPairs_45 : decode cX2_risingPairs 45 = .ok (.goto (-29), 3) := by decide +kernel
theorem dX2_risingPairs_48 : decode cX2_risingPairs 48 = .ok (.iinc 2 1, 3) := by decide +kernel
theorem dX2_risingPairs_51 : decode cX2_risingPairs 51 = .ok (.goto (-47), 3) := by decide +kernel
theorem dX2_risingPairs_54 : decode cX2_risingPairs 54 = .ok (.iload_n 1, 1) := by decide +kernel
theorem dX2_risingPairs_55 : decode cX2_risingPairs 55 = .ok (.ireturn, 1) := by decide +kernel
theorem dX2_mirroredPlaces_0 : decode cX2_mirroredPlaces 0 = .ok (.iconst 0, 1) := by decide +kernel
theorem dX2_mirroredPlaces_1 : decode cX2_mirroredPlaces 1 = .ok (.istore_n 1, 1) := by decide +kernel
theorem dX2_mirroredPlaces_2 : decode cX2_mirroredPlaces 2 = .ok (.iconst 0, 1) := by decide +kernel
theorem dX2_mirroredPlaces_3 : decode cX2_mirroredPlaces 3 = .ok (.istore_n 2, 1) := by decide +kernel
theorem dX2_mirroredPlaces_4 : decode cX2_mirroredPlaces 4 = .ok (.iload_n 2, 1) := by decide +kernel
theorem dX2_mirroredPlaces_5 : decode cX2_mirroredPlaces 5 = .ok (.aload_n 0, 1) := by decide +kernel
theorem dX2_mirroredPlaces_6 : decode cX2_mirroredPlaces 6 = .ok (.getfield 15, 3) := by decide +kernel
theorem dX2_mirroredPlaces_9 : decode cX2_mirroredPlaces 9 = .ok (.if_icmp .ge 34, 3) := by decide +kernel
theorem dX2_mirroredPlaces_12 : decode cX2_mirroredPlaces 12 = .ok (.aload_n 0, 1) := by decide +kernel
theorem dX2_mirroredPlaces_13 : decode cX2_mirroredPlaces 13 = .ok (.getfield 9, 3) := by decide +kernel
theorem dX2_mirroredPlaces_16 : decode cX2_mirroredPlaces 16 = .ok (.iload_n 2, 1) := by decide +kernel
theorem dX2_mirroredPlaces_17 : decode cX2_mirroredPlaces 17 = .ok (.iaload, 1) := by decide +kernel
theorem dX2_mirroredPlaces_18 : decode cX2_mirroredPlaces 18 = .ok (.aload_n 0, 1) := by decide +kernel
theorem dX2_mirroredPlaces_19 : decode cX2_mirroredPlaces 19 = .ok (.getfield 9, 3) := by decide +kernel
theorem dX2_mirroredPlaces_22 : decode cX2_mirroredPlaces 22 = .ok (.aload_n 0, 1) := by decide +kernel
theorem dX2_mirroredPlaces_23 : decode cX2_mirroredPlaces 23 = .ok (.getfield 15, 3) := by decide +kernel
theorem dX2_mirroredPlaces_26 : decode cX2_mirroredPlaces 26 = .ok (.iconst 1, 1) := by decide +kernel
theorem dX2_mirroredPlaces_27 : decode cX2_mirroredPlaces 27 = .ok (.isub, 1) := by decide +kernel
theorem dX2_mirroredPlaces_28 : decode cX2_mirroredPlaces 28 = .ok (.iload_n 2, 1) := by decide +kernel
theorem dX2_mirroredPlaces_29 : decode cX2_mirroredPlaces 29 = .ok (.isub, 1) := by decide +kernel
theorem dX2_mirroredPlaces_30 : decode cX2_mirroredPlaces 30 = .ok (.iaload, 1) := by decide +kernel
theorem dX2_mirroredPlaces_31 : decode cX2_mirroredPlaces 31 = .ok (.if_icmp .ne 6, 3) := by decide +kernel
theorem dX2_mirroredPlaces_34 : decode cX2_mirroredPlaces 34 = .ok (.iinc 1 1, 3) := by decide +kernel
theorem dX2_mirroredPlaces_37 : decode cX2_mirroredPlaces 37 = .ok (.iinc 2 1, 3) := by decide +kernel
theorem dX2_mirroredPlaces_40 : decode cX2_mirroredPlaces 40 = .ok (.goto (-36), 3) := by decide +kernel
theorem dX2_mirroredPlaces_43 : decode cX2_mirroredPlaces 43 = .ok (.iload_n 1, 1) := by decide +kernel
theorem dX2_mirroredPlaces_44 : decode cX2_mirroredPlaces 44 = .ok (.ireturn, 1) := by decide +kernel
theorem dX2_alikeShifts_0 : decode cX2_alikeShifts 0 = .ok (.iconst 0, 1) := by decide +kernel
theorem dX2_alikeShifts_1 : decode cX2_alikeShifts 1 = .ok (.istore_n 1, 1) := by decide +kernel
theorem dX2_alikeShifts_2 : decode cX2_alikeShifts 2 = .ok (.iconst 0, 1) := by decide +kernel
theorem dX2_alikeShifts_3 : decode cX2_alikeShifts 3 = .ok (.istore_n 2, 1) := by decide +kernel
theorem dX2_alikeShifts_4 : decode cX2_alikeShifts 4 = .ok (.iload_n 2, 1) := by decide +kernel
theorem dX2_alikeShifts_5 : decode cX2_alikeShifts 5 = .ok (.aload_n 0, 1) := by decide +kernel
theorem dX2_alikeShifts_6 : decode cX2_alikeShifts 6 = .ok (.getfield 15, 3) := by decide +kernel
theorem dX2_alikeShifts_9 : decode cX2_alikeShifts 9 = .ok (.if_icmp .ge 48, 3) := by decide +kernel
theorem dX2_alikeShifts_12 : decode cX2_alikeShifts 12 = .ok (.iconst 0, 1) := by decide +kernel
theorem dX2_alikeShifts_13 : decode cX2_alikeShifts 13 = .ok (.istore_n 3, 1) := by decide +kernel
theorem dX2_alikeShifts_14 : decode cX2_alikeShifts 14 = .ok (.iload_n 3, 1) := by decide +kernel
theorem dX2_alikeShifts_15 : decode cX2_alikeShifts 15 = .ok (.aload_n 0, 1) := by decide +kernel
theorem dX2_alikeShifts_16 : decode cX2_alikeShifts 16 = .ok (.getfield 15, 3) := by decide +kernel
theorem dX2_alikeShifts_19 : decode cX2_alikeShifts 19 = .ok (.if_icmp .ge 32, 3) := by decide +kernel
theorem dX2_alikeShifts_22 : decode cX2_alikeShifts 22 = .ok (.iload_n 2, 1) := by decide +kernel
theorem dX2_alikeShifts_23 : decode cX2_alikeShifts 23 = .ok (.iload_n 3, 1) := by decide +kernel
theorem dX2_alikeShifts_24 : decode cX2_alikeShifts 24 = .ok (.if_icmp .eq 21, 3) := by decide +kernel
theorem dX2_alikeShifts_27 : decode cX2_alikeShifts 27 = .ok (.aload_n 0, 1) := by decide +kernel
theorem dX2_alikeShifts_28 : decode cX2_alikeShifts 28 = .ok (.getfield 9, 3) := by decide +kernel
theorem dX2_alikeShifts_31 : decode cX2_alikeShifts 31 = .ok (.iload_n 2, 1) := by decide +kernel
theorem dX2_alikeShifts_32 : decode cX2_alikeShifts 32 = .ok (.iaload, 1) := by decide +kernel
theorem dX2_alikeShifts_33 : decode cX2_alikeShifts 33 = .ok (.aload_n 0, 1) := by decide +kernel
theorem dX2_alikeShifts_34 : decode cX2_alikeShifts 34 = .ok (.getfield 9, 3) := by decide +kernel
theorem dX2_alikeShifts_37 : decode cX2_alikeShifts 37 = .ok (.iload_n 3, 1) := by decide +kernel
theorem dX2_alikeShifts_38 : decode cX2_alikeShifts 38 = .ok (.iaload, 1) := by decide +kernel
theorem dX2_alikeShifts_39 : decode cX2_alikeShifts 39 = .ok (.if_icmp .ne 6, 3) := by decide +kernel
theorem dX2_alikeShifts_42 : decode cX2_alikeShifts 42 = .ok (.iinc 1 1, 3) := by decide +kernel
theorem dX2_alikeShifts_45 : decode cX2_alikeShifts 45 = .ok (.iinc 3 1, 3) := by decide +kernel
theorem dX2_alikeShifts_48 : decode cX2_alikeShifts 48 = .ok (.goto (-34), 3) := by decide +kernel
theorem dX2_alikeShifts_51 : decode cX2_alikeShifts 51 = .ok (.iinc 2 1, 3) := by decide +kernel
theorem dX2_alikeShifts_54 : decode cX2_alikeShifts 54 = .ok (.goto (-50), 3) := by decide +kernel
theorem dX2_alikeShifts_57 : decode cX2_alikeShifts 57 = .ok (.iload_n 1, 1) := by decide +kernel
theorem dX2_alikeShifts_58 : decode cX2_alikeShifts 58 = .ok (.ireturn, 1) := by decide +kernel
theorem dX3_init_0 : decode cX3_init 0 = .ok (.aload_n 0, 1) := by decide +kernel
theorem dX3_init_1 : decode cX3_init 1 = .ok (.invokespecial 3, 3) := by decide +kernel
theorem dX3_init_4 : decode cX3_init 4 = .ok (.aload_n 0, 1) := by decide +kernel
theorem dX3_init_5 : decode cX3_init 5 = .ok (.iconst 0, 1) := by decide +kernel
theorem dX3_init_6 : decode cX3_init 6 = .ok (.putfield 9, 3) := by decide +kernel
theorem dX3_init_9 : decode cX3_init 9 = .ok (.return_, 1) := by decide +kernel
theorem dX3_at_0 : decode cX3_at 0 = .ok (.aload_n 0, 1) := by decide +kernel
theorem dX3_at_1 : decode cX3_at 1 = .ok (.getfield 9, 3) := by decide +kernel
theorem dX3_at_4 : decode cX3_at 4 = .ok (.iload_n 1, 1) := by decide +kernel
theorem dX3_at_5 : decode cX3_at 5 = .ok (.ishr, 1) := by decide +kernel
theorem dX3_at_6 : decode cX3_at 6 = .ok (.iconst 1, 1) := by decide +kernel
theorem dX3_at_7 : decode cX3_at 7 = .ok (.iand, 1) := by decide +kernel
theorem dX3_at_8 : decode cX3_at 8 = .ok (.ireturn, 1) := by decide +kernel
theorem dX3_put_0 : decode cX3_put 0 = .ok (.aload_n 0, 1) := by decide +kernel
theorem dX3_put_1 : decode cX3_put 1 = .ok (.aload_n 0, 1) := by decide +kernel
theorem dX3_put_2 : decode cX3_put 2 = .ok (.getfield 9, 3) := by decide +kernel
theorem dX3_put_5 : decode cX3_put 5 = .ok (.iconst 1, 1) := by decide +kernel
theorem dX3_put_6 : decode cX3_put 6 = .ok (.iload_n 1, 1) := by decide +kernel
theorem dX3_put_7 : decode cX3_put 7 = .ok (.ishl, 1) := by decide +kernel
theorem dX3_put_8 : decode cX3_put 8 = .ok (.iconst (-1), 1) := by decide +kernel
theorem dX3_put_9 : decode cX3_put 9 = .ok (.ixor, 1) := by decide +kernel
theorem dX3_put_10 : decode cX3_put 10 = .ok (.iand, 1) := by decide +kernel
theorem dX3_put_11 : decode cX3_put 11 = .ok (.iload_n 2, 1) := by decide +kernel
theorem dX3_put_12 : decode cX3_put 12 = .ok (.iload_n 1, 1) := by decide +kernel
theorem dX3_put_13 : decode cX3_put 13 = .ok (.ishl, 1) := by decide +kernel
theorem dX3_put_14 : decode cX3_put 14 = .ok (.ior, 1) := by decide +kernel
theorem dX3_put_15 : decode cX3_put 15 = .ok (.putfield 9, 3) := by decide +kernel
theorem dX3_put_18 : decode cX3_put 18 = .ok (.return_, 1) := by decide +kernel
set_option maxRecDepth 20000 in
theorem ggX3_parities_J6_bitCount_0f7a4 : GoodIn wsX3_parities wsJ6_bitCount_0f7a4 := goodIn_r _ [4, 5, 6, 7] (by decide +kernel) (by decide +kernel)
set_option maxRecDepth 20000 in
theorem gX3_parities_J6_bitCount_0f7a4 : GoodIn wsX3_parities (va_wsS RX3 15 yJ6_bitCount_0f7a4 wsJ6_bitCount_0f7a4) := goodIn_app (goodIn_of _ (by decide +kernel)) ggX3_parities_J6_bitCount_0f7a4
theorem dX3_parities_0 : decode cX3_parities 0 = .ok (.iconst 0, 1) := by decide +kernel
theorem dX3_parities_1 : decode cX3_parities 1 = .ok (.istore_n 1, 1) := by decide +kernel
theorem dX3_parities_2 : decode cX3_parities 2 = .ok (.iconst 0, 1) := by decide +kernel
theorem dX3_parities_3 : decode cX3_parities 3 = .ok (.istore_n 2, 1) := by decide +kernel
theorem dX3_parities_4 : decode cX3_parities 4 = .ok (.iload_n 2, 1) := by decide +kernel
theorem dX3_parities_5 : decode cX3_parities 5 = .ok (.bipush 8, 2) := by decide +kernel
theorem dX3_parities_7 : decode cX3_parities 7 = .ok (.if_icmp .ge 22, 3) := by decide +kernel
theorem dX3_parities_10 : decode cX3_parities 10 = .ok (.iload_n 1, 1) := by decide +kernel
theorem dX3_parities_11 : decode cX3_parities 11 = .ok (.iload_n 0, 1) := by decide +kernel
theorem dX3_parities_12 : decode cX3_parities 12 = .ok (.iload_n 2, 1) := by decide +kernel
theorem dX3_parities_13 : decode cX3_parities 13 = .ok (.iand, 1) := by decide +kernel
theorem dX3_parities_14 : decode cX3_parities 14 = .ok (.invokestatic 15, 3) := by decide +kernel
theorem dX3_parities_17 : decode cX3_parities 17 = .ok (.iconst 1, 1) := by decide +kernel
theorem dX3_parities_18 : decode cX3_parities 18 = .ok (.iand, 1) := by decide +kernel
theorem dX3_parities_19 : decode cX3_parities 19 = .ok (.iload_n 2, 1) := by decide +kernel
theorem dX3_parities_20 : decode cX3_parities 20 = .ok (.ishl, 1) := by decide +kernel
theorem dX3_parities_21 : decode cX3_parities 21 = .ok (.ior, 1) := by decide +kernel
theorem dX3_parities_22 : decode cX3_parities 22 = .ok (.istore_n 1, 1) := by decide +kernel
theorem dX3_parities_23 : decode cX3_parities 23 = .ok (.iinc 2 1, 3) := by decide +kernel
theorem dX3_parities_26 : decode cX3_parities 26 = .ok (.goto (-22), 3) := by decide +kernel
theorem dX3_parities_29 : decode cX3_parities 29 = .ok (.iload_n 1, 1) := by decide +kernel
theorem dX3_parities_30 : decode cX3_parities 30 = .ok (.ireturn, 1) := by decide +kernel
set_option maxRecDepth 20000 in
theorem ggX3_differing_X3_parities : GoodIn wsX3_differing wsX3_parities := goodIn_r _ [5, 6, 7, 8, 9, 10, 11, 12] (by decide +kernel) (by decide +kernel)
set_option maxRecDepth 20000 in
theorem gX3_differing_X3_parities : GoodIn wsX3_differing (va_wsS RX3 21 yX3_parities wsX3_parities) := goodIn_app (goodIn_of _ (by decide +kernel)) ggX3_differing_X3_parities
set_option maxRecDepth 20000 in
theorem ggX3_differing_J6_bitCount_0f7a4 : GoodIn wsX3_differing wsJ6_bitCount_0f7a4 := goodIn_r _ [9, 10, 11, 12] (by decide +kernel) (by decide +kernel)
set_option maxRecDepth 20000 in
theorem gX3_differing_J6_bitCount_0f7a4 : GoodIn wsX3_differing (va_wsS RX3 15 yJ6_bitCount_0f7a4 wsJ6_bitCount_0f7a4) := goodIn_app (goodIn_of _ (by decide +kernel)) ggX3_differing_J6_bitCount_0f7a4
theorem dX3_differing_0 : decode cX3_differing 0 = .ok (.aload_n 0, 1) := by decide +kernel
theorem dX3_differing_1 : decode cX3_differing 1 = .ok (.getfield 9, 3) := by decide +kernel
theorem dX3_differing_4 : decode cX3_differing 4 = .ok (.iload_n 1, 1) := by decide +kernel
theorem dX3_differing_5 : decode cX3_differing 5 = .ok (.invokestatic 21, 3) := by decide +kernel
theorem dX3_differing_8 : decode cX3_differing 8 = .ok (.ixor, 1) := by decide +kernel
theorem dX3_differing_9 : decode cX3_differing 9 = .ok (.invokestatic 15, 3) := by decide +kernel
theorem dX3_differing_12 : decode cX3_differing 12 = .ok (.ireturn, 1) := by decide +kernel
set_option maxRecDepth 20000 in
theorem ggX3_closest_X3_differing : GoodIn wsX3_closest wsX3_differing := goodIn_r _ [5, 6, 7, 8, 4, 9, 10, 11, 12, 13, 14, 15, 16, 17] (by decide +kernel) (by decide +kernel)
set_option maxRecDepth 20000 in
theorem gX3_closest_X3_differing : GoodIn wsX3_closest (wsV RX3 24 RX3 yX3_differing wsX3_differing) := goodIn_app (goodIn_of _ (by decide +kernel)) ggX3_closest_X3_differing
theorem dX3_closest_0 : decode cX3_closest 0 = .ok (.iconst 0, 1) := by decide +kernel
theorem dX3_closest_1 : decode cX3_closest 1 = .ok (.istore_n 1, 1) := by decide +kernel
theorem dX3_closest_2 : decode cX3_closest 2 = .ok (.iconst 1, 1) := by decide +kernel
theorem dX3_closest_3 : decode cX3_closest 3 = .ok (.istore_n 2, 1) := by decide +kernel
theorem dX3_closest_4 : decode cX3_closest 4 = .ok (.iload_n 2, 1) := by decide +kernel
theorem dX3_closest_5 : decode cX3_closest 5 = .ok (.bipush 8, 2) := by decide +kernel
theorem dX3_closest_7 : decode cX3_closest 7 = .ok (.if_icmp .ge 24, 3) := by decide +kernel
theorem dX3_closest_10 : decode cX3_closest 10 = .ok (.aload_n 0, 1) := by decide +kernel
theorem dX3_closest_11 : decode cX3_closest 11 = .ok (.iload_n 2, 1) := by decide +kernel
theorem dX3_closest_12 : decode cX3_closest 12 = .ok (.invokevirtual 24, 3) := by decide +kernel
theorem dX3_closest_15 : decode cX3_closest 15 = .ok (.aload_n 0, 1) := by decide +kernel
theorem dX3_closest_16 : decode cX3_closest 16 = .ok (.iload_n 1, 1) := by decide +kernel
theorem dX3_closest_17 : decode cX3_closest 17 = .ok (.invokevirtual 24, 3) := by decide +kernel
theorem dX3_closest_20 : decode cX3_closest 20 = .ok (.if_icmp .ge 5, 3) := by decide +kernel
theorem dX3_closest_23 : decode cX3_closest 23 = .ok (.iload_n 2, 1) := by decide +kernel
theorem dX3_closest_24 : decode cX3_closest 24 = .ok (.istore_n 1, 1) := by decide +kernel
theorem dX3_closest_25 : decode cX3_closest 25 = .ok (.iinc 2 1, 3) := by decide +kernel
theorem dX3_closest_28 : decode cX3_closest 28 = .ok (.goto (-24), 3) := by decide +kernel
theorem dX3_closest_31 : decode cX3_closest 31 = .ok (.iload_n 1, 1) := by decide +kernel
theorem dX3_closest_32 : decode cX3_closest 32 = .ok (.ireturn, 1) := by decide +kernel
set_option maxRecDepth 20000 in
theorem ggX3_agrees_X3_at : GoodIn wsX3_agrees wsX3_at := goodIn_r _ [5, 6, 7] (by decide +kernel) (by decide +kernel)
set_option maxRecDepth 20000 in
theorem gX3_agrees_X3_at : GoodIn wsX3_agrees (wsV RX3 27 RX3 yX3_at wsX3_at) := goodIn_app (goodIn_of _ (by decide +kernel)) ggX3_agrees_X3_at
theorem dX3_agrees_0 : decode cX3_agrees 0 = .ok (.aload_n 0, 1) := by decide +kernel
theorem dX3_agrees_1 : decode cX3_agrees 1 = .ok (.iload_n 1, 1) := by decide +kernel
theorem dX3_agrees_2 : decode cX3_agrees 2 = .ok (.invokevirtual 27, 3) := by decide +kernel
theorem dX3_agrees_5 : decode cX3_agrees 5 = .ok (.aload_n 0, 1) := by decide +kernel
theorem dX3_agrees_6 : decode cX3_agrees 6 = .ok (.iload_n 2, 1) := by decide +kernel
theorem dX3_agrees_7 : decode cX3_agrees 7 = .ok (.invokevirtual 27, 3) := by decide +kernel
theorem dX3_agrees_10 : decode cX3_agrees 10 = .ok (.ixor, 1) := by decide +kernel
theorem dX3_agrees_11 : decode cX3_agrees 11 = .ok (.aload_n 0, 1) := by decide +kernel
theorem dX3_agrees_12 : decode cX3_agrees 12 = .ok (.iload_n 1, 1) := by decide +kernel
theorem dX3_agrees_13 : decode cX3_agrees 13 = .ok (.iload_n 2, 1) := by decide +kernel
theorem dX3_agrees_14 : decode cX3_agrees 14 = .ok (.ixor, 1) := by decide +kernel
theorem dX3_agrees_15 : decode cX3_agrees 15 = .ok (.invokevirtual 27, 3) := by decide +kernel
theorem dX3_agrees_18 : decode cX3_agrees 18 = .ok (.if_icmp .ne 7, 3) := by decide +kernel
theorem dX3_agrees_21 : decode cX3_agrees 21 = .ok (.iconst 1, 1) := by decide +kernel
theorem dX3_agrees_22 : decode cX3_agrees 22 = .ok (.goto 4, 3) := by decide +kernel
theorem dX3_agrees_25 : decode cX3_agrees 25 = .ok (.iconst 0, 1) := by decide +kernel
theorem dX3_agrees_26 : decode cX3_agrees 26 = .ok (.ireturn, 1) := by decide +kernel
set_option maxRecDepth 20000 in
theorem ggX3_passing_X3_agrees : GoodIn wsX3_passing wsX3_agrees := goodIn_r _ [5, 6, 7, 8, 4, 9, 10, 11] (by decide +kernel) (by decide +kernel)
set_option maxRecDepth 20000 in
theorem gX3_passing_X3_agrees : GoodIn wsX3_passing (wsV RX3 30 RX3 yX3_agrees wsX3_agrees) := goodIn_app (goodIn_of _ (by decide +kernel)) ggX3_passing_X3_agrees
theorem dX3_passing_0 : decode cX3_passing 0 = .ok (.iconst 0, 1) := by decide +kernel
theorem dX3_passing_1 : decode cX3_passing 1 = .ok (.istore_n 1, 1) := by decide +kernel
theorem dX3_passing_2 : decode cX3_passing 2 = .ok (.iconst 0, 1) := by decide +kernel
theorem dX3_passing_3 : decode cX3_passing 3 = .ok (.istore_n 2, 1) := by decide +kernel
theorem dX3_passing_4 : decode cX3_passing 4 = .ok (.iload_n 2, 1) := by decide +kernel
theorem dX3_passing_5 : decode cX3_passing 5 = .ok (.bipush 8, 2) := by decide +kernel
theorem dX3_passing_7 : decode cX3_passing 7 = .ok (.if_icmp .ge 35, 3) := by decide +kernel
theorem dX3_passing_10 : decode cX3_passing 10 = .ok (.iconst 0, 1) := by decide +kernel
theorem dX3_passing_11 : decode cX3_passing 11 = .ok (.istore_n 3, 1) := by decide +kernel
theorem dX3_passing_12 : decode cX3_passing 12 = .ok (.iload_n 3, 1) := by decide +kernel
theorem dX3_passing_13 : decode cX3_passing 13 = .ok (.bipush 8, 2) := by decide +kernel
theorem dX3_passing_15 : decode cX3_passing 15 = .ok (.if_icmp .ge 21, 3) := by decide +kernel
theorem dX3_passing_18 : decode cX3_passing 18 = .ok (.aload_n 0, 1) := by decide +kernel
theorem dX3_passing_19 : decode cX3_passing 19 = .ok (.iload_n 2, 1) := by decide +kernel
theorem dX3_passing_20 : decode cX3_passing 20 = .ok (.iload_n 3, 1) := by decide +kernel
theorem dX3_passing_21 : decode cX3_passing 21 = .ok (.invokevirtual 30, 3) := by decide +kernel
theorem dX3_passing_24 : decode cX3_passing 24 = .ok (.ifCond .eq 6, 3) := by decide +kernel
theorem dX3_passing_27 : decode cX3_passing 27 = .ok (.iinc 1 1, 3) := by decide +kernel
theorem dX3_passing_30 : decode cX3_passing 30 = .ok (.iinc 3 1, 3) := by decide +kernel
theorem dX3_passing_33 : decode cX3_passing 33 = .ok (.goto (-21), 3) := by decide +kernel
theorem dX3_passing_36 : decode cX3_passing 36 = .ok (.iinc 2 1, 3) := by decide +kernel
theorem dX3_passing_39 : decode cX3_passing 39 = .ok (.goto (-35), 3) := by decide +kernel
theorem dX3_passing_42 : decode cX3_passing 42 = .ok (.iload_n 1, 1) := by decide +kernel
theorem dX3_passing_43 : decode cX3_passing 43 = .ok (.ireturn, 1) := by decide +kernel
set_option maxRecDepth 20000 in
theorem ggX3_tellers_X3_at : GoodIn wsX3_tellers wsX3_at := goodIn_r _ [5, 6, 7] (by decide +kernel) (by decide +kernel)
set_option maxRecDepth 20000 in
theorem gX3_tellers_X3_at : GoodIn wsX3_tellers (wsV RX3 27 RX3 yX3_at wsX3_at) := goodIn_app (goodIn_of _ (by decide +kernel)) ggX3_tellers_X3_at
theorem dX3_tellers_0 : decode cX3_tellers 0 = .ok (.iconst 0, 1) := by decide +kernel
theorem dX3_tellers_1 : decode cX3_tellers 1 = .ok (.istore_n 3, 1) := by decide +kernel
theorem dX3_tellers_2 : decode cX3_tellers 2 = .ok (.iconst 0, 1) := by decide +kernel
theorem dX3_tellers_3 : decode cX3_tellers 3 = .ok (.istore 4, 2) := by decide +kernel
theorem dX3_tellers_5 : decode cX3_tellers 5 = .ok (.iload 4, 2) := by decide +kernel
theorem dX3_tellers_7 : decode cX3_tellers 7 = .ok (.bipush 8, 2) := by decide +kernel
theorem dX3_tellers_9 : decode cX3_tellers 9 = .ok (.if_icmp .ge 31, 3) := by decide +kernel
theorem dX3_tellers_12 : decode cX3_tellers 12 = .ok (.aload_n 0, 1) := by decide +kernel
theorem dX3_tellers_13 : decode cX3_tellers 13 = .ok (.iload 4, 2) := by decide +kernel
theorem dX3_tellers_15 : decode cX3_tellers 15 = .ok (.invokevirtual 27, 3) := by decide +kernel
theorem dX3_tellers_18 : decode cX3_tellers 18 = .ok (.aload_n 0, 1) := by decide +kernel
theorem dX3_tellers_19 : decode cX3_tellers 19 = .ok (.iload_n 1, 1) := by decide +kernel
theorem dX3_tellers_20 : decode cX3_tellers 20 = .ok (.iload 4, 2) := by decide +kernel
theorem dX3_tellers_22 : decode cX3_tellers 22 = .ok (.ixor, 1) := by decide +kernel
theorem dX3_tellers_23 : decode cX3_tellers 23 = .ok (.invokevirtual 27, 3) := by decide +kernel
theorem dX3_tellers_26 : decode cX3_tellers 26 = .ok (.ixor, 1) := by decide +kernel
theorem dX3_tellers_27 : decode cX3_tellers 27 = .ok (.iload_n 2, 1) := by decide +kernel
theorem dX3_tellers_28 : decode cX3_tellers 28 = .ok (.if_icmp .ne 6, 3) := by decide +kernel
theorem dX3_tellers_31 : decode cX3_tellers 31 = .ok (.iinc 3 1, 3) := by decide +kernel
theorem dX3_tellers_34 : decode cX3_tellers 34 = .ok (.iinc 4 1, 3) := by decide +kernel
theorem dX3_tellers_37 : decode cX3_tellers 37 = .ok (.goto (-32), 3) := by decide +kernel
theorem dX3_tellers_40 : decode cX3_tellers 40 = .ok (.iload_n 3, 1) := by decide +kernel
theorem dX3_tellers_41 : decode cX3_tellers 41 = .ok (.ireturn, 1) := by decide +kernel
theorem dJ6_bitCount_0f7a4_0 : decode cJ6_bitCount_0f7a4 0 = .ok (.iload_n 0, 1) := by decide +kernel
theorem dJ6_bitCount_0f7a4_1 : decode cJ6_bitCount_0f7a4 1 = .ok (.iload_n 0, 1) := by decide +kernel
theorem dJ6_bitCount_0f7a4_2 : decode cJ6_bitCount_0f7a4 2 = .ok (.iconst 1, 1) := by decide +kernel
theorem dJ6_bitCount_0f7a4_3 : decode cJ6_bitCount_0f7a4 3 = .ok (.iushr, 1) := by decide +kernel
theorem dJ6_bitCount_0f7a4_4 : decode cJ6_bitCount_0f7a4 4 = .ok (.ldc_w 265, 3) := by decide +kernel
theorem dJ6_bitCount_0f7a4_7 : decode cJ6_bitCount_0f7a4 7 = .ok (.iand, 1) := by decide +kernel
theorem dJ6_bitCount_0f7a4_8 : decode cJ6_bitCount_0f7a4 8 = .ok (.isub, 1) := by decide +kernel
theorem dJ6_bitCount_0f7a4_9 : decode cJ6_bitCount_0f7a4 9 = .ok (.istore_n 0, 1) := by decide +kernel
theorem dJ6_bitCount_0f7a4_10 : decode cJ6_bitCount_0f7a4 10 = .ok (.iload_n 0, 1) := by decide +kernel
theorem dJ6_bitCount_0f7a4_11 : decode cJ6_bitCount_0f7a4 11 = .ok (.ldc_w 266, 3) := by decide +kernel
theorem dJ6_bitCount_0f7a4_14 : decode cJ6_bitCount_0f7a4 14 = .ok (.iand, 1) := by decide +kernel
theorem dJ6_bitCount_0f7a4_15 : decode cJ6_bitCount_0f7a4 15 = .ok (.iload_n 0, 1) := by decide +kernel
theorem dJ6_bitCount_0f7a4_16 : decode cJ6_bitCount_0f7a4 16 = .ok (.iconst 2, 1) := by decide +kernel
theorem dJ6_bitCount_0f7a4_17 : decode cJ6_bitCount_0f7a4 17 = .ok (.iushr, 1) := by decide +kernel
theorem dJ6_bitCount_0f7a4_18 : decode cJ6_bitCount_0f7a4 18 = .ok (.ldc_w 266, 3) := by decide +kernel
theorem dJ6_bitCount_0f7a4_21 : decode cJ6_bitCount_0f7a4 21 = .ok (.iand, 1) := by decide +kernel
theorem dJ6_bitCount_0f7a4_22 : decode cJ6_bitCount_0f7a4 22 = .ok (.iadd, 1) := by decide +kernel
theorem dJ6_bitCount_0f7a4_23 : decode cJ6_bitCount_0f7a4 23 = .ok (.istore_n 0, 1) := by decide +kernel
theorem dJ6_bitCount_0f7a4_24 : decode cJ6_bitCount_0f7a4 24 = .ok (.iload_n 0, 1) := by decide +kernel
theorem dJ6_bitCount_0f7a4_25 : decode cJ6_bitCount_0f7a4 25 = .ok (.iload_n 0, 1) := by decide +kernel
theorem dJ6_bitCount_0f7a4_26 : decode cJ6_bitCount_0f7a4 26 = .ok (.iconst 4, 1) := by decide +kernel
theorem dJ6_bitCount_0f7a4_27 : decode cJ6_bitCount_0f7a4 27 = .ok (.iushr, 1) := by decide +kernel
theorem dJ6_bitCount_0f7a4_28 : decode cJ6_bitCount_0f7a4 28 = .ok (.iadd, 1) := by decide +kernel
theorem dJ6_bitCount_0f7a4_29 : decode cJ6_bitCount_0f7a4 29 = .ok (.ldc_w 267, 3) := by decide +kernel
theorem dJ6_bitCount_0f7a4_32 : decode cJ6_bitCount_0f7a4 32 = .ok (.iand, 1) := by decide +kernel
theorem dJ6_bitCount_0f7a4_33 : decode cJ6_bitCount_0f7a4 33 = .ok (.istore_n 0, 1) := by decide +kernel
theorem dJ6_bitCount_0f7a4_34 : decode cJ6_bitCount_0f7a4 34 = .ok (.iload_n 0, 1) := by decide +kernel
theorem dJ6_bitCount_0f7a4_35 : decode cJ6_bitCount_0f7a4 35 = .ok (.iload_n 0, 1) := by decide +kernel
theorem dJ6_bitCount_0f7a4_36 : decode cJ6_bitCount_0f7a4 36 = .ok (.bipush 8, 2) := by decide +kernel
theorem dJ6_bitCount_0f7a4_38 : decode cJ6_bitCount_0f7a4 38 = .ok (.iushr, 1) := by decide +kernel
theorem dJ6_bitCount_0f7a4_39 : decode cJ6_bitCount_0f7a4 39 = .ok (.iadd, 1) := by decide +kernel
theorem dJ6_bitCount_0f7a4_40 : decode cJ6_bitCount_0f7a4 40 = .ok (.istore_n 0, 1) := by decide +kernel
theorem dJ6_bitCount_0f7a4_41 : decode cJ6_bitCount_0f7a4 41 = .ok (.iload_n 0, 1) := by decide +kernel
theorem dJ6_bitCount_0f7a4_42 : decode cJ6_bitCount_0f7a4 42 = .ok (.iload_n 0, 1) := by decide +kernel
theorem dJ6_bitCount_0f7a4_43 : decode cJ6_bitCount_0f7a4 43 = .ok (.bipush 16, 2) := by decide +kernel
theorem dJ6_bitCount_0f7a4_45 : decode cJ6_bitCount_0f7a4 45 = .ok (.iushr, 1) := by decide +kernel
theorem dJ6_bitCount_0f7a4_46 : decode cJ6_bitCount_0f7a4 46 = .ok (.iadd, 1) := by decide +kernel
theorem dJ6_bitCount_0f7a4_47 : decode cJ6_bitCount_0f7a4 47 = .ok (.istore_n 0, 1) := by decide +kernel
theorem dJ6_bitCount_0f7a4_48 : decode cJ6_bitCount_0f7a4 48 = .ok (.iload_n 0, 1) := by decide +kernel
theorem dJ6_bitCount_0f7a4_49 : decode cJ6_bitCount_0f7a4 49 = .ok (.bipush 63, 2) := by decide +kernel
theorem dJ6_bitCount_0f7a4_51 : decode cJ6_bitCount_0f7a4 51 = .ok (.iand, 1) := by decide +kernel
theorem dJ6_bitCount_0f7a4_52 : decode cJ6_bitCount_0f7a4 52 = .ok (.ireturn, 1) := by decide +kernel
theorem dJ9_min_7cf53_0 : decode cJ9_min_7cf53 0 = .ok (.iload_n 0, 1) := by decide +kernel
theorem dJ9_min_7cf53_1 : decode cJ9_min_7cf53 1 = .ok (.iload_n 1, 1) := by decide +kernel
theorem dJ9_min_7cf53_2 : decode cJ9_min_7cf53 2 = .ok (.if_icmp .gt 7, 3) := by decide +kernel
theorem dJ9_min_7cf53_5 : decode cJ9_min_7cf53 5 = .ok (.iload_n 0, 1) := by decide +kernel
theorem dJ9_min_7cf53_6 : decode cJ9_min_7cf53 6 = .ok (.goto 4, 3) := by decide +kernel
theorem dJ9_min_7cf53_9 : decode cJ9_min_7cf53 9 = .ok (.iload_n 1, 1) := by decide +kernel
theorem dJ9_min_7cf53_10 : decode cJ9_min_7cf53 10 = .ok (.ireturn, 1) := by decide +kernel
end
section
set_option maxRecDepth 20000 in
theorem ggX0_init_X2_init : GoodIn wsX0_init wsX2_init := goodIn_r _ [12, 13, 2, 3, 9, 14, 15, 16, 17] (by decide +kernel) (by decide +kernel)
set_option maxRecDepth 20000 in
theorem gX0_init_X2_init_n11 : GoodIn wsX0_init (wsX2_init) := ggX0_init_X2_init
theorem dX0_init_0 : decode cX0_init 0 = .ok (.aload_n 0, 1) := by decide +kernel
theorem dX0_init_1 : decode cX0_init 1 = .ok (.invokespecial 3, 3) := by decide +kernel
theorem dX0_init_4 : decode cX0_init 4 = .ok (.aload_n 0, 1) := by decide +kernel
theorem dX0_init_5 : decode cX0_init 5 = .ok (.new 9, 3) := by decide +kernel
theorem dX0_init_8 : decode cX0_init 8 = .ok (.dup, 1) := by decide +kernel
theorem dX0_init_9 : decode cX0_init 9 = .ok (.invokespecial 11, 3) := by decide +kernel
theorem dX0_init_12 : decode cX0_init 12 = .ok (.putfield 12, 3) := by decide +kernel
theorem dX0_init_15 : decode cX0_init 15 = .ok (.aload_n 0, 1) := by decide +kernel
theorem dX0_init_16 : decode cX0_init 16 = .ok (.new 9, 3) := by decide +kernel
theorem dX0_init_19 : decode cX0_init 19 = .ok (.dup, 1) := by decide +kernel
theorem dX0_init_20 : decode cX0_init 20 = .ok (.invokespecial 11, 3) := by decide +kernel
theorem dX0_init_23 : decode cX0_init 23 = .ok (.putfield 18, 3) := by decide +kernel
theorem dX0_init_26 : decode cX0_init 26 = .ok (.aload_n 0, 1) := by decide +kernel
theorem dX0_init_27 : decode cX0_init 27 = .ok (.bipush 36, 2) := by decide +kernel
theorem dX0_init_29 : decode cX0_init 29 = .ok (.newarray .int, 2) := by decide +kernel
theorem dX0_init_31 : decode cX0_init 31 = .ok (.putfield 21, 3) := by decide +kernel
theorem dX0_init_34 : decode cX0_init 34 = .ok (.return_, 1) := by decide +kernel
set_option maxRecDepth 20000 in
theorem ggX0_seek_X2_become : GoodIn wsX0_seek wsX2_become := goodIn_r _ [6, 7, 8, 62, 63] (by decide +kernel) (by decide +kernel)
set_option maxRecDepth 20000 in
theorem gX0_seek_X2_become : GoodIn wsX0_seek (wsV RX0 25 RX2 yX2_become wsX2_become) := goodIn_app (goodIn_of _ (by decide +kernel)) ggX0_seek_X2_become
set_option maxRecDepth 20000 in
theorem ggX0_seek_X0_raise : GoodIn wsX0_seek wsX0_raise := goodIn_r _ [13, 14, 1, 15, 16, 17, 12, 18, 19, 20, 21, 22, 23, 24, 25, 26, 62, 63, 59, 60, 61] (by decide +kernel) (by decide +kernel)
set_option maxRecDepth 20000 in
theorem gX0_seek_X0_raise : GoodIn wsX0_seek (wsV RX0 29 RX0 yX0_raise wsX0_raise) := goodIn_app (goodIn_of _ (by decide +kernel)) ggX0_seek_X0_raise
set_option maxRecDepth 20000 in
theorem ggX0_seek_X0_mirror : GoodIn wsX0_seek wsX0_mirror := goodIn_r _ [30, 1, 19, 20, 21, 22, 62, 63, 59, 60, 61] (by decide +kernel) (by decide +kernel)
set_option maxRecDepth 20000 in
theorem gX0_seek_X0_mirror : GoodIn wsX0_seek (wsV RX0 32 RX0 yX0_mirror wsX0_mirror) := goodIn_app (goodIn_of _ (by decide +kernel)) ggX0_seek_X0_mirror
set_option maxRecDepth 20000 in
theorem ggX0_seek_X0_makeEven : GoodIn wsX0_seek wsX0_makeEven := goodIn_r _ [34, 1, 35, 36, 37, 5, 38, 7, 8, 59, 60, 61, 62, 63] (by decide +kernel) (by decide +kernel)
set_option maxRecDepth 20000 in
theorem gX0_seek_X0_makeEven : GoodIn wsX0_seek (wsV RX0 35 RX0 yX0_makeEven wsX0_makeEven) := goodIn_app (goodIn_of _ (by decide +kernel)) ggX0_seek_X0_makeEven
set_option maxRecDepth 20000 in
theorem ggX0_seek_X0_makeRound : GoodIn wsX0_seek wsX0_makeRound := goodIn_r _ [42, 43, 1, 44, 45, 46, 12, 47, 2, 3, 4, 5, 6, 7, 8, 48, 49, 50, 51, 52, 53, 54, 55, 56, 57, 58, 62, 63, 59, 60, 61] (by decide +kernel) (by decide +kernel)
set_option maxRecDepth 20000 in
theorem gX0_seek_X0_makeRound : GoodIn wsX0_seek (wsV RX0 38 RX0 yX0_makeRound wsX0_makeRound) := goodIn_app (goodIn_of _ (by decide +kernel)) ggX0_seek_X0_makeRound
set_option maxRecDepth 20000 in
theorem ggX0_seek_X2_differing : GoodIn wsX0_seek wsX2_differing := goodIn_r _ [54, 7, 8, 62, 63] (by decide +kernel) (by decide +kernel)
set_option maxRecDepth 20000 in
theorem gX0_seek_X2_differing : GoodIn wsX0_seek (wsV RX0 41 RX2 yX2_differing wsX2_differing) := goodIn_app (goodIn_of _ (by decide +kernel)) ggX0_seek_X2_differing
theorem dX0_seek_0 : decode cX0_seek 0 = .ok (.aload_n 0, 1) := by decide +kernel
theorem dX0_seek_1 : decode cX0_seek 1 = .ok (.getfield 12, 3) := by decide +kernel
theorem dX0_seek_4 : decode cX0_seek 4 = .ok (.aload_n 1, 1) := by decide +kernel
theorem dX0_seek_5 : decode cX0_seek 5 = .ok (.invokevirtual 25, 3) := by decide +kernel
theorem dX0_seek_8 : decode cX0_seek 8 = .ok (.iload_n 2, 1) := by decide +kernel
theorem dX0_seek_9 : decode cX0_seek 9 = .ok (.tableswitch 50 0 2 #[27, 35, 43], 27) := by decide +kernel
theorem dX0_seek_36 : decode cX0_seek 36 = .ok (.aload_n 0, 1) := by decide +kernel
theorem dX0_seek_37 : decode cX0_seek 37 = .ok (.aload_n 1, 1) := by decide +kernel
theorem dX0_seek_38 : decode cX0_seek 38 = .ok (.invokevirtual 29, 3) := by decide +kernel
theorem dX0_seek_41 : decode cX0_seek 41 = .ok (.goto 23, 3) := by decide +kernel
theorem dX0_seek_44 : decode cX0_seek 44 = .ok (.aload_n 0, 1) := by decide +kernel
theorem dX0_seek_45 : decode cX0_seek 45 = .ok (.aload_n 1, 1) := by decide +kernel
theorem dX0_seek_46 : decode cX0_seek 46 = .ok (.invokevirtual 32, 3) := by decide +kernel
theorem dX0_seek_49 : decode cX0_seek 49 = .ok (.goto 15, 3) := by decide +kernel
theorem dX0_seek_52 : decode cX0_seek 52 = .ok (.aload_n 0, 1) := by decide +kernel
theorem dX0_seek_53 : decode cX0_seek 53 = .ok (.invokevirtual 35, 3) := by decide +kernel
theorem dX0_seek_56 : decode cX0_seek 56 = .ok (.goto 8, 3) := by decide +kernel
theorem dX0_seek_59 : decode cX0_seek 59 = .ok (.aload_n 0, 1) := by decide +kernel
theorem dX0_seek_60 : decode cX0_seek 60 = .ok (.aload_n 1, 1) := by decide +kernel
theorem dX0_seek_61 : decode cX0_seek 61 = .ok (.invokevirtual 38, 3) := by decide +kernel
theorem dX0_seek_64 : decode cX0_seek 64 = .ok (.aload_n 1, 1) := by decide +kernel
theorem dX0_seek_65 : decode cX0_seek 65 = .ok (.aload_n 0, 1) := by decide +kernel
theorem dX0_seek_66 : decode cX0_seek 66 = .ok (.getfield 12, 3) := by decide +kernel
theorem dX0_seek_69 : decode cX0_seek 69 = .ok (.invokevirtual 41, 3) := by decide +kernel
theorem dX0_seek_72 : decode cX0_seek 72 = .ok (.ireturn, 1) := by decide +kernel
set_option maxRecDepth 20000 in
theorem ggX0_raise_X0_fillCosts : GoodIn wsX0_raise wsX0_fillCosts := goodIn_r _ [7, 1, 8, 9, 10, 11, 12, 13, 14, 6, 15, 18, 19, 20, 16, 17] (by decide +kernel) (by decide +kernel)
set_option maxRecDepth 20000 in
theorem gX0_raise_X0_fillCosts : GoodIn wsX0_raise (wsV RX0 45 RX0 yX0_fillCosts wsX0_fillCosts) := goodIn_app (goodIn_of _ (by decide +kernel)) ggX0_raise_X0_fillCosts
set_option maxRecDepth 20000 in
theorem ggX0_raise_X0_costWith : GoodIn wsX0_raise wsX0_costWith := goodIn_r _ [15, 1, 16, 17, 18, 19, 20] (by decide +kernel) (by decide +kernel)
set_option maxRecDepth 20000 in
theorem gX0_raise_X0_costWith : GoodIn wsX0_raise (wsV RX0 52 RX0 yX0_costWith wsX0_costWith) := goodIn_app (goodIn_of _ (by decide +kernel)) ggX0_raise_X0_costWith
theorem dX0_raise_0 : decode cX0_raise 0 = .ok (.aload_n 0, 1) := by decide +kernel
theorem dX0_raise_1 : decode cX0_raise 1 = .ok (.aload_n 1, 1) := by decide +kernel
theorem dX0_raise_2 : decode cX0_raise 2 = .ok (.invokevirtual 45, 3) := by decide +kernel
theorem dX0_raise_5 : decode cX0_raise 5 = .ok (.iconst 0, 1) := by decide +kernel
theorem dX0_raise_6 : decode cX0_raise 6 = .ok (.istore_n 2, 1) := by decide +kernel
theorem dX0_raise_7 : decode cX0_raise 7 = .ok (.iconst 0, 1) := by decide +kernel
theorem dX0_raise_8 : decode cX0_raise 8 = .ok (.istore_n 3, 1) := by decide +kernel
theorem dX0_raise_9 : decode cX0_raise 9 = .ok (.iload_n 3, 1) := by decide +kernel
theorem dX0_raise_10 : decode cX0_raise 10 = .ok (.aload_n 1, 1) := by decide +kernel
theorem dX0_raise_11 : decode cX0_raise 11 = .ok (.getfield 48, 3) := by decide +kernel
theorem dX0_raise_14 : decode cX0_raise 14 = .ok (.if_icmp .ge 54, 3) := by decide +kernel
theorem dX0_raise_17 : decode cX0_raise 17 = .ok (.aload_n 0, 1) := by decide +kernel
theorem dX0_raise_18 : decode cX0_raise 18 = .ok (.getfield 21, 3) := by decide +kernel
theorem dX0_raise_21 : decode cX0_raise 21 = .ok (.iload_n 3, 1) := by decide +kernel
theorem dX0_raise_22 : decode cX0_raise 22 = .ok (.iconst 4, 1) := by decide +kernel
theorem dX0_raise_23 : decode cX0_raise 23 = .ok (.imul, 1) := by decide +kernel
theorem dX0_raise_24 : decode cX0_raise 24 = .ok (.iload_n 2, 1) := by decide +kernel
theorem dX0_raise_25 : decode cX0_raise 25 = .ok (.iadd, 1) := by decide +kernel
theorem dX0_raise_26 : decode cX0_raise 26 = .ok (.iaload, 1) := by decide +kernel
theorem dX0_raise_27 : decode cX0_raise 27 = .ok (.istore 4, 2) := by decide +kernel
theorem dX0_raise_29 : decode cX0_raise 29 = .ok (.iload_n 2, 1) := by decide +kernel
theorem dX0_raise_30 : decode cX0_raise 30 = .ok (.iconst 3, 1) := by decide +kernel
theorem dX0_raise_31 : decode cX0_raise 31 = .ok (.if_icmp .ge 21, 3) := by decide +kernel
theorem dX0_raise_34 : decode cX0_raise 34 = .ok (.aload_n 0, 1) := by decide +kernel
theorem dX0_raise_35 : decode cX0_raise 35 = .ok (.aload_n 1, 1) := by decide +kernel
theorem dX0_raise_36 : decode cX0_raise 36 = .ok (.iload_n 3, 1) := by decide +kernel
theorem dX0_raise_37 : decode cX0_raise 37 = .ok (.iload_n 2, 1) := by decide +kernel
theorem dX0_raise_38 : decode cX0_raise 38 = .ok (.invokevirtual 52, 3) := by decide +kernel
theorem dX0_raise_41 : decode cX0_raise 41 = .ok (.iload 4, 2) := by decide +kernel
theorem dX0_raise_43 : decode cX0_raise 43 = .ok (.if_icmp .le 9, 3) := by decide +kernel
theorem dX0_raise_46 : decode cX0_raise 46 = .ok (.iinc 2 1, 3) := by decide +kernel
theorem dX0_raise_49 : decode cX0_raise 49 = .ok (.goto (-20), 3) := by decide +kernel
theorem dX0_raise_52 : decode cX0_raise 52 = .ok (.aload_n 0, 1) := by decide +kernel
theorem dX0_raise_53 : decode cX0_raise 53 = .ok (.getfield 12, 3) := by decide +kernel
theorem dX0_raise_56 : decode cX0_raise 56 = .ok (.getfield 56, 3) := by decide +kernel
theorem dX0_raise_59 : decode cX0_raise 59 = .ok (.iload_n 3, 1) := by decide +kernel
theorem dX0_raise_60 : decode cX0_raise 60 = .ok (.iload_n 2, 1) := by decide +kernel
theorem dX0_raise_61 : decode cX0_raise 61 = .ok (.iastore, 1) := by decide +kernel
theorem dX0_raise_62 : decode cX0_raise 62 = .ok (.iinc 3 1, 3) := by decide +kernel
theorem dX0_raise_65 : decode cX0_raise 65 = .ok (.goto (-56), 3) := by decide +kernel
theorem dX0_raise_68 : decode cX0_raise 68 = .ok (.return_, 1) := by decide +kernel
set_option maxRecDepth 20000 in
theorem ggX0_fillCosts_X0_costWith : GoodIn wsX0_fillCosts wsX0_costWith := goodIn_r _ [10, 1, 14, 15, 11, 12, 13] (by decide +kernel) (by decide +kernel)
set_option maxRecDepth 20000 in
theorem gX0_fillCosts_X0_costWith : GoodIn wsX0_fillCosts (wsV RX0 52 RX0 yX0_costWith wsX0_costWith) := goodIn_app (goodIn_of _ (by decide +kernel)) ggX0_fillCosts_X0_costWith
theorem dX0_fillCosts_0 : decode cX0_fillCosts 0 = .ok (.iconst 0, 1) := by decide +kernel
theorem dX0_fillCosts_1 : decode cX0_fillCosts 1 = .ok (.istore_n 2, 1) := by decide +kernel
theorem dX0_fillCosts_2 : decode cX0_fillCosts 2 = .ok (.iload_n 2, 1) := by decide +kernel
theorem dX0_fillCosts_3 : decode cX0_fillCosts 3 = .ok (.iconst 4, 1) := by decide +kernel
theorem dX0_fillCosts_4 : decode cX0_fillCosts 4 = .ok (.if_icmp .ge 23, 3) := by decide +kernel
theorem dX0_fillCosts_7 : decode cX0_fillCosts 7 = .ok (.aload_n 0, 1) := by decide +kernel
theorem dX0_fillCosts_8 : decode cX0_fillCosts 8 = .ok (.getfield 21, 3) := by decide +kernel
theorem dX0_fillCosts_11 : decode cX0_fillCosts 11 = .ok (.aload_n 1, 1) := by decide +kernel
theorem dX0_fillCosts_12 : decode cX0_fillCosts 12 = .ok (.getfield 48, 3) := by decide +kernel
theorem dX0_fillCosts_15 : decode cX0_fillCosts 15 = .ok (.iconst 4, 1) := by decide +kernel
theorem dX0_fillCosts_16 : decode cX0_fillCosts 16 = .ok (.imul, 1) := by decide +kernel
theorem dX0_fillCosts_17 : decode cX0_fillCosts 17 = .ok (.iload_n 2, 1) := by decide +kernel
theorem dX0_fillCosts_18 : decode cX0_fillCosts 18 = .ok (.iadd, 1) := by decide +kernel
theorem dX0_fillCosts_19 : decode cX0_fillCosts 19 = .ok (.iconst 0, 1) := by decide +kernel
theorem dX0_fillCosts_20 : decode cX0_fillCosts 20 = .ok (.iastore, 1) := by decide +kernel
theorem dX0_fillCosts_21 : decode cX0_fillCosts 21 = .ok (.iinc 2 1, 3) := by decide +kernel
theorem dX0_fillCosts_24 : decode cX0_fillCosts 24 = .ok (.goto (-22), 3) := by decide +kernel
theorem dX0_fillCosts_27 : decode cX0_fillCosts 27 = .ok (.aload_n 1, 1) := by decide +kernel
theorem dX0_fillCosts_28 : decode cX0_fillCosts 28 = .ok (.getfield 48, 3) := by decide +kernel
theorem dX0_fillCosts_31 : decode cX0_fillCosts 31 = .ok (.iconst 1, 1) := by decide +kernel
theorem dX0_fillCosts_32 : decode cX0_fillCosts 32 = .ok (.isub, 1) := by decide +kernel
theorem dX0_fillCosts_33 : decode cX0_fillCosts 33 = .ok (.istore_n 2, 1) := by decide +kernel
theorem dX0_fillCosts_34 : decode cX0_fillCosts 34 = .ok (.iload_n 2, 1) := by decide +kernel
theorem dX0_fillCosts_35 : decode cX0_fillCosts 35 = .ok (.ifCond .lt 51, 3) := by decide +kernel
theorem dX0_fillCosts_38 : decode cX0_fillCosts 38 = .ok (.bipush 8, 2) := by decide +kernel
theorem dX0_fillCosts_40 : decode cX0_fillCosts 40 = .ok (.istore_n 3, 1) := by decide +kernel
theorem dX0_fillCosts_41 : decode cX0_fillCosts 41 = .ok (.iconst 3, 1) := by decide +kernel
theorem dX0_fillCosts_42 : decode cX0_fillCosts 42 = .ok (.istore 4, 2) := by decide +kernel
theorem dX0_fillCosts_44 : decode cX0_fillCosts 44 = .ok (.iload 4, 2) := by decide +kernel
theorem dX0_fillCosts_46 : decode cX0_fillCosts 46 = .ok (.ifCond .lt 34, 3) := by decide +kernel
theorem dX0_fillCosts_49 : decode cX0_fillCosts 49 = .ok (.iload_n 3, 1) := by decide +kernel
theorem dX0_fillCosts_50 : decode cX0_fillCosts 50 = .ok (.aload_n 0, 1) := by decide +kernel
theorem dX0_fillCosts_51 : decode cX0_fillCosts 51 = .ok (.aload_n 1, 1) := by decide +kernel
theorem dX0_fillCosts_52 : decode cX0_fillCosts 52 = .ok (.iload_n 2, 1) := by decide +kernel
theorem dX0_fillCosts_53 : decode cX0_fillCosts 53 = .ok (.iload 4, 2) := by decide +kernel
theorem dX0_fillCosts_55 : decode cX0_fillCosts 55 = .ok (.invokevirtual 52, 3) := by decide +kernel
theorem dX0_fillCosts_58 : decode cX0_fillCosts 58 = .ok (.invokestatic 59, 3) := by decide +kernel
theorem dX0_fillCosts_61 : decode cX0_fillCosts 61 = .ok (.istore_n 3, 1) := by decide +kernel
theorem dX0_fillCosts_62 : decode cX0_fillCosts 62 = .ok (.aload_n 0, 1) := by decide +kernel
theorem dX0_fillCosts_63 : decode cX0_fillCosts 63 = .ok (.getfield 21, 3) := by decide +kernel
theorem dX0_fillCosts_66 : decode cX0_fillCosts 66 = .ok (.iload_n 2, 1) := by decide +kernel
theorem dX0_fillCosts_67 : decode cX0_fillCosts 67 = .ok (.iconst 4, 1) := by decide +kernel
theorem dX0_fillCosts_68 : decode cX0_fillCosts 68 = .ok (.imul, 1) := by decide +kernel
theorem dX0_fillCosts_69 : decode cX0_fillCosts 69 = .ok (.iload 4, 2) := by decide +kernel
theorem dX0_fillCosts_71 : decode cX0_fillCosts 71 = .ok (.iadd, 1) := by decide +kernel
theorem dX0_fillCosts_72 : decode cX0_fillCosts 72 = .ok (.iload_n 3, 1) := by decide +kernel
theorem dX0_fillCosts_73 : decode cX0_fillCosts 73 = .ok (.iastore, 1) := by decide +kernel
theorem dX0_fillCosts_74 : decode cX0_fillCosts 74 = .ok (.iinc 4 (-1), 3) := by decide +kernel
theorem dX0_fillCosts_77 : decode cX0_fillCosts 77 = .ok (.goto (-33), 3) := by decide +kernel
theorem dX0_fillCosts_80 : decode cX0_fillCosts 80 = .ok (.iinc 2 (-1), 3) := by decide +kernel
theorem dX0_fillCosts_83 : decode cX0_fillCosts 83 = .ok (.goto (-49), 3) := by decide +kernel
theorem dX0_fillCosts_86 : decode cX0_fillCosts 86 = .ok (.return_, 1) := by decide +kernel
theorem dX0_costWith_0 : decode cX0_costWith 0 = .ok (.aload_n 1, 1) := by decide +kernel
theorem dX0_costWith_1 : decode cX0_costWith 1 = .ok (.getfield 56, 3) := by decide +kernel
theorem dX0_costWith_4 : decode cX0_costWith 4 = .ok (.iload_n 2, 1) := by decide +kernel
theorem dX0_costWith_5 : decode cX0_costWith 5 = .ok (.iaload, 1) := by decide +kernel
theorem dX0_costWith_6 : decode cX0_costWith 6 = .ok (.iload_n 3, 1) := by decide +kernel
theorem dX0_costWith_7 : decode cX0_costWith 7 = .ok (.if_icmp .ne 7, 3) := by decide +kernel
theorem dX0_costWith_10 : decode cX0_costWith 10 = .ok (.iconst 0, 1) := by decide +kernel
theorem dX0_costWith_11 : decode cX0_costWith 11 = .ok (.goto 4, 3) := by decide +kernel
theorem dX0_costWith_14 : decode cX0_costWith 14 = .ok (.iconst 1, 1) := by decide +kernel
theorem dX0_costWith_15 : decode cX0_costWith 15 = .ok (.istore 4, 2) := by decide +kernel
theorem dX0_costWith_17 : decode cX0_costWith 17 = .ok (.iload 4, 2) := by decide +kernel
theorem dX0_costWith_19 : decode cX0_costWith 19 = .ok (.aload_n 0, 1) := by decide +kernel
theorem dX0_costWith_20 : decode cX0_costWith 20 = .ok (.getfield 21, 3) := by decide +kernel
theorem dX0_costWith_23 : decode cX0_costWith 23 = .ok (.iload_n 2, 1) := by decide +kernel
theorem dX0_costWith_24 : decode cX0_costWith 24 = .ok (.iconst 1, 1) := by decide +kernel
theorem dX0_costWith_25 : decode cX0_costWith 25 = .ok (.iadd, 1) := by decide +kernel
theorem dX0_costWith_26 : decode cX0_costWith 26 = .ok (.iconst 4, 1) := by decide +kernel
theorem dX0_costWith_27 : decode cX0_costWith 27 = .ok (.imul, 1) := by decide +kernel
theorem dX0_costWith_28 : decode cX0_costWith 28 = .ok (.iload_n 3, 1) := by decide +kernel
theorem dX0_costWith_29 : decode cX0_costWith 29 = .ok (.iadd, 1) := by decide +kernel
theorem dX0_costWith_30 : decode cX0_costWith 30 = .ok (.iaload, 1) := by decide +kernel
theorem dX0_costWith_31 : decode cX0_costWith 31 = .ok (.iadd, 1) := by decide +kernel
theorem dX0_costWith_32 : decode cX0_costWith 32 = .ok (.ireturn, 1) := by decide +kernel
theorem dX0_mirror_0 : decode cX0_mirror 0 = .ok (.iconst 0, 1) := by decide +kernel
theorem dX0_mirror_1 : decode cX0_mirror 1 = .ok (.istore_n 2, 1) := by decide +kernel
theorem dX0_mirror_2 : decode cX0_mirror 2 = .ok (.iload_n 2, 1) := by decide +kernel
theorem dX0_mirror_3 : decode cX0_mirror 3 = .ok (.aload_n 1, 1) := by decide +kernel
theorem dX0_mirror_4 : decode cX0_mirror 4 = .ok (.getfield 48, 3) := by decide +kernel
theorem dX0_mirror_7 : decode cX0_mirror 7 = .ok (.if_icmp .ge 40, 3) := by decide +kernel
theorem dX0_mirror_10 : decode cX0_mirror 10 = .ok (.aload_n 0, 1) := by decide +kernel
theorem dX0_mirror_11 : decode cX0_mirror 11 = .ok (.getfield 12, 3) := by decide +kernel
theorem dX0_mirror_14 : decode cX0_mirror 14 = .ok (.getfield 56, 3) := by decide +kernel
theorem dX0_mirror_17 : decode cX0_mirror 17 = .ok (.iload_n 2, 1) := by decide +kernel
theorem dX0_mirror_18 : decode cX0_mirror 18 = .ok (.aload_n 1, 1) := by decide +kernel
theorem dX0_mirror_19 : decode cX0_mirror 19 = .ok (.getfield 56, 3) := by decide +kernel
theorem dX0_mirror_22 : decode cX0_mirror 22 = .ok (.iload_n 2, 1) := by decide +kernel
theorem dX0_mirror_23 : decode cX0_mirror 23 = .ok (.iaload, 1) := by decide +kernel
theorem dX0_mirror_24 : decode cX0_mirror 24 = .ok (.aload_n 1, 1) := by decide +kernel
theorem dX0_mirror_25 : decode cX0_mirror 25 = .ok (.getfield 56, 3) := by decide +kernel
theorem dX0_mirror_28 : decode cX0_mirror 28 = .ok (.aload_n 1, 1) := by decide +kernel
theorem dX0_mirror_29 : decode cX0_mirror 29 = .ok (.getfield 48, 3) := by decide +kernel
theorem dX0_mirror_32 : decode cX0_mirror 32 = .ok (.iconst 1, 1) := by decide +kernel
theorem dX0_mirror_33 : decode cX0_mirror 33 = .ok (.isub, 1) := by decide +kernel
theorem dX0_mirror_34 : decode cX0_mirror 34 = .ok (.iload_n 2, 1) := by decide +kernel
theorem dX0_mirror_35 : decode cX0_mirror 35 = .ok (.isub, 1) := by decide +kernel
theorem dX0_mirror_36 : decode cX0_mirror 36 = .ok (.iaload, 1) := by decide +kernel
theorem dX0_mirror_37 : decode cX0_mirror 37 = .ok (.invokestatic 59, 3) := by decide +kernel
theorem dX0_mirror_40 : decode cX0_mirror 40 = .ok (.iastore, 1) := by decide +kernel
theorem dX0_mirror_41 : decode cX0_mirror 41 = .ok (.iinc 2 1, 3) := by decide +kernel
theorem dX0_mirror_44 : decode cX0_mirror 44 = .ok (.goto (-42), 3) := by decide +kernel
theorem dX0_mirror_47 : decode cX0_mirror 47 = .ok (.return_, 1) := by decide +kernel
set_option maxRecDepth 20000 in
theorem ggX0_makeEven_X2_total : GoodIn wsX0_makeEven wsX2_total := goodIn_r _ [6, 7, 8, 12, 13] (by decide +kernel) (by decide +kernel)
set_option maxRecDepth 20000 in
theorem gX0_makeEven_X2_total : GoodIn wsX0_makeEven (wsV RX0 65 RX2 yX2_total wsX2_total) := goodIn_app (goodIn_of _ (by decide +kernel)) ggX0_makeEven_X2_total
theorem dX0_makeEven_0 : decode cX0_makeEven 0 = .ok (.aload_n 0, 1) := by decide +kernel
theorem dX0_makeEven_1 : decode cX0_makeEven 1 = .ok (.getfield 12, 3) := by decide +kernel
theorem dX0_makeEven_4 : decode cX0_makeEven 4 = .ok (.invokevirtual 65, 3) := by decide +kernel
theorem dX0_makeEven_7 : decode cX0_makeEven 7 = .ok (.iconst 2, 1) := by decide +kernel
theorem dX0_makeEven_8 : decode cX0_makeEven 8 = .ok (.irem, 1) := by decide +kernel
theorem dX0_makeEven_9 : decode cX0_makeEven 9 = .ok (.ifCond .ne 4, 3) := by decide +kernel
theorem dX0_makeEven_12 : decode cX0_makeEven 12 = .ok (.return_, 1) := by decide +kernel
theorem dX0_makeEven_13 : decode cX0_makeEven 13 = .ok (.iconst 0, 1) := by decide +kernel
theorem dX0_makeEven_14 : decode cX0_makeEven 14 = .ok (.istore_n 1, 1) := by decide +kernel
theorem dX0_makeEven_15 : decode cX0_makeEven 15 = .ok (.iload_n 1, 1) := by decide +kernel
theorem dX0_makeEven_16 : decode cX0_makeEven 16 = .ok (.aload_n 0, 1) := by decide +kernel
theorem dX0_makeEven_17 : decode cX0_makeEven 17 = .ok (.getfield 12, 3) := by decide +kernel
theorem dX0_makeEven_20 : decode cX0_makeEven 20 = .ok (.getfield 48, 3) := by decide +kernel
theorem dX0_makeEven_23 : decode cX0_makeEven 23 = .ok (.if_icmp .ge 49, 3) := by decide +kernel
theorem dX0_makeEven_26 : decode cX0_makeEven 26 = .ok (.aload_n 0, 1) := by decide +kernel
theorem dX0_makeEven_27 : decode cX0_makeEven 27 = .ok (.getfield 12, 3) := by decide +kernel
theorem dX0_makeEven_30 : decode cX0_makeEven 30 = .ok (.getfield 56, 3) := by decide +kernel
theorem dX0_makeEven_33 : decode cX0_makeEven 33 = .ok (.iload_n 1, 1) := by decide +kernel
theorem dX0_makeEven_34 : decode cX0_makeEven 34 = .ok (.iaload, 1) := by decide +kernel
theorem dX0_makeEven_35 : decode cX0_makeEven 35 = .ok (.ifCond .le 31, 3) := by decide +kernel
theorem dX0_makeEven_38 : decode cX0_makeEven 38 = .ok (.aload_n 0, 1) := by decide +kernel
theorem dX0_makeEven_39 : decode cX0_makeEven 39 = .ok (.getfield 12, 3) := by decide +kernel
theorem dX0_makeEven_42 : decode cX0_makeEven 42 = .ok (.getfield 56, 3) := by decide +kernel
theorem dX0_makeEven_45 : decode cX0_makeEven 45 = .ok (.iload_n 1, 1) := by decide +kernel
theorem dX0_makeEven_46 : decode cX0_makeEven 46 = .ok (.aload_n 0, 1) := by decide +kernel
theorem dX0_makeEven_47 : decode cX0_makeEven 47 = .ok (.getfield 12, 3) := by decide +kernel
theorem dX0_makeEven_50 : decode cX0_makeEven 50 = .ok (.getfield 56, 3) := by decide +kernel
theorem dX0_makeEven_53 : decode cX0_makeEven 53 = .ok (.iload_n 1, 1) := by decide +kernel
theorem dX0_makeEven_54 : decode cX0_makeEven 54 = .ok (.iaload, 1) := by decide +kernel
theorem dX0_makeEven_55 : decode cX0_makeEven 55 = .ok (.iconst 2, 1) := by decide +kernel
theorem dX0_makeEven_56 : decode cX0_makeEven 56 = .ok (.if_icmp .ne 7, 3) := by decide +kernel
theorem dX0_makeEven_59 : decode cX0_makeEven 59 = .ok (.iconst 1, 1) := by decide +kernel
theorem dX0_makeEven_60 : decode cX0_makeEven 60 = .ok (.goto 4, 3) := by decide +kernel
theorem dX0_makeEven_63 : decode cX0_makeEven 63 = .ok (.iconst 0, 1) := by decide +kernel
theorem dX0_makeEven_64 : decode cX0_makeEven 64 = .ok (.iastore, 1) := by decide +kernel
theorem dX0_makeEven_65 : decode cX0_makeEven 65 = .ok (.return_, 1) := by decide +kernel
theorem dX0_makeEven_66 : decode cX0_makeEven 66 = .ok (.iinc 1 1, 3) := by decide +kernel
theorem dX0_makeEven_69 : decode cX0_makeEven 69 = .ok (.goto (-54), 3) := by decide +kernel
theorem dX0_makeEven_72 : decode cX0_makeEven 72 = .ok (.return_, 1) := by decide +kernel
set_option maxRecDepth 20000 in
theorem ggX0_makeRound_X0_guessPeriod : GoodIn wsX0_makeRound wsX0_guessPeriod := goodIn_r _ [7, 1, 8, 9, 10, 11, 12, 13, 14, 15, 16, 6, 17, 28, 29, 30, 26, 27] (by decide +kernel) (by decide +kernel)
set_option maxRecDepth 20000 in
theorem gX0_makeRound_X0_guessPeriod : GoodIn wsX0_makeRound (wsV RX0 69 RX0 yX0_guessPeriod wsX0_guessPeriod) := goodIn_app (goodIn_of _ (by decide +kernel)) ggX0_makeRound_X0_guessPeriod
set_option maxRecDepth 20000 in
theorem ggX0_makeRound_X2_differing : GoodIn wsX0_makeRound wsX2_differing := goodIn_r _ [21, 13, 14, 26, 27] (by decide +kernel) (by decide +kernel)
set_option maxRecDepth 20000 in
theorem gX0_makeRound_X2_differing : GoodIn wsX0_makeRound (wsV RX0 41 RX2 yX2_differing wsX2_differing) := goodIn_app (goodIn_of _ (by decide +kernel)) ggX0_makeRound_X2_differing
set_option maxRecDepth 20000 in
theorem ggX0_makeRound_X2_isAheadOf : GoodIn wsX0_makeRound wsX2_isAheadOf := goodIn_r _ [25, 13, 14, 26, 27] (by decide +kernel) (by decide +kernel)
set_option maxRecDepth 20000 in
theorem gX0_makeRound_X2_isAheadOf : GoodIn wsX0_makeRound (wsV RX0 73 RX2 yX2_isAheadOf wsX2_isAheadOf) := goodIn_app (goodIn_of _ (by decide +kernel)) ggX0_makeRound_X2_isAheadOf
set_option maxRecDepth 20000 in
theorem ggX0_makeRound_X2_become : GoodIn wsX0_makeRound wsX2_become := goodIn_r _ [12, 13, 14, 26, 27] (by decide +kernel) (by decide +kernel)
set_option maxRecDepth 20000 in
theorem gX0_makeRound_X2_become : GoodIn wsX0_makeRound (wsV RX0 25 RX2 yX2_become wsX2_become) := goodIn_app (goodIn_of _ (by decide +kernel)) ggX0_makeRound_X2_become
theorem dX0_makeRound_0 : decode cX0_makeRound 0 = .ok (.bipush 9, 2) := by decide +kernel
theorem dX0_makeRound_2 : decode cX0_makeRound 2 = .ok (.istore_n 2, 1) := by decide +kernel
theorem dX0_makeRound_3 : decode cX0_makeRound 3 = .ok (.iconst 1, 1) := by decide +kernel
theorem dX0_makeRound_4 : decode cX0_makeRound 4 = .ok (.istore_n 3, 1) := by decide +kernel
theorem dX0_makeRound_5 : decode cX0_makeRound 5 = .ok (.iload_n 3, 1) := by decide +kernel
theorem dX0_makeRound_6 : decode cX0_makeRound 6 = .ok (.aload_n 1, 1) := by decide +kernel
theorem dX0_makeRound_7 : decode cX0_makeRound 7 = .ok (.getfield 48, 3) := by decide +kernel
theorem dX0_makeRound_10 : decode cX0_makeRound 10 = .ok (.if_icmp .ge 74, 3) := by decide +kernel
theorem dX0_makeRound_13 : decode cX0_makeRound 13 = .ok (.aload_n 1, 1) := by decide +kernel
theorem dX0_makeRound_14 : decode cX0_makeRound 14 = .ok (.getfield 48, 3) := by decide +kernel
theorem dX0_makeRound_17 : decode cX0_makeRound 17 = .ok (.iload_n 3, 1) := by decide +kernel
theorem dX0_makeRound_18 : decode cX0_makeRound 18 = .ok (.irem, 1) := by decide +kernel
theorem dX0_makeRound_19 : decode cX0_makeRound 19 = .ok (.ifCond .ne 59, 3) := by decide +kernel
theorem dX0_makeRound_22 : decode cX0_makeRound 22 = .ok (.aload_n 0, 1) := by decide +kernel
theorem dX0_makeRound_23 : decode cX0_makeRound 23 = .ok (.aload_n 1, 1) := by decide +kernel
theorem dX0_makeRound_24 : decode cX0_makeRound 24 = .ok (.iload_n 3, 1) := by decide +kernel
theorem dX0_makeRound_25 : decode cX0_makeRound 25 = .ok (.invokevirtual 69, 3) := by decide +kernel
theorem dX0_makeRound_28 : decode cX0_makeRound 28 = .ok (.aload_n 1, 1) := by decide +kernel
theorem dX0_makeRound_29 : decode cX0_makeRound 29 = .ok (.aload_n 0, 1) := by decide +kernel
theorem dX0_makeRound_30 : decode cX0_makeRound 30 = .ok (.getfield 18, 3) := by decide +kernel
theorem dX0_makeRound_33 : decode cX0_makeRound 33 = .ok (.invokevirtual 41, 3) := by decide +kernel
theorem dX0_makeRound_36 : decode cX0_makeRound 36 = .ok (.istore 4, 2) := by decide +kernel
theorem dX0_makeRound_38 : decode cX0_makeRound 38 = .ok (.iload 4, 2) := by decide +kernel
theorem dX0_makeRound_40 : decode cX0_makeRound 40 = .ok (.iload_n 2, 1) := by decide +kernel
theorem dX0_makeRound_41 : decode cX0_makeRound 41 = .ok (.if_icmp .lt 23, 3) := by decide +kernel
theorem dX0_makeRound_44 : decode cX0_makeRound 44 = .ok (.iload 4, 2) := by decide +kernel
theorem dX0_makeRound_46 : decode cX0_makeRound 46 = .ok (.iload_n 2, 1) := by decide +kernel
theorem dX0_makeRound_47 : decode cX0_makeRound 47 = .ok (.if_icmp .ne 31, 3) := by decide +kernel
theorem dX0_makeRound_50 : decode cX0_makeRound 50 = .ok (.aload_n 0, 1) := by decide +kernel
theorem dX0_makeRound_51 : decode cX0_makeRound 51 = .ok (.getfield 18, 3) := by decide +kernel
theorem dX0_makeRound_54 : decode cX0_makeRound 54 = .ok (.aload_n 0, 1) := by decide +kernel
theorem dX0_makeRound_55 : decode cX0_makeRound 55 = .ok (.getfield 12, 3) := by decide +kernel
theorem dX0_makeRound_58 : decode cX0_makeRound 58 = .ok (.invokevirtual 73, 3) := by decide +kernel
theorem dX0_makeRound_61 : decode cX0_makeRound 61 = .ok (.ifCond .eq 17, 3) := by decide +kernel
theorem dX0_makeRound_64 : decode cX0_makeRound 64 = .ok (.iload 4, 2) := by decide +kernel
theorem dX0_makeRound_66 : decode cX0_makeRound 66 = .ok (.istore_n 2, 1) := by decide +kernel
theorem dX0_makeRound_67 : decode cX0_makeRound 67 = .ok (.aload_n 0, 1) := by decide +kernel
theorem dX0_makeRound_68 : decode cX0_makeRound 68 = .ok (.getfield 12, 3) := by decide +kernel
theorem dX0_makeRound_71 : decode cX0_makeRound 71 = .ok (.aload_n 0, 1) := by decide +kernel
theorem dX0_makeRound_72 : decode cX0_makeRound 72 = .ok (.getfield 18, 3) := by decide +kernel
theorem dX0_makeRound_75 : decode cX0_makeRound 75 = .ok (.invokevirtual 25, 3) := by decide +kernel
theorem dX0_makeRound_78 : decode cX0_makeRound 78 = .ok (.iinc 3 1, 3) := by decide +kernel
theorem dX0_makeRound_81 : decode cX0_makeRound 81 = .ok (.goto (-76), 3) := by decide +kernel
theorem dX0_makeRound_84 : decode cX0_makeRound 84 = .ok (.return_, 1) := by decide +kernel
set_option maxRecDepth 20000 in
theorem ggX0_guessPeriod_X2_become : GoodIn wsX0_guessPeriod wsX2_become := goodIn_r _ [6, 7, 8, 16, 17] (by decide +kernel) (by decide +kernel)
set_option maxRecDepth 20000 in
theorem gX0_guessPeriod_X2_become : GoodIn wsX0_guessPeriod (wsV RX0 25 RX2 yX2_become wsX2_become) := goodIn_app (goodIn_of _ (by decide +kernel)) ggX0_guessPeriod_X2_become
set_option maxRecDepth 20000 in
theorem ggX0_guessPeriod_X0_commonest : GoodIn wsX0_guessPeriod wsX0_commonest := goodIn_r _ [12, 16, 17] (by decide +kernel) (by decide +kernel)
set_option maxRecDepth 20000 in
theorem gX0_guessPeriod_X0_commonest : GoodIn wsX0_guessPeriod (va_wsS RX0 77 yX0_commonest wsX0_commonest) := goodIn_app (goodIn_of _ (by decide +kernel)) ggX0_guessPeriod_X0_commonest
theorem dX0_guessPeriod_0 : decode cX0_guessPeriod 0 = .ok (.aload_n 0, 1) := by decide +kernel
theorem dX0_guessPeriod_1 : decode cX0_guessPeriod 1 = .ok (.getfield 18, 3) := by decide +kernel
theorem dX0_guessPeriod_4 : decode cX0_guessPeriod 4 = .ok (.aload_n 1, 1) := by decide +kernel
theorem dX0_guessPeriod_5 : decode cX0_guessPeriod 5 = .ok (.invokevirtual 25, 3) := by decide +kernel
theorem dX0_guessPeriod_8 : decode cX0_guessPeriod 8 = .ok (.iconst 0, 1) := by decide +kernel
theorem dX0_guessPeriod_9 : decode cX0_guessPeriod 9 = .ok (.istore_n 3, 1) := by decide +kernel
theorem dX0_guessPeriod_10 : decode cX0_guessPeriod 10 = .ok (.iload_n 3, 1) := by decide +kernel
theorem dX0_guessPeriod_11 : decode cX0_guessPeriod 11 = .ok (.aload_n 1, 1) := by decide +kernel
theorem dX0_guessPeriod_12 : decode cX0_guessPeriod 12 = .ok (.getfield 48, 3) := by decide +kernel
theorem dX0_guessPeriod_15 : decode cX0_guessPeriod 15 = .ok (.if_icmp .ge 43, 3) := by decide +kernel
theorem dX0_guessPeriod_18 : decode cX0_guessPeriod 18 = .ok (.aload_n 0, 1) := by decide +kernel
theorem dX0_guessPeriod_19 : decode cX0_guessPeriod 19 = .ok (.getfield 18, 3) := by decide +kernel
theorem dX0_guessPeriod_22 : decode cX0_guessPeriod 22 = .ok (.getfield 56, 3) := by decide +kernel
theorem dX0_guessPeriod_25 : decode cX0_guessPeriod 25 = .ok (.iload_n 3, 1) := by decide +kernel
theorem dX0_guessPeriod_26 : decode cX0_guessPeriod 26 = .ok (.iload_n 3, 1) := by decide +kernel
theorem dX0_guessPeriod_27 : decode cX0_guessPeriod 27 = .ok (.iload_n 2, 1) := by decide +kernel
theorem dX0_guessPeriod_28 : decode cX0_guessPeriod 28 = .ok (.if_icmp .ge 12, 3) := by decide +kernel
theorem dX0_guessPeriod_31 : decode cX0_guessPeriod 31 = .ok (.aload_n 1, 1) := by decide +kernel
theorem dX0_guessPeriod_32 : decode cX0_guessPeriod 32 = .ok (.iload_n 3, 1) := by decide +kernel
theorem dX0_guessPeriod_33 : decode cX0_guessPeriod 33 = .ok (.iload_n 2, 1) := by decide +kernel
theorem dX0_guessPeriod_34 : decode cX0_guessPeriod 34 = .ok (.invokestatic 77, 3) := by decide +kernel
theorem dX0_guessPeriod_37 : decode cX0_guessPeriod 37 = .ok (.goto 14, 3) := by decide +kernel
theorem dX0_guessPeriod_40 : decode cX0_guessPeriod 40 = .ok (.aload_n 0, 1) := by decide +kernel
theorem dX0_guessPeriod_41 : decode cX0_guessPeriod 41 = .ok (.getfield 18, 3) := by decide +kernel
theorem dX0_guessPeriod_44 : decode cX0_guessPeriod 44 = .ok (.getfield 56, 3) := by decide +kernel
theorem dX0_guessPeriod_47 : decode cX0_guessPeriod 47 = .ok (.iload_n 3, 1) := by decide +kernel
theorem dX0_guessPeriod_48 : decode cX0_guessPeriod 48 = .ok (.iload_n 2, 1) := by decide +kernel
theorem dX0_guessPeriod_49 : decode cX0_guessPeriod 49 = .ok (.isub, 1) := by decide +kernel
theorem dX0_guessPeriod_50 : decode cX0_guessPeriod 50 = .ok (.iaload, 1) := by decide +kernel
theorem dX0_guessPeriod_51 : decode cX0_guessPeriod 51 = .ok (.iastore, 1) := by decide +kernel
theorem dX0_guessPeriod_52 : decode cX0_guessPeriod 52 = .ok (.iinc 3 1, 3) := by decide +kernel
theorem dX0_guessPeriod_55 : decode cX0_guessPeriod 55 = .ok (.goto (-45), 3) := by decide +kernel
theorem dX0_guessPeriod_58 : decode cX0_guessPeriod 58 = .ok (.return_, 1) := by decide +kernel
theorem dX0_commonest_0 : decode cX0_commonest 0 = .ok (.iconst 0, 1) := by decide +kernel
theorem dX0_commonest_1 : decode cX0_commonest 1 = .ok (.istore_n 3, 1) := by decide +kernel
theorem dX0_commonest_2 : decode cX0_commonest 2 = .ok (.iconst 0, 1) := by decide +kernel
theorem dX0_commonest_3 : decode cX0_commonest 3 = .ok (.istore 4, 2) := by decide +kernel
theorem dX0_commonest_5 : decode cX0_commonest 5 = .ok (.iconst 0, 1) := by decide +kernel
theorem dX0_commonest_6 : decode cX0_commonest 6 = .ok (.istore 5, 2) := by decide +kernel
theorem dX0_commonest_8 : decode cX0_commonest 8 = .ok (.iload 5, 2) := by decide +kernel
theorem dX0_commonest_10 : decode cX0_commonest 10 = .ok (.iconst 4, 1) := by decide +kernel
theorem dX0_commonest_11 : decode cX0_commonest 11 = .ok (.if_icmp .ge 74, 3) := by decide +kernel
theorem dX0_commonest_14 : decode cX0_commonest 14 = .ok (.iconst 0, 1) := by decide +kernel
theorem dX0_commonest_15 : decode cX0_commonest 15 = .ok (.istore 6, 2) := by decide +kernel
theorem dX0_commonest_17 : decode cX0_commonest 17 = .ok (.iconst 0, 1) := by decide +kernel
theorem dX0_commonest_18 : decode cX0_commonest 18 = .ok (.istore 7, 2) := by decide +kernel
theorem dX0_commonest_20 : decode cX0_commonest 20 = .ok (.iload 7, 2) := by decide +kernel
theorem dX0_commonest_22 : decode cX0_commonest 22 = .ok (.bipush 8, 2) := by decide +kernel
theorem dX0_commonest_24 : decode cX0_commonest 24 = .ok (.if_icmp .ge 41, 3) := by decide +kernel
theorem dX0_commonest_27 : decode cX0_commonest 27 = .ok (.iload_n 1, 1) := by decide +kernel
theorem dX0_commonest_28 : decode cX0_commonest 28 = .ok (.iload 7, 2) := by decide +kernel
theorem dX0_commonest_30 : decode cX0_commonest 30 = .ok (.iload_n 2, 1) := by decide +kernel
theorem dX0_commonest_31 : decode cX0_commonest 31 = .ok (.imul, 1) := by decide +kernel
theorem dX0_commonest_32 : decode cX0_commonest 32 = .ok (.iadd, 1) := by decide +kernel
theorem dX0_commonest_33 : decode cX0_commonest 33 = .ok (.istore 8, 2) := by decide +kernel
theorem dX0_commonest_35 : decode cX0_commonest 35 = .ok (.iload 8, 2) := by decide +kernel
theorem dX0_commonest_37 : decode cX0_commonest 37 = .ok (.aload_n 0, 1) := by decide +kernel
theorem dX0_commonest_38 : decode cX0_commonest 38 = .ok (.getfield 48, 3) := by decide +kernel
theorem dX0_commonest_41 : decode cX0_commonest 41 = .ok (.if_icmp .ge 18, 3) := by decide +kernel
theorem dX0_commonest_44 : decode cX0_commonest 44 = .ok (.aload_n 0, 1) := by decide +kernel
theorem dX0_commonest_45 : decode cX0_commonest 45 = .ok (.getfield 56, 3) := by decide +kernel
theorem dX0_commonest_48 : decode cX0_commonest 48 = .ok (.iload 8, 2) := by decide +kernel
theorem dX0_commonest_50 : decode cX0_commonest 50 = .ok (.iaload, 1) := by decide +kernel
theorem dX0_commonest_51 : decode cX0_commonest 51 = .ok (.iload 5, 2) := by decide +kernel
theorem dX0_commonest_53 : decode cX0_commonest 53 = .ok (.if_icmp .ne 6, 3) := by decide +kernel
theorem dX0_commonest_56 : decode cX0_commonest 56 = .ok (.iinc 6 1, 3) := by decide +kernel
theorem dX0_commonest_59 : decode cX0_commonest 59 = .ok (.iinc 7 1, 3) := by decide +kernel
theorem dX0_commonest_62 : decode cX0_commonest 62 = .ok (.goto (-42), 3) := by decide +kernel
theorem dX0_commonest_65 : decode cX0_commonest 65 = .ok (.iload 6, 2) := by decide +kernel
theorem dX0_commonest_67 : decode cX0_commonest 67 = .ok (.iload 4, 2) := by decide +kernel
theorem dX0_commonest_69 : decode cX0_commonest 69 = .ok (.if_icmp .le 10, 3) := by decide +kernel
theorem dX0_commonest_72 : decode cX0_commonest 72 = .ok (.iload 6, 2) := by decide +kernel
theorem dX0_commonest_74 : decode cX0_commonest 74 = .ok (.istore 4, 2) := by decide +kernel
theorem dX0_commonest_76 : decode cX0_commonest 76 = .ok (.iload 5, 2) := by decide +kernel
theorem dX0_commonest_78 : decode cX0_commonest 78 = .ok (.istore_n 3, 1) := by decide +kernel
theorem dX0_commonest_79 : decode cX0_commonest 79 = .ok (.iinc 5 1, 3) := by decide +kernel
theorem dX0_commonest_82 : decode cX0_commonest 82 = .ok (.goto (-74), 3) := by decide +kernel
theorem dX0_commonest_85 : decode cX0_commonest 85 = .ok (.iload_n 3, 1) := by decide +kernel
theorem dX0_commonest_86 : decode cX0_commonest 86 = .ok (.ireturn, 1) := by decide +kernel
end
section
set_option maxRecDepth 20000 in
theorem ggX4_init_X2_init : GoodIn wsX4_init wsX2_init := goodIn_r _ [23, 24, 2, 3, 25, 26, 27, 43, 44] (by decide +kernel) (by decide +kernel)
set_option maxRecDepth 20000 in
theorem gX4_init_X2_init_n9 : GoodIn wsX4_init (wsX2_init) := ggX4_init_X2_init
set_option maxRecDepth 20000 in
theorem ggX4_init_X0_init : GoodIn wsX4_init wsX0_init := goodIn_r _ [29, 30, 2, 3, 31, 5, 6, 32, 33, 25, 34, 22, 23, 24, 26, 27, 43, 44, 51, 52, 53] (by decide +kernel) (by decide +kernel)
set_option maxRecDepth 20000 in
theorem gX4_init_X0_init_n21 : GoodIn wsX4_init (wsX0_init) := ggX4_init_X0_init
set_option maxRecDepth 20000 in
theorem ggX4_init_X3_init : GoodIn wsX4_init wsX3_init := goodIn_r _ [36, 37, 2, 3, 38, 54] (by decide +kernel) (by decide +kernel)
set_option maxRecDepth 20000 in
theorem gX4_init_X3_init_n28 : GoodIn wsX4_init (wsX3_init) := ggX4_init_X3_init
set_option maxRecDepth 20000 in
theorem ggX4_init_X1_init : GoodIn wsX4_init wsX1_init := goodIn_r _ [40, 41, 2, 3, 25, 42, 55] (by decide +kernel) (by decide +kernel)
set_option maxRecDepth 20000 in
theorem gX4_init_X1_init_n35 : GoodIn wsX4_init (wsX1_init) := ggX4_init_X1_init
theorem dX4_init_0 : decode cX4_init 0 = .ok (.aload_n 0, 1) := by decide +kernel
theorem dX4_init_1 : decode cX4_init 1 = .ok (.invokespecial 1, 3) := by decide +kernel
theorem dX4_init_4 : decode cX4_init 4 = .ok (.aload_n 0, 1) := by decide +kernel
theorem dX4_init_5 : decode cX4_init 5 = .ok (.new 7, 3) := by decide +kernel
theorem dX4_init_8 : decode cX4_init 8 = .ok (.dup, 1) := by decide +kernel
theorem dX4_init_9 : decode cX4_init 9 = .ok (.invokespecial 9, 3) := by decide +kernel
theorem dX4_init_12 : decode cX4_init 12 = .ok (.putfield 10, 3) := by decide +kernel
theorem dX4_init_15 : decode cX4_init 15 = .ok (.aload_n 0, 1) := by decide +kernel
theorem dX4_init_16 : decode cX4_init 16 = .ok (.new 7, 3) := by decide +kernel
theorem dX4_init_19 : decode cX4_init 19 = .ok (.dup, 1) := by decide +kernel
theorem dX4_init_20 : decode cX4_init 20 = .ok (.invokespecial 9, 3) := by decide +kernel
theorem dX4_init_23 : decode cX4_init 23 = .ok (.putfield 16, 3) := by decide +kernel
theorem dX4_init_26 : decode cX4_init 26 = .ok (.aload_n 0, 1) := by decide +kernel
theorem dX4_init_27 : decode cX4_init 27 = .ok (.new 19, 3) := by decide +kernel
theorem dX4_init_30 : decode cX4_init 30 = .ok (.dup, 1) := by decide +kernel
theorem dX4_init_31 : decode cX4_init 31 = .ok (.invokespecial 21, 3) := by decide +kernel
theorem dX4_init_34 : decode cX4_init 34 = .ok (.putfield 22, 3) := by decide +kernel
theorem dX4_init_37 : decode cX4_init 37 = .ok (.aload_n 0, 1) := by decide +kernel
theorem dX4_init_38 : decode cX4_init 38 = .ok (.new 26, 3) := by decide +kernel
theorem dX4_init_41 : decode cX4_init 41 = .ok (.dup, 1) := by decide +kernel
theorem dX4_init_42 : decode cX4_init 42 = .ok (.invokespecial 28, 3) := by decide +kernel
theorem dX4_init_45 : decode cX4_init 45 = .ok (.putfield 29, 3) := by decide +kernel
theorem dX4_init_48 : decode cX4_init 48 = .ok (.aload_n 0, 1) := by decide +kernel
theorem dX4_init_49 : decode cX4_init 49 = .ok (.new 33, 3) := by decide +kernel
theorem dX4_init_52 : decode cX4_init 52 = .ok (.dup, 1) := by decide +kernel
theorem dX4_init_53 : decode cX4_init 53 = .ok (.invokespecial 35, 3) := by decide +kernel
theorem dX4_init_56 : decode cX4_init 56 = .ok (.putfield 36, 3) := by decide +kernel
theorem dX4_init_59 : decode cX4_init 59 = .ok (.aload_n 0, 1) := by decide +kernel
theorem dX4_init_60 : decode cX4_init 60 = .ok (.iconst 3, 1) := by decide +kernel
theorem dX4_init_61 : decode cX4_init 61 = .ok (.putfield 40, 3) := by decide +kernel
theorem dX4_init_64 : decode cX4_init 64 = .ok (.return_, 1) := by decide +kernel
set_option maxRecDepth 20000 in
theorem ggX4_places_X4_within : GoodIn wsX4_places wsX4_within := goodIn_r _ [5] (by decide +kernel) (by decide +kernel)
set_option maxRecDepth 20000 in
theorem gX4_places_X4_within : GoodIn wsX4_places (va_wsS RX4 44 yX4_within wsX4_within) := goodIn_app (goodIn_of _ (by decide +kernel)) ggX4_places_X4_within
set_option maxRecDepth 20000 in
theorem ggX4_places_X2_clear : GoodIn wsX4_places wsX2_clear := goodIn_r _ [10, 11, 12, 19, 20] (by decide +kernel) (by decide +kernel)
set_option maxRecDepth 20000 in
theorem gX4_places_X2_clear : GoodIn wsX4_places (wsV RX4 51 RX2 yX2_clear wsX2_clear) := goodIn_app (goodIn_of _ (by decide +kernel)) ggX4_places_X2_clear
theorem dX4_places_0 : decode cX4_places 0 = .ok (.iload_n 1, 1) := by decide +kernel
theorem dX4_places_1 : decode cX4_places 1 = .ok (.iconst 2, 1) := by decide +kernel
theorem dX4_places_2 : decode cX4_places 2 = .ok (.bipush 8, 2) := by decide +kernel
theorem dX4_places_4 : decode cX4_places 4 = .ok (.invokestatic 44, 3) := by decide +kernel
theorem dX4_places_7 : decode cX4_places 7 = .ok (.ifCond .ne 6, 3) := by decide +kernel
theorem dX4_places_10 : decode cX4_places 10 = .ok (.bipush (-2), 2) := by decide +kernel
theorem dX4_places_12 : decode cX4_places 12 = .ok (.ireturn, 1) := by decide +kernel
theorem dX4_places_13 : decode cX4_places 13 = .ok (.aload_n 0, 1) := by decide +kernel
theorem dX4_places_14 : decode cX4_places 14 = .ok (.getfield 10, 3) := by decide +kernel
theorem dX4_places_17 : decode cX4_places 17 = .ok (.getfield 48, 3) := by decide +kernel
theorem dX4_places_20 : decode cX4_places 20 = .ok (.istore_n 2, 1) := by decide +kernel
theorem dX4_places_21 : decode cX4_places 21 = .ok (.aload_n 0, 1) := by decide +kernel
theorem dX4_places_22 : decode cX4_places 22 = .ok (.getfield 10, 3) := by decide +kernel
theorem dX4_places_25 : decode cX4_places 25 = .ok (.iload_n 1, 1) := by decide +kernel
theorem dX4_places_26 : decode cX4_places 26 = .ok (.invokevirtual 51, 3) := by decide +kernel
theorem dX4_places_29 : decode cX4_places 29 = .ok (.iload_n 2, 1) := by decide +kernel
theorem dX4_places_30 : decode cX4_places 30 = .ok (.ireturn, 1) := by decide +kernel
set_option maxRecDepth 20000 in
theorem ggX4_digit_X4_isPlace : GoodIn wsX4_digit wsX4_isPlace := goodIn_r _ [6, 1, 7, 8, 5, 9, 10, 11, 12, 13, 14, 15, 16, 17] (by decide +kernel) (by decide +kernel)
set_option maxRecDepth 20000 in
theorem gX4_digit_X4_isPlace : GoodIn wsX4_digit (wsV RX4 55 RX4 yX4_isPlace wsX4_isPlace) := goodIn_app (goodIn_of _ (by decide +kernel)) ggX4_digit_X4_isPlace
set_option maxRecDepth 20000 in
theorem ggX4_digit_X4_within : GoodIn wsX4_digit wsX4_within := goodIn_r _ [9] (by decide +kernel) (by decide +kernel)
set_option maxRecDepth 20000 in
theorem gX4_digit_X4_within : GoodIn wsX4_digit (va_wsS RX4 44 yX4_within wsX4_within) := goodIn_app (goodIn_of _ (by decide +kernel)) ggX4_digit_X4_within
theorem dX4_digit_0 : decode cX4_digit 0 = .ok (.aload_n 0, 1) := by decide +kernel
theorem dX4_digit_1 : decode cX4_digit 1 = .ok (.iload_n 1, 1) := by decide +kernel
theorem dX4_digit_2 : decode cX4_digit 2 = .ok (.invokevirtual 55, 3) := by decide +kernel
theorem dX4_digit_5 : decode cX4_digit 5 = .ok (.ifCond .eq 12, 3) := by decide +kernel
theorem dX4_digit_8 : decode cX4_digit 8 = .ok (.iload_n 2, 1) := by decide +kernel
theorem dX4_digit_9 : decode cX4_digit 9 = .ok (.iconst 0, 1) := by decide +kernel
theorem dX4_digit_10 : decode cX4_digit 10 = .ok (.iconst 3, 1) := by decide +kernel
theorem dX4_digit_11 : decode cX4_digit 11 = .ok (.invokestatic 44, 3) := by decide +kernel
theorem dX4_digit_14 : decode cX4_digit 14 = .ok (.ifCond .ne 6, 3) := by decide +kernel
theorem dX4_digit_17 : decode cX4_digit 17 = .ok (.bipush (-2), 2) := by decide +kernel
theorem dX4_digit_19 : decode cX4_digit 19 = .ok (.ireturn, 1) := by decide +kernel
theorem dX4_digit_20 : decode cX4_digit 20 = .ok (.aload_n 0, 1) := by decide +kernel
theorem dX4_digit_21 : decode cX4_digit 21 = .ok (.getfield 10, 3) := by decide +kernel
theorem dX4_digit_24 : decode cX4_digit 24 = .ok (.getfield 59, 3) := by decide +kernel
theorem dX4_digit_27 : decode cX4_digit 27 = .ok (.iload_n 1, 1) := by decide +kernel
theorem dX4_digit_28 : decode cX4_digit 28 = .ok (.iaload, 1) := by decide +kernel
theorem dX4_digit_29 : decode cX4_digit 29 = .ok (.istore_n 3, 1) := by decide +kernel
theorem dX4_digit_30 : decode cX4_digit 30 = .ok (.aload_n 0, 1) := by decide +kernel
theorem dX4_digit_31 : decode cX4_digit 31 = .ok (.getfield 10, 3) := by decide +kernel
theorem dX4_digit_34 : decode cX4_digit 34 = .ok (.getfield 59, 3) := by decide +kernel
theorem dX4_digit_37 : decode cX4_digit 37 = .ok (.iload_n 1, 1) := by decide +kernel
theorem dX4_digit_38 : decode cX4_digit 38 = .ok (.iload_n 2, 1) := by decide +kernel
theorem dX4_digit_39 : decode cX4_digit 39 = .ok (.iastore, 1) := by decide +kernel
theorem dX4_digit_40 : decode cX4_digit 40 = .ok (.iload_n 3, 1) := by decide +kernel
theorem dX4_digit_41 : decode cX4_digit 41 = .ok (.ireturn, 1) := by decide +kernel
set_option maxRecDepth 20000 in
theorem ggX4_bit_X4_isEntry : GoodIn wsX4_bit wsX4_isEntry := goodIn_r _ [5, 6, 7, 4, 8] (by decide +kernel) (by decide +kernel)
set_option maxRecDepth 20000 in
theorem gX4_bit_X4_isEntry : GoodIn wsX4_bit (va_wsS RX4 63 yX4_isEntry wsX4_isEntry) := goodIn_app (goodIn_of _ (by decide +kernel)) ggX4_bit_X4_isEntry
set_option maxRecDepth 20000 in
theorem ggX4_bit_X4_within : GoodIn wsX4_bit wsX4_within := goodIn_r _ [8] (by decide +kernel) (by decide +kernel)
set_option maxRecDepth 20000 in
theorem gX4_bit_X4_within : GoodIn wsX4_bit (va_wsS RX4 44 yX4_within wsX4_within) := goodIn_app (goodIn_of _ (by decide +kernel)) ggX4_bit_X4_within
set_option maxRecDepth 20000 in
theorem ggX4_bit_X3_at : GoodIn wsX4_bit wsX3_at := goodIn_r _ [13, 14, 25] (by decide +kernel) (by decide +kernel)
set_option maxRecDepth 20000 in
theorem gX4_bit_X3_at : GoodIn wsX4_bit (wsV RX4 66 RX3 yX3_at wsX3_at) := goodIn_app (goodIn_of _ (by decide +kernel)) ggX4_bit_X3_at
set_option maxRecDepth 20000 in
theorem ggX4_bit_X3_put : GoodIn wsX4_bit wsX3_put := goodIn_r _ [18, 14, 25] (by decide +kernel) (by decide +kernel)
set_option maxRecDepth 20000 in
theorem gX4_bit_X3_put : GoodIn wsX4_bit (wsV RX4 70 RX3 yX3_put wsX3_put) := goodIn_app (goodIn_of _ (by decide +kernel)) ggX4_bit_X3_put
theorem dX4_bit_0 : decode cX4_bit 0 = .ok (.iload_n 1, 1) := by decide +kernel
theorem dX4_bit_1 : decode cX4_bit 1 = .ok (.invokestatic 63, 3) := by decide +kernel
theorem dX4_bit_4 : decode cX4_bit 4 = .ok (.ifCond .eq 12, 3) := by decide +kernel
theorem dX4_bit_7 : decode cX4_bit 7 = .ok (.iload_n 2, 1) := by decide +kernel
theorem dX4_bit_8 : decode cX4_bit 8 = .ok (.iconst 0, 1) := by decide +kernel
theorem dX4_bit_9 : decode cX4_bit 9 = .ok (.iconst 1, 1) := by decide +kernel
theorem dX4_bit_10 : decode cX4_bit 10 = .ok (.invokestatic 44, 3) := by decide +kernel
theorem dX4_bit_13 : decode cX4_bit 13 = .ok (.ifCond .ne 6, 3) := by decide +kernel
theorem dX4_bit_16 : decode cX4_bit 16 = .ok (.bipush (-2), 2) := by decide +kernel
theorem dX4_bit_18 : decode cX4_bit 18 = .ok (.ireturn, 1) := by decide +kernel
theorem dX4_bit_19 : decode cX4_bit 19 = .ok (.aload_n 0, 1) := by decide +kernel
theorem dX4_bit_20 : decode cX4_bit 20 = .ok (.getfield 29, 3) := by decide +kernel
theorem dX4_bit_23 : decode cX4_bit 23 = .ok (.iload_n 1, 1) := by decide +kernel
theorem dX4_bit_24 : decode cX4_bit 24 = .ok (.invokevirtual 66, 3) := by decide +kernel
theorem dX4_bit_27 : decode cX4_bit 27 = .ok (.istore_n 3, 1) := by decide +kernel
theorem dX4_bit_28 : decode cX4_bit 28 = .ok (.aload_n 0, 1) := by decide +kernel
theorem dX4_bit_29 : decode cX4_bit 29 = .ok (.getfield 29, 3) := by decide +kernel
theorem dX4_bit_32 : decode cX4_bit 32 = .ok (.iload_n 1, 1) := by decide +kernel
theorem dX4_bit_33 : decode cX4_bit 33 = .ok (.iload_n 2, 1) := by decide +kernel
theorem dX4_bit_34 : decode cX4_bit 34 = .ok (.invokevirtual 70, 3) := by decide +kernel
theorem dX4_bit_37 : decode cX4_bit 37 = .ok (.iload_n 3, 1) := by decide +kernel
theorem dX4_bit_38 : decode cX4_bit 38 = .ok (.ireturn, 1) := by decide +kernel
set_option maxRecDepth 20000 in
theorem ggX4_linear_X4_isEntry : GoodIn wsX4_linear wsX4_isEntry := goodIn_r _ [5, 6, 7, 4, 8] (by decide +kernel) (by decide +kernel)
set_option maxRecDepth 20000 in
theorem gX4_linear_X4_isEntry : GoodIn wsX4_linear (va_wsS RX4 63 yX4_isEntry wsX4_isEntry) := goodIn_app (goodIn_of _ (by decide +kernel)) ggX4_linear_X4_isEntry
set_option maxRecDepth 20000 in
theorem ggX4_linear_X3_parities : GoodIn wsX4_linear wsX3_parities := goodIn_r _ [12, 13, 14, 15, 16, 17, 18, 19] (by decide +kernel) (by decide +kernel)
set_option maxRecDepth 20000 in
theorem gX4_linear_X3_parities : GoodIn wsX4_linear (va_wsS RX4 74 yX3_parities wsX3_parities) := goodIn_app (goodIn_of _ (by decide +kernel)) ggX4_linear_X3_parities
theorem dX4_linear_0 : decode cX4_linear 0 = .ok (.iload_n 1, 1) := by decide +kernel
theorem dX4_linear_1 : decode cX4_linear 1 = .ok (.invokestatic 63, 3) := by decide +kernel
theorem dX4_linear_4 : decode cX4_linear 4 = .ok (.ifCond .ne 6, 3) := by decide +kernel
theorem dX4_linear_7 : decode cX4_linear 7 = .ok (.bipush (-2), 2) := by decide +kernel
theorem dX4_linear_9 : decode cX4_linear 9 = .ok (.ireturn, 1) := by decide +kernel
theorem dX4_linear_10 : decode cX4_linear 10 = .ok (.aload_n 0, 1) := by decide +kernel
theorem dX4_linear_11 : decode cX4_linear 11 = .ok (.getfield 29, 3) := by decide +kernel
theorem dX4_linear_14 : decode cX4_linear 14 = .ok (.iload_n 1, 1) := by decide +kernel
theorem dX4_linear_15 : decode cX4_linear 15 = .ok (.invokestatic 74, 3) := by decide +kernel
theorem dX4_linear_18 : decode cX4_linear 18 = .ok (.putfield 77, 3) := by decide +kernel
theorem dX4_linear_21 : decode cX4_linear 21 = .ok (.iconst 1, 1) := by decide +kernel
theorem dX4_linear_22 : decode cX4_linear 22 = .ok (.ireturn, 1) := by decide +kernel
set_option maxRecDepth 20000 in
theorem ggX4_line_X4_isPoint : GoodIn wsX4_line wsX4_isPoint := goodIn_r _ [5, 6, 7, 4, 8] (by decide +kernel) (by decide +kernel)
set_option maxRecDepth 20000 in
theorem gX4_line_X4_isPoint : GoodIn wsX4_line (va_wsS RX4 80 yX4_isPoint wsX4_isPoint) := goodIn_app (goodIn_of _ (by decide +kernel)) ggX4_line_X4_isPoint
set_option maxRecDepth 20000 in
theorem ggX4_line_X1_joined : GoodIn wsX4_line wsX1_joined := goodIn_r _ [13, 14, 25] (by decide +kernel) (by decide +kernel)
set_option maxRecDepth 20000 in
theorem gX4_line_X1_joined : GoodIn wsX4_line (wsV RX4 83 RX1 yX1_joined wsX1_joined) := goodIn_app (goodIn_of _ (by decide +kernel)) ggX4_line_X1_joined
set_option maxRecDepth 20000 in
theorem ggX4_line_X1_join : GoodIn wsX4_line wsX1_join := goodIn_r _ [18, 14, 25] (by decide +kernel) (by decide +kernel)
set_option maxRecDepth 20000 in
theorem gX4_line_X1_join : GoodIn wsX4_line (wsV RX4 87 RX1 yX1_join wsX1_join) := goodIn_app (goodIn_of _ (by decide +kernel)) ggX4_line_X1_join
theorem dX4_line_0 : decode cX4_line 0 = .ok (.iload_n 1, 1) := by decide +kernel
theorem dX4_line_1 : decode cX4_line 1 = .ok (.invokestatic 80, 3) := by decide +kernel
theorem dX4_line_4 : decode cX4_line 4 = .ok (.ifCond .eq 15, 3) := by decide +kernel
theorem dX4_line_7 : decode cX4_line 7 = .ok (.iload_n 2, 1) := by decide +kernel
theorem dX4_line_8 : decode cX4_line 8 = .ok (.invokestatic 80, 3) := by decide +kernel
theorem dX4_line_11 : decode cX4_line 11 = .ok (.ifCond .eq 8, 3) := by decide +kernel
theorem dX4_line_14 : decode cX4_line 14 = .ok (.iload_n 1, 1) := by decide +kernel
theorem dX4_line_15 : decode cX4_line 15 = .ok (.iload_n 2, 1) := by decide +kernel
theorem dX4_line_16 : decode cX4_line 16 = .ok (.if_icmp .ne 6, 3) := by decide +kernel
theorem dX4_line_19 : decode cX4_line 19 = .ok (.bipush (-2), 2) := by decide +kernel
theorem dX4_line_21 : decode cX4_line 21 = .ok (.ireturn, 1) := by decide +kernel
theorem dX4_line_22 : decode cX4_line 22 = .ok (.aload_n 0, 1) := by decide +kernel
theorem dX4_line_23 : decode cX4_line 23 = .ok (.getfield 36, 3) := by decide +kernel
theorem dX4_line_26 : decode cX4_line 26 = .ok (.iload_n 1, 1) := by decide +kernel
theorem dX4_line_27 : decode cX4_line 27 = .ok (.iload_n 2, 1) := by decide +kernel
theorem dX4_line_28 : decode cX4_line 28 = .ok (.invokevirtual 83, 3) := by decide +kernel
theorem dX4_line_31 : decode cX4_line 31 = .ok (.istore 4, 2) := by decide +kernel
theorem dX4_line_33 : decode cX4_line 33 = .ok (.aload_n 0, 1) := by decide +kernel
theorem dX4_line_34 : decode cX4_line 34 = .ok (.getfield 36, 3) := by decide +kernel
theorem dX4_line_37 : decode cX4_line 37 = .ok (.iload_n 1, 1) := by decide +kernel
theorem dX4_line_38 : decode cX4_line 38 = .ok (.iload_n 2, 1) := by decide +kernel
theorem dX4_line_39 : decode cX4_line 39 = .ok (.iload_n 3, 1) := by decide +kernel
theorem dX4_line_40 : decode cX4_line 40 = .ok (.invokevirtual 87, 3) := by decide +kernel
theorem dX4_line_43 : decode cX4_line 43 = .ok (.iload 4, 2) := by decide +kernel
theorem dX4_line_45 : decode cX4_line 45 = .ok (.ireturn, 1) := by decide +kernel
set_option maxRecDepth 20000 in
theorem ggX4_draw_X4_within : GoodIn wsX4_draw wsX4_within := goodIn_r _ [5] (by decide +kernel) (by decide +kernel)
set_option maxRecDepth 20000 in
theorem gX4_draw_X4_within : GoodIn wsX4_draw (va_wsS RX4 44 yX4_within wsX4_within) := goodIn_app (goodIn_of _ (by decide +kernel)) ggX4_draw_X4_within
theorem dX4_draw_0 : decode cX4_draw 0 = .ok (.iload_n 1, 1) := by decide +kernel
theorem dX4_draw_1 : decode cX4_draw 1 = .ok (.iconst 1, 1) := by decide +kernel
theorem dX4_draw_2 : decode cX4_draw 2 = .ok (.bipush 6, 2) := by decide +kernel
theorem dX4_draw_4 : decode cX4_draw 4 = .ok (.invokestatic 44, 3) := by decide +kernel
theorem dX4_draw_7 : decode cX4_draw 7 = .ok (.ifCond .ne 6, 3) := by decide +kernel
theorem dX4_draw_10 : decode cX4_draw 10 = .ok (.bipush (-2), 2) := by decide +kernel
theorem dX4_draw_12 : decode cX4_draw 12 = .ok (.ireturn, 1) := by decide +kernel
theorem dX4_draw_13 : decode cX4_draw 13 = .ok (.aload_n 0, 1) := by decide +kernel
theorem dX4_draw_14 : decode cX4_draw 14 = .ok (.getfield 40, 3) := by decide +kernel
theorem dX4_draw_17 : decode cX4_draw 17 = .ok (.istore_n 2, 1) := by decide +kernel
theorem dX4_draw_18 : decode cX4_draw 18 = .ok (.aload_n 0, 1) := by decide +kernel
theorem dX4_draw_19 : decode cX4_draw 19 = .ok (.iload_n 1, 1) := by decide +kernel
theorem dX4_draw_20 : decode cX4_draw 20 = .ok (.putfield 40, 3) := by decide +kernel
theorem dX4_draw_23 : decode cX4_draw 23 = .ok (.iload_n 2, 1) := by decide +kernel
theorem dX4_draw_24 : decode cX4_draw 24 = .ok (.ireturn, 1) := by decide +kernel
set_option maxRecDepth 20000 in
theorem ggX4_is_X4_isSubject : GoodIn wsX4_is wsX4_isSubject := goodIn_r _ [4, 5, 6, 3, 7] (by decide +kernel) (by decide +kernel)
set_option maxRecDepth 20000 in
theorem gX4_is_X4_isSubject : GoodIn wsX4_is (va_wsS RX4 91 yX4_isSubject wsX4_isSubject) := goodIn_app (goodIn_of _ (by decide +kernel)) ggX4_is_X4_isSubject
set_option maxRecDepth 20000 in
theorem ggX4_is_X4_howFar : GoodIn wsX4_is wsX4_howFar := goodIn_r _ [11, 12, 13, 14, 15, 16, 17, 3, 18, 5, 6, 7, 19, 20, 21, 22, 23, 24, 25, 26, 27, 28, 29, 30, 31, 32, 33, 34, 35, 36, 37, 38, 39, 40, 41, 42, 43, 44, 45, 46, 47, 48, 49, 50, 51, 52, 53, 54, 55, 56, 57, 58, 59, 60, 61, 62, 63, 64, 65, 66, 67, 68, 69, 70, 71, 72, 73, 74, 75, 76, 77, 78, 79, 80, 81, 82, 83, 84, 85, 86, 87, 88, 89, 90, 91, 92, 93, 94, 95, 96, 97, 98, 99, 100, 101, 102, 103, 104, 105, 106, 107, 108, 109, 110, 111, 112, 113, 114, 115, 116, 117, 118, 119, 120, 121, 122, 123, 124, 125, 126, 127, 128, 129, 130, 131, 132, 133] (by decide +kernel) (by decide +kernel)
set_option maxRecDepth 20000 in
theorem gX4_is_X4_howFar : GoodIn wsX4_is (wsV RX4 94 RX4 yX4_howFar wsX4_howFar) := goodIn_app (goodIn_of _ (by decide +kernel)) ggX4_is_X4_howFar
theorem dX4_is_0 : decode cX4_is 0 = .ok (.iload_n 1, 1) := by decide +kernel
theorem dX4_is_1 : decode cX4_is 1 = .ok (.invokestatic 91, 3) := by decide +kernel
theorem dX4_is_4 : decode cX4_is 4 = .ok (.ifCond .ne 6, 3) := by decide +kernel
theorem dX4_is_7 : decode cX4_is 7 = .ok (.bipush (-2), 2) := by decide +kernel
theorem dX4_is_9 : decode cX4_is 9 = .ok (.ireturn, 1) := by decide +kernel
theorem dX4_is_10 : decode cX4_is 10 = .ok (.aload_n 0, 1) := by decide +kernel
theorem dX4_is_11 : decode cX4_is 11 = .ok (.iload_n 1, 1) := by decide +kernel
theorem dX4_is_12 : decode cX4_is 12 = .ok (.invokevirtual 94, 3) := by decide +kernel
theorem dX4_is_15 : decode cX4_is 15 = .ok (.ifCond .ne 7, 3) := by decide +kernel
theorem dX4_is_18 : decode cX4_is 18 = .ok (.iconst 1, 1) := by decide +kernel
theorem dX4_is_19 : decode cX4_is 19 = .ok (.goto 4, 3) := by decide +kernel
theorem dX4_is_22 : decode cX4_is 22 = .ok (.iconst 0, 1) := by decide +kernel
theorem dX4_is_23 : decode cX4_is 23 = .ok (.ireturn, 1) := by decide +kernel
set_option maxRecDepth 20000 in
theorem ggX4_distance_X4_isSubject : GoodIn wsX4_distance wsX4_isSubject := goodIn_r _ [4, 5, 6, 3, 7] (by decide +kernel) (by decide +kernel)
set_option maxRecDepth 20000 in
theorem gX4_distance_X4_isSubject : GoodIn wsX4_distance (va_wsS RX4 91 yX4_isSubject wsX4_isSubject) := goodIn_app (goodIn_of _ (by decide +kernel)) ggX4_distance_X4_isSubject
set_option maxRecDepth 20000 in
theorem ggX4_distance_X4_howFar : GoodIn wsX4_distance wsX4_howFar := goodIn_r _ [11, 12, 13, 14, 15, 16, 17, 3, 18, 5, 6, 7, 19, 20, 21, 22, 23, 24, 25, 26, 27, 28, 29, 30, 31, 32, 33, 34, 35, 36, 37, 38, 39, 40, 41, 42, 43, 44, 45, 46, 47, 48, 49, 50, 51, 52, 53, 54, 55, 56, 57, 58, 59, 60, 61, 62, 63, 64, 65, 66, 67, 68, 69, 70, 71, 72, 73, 74, 75, 76, 77, 78, 79, 80, 81, 82, 83, 84, 85, 86, 87, 88, 89, 90, 91, 92, 93, 94, 95, 96, 97, 98, 99, 100, 101, 102, 103, 104, 105, 106, 107, 108, 109, 110, 111, 112, 113, 114, 115, 116, 117, 118, 119, 120, 121, 122, 123, 124, 125, 126, 127, 128, 129, 130, 131, 132, 133] (by decide +kernel) (by decide +kernel)
set_option maxRecDepth 20000 in
theorem gX4_distance_X4_howFar : GoodIn wsX4_distance (wsV RX4 94 RX4 yX4_howFar wsX4_howFar) := goodIn_app (goodIn_of _ (by decide +kernel)) ggX4_distance_X4_howFar
theorem dX4_distance_0 : decode cX4_distance 0 = .ok (.iload_n 1, 1) := by decide +kernel
theorem dX4_distance_1 : decode cX4_distance 1 = .ok (.invokestatic 91, 3) := by decide +kernel
theorem dX4_distance_4 : decode cX4_distance 4 = .ok (.ifCond .ne 6, 3) := by decide +kernel
theorem dX4_distance_7 : decode cX4_distance 7 = .ok (.bipush (-2), 2) := by decide +kernel
theorem dX4_distance_9 : decode cX4_distance 9 = .ok (.ireturn, 1) := by decide +kernel
theorem dX4_distance_10 : decode cX4_distance 10 = .ok (.aload_n 0, 1) := by decide +kernel
theorem dX4_distance_11 : decode cX4_distance 11 = .ok (.iload_n 1, 1) := by decide +kernel
theorem dX4_distance_12 : decode cX4_distance 12 = .ok (.invokevirtual 94, 3) := by decide +kernel
theorem dX4_distance_15 : decode cX4_distance 15 = .ok (.ireturn, 1) := by decide +kernel
set_option maxRecDepth 20000 in
theorem ggX4_nearest_X4_isSubject : GoodIn wsX4_nearest wsX4_isSubject := goodIn_r _ [8, 9, 10, 7, 11] (by decide +kernel) (by decide +kernel)
set_option maxRecDepth 20000 in
theorem gX4_nearest_X4_isSubject : GoodIn wsX4_nearest (va_wsS RX4 91 yX4_isSubject wsX4_isSubject) := goodIn_app (goodIn_of _ (by decide +kernel)) ggX4_nearest_X4_isSubject
set_option maxRecDepth 20000 in
theorem ggX4_nearest_X4_isRow : GoodIn wsX4_nearest wsX4_isRow := goodIn_r _ [14, 9, 10, 7, 11] (by decide +kernel) (by decide +kernel)
set_option maxRecDepth 20000 in
theorem gX4_nearest_X4_isRow : GoodIn wsX4_nearest (va_wsS RX4 97 yX4_isRow wsX4_isRow) := goodIn_app (goodIn_of _ (by decide +kernel)) ggX4_nearest_X4_isRow
set_option maxRecDepth 20000 in
theorem ggX4_nearest_X4_isPlace : GoodIn wsX4_nearest wsX4_isPlace := goodIn_r _ [18, 2, 9, 10, 7, 11, 119, 120, 121, 122, 123, 124, 128, 129] (by decide +kernel) (by decide +kernel)
set_option maxRecDepth 20000 in
theorem gX4_nearest_X4_isPlace : GoodIn wsX4_nearest (wsV RX4 55 RX4 yX4_isPlace wsX4_isPlace) := goodIn_app (goodIn_of _ (by decide +kernel)) ggX4_nearest_X4_isPlace
set_option maxRecDepth 20000 in
theorem ggX4_nearest_X0_seek : GoodIn wsX4_nearest wsX0_seek := goodIn_r _ [23, 24, 25, 26, 27, 28, 29, 30, 31, 32, 33, 34, 22, 35, 36, 37, 38, 39, 40, 41, 42, 43, 44, 45, 46, 47, 48, 49, 50, 51, 52, 53, 54, 55, 56, 57, 58, 59, 60, 61, 62, 63, 64, 65, 66, 67, 68, 69, 70, 71, 72, 73, 74, 75, 76, 77, 78, 79, 80, 125, 126, 127, 128, 129] (by decide +kernel) (by decide +kernel)
set_option maxRecDepth 20000 in
theorem gX4_nearest_X0_seek : GoodIn wsX4_nearest (wsV RX4 100 RX0 yX0_seek wsX0_seek) := goodIn_app (goodIn_of _ (by decide +kernel)) ggX4_nearest_X0_seek
set_option maxRecDepth 20000 in
theorem ggX4_nearest_X3_closest : GoodIn wsX4_nearest wsX3_closest := goodIn_r _ [85, 86, 87, 88, 84, 89, 90, 91, 92, 93, 94, 95, 96, 97, 98, 99, 100, 130] (by decide +kernel) (by decide +kernel)
set_option maxRecDepth 20000 in
theorem gX4_nearest_X3_closest : GoodIn wsX4_nearest (wsV RX4 107 RX3 yX3_closest wsX3_closest) := goodIn_app (goodIn_of _ (by decide +kernel)) ggX4_nearest_X3_closest
set_option maxRecDepth 20000 in
theorem ggX4_nearest_X1_bestColouring : GoodIn wsX4_nearest wsX1_bestColouring := goodIn_r _ [105, 106, 107, 108, 104, 109, 110, 111, 112, 113, 114, 115, 116, 117, 118, 95, 96, 97, 98, 99, 100, 131] (by decide +kernel) (by decide +kernel)
set_option maxRecDepth 20000 in
theorem gX4_nearest_X1_bestColouring : GoodIn wsX4_nearest (wsV RX4 111 RX1 yX1_bestColouring wsX1_bestColouring) := goodIn_app (goodIn_of _ (by decide +kernel)) ggX4_nearest_X1_bestColouring
theorem dX4_nearest_0 : decode cX4_nearest 0 = .ok (.iload_n 1, 1) := by decide +kernel
theorem dX4_nearest_1 : decode cX4_nearest 1 = .ok (.invokestatic 91, 3) := by decide +kernel
theorem dX4_nearest_4 : decode cX4_nearest 4 = .ok (.ifCond .ne 6, 3) := by decide +kernel
theorem dX4_nearest_7 : decode cX4_nearest 7 = .ok (.bipush (-2), 2) := by decide +kernel
theorem dX4_nearest_9 : decode cX4_nearest 9 = .ok (.ireturn, 1) := by decide +kernel
theorem dX4_nearest_10 : decode cX4_nearest 10 = .ok (.iload_n 1, 1) := by decide +kernel
theorem dX4_nearest_11 : decode cX4_nearest 11 = .ok (.invokestatic 97, 3) := by decide +kernel
theorem dX4_nearest_14 : decode cX4_nearest 14 = .ok (.ifCond .eq 40, 3) := by decide +kernel
theorem dX4_nearest_17 : decode cX4_nearest 17 = .ok (.aload_n 0, 1) := by decide +kernel
theorem dX4_nearest_18 : decode cX4_nearest 18 = .ok (.iload_n 2, 1) := by decide +kernel
theorem dX4_nearest_19 : decode cX4_nearest 19 = .ok (.invokevirtual 55, 3) := by decide +kernel
theorem dX4_nearest_22 : decode cX4_nearest 22 = .ok (.ifCond .ne 6, 3) := by decide +kernel
theorem dX4_nearest_25 : decode cX4_nearest 25 = .ok (.bipush (-2), 2) := by decide +kernel
theorem dX4_nearest_27 : decode cX4_nearest 27 = .ok (.ireturn, 1) := by decide +kernel
theorem dX4_nearest_28 : decode cX4_nearest 28 = .ok (.aload_n 0, 1) := by decide +kernel
theorem dX4_nearest_29 : decode cX4_nearest 29 = .ok (.getfield 22, 3) := by decide +kernel
theorem dX4_nearest_32 : decode cX4_nearest 32 = .ok (.aload_n 0, 1) := by decide +kernel
theorem dX4_nearest_33 : decode cX4_nearest 33 = .ok (.getfield 10, 3) := by decide +kernel
theorem dX4_nearest_36 : decode cX4_nearest 36 = .ok (.iload_n 1, 1) := by decide +kernel
theorem dX4_nearest_37 : decode cX4_nearest 37 = .ok (.invokevirtual 100, 3) := by decide +kernel
theorem dX4_nearest_40 : decode cX4_nearest 40 = .ok (.pop, 1) := by decide +kernel
theorem dX4_nearest_41 : decode cX4_nearest 41 = .ok (.aload_n 0, 1) := by decide +kernel
theorem dX4_nearest_42 : decode cX4_nearest 42 = .ok (.getfield 22, 3) := by decide +kernel
theorem dX4_nearest_45 : decode cX4_nearest 45 = .ok (.getfield 104, 3) := by decide +kernel
theorem dX4_nearest_48 : decode cX4_nearest 48 = .ok (.getfield 59, 3) := by decide +kernel
theorem dX4_nearest_51 : decode cX4_nearest 51 = .ok (.iload_n 2, 1) := by decide +kernel
theorem dX4_nearest_52 : decode cX4_nearest 52 = .ok (.iaload, 1) := by decide +kernel
theorem dX4_nearest_53 : decode cX4_nearest 53 = .ok (.ireturn, 1) := by decide +kernel
theorem dX4_nearest_54 : decode cX4_nearest 54 = .ok (.iload_n 2, 1) := by decide +kernel
theorem dX4_nearest_55 : decode cX4_nearest 55 = .ok (.ifCond .eq 6, 3) := by decide +kernel
theorem dX4_nearest_58 : decode cX4_nearest 58 = .ok (.bipush (-2), 2) := by decide +kernel
theorem dX4_nearest_60 : decode cX4_nearest 60 = .ok (.ireturn, 1) := by decide +kernel
theorem dX4_nearest_61 : decode cX4_nearest 61 = .ok (.iload_n 1, 1) := by decide +kernel
theorem dX4_nearest_62 : decode cX4_nearest 62 = .ok (.iconst 4, 1) := by decide +kernel
theorem dX4_nearest_63 : decode cX4_nearest 63 = .ok (.if_icmp .ne 13, 3) := by decide +kernel
theorem dX4_nearest_66 : decode cX4_nearest 66 = .ok (.aload_n 0, 1) := by decide +kernel
theorem dX4_nearest_67 : decode cX4_nearest 67 = .ok (.getfield 29, 3) := by decide +kernel
theorem dX4_nearest_70 : decode cX4_nearest 70 = .ok (.invokevirtual 107, 3) := by decide +kernel
theorem dX4_nearest_73 : decode cX4_nearest 73 = .ok (.goto 10, 3) := by decide +kernel
theorem dX4_nearest_76 : decode cX4_nearest 76 = .ok (.aload_n 0, 1) := by decide +kernel
theorem dX4_nearest_77 : decode cX4_nearest 77 = .ok (.getfield 36, 3) := by decide +kernel
theorem dX4_nearest_80 : decode cX4_nearest 80 = .ok (.invokevirtual 111, 3) := by decide +kernel
theorem dX4_nearest_83 : decode cX4_nearest 83 = .ok (.ireturn, 1) := by decide +kernel
set_option maxRecDepth 20000 in
theorem ggX4_mend_X4_isSubject : GoodIn wsX4_mend wsX4_isSubject := goodIn_r _ [8, 9, 10, 7, 11] (by decide +kernel) (by decide +kernel)
set_option maxRecDepth 20000 in
theorem gX4_mend_X4_isSubject : GoodIn wsX4_mend (va_wsS RX4 91 yX4_isSubject wsX4_isSubject) := goodIn_app (goodIn_of _ (by decide +kernel)) ggX4_mend_X4_isSubject
set_option maxRecDepth 20000 in
theorem ggX4_mend_X4_howFar : GoodIn wsX4_mend wsX4_howFar := goodIn_r _ [15, 2, 1, 3, 4, 16, 17, 7, 18, 9, 10, 11, 19, 20, 21, 22, 23, 24, 25, 26, 27, 28, 29, 30, 31, 32, 33, 34, 35, 36, 37, 38, 39, 40, 41, 42, 43, 44, 45, 46, 47, 48, 49, 50, 51, 52, 53, 54, 55, 56, 57, 58, 59, 60, 61, 62, 63, 64, 65, 66, 67, 68, 69, 70, 71, 72, 73, 74, 75, 76, 77, 78, 79, 80, 81, 82, 83, 84, 85, 86, 87, 88, 89, 90, 91, 92, 93, 94, 95, 96, 97, 98, 99, 100, 101, 102, 103, 104, 105, 106, 107, 108, 109, 110, 111, 112, 113, 114, 115, 116, 117, 118, 119, 120, 127, 128, 129, 130, 131, 132, 133, 134, 135, 137, 138, 136, 139] (by decide +kernel) (by decide +kernel)
set_option maxRecDepth 20000 in
theorem gX4_mend_X4_howFar : GoodIn wsX4_mend (wsV RX4 94 RX4 yX4_howFar wsX4_howFar) := goodIn_app (goodIn_of _ (by decide +kernel)) ggX4_mend_X4_howFar
set_option maxRecDepth 20000 in
theorem ggX4_mend_X4_isRow : GoodIn wsX4_mend wsX4_isRow := goodIn_r _ [18, 9, 10, 7, 11] (by decide +kernel) (by decide +kernel)
set_option maxRecDepth 20000 in
theorem gX4_mend_X4_isRow : GoodIn wsX4_mend (va_wsS RX4 97 yX4_isRow wsX4_isRow) := goodIn_app (goodIn_of _ (by decide +kernel)) ggX4_mend_X4_isRow
set_option maxRecDepth 20000 in
theorem ggX4_mend_X2_become : GoodIn wsX4_mend wsX2_become := goodIn_r _ [29, 30, 31, 137, 138] (by decide +kernel) (by decide +kernel)
set_option maxRecDepth 20000 in
theorem gX4_mend_X2_become : GoodIn wsX4_mend (wsV RX4 114 RX2 yX2_become wsX2_become) := goodIn_app (goodIn_of _ (by decide +kernel)) ggX4_mend_X2_become
set_option maxRecDepth 20000 in
theorem ggX4_mend_X3_closest : GoodIn wsX4_mend wsX3_closest := goodIn_r _ [85, 86, 87, 88, 84, 89, 90, 91, 92, 93, 94, 95, 96, 97, 98, 99, 100, 136] (by decide +kernel) (by decide +kernel)
set_option maxRecDepth 20000 in
theorem gX4_mend_X3_closest : GoodIn wsX4_mend (wsV RX4 107 RX3 yX3_closest wsX3_closest) := goodIn_app (goodIn_of _ (by decide +kernel)) ggX4_mend_X3_closest
set_option maxRecDepth 20000 in
theorem ggX4_mend_X3_parities : GoodIn wsX4_mend wsX3_parities := goodIn_r _ [93, 94, 95, 96, 97, 98, 99, 100] (by decide +kernel) (by decide +kernel)
set_option maxRecDepth 20000 in
theorem gX4_mend_X3_parities : GoodIn wsX4_mend (va_wsS RX4 74 yX3_parities wsX3_parities) := goodIn_app (goodIn_of _ (by decide +kernel)) ggX4_mend_X3_parities
set_option maxRecDepth 20000 in
theorem ggX4_mend_X1_bestColouring : GoodIn wsX4_mend wsX1_bestColouring := goodIn_r _ [106, 107, 108, 109, 105, 110, 111, 112, 113, 114, 115, 116, 117, 118, 119, 95, 96, 97, 98, 99, 100, 139] (by decide +kernel) (by decide +kernel)
set_option maxRecDepth 20000 in
theorem gX4_mend_X1_bestColouring : GoodIn wsX4_mend (wsV RX4 111 RX1 yX1_bestColouring wsX1_bestColouring) := goodIn_app (goodIn_of _ (by decide +kernel)) ggX4_mend_X1_bestColouring
set_option maxRecDepth 20000 in
theorem ggX4_mend_X1_cutLikeLines : GoodIn wsX4_mend wsX1_cutLikeLines := goodIn_r _ [126, 115, 116, 117, 105, 118, 139] (by decide +kernel) (by decide +kernel)
set_option maxRecDepth 20000 in
theorem gX4_mend_X1_cutLikeLines : GoodIn wsX4_mend (wsV RX4 118 RX1 yX1_cutLikeLines wsX1_cutLikeLines) := goodIn_app (goodIn_of _ (by decide +kernel)) ggX4_mend_X1_cutLikeLines
theorem dX4_mend_0 : decode cX4_mend 0 = .ok (.iload_n 1, 1) := by decide +kernel
theorem dX4_mend_1 : decode cX4_mend 1 = .ok (.invokestatic 91, 3) := by decide +kernel
theorem dX4_mend_4 : decode cX4_mend 4 = .ok (.ifCond .ne 6, 3) := by decide +kernel
theorem dX4_mend_7 : decode cX4_mend 7 = .ok (.bipush (-2), 2) := by decide +kernel
theorem dX4_mend_9 : decode cX4_mend 9 = .ok (.ireturn, 1) := by decide +kernel
theorem dX4_mend_10 : decode cX4_mend 10 = .ok (.aload_n 0, 1) := by decide +kernel
theorem dX4_mend_11 : decode cX4_mend 11 = .ok (.iload_n 1, 1) := by decide +kernel
theorem dX4_mend_12 : decode cX4_mend 12 = .ok (.invokevirtual 94, 3) := by decide +kernel
theorem dX4_mend_15 : decode cX4_mend 15 = .ok (.istore_n 2, 1) := by decide +kernel
theorem dX4_mend_16 : decode cX4_mend 16 = .ok (.iload_n 1, 1) := by decide +kernel
theorem dX4_mend_17 : decode cX4_mend 17 = .ok (.invokestatic 97, 3) := by decide +kernel
theorem dX4_mend_20 : decode cX4_mend 20 = .ok (.ifCond .eq 20, 3) := by decide +kernel
theorem dX4_mend_23 : decode cX4_mend 23 = .ok (.aload_n 0, 1) := by decide +kernel
theorem dX4_mend_24 : decode cX4_mend 24 = .ok (.getfield 10, 3) := by decide +kernel
theorem dX4_mend_27 : decode cX4_mend 27 = .ok (.aload_n 0, 1) := by decide +kernel
theorem dX4_mend_28 : decode cX4_mend 28 = .ok (.getfield 22, 3) := by decide +kernel
theorem dX4_mend_31 : decode cX4_mend 31 = .ok (.getfield 104, 3) := by decide +kernel
theorem dX4_mend_34 : decode cX4_mend 34 = .ok (.invokevirtual 114, 3) := by decide +kernel
theorem dX4_mend_37 : decode cX4_mend 37 = .ok (.goto 42, 3) := by decide +kernel
theorem dX4_mend_40 : decode cX4_mend 40 = .ok (.iload_n 1, 1) := by decide +kernel
theorem dX4_mend_41 : decode cX4_mend 41 = .ok (.iconst 4, 1) := by decide +kernel
theorem dX4_mend_42 : decode cX4_mend 42 = .ok (.if_icmp .ne 23, 3) := by decide +kernel
theorem dX4_mend_45 : decode cX4_mend 45 = .ok (.aload_n 0, 1) := by decide +kernel
theorem dX4_mend_46 : decode cX4_mend 46 = .ok (.getfield 29, 3) := by decide +kernel
theorem dX4_mend_49 : decode cX4_mend 49 = .ok (.aload_n 0, 1) := by decide +kernel
theorem dX4_mend_50 : decode cX4_mend 50 = .ok (.getfield 29, 3) := by decide +kernel
theorem dX4_mend_53 : decode cX4_mend 53 = .ok (.invokevirtual 107, 3) := by decide +kernel
theorem dX4_mend_56 : decode cX4_mend 56 = .ok (.invokestatic 74, 3) := by decide +kernel
theorem dX4_mend_59 : decode cX4_mend 59 = .ok (.putfield 77, 3) := by decide +kernel
theorem dX4_mend_62 : decode cX4_mend 62 = .ok (.goto 17, 3) := by decide +kernel
theorem dX4_mend_65 : decode cX4_mend 65 = .ok (.aload_n 0, 1) := by decide +kernel
theorem dX4_mend_66 : decode cX4_mend 66 = .ok (.getfield 36, 3) := by decide +kernel
theorem dX4_mend_69 : decode cX4_mend 69 = .ok (.aload_n 0, 1) := by decide +kernel
theorem dX4_mend_70 : decode cX4_mend 70 = .ok (.getfield 36, 3) := by decide +kernel
theorem dX4_mend_73 : decode cX4_mend 73 = .ok (.invokevirtual 111, 3) := by decide +kernel
theorem dX4_mend_76 : decode cX4_mend 76 = .ok (.invokevirtual 118, 3) := by decide +kernel
theorem dX4_mend_79 : decode cX4_mend 79 = .ok (.iload_n 2, 1) := by decide +kernel
theorem dX4_mend_80 : decode cX4_mend 80 = .ok (.ireturn, 1) := by decide +kernel
set_option maxRecDepth 20000 in
theorem ggX4_pass_X4_isSubject : GoodIn wsX4_pass wsX4_isSubject := goodIn_r _ [5, 6, 7, 4, 8] (by decide +kernel) (by decide +kernel)
set_option maxRecDepth 20000 in
theorem gX4_pass_X4_isSubject : GoodIn wsX4_pass (va_wsS RX4 91 yX4_isSubject wsX4_isSubject) := goodIn_app (goodIn_of _ (by decide +kernel)) ggX4_pass_X4_isSubject
set_option maxRecDepth 20000 in
theorem ggX4_pass_X4_within : GoodIn wsX4_pass wsX4_within := goodIn_r _ [8] (by decide +kernel) (by decide +kernel)
set_option maxRecDepth 20000 in
theorem gX4_pass_X4_within : GoodIn wsX4_pass (va_wsS RX4 44 yX4_within wsX4_within) := goodIn_app (goodIn_of _ (by decide +kernel)) ggX4_pass_X4_within
set_option maxRecDepth 20000 in
theorem ggX4_pass_X4_passing : GoodIn wsX4_pass wsX4_passing := goodIn_r _ [12, 13, 14, 15, 16, 17, 18, 4, 19, 6, 7, 8, 20, 21, 22, 23, 24, 25, 26, 27, 28, 29, 30, 31, 32, 33, 34, 35, 36, 37, 38, 39, 40, 41, 42, 43, 44, 45, 46, 47, 48, 49, 50, 51, 52, 53, 54, 55, 56, 57, 58, 59, 60, 61, 62, 63, 64, 65, 66, 67, 68, 69, 70, 71, 72, 73, 74, 75, 76, 77, 78, 79, 80, 81, 82, 83, 84, 99, 100, 101, 102, 103, 104, 105, 106, 107, 108] (by decide +kernel) (by decide +kernel)
set_option maxRecDepth 20000 in
theorem gX4_pass_X4_passing : GoodIn wsX4_pass (wsV RX4 123 RX4 yX4_passing wsX4_passing) := goodIn_app (goodIn_of _ (by decide +kernel)) ggX4_pass_X4_passing
set_option maxRecDepth 20000 in
theorem ggX4_pass_X4_looks : GoodIn wsX4_pass wsX4_looks := goodIn_r _ [88, 13, 16, 17, 18, 4, 19, 6, 7, 8, 89, 90, 91, 23, 92, 29, 93, 94, 60, 95, 62, 63, 64, 65, 66, 67, 68, 99, 100, 101, 102, 103, 104, 105, 106] (by decide +kernel) (by decide +kernel)
set_option maxRecDepth 20000 in
theorem gX4_pass_X4_looks : GoodIn wsX4_pass (wsV RX4 126 RX4 yX4_looks wsX4_looks) := goodIn_app (goodIn_of _ (by decide +kernel)) ggX4_pass_X4_looks
set_option maxRecDepth 20000 in
theorem ggX4_pass_X4_lowestTerm : GoodIn wsX4_pass wsX4_lowestTerm := goodIn_r _ [98] (by decide +kernel) (by decide +kernel)
set_option maxRecDepth 20000 in
theorem gX4_pass_X4_lowestTerm : GoodIn wsX4_pass (va_wsS RX4 129 yX4_lowestTerm wsX4_lowestTerm) := goodIn_app (goodIn_of _ (by decide +kernel)) ggX4_pass_X4_lowestTerm
theorem dX4_pass_0 : decode cX4_pass 0 = .ok (.iload_n 1, 1) := by decide +kernel
theorem dX4_pass_1 : decode cX4_pass 1 = .ok (.invokestatic 91, 3) := by decide +kernel
theorem dX4_pass_4 : decode cX4_pass 4 = .ok (.ifCond .eq 12, 3) := by decide +kernel
theorem dX4_pass_7 : decode cX4_pass 7 = .ok (.iload_n 2, 1) := by decide +kernel
theorem dX4_pass_8 : decode cX4_pass 8 = .ok (.iconst 0, 1) := by decide +kernel
theorem dX4_pass_9 : decode cX4_pass 9 = .ok (.iconst 1, 1) := by decide +kernel
theorem dX4_pass_10 : decode cX4_pass 10 = .ok (.invokestatic 44, 3) := by decide +kernel
theorem dX4_pass_13 : decode cX4_pass 13 = .ok (.ifCond .ne 7, 3) := by decide +kernel
theorem dX4_pass_16 : decode cX4_pass 16 = .ok (.ldc2_w 121, 3) := by decide +kernel
theorem dX4_pass_19 : decode cX4_pass 19 = .ok (.lreturn, 1) := by decide +kernel
theorem dX4_pass_20 : decode cX4_pass 20 = .ok (.aload_n 0, 1) := by decide +kernel
theorem dX4_pass_21 : decode cX4_pass 21 = .ok (.iload_n 1, 1) := by decide +kernel
theorem dX4_pass_22 : decode cX4_pass 22 = .ok (.invokevirtual 123, 3) := by decide +kernel
theorem dX4_pass_25 : decode cX4_pass 25 = .ok (.aload_n 0, 1) := by decide +kernel
theorem dX4_pass_26 : decode cX4_pass 26 = .ok (.iload_n 1, 1) := by decide +kernel
theorem dX4_pass_27 : decode cX4_pass 27 = .ok (.invokevirtual 126, 3) := by decide +kernel
theorem dX4_pass_30 : decode cX4_pass 30 = .ok (.iload_n 2, 1) := by decide +kernel
theorem dX4_pass_31 : decode cX4_pass 31 = .ok (.invokestatic 129, 3) := by decide +kernel
theorem dX4_pass_34 : decode cX4_pass 34 = .ok (.i2l, 1) := by decide +kernel
theorem dX4_pass_35 : decode cX4_pass 35 = .ok (.lreturn, 1) := by decide +kernel
set_option maxRecDepth 20000 in
theorem ggX4_repeats_X4_isSubject : GoodIn wsX4_repeats wsX4_isSubject := goodIn_r _ [4, 5, 6, 3, 7] (by decide +kernel) (by decide +kernel)
set_option maxRecDepth 20000 in
theorem gX4_repeats_X4_isSubject : GoodIn wsX4_repeats (va_wsS RX4 91 yX4_isSubject wsX4_isSubject) := goodIn_app (goodIn_of _ (by decide +kernel)) ggX4_repeats_X4_isSubject
set_option maxRecDepth 20000 in
theorem ggX4_repeats_X4_within : GoodIn wsX4_repeats wsX4_within := goodIn_r _ [7] (by decide +kernel) (by decide +kernel)
set_option maxRecDepth 20000 in
theorem gX4_repeats_X4_within : GoodIn wsX4_repeats (va_wsS RX4 44 yX4_within wsX4_within) := goodIn_app (goodIn_of _ (by decide +kernel)) ggX4_repeats_X4_within
set_option maxRecDepth 20000 in
theorem ggX4_repeats_X4_passing : GoodIn wsX4_repeats wsX4_passing := goodIn_r _ [11, 12, 13, 14, 15, 16, 17, 3, 18, 5, 6, 7, 19, 20, 21, 22, 23, 24, 25, 26, 27, 28, 29, 30, 31, 32, 33, 34, 35, 36, 37, 38, 39, 40, 41, 42, 43, 44, 45, 46, 47, 48, 49, 50, 51, 52, 53, 54, 55, 56, 57, 58, 59, 60, 61, 62, 63, 64, 65, 66, 67, 68, 69, 70, 71, 72, 73, 74, 75, 76, 77, 78, 79, 80, 81, 82, 83, 95, 96, 97, 98, 99, 100, 101, 102, 103, 104] (by decide +kernel) (by decide +kernel)
set_option maxRecDepth 20000 in
theorem gX4_repeats_X4_passing : GoodIn wsX4_repeats (wsV RX4 123 RX4 yX4_passing wsX4_passing) := goodIn_app (goodIn_of _ (by decide +kernel)) ggX4_repeats_X4_passing
set_option maxRecDepth 20000 in
theorem ggX4_repeats_X4_looks : GoodIn wsX4_repeats wsX4_looks := goodIn_r _ [87, 12, 15, 16, 17, 3, 18, 5, 6, 7, 88, 89, 90, 22, 91, 28, 92, 93, 59, 94, 61, 62, 63, 64, 65, 66, 67, 95, 96, 97, 98, 99, 100, 101, 102] (by decide +kernel) (by decide +kernel)
set_option maxRecDepth 20000 in
theorem gX4_repeats_X4_looks : GoodIn wsX4_repeats (wsV RX4 126 RX4 yX4_looks wsX4_looks) := goodIn_app (goodIn_of _ (by decide +kernel)) ggX4_repeats_X4_looks
theorem dX4_repeats_0 : decode cX4_repeats 0 = .ok (.iload_n 1, 1) := by decide +kernel
theorem dX4_repeats_1 : decode cX4_repeats 1 = .ok (.invokestatic 91, 3) := by decide +kernel
theorem dX4_repeats_4 : decode cX4_repeats 4 = .ok (.ifCond .eq 22, 3) := by decide +kernel
theorem dX4_repeats_7 : decode cX4_repeats 7 = .ok (.iload_n 3, 1) := by decide +kernel
theorem dX4_repeats_8 : decode cX4_repeats 8 = .ok (.iconst 1, 1) := by decide +kernel
theorem dX4_repeats_9 : decode cX4_repeats 9 = .ok (.bipush 100, 2) := by decide +kernel
theorem dX4_repeats_11 : decode cX4_repeats 11 = .ok (.invokestatic 44, 3) := by decide +kernel
theorem dX4_repeats_14 : decode cX4_repeats 14 = .ok (.ifCond .eq 12, 3) := by decide +kernel
theorem dX4_repeats_17 : decode cX4_repeats 17 = .ok (.iload_n 2, 1) := by decide +kernel
theorem dX4_repeats_18 : decode cX4_repeats 18 = .ok (.iconst 1, 1) := by decide +kernel
theorem dX4_repeats_19 : decode cX4_repeats 19 = .ok (.iload_n 3, 1) := by decide +kernel
theorem dX4_repeats_20 : decode cX4_repeats 20 = .ok (.invokestatic 44, 3) := by decide +kernel
theorem dX4_repeats_23 : decode cX4_repeats 23 = .ok (.ifCond .ne 6, 3) := by decide +kernel
theorem dX4_repeats_26 : decode cX4_repeats 26 = .ok (.bipush (-2), 2) := by decide +kernel
theorem dX4_repeats_28 : decode cX4_repeats 28 = .ok (.ireturn, 1) := by decide +kernel
theorem dX4_repeats_29 : decode cX4_repeats 29 = .ok (.aload_n 0, 1) := by decide +kernel
theorem dX4_repeats_30 : decode cX4_repeats 30 = .ok (.iload_n 1, 1) := by decide +kernel
theorem dX4_repeats_31 : decode cX4_repeats 31 = .ok (.invokevirtual 123, 3) := by decide +kernel
theorem dX4_repeats_34 : decode cX4_repeats 34 = .ok (.i2l, 1) := by decide +kernel
theorem dX4_repeats_35 : decode cX4_repeats 35 = .ok (.lstore 4, 2) := by decide +kernel
theorem dX4_repeats_37 : decode cX4_repeats 37 = .ok (.aload_n 0, 1) := by decide +kernel
theorem dX4_repeats_38 : decode cX4_repeats 38 = .ok (.iload_n 1, 1) := by decide +kernel
theorem dX4_repeats_39 : decode cX4_repeats 39 = .ok (.invokevirtual 126, 3) := by decide +kernel
theorem dX4_repeats_42 : decode cX4_repeats 42 = .ok (.i2l, 1) := by decide +kernel
theorem dX4_repeats_43 : decode cX4_repeats 43 = .ok (.lstore 6, 2) := by decide +kernel
theorem dX4_repeats_45 : decode cX4_repeats 45 = .ok (.lconst 1, 1) := by decide +kernel
theorem dX4_repeats_46 : decode cX4_repeats 46 = .ok (.lstore 8, 2) := by decide +kernel
theorem dX4_repeats_48 : decode cX4_repeats 48 = .ok (.lconst 1, 1) := by decide +kernel
theorem dX4_repeats_49 : decode cX4_repeats 49 = .ok (.lstore 10, 2) := by decide +kernel
theorem dX4_repeats_51 : decode cX4_repeats 51 = .ok (.iconst 1, 1) := by decide +kernel
theorem dX4_repeats_52 : decode cX4_repeats 52 = .ok (.istore 12, 2) := by decide +kernel
theorem dX4_repeats_54 : decode cX4_repeats 54 = .ok (.iload 12, 2) := by decide +kernel
theorem dX4_repeats_56 : decode cX4_repeats 56 = .ok (.bipush 9, 2) := by decide +kernel
theorem dX4_repeats_58 : decode cX4_repeats 58 = .ok (.if_icmp .gt 43, 3) := by decide +kernel
theorem dX4_repeats_61 : decode cX4_repeats 61 = .ok (.lload 8, 2) := by decide +kernel
theorem dX4_repeats_63 : decode cX4_repeats 63 = .ok (.lload 4, 2) := by decide +kernel
theorem dX4_repeats_65 : decode cX4_repeats 65 = .ok (.lmul, 1) := by decide +kernel
theorem dX4_repeats_66 : decode cX4_repeats 66 = .ok (.lstore 8, 2) := by decide +kernel
theorem dX4_repeats_68 : decode cX4_repeats 68 = .ok (.lload 10, 2) := by decide +kernel
theorem dX4_repeats_70 : decode cX4_repeats 70 = .ok (.lload 6, 2) := by decide +kernel
theorem dX4_repeats_72 : decode cX4_repeats 72 = .ok (.lmul, 1) := by decide +kernel
theorem dX4_repeats_73 : decode cX4_repeats 73 = .ok (.lstore 10, 2) := by decide +kernel
theorem dX4_repeats_75 : decode cX4_repeats 75 = .ok (.lload 10, 2) := by decide +kernel
theorem dX4_repeats_77 : decode cX4_repeats 77 = .ok (.lload 8, 2) := by decide +kernel
theorem dX4_repeats_79 : decode cX4_repeats 79 = .ok (.lsub, 1) := by decide +kernel
theorem dX4_repeats_80 : decode cX4_repeats 80 = .ok (.iload_n 3, 1) := by decide +kernel
theorem dX4_repeats_81 : decode cX4_repeats 81 = .ok (.i2l, 1) := by decide +kernel
theorem dX4_repeats_82 : decode cX4_repeats 82 = .ok (.lmul, 1) := by decide +kernel
theorem dX4_repeats_83 : decode cX4_repeats 83 = .ok (.lload 10, 2) := by decide +kernel
theorem dX4_repeats_85 : decode cX4_repeats 85 = .ok (.iload_n 2, 1) := by decide +kernel
theorem dX4_repeats_86 : decode cX4_repeats 86 = .ok (.i2l, 1) := by decide +kernel
theorem dX4_repeats_87 : decode cX4_repeats 87 = .ok (.lmul, 1) := by decide +kernel
theorem dX4_repeats_88 : decode cX4_repeats 88 = .ok (.lcmp, 1) := by decide +kernel
theorem dX4_repeats_89 : decode cX4_repeats 89 = .ok (.ifCond .lt 6, 3) := by decide +kernel
theorem dX4_repeats_92 : decode cX4_repeats 92 = .ok (.iload 12, 2) := by decide +kernel
theorem dX4_repeats_94 : decode cX4_repeats 94 = .ok (.ireturn, 1) := by decide +kernel
theorem dX4_repeats_95 : decode cX4_repeats 95 = .ok (.iinc 12 1, 3) := by decide +kernel
theorem dX4_repeats_98 : decode cX4_repeats 98 = .ok (.goto (-44), 3) := by decide +kernel
theorem dX4_repeats_101 : decode cX4_repeats 101 = .ok (.iconst (-1), 1) := by decide +kernel
theorem dX4_repeats_102 : decode cX4_repeats 102 = .ok (.ireturn, 1) := by decide +kernel
set_option maxRecDepth 20000 in
theorem ggX4_worst_X4_isRow : GoodIn wsX4_worst wsX4_isRow := goodIn_r _ [6, 7, 8, 5, 9] (by decide +kernel) (by decide +kernel)
set_option maxRecDepth 20000 in
theorem gX4_worst_X4_isRow : GoodIn wsX4_worst (va_wsS RX4 97 yX4_isRow wsX4_isRow) := goodIn_app (goodIn_of _ (by decide +kernel)) ggX4_worst_X4_isRow
set_option maxRecDepth 20000 in
theorem ggX4_worst_X4_within : GoodIn wsX4_worst wsX4_within := goodIn_r _ [9] (by decide +kernel) (by decide +kernel)
set_option maxRecDepth 20000 in
theorem gX4_worst_X4_within : GoodIn wsX4_worst (va_wsS RX4 44 yX4_within wsX4_within) := goodIn_app (goodIn_of _ (by decide +kernel)) ggX4_worst_X4_within
set_option maxRecDepth 20000 in
theorem ggX4_worst_X4_worstCode : GoodIn wsX4_worst wsX4_worstCode := goodIn_r _ [13, 1, 2, 14, 15, 16, 17, 18, 19, 20, 21, 22, 23, 24, 25, 26, 27, 28, 29, 30, 31, 32, 33, 34, 35, 36, 37, 38, 39, 40, 41, 42, 43, 44, 45, 46, 47, 48, 49, 50, 51, 52, 53, 54, 55, 56, 57, 58, 59, 60, 61, 62, 63, 64, 65, 66, 67, 68, 69, 70, 71, 72, 73, 74, 75, 76, 77, 78, 79, 80, 81, 82, 83, 84, 85, 86, 87, 88, 89, 90, 91, 92, 93, 94, 95, 96, 97, 105, 106, 107, 108, 109, 110, 111, 112, 113, 114, 115] (by decide +kernel) (by decide +kernel)
set_option maxRecDepth 20000 in
theorem gX4_worst_X4_worstCode : GoodIn wsX4_worst (wsV RX4 133 RX4 yX4_worstCode wsX4_worstCode) := goodIn_app (goodIn_of _ (by decide +kernel)) ggX4_worst_X4_worstCode
set_option maxRecDepth 20000 in
theorem ggX4_worst_X2_spell : GoodIn wsX4_worst wsX2_spell := goodIn_r _ [19, 20, 21, 111, 112] (by decide +kernel) (by decide +kernel)
set_option maxRecDepth 20000 in
theorem gX4_worst_X2_spell : GoodIn wsX4_worst (wsV RX4 136 RX2 yX2_spell wsX2_spell) := goodIn_app (goodIn_of _ (by decide +kernel)) ggX4_worst_X2_spell
set_option maxRecDepth 20000 in
theorem ggX4_worst_X2_passing : GoodIn wsX4_worst wsX2_passing := goodIn_r _ [25, 26, 27, 28, 18, 29, 20, 21, 30, 31, 32, 33, 34, 35, 36, 37, 38, 39, 40, 41, 111, 112] (by decide +kernel) (by decide +kernel)
set_option maxRecDepth 20000 in
theorem gX4_worst_X2_passing : GoodIn wsX4_worst (wsV RX4 139 RX2 yX2_passing wsX2_passing) := goodIn_app (goodIn_of _ (by decide +kernel)) ggX4_worst_X2_passing
set_option maxRecDepth 20000 in
theorem ggX4_worst_X2_looks : GoodIn wsX4_worst wsX2_looks := goodIn_r _ [101, 20, 111, 112] (by decide +kernel) (by decide +kernel)
set_option maxRecDepth 20000 in
theorem gX4_worst_X2_looks : GoodIn wsX4_worst (wsV RX4 140 RX2 yX2_looks wsX2_looks) := goodIn_app (goodIn_of _ (by decide +kernel)) ggX4_worst_X2_looks
set_option maxRecDepth 20000 in
theorem ggX4_worst_X4_lowestTerm : GoodIn wsX4_worst wsX4_lowestTerm := goodIn_r _ [104] (by decide +kernel) (by decide +kernel)
set_option maxRecDepth 20000 in
theorem gX4_worst_X4_lowestTerm : GoodIn wsX4_worst (va_wsS RX4 129 yX4_lowestTerm wsX4_lowestTerm) := goodIn_app (goodIn_of _ (by decide +kernel)) ggX4_worst_X4_lowestTerm
theorem dX4_worst_0 : decode cX4_worst 0 = .ok (.iload_n 1, 1) := by decide +kernel
theorem dX4_worst_1 : decode cX4_worst 1 = .ok (.invokestatic 97, 3) := by decide +kernel
theorem dX4_worst_4 : decode cX4_worst 4 = .ok (.ifCond .eq 23, 3) := by decide +kernel
theorem dX4_worst_7 : decode cX4_worst 7 = .ok (.iload_n 2, 1) := by decide +kernel
theorem dX4_worst_8 : decode cX4_worst 8 = .ok (.iconst 0, 1) := by decide +kernel
theorem dX4_worst_9 : decode cX4_worst 9 = .ok (.bipush 8, 2) := by decide +kernel
theorem dX4_worst_11 : decode cX4_worst 11 = .ok (.invokestatic 44, 3) := by decide +kernel
theorem dX4_worst_14 : decode cX4_worst 14 = .ok (.ifCond .eq 13, 3) := by decide +kernel
theorem dX4_worst_17 : decode cX4_worst 17 = .ok (.iload 4, 2) := by decide +kernel
theorem dX4_worst_19 : decode cX4_worst 19 = .ok (.iconst 0, 1) := by decide +kernel
theorem dX4_worst_20 : decode cX4_worst 20 = .ok (.iconst 2, 1) := by decide +kernel
theorem dX4_worst_21 : decode cX4_worst 21 = .ok (.invokestatic 44, 3) := by decide +kernel
theorem dX4_worst_24 : decode cX4_worst 24 = .ok (.ifCond .ne 6, 3) := by decide +kernel
theorem dX4_worst_27 : decode cX4_worst 27 = .ok (.bipush (-2), 2) := by decide +kernel
theorem dX4_worst_29 : decode cX4_worst 29 = .ok (.ireturn, 1) := by decide +kernel
theorem dX4_worst_30 : decode cX4_worst 30 = .ok (.iload_n 3, 1) := by decide +kernel
theorem dX4_worst_31 : decode cX4_worst 31 = .ok (.iconst 0, 1) := by decide +kernel
theorem dX4_worst_32 : decode cX4_worst 32 = .ok (.iload 4, 2) := by decide +kernel
theorem dX4_worst_34 : decode cX4_worst 34 = .ok (.ifCond .ne 15, 3) := by decide +kernel
theorem dX4_worst_37 : decode cX4_worst 37 = .ok (.aload_n 0, 1) := by decide +kernel
theorem dX4_worst_38 : decode cX4_worst 38 = .ok (.getfield 10, 3) := by decide +kernel
theorem dX4_worst_41 : decode cX4_worst 41 = .ok (.getfield 48, 3) := by decide +kernel
theorem dX4_worst_44 : decode cX4_worst 44 = .ok (.iconst 1, 1) := by decide +kernel
theorem dX4_worst_45 : decode cX4_worst 45 = .ok (.isub, 1) := by decide +kernel
theorem dX4_worst_46 : decode cX4_worst 46 = .ok (.goto 4, 3) := by decide +kernel
theorem dX4_worst_49 : decode cX4_worst 49 = .ok (.iconst 0, 1) := by decide +kernel
theorem dX4_worst_50 : decode cX4_worst 50 = .ok (.invokestatic 44, 3) := by decide +kernel
theorem dX4_worst_53 : decode cX4_worst 53 = .ok (.ifCond .ne 6, 3) := by decide +kernel
theorem dX4_worst_56 : decode cX4_worst 56 = .ok (.bipush (-2), 2) := by decide +kernel
theorem dX4_worst_58 : decode cX4_worst 58 = .ok (.ireturn, 1) := by decide +kernel
theorem dX4_worst_59 : decode cX4_worst 59 = .ok (.aload_n 0, 1) := by decide +kernel
theorem dX4_worst_60 : decode cX4_worst 60 = .ok (.iload_n 1, 1) := by decide +kernel
theorem dX4_worst_61 : decode cX4_worst 61 = .ok (.iload_n 2, 1) := by decide +kernel
theorem dX4_worst_62 : decode cX4_worst 62 = .ok (.invokevirtual 133, 3) := by decide +kernel
theorem dX4_worst_65 : decode cX4_worst 65 = .ok (.istore 5, 2) := by decide +kernel
theorem dX4_worst_67 : decode cX4_worst 67 = .ok (.iload 5, 2) := by decide +kernel
theorem dX4_worst_69 : decode cX4_worst 69 = .ok (.iconst (-1), 1) := by decide +kernel
theorem dX4_worst_70 : decode cX4_worst 70 = .ok (.if_icmp .ne 5, 3) := by decide +kernel
theorem dX4_worst_73 : decode cX4_worst 73 = .ok (.iconst (-1), 1) := by decide +kernel
theorem dX4_worst_74 : decode cX4_worst 74 = .ok (.ireturn, 1) := by decide +kernel
theorem dX4_worst_75 : decode cX4_worst 75 = .ok (.aload_n 0, 1) := by decide +kernel
theorem dX4_worst_76 : decode cX4_worst 76 = .ok (.getfield 16, 3) := by decide +kernel
theorem dX4_worst_79 : decode cX4_worst 79 = .ok (.iload 5, 2) := by decide +kernel
theorem dX4_worst_81 : decode cX4_worst 81 = .ok (.aload_n 0, 1) := by decide +kernel
theorem dX4_worst_82 : decode cX4_worst 82 = .ok (.getfield 10, 3) := by decide +kernel
theorem dX4_worst_85 : decode cX4_worst 85 = .ok (.getfield 48, 3) := by decide +kernel
theorem dX4_worst_88 : decode cX4_worst 88 = .ok (.invokevirtual 136, 3) := by decide +kernel
theorem dX4_worst_91 : decode cX4_worst 91 = .ok (.iload 4, 2) := by decide +kernel
theorem dX4_worst_93 : decode cX4_worst 93 = .ok (.ifCond .ne 13, 3) := by decide +kernel
theorem dX4_worst_96 : decode cX4_worst 96 = .ok (.aload_n 0, 1) := by decide +kernel
theorem dX4_worst_97 : decode cX4_worst 97 = .ok (.getfield 16, 3) := by decide +kernel
theorem dX4_worst_100 : decode cX4_worst 100 = .ok (.getfield 59, 3) := by decide +kernel
theorem dX4_worst_103 : decode cX4_worst 103 = .ok (.iload_n 3, 1) := by decide +kernel
theorem dX4_worst_104 : decode cX4_worst 104 = .ok (.iaload, 1) := by decide +kernel
theorem dX4_worst_105 : decode cX4_worst 105 = .ok (.ireturn, 1) := by decide +kernel
theorem dX4_worst_106 : decode cX4_worst 106 = .ok (.aload_n 0, 1) := by decide +kernel
theorem dX4_worst_107 : decode cX4_worst 107 = .ok (.getfield 16, 3) := by decide +kernel
theorem dX4_worst_110 : decode cX4_worst 110 = .ok (.iload_n 1, 1) := by decide +kernel
theorem dX4_worst_111 : decode cX4_worst 111 = .ok (.invokevirtual 139, 3) := by decide +kernel
theorem dX4_worst_114 : decode cX4_worst 114 = .ok (.aload_n 0, 1) := by decide +kernel
theorem dX4_worst_115 : decode cX4_worst 115 = .ok (.getfield 16, 3) := by decide +kernel
theorem dX4_worst_118 : decode cX4_worst 118 = .ok (.iload_n 1, 1) := by decide +kernel
theorem dX4_worst_119 : decode cX4_worst 119 = .ok (.invokevirtual 140, 3) := by decide +kernel
theorem dX4_worst_122 : decode cX4_worst 122 = .ok (.iload 4, 2) := by decide +kernel
theorem dX4_worst_124 : decode cX4_worst 124 = .ok (.iconst 1, 1) := by decide +kernel
theorem dX4_worst_125 : decode cX4_worst 125 = .ok (.isub, 1) := by decide +kernel
theorem dX4_worst_126 : decode cX4_worst 126 = .ok (.invokestatic 129, 3) := by decide +kernel
theorem dX4_worst_129 : decode cX4_worst 129 = .ok (.ireturn, 1) := by decide +kernel
set_option maxRecDepth 20000 in
theorem ggX4_mended_X4_isEntry : GoodIn wsX4_mended wsX4_isEntry := goodIn_r _ [5, 6, 7, 4, 8] (by decide +kernel) (by decide +kernel)
set_option maxRecDepth 20000 in
theorem gX4_mended_X4_isEntry : GoodIn wsX4_mended (va_wsS RX4 63 yX4_isEntry wsX4_isEntry) := goodIn_app (goodIn_of _ (by decide +kernel)) ggX4_mended_X4_isEntry
set_option maxRecDepth 20000 in
theorem ggX4_mended_X4_within : GoodIn wsX4_mended wsX4_within := goodIn_r _ [8] (by decide +kernel) (by decide +kernel)
set_option maxRecDepth 20000 in
theorem gX4_mended_X4_within : GoodIn wsX4_mended (va_wsS RX4 44 yX4_within wsX4_within) := goodIn_app (goodIn_of _ (by decide +kernel)) ggX4_mended_X4_within
set_option maxRecDepth 20000 in
theorem ggX4_mended_X3_tellers : GoodIn wsX4_mended wsX3_tellers := goodIn_r _ [13, 14, 15, 16, 12, 17, 18, 25] (by decide +kernel) (by decide +kernel)
set_option maxRecDepth 20000 in
theorem gX4_mended_X3_tellers : GoodIn wsX4_mended (wsV RX4 141 RX3 yX3_tellers wsX3_tellers) := goodIn_app (goodIn_of _ (by decide +kernel)) ggX4_mended_X3_tellers
theorem dX4_mended_0 : decode cX4_mended 0 = .ok (.iload_n 1, 1) := by decide +kernel
theorem dX4_mended_1 : decode cX4_mended 1 = .ok (.invokestatic 63, 3) := by decide +kernel
theorem dX4_mended_4 : decode cX4_mended 4 = .ok (.ifCond .eq 12, 3) := by decide +kernel
theorem dX4_mended_7 : decode cX4_mended 7 = .ok (.iload_n 2, 1) := by decide +kernel
theorem dX4_mended_8 : decode cX4_mended 8 = .ok (.iconst 0, 1) := by decide +kernel
theorem dX4_mended_9 : decode cX4_mended 9 = .ok (.iconst 1, 1) := by decide +kernel
theorem dX4_mended_10 : decode cX4_mended 10 = .ok (.invokestatic 44, 3) := by decide +kernel
theorem dX4_mended_13 : decode cX4_mended 13 = .ok (.ifCond .ne 6, 3) := by decide +kernel
theorem dX4_mended_16 : decode cX4_mended 16 = .ok (.bipush (-2), 2) := by decide +kernel
theorem dX4_mended_18 : decode cX4_mended 18 = .ok (.ireturn, 1) := by decide +kernel
theorem dX4_mended_19 : decode cX4_mended 19 = .ok (.aload_n 0, 1) := by decide +kernel
theorem dX4_mended_20 : decode cX4_mended 20 = .ok (.getfield 29, 3) := by decide +kernel
theorem dX4_mended_23 : decode cX4_mended 23 = .ok (.iload_n 1, 1) := by decide +kernel
theorem dX4_mended_24 : decode cX4_mended 24 = .ok (.iload_n 2, 1) := by decide +kernel
theorem dX4_mended_25 : decode cX4_mended 25 = .ok (.invokevirtual 141, 3) := by decide +kernel
theorem dX4_mended_28 : decode cX4_mended 28 = .ok (.ireturn, 1) := by decide +kernel
set_option maxRecDepth 20000 in
theorem ggX4_shows_X4_isLook : GoodIn wsX4_shows wsX4_isLook := goodIn_r _ [5, 6, 7, 8, 9, 4, 10, 11, 12, 13, 14, 15, 16, 17, 18, 19, 20, 21, 22, 23, 24, 59, 60, 61, 62, 63, 64, 65, 66] (by decide +kernel) (by decide +kernel)
set_option maxRecDepth 20000 in
theorem gX4_shows_X4_isLook : GoodIn wsX4_shows (wsV RX4 144 RX4 yX4_isLook wsX4_isLook) := goodIn_app (goodIn_of _ (by decide +kernel)) ggX4_shows_X4_isLook
set_option maxRecDepth 20000 in
theorem ggX4_shows_X4_fails : GoodIn wsX4_shows wsX4_fails := goodIn_r _ [28, 11, 29, 30, 31, 32, 33, 34, 35, 36, 37, 38, 39, 40, 41, 42, 43, 44, 45, 46, 47, 48, 49, 50, 51, 52, 53, 54, 55, 56, 57, 58, 19, 20, 21, 22, 23, 24, 59, 60, 61, 62, 63, 64, 65, 66, 67, 68] (by decide +kernel) (by decide +kernel)
set_option maxRecDepth 20000 in
theorem gX4_shows_X4_fails : GoodIn wsX4_shows (wsV RX4 147 RX4 yX4_fails wsX4_fails) := goodIn_app (goodIn_of _ (by decide +kernel)) ggX4_shows_X4_fails
theorem dX4_shows_0 : decode cX4_shows 0 = .ok (.aload_n 0, 1) := by decide +kernel
theorem dX4_shows_1 : decode cX4_shows 1 = .ok (.iload_n 1, 1) := by decide +kernel
theorem dX4_shows_2 : decode cX4_shows 2 = .ok (.iload_n 2, 1) := by decide +kernel
theorem dX4_shows_3 : decode cX4_shows 3 = .ok (.iload_n 3, 1) := by decide +kernel
theorem dX4_shows_4 : decode cX4_shows 4 = .ok (.invokevirtual 144, 3) := by decide +kernel
theorem dX4_shows_7 : decode cX4_shows 7 = .ok (.ifCond .ne 6, 3) := by decide +kernel
theorem dX4_shows_10 : decode cX4_shows 10 = .ok (.bipush (-2), 2) := by decide +kernel
theorem dX4_shows_12 : decode cX4_shows 12 = .ok (.ireturn, 1) := by decide +kernel
theorem dX4_shows_13 : decode cX4_shows 13 = .ok (.aload_n 0, 1) := by decide +kernel
theorem dX4_shows_14 : decode cX4_shows 14 = .ok (.iload_n 1, 1) := by decide +kernel
theorem dX4_shows_15 : decode cX4_shows 15 = .ok (.iload_n 2, 1) := by decide +kernel
theorem dX4_shows_16 : decode cX4_shows 16 = .ok (.iload_n 3, 1) := by decide +kernel
theorem dX4_shows_17 : decode cX4_shows 17 = .ok (.invokevirtual 147, 3) := by decide +kernel
theorem dX4_shows_20 : decode cX4_shows 20 = .ok (.ifCond .eq 7, 3) := by decide +kernel
theorem dX4_shows_23 : decode cX4_shows 23 = .ok (.iconst 1, 1) := by decide +kernel
theorem dX4_shows_24 : decode cX4_shows 24 = .ok (.goto 4, 3) := by decide +kernel
theorem dX4_shows_27 : decode cX4_shows 27 = .ok (.iconst 0, 1) := by decide +kernel
theorem dX4_shows_28 : decode cX4_shows 28 = .ok (.ireturn, 1) := by decide +kernel
set_option maxRecDepth 20000 in
theorem ggX4_witness_X4_firstFailingSet : GoodIn wsX4_witness wsX4_firstFailingSet := goodIn_r _ [5, 6, 7, 8, 4, 9, 10, 11, 12, 13, 14, 15, 16, 17, 18, 19, 20, 21, 22, 23, 24, 25, 26, 27, 28, 29, 30, 31, 32, 33, 34, 35, 36, 37, 38, 39, 40, 41, 42, 43, 44, 45, 46, 47, 48, 49, 50, 51, 52, 53, 54, 55, 56, 57, 58, 59, 60, 61, 62, 67, 68, 69, 70, 71, 72, 73, 74, 75, 76] (by decide +kernel) (by decide +kernel)
set_option maxRecDepth 20000 in
theorem gX4_witness_X4_firstFailingSet : GoodIn wsX4_witness (wsV RX4 150 RX4 yX4_firstFailingSet wsX4_firstFailingSet) := goodIn_app (goodIn_of _ (by decide +kernel)) ggX4_witness_X4_firstFailingSet
set_option maxRecDepth 20000 in
theorem ggX4_witness_X4_firstFailingPair : GoodIn wsX4_witness wsX4_firstFailingPair := goodIn_r _ [66, 6, 7, 8, 4, 9, 10, 11, 12, 13, 14, 15, 16, 17, 18, 19, 20, 21, 22, 23, 24, 25, 26, 27, 28, 29, 30, 31, 32, 33, 34, 35, 36, 37, 38, 39, 40, 41, 42, 43, 44, 45, 46, 47, 48, 49, 50, 51, 52, 53, 54, 55, 56, 57, 58, 59, 60, 61, 62, 67, 68, 69, 70, 71, 72, 73, 74, 75, 76] (by decide +kernel) (by decide +kernel)
set_option maxRecDepth 20000 in
theorem gX4_witness_X4_firstFailingPair : GoodIn wsX4_witness (wsV RX4 153 RX4 yX4_firstFailingPair wsX4_firstFailingPair) := goodIn_app (goodIn_of _ (by decide +kernel)) ggX4_witness_X4_firstFailingPair
theorem dX4_witness_0 : decode cX4_witness 0 = .ok (.iload_n 1, 1) := by decide +kernel
theorem dX4_witness_1 : decode cX4_witness 1 = .ok (.iconst 5, 1) := by decide +kernel
theorem dX4_witness_2 : decode cX4_witness 2 = .ok (.if_icmp .ne 8, 3) := by decide +kernel
theorem dX4_witness_5 : decode cX4_witness 5 = .ok (.aload_n 0, 1) := by decide +kernel
theorem dX4_witness_6 : decode cX4_witness 6 = .ok (.invokevirtual 150, 3) := by decide +kernel
theorem dX4_witness_9 : decode cX4_witness 9 = .ok (.ireturn, 1) := by decide +kernel
theorem dX4_witness_10 : decode cX4_witness 10 = .ok (.iload_n 1, 1) := by decide +kernel
theorem dX4_witness_11 : decode cX4_witness 11 = .ok (.ifCond .eq 8, 3) := by decide +kernel
theorem dX4_witness_14 : decode cX4_witness 14 = .ok (.iload_n 1, 1) := by decide +kernel
theorem dX4_witness_15 : decode cX4_witness 15 = .ok (.iconst 4, 1) := by decide +kernel
theorem dX4_witness_16 : decode cX4_witness 16 = .ok (.if_icmp .ne 9, 3) := by decide +kernel
theorem dX4_witness_19 : decode cX4_witness 19 = .ok (.aload_n 0, 1) := by decide +kernel
theorem dX4_witness_20 : decode cX4_witness 20 = .ok (.iload_n 1, 1) := by decide +kernel
theorem dX4_witness_21 : decode cX4_witness 21 = .ok (.invokevirtual 153, 3) := by decide +kernel
theorem dX4_witness_24 : decode cX4_witness 24 = .ok (.ireturn, 1) := by decide +kernel
theorem dX4_witness_25 : decode cX4_witness 25 = .ok (.bipush (-2), 2) := by decide +kernel
theorem dX4_witness_27 : decode cX4_witness 27 = .ok (.ireturn, 1) := by decide +kernel
set_option maxRecDepth 20000 in
theorem ggX4_count_X1_lines : GoodIn wsX4_count wsX1_lines := goodIn_r _ [9, 10, 11, 12, 8, 13, 14, 15, 16, 17, 18, 19, 20, 21, 22, 23, 24, 42] (by decide +kernel) (by decide +kernel)
set_option maxRecDepth 20000 in
theorem gX4_count_X1_lines : GoodIn wsX4_count (wsV RX4 156 RX1 yX1_lines wsX1_lines) := goodIn_app (goodIn_of _ (by decide +kernel)) ggX4_count_X1_lines
set_option maxRecDepth 20000 in
theorem ggX4_count_J6_bitCount_0f7a4 : GoodIn wsX4_count wsJ6_bitCount_0f7a4 := goodIn_r _ [21, 22, 23, 24] (by decide +kernel) (by decide +kernel)
set_option maxRecDepth 20000 in
theorem gX4_count_J6_bitCount_0f7a4 : GoodIn wsX4_count (va_wsS RX4 159 yJ6_bitCount_0f7a4 wsJ6_bitCount_0f7a4) := goodIn_app (goodIn_of _ (by decide +kernel)) ggX4_count_J6_bitCount_0f7a4
set_option maxRecDepth 20000 in
theorem ggX4_count_X2_total : GoodIn wsX4_count wsX2_total := goodIn_r _ [30, 31, 32, 39, 40] (by decide +kernel) (by decide +kernel)
set_option maxRecDepth 20000 in
theorem gX4_count_X2_total : GoodIn wsX4_count (wsV RX4 164 RX2 yX2_total wsX2_total) := goodIn_app (goodIn_of _ (by decide +kernel)) ggX4_count_X2_total
theorem dX4_count_0 : decode cX4_count 0 = .ok (.iload_n 1, 1) := by decide +kernel
theorem dX4_count_1 : decode cX4_count 1 = .ok (.tableswitch 75 0 4 #[35, 43, 48, 56, 67], 35) := by decide +kernel
theorem dX4_count_36 : decode cX4_count 36 = .ok (.aload_n 0, 1) := by decide +kernel
theorem dX4_count_37 : decode cX4_count 37 = .ok (.getfield 10, 3) := by decide +kernel
theorem dX4_count_40 : decode cX4_count 40 = .ok (.getfield 48, 3) := by decide +kernel
theorem dX4_count_43 : decode cX4_count 43 = .ok (.ireturn, 1) := by decide +kernel
theorem dX4_count_44 : decode cX4_count 44 = .ok (.aload_n 0, 1) := by decide +kernel
theorem dX4_count_45 : decode cX4_count 45 = .ok (.getfield 40, 3) := by decide +kernel
theorem dX4_count_48 : decode cX4_count 48 = .ok (.ireturn, 1) := by decide +kernel
theorem dX4_count_49 : decode cX4_count 49 = .ok (.aload_n 0, 1) := by decide +kernel
theorem dX4_count_50 : decode cX4_count 50 = .ok (.getfield 36, 3) := by decide +kernel
theorem dX4_count_53 : decode cX4_count 53 = .ok (.invokevirtual 156, 3) := by decide +kernel
theorem dX4_count_56 : decode cX4_count 56 = .ok (.ireturn, 1) := by decide +kernel
theorem dX4_count_57 : decode cX4_count 57 = .ok (.aload_n 0, 1) := by decide +kernel
theorem dX4_count_58 : decode cX4_count 58 = .ok (.getfield 29, 3) := by decide +kernel
theorem dX4_count_61 : decode cX4_count 61 = .ok (.getfield 77, 3) := by decide +kernel
theorem dX4_count_64 : decode cX4_count 64 = .ok (.invokestatic 159, 3) := by decide +kernel
theorem dX4_count_67 : decode cX4_count 67 = .ok (.ireturn, 1) := by decide +kernel
theorem dX4_count_68 : decode cX4_count 68 = .ok (.aload_n 0, 1) := by decide +kernel
theorem dX4_count_69 : decode cX4_count 69 = .ok (.getfield 10, 3) := by decide +kernel
theorem dX4_count_72 : decode cX4_count 72 = .ok (.invokevirtual 164, 3) := by decide +kernel
theorem dX4_count_75 : decode cX4_count 75 = .ok (.ireturn, 1) := by decide +kernel
theorem dX4_count_76 : decode cX4_count 76 = .ok (.bipush (-2), 2) := by decide +kernel
theorem dX4_count_78 : decode cX4_count 78 = .ok (.ireturn, 1) := by decide +kernel
theorem dX4_within_0 : decode cX4_within 0 = .ok (.iload_n 0, 1) := by decide +kernel
theorem dX4_within_1 : decode cX4_within 1 = .ok (.iload_n 1, 1) := by decide +kernel
theorem dX4_within_2 : decode cX4_within 2 = .ok (.if_icmp .lt 12, 3) := by decide +kernel
theorem dX4_within_5 : decode cX4_within 5 = .ok (.iload_n 0, 1) := by decide +kernel
theorem dX4_within_6 : decode cX4_within 6 = .ok (.iload_n 2, 1) := by decide +kernel
theorem dX4_within_7 : decode cX4_within 7 = .ok (.if_icmp .gt 7, 3) := by decide +kernel
theorem dX4_within_10 : decode cX4_within 10 = .ok (.iconst 1, 1) := by decide +kernel
theorem dX4_within_11 : decode cX4_within 11 = .ok (.goto 4, 3) := by decide +kernel
theorem dX4_within_14 : decode cX4_within 14 = .ok (.iconst 0, 1) := by decide +kernel
theorem dX4_within_15 : decode cX4_within 15 = .ok (.ireturn, 1) := by decide +kernel
set_option maxRecDepth 20000 in
theorem ggX4_isSubject_X4_within : GoodIn wsX4_isSubject wsX4_within := goodIn_r _ [4] (by decide +kernel) (by decide +kernel)
set_option maxRecDepth 20000 in
theorem gX4_isSubject_X4_within : GoodIn wsX4_isSubject (va_wsS RX4 44 yX4_within wsX4_within) := goodIn_app (goodIn_of _ (by decide +kernel)) ggX4_isSubject_X4_within
theorem dX4_isSubject_0 : decode cX4_isSubject 0 = .ok (.iload_n 0, 1) := by decide +kernel
theorem dX4_isSubject_1 : decode cX4_isSubject 1 = .ok (.iconst 0, 1) := by decide +kernel
theorem dX4_isSubject_2 : decode cX4_isSubject 2 = .ok (.iconst 5, 1) := by decide +kernel
theorem dX4_isSubject_3 : decode cX4_isSubject 3 = .ok (.invokestatic 44, 3) := by decide +kernel
theorem dX4_isSubject_6 : decode cX4_isSubject 6 = .ok (.ireturn, 1) := by decide +kernel
set_option maxRecDepth 20000 in
theorem ggX4_isRow_X4_within : GoodIn wsX4_isRow wsX4_within := goodIn_r _ [4] (by decide +kernel) (by decide +kernel)
set_option maxRecDepth 20000 in
theorem gX4_isRow_X4_within : GoodIn wsX4_isRow (va_wsS RX4 44 yX4_within wsX4_within) := goodIn_app (goodIn_of _ (by decide +kernel)) ggX4_isRow_X4_within
theorem dX4_isRow_0 : decode cX4_isRow 0 = .ok (.iload_n 0, 1) := by decide +kernel
theorem dX4_isRow_1 : decode cX4_isRow 1 = .ok (.iconst 0, 1) := by decide +kernel
theorem dX4_isRow_2 : decode cX4_isRow 2 = .ok (.iconst 3, 1) := by decide +kernel
theorem dX4_isRow_3 : decode cX4_isRow 3 = .ok (.invokestatic 44, 3) := by decide +kernel
theorem dX4_isRow_6 : decode cX4_isRow 6 = .ok (.ireturn, 1) := by decide +kernel
set_option maxRecDepth 20000 in
theorem ggX4_isEntry_X4_within : GoodIn wsX4_isEntry wsX4_within := goodIn_r _ [4] (by decide +kernel) (by decide +kernel)
set_option maxRecDepth 20000 in
theorem gX4_isEntry_X4_within : GoodIn wsX4_isEntry (va_wsS RX4 44 yX4_within wsX4_within) := goodIn_app (goodIn_of _ (by decide +kernel)) ggX4_isEntry_X4_within
theorem dX4_isEntry_0 : decode cX4_isEntry 0 = .ok (.iload_n 0, 1) := by decide +kernel
theorem dX4_isEntry_1 : decode cX4_isEntry 1 = .ok (.iconst 0, 1) := by decide +kernel
theorem dX4_isEntry_2 : decode cX4_isEntry 2 = .ok (.bipush 7, 2) := by decide +kernel
theorem dX4_isEntry_4 : decode cX4_isEntry 4 = .ok (.invokestatic 44, 3) := by decide +kernel
theorem dX4_isEntry_7 : decode cX4_isEntry 7 = .ok (.ireturn, 1) := by decide +kernel
set_option maxRecDepth 20000 in
theorem ggX4_isPoint_X4_within : GoodIn wsX4_isPoint wsX4_within := goodIn_r _ [4] (by decide +kernel) (by decide +kernel)
set_option maxRecDepth 20000 in
theorem gX4_isPoint_X4_within : GoodIn wsX4_isPoint (va_wsS RX4 44 yX4_within wsX4_within) := goodIn_app (goodIn_of _ (by decide +kernel)) ggX4_isPoint_X4_within
theorem dX4_isPoint_0 : decode cX4_isPoint 0 = .ok (.iload_n 0, 1) := by decide +kernel
theorem dX4_isPoint_1 : decode cX4_isPoint 1 = .ok (.iconst 0, 1) := by decide +kernel
theorem dX4_isPoint_2 : decode cX4_isPoint 2 = .ok (.iconst 5, 1) := by decide +kernel
theorem dX4_isPoint_3 : decode cX4_isPoint 3 = .ok (.invokestatic 44, 3) := by decide +kernel
theorem dX4_isPoint_6 : decode cX4_isPoint 6 = .ok (.ireturn, 1) := by decide +kernel
set_option maxRecDepth 20000 in
theorem ggX4_isPlace_X4_within : GoodIn wsX4_isPlace wsX4_within := goodIn_r _ [5] (by decide +kernel) (by decide +kernel)
set_option maxRecDepth 20000 in
theorem gX4_isPlace_X4_within : GoodIn wsX4_isPlace (va_wsS RX4 44 yX4_within wsX4_within) := goodIn_app (goodIn_of _ (by decide +kernel)) ggX4_isPlace_X4_within
theorem dX4_isPlace_0 : decode cX4_isPlace 0 = .ok (.iload_n 1, 1) := by decide +kernel
theorem dX4_isPlace_1 : decode cX4_isPlace 1 = .ok (.iconst 0, 1) := by decide +kernel
theorem dX4_isPlace_2 : decode cX4_isPlace 2 = .ok (.aload_n 0, 1) := by decide +kernel
theorem dX4_isPlace_3 : decode cX4_isPlace 3 = .ok (.getfield 10, 3) := by decide +kernel
theorem dX4_isPlace_6 : decode cX4_isPlace 6 = .ok (.getfield 48, 3) := by decide +kernel
theorem dX4_isPlace_9 : decode cX4_isPlace 9 = .ok (.iconst 1, 1) := by decide +kernel
theorem dX4_isPlace_10 : decode cX4_isPlace 10 = .ok (.isub, 1) := by decide +kernel
theorem dX4_isPlace_11 : decode cX4_isPlace 11 = .ok (.invokestatic 44, 3) := by decide +kernel
theorem dX4_isPlace_14 : decode cX4_isPlace 14 = .ok (.ireturn, 1) := by decide +kernel
set_option maxRecDepth 20000 in
theorem ggX4_howFar_X4_isRow : GoodIn wsX4_howFar wsX4_isRow := goodIn_r _ [8, 9, 10, 7, 11] (by decide +kernel) (by decide +kernel)
set_option maxRecDepth 20000 in
theorem gX4_howFar_X4_isRow : GoodIn wsX4_howFar (va_wsS RX4 97 yX4_isRow wsX4_isRow) := goodIn_app (goodIn_of _ (by decide +kernel)) ggX4_howFar_X4_isRow
set_option maxRecDepth 20000 in
theorem ggX4_howFar_X0_seek : GoodIn wsX4_howFar wsX0_seek := goodIn_r _ [16, 17, 18, 19, 20, 21, 22, 23, 24, 25, 26, 27, 15, 28, 29, 30, 31, 32, 33, 34, 35, 36, 37, 38, 39, 40, 41, 42, 43, 44, 45, 46, 47, 48, 49, 50, 51, 52, 53, 54, 55, 56, 57, 58, 59, 60, 61, 62, 63, 64, 65, 66, 67, 68, 69, 70, 71, 72, 73, 120, 121, 122, 123, 124] (by decide +kernel) (by decide +kernel)
set_option maxRecDepth 20000 in
theorem gX4_howFar_X0_seek : GoodIn wsX4_howFar (wsV RX4 100 RX0 yX0_seek wsX0_seek) := goodIn_app (goodIn_of _ (by decide +kernel)) ggX4_howFar_X0_seek
set_option maxRecDepth 20000 in
theorem ggX4_howFar_X3_closest : GoodIn wsX4_howFar wsX3_closest := goodIn_r _ [78, 79, 80, 81, 77, 82, 83, 84, 85, 86, 87, 88, 89, 90, 91, 92, 93, 125] (by decide +kernel) (by decide +kernel)
set_option maxRecDepth 20000 in
theorem gX4_howFar_X3_closest : GoodIn wsX4_howFar (wsV RX4 107 RX3 yX3_closest wsX3_closest) := goodIn_app (goodIn_of _ (by decide +kernel)) ggX4_howFar_X3_closest
set_option maxRecDepth 20000 in
theorem ggX4_howFar_X3_differing : GoodIn wsX4_howFar wsX3_differing := goodIn_r _ [82, 83, 84, 85, 77, 86, 87, 88, 89, 90, 91, 92, 93, 125] (by decide +kernel) (by decide +kernel)
set_option maxRecDepth 20000 in
theorem gX4_howFar_X3_differing : GoodIn wsX4_howFar (wsV RX4 167 RX3 yX3_differing wsX3_differing) := goodIn_app (goodIn_of _ (by decide +kernel)) ggX4_howFar_X3_differing
set_option maxRecDepth 20000 in
theorem ggX4_howFar_X1_bestColouring : GoodIn wsX4_howFar wsX1_bestColouring := goodIn_r _ [99, 100, 101, 102, 98, 103, 104, 105, 106, 107, 108, 109, 110, 111, 112, 88, 89, 90, 91, 92, 93, 126] (by decide +kernel) (by decide +kernel)
set_option maxRecDepth 20000 in
theorem gX4_howFar_X1_bestColouring : GoodIn wsX4_howFar (wsV RX4 111 RX1 yX1_bestColouring wsX1_bestColouring) := goodIn_app (goodIn_of _ (by decide +kernel)) ggX4_howFar_X1_bestColouring
set_option maxRecDepth 20000 in
theorem ggX4_howFar_X1_likeLines : GoodIn wsX4_howFar wsX1_likeLines := goodIn_r _ [107, 108, 109, 110, 98, 111, 112, 88, 89, 90, 91, 92, 93, 126] (by decide +kernel) (by decide +kernel)
set_option maxRecDepth 20000 in
theorem gX4_howFar_X1_likeLines : GoodIn wsX4_howFar (wsV RX4 170 RX1 yX1_likeLines wsX1_likeLines) := goodIn_app (goodIn_of _ (by decide +kernel)) ggX4_howFar_X1_likeLines
theorem dX4_howFar_0 : decode cX4_howFar 0 = .ok (.iload_n 1, 1) := by decide +kernel
theorem dX4_howFar_1 : decode cX4_howFar 1 = .ok (.invokestatic 97, 3) := by decide +kernel
theorem dX4_howFar_4 : decode cX4_howFar 4 = .ok (.ifCond .eq 16, 3) := by decide +kernel
theorem dX4_howFar_7 : decode cX4_howFar 7 = .ok (.aload_n 0, 1) := by decide +kernel
theorem dX4_howFar_8 : decode cX4_howFar 8 = .ok (.getfield 22, 3) := by decide +kernel
theorem dX4_howFar_11 : decode cX4_howFar 11 = .ok (.aload_n 0, 1) := by decide +kernel
theorem dX4_howFar_12 : decode cX4_howFar 12 = .ok (.getfield 10, 3) := by decide +kernel
theorem dX4_howFar_15 : decode cX4_howFar 15 = .ok (.iload_n 1, 1) := by decide +kernel
theorem dX4_howFar_16 : decode cX4_howFar 16 = .ok (.invokevirtual 100, 3) := by decide +kernel
theorem dX4_howFar_19 : decode cX4_howFar 19 = .ok (.ireturn, 1) := by decide +kernel
theorem dX4_howFar_20 : decode cX4_howFar 20 = .ok (.iload_n 1, 1) := by decide +kernel
theorem dX4_howFar_21 : decode cX4_howFar 21 = .ok (.iconst 4, 1) := by decide +kernel
theorem dX4_howFar_22 : decode cX4_howFar 22 = .ok (.if_icmp .ne 18, 3) := by decide +kernel
theorem dX4_howFar_25 : decode cX4_howFar 25 = .ok (.aload_n 0, 1) := by decide +kernel
theorem dX4_howFar_26 : decode cX4_howFar 26 = .ok (.getfield 29, 3) := by decide +kernel
theorem dX4_howFar_29 : decode cX4_howFar 29 = .ok (.aload_n 0, 1) := by decide +kernel
theorem dX4_howFar_30 : decode cX4_howFar 30 = .ok (.getfield 29, 3) := by decide +kernel
theorem dX4_howFar_33 : decode cX4_howFar 33 = .ok (.invokevirtual 107, 3) := by decide +kernel
theorem dX4_howFar_36 : decode cX4_howFar 36 = .ok (.invokevirtual 167, 3) := by decide +kernel
theorem dX4_howFar_39 : decode cX4_howFar 39 = .ok (.ireturn, 1) := by decide +kernel
theorem dX4_howFar_40 : decode cX4_howFar 40 = .ok (.aload_n 0, 1) := by decide +kernel
theorem dX4_howFar_41 : decode cX4_howFar 41 = .ok (.getfield 36, 3) := by decide +kernel
theorem dX4_howFar_44 : decode cX4_howFar 44 = .ok (.bipush 63, 2) := by decide +kernel
theorem dX4_howFar_46 : decode cX4_howFar 46 = .ok (.aload_n 0, 1) := by decide +kernel
theorem dX4_howFar_47 : decode cX4_howFar 47 = .ok (.getfield 36, 3) := by decide +kernel
theorem dX4_howFar_50 : decode cX4_howFar 50 = .ok (.invokevirtual 111, 3) := by decide +kernel
theorem dX4_howFar_53 : decode cX4_howFar 53 = .ok (.invokevirtual 170, 3) := by decide +kernel
theorem dX4_howFar_56 : decode cX4_howFar 56 = .ok (.ireturn, 1) := by decide +kernel
set_option maxRecDepth 20000 in
theorem ggX4_passing_X4_isRow : GoodIn wsX4_passing wsX4_isRow := goodIn_r _ [8, 9, 10, 7, 11] (by decide +kernel) (by decide +kernel)
set_option maxRecDepth 20000 in
theorem gX4_passing_X4_isRow : GoodIn wsX4_passing (va_wsS RX4 97 yX4_isRow wsX4_isRow) := goodIn_app (goodIn_of _ (by decide +kernel)) ggX4_passing_X4_isRow
set_option maxRecDepth 20000 in
theorem ggX4_passing_X2_passing : GoodIn wsX4_passing wsX2_passing := goodIn_r _ [16, 17, 18, 19, 15, 20, 21, 22, 23, 24, 25, 26, 27, 28, 29, 30, 31, 32, 33, 34, 83, 84] (by decide +kernel) (by decide +kernel)
set_option maxRecDepth 20000 in
theorem gX4_passing_X2_passing : GoodIn wsX4_passing (wsV RX4 139 RX2 yX2_passing wsX2_passing) := goodIn_app (goodIn_of _ (by decide +kernel)) ggX4_passing_X2_passing
set_option maxRecDepth 20000 in
theorem ggX4_passing_X3_passing : GoodIn wsX4_passing wsX3_passing := goodIn_r _ [39, 40, 41, 42, 38, 43, 44, 45, 46, 47, 48, 85] (by decide +kernel) (by decide +kernel)
set_option maxRecDepth 20000 in
theorem gX4_passing_X3_passing : GoodIn wsX4_passing (wsV RX4 173 RX3 yX3_passing wsX3_passing) := goodIn_app (goodIn_of _ (by decide +kernel)) ggX4_passing_X3_passing
set_option maxRecDepth 20000 in
theorem ggX4_passing_X1_passing : GoodIn wsX4_passing wsX1_passing := goodIn_r _ [53, 54, 55, 56, 57, 58, 59, 60, 61, 62, 63, 52, 64, 65, 66, 67, 68, 69, 70, 71, 72, 73, 74, 75, 76, 86] (by decide +kernel) (by decide +kernel)
set_option maxRecDepth 20000 in
theorem gX4_passing_X1_passing : GoodIn wsX4_passing (wsV RX4 175 RX1 yX1_passing wsX1_passing) := goodIn_app (goodIn_of _ (by decide +kernel)) ggX4_passing_X1_passing
theorem dX4_passing_0 : decode cX4_passing 0 = .ok (.iload_n 1, 1) := by decide +kernel
theorem dX4_passing_1 : decode cX4_passing 1 = .ok (.invokestatic 97, 3) := by decide +kernel
theorem dX4_passing_4 : decode cX4_passing 4 = .ok (.ifCond .eq 12, 3) := by decide +kernel
theorem dX4_passing_7 : decode cX4_passing 7 = .ok (.aload_n 0, 1) := by decide +kernel
theorem dX4_passing_8 : decode cX4_passing 8 = .ok (.getfield 10, 3) := by decide +kernel
theorem dX4_passing_11 : decode cX4_passing 11 = .ok (.iload_n 1, 1) := by decide +kernel
theorem dX4_passing_12 : decode cX4_passing 12 = .ok (.invokevirtual 139, 3) := by decide +kernel
theorem dX4_passing_15 : decode cX4_passing 15 = .ok (.ireturn, 1) := by decide +kernel
theorem dX4_passing_16 : decode cX4_passing 16 = .ok (.iload_n 1, 1) := by decide +kernel
theorem dX4_passing_17 : decode cX4_passing 17 = .ok (.iconst 4, 1) := by decide +kernel
theorem dX4_passing_18 : decode cX4_passing 18 = .ok (.if_icmp .ne 13, 3) := by decide +kernel
theorem dX4_passing_21 : decode cX4_passing 21 = .ok (.aload_n 0, 1) := by decide +kernel
theorem dX4_passing_22 : decode cX4_passing 22 = .ok (.getfield 29, 3) := by decide +kernel
theorem dX4_passing_25 : decode cX4_passing 25 = .ok (.invokevirtual 173, 3) := by decide +kernel
theorem dX4_passing_28 : decode cX4_passing 28 = .ok (.goto 14, 3) := by decide +kernel
theorem dX4_passing_31 : decode cX4_passing 31 = .ok (.aload_n 0, 1) := by decide +kernel
theorem dX4_passing_32 : decode cX4_passing 32 = .ok (.getfield 36, 3) := by decide +kernel
theorem dX4_passing_35 : decode cX4_passing 35 = .ok (.aload_n 0, 1) := by decide +kernel
theorem dX4_passing_36 : decode cX4_passing 36 = .ok (.getfield 40, 3) := by decide +kernel
theorem dX4_passing_39 : decode cX4_passing 39 = .ok (.invokevirtual 175, 3) := by decide +kernel
theorem dX4_passing_42 : decode cX4_passing 42 = .ok (.ireturn, 1) := by decide +kernel
set_option maxRecDepth 20000 in
theorem ggX4_looks_X4_isRow : GoodIn wsX4_looks wsX4_isRow := goodIn_r _ [6, 7, 8, 5, 9] (by decide +kernel) (by decide +kernel)
set_option maxRecDepth 20000 in
theorem gX4_looks_X4_isRow : GoodIn wsX4_looks (va_wsS RX4 97 yX4_isRow wsX4_isRow) := goodIn_app (goodIn_of _ (by decide +kernel)) ggX4_looks_X4_isRow
set_option maxRecDepth 20000 in
theorem ggX4_looks_X2_looks : GoodIn wsX4_looks wsX2_looks := goodIn_r _ [14, 15, 33, 34] (by decide +kernel) (by decide +kernel)
set_option maxRecDepth 20000 in
theorem gX4_looks_X2_looks : GoodIn wsX4_looks (wsV RX4 140 RX2 yX2_looks wsX2_looks) := goodIn_app (goodIn_of _ (by decide +kernel)) ggX4_looks_X2_looks
set_option maxRecDepth 20000 in
theorem ggX4_looks_X1_sets : GoodIn wsX4_looks wsX1_sets := goodIn_r _ [19, 20, 21, 22, 23, 24, 25, 26] (by decide +kernel) (by decide +kernel)
set_option maxRecDepth 20000 in
theorem gX4_looks_X1_sets : GoodIn wsX4_looks (va_wsS RX4 176 yX1_sets wsX1_sets) := goodIn_app (goodIn_of _ (by decide +kernel)) ggX4_looks_X1_sets
theorem dX4_looks_0 : decode cX4_looks 0 = .ok (.iload_n 1, 1) := by decide +kernel
theorem dX4_looks_1 : decode cX4_looks 1 = .ok (.invokestatic 97, 3) := by decide +kernel
theorem dX4_looks_4 : decode cX4_looks 4 = .ok (.ifCond .eq 12, 3) := by decide +kernel
theorem dX4_looks_7 : decode cX4_looks 7 = .ok (.aload_n 0, 1) := by decide +kernel
theorem dX4_looks_8 : decode cX4_looks 8 = .ok (.getfield 10, 3) := by decide +kernel
theorem dX4_looks_11 : decode cX4_looks 11 = .ok (.iload_n 1, 1) := by decide +kernel
theorem dX4_looks_12 : decode cX4_looks 12 = .ok (.invokevirtual 140, 3) := by decide +kernel
theorem dX4_looks_15 : decode cX4_looks 15 = .ok (.ireturn, 1) := by decide +kernel
theorem dX4_looks_16 : decode cX4_looks 16 = .ok (.iload_n 1, 1) := by decide +kernel
theorem dX4_looks_17 : decode cX4_looks 17 = .ok (.iconst 4, 1) := by decide +kernel
theorem dX4_looks_18 : decode cX4_looks 18 = .ok (.if_icmp .ne 8, 3) := by decide +kernel
theorem dX4_looks_21 : decode cX4_looks 21 = .ok (.bipush 64, 2) := by decide +kernel
theorem dX4_looks_23 : decode cX4_looks 23 = .ok (.goto 10, 3) := by decide +kernel
theorem dX4_looks_26 : decode cX4_looks 26 = .ok (.aload_n 0, 1) := by decide +kernel
theorem dX4_looks_27 : decode cX4_looks 27 = .ok (.getfield 40, 3) := by decide +kernel
theorem dX4_looks_30 : decode cX4_looks 30 = .ok (.invokestatic 176, 3) := by decide +kernel
theorem dX4_looks_33 : decode cX4_looks 33 = .ok (.ireturn, 1) := by decide +kernel
theorem dX4_lowestTerm_0 : decode cX4_lowestTerm 0 = .ok (.iload_n 2, 1) := by decide +kernel
theorem dX4_lowestTerm_1 : decode cX4_lowestTerm 1 = .ok (.ifCond .ne 7, 3) := by decide +kernel
theorem dX4_lowestTerm_4 : decode cX4_lowestTerm 4 = .ok (.iload_n 0, 1) := by decide +kernel
theorem dX4_lowestTerm_5 : decode cX4_lowestTerm 5 = .ok (.goto 4, 3) := by decide +kernel
theorem dX4_lowestTerm_8 : decode cX4_lowestTerm 8 = .ok (.iload_n 1, 1) := by decide +kernel
theorem dX4_lowestTerm_9 : decode cX4_lowestTerm 9 = .ok (.istore_n 3, 1) := by decide +kernel
theorem dX4_lowestTerm_10 : decode cX4_lowestTerm 10 = .ok (.iload_n 1, 1) := by decide +kernel
theorem dX4_lowestTerm_11 : decode cX4_lowestTerm 11 = .ok (.istore 4, 2) := by decide +kernel
theorem dX4_lowestTerm_13 : decode cX4_lowestTerm 13 = .ok (.iload 4, 2) := by decide +kernel
theorem dX4_lowestTerm_15 : decode cX4_lowestTerm 15 = .ok (.iconst 1, 1) := by decide +kernel
theorem dX4_lowestTerm_16 : decode cX4_lowestTerm 16 = .ok (.if_icmp .le 28, 3) := by decide +kernel
theorem dX4_lowestTerm_19 : decode cX4_lowestTerm 19 = .ok (.iload_n 0, 1) := by decide +kernel
theorem dX4_lowestTerm_20 : decode cX4_lowestTerm 20 = .ok (.iload 4, 2) := by decide +kernel
theorem dX4_lowestTerm_22 : decode cX4_lowestTerm 22 = .ok (.irem, 1) := by decide +kernel
theorem dX4_lowestTerm_23 : decode cX4_lowestTerm 23 = .ok (.ifCond .ne 15, 3) := by decide +kernel
theorem dX4_lowestTerm_26 : decode cX4_lowestTerm 26 = .ok (.iload_n 1, 1) := by decide +kernel
theorem dX4_lowestTerm_27 : decode cX4_lowestTerm 27 = .ok (.iload 4, 2) := by decide +kernel
theorem dX4_lowestTerm_29 : decode cX4_lowestTerm 29 = .ok (.irem, 1) := by decide +kernel
theorem dX4_lowestTerm_30 : decode cX4_lowestTerm 30 = .ok (.ifCond .ne 8, 3) := by decide +kernel
theorem dX4_lowestTerm_33 : decode cX4_lowestTerm 33 = .ok (.iload_n 3, 1) := by decide +kernel
theorem dX4_lowestTerm_34 : decode cX4_lowestTerm 34 = .ok (.iload 4, 2) := by decide +kernel
theorem dX4_lowestTerm_36 : decode cX4_lowestTerm 36 = .ok (.idiv, 1) := by decide +kernel
theorem dX4_lowestTerm_37 : decode cX4_lowestTerm 37 = .ok (.ireturn, 1) := by decide +kernel
theorem dX4_lowestTerm_38 : decode cX4_lowestTerm 38 = .ok (.iinc 4 (-1), 3) := by decide +kernel
theorem dX4_lowestTerm_41 : decode cX4_lowestTerm 41 = .ok (.goto (-28), 3) := by decide +kernel
theorem dX4_lowestTerm_44 : decode cX4_lowestTerm 44 = .ok (.iload_n 3, 1) := by decide +kernel
theorem dX4_lowestTerm_45 : decode cX4_lowestTerm 45 = .ok (.ireturn, 1) := by decide +kernel
set_option maxRecDepth 20000 in
theorem ggX4_worstCode_X2_spell : GoodIn wsX4_worstCode wsX2_spell := goodIn_r _ [8, 9, 10, 93, 94] (by decide +kernel) (by decide +kernel)
set_option maxRecDepth 20000 in
theorem gX4_worstCode_X2_spell : GoodIn wsX4_worstCode (wsV RX4 136 RX2 yX2_spell wsX2_spell) := goodIn_app (goodIn_of _ (by decide +kernel)) ggX4_worstCode_X2_spell
set_option maxRecDepth 20000 in
theorem ggX4_worstCode_X2_passing : GoodIn wsX4_worstCode wsX2_passing := goodIn_r _ [14, 15, 16, 17, 7, 18, 9, 10, 19, 20, 21, 22, 23, 24, 25, 26, 27, 28, 29, 30, 93, 94] (by decide +kernel) (by decide +kernel)
set_option maxRecDepth 20000 in
theorem gX4_worstCode_X2_passing : GoodIn wsX4_worstCode (wsV RX4 139 RX2 yX2_passing wsX2_passing) := goodIn_app (goodIn_of _ (by decide +kernel)) ggX4_worstCode_X2_passing
set_option maxRecDepth 20000 in
theorem ggX4_worstCode_X0_seek : GoodIn wsX4_worstCode wsX0_seek := goodIn_r _ [35, 36, 37, 38, 39, 7, 40, 9, 10, 41, 42, 43, 34, 44, 45, 46, 47, 48, 49, 50, 51, 52, 53, 54, 55, 56, 57, 58, 59, 60, 61, 62, 63, 64, 65, 66, 24, 25, 26, 67, 68, 69, 70, 71, 72, 73, 74, 75, 76, 77, 78, 79, 80, 81, 82, 83, 84, 85, 86, 95, 96, 97, 93, 94] (by decide +kernel) (by decide +kernel)
set_option maxRecDepth 20000 in
theorem gX4_worstCode_X0_seek : GoodIn wsX4_worstCode (wsV RX4 100 RX0 yX0_seek wsX0_seek) := goodIn_app (goodIn_of _ (by decide +kernel)) ggX4_worstCode_X0_seek
theorem dX4_worstCode_0 : decode cX4_worstCode 0 = .ok (.iconst (-1), 1) := by decide +kernel
theorem dX4_worstCode_1 : decode cX4_worstCode 1 = .ok (.istore_n 3, 1) := by decide +kernel
theorem dX4_worstCode_2 : decode cX4_worstCode 2 = .ok (.iconst (-1), 1) := by decide +kernel
theorem dX4_worstCode_3 : decode cX4_worstCode 3 = .ok (.istore 4, 2) := by decide +kernel
theorem dX4_worstCode_5 : decode cX4_worstCode 5 = .ok (.iconst 0, 1) := by decide +kernel
theorem dX4_worstCode_6 : decode cX4_worstCode 6 = .ok (.istore 5, 2) := by decide +kernel
theorem dX4_worstCode_8 : decode cX4_worstCode 8 = .ok (.iload 5, 2) := by decide +kernel
theorem dX4_worstCode_10 : decode cX4_worstCode 10 = .ok (.iconst 1, 1) := by decide +kernel
theorem dX4_worstCode_11 : decode cX4_worstCode 11 = .ok (.aload_n 0, 1) := by decide +kernel
theorem dX4_worstCode_12 : decode cX4_worstCode 12 = .ok (.getfield 10, 3) := by decide +kernel
theorem dX4_worstCode_15 : decode cX4_worstCode 15 = .ok (.getfield 48, 3) := by decide +kernel
theorem dX4_worstCode_18 : decode cX4_worstCode 18 = .ok (.ishl, 1) := by decide +kernel
theorem dX4_worstCode_19 : decode cX4_worstCode 19 = .ok (.if_icmp .ge 65, 3) := by decide +kernel
theorem dX4_worstCode_22 : decode cX4_worstCode 22 = .ok (.aload_n 0, 1) := by decide +kernel
theorem dX4_worstCode_23 : decode cX4_worstCode 23 = .ok (.getfield 16, 3) := by decide +kernel
theorem dX4_worstCode_26 : decode cX4_worstCode 26 = .ok (.iload 5, 2) := by decide +kernel
theorem dX4_worstCode_28 : decode cX4_worstCode 28 = .ok (.aload_n 0, 1) := by decide +kernel
theorem dX4_worstCode_29 : decode cX4_worstCode 29 = .ok (.getfield 10, 3) := by decide +kernel
theorem dX4_worstCode_32 : decode cX4_worstCode 32 = .ok (.getfield 48, 3) := by decide +kernel
theorem dX4_worstCode_35 : decode cX4_worstCode 35 = .ok (.invokevirtual 136, 3) := by decide +kernel
theorem dX4_worstCode_38 : decode cX4_worstCode 38 = .ok (.aload_n 0, 1) := by decide +kernel
theorem dX4_worstCode_39 : decode cX4_worstCode 39 = .ok (.getfield 16, 3) := by decide +kernel
theorem dX4_worstCode_42 : decode cX4_worstCode 42 = .ok (.iload_n 1, 1) := by decide +kernel
theorem dX4_worstCode_43 : decode cX4_worstCode 43 = .ok (.invokevirtual 139, 3) := by decide +kernel
theorem dX4_worstCode_46 : decode cX4_worstCode 46 = .ok (.istore 6, 2) := by decide +kernel
theorem dX4_worstCode_48 : decode cX4_worstCode 48 = .ok (.iload 6, 2) := by decide +kernel
theorem dX4_worstCode_50 : decode cX4_worstCode 50 = .ok (.iload 4, 2) := by decide +kernel
theorem dX4_worstCode_52 : decode cX4_worstCode 52 = .ok (.if_icmp .le 26, 3) := by decide +kernel
theorem dX4_worstCode_55 : decode cX4_worstCode 55 = .ok (.aload_n 0, 1) := by decide +kernel
theorem dX4_worstCode_56 : decode cX4_worstCode 56 = .ok (.getfield 22, 3) := by decide +kernel
theorem dX4_worstCode_59 : decode cX4_worstCode 59 = .ok (.aload_n 0, 1) := by decide +kernel
theorem dX4_worstCode_60 : decode cX4_worstCode 60 = .ok (.getfield 16, 3) := by decide +kernel
theorem dX4_worstCode_63 : decode cX4_worstCode 63 = .ok (.iload_n 1, 1) := by decide +kernel
theorem dX4_worstCode_64 : decode cX4_worstCode 64 = .ok (.invokevirtual 100, 3) := by decide +kernel
theorem dX4_worstCode_67 : decode cX4_worstCode 67 = .ok (.iload_n 2, 1) := by decide +kernel
theorem dX4_worstCode_68 : decode cX4_worstCode 68 = .ok (.if_icmp .lt 10, 3) := by decide +kernel
theorem dX4_worstCode_71 : decode cX4_worstCode 71 = .ok (.iload 6, 2) := by decide +kernel
theorem dX4_worstCode_73 : decode cX4_worstCode 73 = .ok (.istore 4, 2) := by decide +kernel
theorem dX4_worstCode_75 : decode cX4_worstCode 75 = .ok (.iload 5, 2) := by decide +kernel
theorem dX4_worstCode_77 : decode cX4_worstCode 77 = .ok (.istore_n 3, 1) := by decide +kernel
theorem dX4_worstCode_78 : decode cX4_worstCode 78 = .ok (.iinc 5 1, 3) := by decide +kernel
theorem dX4_worstCode_81 : decode cX4_worstCode 81 = .ok (.goto (-73), 3) := by decide +kernel
theorem dX4_worstCode_84 : decode cX4_worstCode 84 = .ok (.iload_n 3, 1) := by decide +kernel
theorem dX4_worstCode_85 : decode cX4_worstCode 85 = .ok (.ireturn, 1) := by decide +kernel
set_option maxRecDepth 20000 in
theorem ggX4_isLook_X4_isPlace : GoodIn wsX4_isLook wsX4_isPlace := goodIn_r _ [6, 7, 8, 9, 5, 10, 21, 22, 23, 24, 25, 26, 27, 28] (by decide +kernel) (by decide +kernel)
set_option maxRecDepth 20000 in
theorem gX4_isLook_X4_isPlace : GoodIn wsX4_isLook (wsV RX4 55 RX4 yX4_isPlace wsX4_isPlace) := goodIn_app (goodIn_of _ (by decide +kernel)) ggX4_isLook_X4_isPlace
set_option maxRecDepth 20000 in
theorem ggX4_isLook_X4_isEntry : GoodIn wsX4_isLook wsX4_isEntry := goodIn_r _ [13, 8, 9, 5, 10] (by decide +kernel) (by decide +kernel)
set_option maxRecDepth 20000 in
theorem gX4_isLook_X4_isEntry : GoodIn wsX4_isLook (va_wsS RX4 63 yX4_isEntry wsX4_isEntry) := goodIn_app (goodIn_of _ (by decide +kernel)) ggX4_isLook_X4_isEntry
set_option maxRecDepth 20000 in
theorem ggX4_isLook_X4_within : GoodIn wsX4_isLook wsX4_within := goodIn_r _ [10] (by decide +kernel) (by decide +kernel)
set_option maxRecDepth 20000 in
theorem gX4_isLook_X4_within : GoodIn wsX4_isLook (va_wsS RX4 44 yX4_within wsX4_within) := goodIn_app (goodIn_of _ (by decide +kernel)) ggX4_isLook_X4_within
set_option maxRecDepth 20000 in
theorem ggX4_isLook_J6_bitCount_0f7a4 : GoodIn wsX4_isLook wsJ6_bitCount_0f7a4 := goodIn_r _ [17, 18, 19, 20] (by decide +kernel) (by decide +kernel)
set_option maxRecDepth 20000 in
theorem gX4_isLook_J6_bitCount_0f7a4 : GoodIn wsX4_isLook (va_wsS RX4 159 yJ6_bitCount_0f7a4 wsJ6_bitCount_0f7a4) := goodIn_app (goodIn_of _ (by decide +kernel)) ggX4_isLook_J6_bitCount_0f7a4
theorem dX4_isLook_0 : decode cX4_isLook 0 = .ok (.iload_n 1, 1) := by decide +kernel
theorem dX4_isLook_1 : decode cX4_isLook 1 = .ok (.lookupswitch 113 #[(0, 35), (4, 62), (5, 82)], 35) := by decide +kernel
theorem dX4_isLook_36 : decode cX4_isLook 36 = .ok (.aload_n 0, 1) := by decide +kernel
theorem dX4_isLook_37 : decode cX4_isLook 37 = .ok (.iload_n 2, 1) := by decide +kernel
theorem dX4_isLook_38 : decode cX4_isLook 38 = .ok (.invokevirtual 55, 3) := by decide +kernel
theorem dX4_isLook_41 : decode cX4_isLook 41 = .ok (.ifCond .eq 20, 3) := by decide +kernel
theorem dX4_isLook_44 : decode cX4_isLook 44 = .ok (.aload_n 0, 1) := by decide +kernel
theorem dX4_isLook_45 : decode cX4_isLook 45 = .ok (.iload_n 3, 1) := by decide +kernel
theorem dX4_isLook_46 : decode cX4_isLook 46 = .ok (.invokevirtual 55, 3) := by decide +kernel
theorem dX4_isLook_49 : decode cX4_isLook 49 = .ok (.ifCond .eq 12, 3) := by decide +kernel
theorem dX4_isLook_52 : decode cX4_isLook 52 = .ok (.iload_n 2, 1) := by decide +kernel
theorem dX4_isLook_53 : decode cX4_isLook 53 = .ok (.iload_n 3, 1) := by decide +kernel
theorem dX4_isLook_54 : decode cX4_isLook 54 = .ok (.if_icmp .ge 7, 3) := by decide +kernel
theorem dX4_isLook_57 : decode cX4_isLook 57 = .ok (.iconst 1, 1) := by decide +kernel
theorem dX4_isLook_58 : decode cX4_isLook 58 = .ok (.goto 4, 3) := by decide +kernel
theorem dX4_isLook_61 : decode cX4_isLook 61 = .ok (.iconst 0, 1) := by decide +kernel
theorem dX4_isLook_62 : decode cX4_isLook 62 = .ok (.ireturn, 1) := by decide +kernel
theorem dX4_isLook_63 : decode cX4_isLook 63 = .ok (.iload_n 2, 1) := by decide +kernel
theorem dX4_isLook_64 : decode cX4_isLook 64 = .ok (.invokestatic 63, 3) := by decide +kernel
theorem dX4_isLook_67 : decode cX4_isLook 67 = .ok (.ifCond .eq 14, 3) := by decide +kernel
theorem dX4_isLook_70 : decode cX4_isLook 70 = .ok (.iload_n 3, 1) := by decide +kernel
theorem dX4_isLook_71 : decode cX4_isLook 71 = .ok (.invokestatic 63, 3) := by decide +kernel
theorem dX4_isLook_74 : decode cX4_isLook 74 = .ok (.ifCond .eq 7, 3) := by decide +kernel
theorem dX4_isLook_77 : decode cX4_isLook 77 = .ok (.iconst 1, 1) := by decide +kernel
theorem dX4_isLook_78 : decode cX4_isLook 78 = .ok (.goto 4, 3) := by decide +kernel
theorem dX4_isLook_81 : decode cX4_isLook 81 = .ok (.iconst 0, 1) := by decide +kernel
theorem dX4_isLook_82 : decode cX4_isLook 82 = .ok (.ireturn, 1) := by decide +kernel
theorem dX4_isLook_83 : decode cX4_isLook 83 = .ok (.iload_n 2, 1) := by decide +kernel
theorem dX4_isLook_84 : decode cX4_isLook 84 = .ok (.iconst 0, 1) := by decide +kernel
theorem dX4_isLook_85 : decode cX4_isLook 85 = .ok (.bipush 63, 2) := by decide +kernel
theorem dX4_isLook_87 : decode cX4_isLook 87 = .ok (.invokestatic 44, 3) := by decide +kernel
theorem dX4_isLook_90 : decode cX4_isLook 90 = .ok (.ifCond .eq 22, 3) := by decide +kernel
theorem dX4_isLook_93 : decode cX4_isLook 93 = .ok (.iload_n 2, 1) := by decide +kernel
theorem dX4_isLook_94 : decode cX4_isLook 94 = .ok (.invokestatic 159, 3) := by decide +kernel
theorem dX4_isLook_97 : decode cX4_isLook 97 = .ok (.aload_n 0, 1) := by decide +kernel
theorem dX4_isLook_98 : decode cX4_isLook 98 = .ok (.getfield 40, 3) := by decide +kernel
theorem dX4_isLook_101 : decode cX4_isLook 101 = .ok (.if_icmp .ne 11, 3) := by decide +kernel
theorem dX4_isLook_104 : decode cX4_isLook 104 = .ok (.iload_n 3, 1) := by decide +kernel
theorem dX4_isLook_105 : decode cX4_isLook 105 = .ok (.ifCond .ne 7, 3) := by decide +kernel
theorem dX4_isLook_108 : decode cX4_isLook 108 = .ok (.iconst 1, 1) := by decide +kernel
theorem dX4_isLook_109 : decode cX4_isLook 109 = .ok (.goto 4, 3) := by decide +kernel
theorem dX4_isLook_112 : decode cX4_isLook 112 = .ok (.iconst 0, 1) := by decide +kernel
theorem dX4_isLook_113 : decode cX4_isLook 113 = .ok (.ireturn, 1) := by decide +kernel
theorem dX4_isLook_114 : decode cX4_isLook 114 = .ok (.iconst 0, 1) := by decide +kernel
theorem dX4_isLook_115 : decode cX4_isLook 115 = .ok (.ireturn, 1) := by decide +kernel
set_option maxRecDepth 20000 in
theorem ggX4_fails_X3_agrees : GoodIn wsX4_fails wsX3_agrees := goodIn_r _ [8, 9, 10, 11, 7, 12, 13, 46] (by decide +kernel) (by decide +kernel)
set_option maxRecDepth 20000 in
theorem gX4_fails_X3_agrees : GoodIn wsX4_fails (wsV RX4 179 RX3 yX3_agrees wsX3_agrees) := goodIn_app (goodIn_of _ (by decide +kernel)) ggX4_fails_X3_agrees
set_option maxRecDepth 20000 in
theorem ggX4_fails_X1_twoColoured : GoodIn wsX4_fails wsX1_twoColoured := goodIn_r _ [18, 19, 20, 21, 17, 22, 23, 24, 25, 26, 27, 28, 29, 30, 31, 32, 33, 34, 35, 36, 37, 47] (by decide +kernel) (by decide +kernel)
set_option maxRecDepth 20000 in
theorem gX4_fails_X1_twoColoured : GoodIn wsX4_fails (wsV RX4 183 RX1 yX1_twoColoured wsX1_twoColoured) := goodIn_app (goodIn_of _ (by decide +kernel)) ggX4_fails_X1_twoColoured
theorem dX4_fails_0 : decode cX4_fails 0 = .ok (.iload_n 1, 1) := by decide +kernel
theorem dX4_fails_1 : decode cX4_fails 1 = .ok (.ifCond .ne 30, 3) := by decide +kernel
theorem dX4_fails_4 : decode cX4_fails 4 = .ok (.aload_n 0, 1) := by decide +kernel
theorem dX4_fails_5 : decode cX4_fails 5 = .ok (.getfield 10, 3) := by decide +kernel
theorem dX4_fails_8 : decode cX4_fails 8 = .ok (.getfield 59, 3) := by decide +kernel
theorem dX4_fails_11 : decode cX4_fails 11 = .ok (.iload_n 2, 1) := by decide +kernel
theorem dX4_fails_12 : decode cX4_fails 12 = .ok (.iaload, 1) := by decide +kernel
theorem dX4_fails_13 : decode cX4_fails 13 = .ok (.aload_n 0, 1) := by decide +kernel
theorem dX4_fails_14 : decode cX4_fails 14 = .ok (.getfield 10, 3) := by decide +kernel
theorem dX4_fails_17 : decode cX4_fails 17 = .ok (.getfield 59, 3) := by decide +kernel
theorem dX4_fails_20 : decode cX4_fails 20 = .ok (.iload_n 3, 1) := by decide +kernel
theorem dX4_fails_21 : decode cX4_fails 21 = .ok (.iaload, 1) := by decide +kernel
theorem dX4_fails_22 : decode cX4_fails 22 = .ok (.if_icmp .le 7, 3) := by decide +kernel
theorem dX4_fails_25 : decode cX4_fails 25 = .ok (.iconst 1, 1) := by decide +kernel
theorem dX4_fails_26 : decode cX4_fails 26 = .ok (.goto 4, 3) := by decide +kernel
theorem dX4_fails_29 : decode cX4_fails 29 = .ok (.iconst 0, 1) := by decide +kernel
theorem dX4_fails_30 : decode cX4_fails 30 = .ok (.ireturn, 1) := by decide +kernel
theorem dX4_fails_31 : decode cX4_fails 31 = .ok (.iload_n 1, 1) := by decide +kernel
theorem dX4_fails_32 : decode cX4_fails 32 = .ok (.iconst 4, 1) := by decide +kernel
theorem dX4_fails_33 : decode cX4_fails 33 = .ok (.if_icmp .ne 21, 3) := by decide +kernel
theorem dX4_fails_36 : decode cX4_fails 36 = .ok (.aload_n 0, 1) := by decide +kernel
theorem dX4_fails_37 : decode cX4_fails 37 = .ok (.getfield 29, 3) := by decide +kernel
theorem dX4_fails_40 : decode cX4_fails 40 = .ok (.iload_n 2, 1) := by decide +kernel
theorem dX4_fails_41 : decode cX4_fails 41 = .ok (.iload_n 3, 1) := by decide +kernel
theorem dX4_fails_42 : decode cX4_fails 42 = .ok (.invokevirtual 179, 3) := by decide +kernel
theorem dX4_fails_45 : decode cX4_fails 45 = .ok (.ifCond .ne 7, 3) := by decide +kernel
theorem dX4_fails_48 : decode cX4_fails 48 = .ok (.iconst 1, 1) := by decide +kernel
theorem dX4_fails_49 : decode cX4_fails 49 = .ok (.goto 4, 3) := by decide +kernel
theorem dX4_fails_52 : decode cX4_fails 52 = .ok (.iconst 0, 1) := by decide +kernel
theorem dX4_fails_53 : decode cX4_fails 53 = .ok (.ireturn, 1) := by decide +kernel
theorem dX4_fails_54 : decode cX4_fails 54 = .ok (.aload_n 0, 1) := by decide +kernel
theorem dX4_fails_55 : decode cX4_fails 55 = .ok (.getfield 36, 3) := by decide +kernel
theorem dX4_fails_58 : decode cX4_fails 58 = .ok (.iload_n 2, 1) := by decide +kernel
theorem dX4_fails_59 : decode cX4_fails 59 = .ok (.invokevirtual 183, 3) := by decide +kernel
theorem dX4_fails_62 : decode cX4_fails 62 = .ok (.ifCond .ne 7, 3) := by decide +kernel
theorem dX4_fails_65 : decode cX4_fails 65 = .ok (.iconst 1, 1) := by decide +kernel
theorem dX4_fails_66 : decode cX4_fails 66 = .ok (.goto 4, 3) := by decide +kernel
theorem dX4_fails_69 : decode cX4_fails 69 = .ok (.iconst 0, 1) := by decide +kernel
theorem dX4_fails_70 : decode cX4_fails 70 = .ok (.ireturn, 1) := by decide +kernel
set_option maxRecDepth 20000 in
theorem ggX4_firstFailingSet_X4_isLook : GoodIn wsX4_firstFailingSet wsX4_isLook := goodIn_r _ [5, 6, 7, 8, 9, 4, 10, 11, 12, 13, 14, 15, 16, 17, 18, 19, 20, 21, 22, 23, 24, 59, 60, 61, 62, 63, 64, 65, 66] (by decide +kernel) (by decide +kernel)
set_option maxRecDepth 20000 in
theorem gX4_firstFailingSet_X4_isLook : GoodIn wsX4_firstFailingSet (wsV RX4 144 RX4 yX4_isLook wsX4_isLook) := goodIn_app (goodIn_of _ (by decide +kernel)) ggX4_firstFailingSet_X4_isLook
set_option maxRecDepth 20000 in
theorem ggX4_firstFailingSet_X4_fails : GoodIn wsX4_firstFailingSet wsX4_fails := goodIn_r _ [28, 11, 29, 30, 31, 32, 33, 34, 35, 36, 37, 38, 39, 40, 41, 42, 43, 44, 45, 46, 47, 48, 49, 50, 51, 52, 53, 54, 55, 56, 57, 58, 19, 20, 21, 22, 23, 24, 59, 60, 61, 62, 63, 64, 65, 66, 67, 68] (by decide +kernel) (by decide +kernel)
set_option maxRecDepth 20000 in
theorem gX4_firstFailingSet_X4_fails : GoodIn wsX4_firstFailingSet (wsV RX4 147 RX4 yX4_fails wsX4_fails) := goodIn_app (goodIn_of _ (by decide +kernel)) ggX4_firstFailingSet_X4_fails
theorem dX4_firstFailingSet_0 : decode cX4_firstFailingSet 0 = .ok (.iconst 0, 1) := by decide +kernel
theorem dX4_firstFailingSet_1 : decode cX4_firstFailingSet 1 = .ok (.istore_n 1, 1) := by decide +kernel
theorem dX4_firstFailingSet_2 : decode cX4_firstFailingSet 2 = .ok (.iload_n 1, 1) := by decide +kernel
theorem dX4_firstFailingSet_3 : decode cX4_firstFailingSet 3 = .ok (.bipush 63, 2) := by decide +kernel
theorem dX4_firstFailingSet_5 : decode cX4_firstFailingSet 5 = .ok (.if_icmp .gt 31, 3) := by decide +kernel
theorem dX4_firstFailingSet_8 : decode cX4_firstFailingSet 8 = .ok (.aload_n 0, 1) := by decide +kernel
theorem dX4_firstFailingSet_9 : decode cX4_firstFailingSet 9 = .ok (.iconst 5, 1) := by decide +kernel
theorem dX4_firstFailingSet_10 : decode cX4_firstFailingSet 10 = .ok (.iload_n 1, 1) := by decide +kernel
theorem dX4_firstFailingSet_11 : decode cX4_firstFailingSet 11 = .ok (.iconst 0, 1) := by decide +kernel
theorem dX4_firstFailingSet_12 : decode cX4_firstFailingSet 12 = .ok (.invokevirtual 144, 3) := by decide +kernel
theorem dX4_firstFailingSet_15 : decode cX4_firstFailingSet 15 = .ok (.ifCond .eq 15, 3) := by decide +kernel
theorem dX4_firstFailingSet_18 : decode cX4_firstFailingSet 18 = .ok (.aload_n 0, 1) := by decide +kernel
theorem dX4_firstFailingSet_19 : decode cX4_firstFailingSet 19 = .ok (.iconst 5, 1) := by decide +kernel
theorem dX4_firstFailingSet_20 : decode cX4_firstFailingSet 20 = .ok (.iload_n 1, 1) := by decide +kernel
theorem dX4_firstFailingSet_21 : decode cX4_firstFailingSet 21 = .ok (.iconst 0, 1) := by decide +kernel
theorem dX4_firstFailingSet_22 : decode cX4_firstFailingSet 22 = .ok (.invokevirtual 147, 3) := by decide +kernel
theorem dX4_firstFailingSet_25 : decode cX4_firstFailingSet 25 = .ok (.ifCond .eq 5, 3) := by decide +kernel
theorem dX4_firstFailingSet_28 : decode cX4_firstFailingSet 28 = .ok (.iload_n 1, 1) := by decide +kernel
theorem dX4_firstFailingSet_29 : decode cX4_firstFailingSet 29 = .ok (.ireturn, 1) := by decide +kernel
theorem dX4_firstFailingSet_30 : decode cX4_firstFailingSet 30 = .ok (.iinc 1 1, 3) := by decide +kernel
theorem dX4_firstFailingSet_33 : decode cX4_firstFailingSet 33 = .ok (.goto (-31), 3) := by decide +kernel
theorem dX4_firstFailingSet_36 : decode cX4_firstFailingSet 36 = .ok (.iconst (-1), 1) := by decide +kernel
theorem dX4_firstFailingSet_37 : decode cX4_firstFailingSet 37 = .ok (.ireturn, 1) := by decide +kernel
set_option maxRecDepth 20000 in
theorem ggX4_firstFailingPair_X4_isLook : GoodIn wsX4_firstFailingPair wsX4_isLook := goodIn_r _ [5, 6, 7, 8, 9, 4, 10, 11, 12, 13, 14, 15, 16, 17, 18, 19, 20, 21, 22, 23, 24, 59, 60, 61, 62, 63, 64, 65, 66] (by decide +kernel) (by decide +kernel)
set_option maxRecDepth 20000 in
theorem gX4_firstFailingPair_X4_isLook : GoodIn wsX4_firstFailingPair (wsV RX4 144 RX4 yX4_isLook wsX4_isLook) := goodIn_app (goodIn_of _ (by decide +kernel)) ggX4_firstFailingPair_X4_isLook
set_option maxRecDepth 20000 in
theorem ggX4_firstFailingPair_X4_fails : GoodIn wsX4_firstFailingPair wsX4_fails := goodIn_r _ [28, 11, 29, 30, 31, 32, 33, 34, 35, 36, 37, 38, 39, 40, 41, 42, 43, 44, 45, 46, 47, 48, 49, 50, 51, 52, 53, 54, 55, 56, 57, 58, 19, 20, 21, 22, 23, 24, 59, 60, 61, 62, 63, 64, 65, 66, 67, 68] (by decide +kernel) (by decide +kernel)
set_option maxRecDepth 20000 in
theorem gX4_firstFailingPair_X4_fails : GoodIn wsX4_firstFailingPair (wsV RX4 147 RX4 yX4_fails wsX4_fails) := goodIn_app (goodIn_of _ (by decide +kernel)) ggX4_firstFailingPair_X4_fails
theorem dX4_firstFailingPair_0 : decode cX4_firstFailingPair 0 = .ok (.iconst 0, 1) := by decide +kernel
theorem dX4_firstFailingPair_1 : decode cX4_firstFailingPair 1 = .ok (.istore_n 2, 1) := by decide +kernel
theorem dX4_firstFailingPair_2 : decode cX4_firstFailingPair 2 = .ok (.iload_n 2, 1) := by decide +kernel
theorem dX4_firstFailingPair_3 : decode cX4_firstFailingPair 3 = .ok (.bipush 8, 2) := by decide +kernel
theorem dX4_firstFailingPair_5 : decode cX4_firstFailingPair 5 = .ok (.if_icmp .ge 50, 3) := by decide +kernel
theorem dX4_firstFailingPair_8 : decode cX4_firstFailingPair 8 = .ok (.iconst 0, 1) := by decide +kernel
theorem dX4_firstFailingPair_9 : decode cX4_firstFailingPair 9 = .ok (.istore_n 3, 1) := by decide +kernel
theorem dX4_firstFailingPair_10 : decode cX4_firstFailingPair 10 = .ok (.iload_n 3, 1) := by decide +kernel
theorem dX4_firstFailingPair_11 : decode cX4_firstFailingPair 11 = .ok (.bipush 8, 2) := by decide +kernel
theorem dX4_firstFailingPair_13 : decode cX4_firstFailingPair 13 = .ok (.if_icmp .ge 36, 3) := by decide +kernel
theorem dX4_firstFailingPair_16 : decode cX4_firstFailingPair 16 = .ok (.aload_n 0, 1) := by decide +kernel
theorem dX4_firstFailingPair_17 : decode cX4_firstFailingPair 17 = .ok (.iload_n 1, 1) := by decide +kernel
theorem dX4_firstFailingPair_18 : decode cX4_firstFailingPair 18 = .ok (.iload_n 2, 1) := by decide +kernel
theorem dX4_firstFailingPair_19 : decode cX4_firstFailingPair 19 = .ok (.iload_n 3, 1) := by decide +kernel
theorem dX4_firstFailingPair_20 : decode cX4_firstFailingPair 20 = .ok (.invokevirtual 144, 3) := by decide +kernel
theorem dX4_firstFailingPair_23 : decode cX4_firstFailingPair 23 = .ok (.ifCond .eq 20, 3) := by decide +kernel
theorem dX4_firstFailingPair_26 : decode cX4_firstFailingPair 26 = .ok (.aload_n 0, 1) := by decide +kernel
theorem dX4_firstFailingPair_27 : decode cX4_firstFailingPair 27 = .ok (.iload_n 1, 1) := by decide +kernel
theorem dX4_firstFailingPair_28 : decode cX4_firstFailingPair 28 = .ok (.iload_n 2, 1) := by decide +kernel
theorem dX4_firstFailingPair_29 : decode cX4_firstFailingPair 29 = .ok (.iload_n 3, 1) := by decide +kernel
theorem dX4_firstFailingPair_30 : decode cX4_firstFailingPair 30 = .ok (.invokevirtual 147, 3) := by decide +kernel
theorem dX4_firstFailingPair_33 : decode cX4_firstFailingPair 33 = .ok (.ifCond .eq 10, 3) := by decide +kernel
theorem dX4_firstFailingPair_36 : decode cX4_firstFailingPair 36 = .ok (.bipush 100, 2) := by decide +kernel
theorem dX4_firstFailingPair_38 : decode cX4_firstFailingPair 38 = .ok (.iload_n 2, 1) := by decide +kernel
theorem dX4_firstFailingPair_39 : decode cX4_firstFailingPair 39 = .ok (.imul, 1) := by decide +kernel
theorem dX4_firstFailingPair_40 : decode cX4_firstFailingPair 40 = .ok (.iload_n 3, 1) := by decide +kernel
theorem dX4_firstFailingPair_41 : decode cX4_firstFailingPair 41 = .ok (.iadd, 1) := by decide +kernel
theorem dX4_firstFailingPair_42 : decode cX4_firstFailingPair 42 = .ok (.ireturn, 1) := by decide +kernel
theorem dX4_firstFailingPair_43 : decode cX4_firstFailingPair 43 = .ok (.iinc 3 1, 3) := by decide +kernel
theorem dX4_firstFailingPair_46 : decode cX4_firstFailingPair 46 = .ok (.goto (-36), 3) := by decide +kernel
theorem dX4_firstFailingPair_49 : decode cX4_firstFailingPair 49 = .ok (.iinc 2 1, 3) := by decide +kernel
theorem dX4_firstFailingPair_52 : decode cX4_firstFailingPair 52 = .ok (.goto (-50), 3) := by decide +kernel
theorem dX4_firstFailingPair_55 : decode cX4_firstFailingPair 55 = .ok (.iconst (-1), 1) := by decide +kernel
theorem dX4_firstFailingPair_56 : decode cX4_firstFailingPair 56 = .ok (.ireturn, 1) := by decide +kernel
end
section
theorem dX5_init_0 : decode cX5_init 0 = .ok (.aload_n 0, 1) := by decide +kernel
theorem dX5_init_1 : decode cX5_init 1 = .ok (.invokespecial 1, 3) := by decide +kernel
theorem dX5_init_4 : decode cX5_init 4 = .ok (.aload_n 0, 1) := by decide +kernel
theorem dX5_init_5 : decode cX5_init 5 = .ok (.bipush 8, 2) := by decide +kernel
theorem dX5_init_7 : decode cX5_init 7 = .ok (.putfield 7, 3) := by decide +kernel
theorem dX5_init_10 : decode cX5_init 10 = .ok (.aload_n 0, 1) := by decide +kernel
theorem dX5_init_11 : decode cX5_init 11 = .ok (.bipush 8, 2) := by decide +kernel
theorem dX5_init_13 : decode cX5_init 13 = .ok (.newarray .int, 2) := by decide +kernel
theorem dX5_init_15 : decode cX5_init 15 = .ok (.putfield 13, 3) := by decide +kernel
theorem dX5_init_18 : decode cX5_init 18 = .ok (.aload_n 0, 1) := by decide +kernel
theorem dX5_init_19 : decode cX5_init 19 = .ok (.bipush 8, 2) := by decide +kernel
theorem dX5_init_21 : decode cX5_init 21 = .ok (.newarray .int, 2) := by decide +kernel
theorem dX5_init_23 : decode cX5_init 23 = .ok (.putfield 17, 3) := by decide +kernel
theorem dX5_init_26 : decode cX5_init 26 = .ok (.aload_n 0, 1) := by decide +kernel
theorem dX5_init_27 : decode cX5_init 27 = .ok (.bipush 6, 2) := by decide +kernel
theorem dX5_init_29 : decode cX5_init 29 = .ok (.newarray .int, 2) := by decide +kernel
theorem dX5_init_31 : decode cX5_init 31 = .ok (.putfield 20, 3) := by decide +kernel
theorem dX5_init_34 : decode cX5_init 34 = .ok (.aload_n 0, 1) := by decide +kernel
theorem dX5_init_35 : decode cX5_init 35 = .ok (.iconst 3, 1) := by decide +kernel
theorem dX5_init_36 : decode cX5_init 36 = .ok (.putfield 23, 3) := by decide +kernel
theorem dX5_init_39 : decode cX5_init 39 = .ok (.aload_n 0, 1) := by decide +kernel
theorem dX5_init_40 : decode cX5_init 40 = .ok (.bipush 8, 2) := by decide +kernel
theorem dX5_init_42 : decode cX5_init 42 = .ok (.newarray .int, 2) := by decide +kernel
theorem dX5_init_44 : decode cX5_init 44 = .ok (.putfield 26, 3) := by decide +kernel
theorem dX5_init_47 : decode cX5_init 47 = .ok (.aload_n 0, 1) := by decide +kernel
theorem dX5_init_48 : decode cX5_init 48 = .ok (.bipush 8, 2) := by decide +kernel
theorem dX5_init_50 : decode cX5_init 50 = .ok (.newarray .int, 2) := by decide +kernel
theorem dX5_init_52 : decode cX5_init 52 = .ok (.putfield 29, 3) := by decide +kernel
theorem dX5_init_55 : decode cX5_init 55 = .ok (.return_, 1) := by decide +kernel
theorem dX5_in_0 : decode cX5_in 0 = .ok (.iload_n 0, 1) := by decide +kernel
theorem dX5_in_1 : decode cX5_in 1 = .ok (.iload_n 1, 1) := by decide +kernel
theorem dX5_in_2 : decode cX5_in 2 = .ok (.if_icmp .lt 12, 3) := by decide +kernel
theorem dX5_in_5 : decode cX5_in 5 = .ok (.iload_n 0, 1) := by decide +kernel
theorem dX5_in_6 : decode cX5_in 6 = .ok (.iload_n 2, 1) := by decide +kernel
theorem dX5_in_7 : decode cX5_in 7 = .ok (.if_icmp .gt 7, 3) := by decide +kernel
theorem dX5_in_10 : decode cX5_in 10 = .ok (.iconst 1, 1) := by decide +kernel
theorem dX5_in_11 : decode cX5_in 11 = .ok (.goto 4, 3) := by decide +kernel
theorem dX5_in_14 : decode cX5_in 14 = .ok (.iconst 0, 1) := by decide +kernel
theorem dX5_in_15 : decode cX5_in 15 = .ok (.ireturn, 1) := by decide +kernel
theorem dX5_ones_0 : decode cX5_ones 0 = .ok (.iconst 0, 1) := by decide +kernel
theorem dX5_ones_1 : decode cX5_ones 1 = .ok (.istore_n 1, 1) := by decide +kernel
theorem dX5_ones_2 : decode cX5_ones 2 = .ok (.iconst 0, 1) := by decide +kernel
theorem dX5_ones_3 : decode cX5_ones 3 = .ok (.istore_n 2, 1) := by decide +kernel
theorem dX5_ones_4 : decode cX5_ones 4 = .ok (.iload_n 2, 1) := by decide +kernel
theorem dX5_ones_5 : decode cX5_ones 5 = .ok (.bipush 8, 2) := by decide +kernel
theorem dX5_ones_7 : decode cX5_ones 7 = .ok (.if_icmp .ge 17, 3) := by decide +kernel
theorem dX5_ones_10 : decode cX5_ones 10 = .ok (.iload_n 1, 1) := by decide +kernel
theorem dX5_ones_11 : decode cX5_ones 11 = .ok (.iload_n 0, 1) := by decide +kernel
theorem dX5_ones_12 : decode cX5_ones 12 = .ok (.iload_n 2, 1) := by decide +kernel
theorem dX5_ones_13 : decode cX5_ones 13 = .ok (.ishr, 1) := by decide +kernel
theorem dX5_ones_14 : decode cX5_ones 14 = .ok (.iconst 1, 1) := by decide +kernel
theorem dX5_ones_15 : decode cX5_ones 15 = .ok (.iand, 1) := by decide +kernel
theorem dX5_ones_16 : decode cX5_ones 16 = .ok (.iadd, 1) := by decide +kernel
theorem dX5_ones_17 : decode cX5_ones 17 = .ok (.istore_n 1, 1) := by decide +kernel
theorem dX5_ones_18 : decode cX5_ones 18 = .ok (.iinc 2 1, 3) := by decide +kernel
theorem dX5_ones_21 : decode cX5_ones 21 = .ok (.goto (-17), 3) := by decide +kernel
theorem dX5_ones_24 : decode cX5_ones 24 = .ok (.iload_n 1, 1) := by decide +kernel
theorem dX5_ones_25 : decode cX5_ones 25 = .ok (.ireturn, 1) := by decide +kernel
set_option maxRecDepth 20000 in
theorem ggX5_isSubject_X5_in : GoodIn wsX5_isSubject wsX5_in := goodIn_r _ [4] (by decide +kernel) (by decide +kernel)
set_option maxRecDepth 20000 in
theorem gX5_isSubject_X5_in : GoodIn wsX5_isSubject (va_wsS RX5 32 yX5_in wsX5_in) := goodIn_app (goodIn_of _ (by decide +kernel)) ggX5_isSubject_X5_in
theorem dX5_isSubject_0 : decode cX5_isSubject 0 = .ok (.iload_n 0, 1) := by decide +kernel
theorem dX5_isSubject_1 : decode cX5_isSubject 1 = .ok (.iconst 0, 1) := by decide +kernel
theorem dX5_isSubject_2 : decode cX5_isSubject 2 = .ok (.iconst 5, 1) := by decide +kernel
theorem dX5_isSubject_3 : decode cX5_isSubject 3 = .ok (.invokestatic 32, 3) := by decide +kernel
theorem dX5_isSubject_6 : decode cX5_isSubject 6 = .ok (.ireturn, 1) := by decide +kernel
set_option maxRecDepth 20000 in
theorem ggX5_isPlace_X5_in : GoodIn wsX5_isPlace wsX5_in := goodIn_r _ [5] (by decide +kernel) (by decide +kernel)
set_option maxRecDepth 20000 in
theorem gX5_isPlace_X5_in : GoodIn wsX5_isPlace (va_wsS RX5 32 yX5_in wsX5_in) := goodIn_app (goodIn_of _ (by decide +kernel)) ggX5_isPlace_X5_in
theorem dX5_isPlace_0 : decode cX5_isPlace 0 = .ok (.iload_n 1, 1) := by decide +kernel
theorem dX5_isPlace_1 : decode cX5_isPlace 1 = .ok (.iconst 0, 1) := by decide +kernel
theorem dX5_isPlace_2 : decode cX5_isPlace 2 = .ok (.aload_n 0, 1) := by decide +kernel
theorem dX5_isPlace_3 : decode cX5_isPlace 3 = .ok (.getfield 7, 3) := by decide +kernel
theorem dX5_isPlace_6 : decode cX5_isPlace 6 = .ok (.iconst 1, 1) := by decide +kernel
theorem dX5_isPlace_7 : decode cX5_isPlace 7 = .ok (.isub, 1) := by decide +kernel
theorem dX5_isPlace_8 : decode cX5_isPlace 8 = .ok (.invokestatic 32, 3) := by decide +kernel
theorem dX5_isPlace_11 : decode cX5_isPlace 11 = .ok (.ireturn, 1) := by decide +kernel
set_option maxRecDepth 20000 in
theorem ggX5_isEight_X5_in : GoodIn wsX5_isEight wsX5_in := goodIn_r _ [4] (by decide +kernel) (by decide +kernel)
set_option maxRecDepth 20000 in
theorem gX5_isEight_X5_in : GoodIn wsX5_isEight (va_wsS RX5 32 yX5_in wsX5_in) := goodIn_app (goodIn_of _ (by decide +kernel)) ggX5_isEight_X5_in
theorem dX5_isEight_0 : decode cX5_isEight 0 = .ok (.iload_n 0, 1) := by decide +kernel
theorem dX5_isEight_1 : decode cX5_isEight 1 = .ok (.iconst 0, 1) := by decide +kernel
theorem dX5_isEight_2 : decode cX5_isEight 2 = .ok (.bipush 7, 2) := by decide +kernel
theorem dX5_isEight_4 : decode cX5_isEight 4 = .ok (.invokestatic 32, 3) := by decide +kernel
theorem dX5_isEight_7 : decode cX5_isEight 7 = .ok (.ireturn, 1) := by decide +kernel
set_option maxRecDepth 20000 in
theorem ggX5_isBit_X5_in : GoodIn wsX5_isBit wsX5_in := goodIn_r _ [4] (by decide +kernel) (by decide +kernel)
set_option maxRecDepth 20000 in
theorem gX5_isBit_X5_in : GoodIn wsX5_isBit (va_wsS RX5 32 yX5_in wsX5_in) := goodIn_app (goodIn_of _ (by decide +kernel)) ggX5_isBit_X5_in
theorem dX5_isBit_0 : decode cX5_isBit 0 = .ok (.iload_n 0, 1) := by decide +kernel
theorem dX5_isBit_1 : decode cX5_isBit 1 = .ok (.iconst 0, 1) := by decide +kernel
theorem dX5_isBit_2 : decode cX5_isBit 2 = .ok (.iconst 1, 1) := by decide +kernel
theorem dX5_isBit_3 : decode cX5_isBit 3 = .ok (.invokestatic 32, 3) := by decide +kernel
theorem dX5_isBit_6 : decode cX5_isBit 6 = .ok (.ireturn, 1) := by decide +kernel
set_option maxRecDepth 20000 in
theorem ggX5_places_X5_in : GoodIn wsX5_places wsX5_in := goodIn_r _ [6] (by decide +kernel) (by decide +kernel)
set_option maxRecDepth 20000 in
theorem gX5_places_X5_in : GoodIn wsX5_places (va_wsS RX5 32 yX5_in wsX5_in) := goodIn_app (goodIn_of _ (by decide +kernel)) ggX5_places_X5_in
theorem dX5_places_0 : decode cX5_places 0 = .ok (.iload_n 1, 1) := by decide +kernel
theorem dX5_places_1 : decode cX5_places 1 = .ok (.iconst 2, 1) := by decide +kernel
theorem dX5_places_2 : decode cX5_places 2 = .ok (.bipush 8, 2) := by decide +kernel
theorem dX5_places_4 : decode cX5_places 4 = .ok (.invokestatic 32, 3) := by decide +kernel
theorem dX5_places_7 : decode cX5_places 7 = .ok (.ifCond .ne 6, 3) := by decide +kernel
theorem dX5_places_10 : decode cX5_places 10 = .ok (.bipush (-2), 2) := by decide +kernel
theorem dX5_places_12 : decode cX5_places 12 = .ok (.ireturn, 1) := by decide +kernel
theorem dX5_places_13 : decode cX5_places 13 = .ok (.aload_n 0, 1) := by decide +kernel
theorem dX5_places_14 : decode cX5_places 14 = .ok (.getfield 7, 3) := by decide +kernel
theorem dX5_places_17 : decode cX5_places 17 = .ok (.istore_n 2, 1) := by decide +kernel
theorem dX5_places_18 : decode cX5_places 18 = .ok (.aload_n 0, 1) := by decide +kernel
theorem dX5_places_19 : decode cX5_places 19 = .ok (.iload_n 1, 1) := by decide +kernel
theorem dX5_places_20 : decode cX5_places 20 = .ok (.putfield 7, 3) := by decide +kernel
theorem dX5_places_23 : decode cX5_places 23 = .ok (.iconst 0, 1) := by decide +kernel
theorem dX5_places_24 : decode cX5_places 24 = .ok (.istore_n 3, 1) := by decide +kernel
theorem dX5_places_25 : decode cX5_places 25 = .ok (.iload_n 3, 1) := by decide +kernel
theorem dX5_places_26 : decode cX5_places 26 = .ok (.bipush 8, 2) := by decide +kernel
theorem dX5_places_28 : decode cX5_places 28 = .ok (.if_icmp .ge 16, 3) := by decide +kernel
theorem dX5_places_31 : decode cX5_places 31 = .ok (.aload_n 0, 1) := by decide +kernel
theorem dX5_places_32 : decode cX5_places 32 = .ok (.getfield 13, 3) := by decide +kernel
theorem dX5_places_35 : decode cX5_places 35 = .ok (.iload_n 3, 1) := by decide +kernel
theorem dX5_places_36 : decode cX5_places 36 = .ok (.iconst 0, 1) := by decide +kernel
theorem dX5_places_37 : decode cX5_places 37 = .ok (.iastore, 1) := by decide +kernel
theorem dX5_places_38 : decode cX5_places 38 = .ok (.iinc 3 1, 3) := by decide +kernel
theorem dX5_places_41 : decode cX5_places 41 = .ok (.goto (-16), 3) := by decide +kernel
theorem dX5_places_44 : decode cX5_places 44 = .ok (.iload_n 2, 1) := by decide +kernel
theorem dX5_places_45 : decode cX5_places 45 = .ok (.ireturn, 1) := by decide +kernel
set_option maxRecDepth 20000 in
theorem ggX5_digit_X5_isPlace : GoodIn wsX5_digit wsX5_isPlace := goodIn_r _ [6, 7, 8, 9, 5, 10, 11, 12, 13, 14, 15, 16, 17, 18, 19, 20, 21] (by decide +kernel) (by decide +kernel)
set_option maxRecDepth 20000 in
theorem gX5_digit_X5_isPlace : GoodIn wsX5_digit (wsV RX5 36 RX5 yX5_isPlace wsX5_isPlace) := goodIn_app (goodIn_of _ (by decide +kernel)) ggX5_digit_X5_isPlace
set_option maxRecDepth 20000 in
theorem ggX5_digit_X5_in : GoodIn wsX5_digit wsX5_in := goodIn_r _ [10] (by decide +kernel) (by decide +kernel)
set_option maxRecDepth 20000 in
theorem gX5_digit_X5_in : GoodIn wsX5_digit (va_wsS RX5 32 yX5_in wsX5_in) := goodIn_app (goodIn_of _ (by decide +kernel)) ggX5_digit_X5_in
theorem dX5_digit_0 : decode cX5_digit 0 = .ok (.aload_n 0, 1) := by decide +kernel
theorem dX5_digit_1 : decode cX5_digit 1 = .ok (.iload_n 1, 1) := by decide +kernel
theorem dX5_digit_2 : decode cX5_digit 2 = .ok (.invokevirtual 36, 3) := by decide +kernel
theorem dX5_digit_5 : decode cX5_digit 5 = .ok (.ifCond .eq 12, 3) := by decide +kernel
theorem dX5_digit_8 : decode cX5_digit 8 = .ok (.iload_n 2, 1) := by decide +kernel
theorem dX5_digit_9 : decode cX5_digit 9 = .ok (.iconst 0, 1) := by decide +kernel
theorem dX5_digit_10 : decode cX5_digit 10 = .ok (.iconst 3, 1) := by decide +kernel
theorem dX5_digit_11 : decode cX5_digit 11 = .ok (.invokestatic 32, 3) := by decide +kernel
theorem dX5_digit_14 : decode cX5_digit 14 = .ok (.ifCond .ne 6, 3) := by decide +kernel
theorem dX5_digit_17 : decode cX5_digit 17 = .ok (.bipush (-2), 2) := by decide +kernel
theorem dX5_digit_19 : decode cX5_digit 19 = .ok (.ireturn, 1) := by decide +kernel
theorem dX5_digit_20 : decode cX5_digit 20 = .ok (.aload_n 0, 1) := by decide +kernel
theorem dX5_digit_21 : decode cX5_digit 21 = .ok (.getfield 13, 3) := by decide +kernel
theorem dX5_digit_24 : decode cX5_digit 24 = .ok (.iload_n 1, 1) := by decide +kernel
theorem dX5_digit_25 : decode cX5_digit 25 = .ok (.iaload, 1) := by decide +kernel
theorem dX5_digit_26 : decode cX5_digit 26 = .ok (.istore_n 3, 1) := by decide +kernel
theorem dX5_digit_27 : decode cX5_digit 27 = .ok (.aload_n 0, 1) := by decide +kernel
theorem dX5_digit_28 : decode cX5_digit 28 = .ok (.getfield 13, 3) := by decide +kernel
theorem dX5_digit_31 : decode cX5_digit 31 = .ok (.iload_n 1, 1) := by decide +kernel
theorem dX5_digit_32 : decode cX5_digit 32 = .ok (.iload_n 2, 1) := by decide +kernel
theorem dX5_digit_33 : decode cX5_digit 33 = .ok (.iastore, 1) := by decide +kernel
theorem dX5_digit_34 : decode cX5_digit 34 = .ok (.iload_n 3, 1) := by decide +kernel
theorem dX5_digit_35 : decode cX5_digit 35 = .ok (.ireturn, 1) := by decide +kernel
set_option maxRecDepth 20000 in
theorem ggX5_bit_X5_isEight : GoodIn wsX5_bit wsX5_isEight := goodIn_r _ [5, 6, 7, 4, 8] (by decide +kernel) (by decide +kernel)
set_option maxRecDepth 20000 in
theorem gX5_bit_X5_isEight : GoodIn wsX5_bit (va_wsS RX5 40 yX5_isEight wsX5_isEight) := goodIn_app (goodIn_of _ (by decide +kernel)) ggX5_bit_X5_isEight
set_option maxRecDepth 20000 in
theorem ggX5_bit_X5_isBit : GoodIn wsX5_bit wsX5_isBit := goodIn_r _ [11, 6, 7, 4, 8] (by decide +kernel) (by decide +kernel)
set_option maxRecDepth 20000 in
theorem gX5_bit_X5_isBit : GoodIn wsX5_bit (va_wsS RX5 43 yX5_isBit wsX5_isBit) := goodIn_app (goodIn_of _ (by decide +kernel)) ggX5_bit_X5_isBit
theorem dX5_bit_0 : decode cX5_bit 0 = .ok (.iload_n 1, 1) := by decide +kernel
theorem dX5_bit_1 : decode cX5_bit 1 = .ok (.invokestatic 40, 3) := by decide +kernel
theorem dX5_bit_4 : decode cX5_bit 4 = .ok (.ifCond .eq 10, 3) := by decide +kernel
theorem dX5_bit_7 : decode cX5_bit 7 = .ok (.iload_n 2, 1) := by decide +kernel
theorem dX5_bit_8 : decode cX5_bit 8 = .ok (.invokestatic 43, 3) := by decide +kernel
theorem dX5_bit_11 : decode cX5_bit 11 = .ok (.ifCond .ne 6, 3) := by decide +kernel
theorem dX5_bit_14 : decode cX5_bit 14 = .ok (.bipush (-2), 2) := by decide +kernel
theorem dX5_bit_16 : decode cX5_bit 16 = .ok (.ireturn, 1) := by decide +kernel
theorem dX5_bit_17 : decode cX5_bit 17 = .ok (.aload_n 0, 1) := by decide +kernel
theorem dX5_bit_18 : decode cX5_bit 18 = .ok (.getfield 17, 3) := by decide +kernel
theorem dX5_bit_21 : decode cX5_bit 21 = .ok (.iload_n 1, 1) := by decide +kernel
theorem dX5_bit_22 : decode cX5_bit 22 = .ok (.iaload, 1) := by decide +kernel
theorem dX5_bit_23 : decode cX5_bit 23 = .ok (.istore_n 3, 1) := by decide +kernel
theorem dX5_bit_24 : decode cX5_bit 24 = .ok (.aload_n 0, 1) := by decide +kernel
theorem dX5_bit_25 : decode cX5_bit 25 = .ok (.getfield 17, 3) := by decide +kernel
theorem dX5_bit_28 : decode cX5_bit 28 = .ok (.iload_n 1, 1) := by decide +kernel
theorem dX5_bit_29 : decode cX5_bit 29 = .ok (.iload_n 2, 1) := by decide +kernel
theorem dX5_bit_30 : decode cX5_bit 30 = .ok (.iastore, 1) := by decide +kernel
theorem dX5_bit_31 : decode cX5_bit 31 = .ok (.iload_n 3, 1) := by decide +kernel
theorem dX5_bit_32 : decode cX5_bit 32 = .ok (.ireturn, 1) := by decide +kernel
set_option maxRecDepth 20000 in
theorem ggX5_parity_X5_ones : GoodIn wsX5_parity wsX5_ones := goodIn_r _ [4] (by decide +kernel) (by decide +kernel)
set_option maxRecDepth 20000 in
theorem gX5_parity_X5_ones : GoodIn wsX5_parity (va_wsS RX5 46 yX5_ones wsX5_ones) := goodIn_app (goodIn_of _ (by decide +kernel)) ggX5_parity_X5_ones
theorem dX5_parity_0 : decode cX5_parity 0 = .ok (.iload_n 0, 1) := by decide +kernel
theorem dX5_parity_1 : decode cX5_parity 1 = .ok (.iload_n 1, 1) := by decide +kernel
theorem dX5_parity_2 : decode cX5_parity 2 = .ok (.iand, 1) := by decide +kernel
theorem dX5_parity_3 : decode cX5_parity 3 = .ok (.invokestatic 46, 3) := by decide +kernel
theorem dX5_parity_6 : decode cX5_parity 6 = .ok (.iconst 2, 1) := by decide +kernel
theorem dX5_parity_7 : decode cX5_parity 7 = .ok (.irem, 1) := by decide +kernel
theorem dX5_parity_8 : decode cX5_parity 8 = .ok (.ireturn, 1) := by decide +kernel
set_option maxRecDepth 20000 in
theorem ggX5_linear_X5_isEight : GoodIn wsX5_linear wsX5_isEight := goodIn_r _ [5, 6, 7, 4, 8] (by decide +kernel) (by decide +kernel)
set_option maxRecDepth 20000 in
theorem gX5_linear_X5_isEight : GoodIn wsX5_linear (va_wsS RX5 40 yX5_isEight wsX5_isEight) := goodIn_app (goodIn_of _ (by decide +kernel)) ggX5_linear_X5_isEight
set_option maxRecDepth 20000 in
theorem ggX5_linear_X5_parity : GoodIn wsX5_linear wsX5_parity := goodIn_r _ [11, 12, 13, 4, 14] (by decide +kernel) (by decide +kernel)
set_option maxRecDepth 20000 in
theorem gX5_linear_X5_parity : GoodIn wsX5_linear (va_wsS RX5 50 yX5_parity wsX5_parity) := goodIn_app (goodIn_of _ (by decide +kernel)) ggX5_linear_X5_parity
theorem dX5_linear_0 : decode cX5_linear 0 = .ok (.iload_n 1, 1) := by decide +kernel
theorem dX5_linear_1 : decode cX5_linear 1 = .ok (.invokestatic 40, 3) := by decide +kernel
theorem dX5_linear_4 : decode cX5_linear 4 = .ok (.ifCond .ne 6, 3) := by decide +kernel
theorem dX5_linear_7 : decode cX5_linear 7 = .ok (.bipush (-2), 2) := by decide +kernel
theorem dX5_linear_9 : decode cX5_linear 9 = .ok (.ireturn, 1) := by decide +kernel
theorem dX5_linear_10 : decode cX5_linear 10 = .ok (.iconst 0, 1) := by decide +kernel
theorem dX5_linear_11 : decode cX5_linear 11 = .ok (.istore_n 2, 1) := by decide +kernel
theorem dX5_linear_12 : decode cX5_linear 12 = .ok (.iload_n 2, 1) := by decide +kernel
theorem dX5_linear_13 : decode cX5_linear 13 = .ok (.bipush 8, 2) := by decide +kernel
theorem dX5_linear_15 : decode cX5_linear 15 = .ok (.if_icmp .ge 20, 3) := by decide +kernel
theorem dX5_linear_18 : decode cX5_linear 18 = .ok (.aload_n 0, 1) := by decide +kernel
theorem dX5_linear_19 : decode cX5_linear 19 = .ok (.getfield 17, 3) := by decide +kernel
theorem dX5_linear_22 : decode cX5_linear 22 = .ok (.iload_n 2, 1) := by decide +kernel
theorem dX5_linear_23 : decode cX5_linear 23 = .ok (.iload_n 1, 1) := by decide +kernel
theorem dX5_linear_24 : decode cX5_linear 24 = .ok (.iload_n 2, 1) := by decide +kernel
theorem dX5_linear_25 : decode cX5_linear 25 = .ok (.invokestatic 50, 3) := by decide +kernel
theorem dX5_linear_28 : decode cX5_linear 28 = .ok (.iastore, 1) := by decide +kernel
theorem dX5_linear_29 : decode cX5_linear 29 = .ok (.iinc 2 1, 3) := by decide +kernel
theorem dX5_linear_32 : decode cX5_linear 32 = .ok (.goto (-20), 3) := by decide +kernel
theorem dX5_linear_35 : decode cX5_linear 35 = .ok (.iconst 1, 1) := by decide +kernel
theorem dX5_linear_36 : decode cX5_linear 36 = .ok (.ireturn, 1) := by decide +kernel
set_option maxRecDepth 20000 in
theorem ggX5_isPoint_X5_in : GoodIn wsX5_isPoint wsX5_in := goodIn_r _ [4] (by decide +kernel) (by decide +kernel)
set_option maxRecDepth 20000 in
theorem gX5_isPoint_X5_in : GoodIn wsX5_isPoint (va_wsS RX5 32 yX5_in wsX5_in) := goodIn_app (goodIn_of _ (by decide +kernel)) ggX5_isPoint_X5_in
theorem dX5_isPoint_0 : decode cX5_isPoint 0 = .ok (.iload_n 0, 1) := by decide +kernel
theorem dX5_isPoint_1 : decode cX5_isPoint 1 = .ok (.iconst 0, 1) := by decide +kernel
theorem dX5_isPoint_2 : decode cX5_isPoint 2 = .ok (.iconst 5, 1) := by decide +kernel
theorem dX5_isPoint_3 : decode cX5_isPoint 3 = .ok (.invokestatic 32, 3) := by decide +kernel
theorem dX5_isPoint_6 : decode cX5_isPoint 6 = .ok (.ireturn, 1) := by decide +kernel
set_option maxRecDepth 20000 in
theorem ggX5_line_X5_isPoint : GoodIn wsX5_line wsX5_isPoint := goodIn_r _ [5, 6, 7, 4, 8] (by decide +kernel) (by decide +kernel)
set_option maxRecDepth 20000 in
theorem gX5_line_X5_isPoint : GoodIn wsX5_line (va_wsS RX5 54 yX5_isPoint wsX5_isPoint) := goodIn_app (goodIn_of _ (by decide +kernel)) ggX5_line_X5_isPoint
theorem dX5_line_0 : decode cX5_line 0 = .ok (.iload_n 1, 1) := by decide +kernel
theorem dX5_line_1 : decode cX5_line 1 = .ok (.invokestatic 54, 3) := by decide +kernel
theorem dX5_line_4 : decode cX5_line 4 = .ok (.ifCond .eq 15, 3) := by decide +kernel
theorem dX5_line_7 : decode cX5_line 7 = .ok (.iload_n 2, 1) := by decide +kernel
theorem dX5_line_8 : decode cX5_line 8 = .ok (.invokestatic 54, 3) := by decide +kernel
theorem dX5_line_11 : decode cX5_line 11 = .ok (.ifCond .eq 8, 3) := by decide +kernel
theorem dX5_line_14 : decode cX5_line 14 = .ok (.iload_n 1, 1) := by decide +kernel
theorem dX5_line_15 : decode cX5_line 15 = .ok (.iload_n 2, 1) := by decide +kernel
theorem dX5_line_16 : decode cX5_line 16 = .ok (.if_icmp .ne 6, 3) := by decide +kernel
theorem dX5_line_19 : decode cX5_line 19 = .ok (.bipush (-2), 2) := by decide +kernel
theorem dX5_line_21 : decode cX5_line 21 = .ok (.ireturn, 1) := by decide +kernel
theorem dX5_line_22 : decode cX5_line 22 = .ok (.aload_n 0, 1) := by decide +kernel
theorem dX5_line_23 : decode cX5_line 23 = .ok (.getfield 20, 3) := by decide +kernel
theorem dX5_line_26 : decode cX5_line 26 = .ok (.iload_n 1, 1) := by decide +kernel
theorem dX5_line_27 : decode cX5_line 27 = .ok (.iaload, 1) := by decide +kernel
theorem dX5_line_28 : decode cX5_line 28 = .ok (.iload_n 2, 1) := by decide +kernel
theorem dX5_line_29 : decode cX5_line 29 = .ok (.ishr, 1) := by decide +kernel
theorem dX5_line_30 : decode cX5_line 30 = .ok (.iconst 1, 1) := by decide +kernel
theorem dX5_line_31 : decode cX5_line 31 = .ok (.iand, 1) := by decide +kernel
theorem dX5_line_32 : decode cX5_line 32 = .ok (.istore 4, 2) := by decide +kernel
theorem dX5_line_34 : decode cX5_line 34 = .ok (.aload_n 0, 1) := by decide +kernel
theorem dX5_line_35 : decode cX5_line 35 = .ok (.getfield 20, 3) := by decide +kernel
theorem dX5_line_38 : decode cX5_line 38 = .ok (.iload_n 1, 1) := by decide +kernel
theorem dX5_line_39 : decode cX5_line 39 = .ok (.iload_n 3, 1) := by decide +kernel
theorem dX5_line_40 : decode cX5_line 40 = .ok (.ifCond .eq 16, 3) := by decide +kernel
theorem dX5_line_43 : decode cX5_line 43 = .ok (.aload_n 0, 1) := by decide +kernel
theorem dX5_line_44 : decode cX5_line 44 = .ok (.getfield 20, 3) := by decide +kernel
theorem dX5_line_47 : decode cX5_line 47 = .ok (.iload_n 1, 1) := by decide +kernel
theorem dX5_line_48 : decode cX5_line 48 = .ok (.iaload, 1) := by decide +kernel
theorem dX5_line_49 : decode cX5_line 49 = .ok (.iconst 1, 1) := by decide +kernel
theorem dX5_line_50 : decode cX5_line 50 = .ok (.iload_n 2, 1) := by decide +kernel
theorem dX5_line_51 : decode cX5_line 51 = .ok (.ishl, 1) := by decide +kernel
theorem dX5_line_52 : decode cX5_line 52 = .ok (.ior, 1) := by decide +kernel
theorem dX5_line_53 : decode cX5_line 53 = .ok (.goto 15, 3) := by decide +kernel
theorem dX5_line_56 : decode cX5_line 56 = .ok (.aload_n 0, 1) := by decide +kernel
theorem dX5_line_57 : decode cX5_line 57 = .ok (.getfield 20, 3) := by decide +kernel
theorem dX5_line_60 : decode cX5_line 60 = .ok (.iload_n 1, 1) := by decide +kernel
theorem dX5_line_61 : decode cX5_line 61 = .ok (.iaload, 1) := by decide +kernel
theorem dX5_line_62 : decode cX5_line 62 = .ok (.iconst 1, 1) := by decide +kernel
theorem dX5_line_63 : decode cX5_line 63 = .ok (.iload_n 2, 1) := by decide +kernel
theorem dX5_line_64 : decode cX5_line 64 = .ok (.ishl, 1) := by decide +kernel
theorem dX5_line_65 : decode cX5_line 65 = .ok (.iconst (-1), 1) := by decide +kernel
theorem dX5_line_66 : decode cX5_line 66 = .ok (.ixor, 1) := by decide +kernel
theorem dX5_line_67 : decode cX5_line 67 = .ok (.iand, 1) := by decide +kernel
theorem dX5_line_68 : decode cX5_line 68 = .ok (.iastore, 1) := by decide +kernel
theorem dX5_line_69 : decode cX5_line 69 = .ok (.aload_n 0, 1) := by decide +kernel
theorem dX5_line_70 : decode cX5_line 70 = .ok (.getfield 20, 3) := by decide +kernel
theorem dX5_line_73 : decode cX5_line 73 = .ok (.iload_n 2, 1) := by decide +kernel
theorem dX5_line_74 : decode cX5_line 74 = .ok (.iload_n 3, 1) := by decide +kernel
theorem dX5_line_75 : decode cX5_line 75 = .ok (.ifCond .eq 16, 3) := by decide +kernel
theorem dX5_line_78 : decode cX5_line 78 = .ok (.aload_n 0, 1) := by decide +kernel
theorem dX5_line_79 : decode cX5_line 79 = .ok (.getfield 20, 3) := by decide +kernel
theorem dX5_line_82 : decode cX5_line 82 = .ok (.iload_n 2, 1) := by decide +kernel
theorem dX5_line_83 : decode cX5_line 83 = .ok (.iaload, 1) := by decide +kernel
theorem dX5_line_84 : decode cX5_line 84 = .ok (.iconst 1, 1) := by decide +kernel
theorem dX5_line_85 : decode cX5_line 85 = .ok (.iload_n 1, 1) := by decide +kernel
theorem dX5_line_86 : decode cX5_line 86 = .ok (.ishl, 1) := by decide +kernel
theorem dX5_line_87 : decode cX5_line 87 = .ok (.ior, 1) := by decide +kernel
theorem dX5_line_88 : decode cX5_line 88 = .ok (.goto 15, 3) := by decide +kernel
theorem dX5_line_91 : decode cX5_line 91 = .ok (.aload_n 0, 1) := by decide +kernel
theorem dX5_line_92 : decode cX5_line 92 = .ok (.getfield 20, 3) := by decide +kernel
theorem dX5_line_95 : decode cX5_line 95 = .ok (.iload_n 2, 1) := by decide +kernel
theorem dX5_line_96 : decode cX5_line 96 = .ok (.iaload, 1) := by decide +kernel
theorem dX5_line_97 : decode cX5_line 97 = .ok (.iconst 1, 1) := by decide +kernel
theorem dX5_line_98 : decode cX5_line 98 = .ok (.iload_n 1, 1) := by decide +kernel
theorem dX5_line_99 : decode cX5_line 99 = .ok (.ishl, 1) := by decide +kernel
theorem dX5_line_100 : decode cX5_line 100 = .ok (.iconst (-1), 1) := by decide +kernel
theorem dX5_line_101 : decode cX5_line 101 = .ok (.ixor, 1) := by decide +kernel
theorem dX5_line_102 : decode cX5_line 102 = .ok (.iand, 1) := by decide +kernel
theorem dX5_line_103 : decode cX5_line 103 = .ok (.iastore, 1) := by decide +kernel
theorem dX5_line_104 : decode cX5_line 104 = .ok (.iload 4, 2) := by decide +kernel
theorem dX5_line_106 : decode cX5_line 106 = .ok (.ireturn, 1) := by decide +kernel
set_option maxRecDepth 20000 in
theorem ggX5_draw_X5_in : GoodIn wsX5_draw wsX5_in := goodIn_r _ [5] (by decide +kernel) (by decide +kernel)
set_option maxRecDepth 20000 in
theorem gX5_draw_X5_in : GoodIn wsX5_draw (va_wsS RX5 32 yX5_in wsX5_in) := goodIn_app (goodIn_of _ (by decide +kernel)) ggX5_draw_X5_in
theorem dX5_draw_0 : decode cX5_draw 0 = .ok (.iload_n 1, 1) := by decide +kernel
theorem dX5_draw_1 : decode cX5_draw 1 = .ok (.iconst 1, 1) := by decide +kernel
theorem dX5_draw_2 : decode cX5_draw 2 = .ok (.bipush 6, 2) := by decide +kernel
theorem dX5_draw_4 : decode cX5_draw 4 = .ok (.invokestatic 32, 3) := by decide +kernel
theorem dX5_draw_7 : decode cX5_draw 7 = .ok (.ifCond .ne 6, 3) := by decide +kernel
theorem dX5_draw_10 : decode cX5_draw 10 = .ok (.bipush (-2), 2) := by decide +kernel
theorem dX5_draw_12 : decode cX5_draw 12 = .ok (.ireturn, 1) := by decide +kernel
theorem dX5_draw_13 : decode cX5_draw 13 = .ok (.aload_n 0, 1) := by decide +kernel
theorem dX5_draw_14 : decode cX5_draw 14 = .ok (.getfield 23, 3) := by decide +kernel
theorem dX5_draw_17 : decode cX5_draw 17 = .ok (.istore_n 2, 1) := by decide +kernel
theorem dX5_draw_18 : decode cX5_draw 18 = .ok (.aload_n 0, 1) := by decide +kernel
theorem dX5_draw_19 : decode cX5_draw 19 = .ok (.iload_n 1, 1) := by decide +kernel
theorem dX5_draw_20 : decode cX5_draw 20 = .ok (.putfield 23, 3) := by decide +kernel
theorem dX5_draw_23 : decode cX5_draw 23 = .ok (.iload_n 2, 1) := by decide +kernel
theorem dX5_draw_24 : decode cX5_draw 24 = .ok (.ireturn, 1) := by decide +kernel
theorem dX5_takeRow_0 : decode cX5_takeRow 0 = .ok (.iconst 0, 1) := by decide +kernel
theorem dX5_takeRow_1 : decode cX5_takeRow 1 = .ok (.istore_n 1, 1) := by decide +kernel
theorem dX5_takeRow_2 : decode cX5_takeRow 2 = .ok (.iload_n 1, 1) := by decide +kernel
theorem dX5_takeRow_3 : decode cX5_takeRow 3 = .ok (.aload_n 0, 1) := by decide +kernel
theorem dX5_takeRow_4 : decode cX5_takeRow 4 = .ok (.getfield 7, 3) := by decide +kernel
theorem dX5_takeRow_7 : decode cX5_takeRow 7 = .ok (.if_icmp .ge 21, 3) := by decide +kernel
theorem dX5_takeRow_10 : decode cX5_takeRow 10 = .ok (.aload_n 0, 1) := by decide +kernel
theorem dX5_takeRow_11 : decode cX5_takeRow 11 = .ok (.getfield 26, 3) := by decide +kernel
theorem dX5_takeRow_14 : decode cX5_takeRow 14 = .ok (.iload_n 1, 1) := by decide +kernel
theorem dX5_takeRow_15 : decode cX5_takeRow 15 = .ok (.aload_n 0, 1) := by decide +kernel
theorem dX5_takeRow_16 : decode cX5_takeRow 16 = .ok (.getfield 13, 3) := by decide +kernel
theorem dX5_takeRow_19 : decode cX5_takeRow 19 = .ok (.iload_n 1, 1) := by decide +kernel
theorem dX5_takeRow_20 : decode cX5_takeRow 20 = .ok (.iaload, 1) := by decide +kernel
theorem dX5_takeRow_21 : decode cX5_takeRow 21 = .ok (.iastore, 1) := by decide +kernel
theorem dX5_takeRow_22 : decode cX5_takeRow 22 = .ok (.iinc 1 1, 3) := by decide +kernel
theorem dX5_takeRow_25 : decode cX5_takeRow 25 = .ok (.goto (-23), 3) := by decide +kernel
theorem dX5_takeRow_28 : decode cX5_takeRow 28 = .ok (.return_, 1) := by decide +kernel
theorem dX5_fromRising_0 : decode cX5_fromRising 0 = .ok (.iconst 0, 1) := by decide +kernel
theorem dX5_fromRising_1 : decode cX5_fromRising 1 = .ok (.istore_n 1, 1) := by decide +kernel
theorem dX5_fromRising_2 : decode cX5_fromRising 2 = .ok (.iconst 0, 1) := by decide +kernel
theorem dX5_fromRising_3 : decode cX5_fromRising 3 = .ok (.istore_n 2, 1) := by decide +kernel
theorem dX5_fromRising_4 : decode cX5_fromRising 4 = .ok (.iload_n 2, 1) := by decide +kernel
theorem dX5_fromRising_5 : decode cX5_fromRising 5 = .ok (.aload_n 0, 1) := by decide +kernel
theorem dX5_fromRising_6 : decode cX5_fromRising 6 = .ok (.getfield 7, 3) := by decide +kernel
theorem dX5_fromRising_9 : decode cX5_fromRising 9 = .ok (.if_icmp .ge 105, 3) := by decide +kernel
theorem dX5_fromRising_12 : decode cX5_fromRising 12 = .ok (.aload_n 0, 1) := by decide +kernel
theorem dX5_fromRising_13 : decode cX5_fromRising 13 = .ok (.getfield 29, 3) := by decide +kernel
theorem dX5_fromRising_16 : decode cX5_fromRising 16 = .ok (.iload_n 2, 1) := by decide +kernel
theorem dX5_fromRising_17 : decode cX5_fromRising 17 = .ok (.iconst 1, 1) := by decide +kernel
theorem dX5_fromRising_18 : decode cX5_fromRising 18 = .ok (.iastore, 1) := by decide +kernel
theorem dX5_fromRising_19 : decode cX5_fromRising 19 = .ok (.iconst 0, 1) := by decide +kernel
theorem dX5_fromRising_20 : decode cX5_fromRising 20 = .ok (.istore_n 3, 1) := by decide +kernel
theorem dX5_fromRising_21 : decode cX5_fromRising 21 = .ok (.iload_n 3, 1) := by decide +kernel
theorem dX5_fromRising_22 : decode cX5_fromRising 22 = .ok (.iload_n 2, 1) := by decide +kernel
theorem dX5_fromRising_23 : decode cX5_fromRising 23 = .ok (.if_icmp .ge 64, 3) := by decide +kernel
theorem dX5_fromRising_26 : decode cX5_fromRising 26 = .ok (.aload_n 0, 1) := by decide +kernel
theorem dX5_fromRising_27 : decode cX5_fromRising 27 = .ok (.getfield 29, 3) := by decide +kernel
theorem dX5_fromRising_30 : decode cX5_fromRising 30 = .ok (.iload_n 2, 1) := by decide +kernel
theorem dX5_fromRising_31 : decode cX5_fromRising 31 = .ok (.aload_n 0, 1) := by decide +kernel
theorem dX5_fromRising_32 : decode cX5_fromRising 32 = .ok (.getfield 26, 3) := by decide +kernel
theorem dX5_fromRising_35 : decode cX5_fromRising 35 = .ok (.iload_n 3, 1) := by decide +kernel
theorem dX5_fromRising_36 : decode cX5_fromRising 36 = .ok (.iaload, 1) := by decide +kernel
theorem dX5_fromRising_37 : decode cX5_fromRising 37 = .ok (.aload_n 0, 1) := by decide +kernel
theorem dX5_fromRising_38 : decode cX5_fromRising 38 = .ok (.getfield 26, 3) := by decide +kernel
theorem dX5_fromRising_41 : decode cX5_fromRising 41 = .ok (.iload_n 2, 1) := by decide +kernel
theorem dX5_fromRising_42 : decode cX5_fromRising 42 = .ok (.iaload, 1) := by decide +kernel
theorem dX5_fromRising_43 : decode cX5_fromRising 43 = .ok (.if_icmp .gt 31, 3) := by decide +kernel
theorem dX5_fromRising_46 : decode cX5_fromRising 46 = .ok (.aload_n 0, 1) := by decide +kernel
theorem dX5_fromRising_47 : decode cX5_fromRising 47 = .ok (.getfield 29, 3) := by decide +kernel
theorem dX5_fromRising_50 : decode cX5_fromRising 50 = .ok (.iload_n 3, 1) := by decide +kernel
theorem dX5_fromRising_51 : decode cX5_fromRising 51 = .ok (.iaload, 1) := by decide +kernel
theorem dX5_fromRising_52 : decode cX5_fromRising 52 = .ok (.iconst 1, 1) := by decide +kernel
theorem dX5_fromRising_53 : decode cX5_fromRising 53 = .ok (.iadd, 1) := by decide +kernel
theorem dX5_fromRising_54 : decode cX5_fromRising 54 = .ok (.aload_n 0, 1) := by decide +kernel
theorem dX5_fromRising_55 : decode cX5_fromRising 55 = .ok (.getfield 29, 3) := by decide +kernel
theorem dX5_fromRising_58 : decode cX5_fromRising 58 = .ok (.iload_n 2, 1) := by decide +kernel
theorem dX5_fromRising_59 : decode cX5_fromRising 59 = .ok (.iaload, 1) := by decide +kernel
theorem dX5_fromRising_60 : decode cX5_fromRising 60 = .ok (.if_icmp .le 14, 3) := by decide +kernel
theorem dX5_fromRising_63 : decode cX5_fromRising 63 = .ok (.aload_n 0, 1) := by decide +kernel
theorem dX5_fromRising_64 : decode cX5_fromRising 64 = .ok (.getfield 29, 3) := by decide +kernel
theorem dX5_fromRising_67 : decode cX5_fromRising 67 = .ok (.iload_n 3, 1) := by decide +kernel
theorem dX5_fromRising_68 : decode cX5_fromRising 68 = .ok (.iaload, 1) := by decide +kernel
theorem dX5_fromRising_69 : decode cX5_fromRising 69 = .ok (.iconst 1, 1) := by decide +kernel
theorem dX5_fromRising_70 : decode cX5_fromRising 70 = .ok (.iadd, 1) := by decide +kernel
theorem dX5_fromRising_71 : decode cX5_fromRising 71 = .ok (.goto 9, 3) := by decide +kernel
theorem dX5_fromRising_74 : decode cX5_fromRising 74 = .ok (.aload_n 0, 1) := by decide +kernel
theorem dX5_fromRising_75 : decode cX5_fromRising 75 = .ok (.getfield 29, 3) := by decide +kernel
theorem dX5_fromRising_78 : decode cX5_fromRising 78 = .ok (.iload_n 2, 1) := by decide +kernel
theorem dX5_fromRising_79 : decode cX5_fromRising 79 = .ok (.iaload, 1) := by decide +kernel
theorem dX5_fromRising_80 : decode cX5_fromRising 80 = .ok (.iastore, 1) := by decide +kernel
theorem dX5_fromRising_81 : decode cX5_fromRising 81 = .ok (.iinc 3 1, 3) := by decide +kernel
theorem dX5_fromRising_84 : decode cX5_fromRising 84 = .ok (.goto (-63), 3) := by decide +kernel
theorem dX5_fromRising_87 : decode cX5_fromRising 87 = .ok (.aload_n 0, 1) := by decide +kernel
theorem dX5_fromRising_88 : decode cX5_fromRising 88 = .ok (.getfield 29, 3) := by decide +kernel
theorem dX5_fromRising_91 : decode cX5_fromRising 91 = .ok (.iload_n 2, 1) := by decide +kernel
theorem dX5_fromRising_92 : decode cX5_fromRising 92 = .ok (.iaload, 1) := by decide +kernel
theorem dX5_fromRising_93 : decode cX5_fromRising 93 = .ok (.iload_n 1, 1) := by decide +kernel
theorem dX5_fromRising_94 : decode cX5_fromRising 94 = .ok (.if_icmp .le 12, 3) := by decide +kernel
theorem dX5_fromRising_97 : decode cX5_fromRising 97 = .ok (.aload_n 0, 1) := by decide +kernel
theorem dX5_fromRising_98 : decode cX5_fromRising 98 = .ok (.getfield 29, 3) := by decide +kernel
theorem dX5_fromRising_101 : decode cX5_fromRising 101 = .ok (.iload_n 2, 1) := by decide +kernel
theorem dX5_fromRising_102 : decode cX5_fromRising 102 = .ok (.iaload, 1) := by decide +kernel
theorem dX5_fromRising_103 : decode cX5_fromRising 103 = .ok (.goto 4, 3) := by decide +kernel
theorem dX5_fromRising_106 : decode cX5_fromRising 106 = .ok (.iload_n 1, 1) := by decide +kernel
theorem dX5_fromRising_107 : decode cX5_fromRising 107 = .ok (.istore_n 1, 1) := by decide +kernel
theorem dX5_fromRising_108 : decode cX5_fromRising 108 = .ok (.iinc 2 1, 3) := by decide +kernel
theorem dX5_fromRising_111 : decode cX5_fromRising 111 = .ok (.goto (-107), 3) := by decide +kernel
theorem dX5_fromRising_114 : decode cX5_fromRising 114 = .ok (.aload_n 0, 1) := by decide +kernel
theorem dX5_fromRising_115 : decode cX5_fromRising 115 = .ok (.getfield 7, 3) := by decide +kernel
theorem dX5_fromRising_118 : decode cX5_fromRising 118 = .ok (.iload_n 1, 1) := by decide +kernel
theorem dX5_fromRising_119 : decode cX5_fromRising 119 = .ok (.isub, 1) := by decide +kernel
theorem dX5_fromRising_120 : decode cX5_fromRising 120 = .ok (.ireturn, 1) := by decide +kernel
theorem dX5_fromMirrored_0 : decode cX5_fromMirrored 0 = .ok (.iconst 0, 1) := by decide +kernel
theorem dX5_fromMirrored_1 : decode cX5_fromMirrored 1 = .ok (.istore_n 1, 1) := by decide +kernel
theorem dX5_fromMirrored_2 : decode cX5_fromMirrored 2 = .ok (.iconst 0, 1) := by decide +kernel
theorem dX5_fromMirrored_3 : decode cX5_fromMirrored 3 = .ok (.istore_n 2, 1) := by decide +kernel
theorem dX5_fromMirrored_4 : decode cX5_fromMirrored 4 = .ok (.iload_n 2, 1) := by decide +kernel
theorem dX5_fromMirrored_5 : decode cX5_fromMirrored 5 = .ok (.aload_n 0, 1) := by decide +kernel
theorem dX5_fromMirrored_6 : decode cX5_fromMirrored 6 = .ok (.getfield 7, 3) := by decide +kernel
theorem dX5_fromMirrored_9 : decode cX5_fromMirrored 9 = .ok (.if_icmp .ge 51, 3) := by decide +kernel
theorem dX5_fromMirrored_12 : decode cX5_fromMirrored 12 = .ok (.iload_n 1, 1) := by decide +kernel
theorem dX5_fromMirrored_13 : decode cX5_fromMirrored 13 = .ok (.iload_n 2, 1) := by decide +kernel
theorem dX5_fromMirrored_14 : decode cX5_fromMirrored 14 = .ok (.aload_n 0, 1) := by decide +kernel
theorem dX5_fromMirrored_15 : decode cX5_fromMirrored 15 = .ok (.getfield 7, 3) := by decide +kernel
theorem dX5_fromMirrored_18 : decode cX5_fromMirrored 18 = .ok (.iconst 1, 1) := by decide +kernel
theorem dX5_fromMirrored_19 : decode cX5_fromMirrored 19 = .ok (.isub, 1) := by decide +kernel
theorem dX5_fromMirrored_20 : decode cX5_fromMirrored 20 = .ok (.iload_n 2, 1) := by decide +kernel
theorem dX5_fromMirrored_21 : decode cX5_fromMirrored 21 = .ok (.isub, 1) := by decide +kernel
theorem dX5_fromMirrored_22 : decode cX5_fromMirrored 22 = .ok (.if_icmp .ge 29, 3) := by decide +kernel
theorem dX5_fromMirrored_25 : decode cX5_fromMirrored 25 = .ok (.aload_n 0, 1) := by decide +kernel
theorem dX5_fromMirrored_26 : decode cX5_fromMirrored 26 = .ok (.getfield 26, 3) := by decide +kernel
theorem dX5_fromMirrored_29 : decode cX5_fromMirrored 29 = .ok (.iload_n 2, 1) := by decide +kernel
theorem dX5_fromMirrored_30 : decode cX5_fromMirrored 30 = .ok (.iaload, 1) := by decide +kernel
theorem dX5_fromMirrored_31 : decode cX5_fromMirrored 31 = .ok (.aload_n 0, 1) := by decide +kernel
theorem dX5_fromMirrored_32 : decode cX5_fromMirrored 32 = .ok (.getfield 26, 3) := by decide +kernel
theorem dX5_fromMirrored_35 : decode cX5_fromMirrored 35 = .ok (.aload_n 0, 1) := by decide +kernel
theorem dX5_fromMirrored_36 : decode cX5_fromMirrored 36 = .ok (.getfield 7, 3) := by decide +kernel
theorem dX5_fromMirrored_39 : decode cX5_fromMirrored 39 = .ok (.iconst 1, 1) := by decide +kernel
theorem dX5_fromMirrored_40 : decode cX5_fromMirrored 40 = .ok (.isub, 1) := by decide +kernel
theorem dX5_fromMirrored_41 : decode cX5_fromMirrored 41 = .ok (.iload_n 2, 1) := by decide +kernel
theorem dX5_fromMirrored_42 : decode cX5_fromMirrored 42 = .ok (.isub, 1) := by decide +kernel
theorem dX5_fromMirrored_43 : decode cX5_fromMirrored 43 = .ok (.iaload, 1) := by decide +kernel
theorem dX5_fromMirrored_44 : decode cX5_fromMirrored 44 = .ok (.if_icmp .eq 7, 3) := by decide +kernel
theorem dX5_fromMirrored_47 : decode cX5_fromMirrored 47 = .ok (.iconst 1, 1) := by decide +kernel
theorem dX5_fromMirrored_48 : decode cX5_fromMirrored 48 = .ok (.goto 4, 3) := by decide +kernel
theorem dX5_fromMirrored_51 : decode cX5_fromMirrored 51 = .ok (.iconst 0, 1) := by decide +kernel
theorem dX5_fromMirrored_52 : decode cX5_fromMirrored 52 = .ok (.iadd, 1) := by decide +kernel
theorem dX5_fromMirrored_53 : decode cX5_fromMirrored 53 = .ok (.istore_n 1, 1) := by decide +kernel
theorem dX5_fromMirrored_54 : decode cX5_fromMirrored 54 = .ok (.iinc 2 1, 3) := by decide +kernel
theorem dX5_fromMirrored_57 : decode cX5_fromMirrored 57 = .ok (.goto (-53), 3) := by decide +kernel
theorem dX5_fromMirrored_60 : decode cX5_fromMirrored 60 = .ok (.iload_n 1, 1) := by decide +kernel
theorem dX5_fromMirrored_61 : decode cX5_fromMirrored 61 = .ok (.ireturn, 1) := by decide +kernel
theorem dX5_fromEven_0 : decode cX5_fromEven 0 = .ok (.iconst 0, 1) := by decide +kernel
theorem dX5_fromEven_1 : decode cX5_fromEven 1 = .ok (.istore_n 1, 1) := by decide +kernel
theorem dX5_fromEven_2 : decode cX5_fromEven 2 = .ok (.iconst 0, 1) := by decide +kernel
theorem dX5_fromEven_3 : decode cX5_fromEven 3 = .ok (.istore_n 2, 1) := by decide +kernel
theorem dX5_fromEven_4 : decode cX5_fromEven 4 = .ok (.iload_n 2, 1) := by decide +kernel
theorem dX5_fromEven_5 : decode cX5_fromEven 5 = .ok (.aload_n 0, 1) := by decide +kernel
theorem dX5_fromEven_6 : decode cX5_fromEven 6 = .ok (.getfield 7, 3) := by decide +kernel
theorem dX5_fromEven_9 : decode cX5_fromEven 9 = .ok (.if_icmp .ge 18, 3) := by decide +kernel
theorem dX5_fromEven_12 : decode cX5_fromEven 12 = .ok (.iload_n 1, 1) := by decide +kernel
theorem dX5_fromEven_13 : decode cX5_fromEven 13 = .ok (.aload_n 0, 1) := by decide +kernel
theorem dX5_fromEven_14 : decode cX5_fromEven 14 = .ok (.getfield 26, 3) := by decide +kernel
theorem dX5_fromEven_17 : decode cX5_fromEven 17 = .ok (.iload_n 2, 1) := by decide +kernel
theorem dX5_fromEven_18 : decode cX5_fromEven 18 = .ok (.iaload, 1) := by decide +kernel
theorem dX5_fromEven_19 : decode cX5_fromEven 19 = .ok (.iadd, 1) := by decide +kernel
theorem dX5_fromEven_20 : decode cX5_fromEven 20 = .ok (.istore_n 1, 1) := by decide +kernel
theorem dX5_fromEven_21 : decode cX5_fromEven 21 = .ok (.iinc 2 1, 3) := by decide +kernel
theorem dX5_fromEven_24 : decode cX5_fromEven 24 = .ok (.goto (-20), 3) := by decide +kernel
theorem dX5_fromEven_27 : decode cX5_fromEven 27 = .ok (.iload_n 1, 1) := by decide +kernel
theorem dX5_fromEven_28 : decode cX5_fromEven 28 = .ok (.iconst 2, 1) := by decide +kernel
theorem dX5_fromEven_29 : decode cX5_fromEven 29 = .ok (.irem, 1) := by decide +kernel
theorem dX5_fromEven_30 : decode cX5_fromEven 30 = .ok (.ireturn, 1) := by decide +kernel
theorem dX5_fromShift_0 : decode cX5_fromShift 0 = .ok (.iconst 0, 1) := by decide +kernel
theorem dX5_fromShift_1 : decode cX5_fromShift 1 = .ok (.istore_n 2, 1) := by decide +kernel
theorem dX5_fromShift_2 : decode cX5_fromShift 2 = .ok (.iconst 0, 1) := by decide +kernel
theorem dX5_fromShift_3 : decode cX5_fromShift 3 = .ok (.istore_n 3, 1) := by decide +kernel
theorem dX5_fromShift_4 : decode cX5_fromShift 4 = .ok (.iconst 0, 1) := by decide +kernel
theorem dX5_fromShift_5 : decode cX5_fromShift 5 = .ok (.istore 4, 2) := by decide +kernel
theorem dX5_fromShift_7 : decode cX5_fromShift 7 = .ok (.iload 4, 2) := by decide +kernel
theorem dX5_fromShift_9 : decode cX5_fromShift 9 = .ok (.aload_n 0, 1) := by decide +kernel
theorem dX5_fromShift_10 : decode cX5_fromShift 10 = .ok (.getfield 7, 3) := by decide +kernel
theorem dX5_fromShift_13 : decode cX5_fromShift 13 = .ok (.if_icmp .ge 131, 3) := by decide +kernel
theorem dX5_fromShift_16 : decode cX5_fromShift 16 = .ok (.iload_n 2, 1) := by decide +kernel
theorem dX5_fromShift_17 : decode cX5_fromShift 17 = .ok (.iload 4, 2) := by decide +kernel
theorem dX5_fromShift_19 : decode cX5_fromShift 19 = .ok (.ishr, 1) := by decide +kernel
theorem dX5_fromShift_20 : decode cX5_fromShift 20 = .ok (.iconst 1, 1) := by decide +kernel
theorem dX5_fromShift_21 : decode cX5_fromShift 21 = .ok (.iand, 1) := by decide +kernel
theorem dX5_fromShift_22 : decode cX5_fromShift 22 = .ok (.ifCond .ne 116, 3) := by decide +kernel
theorem dX5_fromShift_25 : decode cX5_fromShift 25 = .ok (.iconst 0, 1) := by decide +kernel
theorem dX5_fromShift_26 : decode cX5_fromShift 26 = .ok (.istore 5, 2) := by decide +kernel
theorem dX5_fromShift_28 : decode cX5_fromShift 28 = .ok (.iconst 0, 1) := by decide +kernel
theorem dX5_fromShift_29 : decode cX5_fromShift 29 = .ok (.istore 6, 2) := by decide +kernel
theorem dX5_fromShift_31 : decode cX5_fromShift 31 = .ok (.iconst 0, 1) := by decide +kernel
theorem dX5_fromShift_32 : decode cX5_fromShift 32 = .ok (.istore 7, 2) := by decide +kernel
theorem dX5_fromShift_34 : decode cX5_fromShift 34 = .ok (.iload 7, 2) := by decide +kernel
theorem dX5_fromShift_36 : decode cX5_fromShift 36 = .ok (.iconst 4, 1) := by decide +kernel
theorem dX5_fromShift_37 : decode cX5_fromShift 37 = .ok (.if_icmp .ge 93, 3) := by decide +kernel
theorem dX5_fromShift_40 : decode cX5_fromShift 40 = .ok (.iconst 0, 1) := by decide +kernel
theorem dX5_fromShift_41 : decode cX5_fromShift 41 = .ok (.istore 8, 2) := by decide +kernel
theorem dX5_fromShift_43 : decode cX5_fromShift 43 = .ok (.iconst 0, 1) := by decide +kernel
theorem dX5_fromShift_44 : decode cX5_fromShift 44 = .ok (.istore 5, 2) := by decide +kernel
theorem dX5_fromShift_46 : decode cX5_fromShift 46 = .ok (.iload 4, 2) := by decide +kernel
theorem dX5_fromShift_48 : decode cX5_fromShift 48 = .ok (.istore 9, 2) := by decide +kernel
theorem dX5_fromShift_50 : decode cX5_fromShift 50 = .ok (.iload 5, 2) := by decide +kernel
theorem dX5_fromShift_52 : decode cX5_fromShift 52 = .ok (.ifCond .eq 10, 3) := by decide +kernel
theorem dX5_fromShift_55 : decode cX5_fromShift 55 = .ok (.iload 9, 2) := by decide +kernel
theorem dX5_fromShift_57 : decode cX5_fromShift 57 = .ok (.iload 4, 2) := by decide +kernel
theorem dX5_fromShift_59 : decode cX5_fromShift 59 = .ok (.if_icmp .eq 49, 3) := by decide +kernel
theorem dX5_fromShift_62 : decode cX5_fromShift 62 = .ok (.iload 8, 2) := by decide +kernel
theorem dX5_fromShift_64 : decode cX5_fromShift 64 = .ok (.aload_n 0, 1) := by decide +kernel
theorem dX5_fromShift_65 : decode cX5_fromShift 65 = .ok (.getfield 26, 3) := by decide +kernel
theorem dX5_fromShift_68 : decode cX5_fromShift 68 = .ok (.iload 9, 2) := by decide +kernel
theorem dX5_fromShift_70 : decode cX5_fromShift 70 = .ok (.iaload, 1) := by decide +kernel
theorem dX5_fromShift_71 : decode cX5_fromShift 71 = .ok (.iload 7, 2) := by decide +kernel
theorem dX5_fromShift_73 : decode cX5_fromShift 73 = .ok (.if_icmp .ne 7, 3) := by decide +kernel
theorem dX5_fromShift_76 : decode cX5_fromShift 76 = .ok (.iconst 1, 1) := by decide +kernel
theorem dX5_fromShift_77 : decode cX5_fromShift 77 = .ok (.goto 4, 3) := by decide +kernel
theorem dX5_fromShift_80 : decode cX5_fromShift 80 = .ok (.iconst 0, 1) := by decide +kernel
theorem dX5_fromShift_81 : decode cX5_fromShift 81 = .ok (.iadd, 1) := by decide +kernel
theorem dX5_fromShift_82 : decode cX5_fromShift 82 = .ok (.istore 8, 2) := by decide +kernel
theorem dX5_fromShift_84 : decode cX5_fromShift 84 = .ok (.iinc 5 1, 3) := by decide +kernel
theorem dX5_fromShift_87 : decode cX5_fromShift 87 = .ok (.iload_n 2, 1) := by decide +kernel
theorem dX5_fromShift_88 : decode cX5_fromShift 88 = .ok (.iconst 1, 1) := by decide +kernel
theorem dX5_fromShift_89 : decode cX5_fromShift 89 = .ok (.iload 9, 2) := by decide +kernel
theorem dX5_fromShift_91 : decode cX5_fromShift 91 = .ok (.ishl, 1) := by decide +kernel
theorem dX5_fromShift_92 : decode cX5_fromShift 92 = .ok (.ior, 1) := by decide +kernel
theorem dX5_fromShift_93 : decode cX5_fromShift 93 = .ok (.istore_n 2, 1) := by decide +kernel
theorem dX5_fromShift_94 : decode cX5_fromShift 94 = .ok (.iload 9, 2) := by decide +kernel
theorem dX5_fromShift_96 : decode cX5_fromShift 96 = .ok (.iload_n 1, 1) := by decide +kernel
theorem dX5_fromShift_97 : decode cX5_fromShift 97 = .ok (.iadd, 1) := by decide +kernel
theorem dX5_fromShift_98 : decode cX5_fromShift 98 = .ok (.aload_n 0, 1) := by decide +kernel
theorem dX5_fromShift_99 : decode cX5_fromShift 99 = .ok (.getfield 7, 3) := by decide +kernel
theorem dX5_fromShift_102 : decode cX5_fromShift 102 = .ok (.irem, 1) := by decide +kernel
theorem dX5_fromShift_103 : decode cX5_fromShift 103 = .ok (.istore 9, 2) := by decide +kernel
theorem dX5_fromShift_105 : decode cX5_fromShift 105 = .ok (.goto (-55), 3) := by decide +kernel
theorem dX5_fromShift_108 : decode cX5_fromShift 108 = .ok (.iload 8, 2) := by decide +kernel
theorem dX5_fromShift_110 : decode cX5_fromShift 110 = .ok (.iload 6, 2) := by decide +kernel
theorem dX5_fromShift_112 : decode cX5_fromShift 112 = .ok (.if_icmp .le 8, 3) := by decide +kernel
theorem dX5_fromShift_115 : decode cX5_fromShift 115 = .ok (.iload 8, 2) := by decide +kernel
theorem dX5_fromShift_117 : decode cX5_fromShift 117 = .ok (.goto 5, 3) := by decide +kernel
theorem dX5_fromShift_120 : decode cX5_fromShift 120 = .ok (.iload 6, 2) := by decide +kernel
theorem dX5_fromShift_122 : decode cX5_fromShift 122 = .ok (.istore 6, 2) := by decide +kernel
theorem dX5_fromShift_124 : decode cX5_fromShift 124 = .ok (.iinc 7 1, 3) := by decide +kernel
theorem dX5_fromShift_127 : decode cX5_fromShift 127 = .ok (.goto (-93), 3) := by decide +kernel
theorem dX5_fromShift_130 : decode cX5_fromShift 130 = .ok (.iload_n 3, 1) := by decide +kernel
theorem dX5_fromShift_131 : decode cX5_fromShift 131 = .ok (.iload 5, 2) := by decide +kernel
theorem dX5_fromShift_133 : decode cX5_fromShift 133 = .ok (.iload 6, 2) := by decide +kernel
theorem dX5_fromShift_135 : decode cX5_fromShift 135 = .ok (.isub, 1) := by decide +kernel
theorem dX5_fromShift_136 : decode cX5_fromShift 136 = .ok (.iadd, 1) := by decide +kernel
theorem dX5_fromShift_137 : decode cX5_fromShift 137 = .ok (.istore_n 3, 1) := by decide +kernel
theorem dX5_fromShift_138 : decode cX5_fromShift 138 = .ok (.iinc 4 1, 3) := by decide +kernel
theorem dX5_fromShift_141 : decode cX5_fromShift 141 = .ok (.goto (-134), 3) := by decide +kernel
theorem dX5_fromShift_144 : decode cX5_fromShift 144 = .ok (.iload_n 3, 1) := by decide +kernel
theorem dX5_fromShift_145 : decode cX5_fromShift 145 = .ok (.ireturn, 1) := by decide +kernel
set_option maxRecDepth 20000 in
theorem ggX5_fromRound_X5_fromShift : GoodIn wsX5_fromRound wsX5_fromShift := goodIn_r _ [6, 1, 7, 8, 9, 10, 11, 12, 13, 14, 15, 16, 17, 18] (by decide +kernel) (by decide +kernel)
set_option maxRecDepth 20000 in
theorem gX5_fromRound_X5_fromShift : GoodIn wsX5_fromRound (wsV RX5 57 RX5 yX5_fromShift wsX5_fromShift) := goodIn_app (goodIn_of _ (by decide +kernel)) ggX5_fromRound_X5_fromShift
theorem dX5_fromRound_0 : decode cX5_fromRound 0 = .ok (.aload_n 0, 1) := by decide +kernel
theorem dX5_fromRound_1 : decode cX5_fromRound 1 = .ok (.getfield 7, 3) := by decide +kernel
theorem dX5_fromRound_4 : decode cX5_fromRound 4 = .ok (.istore_n 1, 1) := by decide +kernel
theorem dX5_fromRound_5 : decode cX5_fromRound 5 = .ok (.iconst 1, 1) := by decide +kernel
theorem dX5_fromRound_6 : decode cX5_fromRound 6 = .ok (.istore_n 2, 1) := by decide +kernel
theorem dX5_fromRound_7 : decode cX5_fromRound 7 = .ok (.iload_n 2, 1) := by decide +kernel
theorem dX5_fromRound_8 : decode cX5_fromRound 8 = .ok (.aload_n 0, 1) := by decide +kernel
theorem dX5_fromRound_9 : decode cX5_fromRound 9 = .ok (.getfield 7, 3) := by decide +kernel
theorem dX5_fromRound_12 : decode cX5_fromRound 12 = .ok (.if_icmp .ge 26, 3) := by decide +kernel
theorem dX5_fromRound_15 : decode cX5_fromRound 15 = .ok (.aload_n 0, 1) := by decide +kernel
theorem dX5_fromRound_16 : decode cX5_fromRound 16 = .ok (.iload_n 2, 1) := by decide +kernel
theorem dX5_fromRound_17 : decode cX5_fromRound 17 = .ok (.invokevirtual 57, 3) := by decide +kernel
theorem dX5_fromRound_20 : decode cX5_fromRound 20 = .ok (.istore_n 3, 1) := by decide +kernel
theorem dX5_fromRound_21 : decode cX5_fromRound 21 = .ok (.iload_n 3, 1) := by decide +kernel
theorem dX5_fromRound_22 : decode cX5_fromRound 22 = .ok (.iload_n 1, 1) := by decide +kernel
theorem dX5_fromRound_23 : decode cX5_fromRound 23 = .ok (.if_icmp .ge 7, 3) := by decide +kernel
theorem dX5_fromRound_26 : decode cX5_fromRound 26 = .ok (.iload_n 3, 1) := by decide +kernel
theorem dX5_fromRound_27 : decode cX5_fromRound 27 = .ok (.goto 4, 3) := by decide +kernel
theorem dX5_fromRound_30 : decode cX5_fromRound 30 = .ok (.iload_n 1, 1) := by decide +kernel
theorem dX5_fromRound_31 : decode cX5_fromRound 31 = .ok (.istore_n 1, 1) := by decide +kernel
theorem dX5_fromRound_32 : decode cX5_fromRound 32 = .ok (.iinc 2 1, 3) := by decide +kernel
theorem dX5_fromRound_35 : decode cX5_fromRound 35 = .ok (.goto (-28), 3) := by decide +kernel
theorem dX5_fromRound_38 : decode cX5_fromRound 38 = .ok (.iload_n 1, 1) := by decide +kernel
theorem dX5_fromRound_39 : decode cX5_fromRound 39 = .ok (.ireturn, 1) := by decide +kernel
set_option maxRecDepth 20000 in
theorem ggX5_fromKind_X5_fromRising : GoodIn wsX5_fromKind wsX5_fromRising := goodIn_r _ [5, 6, 7, 8, 25, 26, 27, 28, 29, 30, 31, 32, 33, 34, 35] (by decide +kernel) (by decide +kernel)
set_option maxRecDepth 20000 in
theorem gX5_fromKind_X5_fromRising : GoodIn wsX5_fromKind (wsV RX5 60 RX5 yX5_fromRising wsX5_fromRising) := goodIn_app (goodIn_of _ (by decide +kernel)) ggX5_fromKind_X5_fromRising
set_option maxRecDepth 20000 in
theorem ggX5_fromKind_X5_fromMirrored : GoodIn wsX5_fromKind wsX5_fromMirrored := goodIn_r _ [12, 6, 8, 25, 26, 27, 28, 29, 30, 31, 32, 33, 34, 35] (by decide +kernel) (by decide +kernel)
set_option maxRecDepth 20000 in
theorem gX5_fromKind_X5_fromMirrored : GoodIn wsX5_fromKind (wsV RX5 64 RX5 yX5_fromMirrored wsX5_fromMirrored) := goodIn_app (goodIn_of _ (by decide +kernel)) ggX5_fromKind_X5_fromMirrored
set_option maxRecDepth 20000 in
theorem ggX5_fromKind_X5_fromEven : GoodIn wsX5_fromKind wsX5_fromEven := goodIn_r _ [16, 6, 8, 25, 26, 27, 28, 29, 30, 31, 32, 33, 34, 35] (by decide +kernel) (by decide +kernel)
set_option maxRecDepth 20000 in
theorem gX5_fromKind_X5_fromEven : GoodIn wsX5_fromKind (wsV RX5 67 RX5 yX5_fromEven wsX5_fromEven) := goodIn_app (goodIn_of _ (by decide +kernel)) ggX5_fromKind_X5_fromEven
set_option maxRecDepth 20000 in
theorem ggX5_fromKind_X5_fromRound : GoodIn wsX5_fromKind wsX5_fromRound := goodIn_r _ [20, 6, 21, 22, 23, 4, 24, 8, 25, 26, 27, 28, 29, 30, 31, 32, 33, 34, 35] (by decide +kernel) (by decide +kernel)
set_option maxRecDepth 20000 in
theorem gX5_fromKind_X5_fromRound : GoodIn wsX5_fromKind (wsV RX5 70 RX5 yX5_fromRound wsX5_fromRound) := goodIn_app (goodIn_of _ (by decide +kernel)) ggX5_fromKind_X5_fromRound
theorem dX5_fromKind_0 : decode cX5_fromKind 0 = .ok (.iload_n 1, 1) := by decide +kernel
theorem dX5_fromKind_1 : decode cX5_fromKind 1 = .ok (.ifCond .ne 10, 3) := by decide +kernel
theorem dX5_fromKind_4 : decode cX5_fromKind 4 = .ok (.aload_n 0, 1) := by decide +kernel
theorem dX5_fromKind_5 : decode cX5_fromKind 5 = .ok (.invokevirtual 60, 3) := by decide +kernel
theorem dX5_fromKind_8 : decode cX5_fromKind 8 = .ok (.goto 31, 3) := by decide +kernel
theorem dX5_fromKind_11 : decode cX5_fromKind 11 = .ok (.iload_n 1, 1) := by decide +kernel
theorem dX5_fromKind_12 : decode cX5_fromKind 12 = .ok (.iconst 1, 1) := by decide +kernel
theorem dX5_fromKind_13 : decode cX5_fromKind 13 = .ok (.if_icmp .ne 10, 3) := by decide +kernel
theorem dX5_fromKind_16 : decode cX5_fromKind 16 = .ok (.aload_n 0, 1) := by decide +kernel
theorem dX5_fromKind_17 : decode cX5_fromKind 17 = .ok (.invokevirtual 64, 3) := by decide +kernel
theorem dX5_fromKind_20 : decode cX5_fromKind 20 = .ok (.goto 19, 3) := by decide +kernel
theorem dX5_fromKind_23 : decode cX5_fromKind 23 = .ok (.iload_n 1, 1) := by decide +kernel
theorem dX5_fromKind_24 : decode cX5_fromKind 24 = .ok (.iconst 2, 1) := by decide +kernel
theorem dX5_fromKind_25 : decode cX5_fromKind 25 = .ok (.if_icmp .ne 10, 3) := by decide +kernel
theorem dX5_fromKind_28 : decode cX5_fromKind 28 = .ok (.aload_n 0, 1) := by decide +kernel
theorem dX5_fromKind_29 : decode cX5_fromKind 29 = .ok (.invokevirtual 67, 3) := by decide +kernel
theorem dX5_fromKind_32 : decode cX5_fromKind 32 = .ok (.goto 7, 3) := by decide +kernel
theorem dX5_fromKind_35 : decode cX5_fromKind 35 = .ok (.aload_n 0, 1) := by decide +kernel
theorem dX5_fromKind_36 : decode cX5_fromKind 36 = .ok (.invokevirtual 70, 3) := by decide +kernel
theorem dX5_fromKind_39 : decode cX5_fromKind 39 = .ok (.ireturn, 1) := by decide +kernel
set_option maxRecDepth 20000 in
theorem ggX5_rowDistance_X5_takeRow : GoodIn wsX5_rowDistance wsX5_takeRow := goodIn_r _ [5, 6, 7, 8, 34, 35, 36, 37, 38, 39, 40, 41, 42, 43, 44] (by decide +kernel) (by decide +kernel)
set_option maxRecDepth 20000 in
theorem gX5_rowDistance_X5_takeRow : GoodIn wsX5_rowDistance (wsV RX5 73 RX5 yX5_takeRow wsX5_takeRow) := goodIn_app (goodIn_of _ (by decide +kernel)) ggX5_rowDistance_X5_takeRow
set_option maxRecDepth 20000 in
theorem ggX5_rowDistance_X5_fromKind : GoodIn wsX5_rowDistance wsX5_fromKind := goodIn_r _ [12, 13, 14, 15, 4, 16, 6, 17, 7, 18, 19, 20, 21, 22, 23, 24, 25, 26, 27, 28, 29, 30, 31, 32, 33, 34, 35, 36, 37, 38, 39, 40, 41, 42, 43, 44] (by decide +kernel) (by decide +kernel)
set_option maxRecDepth 20000 in
theorem gX5_rowDistance_X5_fromKind : GoodIn wsX5_rowDistance (wsV RX5 76 RX5 yX5_fromKind wsX5_fromKind) := goodIn_app (goodIn_of _ (by decide +kernel)) ggX5_rowDistance_X5_fromKind
theorem dX5_rowDistance_0 : decode cX5_rowDistance 0 = .ok (.aload_n 0, 1) := by decide +kernel
theorem dX5_rowDistance_1 : decode cX5_rowDistance 1 = .ok (.invokevirtual 73, 3) := by decide +kernel
theorem dX5_rowDistance_4 : decode cX5_rowDistance 4 = .ok (.aload_n 0, 1) := by decide +kernel
theorem dX5_rowDistance_5 : decode cX5_rowDistance 5 = .ok (.iload_n 1, 1) := by decide +kernel
theorem dX5_rowDistance_6 : decode cX5_rowDistance 6 = .ok (.invokevirtual 76, 3) := by decide +kernel
theorem dX5_rowDistance_9 : decode cX5_rowDistance 9 = .ok (.ireturn, 1) := by decide +kernel
set_option maxRecDepth 20000 in
theorem ggX5_findNearest_X5_rowDistance : GoodIn wsX5_findNearest wsX5_rowDistance := goodIn_r _ [8, 9, 10, 11, 7, 12, 1, 2, 3, 13, 14, 15, 16, 17, 18, 19, 20, 21, 22, 23, 24, 25, 26, 27, 28, 29, 30, 31, 32, 33, 34, 35, 36, 37, 38, 39, 40, 41, 42, 43, 44, 45, 46, 47, 48] (by decide +kernel) (by decide +kernel)
set_option maxRecDepth 20000 in
theorem gX5_findNearest_X5_rowDistance : GoodIn wsX5_findNearest (wsV RX5 79 RX5 yX5_rowDistance wsX5_rowDistance) := goodIn_app (goodIn_of _ (by decide +kernel)) ggX5_findNearest_X5_rowDistance
set_option maxRecDepth 20000 in
theorem ggX5_findNearest_X5_fromKind : GoodIn wsX5_findNearest wsX5_fromKind := goodIn_r _ [16, 17, 18, 19, 7, 20, 1, 21, 2, 22, 23, 24, 25, 26, 27, 28, 29, 30, 31, 32, 33, 34, 35, 36, 37, 38, 39, 40, 41, 42, 43, 44, 45, 46, 47, 48] (by decide +kernel) (by decide +kernel)
set_option maxRecDepth 20000 in
theorem gX5_findNearest_X5_fromKind : GoodIn wsX5_findNearest (wsV RX5 76 RX5 yX5_fromKind wsX5_fromKind) := goodIn_app (goodIn_of _ (by decide +kernel)) ggX5_findNearest_X5_fromKind
theorem dX5_findNearest_0 : decode cX5_findNearest 0 = .ok (.aload_n 0, 1) := by decide +kernel
theorem dX5_findNearest_1 : decode cX5_findNearest 1 = .ok (.iload_n 1, 1) := by decide +kernel
theorem dX5_findNearest_2 : decode cX5_findNearest 2 = .ok (.invokevirtual 79, 3) := by decide +kernel
theorem dX5_findNearest_5 : decode cX5_findNearest 5 = .ok (.istore_n 2, 1) := by decide +kernel
theorem dX5_findNearest_6 : decode cX5_findNearest 6 = .ok (.iconst 0, 1) := by decide +kernel
theorem dX5_findNearest_7 : decode cX5_findNearest 7 = .ok (.istore_n 3, 1) := by decide +kernel
theorem dX5_findNearest_8 : decode cX5_findNearest 8 = .ok (.iconst 0, 1) := by decide +kernel
theorem dX5_findNearest_9 : decode cX5_findNearest 9 = .ok (.istore 4, 2) := by decide +kernel
theorem dX5_findNearest_11 : decode cX5_findNearest 11 = .ok (.iload 4, 2) := by decide +kernel
theorem dX5_findNearest_13 : decode cX5_findNearest 13 = .ok (.iconst 1, 1) := by decide +kernel
theorem dX5_findNearest_14 : decode cX5_findNearest 14 = .ok (.iconst 2, 1) := by decide +kernel
theorem dX5_findNearest_15 : decode cX5_findNearest 15 = .ok (.aload_n 0, 1) := by decide +kernel
theorem dX5_findNearest_16 : decode cX5_findNearest 16 = .ok (.getfield 7, 3) := by decide +kernel
theorem dX5_findNearest_19 : decode cX5_findNearest 19 = .ok (.imul, 1) := by decide +kernel
theorem dX5_findNearest_20 : decode cX5_findNearest 20 = .ok (.ishl, 1) := by decide +kernel
theorem dX5_findNearest_21 : decode cX5_findNearest 21 = .ok (.if_icmp .ge 104, 3) := by decide +kernel
theorem dX5_findNearest_24 : decode cX5_findNearest 24 = .ok (.iload_n 3, 1) := by decide +kernel
theorem dX5_findNearest_25 : decode cX5_findNearest 25 = .ok (.ifCond .ne 100, 3) := by decide +kernel
theorem dX5_findNearest_28 : decode cX5_findNearest 28 = .ok (.iconst 0, 1) := by decide +kernel
theorem dX5_findNearest_29 : decode cX5_findNearest 29 = .ok (.istore 5, 2) := by decide +kernel
theorem dX5_findNearest_31 : decode cX5_findNearest 31 = .ok (.iconst 0, 1) := by decide +kernel
theorem dX5_findNearest_32 : decode cX5_findNearest 32 = .ok (.istore 6, 2) := by decide +kernel
theorem dX5_findNearest_34 : decode cX5_findNearest 34 = .ok (.iload 6, 2) := by decide +kernel
theorem dX5_findNearest_36 : decode cX5_findNearest 36 = .ok (.aload_n 0, 1) := by decide +kernel
theorem dX5_findNearest_37 : decode cX5_findNearest 37 = .ok (.getfield 7, 3) := by decide +kernel
theorem dX5_findNearest_40 : decode cX5_findNearest 40 = .ok (.if_icmp .ge 59, 3) := by decide +kernel
theorem dX5_findNearest_43 : decode cX5_findNearest 43 = .ok (.aload_n 0, 1) := by decide +kernel
theorem dX5_findNearest_44 : decode cX5_findNearest 44 = .ok (.getfield 26, 3) := by decide +kernel
theorem dX5_findNearest_47 : decode cX5_findNearest 47 = .ok (.iload 6, 2) := by decide +kernel
theorem dX5_findNearest_49 : decode cX5_findNearest 49 = .ok (.iload 4, 2) := by decide +kernel
theorem dX5_findNearest_51 : decode cX5_findNearest 51 = .ok (.iconst 2, 1) := by decide +kernel
theorem dX5_findNearest_52 : decode cX5_findNearest 52 = .ok (.aload_n 0, 1) := by decide +kernel
theorem dX5_findNearest_53 : decode cX5_findNearest 53 = .ok (.getfield 7, 3) := by decide +kernel
theorem dX5_findNearest_56 : decode cX5_findNearest 56 = .ok (.iconst 1, 1) := by decide +kernel
theorem dX5_findNearest_57 : decode cX5_findNearest 57 = .ok (.isub, 1) := by decide +kernel
theorem dX5_findNearest_58 : decode cX5_findNearest 58 = .ok (.iload 6, 2) := by decide +kernel
theorem dX5_findNearest_60 : decode cX5_findNearest 60 = .ok (.isub, 1) := by decide +kernel
theorem dX5_findNearest_61 : decode cX5_findNearest 61 = .ok (.imul, 1) := by decide +kernel
theorem dX5_findNearest_62 : decode cX5_findNearest 62 = .ok (.ishr, 1) := by decide +kernel
theorem dX5_findNearest_63 : decode cX5_findNearest 63 = .ok (.iconst 3, 1) := by decide +kernel
theorem dX5_findNearest_64 : decode cX5_findNearest 64 = .ok (.iand, 1) := by decide +kernel
theorem dX5_findNearest_65 : decode cX5_findNearest 65 = .ok (.iastore, 1) := by decide +kernel
theorem dX5_findNearest_66 : decode cX5_findNearest 66 = .ok (.iload 5, 2) := by decide +kernel
theorem dX5_findNearest_68 : decode cX5_findNearest 68 = .ok (.aload_n 0, 1) := by decide +kernel
theorem dX5_findNearest_69 : decode cX5_findNearest 69 = .ok (.getfield 26, 3) := by decide +kernel
theorem dX5_findNearest_72 : decode cX5_findNearest 72 = .ok (.iload 6, 2) := by decide +kernel
theorem dX5_findNearest_74 : decode cX5_findNearest 74 = .ok (.iaload, 1) := by decide +kernel
theorem dX5_findNearest_75 : decode cX5_findNearest 75 = .ok (.aload_n 0, 1) := by decide +kernel
theorem dX5_findNearest_76 : decode cX5_findNearest 76 = .ok (.getfield 13, 3) := by decide +kernel
theorem dX5_findNearest_79 : decode cX5_findNearest 79 = .ok (.iload 6, 2) := by decide +kernel
theorem dX5_findNearest_81 : decode cX5_findNearest 81 = .ok (.iaload, 1) := by decide +kernel
theorem dX5_findNearest_82 : decode cX5_findNearest 82 = .ok (.if_icmp .ne 7, 3) := by decide +kernel
theorem dX5_findNearest_85 : decode cX5_findNearest 85 = .ok (.iconst 0, 1) := by decide +kernel
theorem dX5_findNearest_86 : decode cX5_findNearest 86 = .ok (.goto 4, 3) := by decide +kernel
theorem dX5_findNearest_89 : decode cX5_findNearest 89 = .ok (.iconst 1, 1) := by decide +kernel
theorem dX5_findNearest_90 : decode cX5_findNearest 90 = .ok (.iadd, 1) := by decide +kernel
theorem dX5_findNearest_91 : decode cX5_findNearest 91 = .ok (.istore 5, 2) := by decide +kernel
theorem dX5_findNearest_93 : decode cX5_findNearest 93 = .ok (.iinc 6 1, 3) := by decide +kernel
theorem dX5_findNearest_96 : decode cX5_findNearest 96 = .ok (.goto (-62), 3) := by decide +kernel
theorem dX5_findNearest_99 : decode cX5_findNearest 99 = .ok (.iload 5, 2) := by decide +kernel
theorem dX5_findNearest_101 : decode cX5_findNearest 101 = .ok (.iload_n 2, 1) := by decide +kernel
theorem dX5_findNearest_102 : decode cX5_findNearest 102 = .ok (.if_icmp .ne 15, 3) := by decide +kernel
theorem dX5_findNearest_105 : decode cX5_findNearest 105 = .ok (.aload_n 0, 1) := by decide +kernel
theorem dX5_findNearest_106 : decode cX5_findNearest 106 = .ok (.iload_n 1, 1) := by decide +kernel
theorem dX5_findNearest_107 : decode cX5_findNearest 107 = .ok (.invokevirtual 76, 3) := by decide +kernel
theorem dX5_findNearest_110 : decode cX5_findNearest 110 = .ok (.ifCond .ne 7, 3) := by decide +kernel
theorem dX5_findNearest_113 : decode cX5_findNearest 113 = .ok (.iconst 1, 1) := by decide +kernel
theorem dX5_findNearest_114 : decode cX5_findNearest 114 = .ok (.goto 4, 3) := by decide +kernel
theorem dX5_findNearest_117 : decode cX5_findNearest 117 = .ok (.iconst 0, 1) := by decide +kernel
theorem dX5_findNearest_118 : decode cX5_findNearest 118 = .ok (.istore_n 3, 1) := by decide +kernel
theorem dX5_findNearest_119 : decode cX5_findNearest 119 = .ok (.iinc 4 1, 3) := by decide +kernel
theorem dX5_findNearest_122 : decode cX5_findNearest 122 = .ok (.goto (-111), 3) := by decide +kernel
theorem dX5_findNearest_125 : decode cX5_findNearest 125 = .ok (.return_, 1) := by decide +kernel
set_option maxRecDepth 20000 in
theorem ggX5_tableFar_X5_parity : GoodIn wsX5_tableFar wsX5_parity := goodIn_r _ [5, 6, 7, 4, 8] (by decide +kernel) (by decide +kernel)
set_option maxRecDepth 20000 in
theorem gX5_tableFar_X5_parity : GoodIn wsX5_tableFar (va_wsS RX5 50 yX5_parity wsX5_parity) := goodIn_app (goodIn_of _ (by decide +kernel)) ggX5_tableFar_X5_parity
theorem dX5_tableFar_0 : decode cX5_tableFar 0 = .ok (.iconst 0, 1) := by decide +kernel
theorem dX5_tableFar_1 : decode cX5_tableFar 1 = .ok (.istore_n 2, 1) := by decide +kernel
theorem dX5_tableFar_2 : decode cX5_tableFar 2 = .ok (.iconst 0, 1) := by decide +kernel
theorem dX5_tableFar_3 : decode cX5_tableFar 3 = .ok (.istore_n 3, 1) := by decide +kernel
theorem dX5_tableFar_4 : decode cX5_tableFar 4 = .ok (.iload_n 3, 1) := by decide +kernel
theorem dX5_tableFar_5 : decode cX5_tableFar 5 = .ok (.bipush 8, 2) := by decide +kernel
theorem dX5_tableFar_7 : decode cX5_tableFar 7 = .ok (.if_icmp .ge 31, 3) := by decide +kernel
theorem dX5_tableFar_10 : decode cX5_tableFar 10 = .ok (.iload_n 2, 1) := by decide +kernel
theorem dX5_tableFar_11 : decode cX5_tableFar 11 = .ok (.aload_n 0, 1) := by decide +kernel
theorem dX5_tableFar_12 : decode cX5_tableFar 12 = .ok (.getfield 17, 3) := by decide +kernel
theorem dX5_tableFar_15 : decode cX5_tableFar 15 = .ok (.iload_n 3, 1) := by decide +kernel
theorem dX5_tableFar_16 : decode cX5_tableFar 16 = .ok (.iaload, 1) := by decide +kernel
theorem dX5_tableFar_17 : decode cX5_tableFar 17 = .ok (.iload_n 1, 1) := by decide +kernel
theorem dX5_tableFar_18 : decode cX5_tableFar 18 = .ok (.iload_n 3, 1) := by decide +kernel
theorem dX5_tableFar_19 : decode cX5_tableFar 19 = .ok (.invokestatic 50, 3) := by decide +kernel
theorem dX5_tableFar_22 : decode cX5_tableFar 22 = .ok (.if_icmp .ne 7, 3) := by decide +kernel
theorem dX5_tableFar_25 : decode cX5_tableFar 25 = .ok (.iconst 0, 1) := by decide +kernel
theorem dX5_tableFar_26 : decode cX5_tableFar 26 = .ok (.goto 4, 3) := by decide +kernel
theorem dX5_tableFar_29 : decode cX5_tableFar 29 = .ok (.iconst 1, 1) := by decide +kernel
theorem dX5_tableFar_30 : decode cX5_tableFar 30 = .ok (.iadd, 1) := by decide +kernel
theorem dX5_tableFar_31 : decode cX5_tableFar 31 = .ok (.istore_n 2, 1) := by decide +kernel
theorem dX5_tableFar_32 : decode cX5_tableFar 32 = .ok (.iinc 3 1, 3) := by decide +kernel
theorem dX5_tableFar_35 : decode cX5_tableFar 35 = .ok (.goto (-31), 3) := by decide +kernel
theorem dX5_tableFar_38 : decode cX5_tableFar 38 = .ok (.iload_n 2, 1) := by decide +kernel
theorem dX5_tableFar_39 : decode cX5_tableFar 39 = .ok (.ireturn, 1) := by decide +kernel
set_option maxRecDepth 20000 in
theorem ggX5_nearestTable_X5_tableFar : GoodIn wsX5_nearestTable wsX5_tableFar := goodIn_r _ [5, 6, 7, 8, 4, 9, 10, 11, 12, 13, 14, 15, 16, 17, 18, 19, 20, 21, 22, 23] (by decide +kernel) (by decide +kernel)
set_option maxRecDepth 20000 in
theorem gX5_nearestTable_X5_tableFar : GoodIn wsX5_nearestTable (wsV RX5 82 RX5 yX5_tableFar wsX5_tableFar) := goodIn_app (goodIn_of _ (by decide +kernel)) ggX5_nearestTable_X5_tableFar
theorem dX5_nearestTable_0 : decode cX5_nearestTable 0 = .ok (.iconst 0, 1) := by decide +kernel
theorem dX5_nearestTable_1 : decode cX5_nearestTable 1 = .ok (.istore_n 1, 1) := by decide +kernel
theorem dX5_nearestTable_2 : decode cX5_nearestTable 2 = .ok (.iconst 1, 1) := by decide +kernel
theorem dX5_nearestTable_3 : decode cX5_nearestTable 3 = .ok (.istore_n 2, 1) := by decide +kernel
theorem dX5_nearestTable_4 : decode cX5_nearestTable 4 = .ok (.iload_n 2, 1) := by decide +kernel
theorem dX5_nearestTable_5 : decode cX5_nearestTable 5 = .ok (.bipush 8, 2) := by decide +kernel
theorem dX5_nearestTable_7 : decode cX5_nearestTable 7 = .ok (.if_icmp .ge 28, 3) := by decide +kernel
theorem dX5_nearestTable_10 : decode cX5_nearestTable 10 = .ok (.aload_n 0, 1) := by decide +kernel
theorem dX5_nearestTable_11 : decode cX5_nearestTable 11 = .ok (.iload_n 2, 1) := by decide +kernel
theorem dX5_nearestTable_12 : decode cX5_nearestTable 12 = .ok (.invokevirtual 82, 3) := by decide +kernel
theorem dX5_nearestTable_15 : decode cX5_nearestTable 15 = .ok (.aload_n 0, 1) := by decide +kernel
theorem dX5_nearestTable_16 : decode cX5_nearestTable 16 = .ok (.iload_n 1, 1) := by decide +kernel
theorem dX5_nearestTable_17 : decode cX5_nearestTable 17 = .ok (.invokevirtual 82, 3) := by decide +kernel
theorem dX5_nearestTable_20 : decode cX5_nearestTable 20 = .ok (.if_icmp .ge 7, 3) := by decide +kernel
theorem dX5_nearestTable_23 : decode cX5_nearestTable 23 = .ok (.iload_n 2, 1) := by decide +kernel
theorem dX5_nearestTable_24 : decode cX5_nearestTable 24 = .ok (.goto 4, 3) := by decide +kernel
theorem dX5_nearestTable_27 : decode cX5_nearestTable 27 = .ok (.iload_n 1, 1) := by decide +kernel
theorem dX5_nearestTable_28 : decode cX5_nearestTable 28 = .ok (.istore_n 1, 1) := by decide +kernel
theorem dX5_nearestTable_29 : decode cX5_nearestTable 29 = .ok (.iinc 2 1, 3) := by decide +kernel
theorem dX5_nearestTable_32 : decode cX5_nearestTable 32 = .ok (.goto (-28), 3) := by decide +kernel
theorem dX5_nearestTable_35 : decode cX5_nearestTable 35 = .ok (.iload_n 1, 1) := by decide +kernel
theorem dX5_nearestTable_36 : decode cX5_nearestTable 36 = .ok (.ireturn, 1) := by decide +kernel
theorem dX5_netFar_0 : decode cX5_netFar 0 = .ok (.iconst 0, 1) := by decide +kernel
theorem dX5_netFar_1 : decode cX5_netFar 1 = .ok (.istore_n 3, 1) := by decide +kernel
theorem dX5_netFar_2 : decode cX5_netFar 2 = .ok (.iconst 0, 1) := by decide +kernel
theorem dX5_netFar_3 : decode cX5_netFar 3 = .ok (.istore 4, 2) := by decide +kernel
theorem dX5_netFar_5 : decode cX5_netFar 5 = .ok (.iload 4, 2) := by decide +kernel
theorem dX5_netFar_7 : decode cX5_netFar 7 = .ok (.bipush 6, 2) := by decide +kernel
theorem dX5_netFar_9 : decode cX5_netFar 9 = .ok (.if_icmp .ge 91, 3) := by decide +kernel
theorem dX5_netFar_12 : decode cX5_netFar 12 = .ok (.iconst 0, 1) := by decide +kernel
theorem dX5_netFar_13 : decode cX5_netFar 13 = .ok (.istore 5, 2) := by decide +kernel
theorem dX5_netFar_15 : decode cX5_netFar 15 = .ok (.iload 5, 2) := by decide +kernel
theorem dX5_netFar_17 : decode cX5_netFar 17 = .ok (.iload 4, 2) := by decide +kernel
theorem dX5_netFar_19 : decode cX5_netFar 19 = .ok (.if_icmp .ge 75, 3) := by decide +kernel
theorem dX5_netFar_22 : decode cX5_netFar 22 = .ok (.aload_n 0, 1) := by decide +kernel
theorem dX5_netFar_23 : decode cX5_netFar 23 = .ok (.getfield 20, 3) := by decide +kernel
theorem dX5_netFar_26 : decode cX5_netFar 26 = .ok (.iload 4, 2) := by decide +kernel
theorem dX5_netFar_28 : decode cX5_netFar 28 = .ok (.iaload, 1) := by decide +kernel
theorem dX5_netFar_29 : decode cX5_netFar 29 = .ok (.iload 5, 2) := by decide +kernel
theorem dX5_netFar_31 : decode cX5_netFar 31 = .ok (.ishr, 1) := by decide +kernel
theorem dX5_netFar_32 : decode cX5_netFar 32 = .ok (.iconst 1, 1) := by decide +kernel
theorem dX5_netFar_33 : decode cX5_netFar 33 = .ok (.iand, 1) := by decide +kernel
theorem dX5_netFar_34 : decode cX5_netFar 34 = .ok (.iconst 1, 1) := by decide +kernel
theorem dX5_netFar_35 : decode cX5_netFar 35 = .ok (.if_icmp .ne 22, 3) := by decide +kernel
theorem dX5_netFar_38 : decode cX5_netFar 38 = .ok (.iload_n 2, 1) := by decide +kernel
theorem dX5_netFar_39 : decode cX5_netFar 39 = .ok (.iload 4, 2) := by decide +kernel
theorem dX5_netFar_41 : decode cX5_netFar 41 = .ok (.ishr, 1) := by decide +kernel
theorem dX5_netFar_42 : decode cX5_netFar 42 = .ok (.iload_n 2, 1) := by decide +kernel
theorem dX5_netFar_43 : decode cX5_netFar 43 = .ok (.iload 5, 2) := by decide +kernel
theorem dX5_netFar_45 : decode cX5_netFar 45 = .ok (.ishr, 1) := by decide +kernel
theorem dX5_netFar_46 : decode cX5_netFar 46 = .ok (.iand, 1) := by decide +kernel
theorem dX5_netFar_47 : decode cX5_netFar 47 = .ok (.iconst 1, 1) := by decide +kernel
theorem dX5_netFar_48 : decode cX5_netFar 48 = .ok (.iand, 1) := by decide +kernel
theorem dX5_netFar_49 : decode cX5_netFar 49 = .ok (.iconst 1, 1) := by decide +kernel
theorem dX5_netFar_50 : decode cX5_netFar 50 = .ok (.if_icmp .ne 7, 3) := by decide +kernel
theorem dX5_netFar_53 : decode cX5_netFar 53 = .ok (.iconst 1, 1) := by decide +kernel
theorem dX5_netFar_54 : decode cX5_netFar 54 = .ok (.goto 4, 3) := by decide +kernel
theorem dX5_netFar_57 : decode cX5_netFar 57 = .ok (.iconst 0, 1) := by decide +kernel
theorem dX5_netFar_58 : decode cX5_netFar 58 = .ok (.istore 6, 2) := by decide +kernel
theorem dX5_netFar_60 : decode cX5_netFar 60 = .ok (.iload_n 3, 1) := by decide +kernel
theorem dX5_netFar_61 : decode cX5_netFar 61 = .ok (.iload 6, 2) := by decide +kernel
theorem dX5_netFar_63 : decode cX5_netFar 63 = .ok (.ifCond .eq 22, 3) := by decide +kernel
theorem dX5_netFar_66 : decode cX5_netFar 66 = .ok (.iload_n 1, 1) := by decide +kernel
theorem dX5_netFar_67 : decode cX5_netFar 67 = .ok (.iload 4, 2) := by decide +kernel
theorem dX5_netFar_69 : decode cX5_netFar 69 = .ok (.ishr, 1) := by decide +kernel
theorem dX5_netFar_70 : decode cX5_netFar 70 = .ok (.iconst 1, 1) := by decide +kernel
theorem dX5_netFar_71 : decode cX5_netFar 71 = .ok (.iand, 1) := by decide +kernel
theorem dX5_netFar_72 : decode cX5_netFar 72 = .ok (.iload_n 1, 1) := by decide +kernel
theorem dX5_netFar_73 : decode cX5_netFar 73 = .ok (.iload 5, 2) := by decide +kernel
theorem dX5_netFar_75 : decode cX5_netFar 75 = .ok (.ishr, 1) := by decide +kernel
theorem dX5_netFar_76 : decode cX5_netFar 76 = .ok (.iconst 1, 1) := by decide +kernel
theorem dX5_netFar_77 : decode cX5_netFar 77 = .ok (.iand, 1) := by decide +kernel
theorem dX5_netFar_78 : decode cX5_netFar 78 = .ok (.if_icmp .ne 7, 3) := by decide +kernel
theorem dX5_netFar_81 : decode cX5_netFar 81 = .ok (.iconst 1, 1) := by decide +kernel
theorem dX5_netFar_82 : decode cX5_netFar 82 = .ok (.goto 4, 3) := by decide +kernel
theorem dX5_netFar_85 : decode cX5_netFar 85 = .ok (.iconst 0, 1) := by decide +kernel
theorem dX5_netFar_86 : decode cX5_netFar 86 = .ok (.iadd, 1) := by decide +kernel
theorem dX5_netFar_87 : decode cX5_netFar 87 = .ok (.istore_n 3, 1) := by decide +kernel
theorem dX5_netFar_88 : decode cX5_netFar 88 = .ok (.iinc 5 1, 3) := by decide +kernel
theorem dX5_netFar_91 : decode cX5_netFar 91 = .ok (.goto (-76), 3) := by decide +kernel
theorem dX5_netFar_94 : decode cX5_netFar 94 = .ok (.iinc 4 1, 3) := by decide +kernel
theorem dX5_netFar_97 : decode cX5_netFar 97 = .ok (.goto (-92), 3) := by decide +kernel
theorem dX5_netFar_100 : decode cX5_netFar 100 = .ok (.iload_n 3, 1) := by decide +kernel
theorem dX5_netFar_101 : decode cX5_netFar 101 = .ok (.ireturn, 1) := by decide +kernel
set_option maxRecDepth 20000 in
theorem ggX5_nearestNet_X5_netFar : GoodIn wsX5_nearestNet wsX5_netFar := goodIn_r _ [5, 6, 7, 8, 9, 10, 11, 12, 13, 14, 15, 16, 17] (by decide +kernel) (by decide +kernel)
set_option maxRecDepth 20000 in
theorem gX5_nearestNet_X5_netFar : GoodIn wsX5_nearestNet (wsV RX5 85 RX5 yX5_netFar wsX5_netFar) := goodIn_app (goodIn_of _ (by decide +kernel)) ggX5_nearestNet_X5_netFar
theorem dX5_nearestNet_0 : decode cX5_nearestNet 0 = .ok (.iconst 0, 1) := by decide +kernel
theorem dX5_nearestNet_1 : decode cX5_nearestNet 1 = .ok (.istore_n 2, 1) := by decide +kernel
theorem dX5_nearestNet_2 : decode cX5_nearestNet 2 = .ok (.iconst 2, 1) := by decide +kernel
theorem dX5_nearestNet_3 : decode cX5_nearestNet 3 = .ok (.istore_n 3, 1) := by decide +kernel
theorem dX5_nearestNet_4 : decode cX5_nearestNet 4 = .ok (.iload_n 3, 1) := by decide +kernel
theorem dX5_nearestNet_5 : decode cX5_nearestNet 5 = .ok (.bipush 64, 2) := by decide +kernel
theorem dX5_nearestNet_7 : decode cX5_nearestNet 7 = .ok (.if_icmp .ge 30, 3) := by decide +kernel
theorem dX5_nearestNet_10 : decode cX5_nearestNet 10 = .ok (.aload_n 0, 1) := by decide +kernel
theorem dX5_nearestNet_11 : decode cX5_nearestNet 11 = .ok (.iload_n 3, 1) := by decide +kernel
theorem dX5_nearestNet_12 : decode cX5_nearestNet 12 = .ok (.iload_n 1, 1) := by decide +kernel
theorem dX5_nearestNet_13 : decode cX5_nearestNet 13 = .ok (.invokevirtual 85, 3) := by decide +kernel
theorem dX5_nearestNet_16 : decode cX5_nearestNet 16 = .ok (.aload_n 0, 1) := by decide +kernel
theorem dX5_nearestNet_17 : decode cX5_nearestNet 17 = .ok (.iload_n 2, 1) := by decide +kernel
theorem dX5_nearestNet_18 : decode cX5_nearestNet 18 = .ok (.iload_n 1, 1) := by decide +kernel
theorem dX5_nearestNet_19 : decode cX5_nearestNet 19 = .ok (.invokevirtual 85, 3) := by decide +kernel
theorem dX5_nearestNet_22 : decode cX5_nearestNet 22 = .ok (.if_icmp .ge 7, 3) := by decide +kernel
theorem dX5_nearestNet_25 : decode cX5_nearestNet 25 = .ok (.iload_n 3, 1) := by decide +kernel
theorem dX5_nearestNet_26 : decode cX5_nearestNet 26 = .ok (.goto 4, 3) := by decide +kernel
theorem dX5_nearestNet_29 : decode cX5_nearestNet 29 = .ok (.iload_n 2, 1) := by decide +kernel
theorem dX5_nearestNet_30 : decode cX5_nearestNet 30 = .ok (.istore_n 2, 1) := by decide +kernel
theorem dX5_nearestNet_31 : decode cX5_nearestNet 31 = .ok (.iinc 3 2, 3) := by decide +kernel
theorem dX5_nearestNet_34 : decode cX5_nearestNet 34 = .ok (.goto (-30), 3) := by decide +kernel
theorem dX5_nearestNet_37 : decode cX5_nearestNet 37 = .ok (.iload_n 2, 1) := by decide +kernel
theorem dX5_nearestNet_38 : decode cX5_nearestNet 38 = .ok (.ireturn, 1) := by decide +kernel
set_option maxRecDepth 20000 in
theorem ggX5_distanceOf_X5_rowDistance : GoodIn wsX5_distanceOf wsX5_rowDistance := goodIn_r _ [5, 6, 7, 8, 4, 9, 10, 11, 12, 13, 14, 15, 16, 17, 18, 19, 20, 21, 22, 23, 24, 25, 26, 27, 28, 29, 30, 31, 32, 33, 34, 35, 36, 37, 62, 63, 64, 65, 66, 67, 68, 69, 70, 71, 72] (by decide +kernel) (by decide +kernel)
set_option maxRecDepth 20000 in
theorem gX5_distanceOf_X5_rowDistance : GoodIn wsX5_distanceOf (wsV RX5 79 RX5 yX5_rowDistance wsX5_rowDistance) := goodIn_app (goodIn_of _ (by decide +kernel)) ggX5_distanceOf_X5_rowDistance
set_option maxRecDepth 20000 in
theorem ggX5_distanceOf_X5_nearestTable : GoodIn wsX5_distanceOf wsX5_nearestTable := goodIn_r _ [41, 42, 43, 44, 4, 45, 46, 47, 48, 49, 50, 51, 52, 62, 63, 64, 65, 66, 67, 68, 69, 70, 71, 72] (by decide +kernel) (by decide +kernel)
set_option maxRecDepth 20000 in
theorem gX5_distanceOf_X5_nearestTable : GoodIn wsX5_distanceOf (wsV RX5 88 RX5 yX5_nearestTable wsX5_nearestTable) := goodIn_app (goodIn_of _ (by decide +kernel)) ggX5_distanceOf_X5_nearestTable
set_option maxRecDepth 20000 in
theorem ggX5_distanceOf_X5_tableFar : GoodIn wsX5_distanceOf wsX5_tableFar := goodIn_r _ [45, 46, 47, 48, 4, 49, 50, 51, 52, 62, 63, 64, 65, 66, 67, 68, 69, 70, 71, 72] (by decide +kernel) (by decide +kernel)
set_option maxRecDepth 20000 in
theorem gX5_distanceOf_X5_tableFar : GoodIn wsX5_distanceOf (wsV RX5 82 RX5 yX5_tableFar wsX5_tableFar) := goodIn_app (goodIn_of _ (by decide +kernel)) ggX5_distanceOf_X5_tableFar
set_option maxRecDepth 20000 in
theorem ggX5_distanceOf_X5_nearestNet : GoodIn wsX5_distanceOf wsX5_nearestNet := goodIn_r _ [56, 57, 58, 59, 4, 60, 61, 62, 63, 64, 65, 66, 67, 68, 69, 70, 71, 72] (by decide +kernel) (by decide +kernel)
set_option maxRecDepth 20000 in
theorem gX5_distanceOf_X5_nearestNet : GoodIn wsX5_distanceOf (wsV RX5 91 RX5 yX5_nearestNet wsX5_nearestNet) := goodIn_app (goodIn_of _ (by decide +kernel)) ggX5_distanceOf_X5_nearestNet
set_option maxRecDepth 20000 in
theorem ggX5_distanceOf_X5_netFar : GoodIn wsX5_distanceOf wsX5_netFar := goodIn_r _ [60, 61, 62, 63, 64, 65, 66, 67, 68, 69, 70, 71, 72] (by decide +kernel) (by decide +kernel)
set_option maxRecDepth 20000 in
theorem gX5_distanceOf_X5_netFar : GoodIn wsX5_distanceOf (wsV RX5 85 RX5 yX5_netFar wsX5_netFar) := goodIn_app (goodIn_of _ (by decide +kernel)) ggX5_distanceOf_X5_netFar
theorem dX5_distanceOf_0 : decode cX5_distanceOf 0 = .ok (.iload_n 1, 1) := by decide +kernel
theorem dX5_distanceOf_1 : decode cX5_distanceOf 1 = .ok (.iconst 4, 1) := by decide +kernel
theorem dX5_distanceOf_2 : decode cX5_distanceOf 2 = .ok (.if_icmp .ge 11, 3) := by decide +kernel
theorem dX5_distanceOf_5 : decode cX5_distanceOf 5 = .ok (.aload_n 0, 1) := by decide +kernel
theorem dX5_distanceOf_6 : decode cX5_distanceOf 6 = .ok (.iload_n 1, 1) := by decide +kernel
theorem dX5_distanceOf_7 : decode cX5_distanceOf 7 = .ok (.invokevirtual 79, 3) := by decide +kernel
theorem dX5_distanceOf_10 : decode cX5_distanceOf 10 = .ok (.goto 31, 3) := by decide +kernel
theorem dX5_distanceOf_13 : decode cX5_distanceOf 13 = .ok (.iload_n 1, 1) := by decide +kernel
theorem dX5_distanceOf_14 : decode cX5_distanceOf 14 = .ok (.iconst 4, 1) := by decide +kernel
theorem dX5_distanceOf_15 : decode cX5_distanceOf 15 = .ok (.if_icmp .ne 14, 3) := by decide +kernel
theorem dX5_distanceOf_18 : decode cX5_distanceOf 18 = .ok (.aload_n 0, 1) := by decide +kernel
theorem dX5_distanceOf_19 : decode cX5_distanceOf 19 = .ok (.aload_n 0, 1) := by decide +kernel
theorem dX5_distanceOf_20 : decode cX5_distanceOf 20 = .ok (.invokevirtual 88, 3) := by decide +kernel
theorem dX5_distanceOf_23 : decode cX5_distanceOf 23 = .ok (.invokevirtual 82, 3) := by decide +kernel
theorem dX5_distanceOf_26 : decode cX5_distanceOf 26 = .ok (.goto 15, 3) := by decide +kernel
theorem dX5_distanceOf_29 : decode cX5_distanceOf 29 = .ok (.aload_n 0, 1) := by decide +kernel
theorem dX5_distanceOf_30 : decode cX5_distanceOf 30 = .ok (.aload_n 0, 1) := by decide +kernel
theorem dX5_distanceOf_31 : decode cX5_distanceOf 31 = .ok (.bipush 63, 2) := by decide +kernel
theorem dX5_distanceOf_33 : decode cX5_distanceOf 33 = .ok (.invokevirtual 91, 3) := by decide +kernel
theorem dX5_distanceOf_36 : decode cX5_distanceOf 36 = .ok (.bipush 63, 2) := by decide +kernel
theorem dX5_distanceOf_38 : decode cX5_distanceOf 38 = .ok (.invokevirtual 85, 3) := by decide +kernel
theorem dX5_distanceOf_41 : decode cX5_distanceOf 41 = .ok (.ireturn, 1) := by decide +kernel
set_option maxRecDepth 20000 in
theorem ggX5_is_X5_isSubject : GoodIn wsX5_is wsX5_isSubject := goodIn_r _ [4, 5, 6, 3, 7] (by decide +kernel) (by decide +kernel)
set_option maxRecDepth 20000 in
theorem gX5_is_X5_isSubject : GoodIn wsX5_is (va_wsS RX5 94 yX5_isSubject wsX5_isSubject) := goodIn_app (goodIn_of _ (by decide +kernel)) ggX5_is_X5_isSubject
set_option maxRecDepth 20000 in
theorem ggX5_is_X5_distanceOf : GoodIn wsX5_is wsX5_distanceOf := goodIn_r _ [11, 12, 13, 14, 3, 15, 16, 17, 18, 19, 20, 21, 22, 23, 24, 25, 26, 27, 28, 29, 30, 31, 32, 33, 34, 35, 36, 37, 38, 39, 40, 41, 42, 43, 44, 45, 46, 47, 48, 49, 50, 51, 52, 53, 54, 55, 56, 57, 58, 59, 60, 61, 62, 63, 64, 65, 66, 67, 68, 69, 70, 71, 72, 73, 74, 75, 76, 77, 78, 79, 80, 81, 82] (by decide +kernel) (by decide +kernel)
set_option maxRecDepth 20000 in
theorem gX5_is_X5_distanceOf : GoodIn wsX5_is (wsV RX5 97 RX5 yX5_distanceOf wsX5_distanceOf) := goodIn_app (goodIn_of _ (by decide +kernel)) ggX5_is_X5_distanceOf
theorem dX5_is_0 : decode cX5_is 0 = .ok (.iload_n 1, 1) := by decide +kernel
theorem dX5_is_1 : decode cX5_is 1 = .ok (.invokestatic 94, 3) := by decide +kernel
theorem dX5_is_4 : decode cX5_is 4 = .ok (.ifCond .ne 8, 3) := by decide +kernel
theorem dX5_is_7 : decode cX5_is 7 = .ok (.bipush (-2), 2) := by decide +kernel
theorem dX5_is_9 : decode cX5_is 9 = .ok (.goto 16, 3) := by decide +kernel
theorem dX5_is_12 : decode cX5_is 12 = .ok (.aload_n 0, 1) := by decide +kernel
theorem dX5_is_13 : decode cX5_is 13 = .ok (.iload_n 1, 1) := by decide +kernel
theorem dX5_is_14 : decode cX5_is 14 = .ok (.invokevirtual 97, 3) := by decide +kernel
theorem dX5_is_17 : decode cX5_is 17 = .ok (.ifCond .ne 7, 3) := by decide +kernel
theorem dX5_is_20 : decode cX5_is 20 = .ok (.iconst 1, 1) := by decide +kernel
theorem dX5_is_21 : decode cX5_is 21 = .ok (.goto 4, 3) := by decide +kernel
theorem dX5_is_24 : decode cX5_is 24 = .ok (.iconst 0, 1) := by decide +kernel
theorem dX5_is_25 : decode cX5_is 25 = .ok (.ireturn, 1) := by decide +kernel
set_option maxRecDepth 20000 in
theorem ggX5_distance_X5_isSubject : GoodIn wsX5_distance wsX5_isSubject := goodIn_r _ [4, 5, 6, 3, 7] (by decide +kernel) (by decide +kernel)
set_option maxRecDepth 20000 in
theorem gX5_distance_X5_isSubject : GoodIn wsX5_distance (va_wsS RX5 94 yX5_isSubject wsX5_isSubject) := goodIn_app (goodIn_of _ (by decide +kernel)) ggX5_distance_X5_isSubject
set_option maxRecDepth 20000 in
theorem ggX5_distance_X5_distanceOf : GoodIn wsX5_distance wsX5_distanceOf := goodIn_r _ [11, 12, 13, 14, 3, 15, 16, 17, 18, 19, 20, 21, 22, 23, 24, 25, 26, 27, 28, 29, 30, 31, 32, 33, 34, 35, 36, 37, 38, 39, 40, 41, 42, 43, 44, 45, 46, 47, 48, 49, 50, 51, 52, 53, 54, 55, 56, 57, 58, 59, 60, 61, 62, 63, 64, 65, 66, 67, 68, 69, 70, 71, 72, 73, 74, 75, 76, 77, 78, 79, 80, 81, 82] (by decide +kernel) (by decide +kernel)
set_option maxRecDepth 20000 in
theorem gX5_distance_X5_distanceOf : GoodIn wsX5_distance (wsV RX5 97 RX5 yX5_distanceOf wsX5_distanceOf) := goodIn_app (goodIn_of _ (by decide +kernel)) ggX5_distance_X5_distanceOf
theorem dX5_distance_0 : decode cX5_distance 0 = .ok (.iload_n 1, 1) := by decide +kernel
theorem dX5_distance_1 : decode cX5_distance 1 = .ok (.invokestatic 94, 3) := by decide +kernel
theorem dX5_distance_4 : decode cX5_distance 4 = .ok (.ifCond .eq 11, 3) := by decide +kernel
theorem dX5_distance_7 : decode cX5_distance 7 = .ok (.aload_n 0, 1) := by decide +kernel
theorem dX5_distance_8 : decode cX5_distance 8 = .ok (.iload_n 1, 1) := by decide +kernel
theorem dX5_distance_9 : decode cX5_distance 9 = .ok (.invokevirtual 97, 3) := by decide +kernel
theorem dX5_distance_12 : decode cX5_distance 12 = .ok (.goto 5, 3) := by decide +kernel
theorem dX5_distance_15 : decode cX5_distance 15 = .ok (.bipush (-2), 2) := by decide +kernel
theorem dX5_distance_17 : decode cX5_distance 17 = .ok (.ireturn, 1) := by decide +kernel
set_option maxRecDepth 20000 in
theorem ggX5_nearest_X5_isSubject : GoodIn wsX5_nearest wsX5_isSubject := goodIn_r _ [5, 6, 7, 4, 8] (by decide +kernel) (by decide +kernel)
set_option maxRecDepth 20000 in
theorem gX5_nearest_X5_isSubject : GoodIn wsX5_nearest (va_wsS RX5 94 yX5_isSubject wsX5_isSubject) := goodIn_app (goodIn_of _ (by decide +kernel)) ggX5_nearest_X5_isSubject
set_option maxRecDepth 20000 in
theorem ggX5_nearest_X5_isPlace : GoodIn wsX5_nearest wsX5_isPlace := goodIn_r _ [12, 13, 6, 7, 4, 8, 76, 77, 78, 79, 80, 81, 82, 83, 84, 85, 86] (by decide +kernel) (by decide +kernel)
set_option maxRecDepth 20000 in
theorem gX5_nearest_X5_isPlace : GoodIn wsX5_nearest (wsV RX5 36 RX5 yX5_isPlace wsX5_isPlace) := goodIn_app (goodIn_of _ (by decide +kernel)) ggX5_nearest_X5_isPlace
set_option maxRecDepth 20000 in
theorem ggX5_nearest_X5_findNearest : GoodIn wsX5_nearest wsX5_findNearest := goodIn_r _ [17, 13, 1, 18, 19, 20, 21, 4, 22, 23, 24, 25, 26, 27, 28, 29, 30, 31, 32, 33, 34, 35, 36, 37, 38, 39, 40, 41, 42, 43, 44, 45, 46, 47, 48, 49, 50, 51, 76, 77, 78, 79, 80, 81, 82, 83, 84, 85, 86] (by decide +kernel) (by decide +kernel)
set_option maxRecDepth 20000 in
theorem gX5_nearest_X5_findNearest : GoodIn wsX5_nearest (wsV RX5 100 RX5 yX5_findNearest wsX5_findNearest) := goodIn_app (goodIn_of _ (by decide +kernel)) ggX5_nearest_X5_findNearest
set_option maxRecDepth 20000 in
theorem ggX5_nearest_X5_nearestTable : GoodIn wsX5_nearest wsX5_nearestTable := goodIn_r _ [55, 56, 57, 58, 4, 59, 60, 61, 62, 63, 64, 65, 66, 76, 77, 78, 79, 80, 81, 82, 83, 84, 85, 86] (by decide +kernel) (by decide +kernel)
set_option maxRecDepth 20000 in
theorem gX5_nearest_X5_nearestTable : GoodIn wsX5_nearest (wsV RX5 88 RX5 yX5_nearestTable wsX5_nearestTable) := goodIn_app (goodIn_of _ (by decide +kernel)) ggX5_nearest_X5_nearestTable
set_option maxRecDepth 20000 in
theorem ggX5_nearest_X5_nearestNet : GoodIn wsX5_nearest wsX5_nearestNet := goodIn_r _ [70, 71, 72, 73, 4, 74, 75, 76, 77, 78, 79, 80, 81, 82, 83, 84, 85, 86] (by decide +kernel) (by decide +kernel)
set_option maxRecDepth 20000 in
theorem gX5_nearest_X5_nearestNet : GoodIn wsX5_nearest (wsV RX5 91 RX5 yX5_nearestNet wsX5_nearestNet) := goodIn_app (goodIn_of _ (by decide +kernel)) ggX5_nearest_X5_nearestNet
theorem dX5_nearest_0 : decode cX5_nearest 0 = .ok (.iload_n 1, 1) := by decide +kernel
theorem dX5_nearest_1 : decode cX5_nearest 1 = .ok (.invokestatic 94, 3) := by decide +kernel
theorem dX5_nearest_4 : decode cX5_nearest 4 = .ok (.ifCond .eq 23, 3) := by decide +kernel
theorem dX5_nearest_7 : decode cX5_nearest 7 = .ok (.iload_n 1, 1) := by decide +kernel
theorem dX5_nearest_8 : decode cX5_nearest 8 = .ok (.iconst 4, 1) := by decide +kernel
theorem dX5_nearest_9 : decode cX5_nearest 9 = .ok (.if_icmp .ge 14, 3) := by decide +kernel
theorem dX5_nearest_12 : decode cX5_nearest 12 = .ok (.aload_n 0, 1) := by decide +kernel
theorem dX5_nearest_13 : decode cX5_nearest 13 = .ok (.iload_n 2, 1) := by decide +kernel
theorem dX5_nearest_14 : decode cX5_nearest 14 = .ok (.invokevirtual 36, 3) := by decide +kernel
theorem dX5_nearest_17 : decode cX5_nearest 17 = .ok (.ifCond .ne 13, 3) := by decide +kernel
theorem dX5_nearest_20 : decode cX5_nearest 20 = .ok (.goto 7, 3) := by decide +kernel
theorem dX5_nearest_23 : decode cX5_nearest 23 = .ok (.iload_n 2, 1) := by decide +kernel
theorem dX5_nearest_24 : decode cX5_nearest 24 = .ok (.ifCond .eq 6, 3) := by decide +kernel
theorem dX5_nearest_27 : decode cX5_nearest 27 = .ok (.bipush (-2), 2) := by decide +kernel
theorem dX5_nearest_29 : decode cX5_nearest 29 = .ok (.ireturn, 1) := by decide +kernel
theorem dX5_nearest_30 : decode cX5_nearest 30 = .ok (.iload_n 1, 1) := by decide +kernel
theorem dX5_nearest_31 : decode cX5_nearest 31 = .ok (.iconst 4, 1) := by decide +kernel
theorem dX5_nearest_32 : decode cX5_nearest 32 = .ok (.if_icmp .ge 15, 3) := by decide +kernel
theorem dX5_nearest_35 : decode cX5_nearest 35 = .ok (.aload_n 0, 1) := by decide +kernel
theorem dX5_nearest_36 : decode cX5_nearest 36 = .ok (.iload_n 1, 1) := by decide +kernel
theorem dX5_nearest_37 : decode cX5_nearest 37 = .ok (.invokevirtual 100, 3) := by decide +kernel
theorem dX5_nearest_40 : decode cX5_nearest 40 = .ok (.aload_n 0, 1) := by decide +kernel
theorem dX5_nearest_41 : decode cX5_nearest 41 = .ok (.getfield 26, 3) := by decide +kernel
theorem dX5_nearest_44 : decode cX5_nearest 44 = .ok (.iload_n 2, 1) := by decide +kernel
theorem dX5_nearest_45 : decode cX5_nearest 45 = .ok (.iaload, 1) := by decide +kernel
theorem dX5_nearest_46 : decode cX5_nearest 46 = .ok (.ireturn, 1) := by decide +kernel
theorem dX5_nearest_47 : decode cX5_nearest 47 = .ok (.iload_n 1, 1) := by decide +kernel
theorem dX5_nearest_48 : decode cX5_nearest 48 = .ok (.iconst 4, 1) := by decide +kernel
theorem dX5_nearest_49 : decode cX5_nearest 49 = .ok (.if_icmp .ne 10, 3) := by decide +kernel
theorem dX5_nearest_52 : decode cX5_nearest 52 = .ok (.aload_n 0, 1) := by decide +kernel
theorem dX5_nearest_53 : decode cX5_nearest 53 = .ok (.invokevirtual 88, 3) := by decide +kernel
theorem dX5_nearest_56 : decode cX5_nearest 56 = .ok (.goto 9, 3) := by decide +kernel
theorem dX5_nearest_59 : decode cX5_nearest 59 = .ok (.aload_n 0, 1) := by decide +kernel
theorem dX5_nearest_60 : decode cX5_nearest 60 = .ok (.bipush 63, 2) := by decide +kernel
theorem dX5_nearest_62 : decode cX5_nearest 62 = .ok (.invokevirtual 91, 3) := by decide +kernel
theorem dX5_nearest_65 : decode cX5_nearest 65 = .ok (.ireturn, 1) := by decide +kernel
set_option maxRecDepth 20000 in
theorem ggX5_mend_X5_isSubject : GoodIn wsX5_mend wsX5_isSubject := goodIn_r _ [8, 9, 10, 7, 11] (by decide +kernel) (by decide +kernel)
set_option maxRecDepth 20000 in
theorem gX5_mend_X5_isSubject : GoodIn wsX5_mend (va_wsS RX5 94 yX5_isSubject wsX5_isSubject) := goodIn_app (goodIn_of _ (by decide +kernel)) ggX5_mend_X5_isSubject
set_option maxRecDepth 20000 in
theorem ggX5_mend_X5_distanceOf : GoodIn wsX5_mend wsX5_distanceOf := goodIn_r _ [15, 16, 17, 18, 7, 19, 20, 21, 22, 23, 1, 3, 2, 24, 25, 26, 27, 28, 29, 30, 31, 32, 33, 34, 35, 36, 37, 38, 39, 40, 41, 42, 43, 44, 45, 46, 47, 48, 49, 50, 51, 52, 53, 54, 55, 56, 57, 58, 59, 60, 61, 62, 63, 64, 65, 66, 67, 68, 69, 70, 71, 4, 83, 84, 85, 86, 87, 88, 89, 90, 91, 92, 93] (by decide +kernel) (by decide +kernel)
set_option maxRecDepth 20000 in
theorem gX5_mend_X5_distanceOf : GoodIn wsX5_mend (wsV RX5 97 RX5 yX5_distanceOf wsX5_distanceOf) := goodIn_app (goodIn_of _ (by decide +kernel)) ggX5_mend_X5_distanceOf
set_option maxRecDepth 20000 in
theorem ggX5_mend_X5_findNearest : GoodIn wsX5_mend wsX5_findNearest := goodIn_r _ [75, 1, 3, 2, 16, 17, 18, 7, 19, 20, 21, 22, 23, 24, 25, 26, 27, 28, 29, 30, 31, 32, 33, 34, 35, 36, 37, 38, 39, 40, 41, 42, 43, 44, 45, 46, 47, 48, 83, 84, 85, 86, 87, 88, 89, 90, 91, 92, 93] (by decide +kernel) (by decide +kernel)
set_option maxRecDepth 20000 in
theorem gX5_mend_X5_findNearest : GoodIn wsX5_mend (wsV RX5 100 RX5 yX5_findNearest wsX5_findNearest) := goodIn_app (goodIn_of _ (by decide +kernel)) ggX5_mend_X5_findNearest
set_option maxRecDepth 20000 in
theorem ggX5_mend_X5_nearestTable : GoodIn wsX5_mend wsX5_nearestTable := goodIn_r _ [52, 53, 54, 55, 7, 56, 57, 58, 59, 60, 61, 62, 63, 83, 84, 85, 86, 87, 88, 89, 90, 91, 92, 93] (by decide +kernel) (by decide +kernel)
set_option maxRecDepth 20000 in
theorem gX5_mend_X5_nearestTable : GoodIn wsX5_mend (wsV RX5 88 RX5 yX5_nearestTable wsX5_nearestTable) := goodIn_app (goodIn_of _ (by decide +kernel)) ggX5_mend_X5_nearestTable
set_option maxRecDepth 20000 in
theorem ggX5_mend_X5_linear : GoodIn wsX5_mend wsX5_linear := goodIn_r _ [79, 57, 80, 81, 7, 82, 9, 10, 11, 58, 59, 60, 61, 62, 63, 83, 84, 85, 86, 87, 88, 89, 90, 91, 92, 93] (by decide +kernel) (by decide +kernel)
set_option maxRecDepth 20000 in
theorem gX5_mend_X5_linear : GoodIn wsX5_mend (wsV RX5 104 RX5 yX5_linear wsX5_linear) := goodIn_app (goodIn_of _ (by decide +kernel)) ggX5_mend_X5_linear
set_option maxRecDepth 20000 in
theorem ggX5_mend_X5_nearestNet : GoodIn wsX5_mend wsX5_nearestNet := goodIn_r _ [67, 68, 69, 70, 7, 71, 4, 83, 84, 85, 86, 87, 88, 89, 90, 91, 92, 93] (by decide +kernel) (by decide +kernel)
set_option maxRecDepth 20000 in
theorem gX5_mend_X5_nearestNet : GoodIn wsX5_mend (wsV RX5 91 RX5 yX5_nearestNet wsX5_nearestNet) := goodIn_app (goodIn_of _ (by decide +kernel)) ggX5_mend_X5_nearestNet
theorem dX5_mend_0 : decode cX5_mend 0 = .ok (.iload_n 1, 1) := by decide +kernel
theorem dX5_mend_1 : decode cX5_mend 1 = .ok (.invokestatic 94, 3) := by decide +kernel
theorem dX5_mend_4 : decode cX5_mend 4 = .ok (.ifCond .ne 6, 3) := by decide +kernel
theorem dX5_mend_7 : decode cX5_mend 7 = .ok (.bipush (-2), 2) := by decide +kernel
theorem dX5_mend_9 : decode cX5_mend 9 = .ok (.ireturn, 1) := by decide +kernel
theorem dX5_mend_10 : decode cX5_mend 10 = .ok (.aload_n 0, 1) := by decide +kernel
theorem dX5_mend_11 : decode cX5_mend 11 = .ok (.iload_n 1, 1) := by decide +kernel
theorem dX5_mend_12 : decode cX5_mend 12 = .ok (.invokevirtual 97, 3) := by decide +kernel
theorem dX5_mend_15 : decode cX5_mend 15 = .ok (.istore_n 2, 1) := by decide +kernel
theorem dX5_mend_16 : decode cX5_mend 16 = .ok (.iload_n 1, 1) := by decide +kernel
theorem dX5_mend_17 : decode cX5_mend 17 = .ok (.iconst 4, 1) := by decide +kernel
theorem dX5_mend_18 : decode cX5_mend 18 = .ok (.if_icmp .ge 39, 3) := by decide +kernel
theorem dX5_mend_21 : decode cX5_mend 21 = .ok (.aload_n 0, 1) := by decide +kernel
theorem dX5_mend_22 : decode cX5_mend 22 = .ok (.iload_n 1, 1) := by decide +kernel
theorem dX5_mend_23 : decode cX5_mend 23 = .ok (.invokevirtual 100, 3) := by decide +kernel
theorem dX5_mend_26 : decode cX5_mend 26 = .ok (.iconst 0, 1) := by decide +kernel
theorem dX5_mend_27 : decode cX5_mend 27 = .ok (.istore_n 3, 1) := by decide +kernel
theorem dX5_mend_28 : decode cX5_mend 28 = .ok (.iload_n 3, 1) := by decide +kernel
theorem dX5_mend_29 : decode cX5_mend 29 = .ok (.aload_n 0, 1) := by decide +kernel
theorem dX5_mend_30 : decode cX5_mend 30 = .ok (.getfield 7, 3) := by decide +kernel
theorem dX5_mend_33 : decode cX5_mend 33 = .ok (.if_icmp .ge 21, 3) := by decide +kernel
theorem dX5_mend_36 : decode cX5_mend 36 = .ok (.aload_n 0, 1) := by decide +kernel
theorem dX5_mend_37 : decode cX5_mend 37 = .ok (.getfield 13, 3) := by decide +kernel
theorem dX5_mend_40 : decode cX5_mend 40 = .ok (.iload_n 3, 1) := by decide +kernel
theorem dX5_mend_41 : decode cX5_mend 41 = .ok (.aload_n 0, 1) := by decide +kernel
theorem dX5_mend_42 : decode cX5_mend 42 = .ok (.getfield 26, 3) := by decide +kernel
theorem dX5_mend_45 : decode cX5_mend 45 = .ok (.iload_n 3, 1) := by decide +kernel
theorem dX5_mend_46 : decode cX5_mend 46 = .ok (.iaload, 1) := by decide +kernel
theorem dX5_mend_47 : decode cX5_mend 47 = .ok (.iastore, 1) := by decide +kernel
theorem dX5_mend_48 : decode cX5_mend 48 = .ok (.iinc 3 1, 3) := by decide +kernel
theorem dX5_mend_51 : decode cX5_mend 51 = .ok (.goto (-23), 3) := by decide +kernel
theorem dX5_mend_54 : decode cX5_mend 54 = .ok (.goto 79, 3) := by decide +kernel
theorem dX5_mend_57 : decode cX5_mend 57 = .ok (.iload_n 1, 1) := by decide +kernel
theorem dX5_mend_58 : decode cX5_mend 58 = .ok (.iconst 4, 1) := by decide +kernel
theorem dX5_mend_59 : decode cX5_mend 59 = .ok (.if_icmp .ne 15, 3) := by decide +kernel
theorem dX5_mend_62 : decode cX5_mend 62 = .ok (.aload_n 0, 1) := by decide +kernel
theorem dX5_mend_63 : decode cX5_mend 63 = .ok (.aload_n 0, 1) := by decide +kernel
theorem dX5_mend_64 : decode cX5_mend 64 = .ok (.invokevirtual 88, 3) := by decide +kernel
theorem dX5_mend_67 : decode cX5_mend 67 = .ok (.invokevirtual 104, 3) := by decide +kernel
theorem dX5_mend_70 : decode cX5_mend 70 = .ok (.pop, 1) := by decide +kernel
theorem dX5_mend_71 : decode cX5_mend 71 = .ok (.goto 62, 3) := by decide +kernel
theorem dX5_mend_74 : decode cX5_mend 74 = .ok (.aload_n 0, 1) := by decide +kernel
theorem dX5_mend_75 : decode cX5_mend 75 = .ok (.bipush 63, 2) := by decide +kernel
theorem dX5_mend_77 : decode cX5_mend 77 = .ok (.invokevirtual 91, 3) := by decide +kernel
theorem dX5_mend_80 : decode cX5_mend 80 = .ok (.istore_n 3, 1) := by decide +kernel
theorem dX5_mend_81 : decode cX5_mend 81 = .ok (.iconst 0, 1) := by decide +kernel
theorem dX5_mend_82 : decode cX5_mend 82 = .ok (.istore 4, 2) := by decide +kernel
theorem dX5_mend_84 : decode cX5_mend 84 = .ok (.iload 4, 2) := by decide +kernel
theorem dX5_mend_86 : decode cX5_mend 86 = .ok (.bipush 6, 2) := by decide +kernel
theorem dX5_mend_88 : decode cX5_mend 88 = .ok (.if_icmp .ge 45, 3) := by decide +kernel
theorem dX5_mend_91 : decode cX5_mend 91 = .ok (.iload_n 3, 1) := by decide +kernel
theorem dX5_mend_92 : decode cX5_mend 92 = .ok (.iload 4, 2) := by decide +kernel
theorem dX5_mend_94 : decode cX5_mend 94 = .ok (.ishr, 1) := by decide +kernel
theorem dX5_mend_95 : decode cX5_mend 95 = .ok (.iconst 1, 1) := by decide +kernel
theorem dX5_mend_96 : decode cX5_mend 96 = .ok (.iand, 1) := by decide +kernel
theorem dX5_mend_97 : decode cX5_mend 97 = .ok (.iconst 1, 1) := by decide +kernel
theorem dX5_mend_98 : decode cX5_mend 98 = .ok (.if_icmp .ne 7, 3) := by decide +kernel
theorem dX5_mend_101 : decode cX5_mend 101 = .ok (.iload_n 3, 1) := by decide +kernel
theorem dX5_mend_102 : decode cX5_mend 102 = .ok (.goto 9, 3) := by decide +kernel
theorem dX5_mend_105 : decode cX5_mend 105 = .ok (.bipush 63, 2) := by decide +kernel
theorem dX5_mend_107 : decode cX5_mend 107 = .ok (.iload_n 3, 1) := by decide +kernel
theorem dX5_mend_108 : decode cX5_mend 108 = .ok (.iconst (-1), 1) := by decide +kernel
theorem dX5_mend_109 : decode cX5_mend 109 = .ok (.ixor, 1) := by decide +kernel
theorem dX5_mend_110 : decode cX5_mend 110 = .ok (.iand, 1) := by decide +kernel
theorem dX5_mend_111 : decode cX5_mend 111 = .ok (.istore 5, 2) := by decide +kernel
theorem dX5_mend_113 : decode cX5_mend 113 = .ok (.aload_n 0, 1) := by decide +kernel
theorem dX5_mend_114 : decode cX5_mend 114 = .ok (.getfield 20, 3) := by decide +kernel
theorem dX5_mend_117 : decode cX5_mend 117 = .ok (.iload 4, 2) := by decide +kernel
theorem dX5_mend_119 : decode cX5_mend 119 = .ok (.dup2, 1) := by decide +kernel
theorem dX5_mend_120 : decode cX5_mend 120 = .ok (.iaload, 1) := by decide +kernel
theorem dX5_mend_121 : decode cX5_mend 121 = .ok (.iload 5, 2) := by decide +kernel
theorem dX5_mend_123 : decode cX5_mend 123 = .ok (.iconst (-1), 1) := by decide +kernel
theorem dX5_mend_124 : decode cX5_mend 124 = .ok (.ixor, 1) := by decide +kernel
theorem dX5_mend_125 : decode cX5_mend 125 = .ok (.iand, 1) := by decide +kernel
theorem dX5_mend_126 : decode cX5_mend 126 = .ok (.iastore, 1) := by decide +kernel
theorem dX5_mend_127 : decode cX5_mend 127 = .ok (.iinc 4 1, 3) := by decide +kernel
theorem dX5_mend_130 : decode cX5_mend 130 = .ok (.goto (-46), 3) := by decide +kernel
theorem dX5_mend_133 : decode cX5_mend 133 = .ok (.iload_n 2, 1) := by decide +kernel
theorem dX5_mend_134 : decode cX5_mend 134 = .ok (.ireturn, 1) := by decide +kernel
theorem dX5_passesTable_0 : decode cX5_passesTable 0 = .ok (.iload_n 0, 1) := by decide +kernel
theorem dX5_passesTable_1 : decode cX5_passesTable 1 = .ok (.iload_n 1, 1) := by decide +kernel
theorem dX5_passesTable_2 : decode cX5_passesTable 2 = .ok (.iadd, 1) := by decide +kernel
theorem dX5_passesTable_3 : decode cX5_passesTable 3 = .ok (.iload_n 2, 1) := by decide +kernel
theorem dX5_passesTable_4 : decode cX5_passesTable 4 = .ok (.iadd, 1) := by decide +kernel
theorem dX5_passesTable_5 : decode cX5_passesTable 5 = .ok (.iconst 2, 1) := by decide +kernel
theorem dX5_passesTable_6 : decode cX5_passesTable 6 = .ok (.irem, 1) := by decide +kernel
theorem dX5_passesTable_7 : decode cX5_passesTable 7 = .ok (.ifCond .ne 7, 3) := by decide +kernel
theorem dX5_passesTable_10 : decode cX5_passesTable 10 = .ok (.iconst 1, 1) := by decide +kernel
theorem dX5_passesTable_11 : decode cX5_passesTable 11 = .ok (.goto 4, 3) := by decide +kernel
theorem dX5_passesTable_14 : decode cX5_passesTable 14 = .ok (.iconst 0, 1) := by decide +kernel
theorem dX5_passesTable_15 : decode cX5_passesTable 15 = .ok (.ireturn, 1) := by decide +kernel
set_option maxRecDepth 20000 in
theorem ggX5_countRow_X5_fromEven : GoodIn wsX5_countRow wsX5_fromEven := goodIn_r _ [9, 3, 4, 10, 11, 12, 13, 14, 15, 16, 17, 18, 19, 20] (by decide +kernel) (by decide +kernel)
set_option maxRecDepth 20000 in
theorem gX5_countRow_X5_fromEven : GoodIn wsX5_countRow (wsV RX5 67 RX5 yX5_fromEven wsX5_fromEven) := goodIn_app (goodIn_of _ (by decide +kernel)) ggX5_countRow_X5_fromEven
theorem dX5_countRow_0 : decode cX5_countRow 0 = .ok (.aload_n 0, 1) := by decide +kernel
theorem dX5_countRow_1 : decode cX5_countRow 1 = .ok (.lconst 0, 1) := by decide +kernel
theorem dX5_countRow_2 : decode cX5_countRow 2 = .ok (.putfield 107, 3) := by decide +kernel
theorem dX5_countRow_5 : decode cX5_countRow 5 = .ok (.aload_n 0, 1) := by decide +kernel
theorem dX5_countRow_6 : decode cX5_countRow 6 = .ok (.lconst 0, 1) := by decide +kernel
theorem dX5_countRow_7 : decode cX5_countRow 7 = .ok (.putfield 111, 3) := by decide +kernel
theorem dX5_countRow_10 : decode cX5_countRow 10 = .ok (.iload_n 1, 1) := by decide +kernel
theorem dX5_countRow_11 : decode cX5_countRow 11 = .ok (.iconst 2, 1) := by decide +kernel
theorem dX5_countRow_12 : decode cX5_countRow 12 = .ok (.if_icmp .ne 24, 3) := by decide +kernel
theorem dX5_countRow_15 : decode cX5_countRow 15 = .ok (.aload_n 0, 1) := by decide +kernel
theorem dX5_countRow_16 : decode cX5_countRow 16 = .ok (.aload_n 0, 1) := by decide +kernel
theorem dX5_countRow_17 : decode cX5_countRow 17 = .ok (.invokevirtual 67, 3) := by decide +kernel
theorem dX5_countRow_20 : decode cX5_countRow 20 = .ok (.ifCond .ne 7, 3) := by decide +kernel
theorem dX5_countRow_23 : decode cX5_countRow 23 = .ok (.lconst 1, 1) := by decide +kernel
theorem dX5_countRow_24 : decode cX5_countRow 24 = .ok (.goto 4, 3) := by decide +kernel
theorem dX5_countRow_27 : decode cX5_countRow 27 = .ok (.lconst 0, 1) := by decide +kernel
theorem dX5_countRow_28 : decode cX5_countRow 28 = .ok (.putfield 107, 3) := by decide +kernel
theorem dX5_countRow_31 : decode cX5_countRow 31 = .ok (.aload_n 0, 1) := by decide +kernel
theorem dX5_countRow_32 : decode cX5_countRow 32 = .ok (.lconst 1, 1) := by decide +kernel
theorem dX5_countRow_33 : decode cX5_countRow 33 = .ok (.putfield 111, 3) := by decide +kernel
theorem dX5_countRow_36 : decode cX5_countRow 36 = .ok (.iconst 0, 1) := by decide +kernel
theorem dX5_countRow_37 : decode cX5_countRow 37 = .ok (.istore_n 2, 1) := by decide +kernel
theorem dX5_countRow_38 : decode cX5_countRow 38 = .ok (.iload_n 2, 1) := by decide +kernel
theorem dX5_countRow_39 : decode cX5_countRow 39 = .ok (.aload_n 0, 1) := by decide +kernel
theorem dX5_countRow_40 : decode cX5_countRow 40 = .ok (.getfield 7, 3) := by decide +kernel
theorem dX5_countRow_43 : decode cX5_countRow 43 = .ok (.if_icmp .ge 175, 3) := by decide +kernel
theorem dX5_countRow_46 : decode cX5_countRow 46 = .ok (.iload_n 1, 1) := by decide +kernel
theorem dX5_countRow_47 : decode cX5_countRow 47 = .ok (.iconst 1, 1) := by decide +kernel
theorem dX5_countRow_48 : decode cX5_countRow 48 = .ok (.if_icmp .ne 49, 3) := by decide +kernel
theorem dX5_countRow_51 : decode cX5_countRow 51 = .ok (.aload_n 0, 1) := by decide +kernel
theorem dX5_countRow_52 : decode cX5_countRow 52 = .ok (.dup, 1) := by decide +kernel
theorem dX5_countRow_53 : decode cX5_countRow 53 = .ok (.getfield 107, 3) := by decide +kernel
theorem dX5_countRow_56 : decode cX5_countRow 56 = .ok (.aload_n 0, 1) := by decide +kernel
theorem dX5_countRow_57 : decode cX5_countRow 57 = .ok (.getfield 26, 3) := by decide +kernel
theorem dX5_countRow_60 : decode cX5_countRow 60 = .ok (.iload_n 2, 1) := by decide +kernel
theorem dX5_countRow_61 : decode cX5_countRow 61 = .ok (.iaload, 1) := by decide +kernel
theorem dX5_countRow_62 : decode cX5_countRow 62 = .ok (.aload_n 0, 1) := by decide +kernel
theorem dX5_countRow_63 : decode cX5_countRow 63 = .ok (.getfield 26, 3) := by decide +kernel
theorem dX5_countRow_66 : decode cX5_countRow 66 = .ok (.aload_n 0, 1) := by decide +kernel
theorem dX5_countRow_67 : decode cX5_countRow 67 = .ok (.getfield 7, 3) := by decide +kernel
theorem dX5_countRow_70 : decode cX5_countRow 70 = .ok (.iconst 1, 1) := by decide +kernel
theorem dX5_countRow_71 : decode cX5_countRow 71 = .ok (.isub, 1) := by decide +kernel
theorem dX5_countRow_72 : decode cX5_countRow 72 = .ok (.iload_n 2, 1) := by decide +kernel
theorem dX5_countRow_73 : decode cX5_countRow 73 = .ok (.isub, 1) := by decide +kernel
theorem dX5_countRow_74 : decode cX5_countRow 74 = .ok (.iaload, 1) := by decide +kernel
theorem dX5_countRow_75 : decode cX5_countRow 75 = .ok (.if_icmp .ne 7, 3) := by decide +kernel
theorem dX5_countRow_78 : decode cX5_countRow 78 = .ok (.lconst 1, 1) := by decide +kernel
theorem dX5_countRow_79 : decode cX5_countRow 79 = .ok (.goto 4, 3) := by decide +kernel
theorem dX5_countRow_82 : decode cX5_countRow 82 = .ok (.lconst 0, 1) := by decide +kernel
theorem dX5_countRow_83 : decode cX5_countRow 83 = .ok (.ladd, 1) := by decide +kernel
theorem dX5_countRow_84 : decode cX5_countRow 84 = .ok (.putfield 107, 3) := by decide +kernel
theorem dX5_countRow_87 : decode cX5_countRow 87 = .ok (.aload_n 0, 1) := by decide +kernel
theorem dX5_countRow_88 : decode cX5_countRow 88 = .ok (.dup, 1) := by decide +kernel
theorem dX5_countRow_89 : decode cX5_countRow 89 = .ok (.getfield 111, 3) := by decide +kernel
theorem dX5_countRow_92 : decode cX5_countRow 92 = .ok (.lconst 1, 1) := by decide +kernel
theorem dX5_countRow_93 : decode cX5_countRow 93 = .ok (.ladd, 1) := by decide +kernel
theorem dX5_countRow_94 : decode cX5_countRow 94 = .ok (.putfield 111, 3) := by decide +kernel
theorem dX5_countRow_97 : decode cX5_countRow 97 = .ok (.iconst 1, 1) := by decide +kernel
theorem dX5_countRow_98 : decode cX5_countRow 98 = .ok (.istore_n 3, 1) := by decide +kernel
theorem dX5_countRow_99 : decode cX5_countRow 99 = .ok (.iload_n 3, 1) := by decide +kernel
theorem dX5_countRow_100 : decode cX5_countRow 100 = .ok (.aload_n 0, 1) := by decide +kernel
theorem dX5_countRow_101 : decode cX5_countRow 101 = .ok (.getfield 7, 3) := by decide +kernel
theorem dX5_countRow_104 : decode cX5_countRow 104 = .ok (.if_icmp .ge 108, 3) := by decide +kernel
theorem dX5_countRow_107 : decode cX5_countRow 107 = .ok (.iload_n 1, 1) := by decide +kernel
theorem dX5_countRow_108 : decode cX5_countRow 108 = .ok (.ifCond .ne 47, 3) := by decide +kernel
theorem dX5_countRow_111 : decode cX5_countRow 111 = .ok (.iload_n 2, 1) := by decide +kernel
theorem dX5_countRow_112 : decode cX5_countRow 112 = .ok (.iload_n 3, 1) := by decide +kernel
theorem dX5_countRow_113 : decode cX5_countRow 113 = .ok (.if_icmp .ge 42, 3) := by decide +kernel
theorem dX5_countRow_116 : decode cX5_countRow 116 = .ok (.aload_n 0, 1) := by decide +kernel
theorem dX5_countRow_117 : decode cX5_countRow 117 = .ok (.dup, 1) := by decide +kernel
theorem dX5_countRow_118 : decode cX5_countRow 118 = .ok (.getfield 107, 3) := by decide +kernel
theorem dX5_countRow_121 : decode cX5_countRow 121 = .ok (.aload_n 0, 1) := by decide +kernel
theorem dX5_countRow_122 : decode cX5_countRow 122 = .ok (.getfield 26, 3) := by decide +kernel
theorem dX5_countRow_125 : decode cX5_countRow 125 = .ok (.iload_n 2, 1) := by decide +kernel
theorem dX5_countRow_126 : decode cX5_countRow 126 = .ok (.iaload, 1) := by decide +kernel
theorem dX5_countRow_127 : decode cX5_countRow 127 = .ok (.aload_n 0, 1) := by decide +kernel
theorem dX5_countRow_128 : decode cX5_countRow 128 = .ok (.getfield 26, 3) := by decide +kernel
theorem dX5_countRow_131 : decode cX5_countRow 131 = .ok (.iload_n 3, 1) := by decide +kernel
theorem dX5_countRow_132 : decode cX5_countRow 132 = .ok (.iaload, 1) := by decide +kernel
theorem dX5_countRow_133 : decode cX5_countRow 133 = .ok (.if_icmp .gt 7, 3) := by decide +kernel
theorem dX5_countRow_136 : decode cX5_countRow 136 = .ok (.lconst 1, 1) := by decide +kernel
theorem dX5_countRow_137 : decode cX5_countRow 137 = .ok (.goto 4, 3) := by decide +kernel
theorem dX5_countRow_140 : decode cX5_countRow 140 = .ok (.lconst 0, 1) := by decide +kernel
theorem dX5_countRow_141 : decode cX5_countRow 141 = .ok (.ladd, 1) := by decide +kernel
theorem dX5_countRow_142 : decode cX5_countRow 142 = .ok (.putfield 107, 3) := by decide +kernel
theorem dX5_countRow_145 : decode cX5_countRow 145 = .ok (.aload_n 0, 1) := by decide +kernel
theorem dX5_countRow_146 : decode cX5_countRow 146 = .ok (.dup, 1) := by decide +kernel
theorem dX5_countRow_147 : decode cX5_countRow 147 = .ok (.getfield 111, 3) := by decide +kernel
theorem dX5_countRow_150 : decode cX5_countRow 150 = .ok (.lconst 1, 1) := by decide +kernel
theorem dX5_countRow_151 : decode cX5_countRow 151 = .ok (.ladd, 1) := by decide +kernel
theorem dX5_countRow_152 : decode cX5_countRow 152 = .ok (.putfield 111, 3) := by decide +kernel
theorem dX5_countRow_155 : decode cX5_countRow 155 = .ok (.iload_n 1, 1) := by decide +kernel
theorem dX5_countRow_156 : decode cX5_countRow 156 = .ok (.iconst 3, 1) := by decide +kernel
theorem dX5_countRow_157 : decode cX5_countRow 157 = .ok (.if_icmp .ne 49, 3) := by decide +kernel
theorem dX5_countRow_160 : decode cX5_countRow 160 = .ok (.aload_n 0, 1) := by decide +kernel
theorem dX5_countRow_161 : decode cX5_countRow 161 = .ok (.dup, 1) := by decide +kernel
theorem dX5_countRow_162 : decode cX5_countRow 162 = .ok (.getfield 107, 3) := by decide +kernel
theorem dX5_countRow_165 : decode cX5_countRow 165 = .ok (.aload_n 0, 1) := by decide +kernel
theorem dX5_countRow_166 : decode cX5_countRow 166 = .ok (.getfield 26, 3) := by decide +kernel
theorem dX5_countRow_169 : decode cX5_countRow 169 = .ok (.iload_n 2, 1) := by decide +kernel
theorem dX5_countRow_170 : decode cX5_countRow 170 = .ok (.iaload, 1) := by decide +kernel
theorem dX5_countRow_171 : decode cX5_countRow 171 = .ok (.aload_n 0, 1) := by decide +kernel
theorem dX5_countRow_172 : decode cX5_countRow 172 = .ok (.getfield 26, 3) := by decide +kernel
theorem dX5_countRow_175 : decode cX5_countRow 175 = .ok (.iload_n 2, 1) := by decide +kernel
theorem dX5_countRow_176 : decode cX5_countRow 176 = .ok (.iload_n 3, 1) := by decide +kernel
theorem dX5_countRow_177 : decode cX5_countRow 177 = .ok (.iadd, 1) := by decide +kernel
theorem dX5_countRow_178 : decode cX5_countRow 178 = .ok (.aload_n 0, 1) := by decide +kernel
theorem dX5_countRow_179 : decode cX5_countRow 179 = .ok (.getfield 7, 3) := by decide +kernel
theorem dX5_countRow_182 : decode cX5_countRow 182 = .ok (.irem, 1) := by decide +kernel
theorem dX5_countRow_183 : decode cX5_countRow 183 = .ok (.iaload, 1) := by decide +kernel
theorem dX5_countRow_184 : decode cX5_countRow 184 = .ok (.if_icmp .ne 7, 3) := by decide +kernel
theorem dX5_countRow_187 : decode cX5_countRow 187 = .ok (.lconst 1, 1) := by decide +kernel
theorem dX5_countRow_188 : decode cX5_countRow 188 = .ok (.goto 4, 3) := by decide +kernel
theorem dX5_countRow_191 : decode cX5_countRow 191 = .ok (.lconst 0, 1) := by decide +kernel
theorem dX5_countRow_192 : decode cX5_countRow 192 = .ok (.ladd, 1) := by decide +kernel
theorem dX5_countRow_193 : decode cX5_countRow 193 = .ok (.putfield 107, 3) := by decide +kernel
theorem dX5_countRow_196 : decode cX5_countRow 196 = .ok (.aload_n 0, 1) := by decide +kernel
theorem dX5_countRow_197 : decode cX5_countRow 197 = .ok (.dup, 1) := by decide +kernel
theorem dX5_countRow_198 : decode cX5_countRow 198 = .ok (.getfield 111, 3) := by decide +kernel
theorem dX5_countRow_201 : decode cX5_countRow 201 = .ok (.lconst 1, 1) := by decide +kernel
theorem dX5_countRow_202 : decode cX5_countRow 202 = .ok (.ladd, 1) := by decide +kernel
theorem dX5_countRow_203 : decode cX5_countRow 203 = .ok (.putfield 111, 3) := by decide +kernel
theorem dX5_countRow_206 : decode cX5_countRow 206 = .ok (.iinc 3 1, 3) := by decide +kernel
theorem dX5_countRow_209 : decode cX5_countRow 209 = .ok (.goto (-110), 3) := by decide +kernel
theorem dX5_countRow_212 : decode cX5_countRow 212 = .ok (.iinc 2 1, 3) := by decide +kernel
theorem dX5_countRow_215 : decode cX5_countRow 215 = .ok (.goto (-177), 3) := by decide +kernel
theorem dX5_countRow_218 : decode cX5_countRow 218 = .ok (.return_, 1) := by decide +kernel
set_option maxRecDepth 20000 in
theorem ggX5_countTable_X5_passesTable : GoodIn wsX5_countTable wsX5_passesTable := goodIn_r _ [8] (by decide +kernel) (by decide +kernel)
set_option maxRecDepth 20000 in
theorem gX5_countTable_X5_passesTable : GoodIn wsX5_countTable (va_wsS RX5 116 yX5_passesTable wsX5_passesTable) := goodIn_app (goodIn_of _ (by decide +kernel)) ggX5_countTable_X5_passesTable
theorem dX5_countTable_0 : decode cX5_countTable 0 = .ok (.aload_n 0, 1) := by decide +kernel
theorem dX5_countTable_1 : decode cX5_countTable 1 = .ok (.lconst 0, 1) := by decide +kernel
theorem dX5_countTable_2 : decode cX5_countTable 2 = .ok (.putfield 107, 3) := by decide +kernel
theorem dX5_countTable_5 : decode cX5_countTable 5 = .ok (.aload_n 0, 1) := by decide +kernel
theorem dX5_countTable_6 : decode cX5_countTable 6 = .ok (.ldc2_w 114, 3) := by decide +kernel
theorem dX5_countTable_9 : decode cX5_countTable 9 = .ok (.putfield 111, 3) := by decide +kernel
theorem dX5_countTable_12 : decode cX5_countTable 12 = .ok (.iconst 0, 1) := by decide +kernel
theorem dX5_countTable_13 : decode cX5_countTable 13 = .ok (.istore_n 1, 1) := by decide +kernel
theorem dX5_countTable_14 : decode cX5_countTable 14 = .ok (.iload_n 1, 1) := by decide +kernel
theorem dX5_countTable_15 : decode cX5_countTable 15 = .ok (.bipush 8, 2) := by decide +kernel
theorem dX5_countTable_17 : decode cX5_countTable 17 = .ok (.if_icmp .ge 63, 3) := by decide +kernel
theorem dX5_countTable_20 : decode cX5_countTable 20 = .ok (.iconst 0, 1) := by decide +kernel
theorem dX5_countTable_21 : decode cX5_countTable 21 = .ok (.istore_n 2, 1) := by decide +kernel
theorem dX5_countTable_22 : decode cX5_countTable 22 = .ok (.iload_n 2, 1) := by decide +kernel
theorem dX5_countTable_23 : decode cX5_countTable 23 = .ok (.bipush 8, 2) := by decide +kernel
theorem dX5_countTable_25 : decode cX5_countTable 25 = .ok (.if_icmp .ge 49, 3) := by decide +kernel
theorem dX5_countTable_28 : decode cX5_countTable 28 = .ok (.aload_n 0, 1) := by decide +kernel
theorem dX5_countTable_29 : decode cX5_countTable 29 = .ok (.dup, 1) := by decide +kernel
theorem dX5_countTable_30 : decode cX5_countTable 30 = .ok (.getfield 107, 3) := by decide +kernel
theorem dX5_countTable_33 : decode cX5_countTable 33 = .ok (.aload_n 0, 1) := by decide +kernel
theorem dX5_countTable_34 : decode cX5_countTable 34 = .ok (.getfield 17, 3) := by decide +kernel
theorem dX5_countTable_37 : decode cX5_countTable 37 = .ok (.iload_n 1, 1) := by decide +kernel
theorem dX5_countTable_38 : decode cX5_countTable 38 = .ok (.iaload, 1) := by decide +kernel
theorem dX5_countTable_39 : decode cX5_countTable 39 = .ok (.aload_n 0, 1) := by decide +kernel
theorem dX5_countTable_40 : decode cX5_countTable 40 = .ok (.getfield 17, 3) := by decide +kernel
theorem dX5_countTable_43 : decode cX5_countTable 43 = .ok (.iload_n 2, 1) := by decide +kernel
theorem dX5_countTable_44 : decode cX5_countTable 44 = .ok (.iaload, 1) := by decide +kernel
theorem dX5_countTable_45 : decode cX5_countTable 45 = .ok (.aload_n 0, 1) := by decide +kernel
theorem dX5_countTable_46 : decode cX5_countTable 46 = .ok (.getfield 17, 3) := by decide +kernel
theorem dX5_countTable_49 : decode cX5_countTable 49 = .ok (.iload_n 1, 1) := by decide +kernel
theorem dX5_countTable_50 : decode cX5_countTable 50 = .ok (.iload_n 2, 1) := by decide +kernel
theorem dX5_countTable_51 : decode cX5_countTable 51 = .ok (.ixor, 1) := by decide +kernel
theorem dX5_countTable_52 : decode cX5_countTable 52 = .ok (.iaload, 1) := by decide +kernel
theorem dX5_countTable_53 : decode cX5_countTable 53 = .ok (.invokestatic 116, 3) := by decide +kernel
theorem dX5_countTable_56 : decode cX5_countTable 56 = .ok (.ifCond .eq 7, 3) := by decide +kernel
theorem dX5_countTable_59 : decode cX5_countTable 59 = .ok (.lconst 1, 1) := by decide +kernel
theorem dX5_countTable_60 : decode cX5_countTable 60 = .ok (.goto 4, 3) := by decide +kernel
theorem dX5_countTable_63 : decode cX5_countTable 63 = .ok (.lconst 0, 1) := by decide +kernel
theorem dX5_countTable_64 : decode cX5_countTable 64 = .ok (.ladd, 1) := by decide +kernel
theorem dX5_countTable_65 : decode cX5_countTable 65 = .ok (.putfield 107, 3) := by decide +kernel
theorem dX5_countTable_68 : decode cX5_countTable 68 = .ok (.iinc 2 1, 3) := by decide +kernel
theorem dX5_countTable_71 : decode cX5_countTable 71 = .ok (.goto (-49), 3) := by decide +kernel
theorem dX5_countTable_74 : decode cX5_countTable 74 = .ok (.iinc 1 1, 3) := by decide +kernel
theorem dX5_countTable_77 : decode cX5_countTable 77 = .ok (.goto (-63), 3) := by decide +kernel
theorem dX5_countTable_80 : decode cX5_countTable 80 = .ok (.return_, 1) := by decide +kernel
set_option maxRecDepth 20000 in
theorem ggX5_passesNet_X5_nearestNet : GoodIn wsX5_passesNet wsX5_nearestNet := goodIn_r _ [5, 6, 7, 8, 4, 9, 10, 11, 12, 13, 14, 15, 16, 17, 18, 19, 20, 21] (by decide +kernel) (by decide +kernel)
set_option maxRecDepth 20000 in
theorem gX5_passesNet_X5_nearestNet : GoodIn wsX5_passesNet (wsV RX5 91 RX5 yX5_nearestNet wsX5_nearestNet) := goodIn_app (goodIn_of _ (by decide +kernel)) ggX5_passesNet_X5_nearestNet
set_option maxRecDepth 20000 in
theorem ggX5_passesNet_X5_netFar : GoodIn wsX5_passesNet wsX5_netFar := goodIn_r _ [9, 10, 11, 12, 13, 14, 15, 16, 17, 18, 19, 20, 21] (by decide +kernel) (by decide +kernel)
set_option maxRecDepth 20000 in
theorem gX5_passesNet_X5_netFar : GoodIn wsX5_passesNet (wsV RX5 85 RX5 yX5_netFar wsX5_netFar) := goodIn_app (goodIn_of _ (by decide +kernel)) ggX5_passesNet_X5_netFar
theorem dX5_passesNet_0 : decode cX5_passesNet 0 = .ok (.aload_n 0, 1) := by decide +kernel
theorem dX5_passesNet_1 : decode cX5_passesNet 1 = .ok (.aload_n 0, 1) := by decide +kernel
theorem dX5_passesNet_2 : decode cX5_passesNet 2 = .ok (.iload_n 1, 1) := by decide +kernel
theorem dX5_passesNet_3 : decode cX5_passesNet 3 = .ok (.invokevirtual 91, 3) := by decide +kernel
theorem dX5_passesNet_6 : decode cX5_passesNet 6 = .ok (.iload_n 1, 1) := by decide +kernel
theorem dX5_passesNet_7 : decode cX5_passesNet 7 = .ok (.invokevirtual 85, 3) := by decide +kernel
theorem dX5_passesNet_10 : decode cX5_passesNet 10 = .ok (.ifCond .ne 7, 3) := by decide +kernel
theorem dX5_passesNet_13 : decode cX5_passesNet 13 = .ok (.iconst 1, 1) := by decide +kernel
theorem dX5_passesNet_14 : decode cX5_passesNet 14 = .ok (.goto 4, 3) := by decide +kernel
theorem dX5_passesNet_17 : decode cX5_passesNet 17 = .ok (.iconst 0, 1) := by decide +kernel
theorem dX5_passesNet_18 : decode cX5_passesNet 18 = .ok (.ireturn, 1) := by decide +kernel
set_option maxRecDepth 20000 in
theorem ggX5_countNet_X5_ones : GoodIn wsX5_countNet wsX5_ones := goodIn_r _ [7] (by decide +kernel) (by decide +kernel)
set_option maxRecDepth 20000 in
theorem gX5_countNet_X5_ones : GoodIn wsX5_countNet (va_wsS RX5 46 yX5_ones wsX5_ones) := goodIn_app (goodIn_of _ (by decide +kernel)) ggX5_countNet_X5_ones
set_option maxRecDepth 20000 in
theorem ggX5_countNet_X5_passesNet : GoodIn wsX5_countNet wsX5_passesNet := goodIn_r _ [11, 12, 13, 14, 6, 15, 16, 17, 18, 19, 20, 21, 22, 23, 24, 25, 26, 27, 28, 29, 30, 31] (by decide +kernel) (by decide +kernel)
set_option maxRecDepth 20000 in
theorem gX5_countNet_X5_passesNet : GoodIn wsX5_countNet (wsV RX5 119 RX5 yX5_passesNet wsX5_passesNet) := goodIn_app (goodIn_of _ (by decide +kernel)) ggX5_countNet_X5_passesNet
theorem dX5_countNet_0 : decode cX5_countNet 0 = .ok (.aload_n 0, 1) := by decide +kernel
theorem dX5_countNet_1 : decode cX5_countNet 1 = .ok (.lconst 0, 1) := by decide +kernel
theorem dX5_countNet_2 : decode cX5_countNet 2 = .ok (.putfield 107, 3) := by decide +kernel
theorem dX5_countNet_5 : decode cX5_countNet 5 = .ok (.aload_n 0, 1) := by decide +kernel
theorem dX5_countNet_6 : decode cX5_countNet 6 = .ok (.lconst 0, 1) := by decide +kernel
theorem dX5_countNet_7 : decode cX5_countNet 7 = .ok (.putfield 111, 3) := by decide +kernel
theorem dX5_countNet_10 : decode cX5_countNet 10 = .ok (.iconst 0, 1) := by decide +kernel
theorem dX5_countNet_11 : decode cX5_countNet 11 = .ok (.istore_n 1, 1) := by decide +kernel
theorem dX5_countNet_12 : decode cX5_countNet 12 = .ok (.iload_n 1, 1) := by decide +kernel
theorem dX5_countNet_13 : decode cX5_countNet 13 = .ok (.bipush 64, 2) := by decide +kernel
theorem dX5_countNet_15 : decode cX5_countNet 15 = .ok (.if_icmp .ge 52, 3) := by decide +kernel
theorem dX5_countNet_18 : decode cX5_countNet 18 = .ok (.iload_n 1, 1) := by decide +kernel
theorem dX5_countNet_19 : decode cX5_countNet 19 = .ok (.invokestatic 46, 3) := by decide +kernel
theorem dX5_countNet_22 : decode cX5_countNet 22 = .ok (.aload_n 0, 1) := by decide +kernel
theorem dX5_countNet_23 : decode cX5_countNet 23 = .ok (.getfield 23, 3) := by decide +kernel
theorem dX5_countNet_26 : decode cX5_countNet 26 = .ok (.if_icmp .ne 35, 3) := by decide +kernel
theorem dX5_countNet_29 : decode cX5_countNet 29 = .ok (.aload_n 0, 1) := by decide +kernel
theorem dX5_countNet_30 : decode cX5_countNet 30 = .ok (.dup, 1) := by decide +kernel
theorem dX5_countNet_31 : decode cX5_countNet 31 = .ok (.getfield 107, 3) := by decide +kernel
theorem dX5_countNet_34 : decode cX5_countNet 34 = .ok (.aload_n 0, 1) := by decide +kernel
theorem dX5_countNet_35 : decode cX5_countNet 35 = .ok (.iload_n 1, 1) := by decide +kernel
theorem dX5_countNet_36 : decode cX5_countNet 36 = .ok (.invokevirtual 119, 3) := by decide +kernel
theorem dX5_countNet_39 : decode cX5_countNet 39 = .ok (.ifCond .eq 7, 3) := by decide +kernel
theorem dX5_countNet_42 : decode cX5_countNet 42 = .ok (.lconst 1, 1) := by decide +kernel
theorem dX5_countNet_43 : decode cX5_countNet 43 = .ok (.goto 4, 3) := by decide +kernel
theorem dX5_countNet_46 : decode cX5_countNet 46 = .ok (.lconst 0, 1) := by decide +kernel
theorem dX5_countNet_47 : decode cX5_countNet 47 = .ok (.ladd, 1) := by decide +kernel
theorem dX5_countNet_48 : decode cX5_countNet 48 = .ok (.putfield 107, 3) := by decide +kernel
theorem dX5_countNet_51 : decode cX5_countNet 51 = .ok (.aload_n 0, 1) := by decide +kernel
theorem dX5_countNet_52 : decode cX5_countNet 52 = .ok (.dup, 1) := by decide +kernel
theorem dX5_countNet_53 : decode cX5_countNet 53 = .ok (.getfield 111, 3) := by decide +kernel
theorem dX5_countNet_56 : decode cX5_countNet 56 = .ok (.lconst 1, 1) := by decide +kernel
theorem dX5_countNet_57 : decode cX5_countNet 57 = .ok (.ladd, 1) := by decide +kernel
theorem dX5_countNet_58 : decode cX5_countNet 58 = .ok (.putfield 111, 3) := by decide +kernel
theorem dX5_countNet_61 : decode cX5_countNet 61 = .ok (.iinc 1 1, 3) := by decide +kernel
theorem dX5_countNet_64 : decode cX5_countNet 64 = .ok (.goto (-52), 3) := by decide +kernel
theorem dX5_countNet_67 : decode cX5_countNet 67 = .ok (.return_, 1) := by decide +kernel
theorem dX5_reduce_0 : decode cX5_reduce 0 = .ok (.aload_n 0, 1) := by decide +kernel
theorem dX5_reduce_1 : decode cX5_reduce 1 = .ok (.getfield 107, 3) := by decide +kernel
theorem dX5_reduce_4 : decode cX5_reduce 4 = .ok (.lstore_n 1, 1) := by decide +kernel
theorem dX5_reduce_5 : decode cX5_reduce 5 = .ok (.aload_n 0, 1) := by decide +kernel
theorem dX5_reduce_6 : decode cX5_reduce 6 = .ok (.getfield 111, 3) := by decide +kernel
theorem dX5_reduce_9 : decode cX5_reduce 9 = .ok (.lstore_n 3, 1) := by decide +kernel
theorem dX5_reduce_10 : decode cX5_reduce 10 = .ok (.lload_n 3, 1) := by decide +kernel
theorem dX5_reduce_11 : decode cX5_reduce 11 = .ok (.lconst 0, 1) := by decide +kernel
theorem dX5_reduce_12 : decode cX5_reduce 12 = .ok (.lcmp, 1) := by decide +kernel
theorem dX5_reduce_13 : decode cX5_reduce 13 = .ok (.ifCond .eq 16, 3) := by decide +kernel
theorem dX5_reduce_16 : decode cX5_reduce 16 = .ok (.lload_n 1, 1) := by decide +kernel
theorem dX5_reduce_17 : decode cX5_reduce 17 = .ok (.lload_n 3, 1) := by decide +kernel
theorem dX5_reduce_18 : decode cX5_reduce 18 = .ok (.lrem, 1) := by decide +kernel
theorem dX5_reduce_19 : decode cX5_reduce 19 = .ok (.lstore 5, 2) := by decide +kernel
theorem dX5_reduce_21 : decode cX5_reduce 21 = .ok (.lload_n 3, 1) := by decide +kernel
theorem dX5_reduce_22 : decode cX5_reduce 22 = .ok (.lstore_n 1, 1) := by decide +kernel
theorem dX5_reduce_23 : decode cX5_reduce 23 = .ok (.lload 5, 2) := by decide +kernel
theorem dX5_reduce_25 : decode cX5_reduce 25 = .ok (.lstore_n 3, 1) := by decide +kernel
theorem dX5_reduce_26 : decode cX5_reduce 26 = .ok (.goto (-16), 3) := by decide +kernel
theorem dX5_reduce_29 : decode cX5_reduce 29 = .ok (.aload_n 0, 1) := by decide +kernel
theorem dX5_reduce_30 : decode cX5_reduce 30 = .ok (.dup, 1) := by decide +kernel
theorem dX5_reduce_31 : decode cX5_reduce 31 = .ok (.getfield 107, 3) := by decide +kernel
theorem dX5_reduce_34 : decode cX5_reduce 34 = .ok (.lload_n 1, 1) := by decide +kernel
theorem dX5_reduce_35 : decode cX5_reduce 35 = .ok (.ldiv, 1) := by decide +kernel
theorem dX5_reduce_36 : decode cX5_reduce 36 = .ok (.putfield 107, 3) := by decide +kernel
theorem dX5_reduce_39 : decode cX5_reduce 39 = .ok (.aload_n 0, 1) := by decide +kernel
theorem dX5_reduce_40 : decode cX5_reduce 40 = .ok (.dup, 1) := by decide +kernel
theorem dX5_reduce_41 : decode cX5_reduce 41 = .ok (.getfield 111, 3) := by decide +kernel
theorem dX5_reduce_44 : decode cX5_reduce 44 = .ok (.lload_n 1, 1) := by decide +kernel
theorem dX5_reduce_45 : decode cX5_reduce 45 = .ok (.ldiv, 1) := by decide +kernel
theorem dX5_reduce_46 : decode cX5_reduce 46 = .ok (.putfield 111, 3) := by decide +kernel
theorem dX5_reduce_49 : decode cX5_reduce 49 = .ok (.return_, 1) := by decide +kernel
set_option maxRecDepth 20000 in
theorem ggX5_findPass_X5_takeRow : GoodIn wsX5_findPass wsX5_takeRow := goodIn_r _ [5, 6, 7, 8, 53, 54, 55, 56, 57, 58, 59, 60, 61, 62, 63] (by decide +kernel) (by decide +kernel)
set_option maxRecDepth 20000 in
theorem gX5_findPass_X5_takeRow : GoodIn wsX5_findPass (wsV RX5 73 RX5 yX5_takeRow wsX5_takeRow) := goodIn_app (goodIn_of _ (by decide +kernel)) ggX5_findPass_X5_takeRow
set_option maxRecDepth 20000 in
theorem ggX5_findPass_X5_countRow : GoodIn wsX5_findPass wsX5_countRow := goodIn_r _ [12, 13, 14, 6, 7, 15, 16, 17, 4, 18, 53, 54, 55, 56, 57, 58, 59, 60, 61, 62, 63] (by decide +kernel) (by decide +kernel)
set_option maxRecDepth 20000 in
theorem gX5_findPass_X5_countRow : GoodIn wsX5_findPass (wsV RX5 122 RX5 yX5_countRow wsX5_countRow) := goodIn_app (goodIn_of _ (by decide +kernel)) ggX5_findPass_X5_countRow
set_option maxRecDepth 20000 in
theorem ggX5_findPass_X5_countTable : GoodIn wsX5_findPass wsX5_countTable := goodIn_r _ [22, 13, 23, 14, 24, 25, 26, 4, 27, 53, 54, 55, 56, 57, 58, 59, 60, 61, 62, 63] (by decide +kernel) (by decide +kernel)
set_option maxRecDepth 20000 in
theorem gX5_findPass_X5_countTable : GoodIn wsX5_findPass (wsV RX5 125 RX5 yX5_countTable wsX5_countTable) := goodIn_app (goodIn_of _ (by decide +kernel)) ggX5_findPass_X5_countTable
set_option maxRecDepth 20000 in
theorem ggX5_findPass_X5_countNet : GoodIn wsX5_findPass wsX5_countNet := goodIn_r _ [31, 13, 14, 32, 33, 34, 4, 35, 36, 37, 38, 39, 40, 41, 42, 43, 44, 45, 46, 47, 48, 53, 54, 55, 56, 57, 58, 59, 60, 61, 62, 63] (by decide +kernel) (by decide +kernel)
set_option maxRecDepth 20000 in
theorem gX5_findPass_X5_countNet : GoodIn wsX5_findPass (wsV RX5 128 RX5 yX5_countNet wsX5_countNet) := goodIn_app (goodIn_of _ (by decide +kernel)) ggX5_findPass_X5_countNet
set_option maxRecDepth 20000 in
theorem ggX5_findPass_X5_reduce : GoodIn wsX5_findPass wsX5_reduce := goodIn_r _ [52, 13, 14, 53, 54, 55, 56, 57, 58, 59, 60, 61, 62, 63] (by decide +kernel) (by decide +kernel)
set_option maxRecDepth 20000 in
theorem gX5_findPass_X5_reduce : GoodIn wsX5_findPass (wsV RX5 131 RX5 yX5_reduce wsX5_reduce) := goodIn_app (goodIn_of _ (by decide +kernel)) ggX5_findPass_X5_reduce
theorem dX5_findPass_0 : decode cX5_findPass 0 = .ok (.iload_n 1, 1) := by decide +kernel
theorem dX5_findPass_1 : decode cX5_findPass 1 = .ok (.iconst 4, 1) := by decide +kernel
theorem dX5_findPass_2 : decode cX5_findPass 2 = .ok (.if_icmp .ge 15, 3) := by decide +kernel
theorem dX5_findPass_5 : decode cX5_findPass 5 = .ok (.aload_n 0, 1) := by decide +kernel
theorem dX5_findPass_6 : decode cX5_findPass 6 = .ok (.invokevirtual 73, 3) := by decide +kernel
theorem dX5_findPass_9 : decode cX5_findPass 9 = .ok (.aload_n 0, 1) := by decide +kernel
theorem dX5_findPass_10 : decode cX5_findPass 10 = .ok (.iload_n 1, 1) := by decide +kernel
theorem dX5_findPass_11 : decode cX5_findPass 11 = .ok (.invokevirtual 122, 3) := by decide +kernel
theorem dX5_findPass_14 : decode cX5_findPass 14 = .ok (.goto 19, 3) := by decide +kernel
theorem dX5_findPass_17 : decode cX5_findPass 17 = .ok (.iload_n 1, 1) := by decide +kernel
theorem dX5_findPass_18 : decode cX5_findPass 18 = .ok (.iconst 4, 1) := by decide +kernel
theorem dX5_findPass_19 : decode cX5_findPass 19 = .ok (.if_icmp .ne 10, 3) := by decide +kernel
theorem dX5_findPass_22 : decode cX5_findPass 22 = .ok (.aload_n 0, 1) := by decide +kernel
theorem dX5_findPass_23 : decode cX5_findPass 23 = .ok (.invokevirtual 125, 3) := by decide +kernel
theorem dX5_findPass_26 : decode cX5_findPass 26 = .ok (.goto 7, 3) := by decide +kernel
theorem dX5_findPass_29 : decode cX5_findPass 29 = .ok (.aload_n 0, 1) := by decide +kernel
theorem dX5_findPass_30 : decode cX5_findPass 30 = .ok (.invokevirtual 128, 3) := by decide +kernel
theorem dX5_findPass_33 : decode cX5_findPass 33 = .ok (.aload_n 0, 1) := by decide +kernel
theorem dX5_findPass_34 : decode cX5_findPass 34 = .ok (.invokevirtual 131, 3) := by decide +kernel
theorem dX5_findPass_37 : decode cX5_findPass 37 = .ok (.return_, 1) := by decide +kernel
set_option maxRecDepth 20000 in
theorem ggX5_pass_X5_isSubject : GoodIn wsX5_pass wsX5_isSubject := goodIn_r _ [7, 8, 9, 6, 10] (by decide +kernel) (by decide +kernel)
set_option maxRecDepth 20000 in
theorem gX5_pass_X5_isSubject : GoodIn wsX5_pass (va_wsS RX5 94 yX5_isSubject wsX5_isSubject) := goodIn_app (goodIn_of _ (by decide +kernel)) ggX5_pass_X5_isSubject
set_option maxRecDepth 20000 in
theorem ggX5_pass_X5_isBit : GoodIn wsX5_pass wsX5_isBit := goodIn_r _ [13, 8, 9, 6, 10] (by decide +kernel) (by decide +kernel)
set_option maxRecDepth 20000 in
theorem gX5_pass_X5_isBit : GoodIn wsX5_pass (va_wsS RX5 43 yX5_isBit wsX5_isBit) := goodIn_app (goodIn_of _ (by decide +kernel)) ggX5_pass_X5_isBit
set_option maxRecDepth 20000 in
theorem ggX5_pass_X5_findPass : GoodIn wsX5_pass wsX5_findPass := goodIn_r _ [17, 18, 19, 20, 6, 21, 22, 23, 24, 25, 26, 27, 28, 2, 3, 29, 30, 31, 32, 33, 34, 35, 36, 37, 38, 39, 40, 41, 42, 43, 44, 45, 46, 47, 48, 49, 50, 51, 52, 53, 54, 55, 56, 57, 58, 59, 60, 61, 62, 63, 64, 65, 66, 67, 68, 69, 70, 71, 72, 73, 74, 75, 76, 77] (by decide +kernel) (by decide +kernel)
set_option maxRecDepth 20000 in
theorem gX5_pass_X5_findPass : GoodIn wsX5_pass (wsV RX5 136 RX5 yX5_findPass wsX5_findPass) := goodIn_app (goodIn_of _ (by decide +kernel)) ggX5_pass_X5_findPass
theorem dX5_pass_0 : decode cX5_pass 0 = .ok (.iload_n 1, 1) := by decide +kernel
theorem dX5_pass_1 : decode cX5_pass 1 = .ok (.invokestatic 94, 3) := by decide +kernel
theorem dX5_pass_4 : decode cX5_pass 4 = .ok (.ifCond .eq 10, 3) := by decide +kernel
theorem dX5_pass_7 : decode cX5_pass 7 = .ok (.iload_n 2, 1) := by decide +kernel
theorem dX5_pass_8 : decode cX5_pass 8 = .ok (.invokestatic 43, 3) := by decide +kernel
theorem dX5_pass_11 : decode cX5_pass 11 = .ok (.ifCond .ne 7, 3) := by decide +kernel
theorem dX5_pass_14 : decode cX5_pass 14 = .ok (.ldc2_w 134, 3) := by decide +kernel
theorem dX5_pass_17 : decode cX5_pass 17 = .ok (.lreturn, 1) := by decide +kernel
theorem dX5_pass_18 : decode cX5_pass 18 = .ok (.aload_n 0, 1) := by decide +kernel
theorem dX5_pass_19 : decode cX5_pass 19 = .ok (.iload_n 1, 1) := by decide +kernel
theorem dX5_pass_20 : decode cX5_pass 20 = .ok (.invokevirtual 136, 3) := by decide +kernel
theorem dX5_pass_23 : decode cX5_pass 23 = .ok (.iload_n 2, 1) := by decide +kernel
theorem dX5_pass_24 : decode cX5_pass 24 = .ok (.ifCond .ne 10, 3) := by decide +kernel
theorem dX5_pass_27 : decode cX5_pass 27 = .ok (.aload_n 0, 1) := by decide +kernel
theorem dX5_pass_28 : decode cX5_pass 28 = .ok (.getfield 107, 3) := by decide +kernel
theorem dX5_pass_31 : decode cX5_pass 31 = .ok (.goto 7, 3) := by decide +kernel
theorem dX5_pass_34 : decode cX5_pass 34 = .ok (.aload_n 0, 1) := by decide +kernel
theorem dX5_pass_35 : decode cX5_pass 35 = .ok (.getfield 111, 3) := by decide +kernel
theorem dX5_pass_38 : decode cX5_pass 38 = .ok (.lreturn, 1) := by decide +kernel
set_option maxRecDepth 20000 in
theorem ggX5_repeats_X5_isSubject : GoodIn wsX5_repeats wsX5_isSubject := goodIn_r _ [6, 7, 8, 5, 9] (by decide +kernel) (by decide +kernel)
set_option maxRecDepth 20000 in
theorem gX5_repeats_X5_isSubject : GoodIn wsX5_repeats (va_wsS RX5 94 yX5_isSubject wsX5_isSubject) := goodIn_app (goodIn_of _ (by decide +kernel)) ggX5_repeats_X5_isSubject
set_option maxRecDepth 20000 in
theorem ggX5_repeats_X5_in : GoodIn wsX5_repeats wsX5_in := goodIn_r _ [9] (by decide +kernel) (by decide +kernel)
set_option maxRecDepth 20000 in
theorem gX5_repeats_X5_in : GoodIn wsX5_repeats (va_wsS RX5 32 yX5_in wsX5_in) := goodIn_app (goodIn_of _ (by decide +kernel)) ggX5_repeats_X5_in
set_option maxRecDepth 20000 in
theorem ggX5_repeats_X5_findPass : GoodIn wsX5_repeats wsX5_findPass := goodIn_r _ [13, 14, 15, 16, 5, 17, 18, 19, 20, 21, 22, 23, 24, 1, 2, 25, 26, 27, 28, 29, 30, 31, 32, 33, 34, 35, 36, 37, 38, 39, 40, 41, 42, 43, 44, 45, 46, 47, 48, 49, 50, 51, 52, 53, 54, 55, 56, 57, 58, 59, 60, 61, 62, 63, 64, 65, 66, 67, 68, 69, 70, 71, 72, 73] (by decide +kernel) (by decide +kernel)
set_option maxRecDepth 20000 in
theorem gX5_repeats_X5_findPass : GoodIn wsX5_repeats (wsV RX5 136 RX5 yX5_findPass wsX5_findPass) := goodIn_app (goodIn_of _ (by decide +kernel)) ggX5_repeats_X5_findPass
theorem dX5_repeats_0 : decode cX5_repeats 0 = .ok (.iload_n 1, 1) := by decide +kernel
theorem dX5_repeats_1 : decode cX5_repeats 1 = .ok (.invokestatic 94, 3) := by decide +kernel
theorem dX5_repeats_4 : decode cX5_repeats 4 = .ok (.ifCond .eq 22, 3) := by decide +kernel
theorem dX5_repeats_7 : decode cX5_repeats 7 = .ok (.iload_n 3, 1) := by decide +kernel
theorem dX5_repeats_8 : decode cX5_repeats 8 = .ok (.iconst 1, 1) := by decide +kernel
theorem dX5_repeats_9 : decode cX5_repeats 9 = .ok (.bipush 100, 2) := by decide +kernel
theorem dX5_repeats_11 : decode cX5_repeats 11 = .ok (.invokestatic 32, 3) := by decide +kernel
theorem dX5_repeats_14 : decode cX5_repeats 14 = .ok (.ifCond .eq 12, 3) := by decide +kernel
theorem dX5_repeats_17 : decode cX5_repeats 17 = .ok (.iload_n 2, 1) := by decide +kernel
theorem dX5_repeats_18 : decode cX5_repeats 18 = .ok (.iconst 1, 1) := by decide +kernel
theorem dX5_repeats_19 : decode cX5_repeats 19 = .ok (.iload_n 3, 1) := by decide +kernel
theorem dX5_repeats_20 : decode cX5_repeats 20 = .ok (.invokestatic 32, 3) := by decide +kernel
theorem dX5_repeats_23 : decode cX5_repeats 23 = .ok (.ifCond .ne 6, 3) := by decide +kernel
theorem dX5_repeats_26 : decode cX5_repeats 26 = .ok (.bipush (-2), 2) := by decide +kernel
theorem dX5_repeats_28 : decode cX5_repeats 28 = .ok (.ireturn, 1) := by decide +kernel
theorem dX5_repeats_29 : decode cX5_repeats 29 = .ok (.aload_n 0, 1) := by decide +kernel
theorem dX5_repeats_30 : decode cX5_repeats 30 = .ok (.iload_n 1, 1) := by decide +kernel
theorem dX5_repeats_31 : decode cX5_repeats 31 = .ok (.invokevirtual 136, 3) := by decide +kernel
theorem dX5_repeats_34 : decode cX5_repeats 34 = .ok (.lconst 1, 1) := by decide +kernel
theorem dX5_repeats_35 : decode cX5_repeats 35 = .ok (.lstore 4, 2) := by decide +kernel
theorem dX5_repeats_37 : decode cX5_repeats 37 = .ok (.lconst 1, 1) := by decide +kernel
theorem dX5_repeats_38 : decode cX5_repeats 38 = .ok (.lstore 6, 2) := by decide +kernel
theorem dX5_repeats_40 : decode cX5_repeats 40 = .ok (.iconst 1, 1) := by decide +kernel
theorem dX5_repeats_41 : decode cX5_repeats 41 = .ok (.istore 8, 2) := by decide +kernel
theorem dX5_repeats_43 : decode cX5_repeats 43 = .ok (.iload 8, 2) := by decide +kernel
theorem dX5_repeats_45 : decode cX5_repeats 45 = .ok (.bipush 9, 2) := by decide +kernel
theorem dX5_repeats_47 : decode cX5_repeats 47 = .ok (.if_icmp .gt 47, 3) := by decide +kernel
theorem dX5_repeats_50 : decode cX5_repeats 50 = .ok (.lload 4, 2) := by decide +kernel
theorem dX5_repeats_52 : decode cX5_repeats 52 = .ok (.aload_n 0, 1) := by decide +kernel
theorem dX5_repeats_53 : decode cX5_repeats 53 = .ok (.getfield 107, 3) := by decide +kernel
theorem dX5_repeats_56 : decode cX5_repeats 56 = .ok (.lmul, 1) := by decide +kernel
theorem dX5_repeats_57 : decode cX5_repeats 57 = .ok (.lstore 4, 2) := by decide +kernel
theorem dX5_repeats_59 : decode cX5_repeats 59 = .ok (.lload 6, 2) := by decide +kernel
theorem dX5_repeats_61 : decode cX5_repeats 61 = .ok (.aload_n 0, 1) := by decide +kernel
theorem dX5_repeats_62 : decode cX5_repeats 62 = .ok (.getfield 111, 3) := by decide +kernel
theorem dX5_repeats_65 : decode cX5_repeats 65 = .ok (.lmul, 1) := by decide +kernel
theorem dX5_repeats_66 : decode cX5_repeats 66 = .ok (.lstore 6, 2) := by decide +kernel
theorem dX5_repeats_68 : decode cX5_repeats 68 = .ok (.iload_n 3, 1) := by decide +kernel
theorem dX5_repeats_69 : decode cX5_repeats 69 = .ok (.i2l, 1) := by decide +kernel
theorem dX5_repeats_70 : decode cX5_repeats 70 = .ok (.lload 6, 2) := by decide +kernel
theorem dX5_repeats_72 : decode cX5_repeats 72 = .ok (.lload 4, 2) := by decide +kernel
theorem dX5_repeats_74 : decode cX5_repeats 74 = .ok (.lsub, 1) := by decide +kernel
theorem dX5_repeats_75 : decode cX5_repeats 75 = .ok (.lmul, 1) := by decide +kernel
theorem dX5_repeats_76 : decode cX5_repeats 76 = .ok (.iload_n 2, 1) := by decide +kernel
theorem dX5_repeats_77 : decode cX5_repeats 77 = .ok (.i2l, 1) := by decide +kernel
theorem dX5_repeats_78 : decode cX5_repeats 78 = .ok (.lload 6, 2) := by decide +kernel
theorem dX5_repeats_80 : decode cX5_repeats 80 = .ok (.lmul, 1) := by decide +kernel
theorem dX5_repeats_81 : decode cX5_repeats 81 = .ok (.lcmp, 1) := by decide +kernel
theorem dX5_repeats_82 : decode cX5_repeats 82 = .ok (.ifCond .lt 6, 3) := by decide +kernel
theorem dX5_repeats_85 : decode cX5_repeats 85 = .ok (.iload 8, 2) := by decide +kernel
theorem dX5_repeats_87 : decode cX5_repeats 87 = .ok (.ireturn, 1) := by decide +kernel
theorem dX5_repeats_88 : decode cX5_repeats 88 = .ok (.iinc 8 1, 3) := by decide +kernel
theorem dX5_repeats_91 : decode cX5_repeats 91 = .ok (.goto (-48), 3) := by decide +kernel
theorem dX5_repeats_94 : decode cX5_repeats 94 = .ok (.iconst (-1), 1) := by decide +kernel
theorem dX5_repeats_95 : decode cX5_repeats 95 = .ok (.ireturn, 1) := by decide +kernel
set_option maxRecDepth 20000 in
theorem ggX5_findWorst_X5_fromKind : GoodIn wsX5_findWorst wsX5_fromKind := goodIn_r _ [11, 12, 13, 14, 10, 15, 1, 16, 2, 17, 18, 19, 20, 21, 22, 23, 24, 25, 26, 27, 28, 29, 30, 31, 32, 37, 38, 39, 40, 41, 42, 43, 44, 45, 46, 47] (by decide +kernel) (by decide +kernel)
set_option maxRecDepth 20000 in
theorem gX5_findWorst_X5_fromKind : GoodIn wsX5_findWorst (wsV RX5 76 RX5 yX5_fromKind wsX5_fromKind) := goodIn_app (goodIn_of _ (by decide +kernel)) ggX5_findWorst_X5_fromKind
set_option maxRecDepth 20000 in
theorem ggX5_findWorst_X5_countRow : GoodIn wsX5_findWorst wsX5_countRow := goodIn_r _ [36, 3, 6, 1, 2, 21, 22, 23, 10, 24, 37, 38, 39, 40, 41, 42, 43, 44, 45, 46, 47] (by decide +kernel) (by decide +kernel)
set_option maxRecDepth 20000 in
theorem gX5_findWorst_X5_countRow : GoodIn wsX5_findWorst (wsV RX5 122 RX5 yX5_countRow wsX5_countRow) := goodIn_app (goodIn_of _ (by decide +kernel)) ggX5_findWorst_X5_countRow
theorem dX5_findWorst_0 : decode cX5_findWorst 0 = .ok (.iconst (-1), 1) := by decide +kernel
theorem dX5_findWorst_1 : decode cX5_findWorst 1 = .ok (.istore_n 3, 1) := by decide +kernel
theorem dX5_findWorst_2 : decode cX5_findWorst 2 = .ok (.iconst 0, 1) := by decide +kernel
theorem dX5_findWorst_3 : decode cX5_findWorst 3 = .ok (.istore 4, 2) := by decide +kernel
theorem dX5_findWorst_5 : decode cX5_findWorst 5 = .ok (.iload 4, 2) := by decide +kernel
theorem dX5_findWorst_7 : decode cX5_findWorst 7 = .ok (.iconst 1, 1) := by decide +kernel
theorem dX5_findWorst_8 : decode cX5_findWorst 8 = .ok (.aload_n 0, 1) := by decide +kernel
theorem dX5_findWorst_9 : decode cX5_findWorst 9 = .ok (.getfield 7, 3) := by decide +kernel
theorem dX5_findWorst_12 : decode cX5_findWorst 12 = .ok (.ishl, 1) := by decide +kernel
theorem dX5_findWorst_13 : decode cX5_findWorst 13 = .ok (.if_icmp .ge 108, 3) := by decide +kernel
theorem dX5_findWorst_16 : decode cX5_findWorst 16 = .ok (.iconst 0, 1) := by decide +kernel
theorem dX5_findWorst_17 : decode cX5_findWorst 17 = .ok (.istore 5, 2) := by decide +kernel
theorem dX5_findWorst_19 : decode cX5_findWorst 19 = .ok (.iload 5, 2) := by decide +kernel
theorem dX5_findWorst_21 : decode cX5_findWorst 21 = .ok (.aload_n 0, 1) := by decide +kernel
theorem dX5_findWorst_22 : decode cX5_findWorst 22 = .ok (.getfield 7, 3) := by decide +kernel
theorem dX5_findWorst_25 : decode cX5_findWorst 25 = .ok (.if_icmp .ge 30, 3) := by decide +kernel
theorem dX5_findWorst_28 : decode cX5_findWorst 28 = .ok (.aload_n 0, 1) := by decide +kernel
theorem dX5_findWorst_29 : decode cX5_findWorst 29 = .ok (.getfield 26, 3) := by decide +kernel
theorem dX5_findWorst_32 : decode cX5_findWorst 32 = .ok (.iload 5, 2) := by decide +kernel
theorem dX5_findWorst_34 : decode cX5_findWorst 34 = .ok (.iload 4, 2) := by decide +kernel
theorem dX5_findWorst_36 : decode cX5_findWorst 36 = .ok (.aload_n 0, 1) := by decide +kernel
theorem dX5_findWorst_37 : decode cX5_findWorst 37 = .ok (.getfield 7, 3) := by decide +kernel
theorem dX5_findWorst_40 : decode cX5_findWorst 40 = .ok (.iconst 1, 1) := by decide +kernel
theorem dX5_findWorst_41 : decode cX5_findWorst 41 = .ok (.isub, 1) := by decide +kernel
theorem dX5_findWorst_42 : decode cX5_findWorst 42 = .ok (.iload 5, 2) := by decide +kernel
theorem dX5_findWorst_44 : decode cX5_findWorst 44 = .ok (.isub, 1) := by decide +kernel
theorem dX5_findWorst_45 : decode cX5_findWorst 45 = .ok (.ishr, 1) := by decide +kernel
theorem dX5_findWorst_46 : decode cX5_findWorst 46 = .ok (.iconst 1, 1) := by decide +kernel
theorem dX5_findWorst_47 : decode cX5_findWorst 47 = .ok (.iand, 1) := by decide +kernel
theorem dX5_findWorst_48 : decode cX5_findWorst 48 = .ok (.iastore, 1) := by decide +kernel
theorem dX5_findWorst_49 : decode cX5_findWorst 49 = .ok (.iinc 5 1, 3) := by decide +kernel
theorem dX5_findWorst_52 : decode cX5_findWorst 52 = .ok (.goto (-33), 3) := by decide +kernel
theorem dX5_findWorst_55 : decode cX5_findWorst 55 = .ok (.aload_n 0, 1) := by decide +kernel
theorem dX5_findWorst_56 : decode cX5_findWorst 56 = .ok (.iload_n 1, 1) := by decide +kernel
theorem dX5_findWorst_57 : decode cX5_findWorst 57 = .ok (.invokevirtual 76, 3) := by decide +kernel
theorem dX5_findWorst_60 : decode cX5_findWorst 60 = .ok (.iload_n 2, 1) := by decide +kernel
theorem dX5_findWorst_61 : decode cX5_findWorst 61 = .ok (.if_icmp .lt 54, 3) := by decide +kernel
theorem dX5_findWorst_64 : decode cX5_findWorst 64 = .ok (.aload_n 0, 1) := by decide +kernel
theorem dX5_findWorst_65 : decode cX5_findWorst 65 = .ok (.iload_n 1, 1) := by decide +kernel
theorem dX5_findWorst_66 : decode cX5_findWorst 66 = .ok (.invokevirtual 122, 3) := by decide +kernel
theorem dX5_findWorst_69 : decode cX5_findWorst 69 = .ok (.iload_n 3, 1) := by decide +kernel
theorem dX5_findWorst_70 : decode cX5_findWorst 70 = .ok (.iconst (-1), 1) := by decide +kernel
theorem dX5_findWorst_71 : decode cX5_findWorst 71 = .ok (.if_icmp .eq 25, 3) := by decide +kernel
theorem dX5_findWorst_74 : decode cX5_findWorst 74 = .ok (.aload_n 0, 1) := by decide +kernel
theorem dX5_findWorst_75 : decode cX5_findWorst 75 = .ok (.getfield 107, 3) := by decide +kernel
theorem dX5_findWorst_78 : decode cX5_findWorst 78 = .ok (.aload_n 0, 1) := by decide +kernel
theorem dX5_findWorst_79 : decode cX5_findWorst 79 = .ok (.getfield 139, 3) := by decide +kernel
theorem dX5_findWorst_82 : decode cX5_findWorst 82 = .ok (.lmul, 1) := by decide +kernel
theorem dX5_findWorst_83 : decode cX5_findWorst 83 = .ok (.aload_n 0, 1) := by decide +kernel
theorem dX5_findWorst_84 : decode cX5_findWorst 84 = .ok (.getfield 142, 3) := by decide +kernel
theorem dX5_findWorst_87 : decode cX5_findWorst 87 = .ok (.aload_n 0, 1) := by decide +kernel
theorem dX5_findWorst_88 : decode cX5_findWorst 88 = .ok (.getfield 111, 3) := by decide +kernel
theorem dX5_findWorst_91 : decode cX5_findWorst 91 = .ok (.lmul, 1) := by decide +kernel
theorem dX5_findWorst_92 : decode cX5_findWorst 92 = .ok (.lcmp, 1) := by decide +kernel
theorem dX5_findWorst_93 : decode cX5_findWorst 93 = .ok (.ifCond .le 22, 3) := by decide +kernel
theorem dX5_findWorst_96 : decode cX5_findWorst 96 = .ok (.iload 4, 2) := by decide +kernel
theorem dX5_findWorst_98 : decode cX5_findWorst 98 = .ok (.istore_n 3, 1) := by decide +kernel
theorem dX5_findWorst_99 : decode cX5_findWorst 99 = .ok (.aload_n 0, 1) := by decide +kernel
theorem dX5_findWorst_100 : decode cX5_findWorst 100 = .ok (.aload_n 0, 1) := by decide +kernel
theorem dX5_findWorst_101 : decode cX5_findWorst 101 = .ok (.getfield 107, 3) := by decide +kernel
theorem dX5_findWorst_104 : decode cX5_findWorst 104 = .ok (.putfield 142, 3) := by decide +kernel
theorem dX5_findWorst_107 : decode cX5_findWorst 107 = .ok (.aload_n 0, 1) := by decide +kernel
theorem dX5_findWorst_108 : decode cX5_findWorst 108 = .ok (.aload_n 0, 1) := by decide +kernel
theorem dX5_findWorst_109 : decode cX5_findWorst 109 = .ok (.getfield 111, 3) := by decide +kernel
theorem dX5_findWorst_112 : decode cX5_findWorst 112 = .ok (.putfield 139, 3) := by decide +kernel
theorem dX5_findWorst_115 : decode cX5_findWorst 115 = .ok (.iinc 4 1, 3) := by decide +kernel
theorem dX5_findWorst_118 : decode cX5_findWorst 118 = .ok (.goto (-113), 3) := by decide +kernel
theorem dX5_findWorst_121 : decode cX5_findWorst 121 = .ok (.iload_n 3, 1) := by decide +kernel
theorem dX5_findWorst_122 : decode cX5_findWorst 122 = .ok (.ireturn, 1) := by decide +kernel
set_option maxRecDepth 20000 in
theorem ggX5_worst_X5_in : GoodIn wsX5_worst wsX5_in := goodIn_r _ [9] (by decide +kernel) (by decide +kernel)
set_option maxRecDepth 20000 in
theorem gX5_worst_X5_in : GoodIn wsX5_worst (va_wsS RX5 32 yX5_in wsX5_in) := goodIn_app (goodIn_of _ (by decide +kernel)) ggX5_worst_X5_in
set_option maxRecDepth 20000 in
theorem ggX5_worst_X5_isPlace : GoodIn wsX5_worst wsX5_isPlace := goodIn_r _ [13, 1, 6, 7, 8, 9, 52, 53, 54, 55, 56, 57, 58, 59, 60, 61, 62] (by decide +kernel) (by decide +kernel)
set_option maxRecDepth 20000 in
theorem gX5_worst_X5_isPlace : GoodIn wsX5_worst (wsV RX5 36 RX5 yX5_isPlace wsX5_isPlace) := goodIn_app (goodIn_of _ (by decide +kernel)) ggX5_worst_X5_isPlace
set_option maxRecDepth 20000 in
theorem ggX5_worst_X5_findWorst : GoodIn wsX5_worst wsX5_findWorst := goodIn_r _ [17, 1, 18, 3, 4, 2, 5, 19, 20, 21, 8, 22, 23, 24, 25, 26, 27, 28, 29, 30, 31, 32, 33, 34, 35, 36, 37, 38, 39, 40, 41, 42, 43, 44, 45, 46, 47, 52, 53, 54, 55, 56, 57, 58, 59, 60, 61, 62] (by decide +kernel) (by decide +kernel)
set_option maxRecDepth 20000 in
theorem gX5_worst_X5_findWorst : GoodIn wsX5_worst (wsV RX5 145 RX5 yX5_findWorst wsX5_findWorst) := goodIn_app (goodIn_of _ (by decide +kernel)) ggX5_worst_X5_findWorst
set_option maxRecDepth 20000 in
theorem ggX5_worst_X5_reduce : GoodIn wsX5_worst wsX5_reduce := goodIn_r _ [51, 3, 5, 52, 53, 54, 55, 56, 57, 58, 59, 60, 61, 62] (by decide +kernel) (by decide +kernel)
set_option maxRecDepth 20000 in
theorem gX5_worst_X5_reduce : GoodIn wsX5_worst (wsV RX5 131 RX5 yX5_reduce wsX5_reduce) := goodIn_app (goodIn_of _ (by decide +kernel)) ggX5_worst_X5_reduce
theorem dX5_worst_0 : decode cX5_worst 0 = .ok (.iload_n 1, 1) := by decide +kernel
theorem dX5_worst_1 : decode cX5_worst 1 = .ok (.iconst 0, 1) := by decide +kernel
theorem dX5_worst_2 : decode cX5_worst 2 = .ok (.iconst 3, 1) := by decide +kernel
theorem dX5_worst_3 : decode cX5_worst 3 = .ok (.invokestatic 32, 3) := by decide +kernel
theorem dX5_worst_6 : decode cX5_worst 6 = .ok (.ifCond .eq 43, 3) := by decide +kernel
theorem dX5_worst_9 : decode cX5_worst 9 = .ok (.iload_n 2, 1) := by decide +kernel
theorem dX5_worst_10 : decode cX5_worst 10 = .ok (.iconst 0, 1) := by decide +kernel
theorem dX5_worst_11 : decode cX5_worst 11 = .ok (.bipush 8, 2) := by decide +kernel
theorem dX5_worst_13 : decode cX5_worst 13 = .ok (.invokestatic 32, 3) := by decide +kernel
theorem dX5_worst_16 : decode cX5_worst 16 = .ok (.ifCond .eq 33, 3) := by decide +kernel
theorem dX5_worst_19 : decode cX5_worst 19 = .ok (.iload 4, 2) := by decide +kernel
theorem dX5_worst_21 : decode cX5_worst 21 = .ok (.iconst 0, 1) := by decide +kernel
theorem dX5_worst_22 : decode cX5_worst 22 = .ok (.iconst 2, 1) := by decide +kernel
theorem dX5_worst_23 : decode cX5_worst 23 = .ok (.invokestatic 32, 3) := by decide +kernel
theorem dX5_worst_26 : decode cX5_worst 26 = .ok (.ifCond .eq 23, 3) := by decide +kernel
theorem dX5_worst_29 : decode cX5_worst 29 = .ok (.iload 4, 2) := by decide +kernel
theorem dX5_worst_31 : decode cX5_worst 31 = .ok (.ifCond .ne 14, 3) := by decide +kernel
theorem dX5_worst_34 : decode cX5_worst 34 = .ok (.aload_n 0, 1) := by decide +kernel
theorem dX5_worst_35 : decode cX5_worst 35 = .ok (.iload_n 3, 1) := by decide +kernel
theorem dX5_worst_36 : decode cX5_worst 36 = .ok (.invokevirtual 36, 3) := by decide +kernel
theorem dX5_worst_39 : decode cX5_worst 39 = .ok (.ifCond .ne 13, 3) := by decide +kernel
theorem dX5_worst_42 : decode cX5_worst 42 = .ok (.goto 7, 3) := by decide +kernel
theorem dX5_worst_45 : decode cX5_worst 45 = .ok (.iload_n 3, 1) := by decide +kernel
theorem dX5_worst_46 : decode cX5_worst 46 = .ok (.ifCond .eq 6, 3) := by decide +kernel
theorem dX5_worst_49 : decode cX5_worst 49 = .ok (.bipush (-2), 2) := by decide +kernel
theorem dX5_worst_51 : decode cX5_worst 51 = .ok (.ireturn, 1) := by decide +kernel
theorem dX5_worst_52 : decode cX5_worst 52 = .ok (.aload_n 0, 1) := by decide +kernel
theorem dX5_worst_53 : decode cX5_worst 53 = .ok (.iload_n 1, 1) := by decide +kernel
theorem dX5_worst_54 : decode cX5_worst 54 = .ok (.iload_n 2, 1) := by decide +kernel
theorem dX5_worst_55 : decode cX5_worst 55 = .ok (.invokevirtual 145, 3) := by decide +kernel
theorem dX5_worst_58 : decode cX5_worst 58 = .ok (.istore 5, 2) := by decide +kernel
theorem dX5_worst_60 : decode cX5_worst 60 = .ok (.iload 5, 2) := by decide +kernel
theorem dX5_worst_62 : decode cX5_worst 62 = .ok (.iconst (-1), 1) := by decide +kernel
theorem dX5_worst_63 : decode cX5_worst 63 = .ok (.if_icmp .ne 5, 3) := by decide +kernel
theorem dX5_worst_66 : decode cX5_worst 66 = .ok (.iconst (-1), 1) := by decide +kernel
theorem dX5_worst_67 : decode cX5_worst 67 = .ok (.ireturn, 1) := by decide +kernel
theorem dX5_worst_68 : decode cX5_worst 68 = .ok (.iload 4, 2) := by decide +kernel
theorem dX5_worst_70 : decode cX5_worst 70 = .ok (.ifCond .ne 17, 3) := by decide +kernel
theorem dX5_worst_73 : decode cX5_worst 73 = .ok (.iload 5, 2) := by decide +kernel
theorem dX5_worst_75 : decode cX5_worst 75 = .ok (.aload_n 0, 1) := by decide +kernel
theorem dX5_worst_76 : decode cX5_worst 76 = .ok (.getfield 7, 3) := by decide +kernel
theorem dX5_worst_79 : decode cX5_worst 79 = .ok (.iconst 1, 1) := by decide +kernel
theorem dX5_worst_80 : decode cX5_worst 80 = .ok (.isub, 1) := by decide +kernel
theorem dX5_worst_81 : decode cX5_worst 81 = .ok (.iload_n 3, 1) := by decide +kernel
theorem dX5_worst_82 : decode cX5_worst 82 = .ok (.isub, 1) := by decide +kernel
theorem dX5_worst_83 : decode cX5_worst 83 = .ok (.ishr, 1) := by decide +kernel
theorem dX5_worst_84 : decode cX5_worst 84 = .ok (.iconst 1, 1) := by decide +kernel
theorem dX5_worst_85 : decode cX5_worst 85 = .ok (.iand, 1) := by decide +kernel
theorem dX5_worst_86 : decode cX5_worst 86 = .ok (.ireturn, 1) := by decide +kernel
theorem dX5_worst_87 : decode cX5_worst 87 = .ok (.aload_n 0, 1) := by decide +kernel
theorem dX5_worst_88 : decode cX5_worst 88 = .ok (.aload_n 0, 1) := by decide +kernel
theorem dX5_worst_89 : decode cX5_worst 89 = .ok (.getfield 142, 3) := by decide +kernel
theorem dX5_worst_92 : decode cX5_worst 92 = .ok (.putfield 107, 3) := by decide +kernel
theorem dX5_worst_95 : decode cX5_worst 95 = .ok (.aload_n 0, 1) := by decide +kernel
theorem dX5_worst_96 : decode cX5_worst 96 = .ok (.aload_n 0, 1) := by decide +kernel
theorem dX5_worst_97 : decode cX5_worst 97 = .ok (.getfield 139, 3) := by decide +kernel
theorem dX5_worst_100 : decode cX5_worst 100 = .ok (.putfield 111, 3) := by decide +kernel
theorem dX5_worst_103 : decode cX5_worst 103 = .ok (.aload_n 0, 1) := by decide +kernel
theorem dX5_worst_104 : decode cX5_worst 104 = .ok (.invokevirtual 131, 3) := by decide +kernel
theorem dX5_worst_107 : decode cX5_worst 107 = .ok (.iload 4, 2) := by decide +kernel
theorem dX5_worst_109 : decode cX5_worst 109 = .ok (.iconst 1, 1) := by decide +kernel
theorem dX5_worst_110 : decode cX5_worst 110 = .ok (.if_icmp .ne 10, 3) := by decide +kernel
theorem dX5_worst_113 : decode cX5_worst 113 = .ok (.aload_n 0, 1) := by decide +kernel
theorem dX5_worst_114 : decode cX5_worst 114 = .ok (.getfield 107, 3) := by decide +kernel
theorem dX5_worst_117 : decode cX5_worst 117 = .ok (.goto 7, 3) := by decide +kernel
theorem dX5_worst_120 : decode cX5_worst 120 = .ok (.aload_n 0, 1) := by decide +kernel
theorem dX5_worst_121 : decode cX5_worst 121 = .ok (.getfield 111, 3) := by decide +kernel
theorem dX5_worst_124 : decode cX5_worst 124 = .ok (.l2i, 1) := by decide +kernel
theorem dX5_worst_125 : decode cX5_worst 125 = .ok (.ireturn, 1) := by decide +kernel
set_option maxRecDepth 20000 in
theorem ggX5_mended_X5_isEight : GoodIn wsX5_mended wsX5_isEight := goodIn_r _ [5, 6, 7, 4, 8] (by decide +kernel) (by decide +kernel)
set_option maxRecDepth 20000 in
theorem gX5_mended_X5_isEight : GoodIn wsX5_mended (va_wsS RX5 40 yX5_isEight wsX5_isEight) := goodIn_app (goodIn_of _ (by decide +kernel)) ggX5_mended_X5_isEight
set_option maxRecDepth 20000 in
theorem ggX5_mended_X5_isBit : GoodIn wsX5_mended wsX5_isBit := goodIn_r _ [11, 6, 7, 4, 8] (by decide +kernel) (by decide +kernel)
set_option maxRecDepth 20000 in
theorem gX5_mended_X5_isBit : GoodIn wsX5_mended (va_wsS RX5 43 yX5_isBit wsX5_isBit) := goodIn_app (goodIn_of _ (by decide +kernel)) ggX5_mended_X5_isBit
theorem dX5_mended_0 : decode cX5_mended 0 = .ok (.iload_n 1, 1) := by decide +kernel
theorem dX5_mended_1 : decode cX5_mended 1 = .ok (.invokestatic 40, 3) := by decide +kernel
theorem dX5_mended_4 : decode cX5_mended 4 = .ok (.ifCond .eq 10, 3) := by decide +kernel
theorem dX5_mended_7 : decode cX5_mended 7 = .ok (.iload_n 2, 1) := by decide +kernel
theorem dX5_mended_8 : decode cX5_mended 8 = .ok (.invokestatic 43, 3) := by decide +kernel
theorem dX5_mended_11 : decode cX5_mended 11 = .ok (.ifCond .ne 6, 3) := by decide +kernel
theorem dX5_mended_14 : decode cX5_mended 14 = .ok (.bipush (-2), 2) := by decide +kernel
theorem dX5_mended_16 : decode cX5_mended 16 = .ok (.ireturn, 1) := by decide +kernel
theorem dX5_mended_17 : decode cX5_mended 17 = .ok (.iconst 0, 1) := by decide +kernel
theorem dX5_mended_18 : decode cX5_mended 18 = .ok (.istore_n 3, 1) := by decide +kernel
theorem dX5_mended_19 : decode cX5_mended 19 = .ok (.iconst 0, 1) := by decide +kernel
theorem dX5_mended_20 : decode cX5_mended 20 = .ok (.istore 4, 2) := by decide +kernel
theorem dX5_mended_22 : decode cX5_mended 22 = .ok (.iload 4, 2) := by decide +kernel
theorem dX5_mended_24 : decode cX5_mended 24 = .ok (.bipush 8, 2) := by decide +kernel
theorem dX5_mended_26 : decode cX5_mended 26 = .ok (.if_icmp .ge 40, 3) := by decide +kernel
theorem dX5_mended_29 : decode cX5_mended 29 = .ok (.iload_n 3, 1) := by decide +kernel
theorem dX5_mended_30 : decode cX5_mended 30 = .ok (.aload_n 0, 1) := by decide +kernel
theorem dX5_mended_31 : decode cX5_mended 31 = .ok (.getfield 17, 3) := by decide +kernel
theorem dX5_mended_34 : decode cX5_mended 34 = .ok (.iload 4, 2) := by decide +kernel
theorem dX5_mended_36 : decode cX5_mended 36 = .ok (.iaload, 1) := by decide +kernel
theorem dX5_mended_37 : decode cX5_mended 37 = .ok (.aload_n 0, 1) := by decide +kernel
theorem dX5_mended_38 : decode cX5_mended 38 = .ok (.getfield 17, 3) := by decide +kernel
theorem dX5_mended_41 : decode cX5_mended 41 = .ok (.iload_n 1, 1) := by decide +kernel
theorem dX5_mended_42 : decode cX5_mended 42 = .ok (.iload 4, 2) := by decide +kernel
theorem dX5_mended_44 : decode cX5_mended 44 = .ok (.ixor, 1) := by decide +kernel
theorem dX5_mended_45 : decode cX5_mended 45 = .ok (.iaload, 1) := by decide +kernel
theorem dX5_mended_46 : decode cX5_mended 46 = .ok (.iadd, 1) := by decide +kernel
theorem dX5_mended_47 : decode cX5_mended 47 = .ok (.iconst 2, 1) := by decide +kernel
theorem dX5_mended_48 : decode cX5_mended 48 = .ok (.irem, 1) := by decide +kernel
theorem dX5_mended_49 : decode cX5_mended 49 = .ok (.iload_n 2, 1) := by decide +kernel
theorem dX5_mended_50 : decode cX5_mended 50 = .ok (.if_icmp .ne 7, 3) := by decide +kernel
theorem dX5_mended_53 : decode cX5_mended 53 = .ok (.iconst 1, 1) := by decide +kernel
theorem dX5_mended_54 : decode cX5_mended 54 = .ok (.goto 4, 3) := by decide +kernel
theorem dX5_mended_57 : decode cX5_mended 57 = .ok (.iconst 0, 1) := by decide +kernel
theorem dX5_mended_58 : decode cX5_mended 58 = .ok (.iadd, 1) := by decide +kernel
theorem dX5_mended_59 : decode cX5_mended 59 = .ok (.istore_n 3, 1) := by decide +kernel
theorem dX5_mended_60 : decode cX5_mended 60 = .ok (.iinc 4 1, 3) := by decide +kernel
theorem dX5_mended_63 : decode cX5_mended 63 = .ok (.goto (-41), 3) := by decide +kernel
theorem dX5_mended_66 : decode cX5_mended 66 = .ok (.iload_n 3, 1) := by decide +kernel
theorem dX5_mended_67 : decode cX5_mended 67 = .ok (.ireturn, 1) := by decide +kernel
set_option maxRecDepth 20000 in
theorem ggX5_maySubject_X5_isPlace : GoodIn wsX5_maySubject wsX5_isPlace := goodIn_r _ [6, 7, 8, 9, 5, 10, 17, 18, 19, 20, 21, 22, 23, 24, 25, 26, 27] (by decide +kernel) (by decide +kernel)
set_option maxRecDepth 20000 in
theorem gX5_maySubject_X5_isPlace : GoodIn wsX5_maySubject (wsV RX5 36 RX5 yX5_isPlace wsX5_isPlace) := goodIn_app (goodIn_of _ (by decide +kernel)) ggX5_maySubject_X5_isPlace
set_option maxRecDepth 20000 in
theorem ggX5_maySubject_X5_isEight : GoodIn wsX5_maySubject wsX5_isEight := goodIn_r _ [13, 8, 9, 5, 10] (by decide +kernel) (by decide +kernel)
set_option maxRecDepth 20000 in
theorem gX5_maySubject_X5_isEight : GoodIn wsX5_maySubject (va_wsS RX5 40 yX5_isEight wsX5_isEight) := goodIn_app (goodIn_of _ (by decide +kernel)) ggX5_maySubject_X5_isEight
set_option maxRecDepth 20000 in
theorem ggX5_maySubject_X5_in : GoodIn wsX5_maySubject wsX5_in := goodIn_r _ [10] (by decide +kernel) (by decide +kernel)
set_option maxRecDepth 20000 in
theorem gX5_maySubject_X5_in : GoodIn wsX5_maySubject (va_wsS RX5 32 yX5_in wsX5_in) := goodIn_app (goodIn_of _ (by decide +kernel)) ggX5_maySubject_X5_in
set_option maxRecDepth 20000 in
theorem ggX5_maySubject_X5_ones : GoodIn wsX5_maySubject wsX5_ones := goodIn_r _ [16] (by decide +kernel) (by decide +kernel)
set_option maxRecDepth 20000 in
theorem gX5_maySubject_X5_ones : GoodIn wsX5_maySubject (va_wsS RX5 46 yX5_ones wsX5_ones) := goodIn_app (goodIn_of _ (by decide +kernel)) ggX5_maySubject_X5_ones
theorem dX5_maySubject_0 : decode cX5_maySubject 0 = .ok (.iload_n 1, 1) := by decide +kernel
theorem dX5_maySubject_1 : decode cX5_maySubject 1 = .ok (.ifCond .ne 30, 3) := by decide +kernel
theorem dX5_maySubject_4 : decode cX5_maySubject 4 = .ok (.aload_n 0, 1) := by decide +kernel
theorem dX5_maySubject_5 : decode cX5_maySubject 5 = .ok (.iload_n 2, 1) := by decide +kernel
theorem dX5_maySubject_6 : decode cX5_maySubject 6 = .ok (.invokevirtual 36, 3) := by decide +kernel
theorem dX5_maySubject_9 : decode cX5_maySubject 9 = .ok (.ifCond .eq 20, 3) := by decide +kernel
theorem dX5_maySubject_12 : decode cX5_maySubject 12 = .ok (.aload_n 0, 1) := by decide +kernel
theorem dX5_maySubject_13 : decode cX5_maySubject 13 = .ok (.iload_n 3, 1) := by decide +kernel
theorem dX5_maySubject_14 : decode cX5_maySubject 14 = .ok (.invokevirtual 36, 3) := by decide +kernel
theorem dX5_maySubject_17 : decode cX5_maySubject 17 = .ok (.ifCond .eq 12, 3) := by decide +kernel
theorem dX5_maySubject_20 : decode cX5_maySubject 20 = .ok (.iload_n 2, 1) := by decide +kernel
theorem dX5_maySubject_21 : decode cX5_maySubject 21 = .ok (.iload_n 3, 1) := by decide +kernel
theorem dX5_maySubject_22 : decode cX5_maySubject 22 = .ok (.if_icmp .ge 7, 3) := by decide +kernel
theorem dX5_maySubject_25 : decode cX5_maySubject 25 = .ok (.iconst 1, 1) := by decide +kernel
theorem dX5_maySubject_26 : decode cX5_maySubject 26 = .ok (.goto 4, 3) := by decide +kernel
theorem dX5_maySubject_29 : decode cX5_maySubject 29 = .ok (.iconst 0, 1) := by decide +kernel
theorem dX5_maySubject_30 : decode cX5_maySubject 30 = .ok (.ireturn, 1) := by decide +kernel
theorem dX5_maySubject_31 : decode cX5_maySubject 31 = .ok (.iload_n 1, 1) := by decide +kernel
theorem dX5_maySubject_32 : decode cX5_maySubject 32 = .ok (.iconst 4, 1) := by decide +kernel
theorem dX5_maySubject_33 : decode cX5_maySubject 33 = .ok (.if_icmp .ne 23, 3) := by decide +kernel
theorem dX5_maySubject_36 : decode cX5_maySubject 36 = .ok (.iload_n 2, 1) := by decide +kernel
theorem dX5_maySubject_37 : decode cX5_maySubject 37 = .ok (.invokestatic 40, 3) := by decide +kernel
theorem dX5_maySubject_40 : decode cX5_maySubject 40 = .ok (.ifCond .eq 14, 3) := by decide +kernel
theorem dX5_maySubject_43 : decode cX5_maySubject 43 = .ok (.iload_n 3, 1) := by decide +kernel
theorem dX5_maySubject_44 : decode cX5_maySubject 44 = .ok (.invokestatic 40, 3) := by decide +kernel
theorem dX5_maySubject_47 : decode cX5_maySubject 47 = .ok (.ifCond .eq 7, 3) := by decide +kernel
theorem dX5_maySubject_50 : decode cX5_maySubject 50 = .ok (.iconst 1, 1) := by decide +kernel
theorem dX5_maySubject_51 : decode cX5_maySubject 51 = .ok (.goto 4, 3) := by decide +kernel
theorem dX5_maySubject_54 : decode cX5_maySubject 54 = .ok (.iconst 0, 1) := by decide +kernel
theorem dX5_maySubject_55 : decode cX5_maySubject 55 = .ok (.ireturn, 1) := by decide +kernel
theorem dX5_maySubject_56 : decode cX5_maySubject 56 = .ok (.iload_n 1, 1) := by decide +kernel
theorem dX5_maySubject_57 : decode cX5_maySubject 57 = .ok (.iconst 5, 1) := by decide +kernel
theorem dX5_maySubject_58 : decode cX5_maySubject 58 = .ok (.if_icmp .ne 32, 3) := by decide +kernel
theorem dX5_maySubject_61 : decode cX5_maySubject 61 = .ok (.iload_n 2, 1) := by decide +kernel
theorem dX5_maySubject_62 : decode cX5_maySubject 62 = .ok (.iconst 0, 1) := by decide +kernel
theorem dX5_maySubject_63 : decode cX5_maySubject 63 = .ok (.bipush 63, 2) := by decide +kernel
theorem dX5_maySubject_65 : decode cX5_maySubject 65 = .ok (.invokestatic 32, 3) := by decide +kernel
theorem dX5_maySubject_68 : decode cX5_maySubject 68 = .ok (.ifCond .eq 22, 3) := by decide +kernel
theorem dX5_maySubject_71 : decode cX5_maySubject 71 = .ok (.iload_n 2, 1) := by decide +kernel
theorem dX5_maySubject_72 : decode cX5_maySubject 72 = .ok (.invokestatic 46, 3) := by decide +kernel
theorem dX5_maySubject_75 : decode cX5_maySubject 75 = .ok (.aload_n 0, 1) := by decide +kernel
theorem dX5_maySubject_76 : decode cX5_maySubject 76 = .ok (.getfield 23, 3) := by decide +kernel
theorem dX5_maySubject_79 : decode cX5_maySubject 79 = .ok (.if_icmp .ne 11, 3) := by decide +kernel
theorem dX5_maySubject_82 : decode cX5_maySubject 82 = .ok (.iload_n 3, 1) := by decide +kernel
theorem dX5_maySubject_83 : decode cX5_maySubject 83 = .ok (.ifCond .ne 7, 3) := by decide +kernel
theorem dX5_maySubject_86 : decode cX5_maySubject 86 = .ok (.iconst 1, 1) := by decide +kernel
theorem dX5_maySubject_87 : decode cX5_maySubject 87 = .ok (.goto 4, 3) := by decide +kernel
theorem dX5_maySubject_90 : decode cX5_maySubject 90 = .ok (.iconst 0, 1) := by decide +kernel
theorem dX5_maySubject_91 : decode cX5_maySubject 91 = .ok (.ireturn, 1) := by decide +kernel
set_option maxRecDepth 20000 in
theorem ggX5_showsOf_X5_passesTable : GoodIn wsX5_showsOf wsX5_passesTable := goodIn_r _ [6] (by decide +kernel) (by decide +kernel)
set_option maxRecDepth 20000 in
theorem gX5_showsOf_X5_passesTable : GoodIn wsX5_showsOf (va_wsS RX5 116 yX5_passesTable wsX5_passesTable) := goodIn_app (goodIn_of _ (by decide +kernel)) ggX5_showsOf_X5_passesTable
set_option maxRecDepth 20000 in
theorem ggX5_showsOf_X5_passesNet : GoodIn wsX5_showsOf wsX5_passesNet := goodIn_r _ [10, 11, 12, 13, 5, 14, 15, 16, 17, 18, 19, 20, 21, 22, 23, 24, 25, 26, 27, 28, 29, 30] (by decide +kernel) (by decide +kernel)
set_option maxRecDepth 20000 in
theorem gX5_showsOf_X5_passesNet : GoodIn wsX5_showsOf (wsV RX5 119 RX5 yX5_passesNet wsX5_passesNet) := goodIn_app (goodIn_of _ (by decide +kernel)) ggX5_showsOf_X5_passesNet
theorem dX5_showsOf_0 : decode cX5_showsOf 0 = .ok (.iload_n 1, 1) := by decide +kernel
theorem dX5_showsOf_1 : decode cX5_showsOf 1 = .ok (.ifCond .ne 26, 3) := by decide +kernel
theorem dX5_showsOf_4 : decode cX5_showsOf 4 = .ok (.aload_n 0, 1) := by decide +kernel
theorem dX5_showsOf_5 : decode cX5_showsOf 5 = .ok (.getfield 13, 3) := by decide +kernel
theorem dX5_showsOf_8 : decode cX5_showsOf 8 = .ok (.iload_n 2, 1) := by decide +kernel
theorem dX5_showsOf_9 : decode cX5_showsOf 9 = .ok (.iaload, 1) := by decide +kernel
theorem dX5_showsOf_10 : decode cX5_showsOf 10 = .ok (.aload_n 0, 1) := by decide +kernel
theorem dX5_showsOf_11 : decode cX5_showsOf 11 = .ok (.getfield 13, 3) := by decide +kernel
theorem dX5_showsOf_14 : decode cX5_showsOf 14 = .ok (.iload_n 3, 1) := by decide +kernel
theorem dX5_showsOf_15 : decode cX5_showsOf 15 = .ok (.iaload, 1) := by decide +kernel
theorem dX5_showsOf_16 : decode cX5_showsOf 16 = .ok (.if_icmp .le 7, 3) := by decide +kernel
theorem dX5_showsOf_19 : decode cX5_showsOf 19 = .ok (.iconst 1, 1) := by decide +kernel
theorem dX5_showsOf_20 : decode cX5_showsOf 20 = .ok (.goto 59, 3) := by decide +kernel
theorem dX5_showsOf_23 : decode cX5_showsOf 23 = .ok (.iconst 0, 1) := by decide +kernel
theorem dX5_showsOf_24 : decode cX5_showsOf 24 = .ok (.goto 55, 3) := by decide +kernel
theorem dX5_showsOf_27 : decode cX5_showsOf 27 = .ok (.iload_n 1, 1) := by decide +kernel
theorem dX5_showsOf_28 : decode cX5_showsOf 28 = .ok (.iconst 4, 1) := by decide +kernel
theorem dX5_showsOf_29 : decode cX5_showsOf 29 = .ok (.if_icmp .ne 37, 3) := by decide +kernel
theorem dX5_showsOf_32 : decode cX5_showsOf 32 = .ok (.aload_n 0, 1) := by decide +kernel
theorem dX5_showsOf_33 : decode cX5_showsOf 33 = .ok (.getfield 17, 3) := by decide +kernel
theorem dX5_showsOf_36 : decode cX5_showsOf 36 = .ok (.iload_n 2, 1) := by decide +kernel
theorem dX5_showsOf_37 : decode cX5_showsOf 37 = .ok (.iaload, 1) := by decide +kernel
theorem dX5_showsOf_38 : decode cX5_showsOf 38 = .ok (.aload_n 0, 1) := by decide +kernel
theorem dX5_showsOf_39 : decode cX5_showsOf 39 = .ok (.getfield 17, 3) := by decide +kernel
theorem dX5_showsOf_42 : decode cX5_showsOf 42 = .ok (.iload_n 3, 1) := by decide +kernel
theorem dX5_showsOf_43 : decode cX5_showsOf 43 = .ok (.iaload, 1) := by decide +kernel
theorem dX5_showsOf_44 : decode cX5_showsOf 44 = .ok (.aload_n 0, 1) := by decide +kernel
theorem dX5_showsOf_45 : decode cX5_showsOf 45 = .ok (.getfield 17, 3) := by decide +kernel
theorem dX5_showsOf_48 : decode cX5_showsOf 48 = .ok (.iload_n 2, 1) := by decide +kernel
theorem dX5_showsOf_49 : decode cX5_showsOf 49 = .ok (.iload_n 3, 1) := by decide +kernel
theorem dX5_showsOf_50 : decode cX5_showsOf 50 = .ok (.ixor, 1) := by decide +kernel
theorem dX5_showsOf_51 : decode cX5_showsOf 51 = .ok (.iaload, 1) := by decide +kernel
theorem dX5_showsOf_52 : decode cX5_showsOf 52 = .ok (.invokestatic 116, 3) := by decide +kernel
theorem dX5_showsOf_55 : decode cX5_showsOf 55 = .ok (.ifCond .ne 7, 3) := by decide +kernel
theorem dX5_showsOf_58 : decode cX5_showsOf 58 = .ok (.iconst 1, 1) := by decide +kernel
theorem dX5_showsOf_59 : decode cX5_showsOf 59 = .ok (.goto 20, 3) := by decide +kernel
theorem dX5_showsOf_62 : decode cX5_showsOf 62 = .ok (.iconst 0, 1) := by decide +kernel
theorem dX5_showsOf_63 : decode cX5_showsOf 63 = .ok (.goto 16, 3) := by decide +kernel
theorem dX5_showsOf_66 : decode cX5_showsOf 66 = .ok (.aload_n 0, 1) := by decide +kernel
theorem dX5_showsOf_67 : decode cX5_showsOf 67 = .ok (.iload_n 2, 1) := by decide +kernel
theorem dX5_showsOf_68 : decode cX5_showsOf 68 = .ok (.invokevirtual 119, 3) := by decide +kernel
theorem dX5_showsOf_71 : decode cX5_showsOf 71 = .ok (.ifCond .ne 7, 3) := by decide +kernel
theorem dX5_showsOf_74 : decode cX5_showsOf 74 = .ok (.iconst 1, 1) := by decide +kernel
theorem dX5_showsOf_75 : decode cX5_showsOf 75 = .ok (.goto 4, 3) := by decide +kernel
theorem dX5_showsOf_78 : decode cX5_showsOf 78 = .ok (.iconst 0, 1) := by decide +kernel
theorem dX5_showsOf_79 : decode cX5_showsOf 79 = .ok (.ireturn, 1) := by decide +kernel
set_option maxRecDepth 20000 in
theorem ggX5_shows_X5_maySubject : GoodIn wsX5_shows wsX5_maySubject := goodIn_r _ [5, 6, 7, 8, 9, 4, 10, 11, 12, 13, 14, 15, 16, 17, 18, 19, 20, 43, 44, 45, 46, 47, 48, 49, 50, 51, 52, 53] (by decide +kernel) (by decide +kernel)
set_option maxRecDepth 20000 in
theorem gX5_shows_X5_maySubject : GoodIn wsX5_shows (wsV RX5 148 RX5 yX5_maySubject wsX5_maySubject) := goodIn_app (goodIn_of _ (by decide +kernel)) ggX5_shows_X5_maySubject
set_option maxRecDepth 20000 in
theorem ggX5_shows_X5_showsOf : GoodIn wsX5_shows wsX5_showsOf := goodIn_r _ [24, 25, 26, 27, 28, 4, 29, 30, 31, 32, 33, 34, 35, 36, 37, 38, 39, 40, 41, 42, 43, 44, 45, 46, 47, 48, 49, 50, 51, 52, 53] (by decide +kernel) (by decide +kernel)
set_option maxRecDepth 20000 in
theorem gX5_shows_X5_showsOf : GoodIn wsX5_shows (wsV RX5 151 RX5 yX5_showsOf wsX5_showsOf) := goodIn_app (goodIn_of _ (by decide +kernel)) ggX5_shows_X5_showsOf
theorem dX5_shows_0 : decode cX5_shows 0 = .ok (.aload_n 0, 1) := by decide +kernel
theorem dX5_shows_1 : decode cX5_shows 1 = .ok (.iload_n 1, 1) := by decide +kernel
theorem dX5_shows_2 : decode cX5_shows 2 = .ok (.iload_n 2, 1) := by decide +kernel
theorem dX5_shows_3 : decode cX5_shows 3 = .ok (.iload_n 3, 1) := by decide +kernel
theorem dX5_shows_4 : decode cX5_shows 4 = .ok (.invokevirtual 148, 3) := by decide +kernel
theorem dX5_shows_7 : decode cX5_shows 7 = .ok (.ifCond .ne 8, 3) := by decide +kernel
theorem dX5_shows_10 : decode cX5_shows 10 = .ok (.bipush (-2), 2) := by decide +kernel
theorem dX5_shows_12 : decode cX5_shows 12 = .ok (.goto 18, 3) := by decide +kernel
theorem dX5_shows_15 : decode cX5_shows 15 = .ok (.aload_n 0, 1) := by decide +kernel
theorem dX5_shows_16 : decode cX5_shows 16 = .ok (.iload_n 1, 1) := by decide +kernel
theorem dX5_shows_17 : decode cX5_shows 17 = .ok (.iload_n 2, 1) := by decide +kernel
theorem dX5_shows_18 : decode cX5_shows 18 = .ok (.iload_n 3, 1) := by decide +kernel
theorem dX5_shows_19 : decode cX5_shows 19 = .ok (.invokevirtual 151, 3) := by decide +kernel
theorem dX5_shows_22 : decode cX5_shows 22 = .ok (.ifCond .eq 7, 3) := by decide +kernel
theorem dX5_shows_25 : decode cX5_shows 25 = .ok (.iconst 1, 1) := by decide +kernel
theorem dX5_shows_26 : decode cX5_shows 26 = .ok (.goto 4, 3) := by decide +kernel
theorem dX5_shows_29 : decode cX5_shows 29 = .ok (.iconst 0, 1) := by decide +kernel
theorem dX5_shows_30 : decode cX5_shows 30 = .ok (.ireturn, 1) := by decide +kernel
set_option maxRecDepth 20000 in
theorem ggX5_witness_X5_maySubject : GoodIn wsX5_witness wsX5_maySubject := goodIn_r _ [5, 6, 7, 8, 9, 4, 10, 11, 12, 13, 14, 15, 16, 17, 18, 19, 20, 43, 44, 45, 46, 47, 48, 49, 50, 51, 52, 53] (by decide +kernel) (by decide +kernel)
set_option maxRecDepth 20000 in
theorem gX5_witness_X5_maySubject : GoodIn wsX5_witness (wsV RX5 148 RX5 yX5_maySubject wsX5_maySubject) := goodIn_app (goodIn_of _ (by decide +kernel)) ggX5_witness_X5_maySubject
set_option maxRecDepth 20000 in
theorem ggX5_witness_X5_showsOf : GoodIn wsX5_witness wsX5_showsOf := goodIn_r _ [24, 25, 26, 27, 28, 4, 29, 30, 31, 32, 33, 34, 35, 36, 37, 38, 39, 40, 41, 42, 43, 44, 45, 46, 47, 48, 49, 50, 51, 52, 53] (by decide +kernel) (by decide +kernel)
set_option maxRecDepth 20000 in
theorem gX5_witness_X5_showsOf : GoodIn wsX5_witness (wsV RX5 151 RX5 yX5_showsOf wsX5_showsOf) := goodIn_app (goodIn_of _ (by decide +kernel)) ggX5_witness_X5_showsOf
theorem dX5_witness_0 : decode cX5_witness 0 = .ok (.iload_n 1, 1) := by decide +kernel
theorem dX5_witness_1 : decode cX5_witness 1 = .ok (.ifCond .eq 16, 3) := by decide +kernel
theorem dX5_witness_4 : decode cX5_witness 4 = .ok (.iload_n 1, 1) := by decide +kernel
theorem dX5_witness_5 : decode cX5_witness 5 = .ok (.iconst 4, 1) := by decide +kernel
theorem dX5_witness_6 : decode cX5_witness 6 = .ok (.if_icmp .eq 11, 3) := by decide +kernel
theorem dX5_witness_9 : decode cX5_witness 9 = .ok (.iload_n 1, 1) := by decide +kernel
theorem dX5_witness_10 : decode cX5_witness 10 = .ok (.iconst 5, 1) := by decide +kernel
theorem dX5_witness_11 : decode cX5_witness 11 = .ok (.if_icmp .eq 6, 3) := by decide +kernel
theorem dX5_witness_14 : decode cX5_witness 14 = .ok (.bipush (-2), 2) := by decide +kernel
theorem dX5_witness_16 : decode cX5_witness 16 = .ok (.ireturn, 1) := by decide +kernel
theorem dX5_witness_17 : decode cX5_witness 17 = .ok (.iconst 0, 1) := by decide +kernel
theorem dX5_witness_18 : decode cX5_witness 18 = .ok (.istore_n 2, 1) := by decide +kernel
theorem dX5_witness_19 : decode cX5_witness 19 = .ok (.iload_n 2, 1) := by decide +kernel
theorem dX5_witness_20 : decode cX5_witness 20 = .ok (.bipush 64, 2) := by decide +kernel
theorem dX5_witness_22 : decode cX5_witness 22 = .ok (.if_icmp .ge 59, 3) := by decide +kernel
theorem dX5_witness_25 : decode cX5_witness 25 = .ok (.iconst 0, 1) := by decide +kernel
theorem dX5_witness_26 : decode cX5_witness 26 = .ok (.istore_n 3, 1) := by decide +kernel
theorem dX5_witness_27 : decode cX5_witness 27 = .ok (.iload_n 3, 1) := by decide +kernel
theorem dX5_witness_28 : decode cX5_witness 28 = .ok (.bipush 8, 2) := by decide +kernel
theorem dX5_witness_30 : decode cX5_witness 30 = .ok (.if_icmp .ge 45, 3) := by decide +kernel
theorem dX5_witness_33 : decode cX5_witness 33 = .ok (.aload_n 0, 1) := by decide +kernel
theorem dX5_witness_34 : decode cX5_witness 34 = .ok (.iload_n 1, 1) := by decide +kernel
theorem dX5_witness_35 : decode cX5_witness 35 = .ok (.iload_n 2, 1) := by decide +kernel
theorem dX5_witness_36 : decode cX5_witness 36 = .ok (.iload_n 3, 1) := by decide +kernel
theorem dX5_witness_37 : decode cX5_witness 37 = .ok (.invokevirtual 148, 3) := by decide +kernel
theorem dX5_witness_40 : decode cX5_witness 40 = .ok (.ifCond .eq 29, 3) := by decide +kernel
theorem dX5_witness_43 : decode cX5_witness 43 = .ok (.aload_n 0, 1) := by decide +kernel
theorem dX5_witness_44 : decode cX5_witness 44 = .ok (.iload_n 1, 1) := by decide +kernel
theorem dX5_witness_45 : decode cX5_witness 45 = .ok (.iload_n 2, 1) := by decide +kernel
theorem dX5_witness_46 : decode cX5_witness 46 = .ok (.iload_n 3, 1) := by decide +kernel
theorem dX5_witness_47 : decode cX5_witness 47 = .ok (.invokevirtual 151, 3) := by decide +kernel
theorem dX5_witness_50 : decode cX5_witness 50 = .ok (.ifCond .eq 19, 3) := by decide +kernel
theorem dX5_witness_53 : decode cX5_witness 53 = .ok (.iload_n 1, 1) := by decide +kernel
theorem dX5_witness_54 : decode cX5_witness 54 = .ok (.iconst 5, 1) := by decide +kernel
theorem dX5_witness_55 : decode cX5_witness 55 = .ok (.if_icmp .ne 7, 3) := by decide +kernel
theorem dX5_witness_58 : decode cX5_witness 58 = .ok (.iload_n 2, 1) := by decide +kernel
theorem dX5_witness_59 : decode cX5_witness 59 = .ok (.goto 9, 3) := by decide +kernel
theorem dX5_witness_62 : decode cX5_witness 62 = .ok (.bipush 100, 2) := by decide +kernel
theorem dX5_witness_64 : decode cX5_witness 64 = .ok (.iload_n 2, 1) := by decide +kernel
theorem dX5_witness_65 : decode cX5_witness 65 = .ok (.imul, 1) := by decide +kernel
theorem dX5_witness_66 : decode cX5_witness 66 = .ok (.iload_n 3, 1) := by decide +kernel
theorem dX5_witness_67 : decode cX5_witness 67 = .ok (.iadd, 1) := by decide +kernel
theorem dX5_witness_68 : decode cX5_witness 68 = .ok (.ireturn, 1) := by decide +kernel
theorem dX5_witness_69 : decode cX5_witness 69 = .ok (.iinc 3 1, 3) := by decide +kernel
theorem dX5_witness_72 : decode cX5_witness 72 = .ok (.goto (-45), 3) := by decide +kernel
theorem dX5_witness_75 : decode cX5_witness 75 = .ok (.iinc 2 1, 3) := by decide +kernel
theorem dX5_witness_78 : decode cX5_witness 78 = .ok (.goto (-59), 3) := by decide +kernel
theorem dX5_witness_81 : decode cX5_witness 81 = .ok (.iconst (-1), 1) := by decide +kernel
theorem dX5_witness_82 : decode cX5_witness 82 = .ok (.ireturn, 1) := by decide +kernel
set_option maxRecDepth 20000 in
theorem ggX5_count_X5_ones : GoodIn wsX5_count wsX5_ones := goodIn_r _ [9] (by decide +kernel) (by decide +kernel)
set_option maxRecDepth 20000 in
theorem gX5_count_X5_ones : GoodIn wsX5_count (va_wsS RX5 46 yX5_ones wsX5_ones) := goodIn_app (goodIn_of _ (by decide +kernel)) ggX5_count_X5_ones
theorem dX5_count_0 : decode cX5_count 0 = .ok (.iconst 0, 1) := by decide +kernel
theorem dX5_count_1 : decode cX5_count 1 = .ok (.istore_n 2, 1) := by decide +kernel
theorem dX5_count_2 : decode cX5_count 2 = .ok (.iload_n 1, 1) := by decide +kernel
theorem dX5_count_3 : decode cX5_count 3 = .ok (.tableswitch 125 0 4 #[33, 38, 43, 73, 98], 33) := by decide +kernel
theorem dX5_count_36 : decode cX5_count 36 = .ok (.aload_n 0, 1) := by decide +kernel
theorem dX5_count_37 : decode cX5_count 37 = .ok (.getfield 7, 3) := by decide +kernel
theorem dX5_count_40 : decode cX5_count 40 = .ok (.ireturn, 1) := by decide +kernel
theorem dX5_count_41 : decode cX5_count 41 = .ok (.aload_n 0, 1) := by decide +kernel
theorem dX5_count_42 : decode cX5_count 42 = .ok (.getfield 23, 3) := by decide +kernel
theorem dX5_count_45 : decode cX5_count 45 = .ok (.ireturn, 1) := by decide +kernel
theorem dX5_count_46 : decode cX5_count 46 = .ok (.iconst 0, 1) := by decide +kernel
theorem dX5_count_47 : decode cX5_count 47 = .ok (.istore_n 3, 1) := by decide +kernel
theorem dX5_count_48 : decode cX5_count 48 = .ok (.iload_n 3, 1) := by decide +kernel
theorem dX5_count_49 : decode cX5_count 49 = .ok (.bipush 6, 2) := by decide +kernel
theorem dX5_count_51 : decode cX5_count 51 = .ok (.if_icmp .ge 21, 3) := by decide +kernel
theorem dX5_count_54 : decode cX5_count 54 = .ok (.iload_n 2, 1) := by decide +kernel
theorem dX5_count_55 : decode cX5_count 55 = .ok (.aload_n 0, 1) := by decide +kernel
theorem dX5_count_56 : decode cX5_count 56 = .ok (.getfield 20, 3) := by decide +kernel
theorem dX5_count_59 : decode cX5_count 59 = .ok (.iload_n 3, 1) := by decide +kernel
theorem dX5_count_60 : decode cX5_count 60 = .ok (.iaload, 1) := by decide +kernel
theorem dX5_count_61 : decode cX5_count 61 = .ok (.invokestatic 46, 3) := by decide +kernel
theorem dX5_count_64 : decode cX5_count 64 = .ok (.iadd, 1) := by decide +kernel
theorem dX5_count_65 : decode cX5_count 65 = .ok (.istore_n 2, 1) := by decide +kernel
theorem dX5_count_66 : decode cX5_count 66 = .ok (.iinc 3 1, 3) := by decide +kernel
theorem dX5_count_69 : decode cX5_count 69 = .ok (.goto (-21), 3) := by decide +kernel
theorem dX5_count_72 : decode cX5_count 72 = .ok (.iload_n 2, 1) := by decide +kernel
theorem dX5_count_73 : decode cX5_count 73 = .ok (.iconst 2, 1) := by decide +kernel
theorem dX5_count_74 : decode cX5_count 74 = .ok (.idiv, 1) := by decide +kernel
theorem dX5_count_75 : decode cX5_count 75 = .ok (.ireturn, 1) := by decide +kernel
theorem dX5_count_76 : decode cX5_count 76 = .ok (.iconst 0, 1) := by decide +kernel
theorem dX5_count_77 : decode cX5_count 77 = .ok (.istore_n 3, 1) := by decide +kernel
theorem dX5_count_78 : decode cX5_count 78 = .ok (.iload_n 3, 1) := by decide +kernel
theorem dX5_count_79 : decode cX5_count 79 = .ok (.bipush 8, 2) := by decide +kernel
theorem dX5_count_81 : decode cX5_count 81 = .ok (.if_icmp .ge 18, 3) := by decide +kernel
theorem dX5_count_84 : decode cX5_count 84 = .ok (.iload_n 2, 1) := by decide +kernel
theorem dX5_count_85 : decode cX5_count 85 = .ok (.aload_n 0, 1) := by decide +kernel
theorem dX5_count_86 : decode cX5_count 86 = .ok (.getfield 17, 3) := by decide +kernel
theorem dX5_count_89 : decode cX5_count 89 = .ok (.iload_n 3, 1) := by decide +kernel
theorem dX5_count_90 : decode cX5_count 90 = .ok (.iaload, 1) := by decide +kernel
theorem dX5_count_91 : decode cX5_count 91 = .ok (.iadd, 1) := by decide +kernel
theorem dX5_count_92 : decode cX5_count 92 = .ok (.istore_n 2, 1) := by decide +kernel
theorem dX5_count_93 : decode cX5_count 93 = .ok (.iinc 3 1, 3) := by decide +kernel
theorem dX5_count_96 : decode cX5_count 96 = .ok (.goto (-18), 3) := by decide +kernel
theorem dX5_count_99 : decode cX5_count 99 = .ok (.iload_n 2, 1) := by decide +kernel
theorem dX5_count_100 : decode cX5_count 100 = .ok (.ireturn, 1) := by decide +kernel
theorem dX5_count_101 : decode cX5_count 101 = .ok (.iconst 0, 1) := by decide +kernel
theorem dX5_count_102 : decode cX5_count 102 = .ok (.istore_n 3, 1) := by decide +kernel
theorem dX5_count_103 : decode cX5_count 103 = .ok (.iload_n 3, 1) := by decide +kernel
theorem dX5_count_104 : decode cX5_count 104 = .ok (.aload_n 0, 1) := by decide +kernel
theorem dX5_count_105 : decode cX5_count 105 = .ok (.getfield 7, 3) := by decide +kernel
theorem dX5_count_108 : decode cX5_count 108 = .ok (.if_icmp .ge 18, 3) := by decide +kernel
theorem dX5_count_111 : decode cX5_count 111 = .ok (.iload_n 2, 1) := by decide +kernel
theorem dX5_count_112 : decode cX5_count 112 = .ok (.aload_n 0, 1) := by decide +kernel
theorem dX5_count_113 : decode cX5_count 113 = .ok (.getfield 13, 3) := by decide +kernel
theorem dX5_count_116 : decode cX5_count 116 = .ok (.iload_n 3, 1) := by decide +kernel
theorem dX5_count_117 : decode cX5_count 117 = .ok (.iaload, 1) := by decide +kernel
theorem dX5_count_118 : decode cX5_count 118 = .ok (.iadd, 1) := by decide +kernel
theorem dX5_count_119 : decode cX5_count 119 = .ok (.istore_n 2, 1) := by decide +kernel
theorem dX5_count_120 : decode cX5_count 120 = .ok (.iinc 3 1, 3) := by decide +kernel
theorem dX5_count_123 : decode cX5_count 123 = .ok (.goto (-20), 3) := by decide +kernel
theorem dX5_count_126 : decode cX5_count 126 = .ok (.iload_n 2, 1) := by decide +kernel
theorem dX5_count_127 : decode cX5_count 127 = .ok (.ireturn, 1) := by decide +kernel
theorem dX5_count_128 : decode cX5_count 128 = .ok (.bipush (-2), 2) := by decide +kernel
theorem dX5_count_130 : decode cX5_count 130 = .ok (.ireturn, 1) := by decide +kernel
end
section
set_option maxRecDepth 20000 in
theorem ggL_law_X4_init : GoodIn wsL_law wsX4_init := goodIn_r _ [8, 9, 10, 11, 12, 13, 14, 15, 16, 17, 18, 19, 20, 21, 22, 23, 24, 25, 26, 27, 28, 29, 30, 31, 32, 33, 34, 35, 36, 37, 38, 39, 40, 41, 42, 43, 44, 45, 46, 47, 48, 49, 50, 571, 572, 554, 555, 556, 557, 558, 559, 573, 574, 575, 576, 577] (by decide +kernel) (by decide +kernel)
set_option maxRecDepth 20000 in
theorem gL_law_X4_init : GoodIn wsL_law (wsX4_init) := ggL_law_X4_init
set_option maxRecDepth 20000 in
theorem ggL_law_X5_init : GoodIn wsL_law wsX5_init := goodIn_r _ [53, 54, 10, 11, 55, 33, 56, 57, 58, 59, 60, 61, 560, 561, 562, 563, 564, 565, 566, 567, 568, 569, 570] (by decide +kernel) (by decide +kernel)
set_option maxRecDepth 20000 in
theorem gL_law_X5_init : GoodIn wsL_law (wsX5_init) := ggL_law_X5_init
set_option maxRecDepth 20000 in
theorem ggL_law_X4_places : GoodIn wsL_law wsX4_places := goodIn_r _ [65, 15, 66, 67, 2, 68, 69, 70, 71, 14, 72, 35, 34, 554, 555, 556, 557, 558, 559, 571, 572] (by decide +kernel) (by decide +kernel)
set_option maxRecDepth 20000 in
theorem gL_law_X4_places : GoodIn wsL_law (wsV RL 13 RX4 yX4_places wsX4_places) := goodIn_app (goodIn_of _ (by decide +kernel)) ggL_law_X4_places
set_option maxRecDepth 20000 in
theorem ggL_law_X5_places : GoodIn wsL_law wsX5_places := goodIn_r _ [76, 55, 56, 77, 78, 5, 79, 560, 561, 562, 563, 564, 565, 566, 567, 568, 569, 570] (by decide +kernel) (by decide +kernel)
set_option maxRecDepth 20000 in
theorem gL_law_X5_places : GoodIn wsL_law (wsV RL 17 RX5 yX5_places wsX5_places) := goodIn_app (goodIn_of _ (by decide +kernel)) ggL_law_X5_places
set_option maxRecDepth 20000 in
theorem ggL_law_X4_digit : GoodIn wsL_law wsX4_digit := goodIn_r _ [83, 15, 84, 85, 86, 2, 87, 66, 67, 68, 554, 555, 556, 557, 558, 559, 571, 572] (by decide +kernel) (by decide +kernel)
set_option maxRecDepth 20000 in
theorem gL_law_X4_digit : GoodIn wsL_law (wsV RL 18 RX4 yX4_digit wsX4_digit) := goodIn_app (goodIn_of _ (by decide +kernel)) ggL_law_X4_digit
set_option maxRecDepth 20000 in
theorem ggL_law_X5_digit : GoodIn wsL_law wsX5_digit := goodIn_r _ [91, 56, 92, 93, 94, 5, 95, 55, 77, 78, 79, 560, 561, 562, 563, 564, 565, 566, 567, 568, 569, 570] (by decide +kernel) (by decide +kernel)
set_option maxRecDepth 20000 in
theorem gL_law_X5_digit : GoodIn wsL_law (wsV RL 22 RX5 yX5_digit wsX5_digit) := goodIn_app (goodIn_of _ (by decide +kernel)) ggL_law_X5_digit
set_option maxRecDepth 20000 in
theorem ggL_law_X4_bit : GoodIn wsL_law wsX4_bit := goodIn_r _ [99, 24, 100, 101, 2, 102, 66, 67, 68, 103, 104, 105, 23, 106, 46, 107, 108, 109, 110, 554, 555, 556, 557, 558, 559, 576] (by decide +kernel) (by decide +kernel)
set_option maxRecDepth 20000 in
theorem gL_law_X4_bit : GoodIn wsL_law (wsV RL 23 RX4 yX4_bit wsX4_bit) := goodIn_app (goodIn_of _ (by decide +kernel)) ggL_law_X4_bit
set_option maxRecDepth 20000 in
theorem ggL_law_X5_bit : GoodIn wsL_law wsX5_bit := goodIn_r _ [114, 57, 115, 116, 5, 117, 77, 78, 79, 118, 119, 120, 560, 561, 562, 563, 564, 565, 566, 567, 568, 569, 570] (by decide +kernel) (by decide +kernel)
set_option maxRecDepth 20000 in
theorem gL_law_X5_bit : GoodIn wsL_law (wsV RL 26 RX5 yX5_bit wsX5_bit) := goodIn_app (goodIn_of _ (by decide +kernel)) ggL_law_X5_bit
set_option maxRecDepth 20000 in
theorem ggL_law_X4_linear : GoodIn wsL_law wsX4_linear := goodIn_r _ [124, 24, 100, 101, 2, 102, 66, 67, 68, 125, 126, 23, 127, 128, 129, 130, 131, 132, 133, 134, 554, 555, 556, 557, 558, 559, 576] (by decide +kernel) (by decide +kernel)
set_option maxRecDepth 20000 in
theorem gL_law_X4_linear : GoodIn wsL_law (wsV RL 27 RX4 yX4_linear wsX4_linear) := goodIn_app (goodIn_of _ (by decide +kernel)) ggL_law_X4_linear
set_option maxRecDepth 20000 in
theorem ggL_law_X5_linear : GoodIn wsL_law wsX5_linear := goodIn_r _ [138, 57, 115, 116, 5, 117, 77, 78, 79, 139, 140, 141, 142, 143, 144, 560, 561, 562, 563, 564, 565, 566, 567, 568, 569, 570] (by decide +kernel) (by decide +kernel)
set_option maxRecDepth 20000 in
theorem gL_law_X5_linear : GoodIn wsL_law (wsV RL 30 RX5 yX5_linear wsX5_linear) := goodIn_app (goodIn_of _ (by decide +kernel)) ggL_law_X5_linear
set_option maxRecDepth 20000 in
theorem ggL_law_X4_line : GoodIn wsL_law wsX4_line := goodIn_r _ [148, 28, 149, 150, 2, 151, 66, 67, 68, 152, 153, 154, 27, 155, 50, 156, 157, 158, 159, 554, 555, 556, 557, 558, 559, 577] (by decide +kernel) (by decide +kernel)
set_option maxRecDepth 20000 in
theorem gL_law_X4_line : GoodIn wsL_law (wsV RL 31 RX4 yX4_line wsX4_line) := goodIn_app (goodIn_of _ (by decide +kernel)) ggL_law_X4_line
set_option maxRecDepth 20000 in
theorem ggL_law_X5_line : GoodIn wsL_law wsX5_line := goodIn_r _ [163, 58, 164, 165, 5, 166, 77, 78, 79, 560, 561, 562, 563, 564, 565, 566, 567, 568, 569, 570] (by decide +kernel) (by decide +kernel)
set_option maxRecDepth 20000 in
theorem gL_law_X5_line : GoodIn wsL_law (wsV RL 35 RX5 yX5_line wsX5_line) := goodIn_app (goodIn_of _ (by decide +kernel)) ggL_law_X5_line
set_option maxRecDepth 20000 in
theorem ggL_law_X4_draw : GoodIn wsL_law wsX4_draw := goodIn_r _ [170, 29, 66, 67, 2, 68, 554, 555, 556, 557, 558, 559] (by decide +kernel) (by decide +kernel)
set_option maxRecDepth 20000 in
theorem gL_law_X4_draw : GoodIn wsL_law (wsV RL 36 RX4 yX4_draw wsX4_draw) := goodIn_app (goodIn_of _ (by decide +kernel)) ggL_law_X4_draw
set_option maxRecDepth 20000 in
theorem ggL_law_X5_draw : GoodIn wsL_law wsX5_draw := goodIn_r _ [174, 59, 77, 78, 5, 79, 560, 561, 562, 563, 564, 565, 566, 567, 568, 569, 570] (by decide +kernel) (by decide +kernel)
set_option maxRecDepth 20000 in
theorem gL_law_X5_draw : GoodIn wsL_law (wsV RL 39 RX5 yX5_draw wsX5_draw) := goodIn_app (goodIn_of _ (by decide +kernel)) ggL_law_X5_draw
set_option maxRecDepth 20000 in
theorem ggL_law_X4_is : GoodIn wsL_law wsX4_is := goodIn_r _ [178, 179, 180, 2, 181, 66, 67, 68, 182, 183, 184, 185, 20, 15, 24, 28, 186, 187, 188, 189, 190, 191, 19, 192, 40, 193, 194, 195, 14, 196, 35, 34, 197, 198, 199, 200, 42, 201, 202, 203, 204, 205, 206, 207, 208, 209, 210, 211, 212, 213, 214, 215, 216, 217, 218, 219, 220, 221, 222, 223, 224, 225, 226, 227, 228, 41, 229, 230, 231, 232, 233, 234, 235, 236, 237, 238, 239, 240, 241, 242, 243, 244, 245, 246, 23, 247, 248, 249, 250, 251, 46, 252, 126, 127, 128, 129, 130, 131, 132, 133, 134, 253, 254, 255, 256, 27, 257, 258, 259, 260, 261, 262, 263, 264, 265, 50, 266, 267, 268, 269, 270, 554, 555, 556, 557, 558, 559, 573, 574, 575, 571, 572, 576, 577] (by decide +kernel) (by decide +kernel)
set_option maxRecDepth 20000 in
theorem gL_law_X4_is : GoodIn wsL_law (wsV RL 40 RX4 yX4_is wsX4_is) := goodIn_app (goodIn_of _ (by decide +kernel)) ggL_law_X4_is
set_option maxRecDepth 20000 in
theorem ggL_law_X5_is : GoodIn wsL_law wsX5_is := goodIn_r _ [274, 275, 276, 5, 277, 77, 78, 79, 278, 279, 280, 281, 282, 283, 284, 285, 286, 287, 288, 289, 55, 60, 56, 290, 291, 292, 293, 294, 295, 296, 297, 61, 298, 299, 300, 301, 302, 303, 304, 305, 306, 307, 308, 309, 310, 311, 312, 313, 314, 315, 316, 317, 318, 319, 320, 321, 57, 139, 140, 141, 142, 143, 144, 322, 323, 324, 325, 326, 327, 328, 329, 58, 560, 561, 562, 563, 564, 565, 566, 567, 568, 569, 570] (by decide +kernel) (by decide +kernel)
set_option maxRecDepth 20000 in
theorem gL_law_X5_is : GoodIn wsL_law (wsV RL 43 RX5 yX5_is wsX5_is) := goodIn_app (goodIn_of _ (by decide +kernel)) ggL_law_X5_is
set_option maxRecDepth 20000 in
theorem ggL_law_X4_distance : GoodIn wsL_law wsX4_distance := goodIn_r _ [333, 179, 180, 2, 181, 66, 67, 68, 182, 183, 184, 185, 20, 15, 24, 28, 186, 187, 188, 189, 190, 191, 19, 192, 40, 193, 194, 195, 14, 196, 35, 34, 197, 198, 199, 200, 42, 201, 202, 203, 204, 205, 206, 207, 208, 209, 210, 211, 212, 213, 214, 215, 216, 217, 218, 219, 220, 221, 222, 223, 224, 225, 226, 227, 228, 41, 229, 230, 231, 232, 233, 234, 235, 236, 237, 238, 239, 240, 241, 242, 243, 244, 245, 246, 23, 247, 248, 249, 250, 251, 46, 252, 126, 127, 128, 129, 130, 131, 132, 133, 134, 253, 254, 255, 256, 27, 257, 258, 259, 260, 261, 262, 263, 264, 265, 50, 266, 267, 268, 269, 270, 554, 555, 556, 557, 558, 559, 573, 574, 575, 571, 572, 576, 577] (by decide +kernel) (by decide +kernel)
set_option maxRecDepth 20000 in
theorem gL_law_X4_distance : GoodIn wsL_law (wsV RL 44 RX4 yX4_distance wsX4_distance) := goodIn_app (goodIn_of _ (by decide +kernel)) ggL_law_X4_distance
set_option maxRecDepth 20000 in
theorem ggL_law_X5_distance : GoodIn wsL_law wsX5_distance := goodIn_r _ [337, 275, 276, 5, 277, 77, 78, 79, 278, 279, 280, 281, 282, 283, 284, 285, 286, 287, 288, 289, 55, 60, 56, 290, 291, 292, 293, 294, 295, 296, 297, 61, 298, 299, 300, 301, 302, 303, 304, 305, 306, 307, 308, 309, 310, 311, 312, 313, 314, 315, 316, 317, 318, 319, 320, 321, 57, 139, 140, 141, 142, 143, 144, 322, 323, 324, 325, 326, 327, 328, 329, 58, 560, 561, 562, 563, 564, 565, 566, 567, 568, 569, 570] (by decide +kernel) (by decide +kernel)
set_option maxRecDepth 20000 in
theorem gL_law_X5_distance : GoodIn wsL_law (wsV RL 47 RX5 yX5_distance wsX5_distance) := goodIn_app (goodIn_of _ (by decide +kernel)) ggL_law_X5_distance
set_option maxRecDepth 20000 in
theorem ggL_law_X4_nearest : GoodIn wsL_law wsX4_nearest := goodIn_r _ [341, 20, 15, 24, 28, 179, 180, 2, 181, 66, 67, 68, 186, 187, 188, 84, 85, 86, 87, 189, 190, 191, 19, 192, 40, 193, 194, 195, 14, 196, 35, 34, 197, 198, 199, 200, 42, 201, 202, 203, 204, 205, 206, 207, 208, 209, 210, 211, 212, 213, 214, 215, 216, 217, 218, 219, 220, 221, 222, 223, 224, 225, 226, 227, 228, 41, 229, 230, 231, 232, 233, 234, 235, 236, 237, 238, 239, 240, 241, 242, 243, 244, 245, 246, 23, 247, 248, 249, 250, 251, 46, 252, 126, 127, 128, 129, 130, 131, 132, 133, 134, 254, 255, 256, 27, 257, 258, 259, 260, 261, 262, 263, 264, 265, 50, 266, 267, 268, 269, 554, 555, 556, 557, 558, 559, 573, 574, 575, 571, 572, 576, 577] (by decide +kernel) (by decide +kernel)
set_option maxRecDepth 20000 in
theorem gL_law_X4_nearest : GoodIn wsL_law (wsV RL 48 RX4 yX4_nearest wsX4_nearest) := goodIn_app (goodIn_of _ (by decide +kernel)) ggL_law_X4_nearest
set_option maxRecDepth 20000 in
theorem ggL_law_X5_nearest : GoodIn wsL_law wsX5_nearest := goodIn_r _ [345, 60, 275, 276, 5, 277, 77, 78, 79, 92, 93, 94, 95, 55, 346, 347, 348, 349, 56, 282, 283, 284, 285, 286, 287, 288, 289, 290, 291, 292, 293, 294, 295, 296, 297, 61, 298, 299, 300, 301, 302, 303, 304, 305, 306, 307, 308, 309, 310, 311, 312, 313, 314, 315, 316, 317, 318, 319, 320, 321, 57, 139, 140, 141, 142, 143, 144, 322, 323, 324, 325, 326, 327, 328, 329, 58, 560, 561, 562, 563, 564, 565, 566, 567, 568, 569, 570] (by decide +kernel) (by decide +kernel)
set_option maxRecDepth 20000 in
theorem gL_law_X5_nearest : GoodIn wsL_law (wsV RL 51 RX5 yX5_nearest wsX5_nearest) := goodIn_app (goodIn_of _ (by decide +kernel)) ggL_law_X5_nearest
set_option maxRecDepth 20000 in
theorem ggL_law_X4_mend : GoodIn wsL_law wsX4_mend := goodIn_r _ [353, 15, 20, 24, 28, 179, 180, 2, 181, 66, 67, 68, 182, 183, 184, 185, 186, 187, 188, 189, 190, 191, 19, 192, 40, 193, 194, 195, 14, 196, 35, 34, 197, 198, 199, 200, 42, 201, 202, 203, 204, 205, 206, 207, 208, 209, 210, 211, 212, 213, 214, 215, 216, 217, 218, 219, 220, 221, 222, 223, 224, 225, 226, 227, 228, 41, 229, 230, 231, 232, 233, 234, 235, 236, 237, 238, 239, 240, 241, 242, 243, 244, 245, 246, 23, 247, 248, 249, 250, 251, 46, 252, 126, 127, 128, 129, 130, 131, 132, 133, 134, 253, 254, 255, 256, 27, 257, 258, 259, 260, 261, 262, 263, 264, 265, 50, 266, 267, 268, 269, 270, 354, 125, 355, 356, 357, 358, 554, 555, 556, 557, 558, 559, 573, 574, 575, 576, 571, 572, 577] (by decide +kernel) (by decide +kernel)
set_option maxRecDepth 20000 in
theorem gL_law_X4_mend : GoodIn wsL_law (wsV RL 52 RX4 yX4_mend wsX4_mend) := goodIn_app (goodIn_of _ (by decide +kernel)) ggL_law_X4_mend
set_option maxRecDepth 20000 in
theorem ggL_law_X5_mend : GoodIn wsL_law wsX5_mend := goodIn_r _ [362, 55, 56, 60, 58, 275, 276, 5, 277, 77, 78, 79, 278, 279, 280, 281, 282, 283, 284, 285, 286, 287, 288, 289, 290, 291, 292, 293, 294, 295, 296, 297, 61, 298, 299, 300, 301, 302, 303, 304, 305, 306, 307, 308, 309, 310, 311, 312, 313, 314, 315, 316, 317, 318, 319, 320, 321, 57, 139, 140, 141, 142, 143, 144, 322, 323, 324, 325, 326, 327, 328, 329, 346, 347, 348, 349, 363, 136, 137, 138, 115, 116, 117, 560, 561, 562, 563, 564, 565, 566, 567, 568, 569, 570] (by decide +kernel) (by decide +kernel)
set_option maxRecDepth 20000 in
theorem gL_law_X5_mend : GoodIn wsL_law (wsV RL 55 RX5 yX5_mend wsX5_mend) := goodIn_app (goodIn_of _ (by decide +kernel)) ggL_law_X5_mend
set_option maxRecDepth 20000 in
theorem ggL_law_X4_pass : GoodIn wsL_law wsX4_pass := goodIn_r _ [367, 368, 179, 180, 2, 181, 66, 67, 68, 369, 370, 371, 372, 15, 24, 28, 29, 186, 187, 188, 373, 374, 375, 14, 376, 377, 378, 379, 380, 35, 34, 381, 382, 383, 384, 385, 222, 223, 224, 386, 387, 388, 389, 390, 391, 392, 23, 393, 394, 395, 396, 397, 398, 104, 105, 106, 46, 399, 400, 401, 27, 402, 269, 129, 130, 131, 132, 133, 134, 403, 404, 405, 406, 258, 259, 260, 261, 262, 263, 264, 265, 50, 266, 267, 268, 407, 408, 409, 410, 411, 412, 413, 414, 415, 416, 417, 418, 419, 420, 554, 555, 556, 557, 558, 559, 571, 572, 576, 577] (by decide +kernel) (by decide +kernel)
set_option maxRecDepth 20000 in
theorem gL_law_X4_pass : GoodIn wsL_law (wsV RL 56 RX4 yX4_pass wsX4_pass) := goodIn_app (goodIn_of _ (by decide +kernel)) ggL_law_X4_pass
set_option maxRecDepth 20000 in
theorem ggL_law_X5_pass : GoodIn wsL_law wsX5_pass := goodIn_r _ [424, 425, 426, 427, 275, 276, 5, 277, 77, 78, 79, 118, 119, 120, 428, 429, 430, 431, 286, 287, 288, 289, 55, 60, 56, 432, 433, 434, 435, 302, 303, 304, 305, 436, 437, 438, 439, 440, 57, 441, 442, 443, 444, 445, 446, 447, 59, 142, 143, 144, 448, 449, 450, 451, 322, 323, 324, 325, 326, 327, 328, 329, 58, 452, 453, 454, 455, 560, 561, 562, 563, 564, 565, 566, 567, 568, 569, 570] (by decide +kernel) (by decide +kernel)
set_option maxRecDepth 20000 in
theorem gL_law_X5_pass : GoodIn wsL_law (wsV RL 60 RX5 yX5_pass wsX5_pass) := goodIn_app (goodIn_of _ (by decide +kernel)) ggL_law_X5_pass
set_option maxRecDepth 20000 in
theorem ggL_law_X4_repeats : GoodIn wsL_law wsX4_repeats := goodIn_r _ [459, 179, 180, 2, 181, 66, 67, 68, 369, 370, 371, 372, 15, 24, 28, 29, 186, 187, 188, 373, 374, 375, 14, 376, 377, 378, 379, 380, 35, 34, 381, 382, 383, 384, 385, 222, 223, 224, 386, 387, 388, 389, 390, 391, 392, 23, 393, 394, 395, 396, 397, 398, 104, 105, 106, 46, 399, 400, 401, 27, 402, 269, 129, 130, 131, 132, 133, 134, 403, 404, 405, 406, 258, 259, 260, 261, 262, 263, 264, 265, 50, 266, 267, 268, 407, 408, 409, 410, 411, 412, 413, 414, 415, 416, 417, 554, 555, 556, 557, 558, 559, 571, 572, 576, 577] (by decide +kernel) (by decide +kernel)
set_option maxRecDepth 20000 in
theorem gL_law_X4_repeats : GoodIn wsL_law (wsV RL 61 RX4 yX4_repeats wsX4_repeats) := goodIn_app (goodIn_of _ (by decide +kernel)) ggL_law_X4_repeats
set_option maxRecDepth 20000 in
theorem ggL_law_X5_repeats : GoodIn wsL_law wsX5_repeats := goodIn_r _ [463, 426, 427, 275, 276, 5, 277, 77, 78, 79, 428, 429, 430, 431, 286, 287, 288, 289, 55, 60, 56, 432, 433, 434, 435, 302, 303, 304, 305, 436, 437, 438, 439, 440, 57, 441, 442, 443, 444, 445, 446, 447, 59, 142, 143, 144, 448, 449, 450, 451, 322, 323, 324, 325, 326, 327, 328, 329, 58, 452, 453, 454, 455, 560, 561, 562, 563, 564, 565, 566, 567, 568, 569, 570] (by decide +kernel) (by decide +kernel)
set_option maxRecDepth 20000 in
theorem gL_law_X5_repeats : GoodIn wsL_law (wsV RL 65 RX5 yX5_repeats wsX5_repeats) := goodIn_app (goodIn_of _ (by decide +kernel)) ggL_law_X5_repeats
set_option maxRecDepth 20000 in
theorem ggL_law_X4_worst : GoodIn wsL_law wsX4_worst := goodIn_r _ [467, 15, 16, 186, 187, 2, 188, 66, 67, 68, 468, 469, 470, 471, 20, 472, 473, 474, 14, 475, 35, 34, 373, 374, 375, 376, 377, 378, 379, 380, 381, 382, 383, 384, 385, 222, 223, 224, 386, 387, 388, 389, 189, 190, 191, 19, 192, 40, 193, 194, 195, 196, 197, 198, 199, 200, 42, 201, 202, 203, 204, 205, 206, 207, 208, 209, 210, 211, 212, 213, 214, 215, 216, 217, 218, 219, 220, 221, 225, 226, 227, 228, 41, 229, 230, 231, 232, 233, 234, 235, 236, 237, 238, 239, 240, 241, 242, 243, 411, 412, 413, 414, 418, 419, 420, 554, 555, 556, 557, 558, 559, 571, 572, 573, 574, 575] (by decide +kernel) (by decide +kernel)
set_option maxRecDepth 20000 in
theorem gL_law_X4_worst : GoodIn wsL_law (wsV RL 66 RX4 yX4_worst wsX4_worst) := goodIn_app (goodIn_of _ (by decide +kernel)) ggL_law_X4_worst
set_option maxRecDepth 20000 in
theorem ggL_law_X5_worst : GoodIn wsL_law wsX5_worst := goodIn_r _ [479, 55, 480, 426, 481, 427, 77, 78, 5, 79, 92, 93, 94, 95, 482, 483, 484, 485, 60, 290, 291, 292, 293, 294, 295, 296, 297, 61, 298, 299, 300, 301, 302, 303, 304, 305, 306, 307, 308, 309, 310, 311, 312, 313, 432, 433, 434, 435, 452, 453, 454, 455, 560, 561, 562, 563, 564, 565, 566, 567, 568, 569, 570] (by decide +kernel) (by decide +kernel)
set_option maxRecDepth 20000 in
theorem gL_law_X5_worst : GoodIn wsL_law (wsV RL 70 RX5 yX5_worst wsX5_worst) := goodIn_app (goodIn_of _ (by decide +kernel)) ggL_law_X5_worst
set_option maxRecDepth 20000 in
theorem ggL_law_X4_mended : GoodIn wsL_law wsX4_mended := goodIn_r _ [489, 24, 100, 101, 2, 102, 66, 67, 68, 490, 491, 492, 23, 493, 398, 104, 105, 106, 46, 554, 555, 556, 557, 558, 559, 576] (by decide +kernel) (by decide +kernel)
set_option maxRecDepth 20000 in
theorem gL_law_X4_mended : GoodIn wsL_law (wsV RL 71 RX4 yX4_mended wsX4_mended) := goodIn_app (goodIn_of _ (by decide +kernel)) ggL_law_X4_mended
set_option maxRecDepth 20000 in
theorem ggL_law_X5_mended : GoodIn wsL_law wsX5_mended := goodIn_r _ [497, 57, 115, 116, 5, 117, 77, 78, 79, 118, 119, 120, 560, 561, 562, 563, 564, 565, 566, 567, 568, 569, 570] (by decide +kernel) (by decide +kernel)
set_option maxRecDepth 20000 in
theorem gL_law_X5_mended : GoodIn wsL_law (wsV RL 74 RX5 yX5_mended wsX5_mended) := goodIn_app (goodIn_of _ (by decide +kernel)) ggL_law_X5_mended
set_option maxRecDepth 20000 in
theorem ggL_law_X4_shows : GoodIn wsL_law wsX4_shows := goodIn_r _ [501, 502, 503, 504, 2, 505, 29, 84, 85, 86, 87, 15, 66, 67, 68, 100, 101, 102, 506, 129, 130, 131, 132, 133, 134, 507, 508, 509, 510, 24, 28, 511, 395, 396, 23, 397, 398, 104, 105, 106, 46, 512, 404, 405, 27, 406, 258, 259, 260, 261, 262, 263, 264, 265, 50, 266, 267, 268, 269, 554, 555, 556, 557, 558, 559, 571, 572, 576, 577] (by decide +kernel) (by decide +kernel)
set_option maxRecDepth 20000 in
theorem gL_law_X4_shows : GoodIn wsL_law (wsV RL 75 RX4 yX4_shows wsX4_shows) := goodIn_app (goodIn_of _ (by decide +kernel)) ggL_law_X4_shows
set_option maxRecDepth 20000 in
theorem ggL_law_X5_shows : GoodIn wsL_law wsX5_shows := goodIn_r _ [516, 517, 518, 519, 5, 520, 59, 92, 93, 94, 95, 55, 77, 78, 79, 115, 116, 117, 142, 143, 144, 521, 522, 523, 524, 56, 57, 441, 442, 443, 448, 449, 450, 451, 322, 323, 324, 325, 326, 327, 328, 329, 58, 560, 561, 562, 563, 564, 565, 566, 567, 568, 569, 570] (by decide +kernel) (by decide +kernel)
set_option maxRecDepth 20000 in
theorem gL_law_X5_shows : GoodIn wsL_law (wsV RL 78 RX5 yX5_shows wsX5_shows) := goodIn_app (goodIn_of _ (by decide +kernel)) ggL_law_X5_shows
set_option maxRecDepth 20000 in
theorem ggL_law_X4_witness : GoodIn wsL_law wsX4_witness := goodIn_r _ [528, 529, 530, 531, 2, 532, 502, 503, 504, 505, 29, 84, 85, 86, 87, 15, 66, 67, 68, 100, 101, 102, 506, 129, 130, 131, 132, 133, 134, 507, 508, 509, 510, 24, 28, 511, 395, 396, 23, 397, 398, 104, 105, 106, 46, 512, 404, 405, 27, 406, 258, 259, 260, 261, 262, 263, 264, 265, 50, 266, 267, 268, 269, 533, 534, 535, 536, 554, 555, 556, 557, 558, 559, 571, 572, 576, 577] (by decide +kernel) (by decide +kernel)
set_option maxRecDepth 20000 in
theorem gL_law_X4_witness : GoodIn wsL_law (wsV RL 79 RX4 yX4_witness wsX4_witness) := goodIn_app (goodIn_of _ (by decide +kernel)) ggL_law_X4_witness
set_option maxRecDepth 20000 in
theorem ggL_law_X5_witness : GoodIn wsL_law wsX5_witness := goodIn_r _ [540, 517, 518, 519, 5, 520, 59, 92, 93, 94, 95, 55, 77, 78, 79, 115, 116, 117, 142, 143, 144, 521, 522, 523, 524, 56, 57, 441, 442, 443, 448, 449, 450, 451, 322, 323, 324, 325, 326, 327, 328, 329, 58, 560, 561, 562, 563, 564, 565, 566, 567, 568, 569, 570] (by decide +kernel) (by decide +kernel)
set_option maxRecDepth 20000 in
theorem gL_law_X5_witness : GoodIn wsL_law (wsV RL 82 RX5 yX5_witness wsX5_witness) := goodIn_app (goodIn_of _ (by decide +kernel)) ggL_law_X5_witness
set_option maxRecDepth 20000 in
theorem ggL_law_X4_count : GoodIn wsL_law wsX4_count := goodIn_r _ [544, 15, 29, 28, 24, 545, 546, 547, 27, 548, 262, 263, 264, 265, 50, 266, 267, 268, 269, 129, 130, 131, 132, 133, 134, 506, 549, 222, 223, 14, 224, 35, 34, 554, 555, 556, 557, 558, 559, 571, 572, 576, 577] (by decide +kernel) (by decide +kernel)
set_option maxRecDepth 20000 in
theorem gL_law_X4_count : GoodIn wsL_law (wsV RL 83 RX4 yX4_count wsX4_count) := goodIn_app (goodIn_of _ (by decide +kernel)) ggL_law_X4_count
set_option maxRecDepth 20000 in
theorem ggL_law_X5_count : GoodIn wsL_law wsX5_count := goodIn_r _ [553, 55, 59, 58, 57, 56, 142, 143, 5, 144, 560, 561, 562, 563, 564, 565, 566, 567, 568, 569, 570] (by decide +kernel) (by decide +kernel)
set_option maxRecDepth 20000 in
theorem gL_law_X5_count : GoodIn wsL_law (wsV RL 86 RX5 yX5_count wsX5_count) := goodIn_app (goodIn_of _ (by decide +kernel)) ggL_law_X5_count
theorem dL_law_0 : decode cL_law 0 = .ok (.new 7, 3) := by decide +kernel
theorem dL_law_3 : decode cL_law 3 = .ok (.dup, 1) := by decide +kernel
theorem dL_law_4 : decode cL_law 4 = .ok (.invokespecial 9, 3) := by decide +kernel
theorem dL_law_7 : decode cL_law 7 = .ok (.astore_n 1, 1) := by decide +kernel
theorem dL_law_8 : decode cL_law 8 = .ok (.new 10, 3) := by decide +kernel
theorem dL_law_11 : decode cL_law 11 = .ok (.dup, 1) := by decide +kernel
theorem dL_law_12 : decode cL_law 12 = .ok (.invokespecial 12, 3) := by decide +kernel
theorem dL_law_15 : decode cL_law 15 = .ok (.astore_n 2, 1) := by decide +kernel
theorem dL_law_16 : decode cL_law 16 = .ok (.iconst 0, 1) := by decide +kernel
theorem dL_law_17 : decode cL_law 17 = .ok (.istore_n 3, 1) := by decide +kernel
theorem dL_law_18 : decode cL_law 18 = .ok (.iload_n 3, 1) := by decide +kernel
theorem dL_law_19 : decode cL_law 19 = .ok (.aload_n 0, 1) := by decide +kernel
theorem dL_law_20 : decode cL_law 20 = .ok (.arraylength, 1) := by decide +kernel
theorem dL_law_21 : decode cL_law 21 = .ok (.iconst 5, 1) := by decide +kernel
theorem dL_law_22 : decode cL_law 22 = .ok (.isub, 1) := by decide +kernel
theorem dL_law_23 : decode cL_law 23 = .ok (.if_icmp .gt 647, 3) := by decide +kernel
theorem dL_law_26 : decode cL_law 26 = .ok (.aload_n 0, 1) := by decide +kernel
theorem dL_law_27 : decode cL_law 27 = .ok (.iload_n 3, 1) := by decide +kernel
theorem dL_law_28 : decode cL_law 28 = .ok (.iaload, 1) := by decide +kernel
theorem dL_law_29 : decode cL_law 29 = .ok (.bipush 31, 2) := by decide +kernel
theorem dL_law_31 : decode cL_law 31 = .ok (.iand, 1) := by decide +kernel
theorem dL_law_32 : decode cL_law 32 = .ok (.tableswitch 632 0 16 #[84, 107, 140, 173, 196, 255, 278, 301, 324, 357, 380, 414, 457, 510, 543, 586, 609], 84) := by decide +kernel
theorem dL_law_116 : decode cL_law 116 = .ok (.aload_n 1, 1) := by decide +kernel
theorem dL_law_117 : decode cL_law 117 = .ok (.aload_n 0, 1) := by decide +kernel
theorem dL_law_118 : decode cL_law 118 = .ok (.iload_n 3, 1) := by decide +kernel
theorem dL_law_119 : decode cL_law 119 = .ok (.iconst 1, 1) := by decide +kernel
theorem dL_law_120 : decode cL_law 120 = .ok (.iadd, 1) := by decide +kernel
theorem dL_law_121 : decode cL_law 121 = .ok (.iaload, 1) := by decide +kernel
theorem dL_law_122 : decode cL_law 122 = .ok (.invokevirtual 13, 3) := by decide +kernel
theorem dL_law_125 : decode cL_law 125 = .ok (.aload_n 2, 1) := by decide +kernel
theorem dL_law_126 : decode cL_law 126 = .ok (.aload_n 0, 1) := by decide +kernel
theorem dL_law_127 : decode cL_law 127 = .ok (.iload_n 3, 1) := by decide +kernel
theorem dL_law_128 : decode cL_law 128 = .ok (.iconst 1, 1) := by decide +kernel
theorem dL_law_129 : decode cL_law 129 = .ok (.iadd, 1) := by decide +kernel
theorem dL_law_130 : decode cL_law 130 = .ok (.iaload, 1) := by decide +kernel
theorem dL_law_131 : decode cL_law 131 = .ok (.invokevirtual 17, 3) := by decide +kernel
theorem dL_law_134 : decode cL_law 134 = .ok (.if_icmp .eq 530, 3) := by decide +kernel
theorem dL_law_137 : decode cL_law 137 = .ok (.iconst 0, 1) := by decide +kernel
theorem dL_law_138 : decode cL_law 138 = .ok (.ireturn, 1) := by decide +kernel
theorem dL_law_139 : decode cL_law 139 = .ok (.aload_n 1, 1) := by decide +kernel
theorem dL_law_140 : decode cL_law 140 = .ok (.aload_n 0, 1) := by decide +kernel
theorem dL_law_141 : decode cL_law 141 = .ok (.iload_n 3, 1) := by decide +kernel
theorem dL_law_142 : decode cL_law 142 = .ok (.iconst 1, 1) := by decide +kernel
theorem dL_law_143 : decode cL_law 143 = .ok (.iadd, 1) := by decide +kernel
theorem dL_law_144 : decode cL_law 144 = .ok (.iaload, 1) := by decide +kernel
theorem dL_law_145 : decode cL_law 145 = .ok (.aload_n 0, 1) := by decide +kernel
theorem dL_law_146 : decode cL_law 146 = .ok (.iload_n 3, 1) := by decide +kernel
theorem dL_law_147 : decode cL_law 147 = .ok (.iconst 2, 1) := by decide +kernel
theorem dL_law_148 : decode cL_law 148 = .ok (.iadd, 1) := by decide +kernel
theorem dL_law_149 : decode cL_law 149 = .ok (.iaload, 1) := by decide +kernel
theorem dL_law_150 : decode cL_law 150 = .ok (.invokevirtual 18, 3) := by decide +kernel
theorem dL_law_153 : decode cL_law 153 = .ok (.aload_n 2, 1) := by decide +kernel
theorem dL_law_154 : decode cL_law 154 = .ok (.aload_n 0, 1) := by decide +kernel
theorem dL_law_155 : decode cL_law 155 = .ok (.iload_n 3, 1) := by decide +kernel
theorem dL_law_156 : decode cL_law 156 = .ok (.iconst 1, 1) := by decide +kernel
theorem dL_law_157 : decode cL_law 157 = .ok (.iadd, 1) := by decide +kernel
theorem dL_law_158 : decode cL_law 158 = .ok (.iaload, 1) := by decide +kernel
theorem dL_law_159 : decode cL_law 159 = .ok (.aload_n 0, 1) := by decide +kernel
theorem dL_law_160 : decode cL_law 160 = .ok (.iload_n 3, 1) := by decide +kernel
theorem dL_law_161 : decode cL_law 161 = .ok (.iconst 2, 1) := by decide +kernel
theorem dL_law_162 : decode cL_law 162 = .ok (.iadd, 1) := by decide +kernel
theorem dL_law_163 : decode cL_law 163 = .ok (.iaload, 1) := by decide +kernel
theorem dL_law_164 : decode cL_law 164 = .ok (.invokevirtual 22, 3) := by decide +kernel
theorem dL_law_167 : decode cL_law 167 = .ok (.if_icmp .eq 497, 3) := by decide +kernel
theorem dL_law_170 : decode cL_law 170 = .ok (.iconst 0, 1) := by decide +kernel
theorem dL_law_171 : decode cL_law 171 = .ok (.ireturn, 1) := by decide +kernel
theorem dL_law_172 : decode cL_law 172 = .ok (.aload_n 1, 1) := by decide +kernel
theorem dL_law_173 : decode cL_law 173 = .ok (.aload_n 0, 1) := by decide +kernel
theorem dL_law_174 : decode cL_law 174 = .ok (.iload_n 3, 1) := by decide +kernel
theorem dL_law_175 : decode cL_law 175 = .ok (.iconst 1, 1) := by decide +kernel
theorem dL_law_176 : decode cL_law 176 = .ok (.iadd, 1) := by decide +kernel
theorem dL_law_177 : decode cL_law 177 = .ok (.iaload, 1) := by decide +kernel
theorem dL_law_178 : decode cL_law 178 = .ok (.aload_n 0, 1) := by decide +kernel
theorem dL_law_179 : decode cL_law 179 = .ok (.iload_n 3, 1) := by decide +kernel
theorem dL_law_180 : decode cL_law 180 = .ok (.iconst 2, 1) := by decide +kernel
theorem dL_law_181 : decode cL_law 181 = .ok (.iadd, 1) := by decide +kernel
theorem dL_law_182 : decode cL_law 182 = .ok (.iaload, 1) := by decide +kernel
theorem dL_law_183 : decode cL_law 183 = .ok (.invokevirtual 23, 3) := by decide +kernel
theorem dL_law_186 : decode cL_law 186 = .ok (.aload_n 2, 1) := by decide +kernel
theorem dL_law_187 : decode cL_law 187 = .ok (.aload_n 0, 1) := by decide +kernel
theorem dL_law_188 : decode cL_law 188 = .ok (.iload_n 3, 1) := by decide +kernel
theorem dL_law_189 : decode cL_law 189 = .ok (.iconst 1, 1) := by decide +kernel
theorem dL_law_190 : decode cL_law 190 = .ok (.iadd, 1) := by decide +kernel
theorem dL_law_191 : decode cL_law 191 = .ok (.iaload, 1) := by decide +kernel
theorem dL_law_192 : decode cL_law 192 = .ok (.aload_n 0, 1) := by decide +kernel
theorem dL_law_193 : decode cL_law 193 = .ok (.iload_n 3, 1) := by decide +kernel
theorem dL_law_194 : decode cL_law 194 = .ok (.iconst 2, 1) := by decide +kernel
theorem dL_law_195 : decode cL_law 195 = .ok (.iadd, 1) := by decide +kernel
theorem dL_law_196 : decode cL_law 196 = .ok (.iaload, 1) := by decide +kernel
theorem dL_law_197 : decode cL_law 197 = .ok (.invokevirtual 26, 3) := by decide +kernel
theorem dL_law_200 : decode cL_law 200 = .ok (.if_icmp .eq 464, 3) := by decide +kernel
theorem dL_law_203 : decode cL_law 203 = .ok (.iconst 0, 1) := by decide +kernel
theorem dL_law_204 : decode cL_law 204 = .ok (.ireturn, 1) := by decide +kernel
theorem dL_law_205 : decode cL_law 205 = .ok (.aload_n 1, 1) := by decide +kernel
theorem dL_law_206 : decode cL_law 206 = .ok (.aload_n 0, 1) := by decide +kernel
theorem dL_law_207 : decode cL_law 207 = .ok (.iload_n 3, 1) := by decide +kernel
theorem dL_law_208 : decode cL_law 208 = .ok (.iconst 1, 1) := by decide +kernel
theorem dL_law_209 : decode cL_law 209 = .ok (.iadd, 1) := by decide +kernel
theorem dL_law_210 : decode cL_law 210 = .ok (.iaload, 1) := by decide +kernel
theorem dL_law_211 : decode cL_law 211 = .ok (.invokevirtual 27, 3) := by decide +kernel
theorem dL_law_214 : decode cL_law 214 = .ok (.aload_n 2, 1) := by decide +kernel
theorem dL_law_215 : decode cL_law 215 = .ok (.aload_n 0, 1) := by decide +kernel
theorem dL_law_216 : decode cL_law 216 = .ok (.iload_n 3, 1) := by decide +kernel
theorem dL_law_217 : decode cL_law 217 = .ok (.iconst 1, 1) := by decide +kernel
theorem dL_law_218 : decode cL_law 218 = .ok (.iadd, 1) := by decide +kernel
theorem dL_law_219 : decode cL_law 219 = .ok (.iaload, 1) := by decide +kernel
theorem dL_law_220 : decode cL_law 220 = .ok (.invokevirtual 30, 3) := by decide +kernel
theorem dL_law_223 : decode cL_law 223 = .ok (.if_icmp .eq 441, 3) := by decide +kernel
theorem dL_law_226 : decode cL_law 226 = .ok (.iconst 0, 1) := by decide +kernel
theorem dL_law_227 : decode cL_law 227 = .ok (.ireturn, 1) := by decide +kernel
theorem dL_law_228 : decode cL_law 228 = .ok (.aload_n 1, 1) := by decide +kernel
theorem dL_law_229 : decode cL_law 229 = .ok (.aload_n 0, 1) := by decide +kernel
theorem dL_law_230 : decode cL_law 230 = .ok (.iload_n 3, 1) := by decide +kernel
theorem dL_law_231 : decode cL_law 231 = .ok (.iconst 1, 1) := by decide +kernel
theorem dL_law_232 : decode cL_law 232 = .ok (.iadd, 1) := by decide +kernel
theorem dL_law_233 : decode cL_law 233 = .ok (.iaload, 1) := by decide +kernel
theorem dL_law_234 : decode cL_law 234 = .ok (.aload_n 0, 1) := by decide +kernel
theorem dL_law_235 : decode cL_law 235 = .ok (.iload_n 3, 1) := by decide +kernel
theorem dL_law_236 : decode cL_law 236 = .ok (.iconst 2, 1) := by decide +kernel
theorem dL_law_237 : decode cL_law 237 = .ok (.iadd, 1) := by decide +kernel
theorem dL_law_238 : decode cL_law 238 = .ok (.iaload, 1) := by decide +kernel
theorem dL_law_239 : decode cL_law 239 = .ok (.aload_n 0, 1) := by decide +kernel
theorem dL_law_240 : decode cL_law 240 = .ok (.iload_n 3, 1) := by decide +kernel
theorem dL_law_241 : decode cL_law 241 = .ok (.iconst 3, 1) := by decide +kernel
theorem dL_law_242 : decode cL_law 242 = .ok (.iadd, 1) := by decide +kernel
theorem dL_law_243 : decode cL_law 243 = .ok (.iaload, 1) := by decide +kernel
theorem dL_law_244 : decode cL_law 244 = .ok (.ifCond .eq 7, 3) := by decide +kernel
theorem dL_law_247 : decode cL_law 247 = .ok (.iconst 1, 1) := by decide +kernel
theorem dL_law_248 : decode cL_law 248 = .ok (.goto 4, 3) := by decide +kernel
theorem dL_law_251 : decode cL_law 251 = .ok (.iconst 0, 1) := by decide +kernel
theorem dL_law_252 : decode cL_law 252 = .ok (.invokevirtual 31, 3) := by decide +kernel
theorem dL_law_255 : decode cL_law 255 = .ok (.aload_n 2, 1) := by decide +kernel
theorem dL_law_256 : decode cL_law 256 = .ok (.aload_n 0, 1) := by decide +kernel
theorem dL_law_257 : decode cL_law 257 = .ok (.iload_n 3, 1) := by decide +kernel
theorem dL_law_258 : decode cL_law 258 = .ok (.iconst 1, 1) := by decide +kernel
theorem dL_law_259 : decode cL_law 259 = .ok (.iadd, 1) := by decide +kernel
theorem dL_law_260 : decode cL_law 260 = .ok (.iaload, 1) := by decide +kernel
theorem dL_law_261 : decode cL_law 261 = .ok (.aload_n 0, 1) := by decide +kernel
theorem dL_law_262 : decode cL_law 262 = .ok (.iload_n 3, 1) := by decide +kernel
theorem dL_law_263 : decode cL_law 263 = .ok (.iconst 2, 1) := by decide +kernel
theorem dL_law_264 : decode cL_law 264 = .ok (.iadd, 1) := by decide +kernel
theorem dL_law_265 : decode cL_law 265 = .ok (.iaload, 1) := by decide +kernel
theorem dL_law_266 : decode cL_law 266 = .ok (.aload_n 0, 1) := by decide +kernel
theorem dL_law_267 : decode cL_law 267 = .ok (.iload_n 3, 1) := by decide +kernel
theorem dL_law_268 : decode cL_law 268 = .ok (.iconst 3, 1) := by decide +kernel
theorem dL_law_269 : decode cL_law 269 = .ok (.iadd, 1) := by decide +kernel
theorem dL_law_270 : decode cL_law 270 = .ok (.iaload, 1) := by decide +kernel
theorem dL_law_271 : decode cL_law 271 = .ok (.ifCond .eq 7, 3) := by decide +kernel
theorem dL_law_274 : decode cL_law 274 = .ok (.iconst 1, 1) := by decide +kernel
theorem dL_law_275 : decode cL_law 275 = .ok (.goto 4, 3) := by decide +kernel
theorem dL_law_278 : decode cL_law 278 = .ok (.iconst 0, 1) := by decide +kernel
theorem dL_law_279 : decode cL_law 279 = .ok (.invokevirtual 35, 3) := by decide +kernel
theorem dL_law_282 : decode cL_law 282 = .ok (.if_icmp .eq 382, 3) := by decide +kernel
theorem dL_law_285 : decode cL_law 285 = .ok (.iconst 0, 1) := by decide +kernel
theorem dL_law_286 : decode cL_law 286 = .ok (.ireturn, 1) := by decide +kernel
theorem dL_law_287 : decode cL_law 287 = .ok (.aload_n 1, 1) := by decide +kernel
theorem dL_law_288 : decode cL_law 288 = .ok (.aload_n 0, 1) := by decide +kernel
theorem dL_law_289 : decode cL_law 289 = .ok (.iload_n 3, 1) := by decide +kernel
theorem dL_law_290 : decode cL_law 290 = .ok (.iconst 1, 1) := by decide +kernel
theorem dL_law_291 : decode cL_law 291 = .ok (.iadd, 1) := by decide +kernel
theorem dL_law_292 : decode cL_law 292 = .ok (.iaload, 1) := by decide +kernel
theorem dL_law_293 : decode cL_law 293 = .ok (.invokevirtual 36, 3) := by decide +kernel
theorem dL_law_296 : decode cL_law 296 = .ok (.aload_n 2, 1) := by decide +kernel
theorem dL_law_297 : decode cL_law 297 = .ok (.aload_n 0, 1) := by decide +kernel
theorem dL_law_298 : decode cL_law 298 = .ok (.iload_n 3, 1) := by decide +kernel
theorem dL_law_299 : decode cL_law 299 = .ok (.iconst 1, 1) := by decide +kernel
theorem dL_law_300 : decode cL_law 300 = .ok (.iadd, 1) := by decide +kernel
theorem dL_law_301 : decode cL_law 301 = .ok (.iaload, 1) := by decide +kernel
theorem dL_law_302 : decode cL_law 302 = .ok (.invokevirtual 39, 3) := by decide +kernel
theorem dL_law_305 : decode cL_law 305 = .ok (.if_icmp .eq 359, 3) := by decide +kernel
theorem dL_law_308 : decode cL_law 308 = .ok (.iconst 0, 1) := by decide +kernel
theorem dL_law_309 : decode cL_law 309 = .ok (.ireturn, 1) := by decide +kernel
theorem dL_law_310 : decode cL_law 310 = .ok (.aload_n 1, 1) := by decide +kernel
theorem dL_law_311 : decode cL_law 311 = .ok (.aload_n 0, 1) := by decide +kernel
theorem dL_law_312 : decode cL_law 312 = .ok (.iload_n 3, 1) := by decide +kernel
theorem dL_law_313 : decode cL_law 313 = .ok (.iconst 1, 1) := by decide +kernel
theorem dL_law_314 : decode cL_law 314 = .ok (.iadd, 1) := by decide +kernel
theorem dL_law_315 : decode cL_law 315 = .ok (.iaload, 1) := by decide +kernel
theorem dL_law_316 : decode cL_law 316 = .ok (.invokevirtual 40, 3) := by decide +kernel
theorem dL_law_319 : decode cL_law 319 = .ok (.aload_n 2, 1) := by decide +kernel
theorem dL_law_320 : decode cL_law 320 = .ok (.aload_n 0, 1) := by decide +kernel
theorem dL_law_321 : decode cL_law 321 = .ok (.iload_n 3, 1) := by decide +kernel
theorem dL_law_322 : decode cL_law 322 = .ok (.iconst 1, 1) := by decide +kernel
theorem dL_law_323 : decode cL_law 323 = .ok (.iadd, 1) := by decide +kernel
theorem dL_law_324 : decode cL_law 324 = .ok (.iaload, 1) := by decide +kernel
theorem dL_law_325 : decode cL_law 325 = .ok (.invokevirtual 43, 3) := by decide +kernel
theorem dL_law_328 : decode cL_law 328 = .ok (.if_icmp .eq 336, 3) := by decide +kernel
theorem dL_law_331 : decode cL_law 331 = .ok (.iconst 0, 1) := by decide +kernel
theorem dL_law_332 : decode cL_law 332 = .ok (.ireturn, 1) := by decide +kernel
theorem dL_law_333 : decode cL_law 333 = .ok (.aload_n 1, 1) := by decide +kernel
theorem dL_law_334 : decode cL_law 334 = .ok (.aload_n 0, 1) := by decide +kernel
theorem dL_law_335 : decode cL_law 335 = .ok (.iload_n 3, 1) := by decide +kernel
theorem dL_law_336 : decode cL_law 336 = .ok (.iconst 1, 1) := by decide +kernel
theorem dL_law_337 : decode cL_law 337 = .ok (.iadd, 1) := by decide +kernel
theorem dL_law_338 : decode cL_law 338 = .ok (.iaload, 1) := by decide +kernel
theorem dL_law_339 : decode cL_law 339 = .ok (.invokevirtual 44, 3) := by decide +kernel
theorem dL_law_342 : decode cL_law 342 = .ok (.aload_n 2, 1) := by decide +kernel
theorem dL_law_343 : decode cL_law 343 = .ok (.aload_n 0, 1) := by decide +kernel
theorem dL_law_344 : decode cL_law 344 = .ok (.iload_n 3, 1) := by decide +kernel
theorem dL_law_345 : decode cL_law 345 = .ok (.iconst 1, 1) := by decide +kernel
theorem dL_law_346 : decode cL_law 346 = .ok (.iadd, 1) := by decide +kernel
theorem dL_law_347 : decode cL_law 347 = .ok (.iaload, 1) := by decide +kernel
theorem dL_law_348 : decode cL_law 348 = .ok (.invokevirtual 47, 3) := by decide +kernel
theorem dL_law_351 : decode cL_law 351 = .ok (.if_icmp .eq 313, 3) := by decide +kernel
theorem dL_law_354 : decode cL_law 354 = .ok (.iconst 0, 1) := by decide +kernel
theorem dL_law_355 : decode cL_law 355 = .ok (.ireturn, 1) := by decide +kernel
theorem dL_law_356 : decode cL_law 356 = .ok (.aload_n 1, 1) := by decide +kernel
theorem dL_law_357 : decode cL_law 357 = .ok (.aload_n 0, 1) := by decide +kernel
theorem dL_law_358 : decode cL_law 358 = .ok (.iload_n 3, 1) := by decide +kernel
theorem dL_law_359 : decode cL_law 359 = .ok (.iconst 1, 1) := by decide +kernel
theorem dL_law_360 : decode cL_law 360 = .ok (.iadd, 1) := by decide +kernel
theorem dL_law_361 : decode cL_law 361 = .ok (.iaload, 1) := by decide +kernel
theorem dL_law_362 : decode cL_law 362 = .ok (.aload_n 0, 1) := by decide +kernel
theorem dL_law_363 : decode cL_law 363 = .ok (.iload_n 3, 1) := by decide +kernel
theorem dL_law_364 : decode cL_law 364 = .ok (.iconst 2, 1) := by decide +kernel
theorem dL_law_365 : decode cL_law 365 = .ok (.iadd, 1) := by decide +kernel
theorem dL_law_366 : decode cL_law 366 = .ok (.iaload, 1) := by decide +kernel
theorem dL_law_367 : decode cL_law 367 = .ok (.invokevirtual 48, 3) := by decide +kernel
theorem dL_law_370 : decode cL_law 370 = .ok (.aload_n 2, 1) := by decide +kernel
theorem dL_law_371 : decode cL_law 371 = .ok (.aload_n 0, 1) := by decide +kernel
theorem dL_law_372 : decode cL_law 372 = .ok (.iload_n 3, 1) := by decide +kernel
theorem dL_law_373 : decode cL_law 373 = .ok (.iconst 1, 1) := by decide +kernel
theorem dL_law_374 : decode cL_law 374 = .ok (.iadd, 1) := by decide +kernel
theorem dL_law_375 : decode cL_law 375 = .ok (.iaload, 1) := by decide +kernel
theorem dL_law_376 : decode cL_law 376 = .ok (.aload_n 0, 1) := by decide +kernel
theorem dL_law_377 : decode cL_law 377 = .ok (.iload_n 3, 1) := by decide +kernel
theorem dL_law_378 : decode cL_law 378 = .ok (.iconst 2, 1) := by decide +kernel
theorem dL_law_379 : decode cL_law 379 = .ok (.iadd, 1) := by decide +kernel
theorem dL_law_380 : decode cL_law 380 = .ok (.iaload, 1) := by decide +kernel
theorem dL_law_381 : decode cL_law 381 = .ok (.invokevirtual 51, 3) := by decide +kernel
theorem dL_law_384 : decode cL_law 384 = .ok (.if_icmp .eq 280, 3) := by decide +kernel
theorem dL_law_387 : decode cL_law 387 = .ok (.iconst 0, 1) := by decide +kernel
theorem dL_law_388 : decode cL_law 388 = .ok (.ireturn, 1) := by decide +kernel
theorem dL_law_389 : decode cL_law 389 = .ok (.aload_n 1, 1) := by decide +kernel
theorem dL_law_390 : decode cL_law 390 = .ok (.aload_n 0, 1) := by decide +kernel
theorem dL_law_391 : decode cL_law 391 = .ok (.iload_n 3, 1) := by decide +kernel
theorem dL_law_392 : decode cL_law 392 = .ok (.iconst 1, 1) := by decide +kernel
theorem dL_law_393 : decode cL_law 393 = .ok (.iadd, 1) := by decide +kernel
theorem dL_law_394 : decode cL_law 394 = .ok (.iaload, 1) := by decide +kernel
theorem dL_law_395 : decode cL_law 395 = .ok (.invokevirtual 52, 3) := by decide +kernel
theorem dL_law_398 : decode cL_law 398 = .ok (.aload_n 2, 1) := by decide +kernel
theorem dL_law_399 : decode cL_law 399 = .ok (.aload_n 0, 1) := by decide +kernel
theorem dL_law_400 : decode cL_law 400 = .ok (.iload_n 3, 1) := by decide +kernel
theorem dL_law_401 : decode cL_law 401 = .ok (.iconst 1, 1) := by decide +kernel
theorem dL_law_402 : decode cL_law 402 = .ok (.iadd, 1) := by decide +kernel
theorem dL_law_403 : decode cL_law 403 = .ok (.iaload, 1) := by decide +kernel
theorem dL_law_404 : decode cL_law 404 = .ok (.invokevirtual 55, 3) := by decide +kernel
theorem dL_law_407 : decode cL_law 407 = .ok (.if_icmp .eq 257, 3) := by decide +kernel
theorem dL_law_410 : decode cL_law 410 = .ok (.iconst 0, 1) := by decide +kernel
theorem dL_law_411 : decode cL_law 411 = .ok (.ireturn, 1) := by decide +kernel
theorem dL_law_412 : decode cL_law 412 = .ok (.aload_n 1, 1) := by decide +kernel
theorem dL_law_413 : decode cL_law 413 = .ok (.aload_n 0, 1) := by decide +kernel
theorem dL_law_414 : decode cL_law 414 = .ok (.iload_n 3, 1) := by decide +kernel
theorem dL_law_415 : decode cL_law 415 = .ok (.iconst 1, 1) := by decide +kernel
theorem dL_law_416 : decode cL_law 416 = .ok (.iadd, 1) := by decide +kernel
theorem dL_law_417 : decode cL_law 417 = .ok (.iaload, 1) := by decide +kernel
theorem dL_law_418 : decode cL_law 418 = .ok (.aload_n 0, 1) := by decide +kernel
theorem dL_law_419 : decode cL_law 419 = .ok (.iload_n 3, 1) := by decide +kernel
theorem dL_law_420 : decode cL_law 420 = .ok (.iconst 2, 1) := by decide +kernel
theorem dL_law_421 : decode cL_law 421 = .ok (.iadd, 1) := by decide +kernel
theorem dL_law_422 : decode cL_law 422 = .ok (.iaload, 1) := by decide +kernel
theorem dL_law_423 : decode cL_law 423 = .ok (.invokevirtual 56, 3) := by decide +kernel
theorem dL_law_426 : decode cL_law 426 = .ok (.aload_n 2, 1) := by decide +kernel
theorem dL_law_427 : decode cL_law 427 = .ok (.aload_n 0, 1) := by decide +kernel
theorem dL_law_428 : decode cL_law 428 = .ok (.iload_n 3, 1) := by decide +kernel
theorem dL_law_429 : decode cL_law 429 = .ok (.iconst 1, 1) := by decide +kernel
theorem dL_law_430 : decode cL_law 430 = .ok (.iadd, 1) := by decide +kernel
theorem dL_law_431 : decode cL_law 431 = .ok (.iaload, 1) := by decide +kernel
theorem dL_law_432 : decode cL_law 432 = .ok (.aload_n 0, 1) := by decide +kernel
theorem dL_law_433 : decode cL_law 433 = .ok (.iload_n 3, 1) := by decide +kernel
theorem dL_law_434 : decode cL_law 434 = .ok (.iconst 2, 1) := by decide +kernel
theorem dL_law_435 : decode cL_law 435 = .ok (.iadd, 1) := by decide +kernel
theorem dL_law_436 : decode cL_law 436 = .ok (.iaload, 1) := by decide +kernel
theorem dL_law_437 : decode cL_law 437 = .ok (.invokevirtual 60, 3) := by decide +kernel
theorem dL_law_440 : decode cL_law 440 = .ok (.lcmp, 1) := by decide +kernel
theorem dL_law_441 : decode cL_law 441 = .ok (.ifCond .eq 223, 3) := by decide +kernel
theorem dL_law_444 : decode cL_law 444 = .ok (.iconst 0, 1) := by decide +kernel
theorem dL_law_445 : decode cL_law 445 = .ok (.ireturn, 1) := by decide +kernel
theorem dL_law_446 : decode cL_law 446 = .ok (.aload_n 1, 1) := by decide +kernel
theorem dL_law_447 : decode cL_law 447 = .ok (.aload_n 0, 1) := by decide +kernel
theorem dL_law_448 : decode cL_law 448 = .ok (.iload_n 3, 1) := by decide +kernel
theorem dL_law_449 : decode cL_law 449 = .ok (.iconst 1, 1) := by decide +kernel
theorem dL_law_450 : decode cL_law 450 = .ok (.iadd, 1) := by decide +kernel
theorem dL_law_451 : decode cL_law 451 = .ok (.iaload, 1) := by decide +kernel
theorem dL_law_452 : decode cL_law 452 = .ok (.aload_n 0, 1) := by decide +kernel
theorem dL_law_453 : decode cL_law 453 = .ok (.iload_n 3, 1) := by decide +kernel
theorem dL_law_454 : decode cL_law 454 = .ok (.iconst 2, 1) := by decide +kernel
theorem dL_law_455 : decode cL_law 455 = .ok (.iadd, 1) := by decide +kernel
theorem dL_law_456 : decode cL_law 456 = .ok (.iaload, 1) := by decide +kernel
theorem dL_law_457 : decode cL_law 457 = .ok (.aload_n 0, 1) := by decide +kernel
theorem dL_law_458 : decode cL_law 458 = .ok (.iload_n 3, 1) := by decide +kernel
theorem dL_law_459 : decode cL_law 459 = .ok (.iconst 3, 1) := by decide +kernel
theorem dL_law_460 : decode cL_law 460 = .ok (.iadd, 1) := by decide +kernel
theorem dL_law_461 : decode cL_law 461 = .ok (.iaload, 1) := by decide +kernel
theorem dL_law_462 : decode cL_law 462 = .ok (.invokevirtual 61, 3) := by decide +kernel
theorem dL_law_465 : decode cL_law 465 = .ok (.aload_n 2, 1) := by decide +kernel
theorem dL_law_466 : decode cL_law 466 = .ok (.aload_n 0, 1) := by decide +kernel
theorem dL_law_467 : decode cL_law 467 = .ok (.iload_n 3, 1) := by decide +kernel
theorem dL_law_468 : decode cL_law 468 = .ok (.iconst 1, 1) := by decide +kernel
theorem dL_law_469 : decode cL_law 469 = .ok (.iadd, 1) := by decide +kernel
theorem dL_law_470 : decode cL_law 470 = .ok (.iaload, 1) := by decide +kernel
theorem dL_law_471 : decode cL_law 471 = .ok (.aload_n 0, 1) := by decide +kernel
theorem dL_law_472 : decode cL_law 472 = .ok (.iload_n 3, 1) := by decide +kernel
theorem dL_law_473 : decode cL_law 473 = .ok (.iconst 2, 1) := by decide +kernel
theorem dL_law_474 : decode cL_law 474 = .ok (.iadd, 1) := by decide +kernel
theorem dL_law_475 : decode cL_law 475 = .ok (.iaload, 1) := by decide +kernel
theorem dL_law_476 : decode cL_law 476 = .ok (.aload_n 0, 1) := by decide +kernel
theorem dL_law_477 : decode cL_law 477 = .ok (.iload_n 3, 1) := by decide +kernel
theorem dL_law_478 : decode cL_law 478 = .ok (.iconst 3, 1) := by decide +kernel
theorem dL_law_479 : decode cL_law 479 = .ok (.iadd, 1) := by decide +kernel
theorem dL_law_480 : decode cL_law 480 = .ok (.iaload, 1) := by decide +kernel
theorem dL_law_481 : decode cL_law 481 = .ok (.invokevirtual 65, 3) := by decide +kernel
theorem dL_law_484 : decode cL_law 484 = .ok (.if_icmp .eq 180, 3) := by decide +kernel
theorem dL_law_487 : decode cL_law 487 = .ok (.iconst 0, 1) := by decide +kernel
theorem dL_law_488 : decode cL_law 488 = .ok (.ireturn, 1) := by decide +kernel
theorem dL_law_489 : decode cL_law 489 = .ok (.aload_n 1, 1) := by decide +kernel
theorem dL_law_490 : decode cL_law 490 = .ok (.aload_n 0, 1) := by decide +kernel
theorem dL_law_491 : decode cL_law 491 = .ok (.iload_n 3, 1) := by decide +kernel
theorem dL_law_492 : decode cL_law 492 = .ok (.iconst 1, 1) := by decide +kernel
theorem dL_law_493 : decode cL_law 493 = .ok (.iadd, 1) := by decide +kernel
theorem dL_law_494 : decode cL_law 494 = .ok (.iaload, 1) := by decide +kernel
theorem dL_law_495 : decode cL_law 495 = .ok (.aload_n 0, 1) := by decide +kernel
theorem dL_law_496 : decode cL_law 496 = .ok (.iload_n 3, 1) := by decide +kernel
theorem dL_law_497 : decode cL_law 497 = .ok (.iconst 2, 1) := by decide +kernel
theorem dL_law_498 : decode cL_law 498 = .ok (.iadd, 1) := by decide +kernel
theorem dL_law_499 : decode cL_law 499 = .ok (.iaload, 1) := by decide +kernel
theorem dL_law_500 : decode cL_law 500 = .ok (.aload_n 0, 1) := by decide +kernel
theorem dL_law_501 : decode cL_law 501 = .ok (.iload_n 3, 1) := by decide +kernel
theorem dL_law_502 : decode cL_law 502 = .ok (.iconst 3, 1) := by decide +kernel
theorem dL_law_503 : decode cL_law 503 = .ok (.iadd, 1) := by decide +kernel
theorem dL_law_504 : decode cL_law 504 = .ok (.iaload, 1) := by decide +kernel
theorem dL_law_505 : decode cL_law 505 = .ok (.aload_n 0, 1) := by decide +kernel
theorem dL_law_506 : decode cL_law 506 = .ok (.iload_n 3, 1) := by decide +kernel
theorem dL_law_507 : decode cL_law 507 = .ok (.iconst 4, 1) := by decide +kernel
theorem dL_law_508 : decode cL_law 508 = .ok (.iadd, 1) := by decide +kernel
theorem dL_law_509 : decode cL_law 509 = .ok (.iaload, 1) := by decide +kernel
theorem dL_law_510 : decode cL_law 510 = .ok (.invokevirtual 66, 3) := by decide +kernel
theorem dL_law_513 : decode cL_law 513 = .ok (.aload_n 2, 1) := by decide +kernel
theorem dL_law_514 : decode cL_law 514 = .ok (.aload_n 0, 1) := by decide +kernel
theorem dL_law_515 : decode cL_law 515 = .ok (.iload_n 3, 1) := by decide +kernel
theorem dL_law_516 : decode cL_law 516 = .ok (.iconst 1, 1) := by decide +kernel
theorem dL_law_517 : decode cL_law 517 = .ok (.iadd, 1) := by decide +kernel
theorem dL_law_518 : decode cL_law 518 = .ok (.iaload, 1) := by decide +kernel
theorem dL_law_519 : decode cL_law 519 = .ok (.aload_n 0, 1) := by decide +kernel
theorem dL_law_520 : decode cL_law 520 = .ok (.iload_n 3, 1) := by decide +kernel
theorem dL_law_521 : decode cL_law 521 = .ok (.iconst 2, 1) := by decide +kernel
theorem dL_law_522 : decode cL_law 522 = .ok (.iadd, 1) := by decide +kernel
theorem dL_law_523 : decode cL_law 523 = .ok (.iaload, 1) := by decide +kernel
theorem dL_law_524 : decode cL_law 524 = .ok (.aload_n 0, 1) := by decide +kernel
theorem dL_law_525 : decode cL_law 525 = .ok (.iload_n 3, 1) := by decide +kernel
theorem dL_law_526 : decode cL_law 526 = .ok (.iconst 3, 1) := by decide +kernel
theorem dL_law_527 : decode cL_law 527 = .ok (.iadd, 1) := by decide +kernel
theorem dL_law_528 : decode cL_law 528 = .ok (.iaload, 1) := by decide +kernel
theorem dL_law_529 : decode cL_law 529 = .ok (.aload_n 0, 1) := by decide +kernel
theorem dL_law_530 : decode cL_law 530 = .ok (.iload_n 3, 1) := by decide +kernel
theorem dL_law_531 : decode cL_law 531 = .ok (.iconst 4, 1) := by decide +kernel
theorem dL_law_532 : decode cL_law 532 = .ok (.iadd, 1) := by decide +kernel
theorem dL_law_533 : decode cL_law 533 = .ok (.iaload, 1) := by decide +kernel
theorem dL_law_534 : decode cL_law 534 = .ok (.invokevirtual 70, 3) := by decide +kernel
theorem dL_law_537 : decode cL_law 537 = .ok (.if_icmp .eq 127, 3) := by decide +kernel
theorem dL_law_540 : decode cL_law 540 = .ok (.iconst 0, 1) := by decide +kernel
theorem dL_law_541 : decode cL_law 541 = .ok (.ireturn, 1) := by decide +kernel
theorem dL_law_542 : decode cL_law 542 = .ok (.aload_n 1, 1) := by decide +kernel
theorem dL_law_543 : decode cL_law 543 = .ok (.aload_n 0, 1) := by decide +kernel
theorem dL_law_544 : decode cL_law 544 = .ok (.iload_n 3, 1) := by decide +kernel
theorem dL_law_545 : decode cL_law 545 = .ok (.iconst 1, 1) := by decide +kernel
theorem dL_law_546 : decode cL_law 546 = .ok (.iadd, 1) := by decide +kernel
theorem dL_law_547 : decode cL_law 547 = .ok (.iaload, 1) := by decide +kernel
theorem dL_law_548 : decode cL_law 548 = .ok (.aload_n 0, 1) := by decide +kernel
theorem dL_law_549 : decode cL_law 549 = .ok (.iload_n 3, 1) := by decide +kernel
theorem dL_law_550 : decode cL_law 550 = .ok (.iconst 2, 1) := by decide +kernel
theorem dL_law_551 : decode cL_law 551 = .ok (.iadd, 1) := by decide +kernel
theorem dL_law_552 : decode cL_law 552 = .ok (.iaload, 1) := by decide +kernel
theorem dL_law_553 : decode cL_law 553 = .ok (.invokevirtual 71, 3) := by decide +kernel
theorem dL_law_556 : decode cL_law 556 = .ok (.aload_n 2, 1) := by decide +kernel
theorem dL_law_557 : decode cL_law 557 = .ok (.aload_n 0, 1) := by decide +kernel
theorem dL_law_558 : decode cL_law 558 = .ok (.iload_n 3, 1) := by decide +kernel
theorem dL_law_559 : decode cL_law 559 = .ok (.iconst 1, 1) := by decide +kernel
theorem dL_law_560 : decode cL_law 560 = .ok (.iadd, 1) := by decide +kernel
theorem dL_law_561 : decode cL_law 561 = .ok (.iaload, 1) := by decide +kernel
theorem dL_law_562 : decode cL_law 562 = .ok (.aload_n 0, 1) := by decide +kernel
theorem dL_law_563 : decode cL_law 563 = .ok (.iload_n 3, 1) := by decide +kernel
theorem dL_law_564 : decode cL_law 564 = .ok (.iconst 2, 1) := by decide +kernel
theorem dL_law_565 : decode cL_law 565 = .ok (.iadd, 1) := by decide +kernel
theorem dL_law_566 : decode cL_law 566 = .ok (.iaload, 1) := by decide +kernel
theorem dL_law_567 : decode cL_law 567 = .ok (.invokevirtual 74, 3) := by decide +kernel
theorem dL_law_570 : decode cL_law 570 = .ok (.if_icmp .eq 94, 3) := by decide +kernel
theorem dL_law_573 : decode cL_law 573 = .ok (.iconst 0, 1) := by decide +kernel
theorem dL_law_574 : decode cL_law 574 = .ok (.ireturn, 1) := by decide +kernel
theorem dL_law_575 : decode cL_law 575 = .ok (.aload_n 1, 1) := by decide +kernel
theorem dL_law_576 : decode cL_law 576 = .ok (.aload_n 0, 1) := by decide +kernel
theorem dL_law_577 : decode cL_law 577 = .ok (.iload_n 3, 1) := by decide +kernel
theorem dL_law_578 : decode cL_law 578 = .ok (.iconst 1, 1) := by decide +kernel
theorem dL_law_579 : decode cL_law 579 = .ok (.iadd, 1) := by decide +kernel
theorem dL_law_580 : decode cL_law 580 = .ok (.iaload, 1) := by decide +kernel
theorem dL_law_581 : decode cL_law 581 = .ok (.aload_n 0, 1) := by decide +kernel
theorem dL_law_582 : decode cL_law 582 = .ok (.iload_n 3, 1) := by decide +kernel
theorem dL_law_583 : decode cL_law 583 = .ok (.iconst 2, 1) := by decide +kernel
theorem dL_law_584 : decode cL_law 584 = .ok (.iadd, 1) := by decide +kernel
theorem dL_law_585 : decode cL_law 585 = .ok (.iaload, 1) := by decide +kernel
theorem dL_law_586 : decode cL_law 586 = .ok (.aload_n 0, 1) := by decide +kernel
theorem dL_law_587 : decode cL_law 587 = .ok (.iload_n 3, 1) := by decide +kernel
theorem dL_law_588 : decode cL_law 588 = .ok (.iconst 3, 1) := by decide +kernel
theorem dL_law_589 : decode cL_law 589 = .ok (.iadd, 1) := by decide +kernel
theorem dL_law_590 : decode cL_law 590 = .ok (.iaload, 1) := by decide +kernel
theorem dL_law_591 : decode cL_law 591 = .ok (.invokevirtual 75, 3) := by decide +kernel
theorem dL_law_594 : decode cL_law 594 = .ok (.aload_n 2, 1) := by decide +kernel
theorem dL_law_595 : decode cL_law 595 = .ok (.aload_n 0, 1) := by decide +kernel
theorem dL_law_596 : decode cL_law 596 = .ok (.iload_n 3, 1) := by decide +kernel
theorem dL_law_597 : decode cL_law 597 = .ok (.iconst 1, 1) := by decide +kernel
theorem dL_law_598 : decode cL_law 598 = .ok (.iadd, 1) := by decide +kernel
theorem dL_law_599 : decode cL_law 599 = .ok (.iaload, 1) := by decide +kernel
theorem dL_law_600 : decode cL_law 600 = .ok (.aload_n 0, 1) := by decide +kernel
theorem dL_law_601 : decode cL_law 601 = .ok (.iload_n 3, 1) := by decide +kernel
theorem dL_law_602 : decode cL_law 602 = .ok (.iconst 2, 1) := by decide +kernel
theorem dL_law_603 : decode cL_law 603 = .ok (.iadd, 1) := by decide +kernel
theorem dL_law_604 : decode cL_law 604 = .ok (.iaload, 1) := by decide +kernel
theorem dL_law_605 : decode cL_law 605 = .ok (.aload_n 0, 1) := by decide +kernel
theorem dL_law_606 : decode cL_law 606 = .ok (.iload_n 3, 1) := by decide +kernel
theorem dL_law_607 : decode cL_law 607 = .ok (.iconst 3, 1) := by decide +kernel
theorem dL_law_608 : decode cL_law 608 = .ok (.iadd, 1) := by decide +kernel
theorem dL_law_609 : decode cL_law 609 = .ok (.iaload, 1) := by decide +kernel
theorem dL_law_610 : decode cL_law 610 = .ok (.invokevirtual 78, 3) := by decide +kernel
theorem dL_law_613 : decode cL_law 613 = .ok (.if_icmp .eq 51, 3) := by decide +kernel
theorem dL_law_616 : decode cL_law 616 = .ok (.iconst 0, 1) := by decide +kernel
theorem dL_law_617 : decode cL_law 617 = .ok (.ireturn, 1) := by decide +kernel
theorem dL_law_618 : decode cL_law 618 = .ok (.aload_n 1, 1) := by decide +kernel
theorem dL_law_619 : decode cL_law 619 = .ok (.aload_n 0, 1) := by decide +kernel
theorem dL_law_620 : decode cL_law 620 = .ok (.iload_n 3, 1) := by decide +kernel
theorem dL_law_621 : decode cL_law 621 = .ok (.iconst 1, 1) := by decide +kernel
theorem dL_law_622 : decode cL_law 622 = .ok (.iadd, 1) := by decide +kernel
theorem dL_law_623 : decode cL_law 623 = .ok (.iaload, 1) := by decide +kernel
theorem dL_law_624 : decode cL_law 624 = .ok (.invokevirtual 79, 3) := by decide +kernel
theorem dL_law_627 : decode cL_law 627 = .ok (.aload_n 2, 1) := by decide +kernel
theorem dL_law_628 : decode cL_law 628 = .ok (.aload_n 0, 1) := by decide +kernel
theorem dL_law_629 : decode cL_law 629 = .ok (.iload_n 3, 1) := by decide +kernel
theorem dL_law_630 : decode cL_law 630 = .ok (.iconst 1, 1) := by decide +kernel
theorem dL_law_631 : decode cL_law 631 = .ok (.iadd, 1) := by decide +kernel
theorem dL_law_632 : decode cL_law 632 = .ok (.iaload, 1) := by decide +kernel
theorem dL_law_633 : decode cL_law 633 = .ok (.invokevirtual 82, 3) := by decide +kernel
theorem dL_law_636 : decode cL_law 636 = .ok (.if_icmp .eq 28, 3) := by decide +kernel
theorem dL_law_639 : decode cL_law 639 = .ok (.iconst 0, 1) := by decide +kernel
theorem dL_law_640 : decode cL_law 640 = .ok (.ireturn, 1) := by decide +kernel
theorem dL_law_641 : decode cL_law 641 = .ok (.aload_n 1, 1) := by decide +kernel
theorem dL_law_642 : decode cL_law 642 = .ok (.aload_n 0, 1) := by decide +kernel
theorem dL_law_643 : decode cL_law 643 = .ok (.iload_n 3, 1) := by decide +kernel
theorem dL_law_644 : decode cL_law 644 = .ok (.iconst 1, 1) := by decide +kernel
theorem dL_law_645 : decode cL_law 645 = .ok (.iadd, 1) := by decide +kernel
theorem dL_law_646 : decode cL_law 646 = .ok (.iaload, 1) := by decide +kernel
theorem dL_law_647 : decode cL_law 647 = .ok (.invokevirtual 83, 3) := by decide +kernel
theorem dL_law_650 : decode cL_law 650 = .ok (.aload_n 2, 1) := by decide +kernel
theorem dL_law_651 : decode cL_law 651 = .ok (.aload_n 0, 1) := by decide +kernel
theorem dL_law_652 : decode cL_law 652 = .ok (.iload_n 3, 1) := by decide +kernel
theorem dL_law_653 : decode cL_law 653 = .ok (.iconst 1, 1) := by decide +kernel
theorem dL_law_654 : decode cL_law 654 = .ok (.iadd, 1) := by decide +kernel
theorem dL_law_655 : decode cL_law 655 = .ok (.iaload, 1) := by decide +kernel
theorem dL_law_656 : decode cL_law 656 = .ok (.invokevirtual 86, 3) := by decide +kernel
theorem dL_law_659 : decode cL_law 659 = .ok (.if_icmp .eq 5, 3) := by decide +kernel
theorem dL_law_662 : decode cL_law 662 = .ok (.iconst 0, 1) := by decide +kernel
theorem dL_law_663 : decode cL_law 663 = .ok (.ireturn, 1) := by decide +kernel
theorem dL_law_664 : decode cL_law 664 = .ok (.iinc 3 5, 3) := by decide +kernel
theorem dL_law_667 : decode cL_law 667 = .ok (.goto (-649), 3) := by decide +kernel
theorem dL_law_670 : decode cL_law 670 = .ok (.iconst 1, 1) := by decide +kernel
theorem dL_law_671 : decode cL_law 671 = .ok (.ireturn, 1) := by decide +kernel
end
section
noncomputable def fX2_clear_L7 (n : Nat) (l2 : Int32) (fxd : Nat → Int32) : Option (Int32 × (Nat → Int32)) := match n with
  | 0 => none
  | n + 1 => if (8 : Int32) ≤ l2 then some (l2, fxd) else gin l2 8 (fX2_clear_L7 n (l2 + (1 : Int32)) (upd fxd l2.toNatClampNeg (0 : Int32)))
theorem fX2_clear_L7_0 (l2 : Int32) (fxd : Nat → Int32) : fX2_clear_L7 0 l2 fxd = none := rfl
theorem fX2_clear_L7_s (n : Nat) (l2 : Int32) (fxd : Nat → Int32) : fX2_clear_L7 (n + 1) l2 fxd = if (8 : Int32) ≤ l2 then some (l2, fxd) else gin l2 8 (fX2_clear_L7 n (l2 + (1 : Int32)) (upd fxd l2.toNatClampNeg (0 : Int32))) := rfl
noncomputable def fX2_clear (vxs : Int32) (fxd : Nat → Int32) (p0 : Int32) : Option (Int32 × (Nat → Int32)) := bd (fX2_clear_L7 FU (0 : Int32) fxd) fun q3 => some (p0, q3.2)
set_option maxHeartbeats 4000000 in
set_option maxRecDepth 100000 in
theorem c_X2_clear (l : Launch) (dC : Nat → ClassId) (dI : Nat → Nat → Nat) (cy : ClassId) (ax axd : Nat) (sz : Nat) (vxs : Int32) (fxd : Nat → Int32) (p0 : Int32) (res : Int32 × (Nat → Int32)) (h : fX2_clear vxs fxd p0 = some res) : Met l yX2_clear wsX2_clear ({ frames := 0, cells := 0, slots := 0, locals := 0 }) (va_Pc [.ref ax, .int p0] (PW (dC, dI) cy sz [(ax, .inr (2, [.ref axd, .int vxs])), (axd, .inl (cy, 8, .inl fxd))])) (va_Qv (fun (_ : Unit) => True) (QW (dC, dI) cy (va_A [(ax, .inr (2, [.ref axd, .int vxs])), (axd, .inl (cy, 8, .inl fxd))] sz) [(ax, .inr (2, [.ref axd, .int res.1])), (axd, .inl (cy, 8, .inl res.2))]) (va_A [(ax, .inr (2, [.ref axd, .int vxs])), (axd, .inl (cy, 8, .inl fxd))] sz)) 0 0 (va_A [(ax, .inr (2, [.ref axd, .int vxs])), (axd, .inl (cy, 8, .inl fxd))] sz) := by
  refine Met.ofW (cc := cX2_clear) (maxL := 3) (ret := none) (by decide) rfl ?_
  intro p e s m args below meth c s₁ B hml hv
  obtain ⟨rfl, hsz, hP, hK, hD0, hN⟩ := hv
  have hx := B.exec
  have hb := B.bytes
  have hr := B.returns
  have hts := atoms_spec (ws := wsX2_clear) B.pre
  have hown : s.vm.findClass RX2 = some m.cls := findClass_of_methodNamed B.named
  have hlocks := B.notSynchronized
  subst hsz
  have hD := hD0.self (sz := s.heap.size)
  clear hD0
  generalize hAe : va_A [(ax, .inr (2, [.ref axd, .int vxs])), (axd, .inl (cy, 8, .inl fxd))] s.heap.size = A at hD ⊢
  have hA : ∀ q : Nat, s.heap.size ≤ q → A q := fun q h => by rw [← hAe]; exact Or.inr h
  have hS : va_S A s.heap s.heap [] := va_S.rf
  have hl := lv_entry ([.ref ax, .int p0]) (n := 3) (Nat.le_of_ble_eq_true rfl)
  rw [lg_entry_eq]
  generalize (lg_sl ([.ref ax, .int p0]) ++ List.replicate (3 - (lg_sl ([.ref ax, .int p0])).length) Slot.unset).toArray = ls at hl ⊢
  replace hl : lv_has ls 3 [(0, .ref ax), (1, .int p0)] := hl
  replace hP : va_P (dC, dI) vwCl [(ax, .inr (2, [.ref axd, .int vxs])), (axd, .inl (cy, 8, .inl fxd))] s.heap := hP
  obtain ⟨locs, hlocs⟩ : ∃ lc : List Loc, lc = [] := ⟨_, rfl⟩
  rw [← hlocs] at hS ⊢
  obtain ⟨H, hH⟩ : ∃ H : Heap, H = s.heap := ⟨_, rfl⟩
  have hP2 := hP; rw [← hH] at hP2
  have hS2 : va_S A s.heap H locs := by rw [hH]; exact hS
  suffices hgo : W p l e (headSpec wsX2_clear ({ frames := 0, cells := 0, slots := 0, locals := 0 })).room s m args below meth c H locs 0 0 (MQ below (va_Qv (fun (_ : Unit) => True) (QW (dC, dI) cy A [(ax, .inr (2, [.ref axd, .int res.1])), (axd, .inl (cy, 8, .inl res.2))]) A) args s 0 0 A) (F0 m 0 ls []) by rw [hH] at hgo; exact hgo
  clear hP hS
  rename' hP2 => hP, hS2 => hS
  have hin_X2 : ∀ w ∈ wsX20, w ∈ wsX2_clear := by decide +kernel
  have hf_9 := hts (.fieldLink RX2 9 "FewLooks$Row" "digits" "[I") (by decide +kernel)
  have hf_15 := hts (.fieldLink RX2 15 "FewLooks$Row" "size" "I") (by decide +kernel)
  unfold fX2_clear at h
  refine lv_aload_n hx hb dX2_clear_0 rfl (lv_at hl 0 rfl) ?_
  refine lv_iload_n hx hb dX2_clear_1 rfl (lv_at hl 1 rfl) ?_
  refine va_put (D := (dC, dI)) (ci := 2) (v := .int p0) (ty := .int) (C := RX2) (T := TX2) (N := 2) hx hb hts hin_X2 tyX2 tyX2_ok nmX2 hown hK hP hD hS 0 rfl rfl 1 (by decide) (hf_15) (fun _ h9 => h9) rfl (by decide +kernel) rfl rfl (Nat.le_of_ble_eq_true rfl) dX2_clear_2 (fun H locs hP hD hS => ?_)
  replace hP : va_P (dC, dI) vwCl [(ax, .inr (2, [.ref axd, .int p0])), (axd, .inl (cy, 8, .inl fxd))] H := hP
  replace hD : va_D A [(ax, .inr (2, [.ref axd, .int p0])), (axd, .inl (cy, 8, .inl fxd))] := hD
  refine lv_iconst (v := (0 : Int32)) hx hb dX2_clear_5 (by decide) ?_
  refine lv_istore_n (lv' := [(2, .int (0 : Int32)), (0, .ref ax), (1, .int p0)]) hx hb dX2_clear_6 rfl hl (by decide) rfl (fun ls hl => ?_)
  have L7_1 : ∀ (n : Nat) (l1 : Int32) (l2 : Int32) (vxs : Int32) (fxd : Nat → Int32) (rs : (Int32 × (Nat → Int32))) (H : Heap) (locs : List Loc) (ls : Array Slot), fX2_clear_L7 n l2 fxd = some rs → lv_has ls 3 [(0, .ref ax), (1, .int l1), (2, .int l2)] → va_P (dC, dI) vwCl [(ax, .inr (2, [.ref axd, .int vxs])), (axd, .inl (cy, 8, .inl fxd))] H → va_D A [(ax, .inr (2, [.ref axd, .int vxs])), (axd, .inl (cy, 8, .inl fxd))] → va_S A s.heap H locs → (∀ (H : Heap) (locs : List Loc) (ls : Array Slot), lv_has ls 3 [(0, .ref ax), (1, .int l1), (2, .int rs.1)] → va_P (dC, dI) vwCl [(ax, .inr (2, [.ref axd, .int vxs])), (axd, .inl (cy, 8, .inl rs.2))] H → va_D A [(ax, .inr (2, [.ref axd, .int vxs])), (axd, .inl (cy, 8, .inl rs.2))] → va_S A s.heap H locs → W p l e (headSpec wsX2_clear ({ frames := 0, cells := 0, slots := 0, locals := 0 })).room s m args below meth c H locs 0 0 (MQ below (va_Qv (fun (_ : Unit) => True) (QW (dC, dI) cy A [(ax, .inr (2, [.ref axd, .int res.1])), (axd, .inl (cy, 8, .inl res.2))]) A) args s 0 0 A) (F0 m 26 ls [])) → W p l e (headSpec wsX2_clear ({ frames := 0, cells := 0, slots := 0, locals := 0 })).room s m args below meth c H locs 0 0 (MQ below (va_Qv (fun (_ : Unit) => True) (QW (dC, dI) cy A [(ax, .inr (2, [.ref axd, .int res.1])), (axd, .inl (cy, 8, .inl res.2))]) A) args s 0 0 A) (F0 m 7 ls []) := by
    intro n
    induction n with
    | zero =>
      intro l1 l2 vxs fxd rs H locs ls h
      rw [fX2_clear_L7_0] at h
      cases h
    | succ n ih =>
      intro l1 l2 vxs fxd rs H locs ls h hl hP hD hS K
      rw [fX2_clear_L7_s] at h
      refine lv_iload_n hx hb dX2_clear_7 rfl (lv_at hl 2 rfl) ?_
      refine lv_bipush (v := (8 : Int32)) hx hb dX2_clear_8 (by decide) ?_
      refine lv_icmp_ge (tgt := 26) hx hb dX2_clear_10 (by decide) (fun c1 => ?_) (fun c1 => ?_)
      · rw [if_pos c1] at h
        obtain rfl := Option.some.inj h
        exact K H locs ls (lv_sub hl [0, 1, 2] rfl) hP hD hS
      · rw [if_neg c1] at h
        refine lv_aload_n hx hb dX2_clear_13 rfl (lv_at hl 0 rfl) ?_
        refine va_get (D := (dC, dI)) (ci := 2) (v := .ref axd) (C := RX2) (T := TX2) (N := 2) hx hb hts hin_X2 hown hK hP 0 rfl rfl 0 (by decide) (hf_9) (fun _ h9 => h9) rfl dX2_clear_14 ?_
        refine lv_iload_n hx hb dX2_clear_17 rfl (lv_at hl 2 rfl) ?_
        refine lv_iconst (v := (0 : Int32)) hx hb dX2_clear_18 (by decide) ?_
        obtain ⟨hi, h⟩ := gin_some h
        refine va_iast hx hb hK hP hD hS 1 0 rfl rfl hi dX2_clear_19 (fun H locs hP hD hS => ?_)
        replace hP : va_P (dC, dI) vwCl [(ax, .inr (2, [.ref axd, .int vxs])), (axd, .inl (cy, 8, .inl (upd fxd l2.toNatClampNeg (0 : Int32))))] H := hP
        replace hD : va_D A [(ax, .inr (2, [.ref axd, .int vxs])), (axd, .inl (cy, 8, .inl (upd fxd l2.toNatClampNeg (0 : Int32))))] := hD
        refine lv_iinc (v := l2 + (1 : Int32)) (lv' := [(2, .int (l2 + (1 : Int32))), (0, .ref ax), (1, .int l1)]) hx hb dX2_clear_20 hl (k := 2) rfl rfl (by decide) rfl (fun ls hl => ?_)
        refine lv_goto (tgt := 7) hx hb dX2_clear_23 (by decide) ?_
        exact ih l1 (l2 + (1 : Int32)) vxs (upd fxd l2.toNatClampNeg (0 : Int32)) rs H locs ls h (lv_sub hl [1, 2, 0] rfl) hP hD hS K
  obtain ⟨q3, hq3, h⟩ := bd_some h
  refine L7_1 FU p0 (0 : Int32) p0 fxd q3 H locs ls hq3 (lv_sub hl [1, 2, 0] rfl) hP hD hS (fun H locs ls hl hP hD hS => ?_)
  obtain rfl := Option.some.inj h
  exact W.vret hx hb hr (fun t ht hW => ⟨⟨(), rfl, trivial, QW_mk hP hK hD ht hW⟩, hS.F ht⟩) hS.2.2 dX2_clear_26

noncomputable def fX2_become_L10 (n : Nat) (l2 : Int32) (fxd : Nat → Int32) (fod : Nat → Int32) : Option (Int32 × (Nat → Int32)) := match n with
  | 0 => none
  | n + 1 => if (8 : Int32) ≤ l2 then some (l2, fxd) else gin l2 8 (gin l2 8 (fX2_become_L10 n (l2 + (1 : Int32)) (upd fxd l2.toNatClampNeg (fod l2.toNatClampNeg)) fod))
theorem fX2_become_L10_0 (l2 : Int32) (fxd : Nat → Int32) (fod : Nat → Int32) : fX2_become_L10 0 l2 fxd fod = none := rfl
theorem fX2_become_L10_s (n : Nat) (l2 : Int32) (fxd : Nat → Int32) (fod : Nat → Int32) : fX2_become_L10 (n + 1) l2 fxd fod = if (8 : Int32) ≤ l2 then some (l2, fxd) else gin l2 8 (gin l2 8 (fX2_become_L10 n (l2 + (1 : Int32)) (upd fxd l2.toNatClampNeg (fod l2.toNatClampNeg)) fod)) := rfl
noncomputable def fX2_become (vxs : Int32) (fxd : Nat → Int32) (vos : Int32) (fod : Nat → Int32)  : Option (Int32 × (Nat → Int32)) := bd (fX2_become_L10 FU (0 : Int32) fxd fod) fun q3 => some (vos, q3.2)
set_option maxHeartbeats 4000000 in
set_option maxRecDepth 100000 in
theorem c_X2_become (l : Launch) (dC : Nat → ClassId) (dI : Nat → Nat → Nat) (cy : ClassId) (ax axd ao aod : Nat) (sz : Nat) (vxs : Int32) (fxd : Nat → Int32) (vos : Int32) (fod : Nat → Int32)  (res : Int32 × (Nat → Int32)) (h : fX2_become vxs fxd vos fod = some res) : Met l yX2_become wsX2_become ({ frames := 0, cells := 0, slots := 0, locals := 0 }) (va_Pc [.ref ax, .ref ao] (PW (dC, dI) cy sz [(ax, .inr (2, [.ref axd, .int vxs])), (axd, .inl (cy, 8, .inl fxd)), (ao, .inr (2, [.ref aod, .int vos])), (aod, .inl (cy, 8, .inl fod))])) (va_Qv (fun (_ : Unit) => True) (QW (dC, dI) cy (va_A [(ax, .inr (2, [.ref axd, .int vxs])), (axd, .inl (cy, 8, .inl fxd)), (ao, .inr (2, [.ref aod, .int vos])), (aod, .inl (cy, 8, .inl fod))] sz) [(ax, .inr (2, [.ref axd, .int res.1])), (axd, .inl (cy, 8, .inl res.2)), (ao, .inr (2, [.ref aod, .int vos])), (aod, .inl (cy, 8, .inl fod))]) (va_A [(ax, .inr (2, [.ref axd, .int vxs])), (axd, .inl (cy, 8, .inl fxd)), (ao, .inr (2, [.ref aod, .int vos])), (aod, .inl (cy, 8, .inl fod))] sz)) 0 0 (va_A [(ax, .inr (2, [.ref axd, .int vxs])), (axd, .inl (cy, 8, .inl fxd)), (ao, .inr (2, [.ref aod, .int vos])), (aod, .inl (cy, 8, .inl fod))] sz) := by
  refine Met.ofW (cc := cX2_become) (maxL := 3) (ret := none) (by decide) rfl ?_
  intro p e s m args below meth c s₁ B hml hv
  obtain ⟨rfl, hsz, hP, hK, hD0, hN⟩ := hv
  have hx := B.exec
  have hb := B.bytes
  have hr := B.returns
  have hts := atoms_spec (ws := wsX2_become) B.pre
  have hown : s.vm.findClass RX2 = some m.cls := findClass_of_methodNamed B.named
  have hlocks := B.notSynchronized
  subst hsz
  have hD := hD0.self (sz := s.heap.size)
  clear hD0
  generalize hAe : va_A [(ax, .inr (2, [.ref axd, .int vxs])), (axd, .inl (cy, 8, .inl fxd)), (ao, .inr (2, [.ref aod, .int vos])), (aod, .inl (cy, 8, .inl fod))] s.heap.size = A at hD ⊢
  have hA : ∀ q : Nat, s.heap.size ≤ q → A q := fun q h => by rw [← hAe]; exact Or.inr h
  have hS : va_S A s.heap s.heap [] := va_S.rf
  have hl := lv_entry ([.ref ax, .ref ao]) (n := 3) (Nat.le_of_ble_eq_true rfl)
  rw [lg_entry_eq]
  generalize (lg_sl ([.ref ax, .ref ao]) ++ List.replicate (3 - (lg_sl ([.ref ax, .ref ao])).length) Slot.unset).toArray = ls at hl ⊢
  replace hl : lv_has ls 3 [(0, .ref ax), (1, .ref ao)] := hl
  replace hP : va_P (dC, dI) vwCl [(ax, .inr (2, [.ref axd, .int vxs])), (axd, .inl (cy, 8, .inl fxd)), (ao, .inr (2, [.ref aod, .int vos])), (aod, .inl (cy, 8, .inl fod))] s.heap := hP
  obtain ⟨locs, hlocs⟩ : ∃ lc : List Loc, lc = [] := ⟨_, rfl⟩
  rw [← hlocs] at hS ⊢
  obtain ⟨H, hH⟩ : ∃ H : Heap, H = s.heap := ⟨_, rfl⟩
  have hP2 := hP; rw [← hH] at hP2
  have hS2 : va_S A s.heap H locs := by rw [hH]; exact hS
  suffices hgo : W p l e (headSpec wsX2_become ({ frames := 0, cells := 0, slots := 0, locals := 0 })).room s m args below meth c H locs 0 0 (MQ below (va_Qv (fun (_ : Unit) => True) (QW (dC, dI) cy A [(ax, .inr (2, [.ref axd, .int res.1])), (axd, .inl (cy, 8, .inl res.2)), (ao, .inr (2, [.ref aod, .int vos])), (aod, .inl (cy, 8, .inl fod))]) A) args s 0 0 A) (F0 m 0 ls []) by rw [hH] at hgo; exact hgo
  clear hP hS
  rename' hP2 => hP, hS2 => hS
  have hin_X2 : ∀ w ∈ wsX20, w ∈ wsX2_become := by decide +kernel
  have hf_9 := hts (.fieldLink RX2 9 "FewLooks$Row" "digits" "[I") (by decide +kernel)
  have hf_15 := hts (.fieldLink RX2 15 "FewLooks$Row" "size" "I") (by decide +kernel)
  unfold fX2_become at h
  refine lv_aload_n hx hb dX2_become_0 rfl (lv_at hl 0 rfl) ?_
  refine lv_aload_n hx hb dX2_become_1 rfl (lv_at hl 1 rfl) ?_
  refine va_get (D := (dC, dI)) (ci := 2) (v := .int vos) (C := RX2) (T := TX2) (N := 2) hx hb hts hin_X2 hown hK hP 2 rfl rfl 1 (by decide) (hf_15) (fun _ h9 => h9) rfl dX2_become_2 ?_
  refine va_put (D := (dC, dI)) (ci := 2) (v := .int vos) (ty := .int) (C := RX2) (T := TX2) (N := 2) hx hb hts hin_X2 tyX2 tyX2_ok nmX2 hown hK hP hD hS 0 rfl rfl 1 (by decide) (hf_15) (fun _ h9 => h9) rfl (by decide +kernel) rfl rfl (Nat.le_of_ble_eq_true rfl) dX2_become_5 (fun H locs hP hD hS => ?_)
  replace hP : va_P (dC, dI) vwCl [(ax, .inr (2, [.ref axd, .int vos])), (axd, .inl (cy, 8, .inl fxd)), (ao, .inr (2, [.ref aod, .int vos])), (aod, .inl (cy, 8, .inl fod))] H := hP
  replace hD : va_D A [(ax, .inr (2, [.ref axd, .int vos])), (axd, .inl (cy, 8, .inl fxd)), (ao, .inr (2, [.ref aod, .int vos])), (aod, .inl (cy, 8, .inl fod))] := hD
  refine lv_iconst (v := (0 : Int32)) hx hb dX2_become_8 (by decide) ?_
  refine lv_istore_n (lv' := [(2, .int (0 : Int32)), (0, .ref ax), (1, .ref ao)]) hx hb dX2_become_9 rfl hl (by decide) rfl (fun ls hl => ?_)
  have L10_1 : ∀ (n : Nat) (l2 : Int32) (vxs : Int32) (fxd : Nat → Int32) (rs : (Int32 × (Nat → Int32))) (H : Heap) (locs : List Loc) (ls : Array Slot), fX2_become_L10 n l2 fxd fod = some rs → lv_has ls 3 [(0, .ref ax), (1, .ref ao), (2, .int l2)] → va_P (dC, dI) vwCl [(ax, .inr (2, [.ref axd, .int vxs])), (axd, .inl (cy, 8, .inl fxd)), (ao, .inr (2, [.ref aod, .int vos])), (aod, .inl (cy, 8, .inl fod))] H → va_D A [(ax, .inr (2, [.ref axd, .int vxs])), (axd, .inl (cy, 8, .inl fxd)), (ao, .inr (2, [.ref aod, .int vos])), (aod, .inl (cy, 8, .inl fod))] → va_S A s.heap H locs → (∀ (H : Heap) (locs : List Loc) (ls : Array Slot), lv_has ls 3 [(0, .ref ax), (1, .ref ao), (2, .int rs.1)] → va_P (dC, dI) vwCl [(ax, .inr (2, [.ref axd, .int vxs])), (axd, .inl (cy, 8, .inl rs.2)), (ao, .inr (2, [.ref aod, .int vos])), (aod, .inl (cy, 8, .inl fod))] H → va_D A [(ax, .inr (2, [.ref axd, .int vxs])), (axd, .inl (cy, 8, .inl rs.2)), (ao, .inr (2, [.ref aod, .int vos])), (aod, .inl (cy, 8, .inl fod))] → va_S A s.heap H locs → W p l e (headSpec wsX2_become ({ frames := 0, cells := 0, slots := 0, locals := 0 })).room s m args below meth c H locs 0 0 (MQ below (va_Qv (fun (_ : Unit) => True) (QW (dC, dI) cy A [(ax, .inr (2, [.ref axd, .int res.1])), (axd, .inl (cy, 8, .inl res.2)), (ao, .inr (2, [.ref aod, .int vos])), (aod, .inl (cy, 8, .inl fod))]) A) args s 0 0 A) (F0 m 34 ls [])) → W p l e (headSpec wsX2_become ({ frames := 0, cells := 0, slots := 0, locals := 0 })).room s m args below meth c H locs 0 0 (MQ below (va_Qv (fun (_ : Unit) => True) (QW (dC, dI) cy A [(ax, .inr (2, [.ref axd, .int res.1])), (axd, .inl (cy, 8, .inl res.2)), (ao, .inr (2, [.ref aod, .int vos])), (aod, .inl (cy, 8, .inl fod))]) A) args s 0 0 A) (F0 m 10 ls []) := by
    intro n
    induction n with
    | zero =>
      intro l2 vxs fxd rs H locs ls h
      rw [fX2_become_L10_0] at h
      cases h
    | succ n ih =>
      intro l2 vxs fxd rs H locs ls h hl hP hD hS K
      rw [fX2_become_L10_s] at h
      refine lv_iload_n hx hb dX2_become_10 rfl (lv_at hl 2 rfl) ?_
      refine lv_bipush (v := (8 : Int32)) hx hb dX2_become_11 (by decide) ?_
      refine lv_icmp_ge (tgt := 34) hx hb dX2_become_13 (by decide) (fun c1 => ?_) (fun c1 => ?_)
      · rw [if_pos c1] at h
        obtain rfl := Option.some.inj h
        exact K H locs ls (lv_sub hl [0, 1, 2] rfl) hP hD hS
      · rw [if_neg c1] at h
        refine lv_aload_n hx hb dX2_become_16 rfl (lv_at hl 0 rfl) ?_
        refine va_get (D := (dC, dI)) (ci := 2) (v := .ref axd) (C := RX2) (T := TX2) (N := 2) hx hb hts hin_X2 hown hK hP 0 rfl rfl 0 (by decide) (hf_9) (fun _ h9 => h9) rfl dX2_become_17 ?_
        refine lv_iload_n hx hb dX2_become_20 rfl (lv_at hl 2 rfl) ?_
        refine lv_aload_n hx hb dX2_become_21 rfl (lv_at hl 1 rfl) ?_
        refine va_get (D := (dC, dI)) (ci := 2) (v := .ref aod) (C := RX2) (T := TX2) (N := 2) hx hb hts hin_X2 hown hK hP 2 rfl rfl 0 (by decide) (hf_9) (fun _ h9 => h9) rfl dX2_become_22 ?_
        refine lv_iload_n hx hb dX2_become_25 rfl (lv_at hl 2 rfl) ?_
        obtain ⟨hi, h⟩ := gin_some h
        refine va_iald hx hb hK hP 3 0 rfl rfl hi dX2_become_26 ?_
        obtain ⟨hi, h⟩ := gin_some h
        refine va_iast hx hb hK hP hD hS 1 0 rfl rfl hi dX2_become_27 (fun H locs hP hD hS => ?_)
        replace hP : va_P (dC, dI) vwCl [(ax, .inr (2, [.ref axd, .int vxs])), (axd, .inl (cy, 8, .inl (upd fxd l2.toNatClampNeg (fod l2.toNatClampNeg)))), (ao, .inr (2, [.ref aod, .int vos])), (aod, .inl (cy, 8, .inl fod))] H := hP
        replace hD : va_D A [(ax, .inr (2, [.ref axd, .int vxs])), (axd, .inl (cy, 8, .inl (upd fxd l2.toNatClampNeg (fod l2.toNatClampNeg)))), (ao, .inr (2, [.ref aod, .int vos])), (aod, .inl (cy, 8, .inl fod))] := hD
        refine lv_iinc (v := l2 + (1 : Int32)) (lv' := [(2, .int (l2 + (1 : Int32))), (0, .ref ax), (1, .ref ao)]) hx hb dX2_become_28 hl (k := 2) rfl rfl (by decide) rfl (fun ls hl => ?_)
        refine lv_goto (tgt := 10) hx hb dX2_become_31 (by decide) ?_
        exact ih (l2 + (1 : Int32)) vxs (upd fxd l2.toNatClampNeg (fod l2.toNatClampNeg)) rs H locs ls h (lv_sub hl [1, 2, 0] rfl) hP hD hS K
  obtain ⟨q3, hq3, h⟩ := bd_some h
  refine L10_1 FU (0 : Int32) vos fxd q3 H locs ls hq3 (lv_sub hl [1, 2, 0] rfl) hP hD hS (fun H locs ls hl hP hD hS => ?_)
  obtain rfl := Option.some.inj h
  exact W.vret hx hb hr (fun t ht hW => ⟨⟨(), rfl, trivial, QW_mk hP hK hD ht hW⟩, hS.F ht⟩) hS.2.2 dX2_become_34

noncomputable def fX2_spell_L7 (n : Nat) (l1 : Int32) (l3 : Int32) (vxs : Int32) (fxd : Nat → Int32) : Option (Int32 × (Nat → Int32)) := match n with
  | 0 => none
  | n + 1 => if vxs ≤ l3 then some (l3, fxd) else gin l3 8 (fX2_spell_L7 n l1 (l3 + (1 : Int32)) vxs (upd fxd l3.toNatClampNeg ((l1 >>> (((vxs - (1 : Int32)) - l3) &&& 31)) &&& (1 : Int32))))
theorem fX2_spell_L7_0 (l1 : Int32) (l3 : Int32) (vxs : Int32) (fxd : Nat → Int32) : fX2_spell_L7 0 l1 l3 vxs fxd = none := rfl
theorem fX2_spell_L7_s (n : Nat) (l1 : Int32) (l3 : Int32) (vxs : Int32) (fxd : Nat → Int32) : fX2_spell_L7 (n + 1) l1 l3 vxs fxd = if vxs ≤ l3 then some (l3, fxd) else gin l3 8 (fX2_spell_L7 n l1 (l3 + (1 : Int32)) vxs (upd fxd l3.toNatClampNeg ((l1 >>> (((vxs - (1 : Int32)) - l3) &&& 31)) &&& (1 : Int32)))) := rfl
noncomputable def fX2_spell (vxs : Int32) (fxd : Nat → Int32) (p0 : Int32) (p1 : Int32) : Option (Int32 × (Nat → Int32)) := bd (fX2_spell_L7 FU p0 (0 : Int32) p1 fxd) fun q3 => some (p1, q3.2)
set_option maxHeartbeats 4000000 in
set_option maxRecDepth 100000 in
theorem c_X2_spell (l : Launch) (dC : Nat → ClassId) (dI : Nat → Nat → Nat) (cy : ClassId) (ax axd : Nat) (sz : Nat) (vxs : Int32) (fxd : Nat → Int32) (p0 : Int32) (p1 : Int32) (res : Int32 × (Nat → Int32)) (h : fX2_spell vxs fxd p0 p1 = some res) : Met l yX2_spell wsX2_spell ({ frames := 0, cells := 0, slots := 0, locals := 0 }) (va_Pc [.ref ax, .int p0, .int p1] (PW (dC, dI) cy sz [(ax, .inr (2, [.ref axd, .int vxs])), (axd, .inl (cy, 8, .inl fxd))])) (va_Qv (fun (_ : Unit) => True) (QW (dC, dI) cy (va_A [(ax, .inr (2, [.ref axd, .int vxs])), (axd, .inl (cy, 8, .inl fxd))] sz) [(ax, .inr (2, [.ref axd, .int res.1])), (axd, .inl (cy, 8, .inl res.2))]) (va_A [(ax, .inr (2, [.ref axd, .int vxs])), (axd, .inl (cy, 8, .inl fxd))] sz)) 0 0 (va_A [(ax, .inr (2, [.ref axd, .int vxs])), (axd, .inl (cy, 8, .inl fxd))] sz) := by
  refine Met.ofW (cc := cX2_spell) (maxL := 4) (ret := none) (by decide) rfl ?_
  intro p e s m args below meth c s₁ B hml hv
  obtain ⟨rfl, hsz, hP, hK, hD0, hN⟩ := hv
  have hx := B.exec
  have hb := B.bytes
  have hr := B.returns
  have hts := atoms_spec (ws := wsX2_spell) B.pre
  have hown : s.vm.findClass RX2 = some m.cls := findClass_of_methodNamed B.named
  have hlocks := B.notSynchronized
  subst hsz
  have hD := hD0.self (sz := s.heap.size)
  clear hD0
  generalize hAe : va_A [(ax, .inr (2, [.ref axd, .int vxs])), (axd, .inl (cy, 8, .inl fxd))] s.heap.size = A at hD ⊢
  have hA : ∀ q : Nat, s.heap.size ≤ q → A q := fun q h => by rw [← hAe]; exact Or.inr h
  have hS : va_S A s.heap s.heap [] := va_S.rf
  have hl := lv_entry ([.ref ax, .int p0, .int p1]) (n := 4) (Nat.le_of_ble_eq_true rfl)
  rw [lg_entry_eq]
  generalize (lg_sl ([.ref ax, .int p0, .int p1]) ++ List.replicate (4 - (lg_sl ([.ref ax, .int p0, .int p1])).length) Slot.unset).toArray = ls at hl ⊢
  replace hl : lv_has ls 4 [(0, .ref ax), (1, .int p0), (2, .int p1)] := hl
  replace hP : va_P (dC, dI) vwCl [(ax, .inr (2, [.ref axd, .int vxs])), (axd, .inl (cy, 8, .inl fxd))] s.heap := hP
  obtain ⟨locs, hlocs⟩ : ∃ lc : List Loc, lc = [] := ⟨_, rfl⟩
  rw [← hlocs] at hS ⊢
  obtain ⟨H, hH⟩ : ∃ H : Heap, H = s.heap := ⟨_, rfl⟩
  have hP2 := hP; rw [← hH] at hP2
  have hS2 : va_S A s.heap H locs := by rw [hH]; exact hS
  suffices hgo : W p l e (headSpec wsX2_spell ({ frames := 0, cells := 0, slots := 0, locals := 0 })).room s m args below meth c H locs 0 0 (MQ below (va_Qv (fun (_ : Unit) => True) (QW (dC, dI) cy A [(ax, .inr (2, [.ref axd, .int res.1])), (axd, .inl (cy, 8, .inl res.2))]) A) args s 0 0 A) (F0 m 0 ls []) by rw [hH] at hgo; exact hgo
  clear hP hS
  rename' hP2 => hP, hS2 => hS
  have hin_X2 : ∀ w ∈ wsX20, w ∈ wsX2_spell := by decide +kernel
  have hf_9 := hts (.fieldLink RX2 9 "FewLooks$Row" "digits" "[I") (by decide +kernel)
  have hf_15 := hts (.fieldLink RX2 15 "FewLooks$Row" "size" "I") (by decide +kernel)
  unfold fX2_spell at h
  refine lv_aload_n hx hb dX2_spell_0 rfl (lv_at hl 0 rfl) ?_
  refine lv_iload_n hx hb dX2_spell_1 rfl (lv_at hl 2 rfl) ?_
  refine va_put (D := (dC, dI)) (ci := 2) (v := .int p1) (ty := .int) (C := RX2) (T := TX2) (N := 2) hx hb hts hin_X2 tyX2 tyX2_ok nmX2 hown hK hP hD hS 0 rfl rfl 1 (by decide) (hf_15) (fun _ h9 => h9) rfl (by decide +kernel) rfl rfl (Nat.le_of_ble_eq_true rfl) dX2_spell_2 (fun H locs hP hD hS => ?_)
  replace hP : va_P (dC, dI) vwCl [(ax, .inr (2, [.ref axd, .int p1])), (axd, .inl (cy, 8, .inl fxd))] H := hP
  replace hD : va_D A [(ax, .inr (2, [.ref axd, .int p1])), (axd, .inl (cy, 8, .inl fxd))] := hD
  refine lv_iconst (v := (0 : Int32)) hx hb dX2_spell_5 (by decide) ?_
  refine lv_istore_n (lv' := [(3, .int (0 : Int32)), (0, .ref ax), (1, .int p0), (2, .int p1)]) hx hb dX2_spell_6 rfl hl (by decide) rfl (fun ls hl => ?_)
  have L7_1 : ∀ (n : Nat) (l1 : Int32) (l2 : Int32) (l3 : Int32) (vxs : Int32) (fxd : Nat → Int32) (rs : (Int32 × (Nat → Int32))) (H : Heap) (locs : List Loc) (ls : Array Slot), fX2_spell_L7 n l1 l3 vxs fxd = some rs → lv_has ls 4 [(0, .ref ax), (1, .int l1), (2, .int l2), (3, .int l3)] → va_P (dC, dI) vwCl [(ax, .inr (2, [.ref axd, .int vxs])), (axd, .inl (cy, 8, .inl fxd))] H → va_D A [(ax, .inr (2, [.ref axd, .int vxs])), (axd, .inl (cy, 8, .inl fxd))] → va_S A s.heap H locs → (∀ (H : Heap) (locs : List Loc) (ls : Array Slot), lv_has ls 4 [(0, .ref ax), (1, .int l1), (2, .int l2), (3, .int rs.1)] → va_P (dC, dI) vwCl [(ax, .inr (2, [.ref axd, .int vxs])), (axd, .inl (cy, 8, .inl rs.2))] H → va_D A [(ax, .inr (2, [.ref axd, .int vxs])), (axd, .inl (cy, 8, .inl rs.2))] → va_S A s.heap H locs → W p l e (headSpec wsX2_spell ({ frames := 0, cells := 0, slots := 0, locals := 0 })).room s m args below meth c H locs 0 0 (MQ below (va_Qv (fun (_ : Unit) => True) (QW (dC, dI) cy A [(ax, .inr (2, [.ref axd, .int res.1])), (axd, .inl (cy, 8, .inl res.2))]) A) args s 0 0 A) (F0 m 39 ls [])) → W p l e (headSpec wsX2_spell ({ frames := 0, cells := 0, slots := 0, locals := 0 })).room s m args below meth c H locs 0 0 (MQ below (va_Qv (fun (_ : Unit) => True) (QW (dC, dI) cy A [(ax, .inr (2, [.ref axd, .int res.1])), (axd, .inl (cy, 8, .inl res.2))]) A) args s 0 0 A) (F0 m 7 ls []) := by
    intro n
    induction n with
    | zero =>
      intro l1 l2 l3 vxs fxd rs H locs ls h
      rw [fX2_spell_L7_0] at h
      cases h
    | succ n ih =>
      intro l1 l2 l3 vxs fxd rs H locs ls h hl hP hD hS K
      rw [fX2_spell_L7_s] at h
      refine lv_iload_n hx hb dX2_spell_7 rfl (lv_at hl 3 rfl) ?_
      refine lv_aload_n hx hb dX2_spell_8 rfl (lv_at hl 0 rfl) ?_
      refine va_get (D := (dC, dI)) (ci := 2) (v := .int vxs) (C := RX2) (T := TX2) (N := 2) hx hb hts hin_X2 hown hK hP 0 rfl rfl 1 (by decide) (hf_15) (fun _ h9 => h9) rfl dX2_spell_9 ?_
      refine lv_icmp_ge (tgt := 39) hx hb dX2_spell_12 (by decide) (fun c1 => ?_) (fun c1 => ?_)
      · rw [if_pos c1] at h
        obtain rfl := Option.some.inj h
        exact K H locs ls (lv_sub hl [0, 1, 2, 3] rfl) hP hD hS
      · rw [if_neg c1] at h
        refine lv_aload_n hx hb dX2_spell_15 rfl (lv_at hl 0 rfl) ?_
        refine va_get (D := (dC, dI)) (ci := 2) (v := .ref axd) (C := RX2) (T := TX2) (N := 2) hx hb hts hin_X2 hown hK hP 0 rfl rfl 0 (by decide) (hf_9) (fun _ h9 => h9) rfl dX2_spell_16 ?_
        refine lv_iload_n hx hb dX2_spell_19 rfl (lv_at hl 3 rfl) ?_
        refine lv_iload_n hx hb dX2_spell_20 rfl (lv_at hl 1 rfl) ?_
        refine lv_aload_n hx hb dX2_spell_21 rfl (lv_at hl 0 rfl) ?_
        refine va_get (D := (dC, dI)) (ci := 2) (v := .int vxs) (C := RX2) (T := TX2) (N := 2) hx hb hts hin_X2 hown hK hP 0 rfl rfl 1 (by decide) (hf_15) (fun _ h9 => h9) rfl dX2_spell_22 ?_
        refine lv_iconst (v := (1 : Int32)) hx hb dX2_spell_25 (by decide) ?_
        refine lv_isub hx hb dX2_spell_26 ?_
        refine lv_iload_n hx hb dX2_spell_27 rfl (lv_at hl 3 rfl) ?_
        refine lv_isub hx hb dX2_spell_28 ?_
        refine lv_ishr hx hb dX2_spell_29 ?_
        refine lv_iconst (v := (1 : Int32)) hx hb dX2_spell_30 (by decide) ?_
        refine lv_iand hx hb dX2_spell_31 ?_
        obtain ⟨hi, h⟩ := gin_some h
        refine va_iast hx hb hK hP hD hS 1 0 rfl rfl hi dX2_spell_32 (fun H locs hP hD hS => ?_)
        replace hP : va_P (dC, dI) vwCl [(ax, .inr (2, [.ref axd, .int vxs])), (axd, .inl (cy, 8, .inl (upd fxd l3.toNatClampNeg ((l1 >>> (((vxs - (1 : Int32)) - l3) &&& 31)) &&& (1 : Int32)))))] H := hP
        replace hD : va_D A [(ax, .inr (2, [.ref axd, .int vxs])), (axd, .inl (cy, 8, .inl (upd fxd l3.toNatClampNeg ((l1 >>> (((vxs - (1 : Int32)) - l3) &&& 31)) &&& (1 : Int32)))))] := hD
        refine lv_iinc (v := l3 + (1 : Int32)) (lv' := [(3, .int (l3 + (1 : Int32))), (0, .ref ax), (1, .int l1), (2, .int l2)]) hx hb dX2_spell_33 hl (k := 3) rfl rfl (by decide) rfl (fun ls hl => ?_)
        refine lv_goto (tgt := 7) hx hb dX2_spell_36 (by decide) ?_
        exact ih l1 l2 (l3 + (1 : Int32)) vxs (upd fxd l3.toNatClampNeg ((l1 >>> (((vxs - (1 : Int32)) - l3) &&& 31)) &&& (1 : Int32))) rs H locs ls h (lv_sub hl [1, 2, 3, 0] rfl) hP hD hS K
  obtain ⟨q3, hq3, h⟩ := bd_some h
  refine L7_1 FU p0 p1 (0 : Int32) p1 fxd q3 H locs ls hq3 (lv_sub hl [1, 2, 3, 0] rfl) hP hD hS (fun H locs ls hl hP hD hS => ?_)
  obtain rfl := Option.some.inj h
  exact W.vret hx hb hr (fun t ht hW => ⟨⟨(), rfl, trivial, QW_mk hP hK hD ht hW⟩, hS.F ht⟩) hS.2.2 dX2_spell_39

noncomputable def fX2_total_L4 (n : Nat) (l1 : Int32) (l2 : Int32) (vxs : Int32) (fxd : Nat → Int32) : Option (Int32 × Int32) := match n with
  | 0 => none
  | n + 1 => if vxs ≤ l2 then some (l1, l2) else gin l2 8 (fX2_total_L4 n (l1 + (fxd l2.toNatClampNeg)) (l2 + (1 : Int32)) vxs fxd)
theorem fX2_total_L4_0 (l1 : Int32) (l2 : Int32) (vxs : Int32) (fxd : Nat → Int32) : fX2_total_L4 0 l1 l2 vxs fxd = none := rfl
theorem fX2_total_L4_s (n : Nat) (l1 : Int32) (l2 : Int32) (vxs : Int32) (fxd : Nat → Int32) : fX2_total_L4 (n + 1) l1 l2 vxs fxd = if vxs ≤ l2 then some (l1, l2) else gin l2 8 (fX2_total_L4 n (l1 + (fxd l2.toNatClampNeg)) (l2 + (1 : Int32)) vxs fxd) := rfl
noncomputable def fX2_total (vxs : Int32) (fxd : Nat → Int32)  : Option (Int32) := bd (fX2_total_L4 FU (0 : Int32) (0 : Int32) vxs fxd) fun q3 => some q3.1
set_option maxHeartbeats 4000000 in
set_option maxRecDepth 100000 in
theorem c_X2_total (l : Launch) (dC : Nat → ClassId) (dI : Nat → Nat → Nat) (cy : ClassId) (ax axd : Nat) (sz : Nat) (vxs : Int32) (fxd : Nat → Int32)  (res : Int32) (h : fX2_total vxs fxd = some res) : Met l yX2_total wsX2_total ({ frames := 0, cells := 0, slots := 0, locals := 0 }) (va_Pc [.ref ax] (PW (dC, dI) cy sz [(ax, .inr (2, [.ref axd, .int vxs])), (axd, .inl (cy, 8, .inl fxd))])) (va_Qi (fun (r : Int32) (_ : Unit) => r = res) (QW (dC, dI) cy (va_A [(ax, .inr (2, [.ref axd, .int vxs])), (axd, .inl (cy, 8, .inl fxd))] sz) [(ax, .inr (2, [.ref axd, .int vxs])), (axd, .inl (cy, 8, .inl fxd))]) (va_A [(ax, .inr (2, [.ref axd, .int vxs])), (axd, .inl (cy, 8, .inl fxd))] sz)) 0 0 (va_A [(ax, .inr (2, [.ref axd, .int vxs])), (axd, .inl (cy, 8, .inl fxd))] sz) := by
  refine Met.ofW (cc := cX2_total) (maxL := 3) (ret := (some .int)) (by decide) rfl ?_
  intro p e s m args below meth c s₁ B hml hv
  obtain ⟨rfl, hsz, hP, hK, hD0, hN⟩ := hv
  have hx := B.exec
  have hb := B.bytes
  have hr := B.returns
  have hts := atoms_spec (ws := wsX2_total) B.pre
  have hown : s.vm.findClass RX2 = some m.cls := findClass_of_methodNamed B.named
  have hlocks := B.notSynchronized
  subst hsz
  have hD := hD0.self (sz := s.heap.size)
  clear hD0
  generalize hAe : va_A [(ax, .inr (2, [.ref axd, .int vxs])), (axd, .inl (cy, 8, .inl fxd))] s.heap.size = A at hD ⊢
  have hA : ∀ q : Nat, s.heap.size ≤ q → A q := fun q h => by rw [← hAe]; exact Or.inr h
  have hS : va_S A s.heap s.heap [] := va_S.rf
  have hl := lv_entry ([.ref ax]) (n := 3) (Nat.le_of_ble_eq_true rfl)
  rw [lg_entry_eq]
  generalize (lg_sl ([.ref ax]) ++ List.replicate (3 - (lg_sl ([.ref ax])).length) Slot.unset).toArray = ls at hl ⊢
  replace hl : lv_has ls 3 [(0, .ref ax)] := hl
  replace hP : va_P (dC, dI) vwCl [(ax, .inr (2, [.ref axd, .int vxs])), (axd, .inl (cy, 8, .inl fxd))] s.heap := hP
  obtain ⟨locs, hlocs⟩ : ∃ lc : List Loc, lc = [] := ⟨_, rfl⟩
  rw [← hlocs] at hS ⊢
  obtain ⟨H, hH⟩ : ∃ H : Heap, H = s.heap := ⟨_, rfl⟩
  have hP2 := hP; rw [← hH] at hP2
  have hS2 : va_S A s.heap H locs := by rw [hH]; exact hS
  suffices hgo : W p l e (headSpec wsX2_total ({ frames := 0, cells := 0, slots := 0, locals := 0 })).room s m args below meth c H locs 0 0 (MQ below (va_Qi (fun (r : Int32) (_ : Unit) => r = res) (QW (dC, dI) cy A [(ax, .inr (2, [.ref axd, .int vxs])), (axd, .inl (cy, 8, .inl fxd))]) A) args s 0 0 A) (F0 m 0 ls []) by rw [hH] at hgo; exact hgo
  clear hP hS
  rename' hP2 => hP, hS2 => hS
  have hin_X2 : ∀ w ∈ wsX20, w ∈ wsX2_total := by decide +kernel
  have hf_9 := hts (.fieldLink RX2 9 "FewLooks$Row" "digits" "[I") (by decide +kernel)
  have hf_15 := hts (.fieldLink RX2 15 "FewLooks$Row" "size" "I") (by decide +kernel)
  unfold fX2_total at h
  refine lv_iconst (v := (0 : Int32)) hx hb dX2_total_0 (by decide) ?_
  refine lv_istore_n (lv' := [(1, .int (0 : Int32)), (0, .ref ax)]) hx hb dX2_total_1 rfl hl (by decide) rfl (fun ls hl => ?_)
  refine lv_iconst (v := (0 : Int32)) hx hb dX2_total_2 (by decide) ?_
  refine lv_istore_n (lv' := [(2, .int (0 : Int32)), (1, .int (0 : Int32)), (0, .ref ax)]) hx hb dX2_total_3 rfl hl (by decide) rfl (fun ls hl => ?_)
  have L4_1 : ∀ (n : Nat) (l1 : Int32) (l2 : Int32) (rs : (Int32 × Int32)) (H : Heap) (locs : List Loc) (ls : Array Slot), fX2_total_L4 n l1 l2 vxs fxd = some rs → lv_has ls 3 [(0, .ref ax), (1, .int l1), (2, .int l2)] → va_P (dC, dI) vwCl [(ax, .inr (2, [.ref axd, .int vxs])), (axd, .inl (cy, 8, .inl fxd))] H → va_D A [(ax, .inr (2, [.ref axd, .int vxs])), (axd, .inl (cy, 8, .inl fxd))] → va_S A s.heap H locs → (∀ (H : Heap) (locs : List Loc) (ls : Array Slot), lv_has ls 3 [(0, .ref ax), (1, .int rs.1), (2, .int rs.2)] → va_P (dC, dI) vwCl [(ax, .inr (2, [.ref axd, .int vxs])), (axd, .inl (cy, 8, .inl fxd))] H → va_D A [(ax, .inr (2, [.ref axd, .int vxs])), (axd, .inl (cy, 8, .inl fxd))] → va_S A s.heap H locs → W p l e (headSpec wsX2_total ({ frames := 0, cells := 0, slots := 0, locals := 0 })).room s m args below meth c H locs 0 0 (MQ below (va_Qi (fun (r : Int32) (_ : Unit) => r = res) (QW (dC, dI) cy A [(ax, .inr (2, [.ref axd, .int vxs])), (axd, .inl (cy, 8, .inl fxd))]) A) args s 0 0 A) (F0 m 27 ls [])) → W p l e (headSpec wsX2_total ({ frames := 0, cells := 0, slots := 0, locals := 0 })).room s m args below meth c H locs 0 0 (MQ below (va_Qi (fun (r : Int32) (_ : Unit) => r = res) (QW (dC, dI) cy A [(ax, .inr (2, [.ref axd, .int vxs])), (axd, .inl (cy, 8, .inl fxd))]) A) args s 0 0 A) (F0 m 4 ls []) := by
    intro n
    induction n with
    | zero =>
      intro l1 l2 rs H locs ls h
      rw [fX2_total_L4_0] at h
      cases h
    | succ n ih =>
      intro l1 l2 rs H locs ls h hl hP hD hS K
      rw [fX2_total_L4_s] at h
      refine lv_iload_n hx hb dX2_total_4 rfl (lv_at hl 2 rfl) ?_
      refine lv_aload_n hx hb dX2_total_5 rfl (lv_at hl 0 rfl) ?_
      refine va_get (D := (dC, dI)) (ci := 2) (v := .int vxs) (C := RX2) (T := TX2) (N := 2) hx hb hts hin_X2 hown hK hP 0 rfl rfl 1 (by decide) (hf_15) (fun _ h9 => h9) rfl dX2_total_6 ?_
      refine lv_icmp_ge (tgt := 27) hx hb dX2_total_9 (by decide) (fun c1 => ?_) (fun c1 => ?_)
      · rw [if_pos c1] at h
        obtain rfl := Option.some.inj h
        exact K H locs ls (lv_sub hl [0, 1, 2] rfl) hP hD hS
      · rw [if_neg c1] at h
        refine lv_iload_n hx hb dX2_total_12 rfl (lv_at hl 1 rfl) ?_
        refine lv_aload_n hx hb dX2_total_13 rfl (lv_at hl 0 rfl) ?_
        refine va_get (D := (dC, dI)) (ci := 2) (v := .ref axd) (C := RX2) (T := TX2) (N := 2) hx hb hts hin_X2 hown hK hP 0 rfl rfl 0 (by decide) (hf_9) (fun _ h9 => h9) rfl dX2_total_14 ?_
        refine lv_iload_n hx hb dX2_total_17 rfl (lv_at hl 2 rfl) ?_
        obtain ⟨hi, h⟩ := gin_some h
        refine va_iald hx hb hK hP 1 0 rfl rfl hi dX2_total_18 ?_
        refine lv_iadd hx hb dX2_total_19 ?_
        refine lv_istore_n (lv' := [(1, .int (l1 + (fxd l2.toNatClampNeg))), (0, .ref ax), (2, .int l2)]) hx hb dX2_total_20 rfl hl (by decide) rfl (fun ls hl => ?_)
        refine lv_iinc (v := l2 + (1 : Int32)) (lv' := [(2, .int (l2 + (1 : Int32))), (1, .int (l1 + (fxd l2.toNatClampNeg))), (0, .ref ax)]) hx hb dX2_total_21 hl (k := 2) rfl rfl (by decide) rfl (fun ls hl => ?_)
        refine lv_goto (tgt := 4) hx hb dX2_total_24 (by decide) ?_
        exact ih (l1 + (fxd l2.toNatClampNeg)) (l2 + (1 : Int32)) rs H locs ls h (lv_sub hl [2, 1, 0] rfl) hP hD hS K
  obtain ⟨q3, hq3, h⟩ := bd_some h
  refine L4_1 FU (0 : Int32) (0 : Int32) q3 H locs ls hq3 (lv_sub hl [2, 1, 0] rfl) hP hD hS (fun H locs ls hl hP hD hS => ?_)
  refine lv_iload_n hx hb dX2_total_27 rfl (lv_at hl 1 rfl) ?_
  obtain rfl := Option.some.inj h
  exact W.iret (v := q3.1) hx hb hr (fun t ht hW => ⟨⟨q3.1, (), rfl, rfl, QW_mk hP hK hD ht hW⟩, hS.F ht⟩) hS.2.2 dX2_total_28

noncomputable def fX2_differing_L4 (n : Nat) (l2 : Int32) (l3 : Int32) (vxs : Int32) (fxd : Nat → Int32) (fod : Nat → Int32) : Option (Int32 × Int32) := match n with
  | 0 => none
  | n + 1 => if vxs ≤ l3 then some (l2, l3) else gin l3 8 (gin l3 8 (if (fxd l3.toNatClampNeg) = (fod l3.toNatClampNeg) then fX2_differing_L4 n l2 (l3 + (1 : Int32)) vxs fxd fod else fX2_differing_L4 n (l2 + (1 : Int32)) (l3 + (1 : Int32)) vxs fxd fod))
theorem fX2_differing_L4_0 (l2 : Int32) (l3 : Int32) (vxs : Int32) (fxd : Nat → Int32) (fod : Nat → Int32) : fX2_differing_L4 0 l2 l3 vxs fxd fod = none := rfl
theorem fX2_differing_L4_s (n : Nat) (l2 : Int32) (l3 : Int32) (vxs : Int32) (fxd : Nat → Int32) (fod : Nat → Int32) : fX2_differing_L4 (n + 1) l2 l3 vxs fxd fod = if vxs ≤ l3 then some (l2, l3) else gin l3 8 (gin l3 8 (if (fxd l3.toNatClampNeg) = (fod l3.toNatClampNeg) then fX2_differing_L4 n l2 (l3 + (1 : Int32)) vxs fxd fod else fX2_differing_L4 n (l2 + (1 : Int32)) (l3 + (1 : Int32)) vxs fxd fod)) := rfl
noncomputable def fX2_differing (vxs : Int32) (fxd : Nat → Int32) (fod : Nat → Int32)  : Option (Int32) := bd (fX2_differing_L4 FU (0 : Int32) (0 : Int32) vxs fxd fod) fun q4 => some q4.1
set_option maxHeartbeats 4000000 in
set_option maxRecDepth 100000 in
theorem c_X2_differing (l : Launch) (dC : Nat → ClassId) (dI : Nat → Nat → Nat) (cy : ClassId) (ax axd ao aod : Nat) (sz : Nat) (vxs : Int32) (fxd : Nat → Int32) (vos : Int32) (fod : Nat → Int32)  (res : Int32) (h : fX2_differing vxs fxd fod = some res) : Met l yX2_differing wsX2_differing ({ frames := 0, cells := 0, slots := 0, locals := 0 }) (va_Pc [.ref ax, .ref ao] (PW (dC, dI) cy sz [(ax, .inr (2, [.ref axd, .int vxs])), (axd, .inl (cy, 8, .inl fxd)), (ao, .inr (2, [.ref aod, .int vos])), (aod, .inl (cy, 8, .inl fod))])) (va_Qi (fun (r : Int32) (_ : Unit) => r = res) (QW (dC, dI) cy (va_A [(ax, .inr (2, [.ref axd, .int vxs])), (axd, .inl (cy, 8, .inl fxd)), (ao, .inr (2, [.ref aod, .int vos])), (aod, .inl (cy, 8, .inl fod))] sz) [(ax, .inr (2, [.ref axd, .int vxs])), (axd, .inl (cy, 8, .inl fxd)), (ao, .inr (2, [.ref aod, .int vos])), (aod, .inl (cy, 8, .inl fod))]) (va_A [(ax, .inr (2, [.ref axd, .int vxs])), (axd, .inl (cy, 8, .inl fxd)), (ao, .inr (2, [.ref aod, .int vos])), (aod, .inl (cy, 8, .inl fod))] sz)) 0 0 (va_A [(ax, .inr (2, [.ref axd, .int vxs])), (axd, .inl (cy, 8, .inl fxd)), (ao, .inr (2, [.ref aod, .int vos])), (aod, .inl (cy, 8, .inl fod))] sz) := by
  refine Met.ofW (cc := cX2_differing) (maxL := 4) (ret := (some .int)) (by decide) rfl ?_
  intro p e s m args below meth c s₁ B hml hv
  obtain ⟨rfl, hsz, hP, hK, hD0, hN⟩ := hv
  have hx := B.exec
  have hb := B.bytes
  have hr := B.returns
  have hts := atoms_spec (ws := wsX2_differing) B.pre
  have hown : s.vm.findClass RX2 = some m.cls := findClass_of_methodNamed B.named
  have hlocks := B.notSynchronized
  subst hsz
  have hD := hD0.self (sz := s.heap.size)
  clear hD0
  generalize hAe : va_A [(ax, .inr (2, [.ref axd, .int vxs])), (axd, .inl (cy, 8, .inl fxd)), (ao, .inr (2, [.ref aod, .int vos])), (aod, .inl (cy, 8, .inl fod))] s.heap.size = A at hD ⊢
  have hA : ∀ q : Nat, s.heap.size ≤ q → A q := fun q h => by rw [← hAe]; exact Or.inr h
  have hS : va_S A s.heap s.heap [] := va_S.rf
  have hl := lv_entry ([.ref ax, .ref ao]) (n := 4) (Nat.le_of_ble_eq_true rfl)
  rw [lg_entry_eq]
  generalize (lg_sl ([.ref ax, .ref ao]) ++ List.replicate (4 - (lg_sl ([.ref ax, .ref ao])).length) Slot.unset).toArray = ls at hl ⊢
  replace hl : lv_has ls 4 [(0, .ref ax), (1, .ref ao)] := hl
  replace hP : va_P (dC, dI) vwCl [(ax, .inr (2, [.ref axd, .int vxs])), (axd, .inl (cy, 8, .inl fxd)), (ao, .inr (2, [.ref aod, .int vos])), (aod, .inl (cy, 8, .inl fod))] s.heap := hP
  obtain ⟨locs, hlocs⟩ : ∃ lc : List Loc, lc = [] := ⟨_, rfl⟩
  rw [← hlocs] at hS ⊢
  obtain ⟨H, hH⟩ : ∃ H : Heap, H = s.heap := ⟨_, rfl⟩
  have hP2 := hP; rw [← hH] at hP2
  have hS2 : va_S A s.heap H locs := by rw [hH]; exact hS
  suffices hgo : W p l e (headSpec wsX2_differing ({ frames := 0, cells := 0, slots := 0, locals := 0 })).room s m args below meth c H locs 0 0 (MQ below (va_Qi (fun (r : Int32) (_ : Unit) => r = res) (QW (dC, dI) cy A [(ax, .inr (2, [.ref axd, .int vxs])), (axd, .inl (cy, 8, .inl fxd)), (ao, .inr (2, [.ref aod, .int vos])), (aod, .inl (cy, 8, .inl fod))]) A) args s 0 0 A) (F0 m 0 ls []) by rw [hH] at hgo; exact hgo
  clear hP hS
  rename' hP2 => hP, hS2 => hS
  have hin_X2 : ∀ w ∈ wsX20, w ∈ wsX2_differing := by decide +kernel
  have hf_9 := hts (.fieldLink RX2 9 "FewLooks$Row" "digits" "[I") (by decide +kernel)
  have hf_15 := hts (.fieldLink RX2 15 "FewLooks$Row" "size" "I") (by decide +kernel)
  unfold fX2_differing at h
  refine lv_iconst (v := (0 : Int32)) hx hb dX2_differing_0 (by decide) ?_
  refine lv_istore_n (lv' := [(2, .int (0 : Int32)), (0, .ref ax), (1, .ref ao)]) hx hb dX2_differing_1 rfl hl (by decide) rfl (fun ls hl => ?_)
  refine lv_iconst (v := (0 : Int32)) hx hb dX2_differing_2 (by decide) ?_
  refine lv_istore_n (lv' := [(3, .int (0 : Int32)), (2, .int (0 : Int32)), (0, .ref ax), (1, .ref ao)]) hx hb dX2_differing_3 rfl hl (by decide) rfl (fun ls hl => ?_)
  have L4_2 : ∀ (n : Nat) (l2 : Int32) (l3 : Int32) (rs : (Int32 × Int32)) (H : Heap) (locs : List Loc) (ls : Array Slot), fX2_differing_L4 n l2 l3 vxs fxd fod = some rs → lv_has ls 4 [(0, .ref ax), (1, .ref ao), (2, .int l2), (3, .int l3)] → va_P (dC, dI) vwCl [(ax, .inr (2, [.ref axd, .int vxs])), (axd, .inl (cy, 8, .inl fxd)), (ao, .inr (2, [.ref aod, .int vos])), (aod, .inl (cy, 8, .inl fod))] H → va_D A [(ax, .inr (2, [.ref axd, .int vxs])), (axd, .inl (cy, 8, .inl fxd)), (ao, .inr (2, [.ref aod, .int vos])), (aod, .inl (cy, 8, .inl fod))] → va_S A s.heap H locs → (∀ (H : Heap) (locs : List Loc) (ls : Array Slot), lv_has ls 4 [(0, .ref ax), (1, .ref ao), (2, .int rs.1), (3, .int rs.2)] → va_P (dC, dI) vwCl [(ax, .inr (2, [.ref axd, .int vxs])), (axd, .inl (cy, 8, .inl fxd)), (ao, .inr (2, [.ref aod, .int vos])), (aod, .inl (cy, 8, .inl fod))] H → va_D A [(ax, .inr (2, [.ref axd, .int vxs])), (axd, .inl (cy, 8, .inl fxd)), (ao, .inr (2, [.ref aod, .int vos])), (aod, .inl (cy, 8, .inl fod))] → va_S A s.heap H locs → W p l e (headSpec wsX2_differing ({ frames := 0, cells := 0, slots := 0, locals := 0 })).room s m args below meth c H locs 0 0 (MQ below (va_Qi (fun (r : Int32) (_ : Unit) => r = res) (QW (dC, dI) cy A [(ax, .inr (2, [.ref axd, .int vxs])), (axd, .inl (cy, 8, .inl fxd)), (ao, .inr (2, [.ref aod, .int vos])), (aod, .inl (cy, 8, .inl fod))]) A) args s 0 0 A) (F0 m 36 ls [])) → W p l e (headSpec wsX2_differing ({ frames := 0, cells := 0, slots := 0, locals := 0 })).room s m args below meth c H locs 0 0 (MQ below (va_Qi (fun (r : Int32) (_ : Unit) => r = res) (QW (dC, dI) cy A [(ax, .inr (2, [.ref axd, .int vxs])), (axd, .inl (cy, 8, .inl fxd)), (ao, .inr (2, [.ref aod, .int vos])), (aod, .inl (cy, 8, .inl fod))]) A) args s 0 0 A) (F0 m 4 ls []) := by
    intro n
    induction n with
    | zero =>
      intro l2 l3 rs H locs ls h
      rw [fX2_differing_L4_0] at h
      cases h
    | succ n ih =>
      intro l2 l3 rs H locs ls h hl hP hD hS K
      rw [fX2_differing_L4_s] at h
      refine lv_iload_n hx hb dX2_differing_4 rfl (lv_at hl 3 rfl) ?_
      refine lv_aload_n hx hb dX2_differing_5 rfl (lv_at hl 0 rfl) ?_
      refine va_get (D := (dC, dI)) (ci := 2) (v := .int vxs) (C := RX2) (T := TX2) (N := 2) hx hb hts hin_X2 hown hK hP 0 rfl rfl 1 (by decide) (hf_15) (fun _ h9 => h9) rfl dX2_differing_6 ?_
      refine lv_icmp_ge (tgt := 36) hx hb dX2_differing_9 (by decide) (fun c2 => ?_) (fun c2 => ?_)
      · rw [if_pos c2] at h
        obtain rfl := Option.some.inj h
        exact K H locs ls (lv_sub hl [0, 1, 2, 3] rfl) hP hD hS
      · rw [if_neg c2] at h
        refine lv_aload_n hx hb dX2_differing_12 rfl (lv_at hl 0 rfl) ?_
        refine va_get (D := (dC, dI)) (ci := 2) (v := .ref axd) (C := RX2) (T := TX2) (N := 2) hx hb hts hin_X2 hown hK hP 0 rfl rfl 0 (by decide) (hf_9) (fun _ h9 => h9) rfl dX2_differing_13 ?_
        refine lv_iload_n hx hb dX2_differing_16 rfl (lv_at hl 3 rfl) ?_
        obtain ⟨hi, h⟩ := gin_some h
        refine va_iald hx hb hK hP 1 0 rfl rfl hi dX2_differing_17 ?_
        refine lv_aload_n hx hb dX2_differing_18 rfl (lv_at hl 1 rfl) ?_
        refine va_get (D := (dC, dI)) (ci := 2) (v := .ref aod) (C := RX2) (T := TX2) (N := 2) hx hb hts hin_X2 hown hK hP 2 rfl rfl 0 (by decide) (hf_9) (fun _ h9 => h9) rfl dX2_differing_19 ?_
        refine lv_iload_n hx hb dX2_differing_22 rfl (lv_at hl 3 rfl) ?_
        obtain ⟨hi, h⟩ := gin_some h
        refine va_iald hx hb hK hP 3 0 rfl rfl hi dX2_differing_23 ?_
        refine lv_icmp_eq (tgt := 30) hx hb dX2_differing_24 (by decide) (fun c1 => ?_) (fun c1 => ?_)
        · rw [if_pos c1] at h
          refine lv_iinc (v := l3 + (1 : Int32)) (lv' := [(3, .int (l3 + (1 : Int32))), (0, .ref ax), (1, .ref ao), (2, .int l2)]) hx hb dX2_differing_30 hl (k := 3) rfl rfl (by decide) rfl (fun ls hl => ?_)
          refine lv_goto (tgt := 4) hx hb dX2_differing_33 (by decide) ?_
          exact ih l2 (l3 + (1 : Int32)) rs H locs ls h (lv_sub hl [1, 2, 3, 0] rfl) hP hD hS K
        · rw [if_neg c1] at h
          refine lv_iinc (v := l2 + (1 : Int32)) (lv' := [(2, .int (l2 + (1 : Int32))), (0, .ref ax), (1, .ref ao), (3, .int l3)]) hx hb dX2_differing_27 hl (k := 2) rfl rfl (by decide) rfl (fun ls hl => ?_)
          refine lv_iinc (v := l3 + (1 : Int32)) (lv' := [(3, .int (l3 + (1 : Int32))), (2, .int (l2 + (1 : Int32))), (0, .ref ax), (1, .ref ao)]) hx hb dX2_differing_30 hl (k := 3) rfl rfl (by decide) rfl (fun ls hl => ?_)
          refine lv_goto (tgt := 4) hx hb dX2_differing_33 (by decide) ?_
          exact ih (l2 + (1 : Int32)) (l3 + (1 : Int32)) rs H locs ls h (lv_sub hl [2, 3, 1, 0] rfl) hP hD hS K
  obtain ⟨q4, hq4, h⟩ := bd_some h
  refine L4_2 FU (0 : Int32) (0 : Int32) q4 H locs ls hq4 (lv_sub hl [2, 3, 1, 0] rfl) hP hD hS (fun H locs ls hl hP hD hS => ?_)
  refine lv_iload_n hx hb dX2_differing_36 rfl (lv_at hl 2 rfl) ?_
  obtain rfl := Option.some.inj h
  exact W.iret (v := q4.1) hx hb hr (fun t ht hW => ⟨⟨q4.1, (), rfl, rfl, QW_mk hP hK hD ht hW⟩, hS.F ht⟩) hS.2.2 dX2_differing_37

noncomputable def fX2_isAheadOf_L2 (n : Nat) (l2 : Int32) (vxs : Int32) (fxd : Nat → Int32) (fod : Nat → Int32) : Option ((Int32) ⊕ (Int32)) := match n with
  | 0 => none
  | n + 1 => if vxs ≤ l2 then some (.inr l2) else gin l2 8 (gin l2 8 (if (fxd l2.toNatClampNeg) = (fod l2.toNatClampNeg) then fX2_isAheadOf_L2 n (l2 + (1 : Int32)) vxs fxd fod else gin l2 8 (gin l2 8 (if (fod l2.toNatClampNeg) ≤ (fxd l2.toNatClampNeg) then some (.inl (0 : Int32)) else some (.inl (1 : Int32))))))
theorem fX2_isAheadOf_L2_0 (l2 : Int32) (vxs : Int32) (fxd : Nat → Int32) (fod : Nat → Int32) : fX2_isAheadOf_L2 0 l2 vxs fxd fod = none := rfl
theorem fX2_isAheadOf_L2_s (n : Nat) (l2 : Int32) (vxs : Int32) (fxd : Nat → Int32) (fod : Nat → Int32) : fX2_isAheadOf_L2 (n + 1) l2 vxs fxd fod = if vxs ≤ l2 then some (.inr l2) else gin l2 8 (gin l2 8 (if (fxd l2.toNatClampNeg) = (fod l2.toNatClampNeg) then fX2_isAheadOf_L2 n (l2 + (1 : Int32)) vxs fxd fod else gin l2 8 (gin l2 8 (if (fod l2.toNatClampNeg) ≤ (fxd l2.toNatClampNeg) then some (.inl (0 : Int32)) else some (.inl (1 : Int32)))))) := rfl
noncomputable def fX2_isAheadOf (vxs : Int32) (fxd : Nat → Int32) (fod : Nat → Int32)  : Option (Int32) := bs (fX2_isAheadOf_L2 FU (0 : Int32) vxs fxd fod) fun q5 => some (0 : Int32)
set_option maxHeartbeats 4000000 in
set_option maxRecDepth 100000 in
theorem c_X2_isAheadOf (l : Launch) (dC : Nat → ClassId) (dI : Nat → Nat → Nat) (cy : ClassId) (ax axd ao aod : Nat) (sz : Nat) (vxs : Int32) (fxd : Nat → Int32) (vos : Int32) (fod : Nat → Int32)  (res : Int32) (h : fX2_isAheadOf vxs fxd fod = some res) : Met l yX2_isAheadOf wsX2_isAheadOf ({ frames := 0, cells := 0, slots := 0, locals := 0 }) (va_Pc [.ref ax, .ref ao] (PW (dC, dI) cy sz [(ax, .inr (2, [.ref axd, .int vxs])), (axd, .inl (cy, 8, .inl fxd)), (ao, .inr (2, [.ref aod, .int vos])), (aod, .inl (cy, 8, .inl fod))])) (va_Qi (fun (r : Int32) (_ : Unit) => r = res ∧ bo r) (QW (dC, dI) cy (va_A [(ax, .inr (2, [.ref axd, .int vxs])), (axd, .inl (cy, 8, .inl fxd)), (ao, .inr (2, [.ref aod, .int vos])), (aod, .inl (cy, 8, .inl fod))] sz) [(ax, .inr (2, [.ref axd, .int vxs])), (axd, .inl (cy, 8, .inl fxd)), (ao, .inr (2, [.ref aod, .int vos])), (aod, .inl (cy, 8, .inl fod))]) (va_A [(ax, .inr (2, [.ref axd, .int vxs])), (axd, .inl (cy, 8, .inl fxd)), (ao, .inr (2, [.ref aod, .int vos])), (aod, .inl (cy, 8, .inl fod))] sz)) 0 0 (va_A [(ax, .inr (2, [.ref axd, .int vxs])), (axd, .inl (cy, 8, .inl fxd)), (ao, .inr (2, [.ref aod, .int vos])), (aod, .inl (cy, 8, .inl fod))] sz) := by
  refine Met.ofW (cc := cX2_isAheadOf) (maxL := 3) (ret := (some .boolean)) (by decide) rfl ?_
  intro p e s m args below meth c s₁ B hml hv
  obtain ⟨rfl, hsz, hP, hK, hD0, hN⟩ := hv
  have hx := B.exec
  have hb := B.bytes
  have hr := B.returns
  have hts := atoms_spec (ws := wsX2_isAheadOf) B.pre
  have hown : s.vm.findClass RX2 = some m.cls := findClass_of_methodNamed B.named
  have hlocks := B.notSynchronized
  subst hsz
  have hD := hD0.self (sz := s.heap.size)
  clear hD0
  generalize hAe : va_A [(ax, .inr (2, [.ref axd, .int vxs])), (axd, .inl (cy, 8, .inl fxd)), (ao, .inr (2, [.ref aod, .int vos])), (aod, .inl (cy, 8, .inl fod))] s.heap.size = A at hD ⊢
  have hA : ∀ q : Nat, s.heap.size ≤ q → A q := fun q h => by rw [← hAe]; exact Or.inr h
  have hS : va_S A s.heap s.heap [] := va_S.rf
  have hl := lv_entry ([.ref ax, .ref ao]) (n := 3) (Nat.le_of_ble_eq_true rfl)
  rw [lg_entry_eq]
  generalize (lg_sl ([.ref ax, .ref ao]) ++ List.replicate (3 - (lg_sl ([.ref ax, .ref ao])).length) Slot.unset).toArray = ls at hl ⊢
  replace hl : lv_has ls 3 [(0, .ref ax), (1, .ref ao)] := hl
  replace hP : va_P (dC, dI) vwCl [(ax, .inr (2, [.ref axd, .int vxs])), (axd, .inl (cy, 8, .inl fxd)), (ao, .inr (2, [.ref aod, .int vos])), (aod, .inl (cy, 8, .inl fod))] s.heap := hP
  obtain ⟨locs, hlocs⟩ : ∃ lc : List Loc, lc = [] := ⟨_, rfl⟩
  rw [← hlocs] at hS ⊢
  obtain ⟨H, hH⟩ : ∃ H : Heap, H = s.heap := ⟨_, rfl⟩
  have hP2 := hP; rw [← hH] at hP2
  have hS2 : va_S A s.heap H locs := by rw [hH]; exact hS
  suffices hgo : W p l e (headSpec wsX2_isAheadOf ({ frames := 0, cells := 0, slots := 0, locals := 0 })).room s m args below meth c H locs 0 0 (MQ below (va_Qi (fun (r : Int32) (_ : Unit) => r = res ∧ bo r) (QW (dC, dI) cy A [(ax, .inr (2, [.ref axd, .int vxs])), (axd, .inl (cy, 8, .inl fxd)), (ao, .inr (2, [.ref aod, .int vos])), (aod, .inl (cy, 8, .inl fod))]) A) args s 0 0 A) (F0 m 0 ls []) by rw [hH] at hgo; exact hgo
  clear hP hS
  rename' hP2 => hP, hS2 => hS
  have hin_X2 : ∀ w ∈ wsX20, w ∈ wsX2_isAheadOf := by decide +kernel
  have hf_9 := hts (.fieldLink RX2 9 "FewLooks$Row" "digits" "[I") (by decide +kernel)
  have hf_15 := hts (.fieldLink RX2 15 "FewLooks$Row" "size" "I") (by decide +kernel)
  unfold fX2_isAheadOf at h
  refine lv_iconst (v := (0 : Int32)) hx hb dX2_isAheadOf_0 (by decide) ?_
  refine lv_istore_n (lv' := [(2, .int (0 : Int32)), (0, .ref ax), (1, .ref ao)]) hx hb dX2_isAheadOf_1 rfl hl (by decide) rfl (fun ls hl => ?_)
  have L2_3 : ∀ (n : Nat) (l2 : Int32) (rs : ((Int32) ⊕ (Int32))) (H : Heap) (locs : List Loc) (ls : Array Slot), fX2_isAheadOf_L2 n l2 vxs fxd fod = some rs → lv_has ls 3 [(0, .ref ax), (1, .ref ao), (2, .int l2)] → va_P (dC, dI) vwCl [(ax, .inr (2, [.ref axd, .int vxs])), (axd, .inl (cy, 8, .inl fxd)), (ao, .inr (2, [.ref aod, .int vos])), (aod, .inl (cy, 8, .inl fod))] H → va_D A [(ax, .inr (2, [.ref axd, .int vxs])), (axd, .inl (cy, 8, .inl fxd)), (ao, .inr (2, [.ref aod, .int vos])), (aod, .inl (cy, 8, .inl fod))] → va_S A s.heap H locs → (∀ q, rs = .inl q → q = res) → (∀ q, rs = .inr q → (∀ (H : Heap) (locs : List Loc) (ls : Array Slot), lv_has ls 3 [(0, .ref ax), (1, .ref ao), (2, .int q)] → va_P (dC, dI) vwCl [(ax, .inr (2, [.ref axd, .int vxs])), (axd, .inl (cy, 8, .inl fxd)), (ao, .inr (2, [.ref aod, .int vos])), (aod, .inl (cy, 8, .inl fod))] H → va_D A [(ax, .inr (2, [.ref axd, .int vxs])), (axd, .inl (cy, 8, .inl fxd)), (ao, .inr (2, [.ref aod, .int vos])), (aod, .inl (cy, 8, .inl fod))] → va_S A s.heap H locs → W p l e (headSpec wsX2_isAheadOf ({ frames := 0, cells := 0, slots := 0, locals := 0 })).room s m args below meth c H locs 0 0 (MQ below (va_Qi (fun (r : Int32) (_ : Unit) => r = res ∧ bo r) (QW (dC, dI) cy A [(ax, .inr (2, [.ref axd, .int vxs])), (axd, .inl (cy, 8, .inl fxd)), (ao, .inr (2, [.ref aod, .int vos])), (aod, .inl (cy, 8, .inl fod))]) A) args s 0 0 A) (F0 m 52 ls []))) → W p l e (headSpec wsX2_isAheadOf ({ frames := 0, cells := 0, slots := 0, locals := 0 })).room s m args below meth c H locs 0 0 (MQ below (va_Qi (fun (r : Int32) (_ : Unit) => r = res ∧ bo r) (QW (dC, dI) cy A [(ax, .inr (2, [.ref axd, .int vxs])), (axd, .inl (cy, 8, .inl fxd)), (ao, .inr (2, [.ref aod, .int vos])), (aod, .inl (cy, 8, .inl fod))]) A) args s 0 0 A) (F0 m 2 ls []) := by
    intro n
    induction n with
    | zero =>
      intro l2 rs H locs ls h
      rw [fX2_isAheadOf_L2_0] at h
      cases h
    | succ n ih =>
      intro l2 rs H locs ls h hl hP hD hS kr kx
      rw [fX2_isAheadOf_L2_s] at h
      refine lv_iload_n hx hb dX2_isAheadOf_2 rfl (lv_at hl 2 rfl) ?_
      refine lv_aload_n hx hb dX2_isAheadOf_3 rfl (lv_at hl 0 rfl) ?_
      refine va_get (D := (dC, dI)) (ci := 2) (v := .int vxs) (C := RX2) (T := TX2) (N := 2) hx hb hts hin_X2 hown hK hP 0 rfl rfl 1 (by decide) (hf_15) (fun _ h9 => h9) rfl dX2_isAheadOf_4 ?_
      refine lv_icmp_ge (tgt := 52) hx hb dX2_isAheadOf_7 (by decide) (fun c3 => ?_) (fun c3 => ?_)
      · rw [if_pos c3] at h
        obtain rfl := Option.some.inj h
        exact kx _ rfl H locs ls (lv_sub hl [0, 1, 2] rfl) hP hD hS
      · rw [if_neg c3] at h
        refine lv_aload_n hx hb dX2_isAheadOf_10 rfl (lv_at hl 0 rfl) ?_
        refine va_get (D := (dC, dI)) (ci := 2) (v := .ref axd) (C := RX2) (T := TX2) (N := 2) hx hb hts hin_X2 hown hK hP 0 rfl rfl 0 (by decide) (hf_9) (fun _ h9 => h9) rfl dX2_isAheadOf_11 ?_
        refine lv_iload_n hx hb dX2_isAheadOf_14 rfl (lv_at hl 2 rfl) ?_
        obtain ⟨hi, h⟩ := gin_some h
        refine va_iald hx hb hK hP 1 0 rfl rfl hi dX2_isAheadOf_15 ?_
        refine lv_aload_n hx hb dX2_isAheadOf_16 rfl (lv_at hl 1 rfl) ?_
        refine va_get (D := (dC, dI)) (ci := 2) (v := .ref aod) (C := RX2) (T := TX2) (N := 2) hx hb hts hin_X2 hown hK hP 2 rfl rfl 0 (by decide) (hf_9) (fun _ h9 => h9) rfl dX2_isAheadOf_17 ?_
        refine lv_iload_n hx hb dX2_isAheadOf_20 rfl (lv_at hl 2 rfl) ?_
        obtain ⟨hi, h⟩ := gin_some h
        refine va_iald hx hb hK hP 3 0 rfl rfl hi dX2_isAheadOf_21 ?_
        refine lv_icmp_eq (tgt := 46) hx hb dX2_isAheadOf_22 (by decide) (fun c2 => ?_) (fun c2 => ?_)
        · rw [if_pos c2] at h
          refine lv_iinc (v := l2 + (1 : Int32)) (lv' := [(2, .int (l2 + (1 : Int32))), (0, .ref ax), (1, .ref ao)]) hx hb dX2_isAheadOf_46 hl (k := 2) rfl rfl (by decide) rfl (fun ls hl => ?_)
          refine lv_goto (tgt := 2) hx hb dX2_isAheadOf_49 (by decide) ?_
          exact ih (l2 + (1 : Int32)) rs H locs ls h (lv_sub hl [1, 2, 0] rfl) hP hD hS kr kx
        · rw [if_neg c2] at h
          refine lv_aload_n hx hb dX2_isAheadOf_25 rfl (lv_at hl 0 rfl) ?_
          refine va_get (D := (dC, dI)) (ci := 2) (v := .ref axd) (C := RX2) (T := TX2) (N := 2) hx hb hts hin_X2 hown hK hP 0 rfl rfl 0 (by decide) (hf_9) (fun _ h9 => h9) rfl dX2_isAheadOf_26 ?_
          refine lv_iload_n hx hb dX2_isAheadOf_29 rfl (lv_at hl 2 rfl) ?_
          obtain ⟨hi, h⟩ := gin_some h
          refine va_iald hx hb hK hP 1 0 rfl rfl hi dX2_isAheadOf_30 ?_
          refine lv_aload_n hx hb dX2_isAheadOf_31 rfl (lv_at hl 1 rfl) ?_
          refine va_get (D := (dC, dI)) (ci := 2) (v := .ref aod) (C := RX2) (T := TX2) (N := 2) hx hb hts hin_X2 hown hK hP 2 rfl rfl 0 (by decide) (hf_9) (fun _ h9 => h9) rfl dX2_isAheadOf_32 ?_
          refine lv_iload_n hx hb dX2_isAheadOf_35 rfl (lv_at hl 2 rfl) ?_
          obtain ⟨hi, h⟩ := gin_some h
          refine va_iald hx hb hK hP 3 0 rfl rfl hi dX2_isAheadOf_36 ?_
          refine lv_icmp_ge (tgt := 44) hx hb dX2_isAheadOf_37 (by decide) (fun c1 => ?_) (fun c1 => ?_)
          · rw [if_pos c1] at h
            refine lv_iconst (v := (0 : Int32)) hx hb dX2_isAheadOf_44 (by decide) ?_
            obtain rfl := Option.some.inj h
            have hk := kr _ rfl
            subst hk
            exact W.zret (v := (0 : Int32)) (ty := .boolean) hx hb hr bo_0 (fun t ht hW => ⟨⟨(0 : Int32), (), rfl, ⟨rfl, bo_0⟩, QW_mk hP hK hD ht hW⟩, hS.F ht⟩) hS.2.2 dX2_isAheadOf_45
          · rw [if_neg c1] at h
            refine lv_iconst (v := (1 : Int32)) hx hb dX2_isAheadOf_40 (by decide) ?_
            refine lv_goto (tgt := 45) hx hb dX2_isAheadOf_41 (by decide) ?_
            obtain rfl := Option.some.inj h
            have hk := kr _ rfl
            subst hk
            exact W.zret (v := (1 : Int32)) (ty := .boolean) hx hb hr bo_1 (fun t ht hW => ⟨⟨(1 : Int32), (), rfl, ⟨rfl, bo_1⟩, QW_mk hP hK hD ht hW⟩, hS.F ht⟩) hS.2.2 dX2_isAheadOf_45
  obtain ⟨rq5, hq5, kq5, xq5⟩ := bs_some h
  refine L2_3 FU (0 : Int32) rq5 H locs ls hq5 (lv_sub hl [1, 2, 0] rfl) hP hD hS kq5 (fun q5 eq5 H locs ls hl hP hD hS => ?_)
  replace h := xq5 q5 eq5
  refine lv_iconst (v := (0 : Int32)) hx hb dX2_isAheadOf_52 (by decide) ?_
  obtain rfl := Option.some.inj h
  exact W.zret (v := (0 : Int32)) (ty := .boolean) hx hb hr bo_0 (fun t ht hW => ⟨⟨(0 : Int32), (), rfl, ⟨rfl, bo_0⟩, QW_mk hP hK hD ht hW⟩, hS.F ht⟩) hS.2.2 dX2_isAheadOf_53

noncomputable def fX2_looks (vxs : Int32) (p0 : Int32) : Option (Int32) := if p0 = (0 : Int32) then some ((vxs * (vxs - (1 : Int32))) / (2 : Int32)) else if p0 = (1 : Int32) then some vxs else if p0 = (2 : Int32) then some (1 : Int32) else some (vxs * (vxs - (1 : Int32)))
set_option maxHeartbeats 4000000 in
set_option maxRecDepth 100000 in
theorem c_X2_looks (l : Launch) (dC : Nat → ClassId) (dI : Nat → Nat → Nat) (cy : ClassId) (ax : Nat) (sz : Nat) (vxs : Int32) (p0 : Int32) (res : Int32) (h : fX2_looks vxs p0 = some res) : Met l yX2_looks wsX2_looks ({ frames := 0, cells := 0, slots := 0, locals := 0 }) (va_Pc [.ref ax, .int p0] (PW (dC, dI) cy sz [(ax, .inr (2, [.ref axd, .int vxs]))])) (va_Qi (fun (r : Int32) (_ : Unit) => r = res) (QW (dC, dI) cy (va_A [(ax, .inr (2, [.ref axd, .int vxs]))] sz) [(ax, .inr (2, [.ref axd, .int vxs]))]) (va_A [(ax, .inr (2, [.ref axd, .int vxs]))] sz)) 0 0 (va_A [(ax, .inr (2, [.ref axd, .int vxs]))] sz) := by
  refine Met.ofW (cc := cX2_looks) (maxL := 2) (ret := (some .int)) (by decide) rfl ?_
  intro p e s m args below meth c s₁ B hml hv
  obtain ⟨rfl, hsz, hP, hK, hD0, hN⟩ := hv
  have hx := B.exec
  have hb := B.bytes
  have hr := B.returns
  have hts := atoms_spec (ws := wsX2_looks) B.pre
  have hown : s.vm.findClass RX2 = some m.cls := findClass_of_methodNamed B.named
  have hlocks := B.notSynchronized
  subst hsz
  have hD := hD0.self (sz := s.heap.size)
  clear hD0
  generalize hAe : va_A [(ax, .inr (2, [.ref axd, .int vxs]))] s.heap.size = A at hD ⊢
  have hA : ∀ q : Nat, s.heap.size ≤ q → A q := fun q h => by rw [← hAe]; exact Or.inr h
  have hS : va_S A s.heap s.heap [] := va_S.rf
  have hl := lv_entry ([.ref ax, .int p0]) (n := 2) (Nat.le_of_ble_eq_true rfl)
  rw [lg_entry_eq]
  generalize (lg_sl ([.ref ax, .int p0]) ++ List.replicate (2 - (lg_sl ([.ref ax, .int p0])).length) Slot.unset).toArray = ls at hl ⊢
  replace hl : lv_has ls 2 [(0, .ref ax), (1, .int p0)] := hl
  replace hP : va_P (dC, dI) vwCl [(ax, .inr (2, [.ref axd, .int vxs]))] s.heap := hP
  obtain ⟨locs, hlocs⟩ : ∃ lc : List Loc, lc = [] := ⟨_, rfl⟩
  rw [← hlocs] at hS ⊢
  obtain ⟨H, hH⟩ : ∃ H : Heap, H = s.heap := ⟨_, rfl⟩
  have hP2 := hP; rw [← hH] at hP2
  have hS2 : va_S A s.heap H locs := by rw [hH]; exact hS
  suffices hgo : W p l e (headSpec wsX2_looks ({ frames := 0, cells := 0, slots := 0, locals := 0 })).room s m args below meth c H locs 0 0 (MQ below (va_Qi (fun (r : Int32) (_ : Unit) => r = res) (QW (dC, dI) cy A [(ax, .inr (2, [.ref axd, .int vxs]))]) A) args s 0 0 A) (F0 m 0 ls []) by rw [hH] at hgo; exact hgo
  clear hP hS
  rename' hP2 => hP, hS2 => hS
  have hin_X2 : ∀ w ∈ wsX20, w ∈ wsX2_looks := by decide +kernel
  have hf_15 := hts (.fieldLink RX2 15 "FewLooks$Row" "size" "I") (by decide +kernel)
  unfold fX2_looks at h
  refine lv_iload_n hx hb dX2_looks_0 rfl (lv_at hl 1 rfl) ?_
  by_cases c1 : p0 = (0 : Int32)
  · rw [if_pos c1] at h
    have ec1 : (p0).toInt = 0 := by rw [c1]; rfl
    refine lv_tableIn (tgt := 28) hx hb dX2_looks_1 (by rw [ec1]; decide) (by rw [ec1]; decide) (by rw [ec1]; rfl) (by decide) ?_
    refine lv_aload_n hx hb dX2_looks_28 rfl (lv_at hl 0 rfl) ?_
    refine va_get (D := (dC, dI)) (ci := 2) (v := .int vxs) (C := RX2) (T := TX2) (N := 2) hx hb hts hin_X2 hown hK hP 0 rfl rfl 1 (by decide) (hf_15) (fun _ h9 => h9) rfl dX2_looks_29 ?_
    refine lv_aload_n hx hb dX2_looks_32 rfl (lv_at hl 0 rfl) ?_
    refine va_get (D := (dC, dI)) (ci := 2) (v := .int vxs) (C := RX2) (T := TX2) (N := 2) hx hb hts hin_X2 hown hK hP 0 rfl rfl 1 (by decide) (hf_15) (fun _ h9 => h9) rfl dX2_looks_33 ?_
    refine lv_iconst (v := (1 : Int32)) hx hb dX2_looks_36 (by decide) ?_
    refine lv_isub hx hb dX2_looks_37 ?_
    refine lv_imul hx hb dX2_looks_38 ?_
    refine lv_iconst (v := (2 : Int32)) hx hb dX2_looks_39 (by decide) ?_
    refine lv_idiv hx hb dX2_looks_40 (by decide) ?_
    obtain rfl := Option.some.inj h
    exact W.iret (v := (vxs * (vxs - (1 : Int32))) / (2 : Int32)) hx hb hr (fun t ht hW => ⟨⟨(vxs * (vxs - (1 : Int32))) / (2 : Int32), (), rfl, rfl, QW_mk hP hK hD ht hW⟩, hS.F ht⟩) hS.2.2 dX2_looks_41
  · rw [if_neg c1] at h
    by_cases c2 : p0 = (1 : Int32)
    · rw [if_pos c2] at h
      have ec2 : (p0).toInt = 1 := by rw [c2]; rfl
      refine lv_tableIn (tgt := 42) hx hb dX2_looks_1 (by rw [ec2]; decide) (by rw [ec2]; decide) (by rw [ec2]; rfl) (by decide) ?_
      refine lv_aload_n hx hb dX2_looks_42 rfl (lv_at hl 0 rfl) ?_
      refine va_get (D := (dC, dI)) (ci := 2) (v := .int vxs) (C := RX2) (T := TX2) (N := 2) hx hb hts hin_X2 hown hK hP 0 rfl rfl 1 (by decide) (hf_15) (fun _ h9 => h9) rfl dX2_looks_43 ?_
      obtain rfl := Option.some.inj h
      exact W.iret (v := vxs) hx hb hr (fun t ht hW => ⟨⟨vxs, (), rfl, rfl, QW_mk hP hK hD ht hW⟩, hS.F ht⟩) hS.2.2 dX2_looks_46
    · rw [if_neg c2] at h
      by_cases c3 : p0 = (2 : Int32)
      · rw [if_pos c3] at h
        have ec3 : (p0).toInt = 2 := by rw [c3]; rfl
        refine lv_tableIn (tgt := 47) hx hb dX2_looks_1 (by rw [ec3]; decide) (by rw [ec3]; decide) (by rw [ec3]; rfl) (by decide) ?_
        refine lv_iconst (v := (1 : Int32)) hx hb dX2_looks_47 (by decide) ?_
        obtain rfl := Option.some.inj h
        exact W.iret (v := (1 : Int32)) hx hb hr (fun t ht hW => ⟨⟨(1 : Int32), (), rfl, rfl, QW_mk hP hK hD ht hW⟩, hS.F ht⟩) hS.2.2 dX2_looks_48
      · rw [if_neg c3] at h
        have hout := tb_out (x := p0) (n := 3) (by decide) (fun k hk => by rcases (show k = 0 ∨ k = 1 ∨ k = 2 by omega) with rfl | rfl | rfl; all_goals assumption)
        refine lv_tableOut (tgt := 49) hx hb dX2_looks_1 hout (by decide) ?_
        refine lv_aload_n hx hb dX2_looks_49 rfl (lv_at hl 0 rfl) ?_
        refine va_get (D := (dC, dI)) (ci := 2) (v := .int vxs) (C := RX2) (T := TX2) (N := 2) hx hb hts hin_X2 hown hK hP 0 rfl rfl 1 (by decide) (hf_15) (fun _ h9 => h9) rfl dX2_looks_50 ?_
        refine lv_aload_n hx hb dX2_looks_53 rfl (lv_at hl 0 rfl) ?_
        refine va_get (D := (dC, dI)) (ci := 2) (v := .int vxs) (C := RX2) (T := TX2) (N := 2) hx hb hts hin_X2 hown hK hP 0 rfl rfl 1 (by decide) (hf_15) (fun _ h9 => h9) rfl dX2_looks_54 ?_
        refine lv_iconst (v := (1 : Int32)) hx hb dX2_looks_57 (by decide) ?_
        refine lv_isub hx hb dX2_looks_58 ?_
        refine lv_imul hx hb dX2_looks_59 ?_
        obtain rfl := Option.some.inj h
        exact W.iret (v := vxs * (vxs - (1 : Int32))) hx hb hr (fun t ht hW => ⟨⟨vxs * (vxs - (1 : Int32)), (), rfl, rfl, QW_mk hP hK hD ht hW⟩, hS.F ht⟩) hS.2.2 dX2_looks_60

noncomputable def fX2_risingPairs_L16 (n : Nat) (l1 : Int32) (l2 : Int32) (l3 : Int32) (vxs : Int32) (fxd : Nat → Int32) : Option (Int32 × Int32) := match n with
  | 0 => none
  | n + 1 => if vxs ≤ l3 then some (l1, l3) else gin l2 8 (gin l3 8 (if (fxd l3.toNatClampNeg) < (fxd l2.toNatClampNeg) then fX2_risingPairs_L16 n l1 l2 (l3 + (1 : Int32)) vxs fxd else fX2_risingPairs_L16 n (l1 + (1 : Int32)) l2 (l3 + (1 : Int32)) vxs fxd))
theorem fX2_risingPairs_L16_0 (l1 : Int32) (l2 : Int32) (l3 : Int32) (vxs : Int32) (fxd : Nat → Int32) : fX2_risingPairs_L16 0 l1 l2 l3 vxs fxd = none := rfl
theorem fX2_risingPairs_L16_s (n : Nat) (l1 : Int32) (l2 : Int32) (l3 : Int32) (vxs : Int32) (fxd : Nat → Int32) : fX2_risingPairs_L16 (n + 1) l1 l2 l3 vxs fxd = if vxs ≤ l3 then some (l1, l3) else gin l2 8 (gin l3 8 (if (fxd l3.toNatClampNeg) < (fxd l2.toNatClampNeg) then fX2_risingPairs_L16 n l1 l2 (l3 + (1 : Int32)) vxs fxd else fX2_risingPairs_L16 n (l1 + (1 : Int32)) l2 (l3 + (1 : Int32)) vxs fxd)) := rfl
noncomputable def fX2_risingPairs_L4 (n : Nat) (l1 : Int32) (l2 : Int32) (vxs : Int32) (fxd : Nat → Int32) : Option (Int32 × Int32) := match n with
  | 0 => none
  | n + 1 => if vxs ≤ l2 then some (l1, l2) else bd (fX2_risingPairs_L16 FU l1 l2 (l2 + (1 : Int32)) vxs fxd) fun q4 => fX2_risingPairs_L4 n q4.1 (l2 + (1 : Int32)) vxs fxd
theorem fX2_risingPairs_L4_0 (l1 : Int32) (l2 : Int32) (vxs : Int32) (fxd : Nat → Int32) : fX2_risingPairs_L4 0 l1 l2 vxs fxd = none := rfl
theorem fX2_risingPairs_L4_s (n : Nat) (l1 : Int32) (l2 : Int32) (vxs : Int32) (fxd : Nat → Int32) : fX2_risingPairs_L4 (n + 1) l1 l2 vxs fxd = if vxs ≤ l2 then some (l1, l2) else bd (fX2_risingPairs_L16 FU l1 l2 (l2 + (1 : Int32)) vxs fxd) fun q4 => fX2_risingPairs_L4 n q4.1 (l2 + (1 : Int32)) vxs fxd := rfl
noncomputable def fX2_risingPairs (vxs : Int32) (fxd : Nat → Int32)  : Option (Int32) := bd (fX2_risingPairs_L4 FU (0 : Int32) (0 : Int32) vxs fxd) fun q7 => some q7.1
set_option maxHeartbeats 4000000 in
set_option maxRecDepth 100000 in
theorem c_X2_risingPairs (l : Launch) (dC : Nat → ClassId) (dI : Nat → Nat → Nat) (cy : ClassId) (ax axd : Nat) (sz : Nat) (vxs : Int32) (fxd : Nat → Int32)  (res : Int32) (h : fX2_risingPairs vxs fxd = some res) : Met l yX2_risingPairs wsX2_risingPairs ({ frames := 0, cells := 0, slots := 0, locals := 0 }) (va_Pc [.ref ax] (PW (dC, dI) cy sz [(ax, .inr (2, [.ref axd, .int vxs])), (axd, .inl (cy, 8, .inl fxd))])) (va_Qi (fun (r : Int32) (_ : Unit) => r = res) (QW (dC, dI) cy (va_A [(ax, .inr (2, [.ref axd, .int vxs])), (axd, .inl (cy, 8, .inl fxd))] sz) [(ax, .inr (2, [.ref axd, .int vxs])), (axd, .inl (cy, 8, .inl fxd))]) (va_A [(ax, .inr (2, [.ref axd, .int vxs])), (axd, .inl (cy, 8, .inl fxd))] sz)) 0 0 (va_A [(ax, .inr (2, [.ref axd, .int vxs])), (axd, .inl (cy, 8, .inl fxd))] sz) := by
  refine Met.ofW (cc := cX2_risingPairs) (maxL := 4) (ret := (some .int)) (by decide) rfl ?_
  intro p e s m args below meth c s₁ B hml hv
  obtain ⟨rfl, hsz, hP, hK, hD0, hN⟩ := hv
  have hx := B.exec
  have hb := B.bytes
  have hr := B.returns
  have hts := atoms_spec (ws := wsX2_risingPairs) B.pre
  have hown : s.vm.findClass RX2 = some m.cls := findClass_of_methodNamed B.named
  have hlocks := B.notSynchronized
  subst hsz
  have hD := hD0.self (sz := s.heap.size)
  clear hD0
  generalize hAe : va_A [(ax, .inr (2, [.ref axd, .int vxs])), (axd, .inl (cy, 8, .inl fxd))] s.heap.size = A at hD ⊢
  have hA : ∀ q : Nat, s.heap.size ≤ q → A q := fun q h => by rw [← hAe]; exact Or.inr h
  have hS : va_S A s.heap s.heap [] := va_S.rf
  have hl := lv_entry ([.ref ax]) (n := 4) (Nat.le_of_ble_eq_true rfl)
  rw [lg_entry_eq]
  generalize (lg_sl ([.ref ax]) ++ List.replicate (4 - (lg_sl ([.ref ax])).length) Slot.unset).toArray = ls at hl ⊢
  replace hl : lv_has ls 4 [(0, .ref ax)] := hl
  replace hP : va_P (dC, dI) vwCl [(ax, .inr (2, [.ref axd, .int vxs])), (axd, .inl (cy, 8, .inl fxd))] s.heap := hP
  obtain ⟨locs, hlocs⟩ : ∃ lc : List Loc, lc = [] := ⟨_, rfl⟩
  rw [← hlocs] at hS ⊢
  obtain ⟨H, hH⟩ : ∃ H : Heap, H = s.heap := ⟨_, rfl⟩
  have hP2 := hP; rw [← hH] at hP2
  have hS2 : va_S A s.heap H locs := by rw [hH]; exact hS
  suffices hgo : W p l e (headSpec wsX2_risingPairs ({ frames := 0, cells := 0, slots := 0, locals := 0 })).room s m args below meth c H locs 0 0 (MQ below (va_Qi (fun (r : Int32) (_ : Unit) => r = res) (QW (dC, dI) cy A [(ax, .inr (2, [.ref axd, .int vxs])), (axd, .inl (cy, 8, .inl fxd))]) A) args s 0 0 A) (F0 m 0 ls []) by rw [hH] at hgo; exact hgo
  clear hP hS
  rename' hP2 => hP, hS2 => hS
  have hin_X2 : ∀ w ∈ wsX20, w ∈ wsX2_risingPairs := by decide +kernel
  have hf_9 := hts (.fieldLink RX2 9 "FewLooks$Row" "digits" "[I") (by decide +kernel)
  have hf_15 := hts (.fieldLink RX2 15 "FewLooks$Row" "size" "I") (by decide +kernel)
  unfold fX2_risingPairs at h
  refine lv_iconst (v := (0 : Int32)) hx hb dX2_risingPairs_0 (by decide) ?_
  refine lv_istore_n (lv' := [(1, .int (0 : Int32)), (0, .ref ax)]) hx hb dX2_risingPairs_1 rfl hl (by decide) rfl (fun ls hl => ?_)
  refine lv_iconst (v := (0 : Int32)) hx hb dX2_risingPairs_2 (by decide) ?_
  refine lv_istore_n (lv' := [(2, .int (0 : Int32)), (1, .int (0 : Int32)), (0, .ref ax)]) hx hb dX2_risingPairs_3 rfl hl (by decide) rfl (fun ls hl => ?_)
  have L4_5 : ∀ (n : Nat) (l1 : Int32) (l2 : Int32) (rs : (Int32 × Int32)) (H : Heap) (locs : List Loc) (ls : Array Slot), fX2_risingPairs_L4 n l1 l2 vxs fxd = some rs → lv_has ls 4 [(0, .ref ax), (1, .int l1), (2, .int l2)] → va_P (dC, dI) vwCl [(ax, .inr (2, [.ref axd, .int vxs])), (axd, .inl (cy, 8, .inl fxd))] H → va_D A [(ax, .inr (2, [.ref axd, .int vxs])), (axd, .inl (cy, 8, .inl fxd))] → va_S A s.heap H locs → (∀ (H : Heap) (locs : List Loc) (ls : Array Slot), lv_has ls 4 [(0, .ref ax), (1, .int rs.1), (2, .int rs.2)] → va_P (dC, dI) vwCl [(ax, .inr (2, [.ref axd, .int vxs])), (axd, .inl (cy, 8, .inl fxd))] H → va_D A [(ax, .inr (2, [.ref axd, .int vxs])), (axd, .inl (cy, 8, .inl fxd))] → va_S A s.heap H locs → W p l e (headSpec wsX2_risingPairs ({ frames := 0, cells := 0, slots := 0, locals := 0 })).room s m args below meth c H locs 0 0 (MQ below (va_Qi (fun (r : Int32) (_ : Unit) => r = res) (QW (dC, dI) cy A [(ax, .inr (2, [.ref axd, .int vxs])), (axd, .inl (cy, 8, .inl fxd))]) A) args s 0 0 A) (F0 m 54 ls [])) → W p l e (headSpec wsX2_risingPairs ({ frames := 0, cells := 0, slots := 0, locals := 0 })).room s m args below meth c H locs 0 0 (MQ below (va_Qi (fun (r : Int32) (_ : Unit) => r = res) (QW (dC, dI) cy A [(ax, .inr (2, [.ref axd, .int vxs])), (axd, .inl (cy, 8, .inl fxd))]) A) args s 0 0 A) (F0 m 4 ls []) := by
    intro n
    induction n with
    | zero =>
      intro l1 l2 rs H locs ls h
      rw [fX2_risingPairs_L4_0] at h
      cases h
    | succ n ih =>
      intro l1 l2 rs H locs ls h hl hP hD hS K
      rw [fX2_risingPairs_L4_s] at h
      refine lv_iload_n hx hb dX2_risingPairs_4 rfl (lv_at hl 2 rfl) ?_
      refine lv_aload_n hx hb dX2_risingPairs_5 rfl (lv_at hl 0 rfl) ?_
      refine va_get (D := (dC, dI)) (ci := 2) (v := .int vxs) (C := RX2) (T := TX2) (N := 2) hx hb hts hin_X2 hown hK hP 0 rfl rfl 1 (by decide) (hf_15) (fun _ h9 => h9) rfl dX2_risingPairs_6 ?_
      refine lv_icmp_ge (tgt := 54) hx hb dX2_risingPairs_9 (by decide) (fun c5 => ?_) (fun c5 => ?_)
      · rw [if_pos c5] at h
        obtain rfl := Option.some.inj h
        exact K H locs ls (lv_sub hl [0, 1, 2] rfl) hP hD hS
      · rw [if_neg c5] at h
        refine lv_iload_n hx hb dX2_risingPairs_12 rfl (lv_at hl 2 rfl) ?_
        refine lv_iconst (v := (1 : Int32)) hx hb dX2_risingPairs_13 (by decide) ?_
        refine lv_iadd hx hb dX2_risingPairs_14 ?_
        refine lv_istore_n (lv' := [(3, .int (l2 + (1 : Int32))), (0, .ref ax), (1, .int l1), (2, .int l2)]) hx hb dX2_risingPairs_15 rfl hl (by decide) rfl (fun ls hl => ?_)
        have L16_2 : ∀ (n : Nat) (l1 : Int32) (l2 : Int32) (l3 : Int32) (rs : (Int32 × Int32)) (H : Heap) (locs : List Loc) (ls : Array Slot), fX2_risingPairs_L16 n l1 l2 l3 vxs fxd = some rs → lv_has ls 4 [(0, .ref ax), (1, .int l1), (2, .int l2), (3, .int l3)] → va_P (dC, dI) vwCl [(ax, .inr (2, [.ref axd, .int vxs])), (axd, .inl (cy, 8, .inl fxd))] H → va_D A [(ax, .inr (2, [.ref axd, .int vxs])), (axd, .inl (cy, 8, .inl fxd))] → va_S A s.heap H locs → (∀ (H : Heap) (locs : List Loc) (ls : Array Slot), lv_has ls 4 [(0, .ref ax), (1, .int rs.1), (2, .int l2), (3, .int rs.2)] → va_P (dC, dI) vwCl [(ax, .inr (2, [.ref axd, .int vxs])), (axd, .inl (cy, 8, .inl fxd))] H → va_D A [(ax, .inr (2, [.ref axd, .int vxs])), (axd, .inl (cy, 8, .inl fxd))] → va_S A s.heap H locs → W p l e (headSpec wsX2_risingPairs ({ frames := 0, cells := 0, slots := 0, locals := 0 })).room s m args below meth c H locs 0 0 (MQ below (va_Qi (fun (r : Int32) (_ : Unit) => r = res) (QW (dC, dI) cy A [(ax, .inr (2, [.ref axd, .int vxs])), (axd, .inl (cy, 8, .inl fxd))]) A) args s 0 0 A) (F0 m 48 ls [])) → W p l e (headSpec wsX2_risingPairs ({ frames := 0, cells := 0, slots := 0, locals := 0 })).room s m args below meth c H locs 0 0 (MQ below (va_Qi (fun (r : Int32) (_ : Unit) => r = res) (QW (dC, dI) cy A [(ax, .inr (2, [.ref axd, .int vxs])), (axd, .inl (cy, 8, .inl fxd))]) A) args s 0 0 A) (F0 m 16 ls []) := by
          intro n
          induction n with
          | zero =>
            intro l1 l2 l3 rs H locs ls h
            rw [fX2_risingPairs_L16_0] at h
            cases h
          | succ n ih =>
            intro l1 l2 l3 rs H locs ls h hl hP hD hS K
            rw [fX2_risingPairs_L16_s] at h
            refine lv_iload_n hx hb dX2_risingPairs_16 rfl (lv_at hl 3 rfl) ?_
            refine lv_aload_n hx hb dX2_risingPairs_17 rfl (lv_at hl 0 rfl) ?_
            refine va_get (D := (dC, dI)) (ci := 2) (v := .int vxs) (C := RX2) (T := TX2) (N := 2) hx hb hts hin_X2 hown hK hP 0 rfl rfl 1 (by decide) (hf_15) (fun _ h9 => h9) rfl dX2_risingPairs_18 ?_
            refine lv_icmp_ge (tgt := 48) hx hb dX2_risingPairs_21 (by decide) (fun c2 => ?_) (fun c2 => ?_)
            · rw [if_pos c2] at h
              obtain rfl := Option.some.inj h
              exact K H locs ls (lv_sub hl [0, 1, 2, 3] rfl) hP hD hS
            · rw [if_neg c2] at h
              refine lv_aload_n hx hb dX2_risingPairs_24 rfl (lv_at hl 0 rfl) ?_
              refine va_get (D := (dC, dI)) (ci := 2) (v := .ref axd) (C := RX2) (T := TX2) (N := 2) hx hb hts hin_X2 hown hK hP 0 rfl rfl 0 (by decide) (hf_9) (fun _ h9 => h9) rfl dX2_risingPairs_25 ?_
              refine lv_iload_n hx hb dX2_risingPairs_28 rfl (lv_at hl 2 rfl) ?_
              obtain ⟨hi, h⟩ := gin_some h
              refine va_iald hx hb hK hP 1 0 rfl rfl hi dX2_risingPairs_29 ?_
              refine lv_aload_n hx hb dX2_risingPairs_30 rfl (lv_at hl 0 rfl) ?_
              refine va_get (D := (dC, dI)) (ci := 2) (v := .ref axd) (C := RX2) (T := TX2) (N := 2) hx hb hts hin_X2 hown hK hP 0 rfl rfl 0 (by decide) (hf_9) (fun _ h9 => h9) rfl dX2_risingPairs_31 ?_
              refine lv_iload_n hx hb dX2_risingPairs_34 rfl (lv_at hl 3 rfl) ?_
              obtain ⟨hi, h⟩ := gin_some h
              refine va_iald hx hb hK hP 1 0 rfl rfl hi dX2_risingPairs_35 ?_
              refine lv_icmp_gt (tgt := 42) hx hb dX2_risingPairs_36 (by decide) (fun c1 => ?_) (fun c1 => ?_)
              · rw [if_pos c1] at h
                refine lv_iinc (v := l3 + (1 : Int32)) (lv' := [(3, .int (l3 + (1 : Int32))), (0, .ref ax), (1, .int l1), (2, .int l2)]) hx hb dX2_risingPairs_42 hl (k := 3) rfl rfl (by decide) rfl (fun ls hl => ?_)
                refine lv_goto (tgt := 16) hx hb dX2_risingPairs_45 (by decide) ?_
                exact ih l1 l2 (l3 + (1 : Int32)) rs H locs ls h (lv_sub hl [1, 2, 3, 0] rfl) hP hD hS K
              · rw [if_neg c1] at h
                refine lv_iinc (v := l1 + (1 : Int32)) (lv' := [(1, .int (l1 + (1 : Int32))), (0, .ref ax), (2, .int l2), (3, .int l3)]) hx hb dX2_risingPairs_39 hl (k := 1) rfl rfl (by decide) rfl (fun ls hl => ?_)
                refine lv_iinc (v := l3 + (1 : Int32)) (lv' := [(3, .int (l3 + (1 : Int32))), (1, .int (l1 + (1 : Int32))), (0, .ref ax), (2, .int l2)]) hx hb dX2_risingPairs_42 hl (k := 3) rfl rfl (by decide) rfl (fun ls hl => ?_)
                refine lv_goto (tgt := 16) hx hb dX2_risingPairs_45 (by decide) ?_
                exact ih (l1 + (1 : Int32)) l2 (l3 + (1 : Int32)) rs H locs ls h (lv_sub hl [2, 1, 3, 0] rfl) hP hD hS K
        obtain ⟨q4, hq4, h⟩ := bd_some h
        refine L16_2 FU l1 l2 (l2 + (1 : Int32)) q4 H locs ls hq4 (lv_sub hl [1, 2, 3, 0] rfl) hP hD hS (fun H locs ls hl hP hD hS => ?_)
        refine lv_iinc (v := l2 + (1 : Int32)) (lv' := [(2, .int (l2 + (1 : Int32))), (0, .ref ax), (1, .int q4.1), (3, .int q4.2)]) hx hb dX2_risingPairs_48 hl (k := 2) rfl rfl (by decide) rfl (fun ls hl => ?_)
        refine lv_goto (tgt := 4) hx hb dX2_risingPairs_51 (by decide) ?_
        exact ih q4.1 (l2 + (1 : Int32)) rs H locs ls h (lv_sub hl [1, 2, 0] rfl) hP hD hS K
  obtain ⟨q7, hq7, h⟩ := bd_some h
  refine L4_5 FU (0 : Int32) (0 : Int32) q7 H locs ls hq7 (lv_sub hl [2, 1, 0] rfl) hP hD hS (fun H locs ls hl hP hD hS => ?_)
  refine lv_iload_n hx hb dX2_risingPairs_54 rfl (lv_at hl 1 rfl) ?_
  obtain rfl := Option.some.inj h
  exact W.iret (v := q7.1) hx hb hr (fun t ht hW => ⟨⟨q7.1, (), rfl, rfl, QW_mk hP hK hD ht hW⟩, hS.F ht⟩) hS.2.2 dX2_risingPairs_55

noncomputable def fX2_mirroredPlaces_L4 (n : Nat) (l1 : Int32) (l2 : Int32) (vxs : Int32) (fxd : Nat → Int32) : Option (Int32 × Int32) := match n with
  | 0 => none
  | n + 1 => if vxs ≤ l2 then some (l1, l2) else gin l2 8 (gin ((vxs - (1 : Int32)) - l2) 8 (if (fxd l2.toNatClampNeg) = (fxd ((vxs - (1 : Int32)) - l2).toNatClampNeg) then fX2_mirroredPlaces_L4 n (l1 + (1 : Int32)) (l2 + (1 : Int32)) vxs fxd else fX2_mirroredPlaces_L4 n l1 (l2 + (1 : Int32)) vxs fxd))
theorem fX2_mirroredPlaces_L4_0 (l1 : Int32) (l2 : Int32) (vxs : Int32) (fxd : Nat → Int32) : fX2_mirroredPlaces_L4 0 l1 l2 vxs fxd = none := rfl
theorem fX2_mirroredPlaces_L4_s (n : Nat) (l1 : Int32) (l2 : Int32) (vxs : Int32) (fxd : Nat → Int32) : fX2_mirroredPlaces_L4 (n + 1) l1 l2 vxs fxd = if vxs ≤ l2 then some (l1, l2) else gin l2 8 (gin ((vxs - (1 : Int32)) - l2) 8 (if (fxd l2.toNatClampNeg) = (fxd ((vxs - (1 : Int32)) - l2).toNatClampNeg) then fX2_mirroredPlaces_L4 n (l1 + (1 : Int32)) (l2 + (1 : Int32)) vxs fxd else fX2_mirroredPlaces_L4 n l1 (l2 + (1 : Int32)) vxs fxd)) := rfl
noncomputable def fX2_mirroredPlaces (vxs : Int32) (fxd : Nat → Int32)  : Option (Int32) := bd (fX2_mirroredPlaces_L4 FU (0 : Int32) (0 : Int32) vxs fxd) fun q4 => some q4.1
set_option maxHeartbeats 4000000 in
set_option maxRecDepth 100000 in
theorem c_X2_mirroredPlaces (l : Launch) (dC : Nat → ClassId) (dI : Nat → Nat → Nat) (cy : ClassId) (ax axd : Nat) (sz : Nat) (vxs : Int32) (fxd : Nat → Int32)  (res : Int32) (h : fX2_mirroredPlaces vxs fxd = some res) : Met l yX2_mirroredPlaces wsX2_mirroredPlaces ({ frames := 0, cells := 0, slots := 0, locals := 0 }) (va_Pc [.ref ax] (PW (dC, dI) cy sz [(ax, .inr (2, [.ref axd, .int vxs])), (axd, .inl (cy, 8, .inl fxd))])) (va_Qi (fun (r : Int32) (_ : Unit) => r = res) (QW (dC, dI) cy (va_A [(ax, .inr (2, [.ref axd, .int vxs])), (axd, .inl (cy, 8, .inl fxd))] sz) [(ax, .inr (2, [.ref axd, .int vxs])), (axd, .inl (cy, 8, .inl fxd))]) (va_A [(ax, .inr (2, [.ref axd, .int vxs])), (axd, .inl (cy, 8, .inl fxd))] sz)) 0 0 (va_A [(ax, .inr (2, [.ref axd, .int vxs])), (axd, .inl (cy, 8, .inl fxd))] sz) := by
  refine Met.ofW (cc := cX2_mirroredPlaces) (maxL := 3) (ret := (some .int)) (by decide) rfl ?_
  intro p e s m args below meth c s₁ B hml hv
  obtain ⟨rfl, hsz, hP, hK, hD0, hN⟩ := hv
  have hx := B.exec
  have hb := B.bytes
  have hr := B.returns
  have hts := atoms_spec (ws := wsX2_mirroredPlaces) B.pre
  have hown : s.vm.findClass RX2 = some m.cls := findClass_of_methodNamed B.named
  have hlocks := B.notSynchronized
  subst hsz
  have hD := hD0.self (sz := s.heap.size)
  clear hD0
  generalize hAe : va_A [(ax, .inr (2, [.ref axd, .int vxs])), (axd, .inl (cy, 8, .inl fxd))] s.heap.size = A at hD ⊢
  have hA : ∀ q : Nat, s.heap.size ≤ q → A q := fun q h => by rw [← hAe]; exact Or.inr h
  have hS : va_S A s.heap s.heap [] := va_S.rf
  have hl := lv_entry ([.ref ax]) (n := 3) (Nat.le_of_ble_eq_true rfl)
  rw [lg_entry_eq]
  generalize (lg_sl ([.ref ax]) ++ List.replicate (3 - (lg_sl ([.ref ax])).length) Slot.unset).toArray = ls at hl ⊢
  replace hl : lv_has ls 3 [(0, .ref ax)] := hl
  replace hP : va_P (dC, dI) vwCl [(ax, .inr (2, [.ref axd, .int vxs])), (axd, .inl (cy, 8, .inl fxd))] s.heap := hP
  obtain ⟨locs, hlocs⟩ : ∃ lc : List Loc, lc = [] := ⟨_, rfl⟩
  rw [← hlocs] at hS ⊢
  obtain ⟨H, hH⟩ : ∃ H : Heap, H = s.heap := ⟨_, rfl⟩
  have hP2 := hP; rw [← hH] at hP2
  have hS2 : va_S A s.heap H locs := by rw [hH]; exact hS
  suffices hgo : W p l e (headSpec wsX2_mirroredPlaces ({ frames := 0, cells := 0, slots := 0, locals := 0 })).room s m args below meth c H locs 0 0 (MQ below (va_Qi (fun (r : Int32) (_ : Unit) => r = res) (QW (dC, dI) cy A [(ax, .inr (2, [.ref axd, .int vxs])), (axd, .inl (cy, 8, .inl fxd))]) A) args s 0 0 A) (F0 m 0 ls []) by rw [hH] at hgo; exact hgo
  clear hP hS
  rename' hP2 => hP, hS2 => hS
  have hin_X2 : ∀ w ∈ wsX20, w ∈ wsX2_mirroredPlaces := by decide +kernel
  have hf_9 := hts (.fieldLink RX2 9 "FewLooks$Row" "digits" "[I") (by decide +kernel)
  have hf_15 := hts (.fieldLink RX2 15 "FewLooks$Row" "size" "I") (by decide +kernel)
  unfold fX2_mirroredPlaces at h
  refine lv_iconst (v := (0 : Int32)) hx hb dX2_mirroredPlaces_0 (by decide) ?_
  refine lv_istore_n (lv' := [(1, .int (0 : Int32)), (0, .ref ax)]) hx hb dX2_mirroredPlaces_1 rfl hl (by decide) rfl (fun ls hl => ?_)
  refine lv_iconst (v := (0 : Int32)) hx hb dX2_mirroredPlaces_2 (by decide) ?_
  refine lv_istore_n (lv' := [(2, .int (0 : Int32)), (1, .int (0 : Int32)), (0, .ref ax)]) hx hb dX2_mirroredPlaces_3 rfl hl (by decide) rfl (fun ls hl => ?_)
  have L4_2 : ∀ (n : Nat) (l1 : Int32) (l2 : Int32) (rs : (Int32 × Int32)) (H : Heap) (locs : List Loc) (ls : Array Slot), fX2_mirroredPlaces_L4 n l1 l2 vxs fxd = some rs → lv_has ls 3 [(0, .ref ax), (1, .int l1), (2, .int l2)] → va_P (dC, dI) vwCl [(ax, .inr (2, [.ref axd, .int vxs])), (axd, .inl (cy, 8, .inl fxd))] H → va_D A [(ax, .inr (2, [.ref axd, .int vxs])), (axd, .inl (cy, 8, .inl fxd))] → va_S A s.heap H locs → (∀ (H : Heap) (locs : List Loc) (ls : Array Slot), lv_has ls 3 [(0, .ref ax), (1, .int rs.1), (2, .int rs.2)] → va_P (dC, dI) vwCl [(ax, .inr (2, [.ref axd, .int vxs])), (axd, .inl (cy, 8, .inl fxd))] H → va_D A [(ax, .inr (2, [.ref axd, .int vxs])), (axd, .inl (cy, 8, .inl fxd))] → va_S A s.heap H locs → W p l e (headSpec wsX2_mirroredPlaces ({ frames := 0, cells := 0, slots := 0, locals := 0 })).room s m args below meth c H locs 0 0 (MQ below (va_Qi (fun (r : Int32) (_ : Unit) => r = res) (QW (dC, dI) cy A [(ax, .inr (2, [.ref axd, .int vxs])), (axd, .inl (cy, 8, .inl fxd))]) A) args s 0 0 A) (F0 m 43 ls [])) → W p l e (headSpec wsX2_mirroredPlaces ({ frames := 0, cells := 0, slots := 0, locals := 0 })).room s m args below meth c H locs 0 0 (MQ below (va_Qi (fun (r : Int32) (_ : Unit) => r = res) (QW (dC, dI) cy A [(ax, .inr (2, [.ref axd, .int vxs])), (axd, .inl (cy, 8, .inl fxd))]) A) args s 0 0 A) (F0 m 4 ls []) := by
    intro n
    induction n with
    | zero =>
      intro l1 l2 rs H locs ls h
      rw [fX2_mirroredPlaces_L4_0] at h
      cases h
    | succ n ih =>
      intro l1 l2 rs H locs ls h hl hP hD hS K
      rw [fX2_mirroredPlaces_L4_s] at h
      refine lv_iload_n hx hb dX2_mirroredPlaces_4 rfl (lv_at hl 2 rfl) ?_
      refine lv_aload_n hx hb dX2_mirroredPlaces_5 rfl (lv_at hl 0 rfl) ?_
      refine va_get (D := (dC, dI)) (ci := 2) (v := .int vxs) (C := RX2) (T := TX2) (N := 2) hx hb hts hin_X2 hown hK hP 0 rfl rfl 1 (by decide) (hf_15) (fun _ h9 => h9) rfl dX2_mirroredPlaces_6 ?_
      refine lv_icmp_ge (tgt := 43) hx hb dX2_mirroredPlaces_9 (by decide) (fun c2 => ?_) (fun c2 => ?_)
      · rw [if_pos c2] at h
        obtain rfl := Option.some.inj h
        exact K H locs ls (lv_sub hl [0, 1, 2] rfl) hP hD hS
      · rw [if_neg c2] at h
        refine lv_aload_n hx hb dX2_mirroredPlaces_12 rfl (lv_at hl 0 rfl) ?_
        refine va_get (D := (dC, dI)) (ci := 2) (v := .ref axd) (C := RX2) (T := TX2) (N := 2) hx hb hts hin_X2 hown hK hP 0 rfl rfl 0 (by decide) (hf_9) (fun _ h9 => h9) rfl dX2_mirroredPlaces_13 ?_
        refine lv_iload_n hx hb dX2_mirroredPlaces_16 rfl (lv_at hl 2 rfl) ?_
        obtain ⟨hi, h⟩ := gin_some h
        refine va_iald hx hb hK hP 1 0 rfl rfl hi dX2_mirroredPlaces_17 ?_
        refine lv_aload_n hx hb dX2_mirroredPlaces_18 rfl (lv_at hl 0 rfl) ?_
        refine va_get (D := (dC, dI)) (ci := 2) (v := .ref axd) (C := RX2) (T := TX2) (N := 2) hx hb hts hin_X2 hown hK hP 0 rfl rfl 0 (by decide) (hf_9) (fun _ h9 => h9) rfl dX2_mirroredPlaces_19 ?_
        refine lv_aload_n hx hb dX2_mirroredPlaces_22 rfl (lv_at hl 0 rfl) ?_
        refine va_get (D := (dC, dI)) (ci := 2) (v := .int vxs) (C := RX2) (T := TX2) (N := 2) hx hb hts hin_X2 hown hK hP 0 rfl rfl 1 (by decide) (hf_15) (fun _ h9 => h9) rfl dX2_mirroredPlaces_23 ?_
        refine lv_iconst (v := (1 : Int32)) hx hb dX2_mirroredPlaces_26 (by decide) ?_
        refine lv_isub hx hb dX2_mirroredPlaces_27 ?_
        refine lv_iload_n hx hb dX2_mirroredPlaces_28 rfl (lv_at hl 2 rfl) ?_
        refine lv_isub hx hb dX2_mirroredPlaces_29 ?_
        obtain ⟨hi, h⟩ := gin_some h
        refine va_iald hx hb hK hP 1 0 rfl rfl hi dX2_mirroredPlaces_30 ?_
        refine lv_icmp_ne (tgt := 37) hx hb dX2_mirroredPlaces_31 (by decide) (fun c1 => ?_) (fun c1 => ?_)
        · rw [if_neg c1] at h
          refine lv_iinc (v := l2 + (1 : Int32)) (lv' := [(2, .int (l2 + (1 : Int32))), (0, .ref ax), (1, .int l1)]) hx hb dX2_mirroredPlaces_37 hl (k := 2) rfl rfl (by decide) rfl (fun ls hl => ?_)
          refine lv_goto (tgt := 4) hx hb dX2_mirroredPlaces_40 (by decide) ?_
          exact ih l1 (l2 + (1 : Int32)) rs H locs ls h (lv_sub hl [1, 2, 0] rfl) hP hD hS K
        · rw [if_pos c1] at h
          refine lv_iinc (v := l1 + (1 : Int32)) (lv' := [(1, .int (l1 + (1 : Int32))), (0, .ref ax), (2, .int l2)]) hx hb dX2_mirroredPlaces_34 hl (k := 1) rfl rfl (by decide) rfl (fun ls hl => ?_)
          refine lv_iinc (v := l2 + (1 : Int32)) (lv' := [(2, .int (l2 + (1 : Int32))), (1, .int (l1 + (1 : Int32))), (0, .ref ax)]) hx hb dX2_mirroredPlaces_37 hl (k := 2) rfl rfl (by decide) rfl (fun ls hl => ?_)
          refine lv_goto (tgt := 4) hx hb dX2_mirroredPlaces_40 (by decide) ?_
          exact ih (l1 + (1 : Int32)) (l2 + (1 : Int32)) rs H locs ls h (lv_sub hl [2, 1, 0] rfl) hP hD hS K
  obtain ⟨q4, hq4, h⟩ := bd_some h
  refine L4_2 FU (0 : Int32) (0 : Int32) q4 H locs ls hq4 (lv_sub hl [2, 1, 0] rfl) hP hD hS (fun H locs ls hl hP hD hS => ?_)
  refine lv_iload_n hx hb dX2_mirroredPlaces_43 rfl (lv_at hl 1 rfl) ?_
  obtain rfl := Option.some.inj h
  exact W.iret (v := q4.1) hx hb hr (fun t ht hW => ⟨⟨q4.1, (), rfl, rfl, QW_mk hP hK hD ht hW⟩, hS.F ht⟩) hS.2.2 dX2_mirroredPlaces_44

noncomputable def fX2_alikeShifts_L14 (n : Nat) (l1 : Int32) (l2 : Int32) (l3 : Int32) (vxs : Int32) (fxd : Nat → Int32) : Option (Int32 × Int32) := match n with
  | 0 => none
  | n + 1 => if vxs ≤ l3 then some (l1, l3) else if l2 = l3 then fX2_alikeShifts_L14 n l1 l2 (l3 + (1 : Int32)) vxs fxd else gin l2 8 (gin l3 8 (if (fxd l2.toNatClampNeg) = (fxd l3.toNatClampNeg) then fX2_alikeShifts_L14 n (l1 + (1 : Int32)) l2 (l3 + (1 : Int32)) vxs fxd else fX2_alikeShifts_L14 n l1 l2 (l3 + (1 : Int32)) vxs fxd))
theorem fX2_alikeShifts_L14_0 (l1 : Int32) (l2 : Int32) (l3 : Int32) (vxs : Int32) (fxd : Nat → Int32) : fX2_alikeShifts_L14 0 l1 l2 l3 vxs fxd = none := rfl
theorem fX2_alikeShifts_L14_s (n : Nat) (l1 : Int32) (l2 : Int32) (l3 : Int32) (vxs : Int32) (fxd : Nat → Int32) : fX2_alikeShifts_L14 (n + 1) l1 l2 l3 vxs fxd = if vxs ≤ l3 then some (l1, l3) else if l2 = l3 then fX2_alikeShifts_L14 n l1 l2 (l3 + (1 : Int32)) vxs fxd else gin l2 8 (gin l3 8 (if (fxd l2.toNatClampNeg) = (fxd l3.toNatClampNeg) then fX2_alikeShifts_L14 n (l1 + (1 : Int32)) l2 (l3 + (1 : Int32)) vxs fxd else fX2_alikeShifts_L14 n l1 l2 (l3 + (1 : Int32)) vxs fxd)) := rfl
noncomputable def fX2_alikeShifts_L4 (n : Nat) (l1 : Int32) (l2 : Int32) (vxs : Int32) (fxd : Nat → Int32) : Option (Int32 × Int32) := match n with
  | 0 => none
  | n + 1 => if vxs ≤ l2 then some (l1, l2) else bd (fX2_alikeShifts_L14 FU l1 l2 (0 : Int32) vxs fxd) fun q5 => fX2_alikeShifts_L4 n q5.1 (l2 + (1 : Int32)) vxs fxd
theorem fX2_alikeShifts_L4_0 (l1 : Int32) (l2 : Int32) (vxs : Int32) (fxd : Nat → Int32) : fX2_alikeShifts_L4 0 l1 l2 vxs fxd = none := rfl
theorem fX2_alikeShifts_L4_s (n : Nat) (l1 : Int32) (l2 : Int32) (vxs : Int32) (fxd : Nat → Int32) : fX2_alikeShifts_L4 (n + 1) l1 l2 vxs fxd = if vxs ≤ l2 then some (l1, l2) else bd (fX2_alikeShifts_L14 FU l1 l2 (0 : Int32) vxs fxd) fun q5 => fX2_alikeShifts_L4 n q5.1 (l2 + (1 : Int32)) vxs fxd := rfl
noncomputable def fX2_alikeShifts (vxs : Int32) (fxd : Nat → Int32)  : Option (Int32) := bd (fX2_alikeShifts_L4 FU (0 : Int32) (0 : Int32) vxs fxd) fun q8 => some q8.1
set_option maxHeartbeats 4000000 in
set_option maxRecDepth 100000 in
theorem c_X2_alikeShifts (l : Launch) (dC : Nat → ClassId) (dI : Nat → Nat → Nat) (cy : ClassId) (ax axd : Nat) (sz : Nat) (vxs : Int32) (fxd : Nat → Int32)  (res : Int32) (h : fX2_alikeShifts vxs fxd = some res) : Met l yX2_alikeShifts wsX2_alikeShifts ({ frames := 0, cells := 0, slots := 0, locals := 0 }) (va_Pc [.ref ax] (PW (dC, dI) cy sz [(ax, .inr (2, [.ref axd, .int vxs])), (axd, .inl (cy, 8, .inl fxd))])) (va_Qi (fun (r : Int32) (_ : Unit) => r = res) (QW (dC, dI) cy (va_A [(ax, .inr (2, [.ref axd, .int vxs])), (axd, .inl (cy, 8, .inl fxd))] sz) [(ax, .inr (2, [.ref axd, .int vxs])), (axd, .inl (cy, 8, .inl fxd))]) (va_A [(ax, .inr (2, [.ref axd, .int vxs])), (axd, .inl (cy, 8, .inl fxd))] sz)) 0 0 (va_A [(ax, .inr (2, [.ref axd, .int vxs])), (axd, .inl (cy, 8, .inl fxd))] sz) := by
  refine Met.ofW (cc := cX2_alikeShifts) (maxL := 4) (ret := (some .int)) (by decide) rfl ?_
  intro p e s m args below meth c s₁ B hml hv
  obtain ⟨rfl, hsz, hP, hK, hD0, hN⟩ := hv
  have hx := B.exec
  have hb := B.bytes
  have hr := B.returns
  have hts := atoms_spec (ws := wsX2_alikeShifts) B.pre
  have hown : s.vm.findClass RX2 = some m.cls := findClass_of_methodNamed B.named
  have hlocks := B.notSynchronized
  subst hsz
  have hD := hD0.self (sz := s.heap.size)
  clear hD0
  generalize hAe : va_A [(ax, .inr (2, [.ref axd, .int vxs])), (axd, .inl (cy, 8, .inl fxd))] s.heap.size = A at hD ⊢
  have hA : ∀ q : Nat, s.heap.size ≤ q → A q := fun q h => by rw [← hAe]; exact Or.inr h
  have hS : va_S A s.heap s.heap [] := va_S.rf
  have hl := lv_entry ([.ref ax]) (n := 4) (Nat.le_of_ble_eq_true rfl)
  rw [lg_entry_eq]
  generalize (lg_sl ([.ref ax]) ++ List.replicate (4 - (lg_sl ([.ref ax])).length) Slot.unset).toArray = ls at hl ⊢
  replace hl : lv_has ls 4 [(0, .ref ax)] := hl
  replace hP : va_P (dC, dI) vwCl [(ax, .inr (2, [.ref axd, .int vxs])), (axd, .inl (cy, 8, .inl fxd))] s.heap := hP
  obtain ⟨locs, hlocs⟩ : ∃ lc : List Loc, lc = [] := ⟨_, rfl⟩
  rw [← hlocs] at hS ⊢
  obtain ⟨H, hH⟩ : ∃ H : Heap, H = s.heap := ⟨_, rfl⟩
  have hP2 := hP; rw [← hH] at hP2
  have hS2 : va_S A s.heap H locs := by rw [hH]; exact hS
  suffices hgo : W p l e (headSpec wsX2_alikeShifts ({ frames := 0, cells := 0, slots := 0, locals := 0 })).room s m args below meth c H locs 0 0 (MQ below (va_Qi (fun (r : Int32) (_ : Unit) => r = res) (QW (dC, dI) cy A [(ax, .inr (2, [.ref axd, .int vxs])), (axd, .inl (cy, 8, .inl fxd))]) A) args s 0 0 A) (F0 m 0 ls []) by rw [hH] at hgo; exact hgo
  clear hP hS
  rename' hP2 => hP, hS2 => hS
  have hin_X2 : ∀ w ∈ wsX20, w ∈ wsX2_alikeShifts := by decide +kernel
  have hf_9 := hts (.fieldLink RX2 9 "FewLooks$Row" "digits" "[I") (by decide +kernel)
  have hf_15 := hts (.fieldLink RX2 15 "FewLooks$Row" "size" "I") (by decide +kernel)
  unfold fX2_alikeShifts at h
  refine lv_iconst (v := (0 : Int32)) hx hb dX2_alikeShifts_0 (by decide) ?_
  refine lv_istore_n (lv' := [(1, .int (0 : Int32)), (0, .ref ax)]) hx hb dX2_alikeShifts_1 rfl hl (by decide) rfl (fun ls hl => ?_)
  refine lv_iconst (v := (0 : Int32)) hx hb dX2_alikeShifts_2 (by decide) ?_
  refine lv_istore_n (lv' := [(2, .int (0 : Int32)), (1, .int (0 : Int32)), (0, .ref ax)]) hx hb dX2_alikeShifts_3 rfl hl (by decide) rfl (fun ls hl => ?_)
  have L4_6 : ∀ (n : Nat) (l1 : Int32) (l2 : Int32) (rs : (Int32 × Int32)) (H : Heap) (locs : List Loc) (ls : Array Slot), fX2_alikeShifts_L4 n l1 l2 vxs fxd = some rs → lv_has ls 4 [(0, .ref ax), (1, .int l1), (2, .int l2)] → va_P (dC, dI) vwCl [(ax, .inr (2, [.ref axd, .int vxs])), (axd, .inl (cy, 8, .inl fxd))] H → va_D A [(ax, .inr (2, [.ref axd, .int vxs])), (axd, .inl (cy, 8, .inl fxd))] → va_S A s.heap H locs → (∀ (H : Heap) (locs : List Loc) (ls : Array Slot), lv_has ls 4 [(0, .ref ax), (1, .int rs.1), (2, .int rs.2)] → va_P (dC, dI) vwCl [(ax, .inr (2, [.ref axd, .int vxs])), (axd, .inl (cy, 8, .inl fxd))] H → va_D A [(ax, .inr (2, [.ref axd, .int vxs])), (axd, .inl (cy, 8, .inl fxd))] → va_S A s.heap H locs → W p l e (headSpec wsX2_alikeShifts ({ frames := 0, cells := 0, slots := 0, locals := 0 })).room s m args below meth c H locs 0 0 (MQ below (va_Qi (fun (r : Int32) (_ : Unit) => r = res) (QW (dC, dI) cy A [(ax, .inr (2, [.ref axd, .int vxs])), (axd, .inl (cy, 8, .inl fxd))]) A) args s 0 0 A) (F0 m 57 ls [])) → W p l e (headSpec wsX2_alikeShifts ({ frames := 0, cells := 0, slots := 0, locals := 0 })).room s m args below meth c H locs 0 0 (MQ below (va_Qi (fun (r : Int32) (_ : Unit) => r = res) (QW (dC, dI) cy A [(ax, .inr (2, [.ref axd, .int vxs])), (axd, .inl (cy, 8, .inl fxd))]) A) args s 0 0 A) (F0 m 4 ls []) := by
    intro n
    induction n with
    | zero =>
      intro l1 l2 rs H locs ls h
      rw [fX2_alikeShifts_L4_0] at h
      cases h
    | succ n ih =>
      intro l1 l2 rs H locs ls h hl hP hD hS K
      rw [fX2_alikeShifts_L4_s] at h
      refine lv_iload_n hx hb dX2_alikeShifts_4 rfl (lv_at hl 2 rfl) ?_
      refine lv_aload_n hx hb dX2_alikeShifts_5 rfl (lv_at hl 0 rfl) ?_
      refine va_get (D := (dC, dI)) (ci := 2) (v := .int vxs) (C := RX2) (T := TX2) (N := 2) hx hb hts hin_X2 hown hK hP 0 rfl rfl 1 (by decide) (hf_15) (fun _ h9 => h9) rfl dX2_alikeShifts_6 ?_
      refine lv_icmp_ge (tgt := 57) hx hb dX2_alikeShifts_9 (by decide) (fun c6 => ?_) (fun c6 => ?_)
      · rw [if_pos c6] at h
        obtain rfl := Option.some.inj h
        exact K H locs ls (lv_sub hl [0, 1, 2] rfl) hP hD hS
      · rw [if_neg c6] at h
        refine lv_iconst (v := (0 : Int32)) hx hb dX2_alikeShifts_12 (by decide) ?_
        refine lv_istore_n (lv' := [(3, .int (0 : Int32)), (0, .ref ax), (1, .int l1), (2, .int l2)]) hx hb dX2_alikeShifts_13 rfl hl (by decide) rfl (fun ls hl => ?_)
        have L14_3 : ∀ (n : Nat) (l1 : Int32) (l2 : Int32) (l3 : Int32) (rs : (Int32 × Int32)) (H : Heap) (locs : List Loc) (ls : Array Slot), fX2_alikeShifts_L14 n l1 l2 l3 vxs fxd = some rs → lv_has ls 4 [(0, .ref ax), (1, .int l1), (2, .int l2), (3, .int l3)] → va_P (dC, dI) vwCl [(ax, .inr (2, [.ref axd, .int vxs])), (axd, .inl (cy, 8, .inl fxd))] H → va_D A [(ax, .inr (2, [.ref axd, .int vxs])), (axd, .inl (cy, 8, .inl fxd))] → va_S A s.heap H locs → (∀ (H : Heap) (locs : List Loc) (ls : Array Slot), lv_has ls 4 [(0, .ref ax), (1, .int rs.1), (2, .int l2), (3, .int rs.2)] → va_P (dC, dI) vwCl [(ax, .inr (2, [.ref axd, .int vxs])), (axd, .inl (cy, 8, .inl fxd))] H → va_D A [(ax, .inr (2, [.ref axd, .int vxs])), (axd, .inl (cy, 8, .inl fxd))] → va_S A s.heap H locs → W p l e (headSpec wsX2_alikeShifts ({ frames := 0, cells := 0, slots := 0, locals := 0 })).room s m args below meth c H locs 0 0 (MQ below (va_Qi (fun (r : Int32) (_ : Unit) => r = res) (QW (dC, dI) cy A [(ax, .inr (2, [.ref axd, .int vxs])), (axd, .inl (cy, 8, .inl fxd))]) A) args s 0 0 A) (F0 m 51 ls [])) → W p l e (headSpec wsX2_alikeShifts ({ frames := 0, cells := 0, slots := 0, locals := 0 })).room s m args below meth c H locs 0 0 (MQ below (va_Qi (fun (r : Int32) (_ : Unit) => r = res) (QW (dC, dI) cy A [(ax, .inr (2, [.ref axd, .int vxs])), (axd, .inl (cy, 8, .inl fxd))]) A) args s 0 0 A) (F0 m 14 ls []) := by
          intro n
          induction n with
          | zero =>
            intro l1 l2 l3 rs H locs ls h
            rw [fX2_alikeShifts_L14_0] at h
            cases h
          | succ n ih =>
            intro l1 l2 l3 rs H locs ls h hl hP hD hS K
            rw [fX2_alikeShifts_L14_s] at h
            refine lv_iload_n hx hb dX2_alikeShifts_14 rfl (lv_at hl 3 rfl) ?_
            refine lv_aload_n hx hb dX2_alikeShifts_15 rfl (lv_at hl 0 rfl) ?_
            refine va_get (D := (dC, dI)) (ci := 2) (v := .int vxs) (C := RX2) (T := TX2) (N := 2) hx hb hts hin_X2 hown hK hP 0 rfl rfl 1 (by decide) (hf_15) (fun _ h9 => h9) rfl dX2_alikeShifts_16 ?_
            refine lv_icmp_ge (tgt := 51) hx hb dX2_alikeShifts_19 (by decide) (fun c3 => ?_) (fun c3 => ?_)
            · rw [if_pos c3] at h
              obtain rfl := Option.some.inj h
              exact K H locs ls (lv_sub hl [0, 1, 2, 3] rfl) hP hD hS
            · rw [if_neg c3] at h
              refine lv_iload_n hx hb dX2_alikeShifts_22 rfl (lv_at hl 2 rfl) ?_
              refine lv_iload_n hx hb dX2_alikeShifts_23 rfl (lv_at hl 3 rfl) ?_
              refine lv_icmp_eq (tgt := 45) hx hb dX2_alikeShifts_24 (by decide) (fun c2 => ?_) (fun c2 => ?_)
              · rw [if_pos c2] at h
                refine lv_iinc (v := l3 + (1 : Int32)) (lv' := [(3, .int (l3 + (1 : Int32))), (0, .ref ax), (1, .int l1), (2, .int l2)]) hx hb dX2_alikeShifts_45 hl (k := 3) rfl rfl (by decide) rfl (fun ls hl => ?_)
                refine lv_goto (tgt := 14) hx hb dX2_alikeShifts_48 (by decide) ?_
                exact ih l1 l2 (l3 + (1 : Int32)) rs H locs ls h (lv_sub hl [1, 2, 3, 0] rfl) hP hD hS K
              · rw [if_neg c2] at h
                refine lv_aload_n hx hb dX2_alikeShifts_27 rfl (lv_at hl 0 rfl) ?_
                refine va_get (D := (dC, dI)) (ci := 2) (v := .ref axd) (C := RX2) (T := TX2) (N := 2) hx hb hts hin_X2 hown hK hP 0 rfl rfl 0 (by decide) (hf_9) (fun _ h9 => h9) rfl dX2_alikeShifts_28 ?_
                refine lv_iload_n hx hb dX2_alikeShifts_31 rfl (lv_at hl 2 rfl) ?_
                obtain ⟨hi, h⟩ := gin_some h
                refine va_iald hx hb hK hP 1 0 rfl rfl hi dX2_alikeShifts_32 ?_
                refine lv_aload_n hx hb dX2_alikeShifts_33 rfl (lv_at hl 0 rfl) ?_
                refine va_get (D := (dC, dI)) (ci := 2) (v := .ref axd) (C := RX2) (T := TX2) (N := 2) hx hb hts hin_X2 hown hK hP 0 rfl rfl 0 (by decide) (hf_9) (fun _ h9 => h9) rfl dX2_alikeShifts_34 ?_
                refine lv_iload_n hx hb dX2_alikeShifts_37 rfl (lv_at hl 3 rfl) ?_
                obtain ⟨hi, h⟩ := gin_some h
                refine va_iald hx hb hK hP 1 0 rfl rfl hi dX2_alikeShifts_38 ?_
                refine lv_icmp_ne (tgt := 45) hx hb dX2_alikeShifts_39 (by decide) (fun c1 => ?_) (fun c1 => ?_)
                · rw [if_neg c1] at h
                  refine lv_iinc (v := l3 + (1 : Int32)) (lv' := [(3, .int (l3 + (1 : Int32))), (0, .ref ax), (1, .int l1), (2, .int l2)]) hx hb dX2_alikeShifts_45 hl (k := 3) rfl rfl (by decide) rfl (fun ls hl => ?_)
                  refine lv_goto (tgt := 14) hx hb dX2_alikeShifts_48 (by decide) ?_
                  exact ih l1 l2 (l3 + (1 : Int32)) rs H locs ls h (lv_sub hl [1, 2, 3, 0] rfl) hP hD hS K
                · rw [if_pos c1] at h
                  refine lv_iinc (v := l1 + (1 : Int32)) (lv' := [(1, .int (l1 + (1 : Int32))), (0, .ref ax), (2, .int l2), (3, .int l3)]) hx hb dX2_alikeShifts_42 hl (k := 1) rfl rfl (by decide) rfl (fun ls hl => ?_)
                  refine lv_iinc (v := l3 + (1 : Int32)) (lv' := [(3, .int (l3 + (1 : Int32))), (1, .int (l1 + (1 : Int32))), (0, .ref ax), (2, .int l2)]) hx hb dX2_alikeShifts_45 hl (k := 3) rfl rfl (by decide) rfl (fun ls hl => ?_)
                  refine lv_goto (tgt := 14) hx hb dX2_alikeShifts_48 (by decide) ?_
                  exact ih (l1 + (1 : Int32)) l2 (l3 + (1 : Int32)) rs H locs ls h (lv_sub hl [2, 1, 3, 0] rfl) hP hD hS K
        obtain ⟨q5, hq5, h⟩ := bd_some h
        refine L14_3 FU l1 l2 (0 : Int32) q5 H locs ls hq5 (lv_sub hl [1, 2, 3, 0] rfl) hP hD hS (fun H locs ls hl hP hD hS => ?_)
        refine lv_iinc (v := l2 + (1 : Int32)) (lv' := [(2, .int (l2 + (1 : Int32))), (0, .ref ax), (1, .int q5.1), (3, .int q5.2)]) hx hb dX2_alikeShifts_51 hl (k := 2) rfl rfl (by decide) rfl (fun ls hl => ?_)
        refine lv_goto (tgt := 4) hx hb dX2_alikeShifts_54 (by decide) ?_
        exact ih q5.1 (l2 + (1 : Int32)) rs H locs ls h (lv_sub hl [1, 2, 0] rfl) hP hD hS K
  obtain ⟨q8, hq8, h⟩ := bd_some h
  refine L4_6 FU (0 : Int32) (0 : Int32) q8 H locs ls hq8 (lv_sub hl [2, 1, 0] rfl) hP hD hS (fun H locs ls hl hP hD hS => ?_)
  refine lv_iload_n hx hb dX2_alikeShifts_57 rfl (lv_at hl 1 rfl) ?_
  obtain rfl := Option.some.inj h
  exact W.iret (v := q8.1) hx hb hr (fun t ht hW => ⟨⟨q8.1, (), rfl, rfl, QW_mk hP hK hD ht hW⟩, hS.F ht⟩) hS.2.2 dX2_alikeShifts_58

noncomputable def fX2_passing (vxs : Int32) (fxd : Nat → Int32) (p0 : Int32) : Option (Int32) := if p0 = (0 : Int32) then bd (fX2_risingPairs vxs fxd) fun r2 => some r2 else if p0 = (1 : Int32) then bd (fX2_mirroredPlaces vxs fxd) fun r4 => some r4 else if p0 = (2 : Int32) then bd (fX2_total vxs fxd) fun r6 => if (r6 - r6 / (2 : Int32) * (2 : Int32)) = 0 then some (1 : Int32) else some (0 : Int32) else bd (fX2_alikeShifts vxs fxd) fun r8 => some r8
set_option maxHeartbeats 4000000 in
set_option maxRecDepth 100000 in
theorem c_X2_passing (l : Launch) (dC : Nat → ClassId) (dI : Nat → Nat → Nat) (cy : ClassId) (ax axd : Nat) (sz : Nat) (vxs : Int32) (fxd : Nat → Int32) (p0 : Int32) (res : Int32) (h : fX2_passing vxs fxd p0 = some res) : Met l yX2_passing wsX2_passing ({ frames := 1, cells := 0, slots := 0, locals := 23 }) (va_Pc [.ref ax, .int p0] (PW (dC, dI) cy sz [(ax, .inr (2, [.ref axd, .int vxs])), (axd, .inl (cy, 8, .inl fxd))])) (va_Qi (fun (r : Int32) (_ : Unit) => r = res) (QW (dC, dI) cy (va_A [(ax, .inr (2, [.ref axd, .int vxs])), (axd, .inl (cy, 8, .inl fxd))] sz) [(ax, .inr (2, [.ref axd, .int vxs])), (axd, .inl (cy, 8, .inl fxd))]) (va_A [(ax, .inr (2, [.ref axd, .int vxs])), (axd, .inl (cy, 8, .inl fxd))] sz)) 0 0 (va_A [(ax, .inr (2, [.ref axd, .int vxs])), (axd, .inl (cy, 8, .inl fxd))] sz) := by
  refine Met.ofW (cc := cX2_passing) (maxL := 2) (ret := (some .int)) (by decide) rfl ?_
  intro p e s m args below meth c s₁ B hml hv
  obtain ⟨rfl, hsz, hP, hK, hD0, hN⟩ := hv
  have hx := B.exec
  have hb := B.bytes
  have hr := B.returns
  have hts := atoms_spec (ws := wsX2_passing) B.pre
  have hown : s.vm.findClass RX2 = some m.cls := findClass_of_methodNamed B.named
  have hlocks := B.notSynchronized
  subst hsz
  have hD := hD0.self (sz := s.heap.size)
  clear hD0
  generalize hAe : va_A [(ax, .inr (2, [.ref axd, .int vxs])), (axd, .inl (cy, 8, .inl fxd))] s.heap.size = A at hD ⊢
  have hA : ∀ q : Nat, s.heap.size ≤ q → A q := fun q h => by rw [← hAe]; exact Or.inr h
  have hS : va_S A s.heap s.heap [] := va_S.rf
  have hl := lv_entry ([.ref ax, .int p0]) (n := 2) (Nat.le_of_ble_eq_true rfl)
  rw [lg_entry_eq]
  generalize (lg_sl ([.ref ax, .int p0]) ++ List.replicate (2 - (lg_sl ([.ref ax, .int p0])).length) Slot.unset).toArray = ls at hl ⊢
  replace hl : lv_has ls 2 [(0, .ref ax), (1, .int p0)] := hl
  replace hP : va_P (dC, dI) vwCl [(ax, .inr (2, [.ref axd, .int vxs])), (axd, .inl (cy, 8, .inl fxd))] s.heap := hP
  obtain ⟨locs, hlocs⟩ : ∃ lc : List Loc, lc = [] := ⟨_, rfl⟩
  rw [← hlocs] at hS ⊢
  obtain ⟨H, hH⟩ : ∃ H : Heap, H = s.heap := ⟨_, rfl⟩
  have hP2 := hP; rw [← hH] at hP2
  have hS2 : va_S A s.heap H locs := by rw [hH]; exact hS
  suffices hgo : W p l e (headSpec wsX2_passing ({ frames := 1, cells := 0, slots := 0, locals := 23 })).room s m args below meth c H locs 0 0 (MQ below (va_Qi (fun (r : Int32) (_ : Unit) => r = res) (QW (dC, dI) cy A [(ax, .inr (2, [.ref axd, .int vxs])), (axd, .inl (cy, 8, .inl fxd))]) A) args s 0 0 A) (F0 m 0 ls []) by rw [hH] at hgo; exact hgo
  clear hP hS
  rename' hP2 => hP, hS2 => hS
  unfold fX2_passing at h
  refine lv_iload_n hx hb dX2_passing_0 rfl (lv_at hl 1 rfl) ?_
  by_cases c1 : p0 = (0 : Int32)
  · rw [if_pos c1] at h
    have ec1 : (p0).toInt = 0 := by rw [c1]; rfl
    refine lv_tableIn (tgt := 28) hx hb dX2_passing_1 (by rw [ec1]; decide) (by rw [ec1]; decide) (by rw [ec1]; rfl) (by decide) ?_
    refine lv_aload_n hx hb dX2_passing_28 rfl (lv_at hl 0 rfl) ?_
    obtain ⟨r2, hr2, h⟩ := bd_some h
    have hFc := va_free (wc := [(ax, .inr (2, [.ref axd, .int vxs])), (axd, .inl (cy, 8, .inl fxd))]) hD hS hA [0, 1] rfl
    refine va_calli (va_runV (As := []) (rest := []) ⟨hx, hb, hml, hown, hts⟩ (c_X2_risingPairs l dC dI cy ax axd H.size vxs fxd  r2 hr2) (cwV 0 hts gX2_passing_X2_risingPairs rfl rfl rfl (by decide +kernel) ⟨Nat.le_of_ble_eq_true rfl, Nat.le_of_ble_eq_true rfl⟩) ⟨PW_fb, va_recv hK hP (ci := 2) (q0 := 0) rfl rfl, PW_pre (hP.sub (ws' := [(ax, .inr (2, [.ref axd, .int vxs])), (axd, .inl (cy, 8, .inl fxd))]) [0, 1] rfl) hK (hD.sub [0, 1] (by decide) rfl) hN⟩ rfl rfl hl.1 rfl (lv_room (Nat.le_of_ble_eq_true rfl)) dX2_passing_29 ⟨Nat.zero_le _, Nat.zero_le _⟩) hS (fun q _ h => hFc q h) hFc (fun rz u t H locs ht hvm hw hB hz1 hk1 hS => ?_)
    obtain ⟨hP, hD⟩ := jn (wr := []) (w1 := [(ax, .inr (2, [.ref axd, .int vxs])), (axd, .inl (cy, 8, .inl fxd))]) (ws' := [(ax, .inr (2, [.ref axd, .int vxs])), (axd, .inl (cy, 8, .inl fxd))]) hP hD [0, 1] [] rfl rfl (by decide) (by decide) hk1 hFc hB ht [0, 1] rfl (by decide)
    subst hw
    clear hFc hB hk1 hz1 hvm
    obtain rfl := Option.some.inj h
    exact W.iret (v := r2) hx hb hr (fun t ht hW => ⟨⟨r2, (), rfl, rfl, QW_mk hP hK hD ht hW⟩, hS.F ht⟩) hS.2.2 dX2_passing_32
  · rw [if_neg c1] at h
    by_cases c3 : p0 = (1 : Int32)
    · rw [if_pos c3] at h
      have ec3 : (p0).toInt = 1 := by rw [c3]; rfl
      refine lv_tableIn (tgt := 33) hx hb dX2_passing_1 (by rw [ec3]; decide) (by rw [ec3]; decide) (by rw [ec3]; rfl) (by decide) ?_
      refine lv_aload_n hx hb dX2_passing_33 rfl (lv_at hl 0 rfl) ?_
      obtain ⟨r4, hr4, h⟩ := bd_some h
      have hFc := va_free (wc := [(ax, .inr (2, [.ref axd, .int vxs])), (axd, .inl (cy, 8, .inl fxd))]) hD hS hA [0, 1] rfl
      refine va_calli (va_runV (As := []) (rest := []) ⟨hx, hb, hml, hown, hts⟩ (c_X2_mirroredPlaces l dC dI cy ax axd H.size vxs fxd  r4 hr4) (cwV 0 hts gX2_passing_X2_mirroredPlaces rfl rfl rfl (by decide +kernel) ⟨Nat.le_of_ble_eq_true rfl, Nat.le_of_ble_eq_true rfl⟩) ⟨PW_fb, va_recv hK hP (ci := 2) (q0 := 0) rfl rfl, PW_pre (hP.sub (ws' := [(ax, .inr (2, [.ref axd, .int vxs])), (axd, .inl (cy, 8, .inl fxd))]) [0, 1] rfl) hK (hD.sub [0, 1] (by decide) rfl) hN⟩ rfl rfl hl.1 rfl (lv_room (Nat.le_of_ble_eq_true rfl)) dX2_passing_34 ⟨Nat.zero_le _, Nat.zero_le _⟩) hS (fun q _ h => hFc q h) hFc (fun rz u t H locs ht hvm hw hB hz1 hk1 hS => ?_)
      obtain ⟨hP, hD⟩ := jn (wr := []) (w1 := [(ax, .inr (2, [.ref axd, .int vxs])), (axd, .inl (cy, 8, .inl fxd))]) (ws' := [(ax, .inr (2, [.ref axd, .int vxs])), (axd, .inl (cy, 8, .inl fxd))]) hP hD [0, 1] [] rfl rfl (by decide) (by decide) hk1 hFc hB ht [0, 1] rfl (by decide)
      subst hw
      clear hFc hB hk1 hz1 hvm
      obtain rfl := Option.some.inj h
      exact W.iret (v := r4) hx hb hr (fun t ht hW => ⟨⟨r4, (), rfl, rfl, QW_mk hP hK hD ht hW⟩, hS.F ht⟩) hS.2.2 dX2_passing_37
    · rw [if_neg c3] at h
      by_cases c5 : p0 = (2 : Int32)
      · rw [if_pos c5] at h
        have ec5 : (p0).toInt = 2 := by rw [c5]; rfl
        refine lv_tableIn (tgt := 38) hx hb dX2_passing_1 (by rw [ec5]; decide) (by rw [ec5]; decide) (by rw [ec5]; rfl) (by decide) ?_
        refine lv_aload_n hx hb dX2_passing_38 rfl (lv_at hl 0 rfl) ?_
        obtain ⟨r6, hr6, h⟩ := bd_some h
        have hFc := va_free (wc := [(ax, .inr (2, [.ref axd, .int vxs])), (axd, .inl (cy, 8, .inl fxd))]) hD hS hA [0, 1] rfl
        refine va_calli (va_runV (As := []) (rest := []) ⟨hx, hb, hml, hown, hts⟩ (c_X2_total l dC dI cy ax axd H.size vxs fxd  r6 hr6) (cwV 0 hts gX2_passing_X2_total rfl rfl rfl (by decide +kernel) ⟨Nat.le_of_ble_eq_true rfl, Nat.le_of_ble_eq_true rfl⟩) ⟨PW_fb, va_recv hK hP (ci := 2) (q0 := 0) rfl rfl, PW_pre (hP.sub (ws' := [(ax, .inr (2, [.ref axd, .int vxs])), (axd, .inl (cy, 8, .inl fxd))]) [0, 1] rfl) hK (hD.sub [0, 1] (by decide) rfl) hN⟩ rfl rfl hl.1 rfl (lv_room (Nat.le_of_ble_eq_true rfl)) dX2_passing_39 ⟨Nat.zero_le _, Nat.zero_le _⟩) hS (fun q _ h => hFc q h) hFc (fun rz u t H locs ht hvm hw hB hz1 hk1 hS => ?_)
        obtain ⟨hP, hD⟩ := jn (wr := []) (w1 := [(ax, .inr (2, [.ref axd, .int vxs])), (axd, .inl (cy, 8, .inl fxd))]) (ws' := [(ax, .inr (2, [.ref axd, .int vxs])), (axd, .inl (cy, 8, .inl fxd))]) hP hD [0, 1] [] rfl rfl (by decide) (by decide) hk1 hFc hB ht [0, 1] rfl (by decide)
        subst hw
        clear hFc hB hk1 hz1 hvm
        refine lv_iconst (v := (2 : Int32)) hx hb dX2_passing_42 (by decide) ?_
        refine lv_irem hx hb dX2_passing_43 (by decide) ?_
        refine lv_if_ne (tgt := 51) hx hb dX2_passing_44 (by decide) (fun c7 => ?_) (fun c7 => ?_)
        · rw [if_neg c7] at h
          refine lv_iconst (v := (0 : Int32)) hx hb dX2_passing_51 (by decide) ?_
          obtain rfl := Option.some.inj h
          exact W.iret (v := (0 : Int32)) hx hb hr (fun t ht hW => ⟨⟨(0 : Int32), (), rfl, rfl, QW_mk hP hK hD ht hW⟩, hS.F ht⟩) hS.2.2 dX2_passing_52
        · rw [if_pos c7] at h
          refine lv_iconst (v := (1 : Int32)) hx hb dX2_passing_47 (by decide) ?_
          refine lv_goto (tgt := 52) hx hb dX2_passing_48 (by decide) ?_
          obtain rfl := Option.some.inj h
          exact W.iret (v := (1 : Int32)) hx hb hr (fun t ht hW => ⟨⟨(1 : Int32), (), rfl, rfl, QW_mk hP hK hD ht hW⟩, hS.F ht⟩) hS.2.2 dX2_passing_52
      · rw [if_neg c5] at h
        have hout := tb_out (x := p0) (n := 3) (by decide) (fun k hk => by rcases (show k = 0 ∨ k = 1 ∨ k = 2 by omega) with rfl | rfl | rfl; all_goals assumption)
        refine lv_tableOut (tgt := 53) hx hb dX2_passing_1 hout (by decide) ?_
        refine lv_aload_n hx hb dX2_passing_53 rfl (lv_at hl 0 rfl) ?_
        obtain ⟨r8, hr8, h⟩ := bd_some h
        have hFc := va_free (wc := [(ax, .inr (2, [.ref axd, .int vxs])), (axd, .inl (cy, 8, .inl fxd))]) hD hS hA [0, 1] rfl
        refine va_calli (va_runV (As := []) (rest := []) ⟨hx, hb, hml, hown, hts⟩ (c_X2_alikeShifts l dC dI cy ax axd H.size vxs fxd  r8 hr8) (cwV 0 hts gX2_passing_X2_alikeShifts rfl rfl rfl (by decide +kernel) ⟨Nat.le_of_ble_eq_true rfl, Nat.le_of_ble_eq_true rfl⟩) ⟨PW_fb, va_recv hK hP (ci := 2) (q0 := 0) rfl rfl, PW_pre (hP.sub (ws' := [(ax, .inr (2, [.ref axd, .int vxs])), (axd, .inl (cy, 8, .inl fxd))]) [0, 1] rfl) hK (hD.sub [0, 1] (by decide) rfl) hN⟩ rfl rfl hl.1 rfl (lv_room (Nat.le_of_ble_eq_true rfl)) dX2_passing_54 ⟨Nat.zero_le _, Nat.zero_le _⟩) hS (fun q _ h => hFc q h) hFc (fun rz u t H locs ht hvm hw hB hz1 hk1 hS => ?_)
        obtain ⟨hP, hD⟩ := jn (wr := []) (w1 := [(ax, .inr (2, [.ref axd, .int vxs])), (axd, .inl (cy, 8, .inl fxd))]) (ws' := [(ax, .inr (2, [.ref axd, .int vxs])), (axd, .inl (cy, 8, .inl fxd))]) hP hD [0, 1] [] rfl rfl (by decide) (by decide) hk1 hFc hB ht [0, 1] rfl (by decide)
        subst hw
        clear hFc hB hk1 hz1 hvm
        obtain rfl := Option.some.inj h
        exact W.iret (v := r8) hx hb hr (fun t ht hW => ⟨⟨r8, (), rfl, rfl, QW_mk hP hK hD ht hW⟩, hS.F ht⟩) hS.2.2 dX2_passing_57
end
