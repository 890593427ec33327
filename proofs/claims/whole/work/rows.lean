section
-- ===== PART A: goes FIRST, ahead of the names: the tables' words, and 'selects' of the private methods out of them =====
/-- a private method of a class that the tables say can be made, by its rows of tables_1 -/
def lw_okq (q : MethodName × Nat) : Prop := (q.1.cls ≠ "java/lang/invoke/MethodHandle" ∧ q.1.cls ≠ "java/lang/invoke/VarHandle") ∧ Cond.instantiable q.1.cls q.2 ∈ tables_1 ∧ Cond.privateMethod q.1 ∈ tables_1 ∧ Cond.instanceMethod q.1 ∈ tables_1
theorem lw_p0 : lw_okq (⟨"FewLooks", "isPlace", "(I)Z"⟩, 6) := ⟨⟨by decide +kernel, by decide +kernel⟩, List.mem_of_getElem? (i := 10) (by decide +kernel), List.mem_of_getElem? (i := 110) (by decide +kernel), List.mem_of_getElem? (i := 111) (by decide +kernel)⟩
theorem lw_p1 : lw_okq (⟨"FewLooks", "howFar", "(I)I"⟩, 6) := ⟨⟨by decide +kernel, by decide +kernel⟩, List.mem_of_getElem? (i := 10) (by decide +kernel), List.mem_of_getElem? (i := 168) (by decide +kernel), List.mem_of_getElem? (i := 169) (by decide +kernel)⟩
theorem lw_p2 : lw_okq (⟨"FewLooks$Mender", "raise", "(LFewLooks$Row;)V"⟩, 3) := ⟨⟨by decide +kernel, by decide +kernel⟩, List.mem_of_getElem? (i := 36) (by decide +kernel), List.mem_of_getElem? (i := 183) (by decide +kernel), List.mem_of_getElem? (i := 184) (by decide +kernel)⟩
theorem lw_p3 : lw_okq (⟨"FewLooks$Mender", "fillCosts", "(LFewLooks$Row;)V"⟩, 3) := ⟨⟨by decide +kernel, by decide +kernel⟩, List.mem_of_getElem? (i := 36) (by decide +kernel), List.mem_of_getElem? (i := 187) (by decide +kernel), List.mem_of_getElem? (i := 188) (by decide +kernel)⟩
theorem lw_p4 : lw_okq (⟨"FewLooks$Mender", "costWith", "(LFewLooks$Row;II)I"⟩, 3) := ⟨⟨by decide +kernel, by decide +kernel⟩, List.mem_of_getElem? (i := 36) (by decide +kernel), List.mem_of_getElem? (i := 191) (by decide +kernel), List.mem_of_getElem? (i := 192) (by decide +kernel)⟩
theorem lw_p5 : lw_okq (⟨"FewLooks$Mender", "mirror", "(LFewLooks$Row;)V"⟩, 3) := ⟨⟨by decide +kernel, by decide +kernel⟩, List.mem_of_getElem? (i := 36) (by decide +kernel), List.mem_of_getElem? (i := 198) (by decide +kernel), List.mem_of_getElem? (i := 199) (by decide +kernel)⟩
theorem lw_p6 : lw_okq (⟨"FewLooks$Mender", "makeEven", "()V"⟩, 3) := ⟨⟨by decide +kernel, by decide +kernel⟩, List.mem_of_getElem? (i := 36) (by decide +kernel), List.mem_of_getElem? (i := 202) (by decide +kernel), List.mem_of_getElem? (i := 203) (by decide +kernel)⟩
theorem lw_p7 : lw_okq (⟨"FewLooks$Mender", "makeRound", "(LFewLooks$Row;)V"⟩, 3) := ⟨⟨by decide +kernel, by decide +kernel⟩, List.mem_of_getElem? (i := 36) (by decide +kernel), List.mem_of_getElem? (i := 210) (by decide +kernel), List.mem_of_getElem? (i := 211) (by decide +kernel)⟩
theorem lw_p8 : lw_okq (⟨"FewLooks$Mender", "guessPeriod", "(LFewLooks$Row;I)V"⟩, 3) := ⟨⟨by decide +kernel, by decide +kernel⟩, List.mem_of_getElem? (i := 36) (by decide +kernel), List.mem_of_getElem? (i := 214) (by decide +kernel), List.mem_of_getElem? (i := 215) (by decide +kernel)⟩
theorem lw_p9 : lw_okq (⟨"FewLooks$Net", "bestColouringOf", "(I)I"⟩, 1) := ⟨⟨by decide +kernel, by decide +kernel⟩, List.mem_of_getElem? (i := 66) (by decide +kernel), List.mem_of_getElem? (i := 243) (by decide +kernel), List.mem_of_getElem? (i := 244) (by decide +kernel)⟩
theorem lw_p10 : lw_okq (⟨"FewLooks", "passing", "(I)I"⟩, 6) := ⟨⟨by decide +kernel, by decide +kernel⟩, List.mem_of_getElem? (i := 10) (by decide +kernel), List.mem_of_getElem? (i := 278) (by decide +kernel), List.mem_of_getElem? (i := 279) (by decide +kernel)⟩
theorem lw_p11 : lw_okq (⟨"FewLooks$Row", "risingPairs", "()I"⟩, 2) := ⟨⟨by decide +kernel, by decide +kernel⟩, List.mem_of_getElem? (i := 18) (by decide +kernel), List.mem_of_getElem? (i := 286) (by decide +kernel), List.mem_of_getElem? (i := 287) (by decide +kernel)⟩
theorem lw_p12 : lw_okq (⟨"FewLooks$Row", "mirroredPlaces", "()I"⟩, 2) := ⟨⟨by decide +kernel, by decide +kernel⟩, List.mem_of_getElem? (i := 18) (by decide +kernel), List.mem_of_getElem? (i := 290) (by decide +kernel), List.mem_of_getElem? (i := 291) (by decide +kernel)⟩
theorem lw_p13 : lw_okq (⟨"FewLooks$Row", "alikeShifts", "()I"⟩, 2) := ⟨⟨by decide +kernel, by decide +kernel⟩, List.mem_of_getElem? (i := 18) (by decide +kernel), List.mem_of_getElem? (i := 295) (by decide +kernel), List.mem_of_getElem? (i := 296) (by decide +kernel)⟩
theorem lw_p14 : lw_okq (⟨"FewLooks", "looks", "(I)I"⟩, 6) := ⟨⟨by decide +kernel, by decide +kernel⟩, List.mem_of_getElem? (i := 10) (by decide +kernel), List.mem_of_getElem? (i := 316) (by decide +kernel), List.mem_of_getElem? (i := 317) (by decide +kernel)⟩
theorem lw_p15 : lw_okq (⟨"FewLooks", "worstCode", "(II)I"⟩, 6) := ⟨⟨by decide +kernel, by decide +kernel⟩, List.mem_of_getElem? (i := 10) (by decide +kernel), List.mem_of_getElem? (i := 338) (by decide +kernel), List.mem_of_getElem? (i := 339) (by decide +kernel)⟩
def lw_privs_1 : List (MethodName × Nat) := [(⟨"FewLooks", "isPlace", "(I)Z"⟩, 6), (⟨"FewLooks", "howFar", "(I)I"⟩, 6), (⟨"FewLooks$Mender", "raise", "(LFewLooks$Row;)V"⟩, 3), (⟨"FewLooks$Mender", "fillCosts", "(LFewLooks$Row;)V"⟩, 3), (⟨"FewLooks$Mender", "costWith", "(LFewLooks$Row;II)I"⟩, 3), (⟨"FewLooks$Mender", "mirror", "(LFewLooks$Row;)V"⟩, 3), (⟨"FewLooks$Mender", "makeEven", "()V"⟩, 3), (⟨"FewLooks$Mender", "makeRound", "(LFewLooks$Row;)V"⟩, 3), (⟨"FewLooks$Mender", "guessPeriod", "(LFewLooks$Row;I)V"⟩, 3), (⟨"FewLooks$Net", "bestColouringOf", "(I)I"⟩, 1), (⟨"FewLooks", "passing", "(I)I"⟩, 6), (⟨"FewLooks$Row", "risingPairs", "()I"⟩, 2), (⟨"FewLooks$Row", "mirroredPlaces", "()I"⟩, 2), (⟨"FewLooks$Row", "alikeShifts", "()I"⟩, 2), (⟨"FewLooks", "looks", "(I)I"⟩, 6), (⟨"FewLooks", "worstCode", "(II)I"⟩, 6)]
theorem lw_r1 : ∀ q ∈ lw_privs_1, lw_okq q := List.forall_mem_cons.mpr ⟨lw_p0, List.forall_mem_cons.mpr ⟨lw_p1, List.forall_mem_cons.mpr ⟨lw_p2, List.forall_mem_cons.mpr ⟨lw_p3, List.forall_mem_cons.mpr ⟨lw_p4, List.forall_mem_cons.mpr ⟨lw_p5, List.forall_mem_cons.mpr ⟨lw_p6, List.forall_mem_cons.mpr ⟨lw_p7, List.forall_mem_cons.mpr ⟨lw_p8, List.forall_mem_cons.mpr ⟨lw_p9, List.forall_mem_cons.mpr ⟨lw_p10, List.forall_mem_cons.mpr ⟨lw_p11, List.forall_mem_cons.mpr ⟨lw_p12, List.forall_mem_cons.mpr ⟨lw_p13, List.forall_mem_cons.mpr ⟨lw_p14, List.forall_mem_cons.mpr ⟨lw_p15, fun _ h => absurd h List.not_mem_nil⟩⟩⟩⟩⟩⟩⟩⟩⟩⟩⟩⟩⟩⟩⟩⟩
theorem lw_p16 : lw_okq (⟨"FewLooks", "isLook", "(III)Z"⟩, 6) := ⟨⟨by decide +kernel, by decide +kernel⟩, List.mem_of_getElem? (i := 10) (by decide +kernel), List.mem_of_getElem? (i := 358) (by decide +kernel), List.mem_of_getElem? (i := 359) (by decide +kernel)⟩
theorem lw_p17 : lw_okq (⟨"FewLooks", "fails", "(III)Z"⟩, 6) := ⟨⟨by decide +kernel, by decide +kernel⟩, List.mem_of_getElem? (i := 10) (by decide +kernel), List.mem_of_getElem? (i := 363) (by decide +kernel), List.mem_of_getElem? (i := 364) (by decide +kernel)⟩
theorem lw_p18 : lw_okq (⟨"FewLooks", "firstFailingSet", "()I"⟩, 6) := ⟨⟨by decide +kernel, by decide +kernel⟩, List.mem_of_getElem? (i := 10) (by decide +kernel), List.mem_of_getElem? (i := 373) (by decide +kernel), List.mem_of_getElem? (i := 374) (by decide +kernel)⟩
theorem lw_p19 : lw_okq (⟨"FewLooks", "firstFailingPair", "(I)I"⟩, 6) := ⟨⟨by decide +kernel, by decide +kernel⟩, List.mem_of_getElem? (i := 10) (by decide +kernel), List.mem_of_getElem? (i := 377) (by decide +kernel), List.mem_of_getElem? (i := 378) (by decide +kernel)⟩
theorem lw_p20 : lw_okq (⟨"FewLooksModel", "isPlace", "(I)Z"⟩, 11) := ⟨⟨by decide +kernel, by decide +kernel⟩, List.mem_of_getElem? (i := 390) (by decide +kernel), List.mem_of_getElem? (i := 441) (by decide +kernel), List.mem_of_getElem? (i := 442) (by decide +kernel)⟩
theorem lw_p21 : lw_okq (⟨"FewLooksModel", "distanceOf", "(I)I"⟩, 11) := ⟨⟨by decide +kernel, by decide +kernel⟩, List.mem_of_getElem? (i := 390) (by decide +kernel), List.mem_of_getElem? (i := 483) (by decide +kernel), List.mem_of_getElem? (i := 484) (by decide +kernel)⟩
theorem lw_p22 : lw_okq (⟨"FewLooksModel", "rowDistance", "(I)I"⟩, 11) := ⟨⟨by decide +kernel, by decide +kernel⟩, List.mem_of_getElem? (i := 390) (by decide +kernel), List.mem_of_getElem? (i := 487) (by decide +kernel), List.mem_of_getElem? (i := 488) (by decide +kernel)⟩
theorem lw_p23 : lw_okq (⟨"FewLooksModel", "takeRow", "()V"⟩, 11) := ⟨⟨by decide +kernel, by decide +kernel⟩, List.mem_of_getElem? (i := 390) (by decide +kernel), List.mem_of_getElem? (i := 491) (by decide +kernel), List.mem_of_getElem? (i := 492) (by decide +kernel)⟩
theorem lw_p24 : lw_okq (⟨"FewLooksModel", "fromKind", "(I)I"⟩, 11) := ⟨⟨by decide +kernel, by decide +kernel⟩, List.mem_of_getElem? (i := 390) (by decide +kernel), List.mem_of_getElem? (i := 495) (by decide +kernel), List.mem_of_getElem? (i := 496) (by decide +kernel)⟩
theorem lw_p25 : lw_okq (⟨"FewLooksModel", "fromRising", "()I"⟩, 11) := ⟨⟨by decide +kernel, by decide +kernel⟩, List.mem_of_getElem? (i := 390) (by decide +kernel), List.mem_of_getElem? (i := 499) (by decide +kernel), List.mem_of_getElem? (i := 500) (by decide +kernel)⟩
theorem lw_p26 : lw_okq (⟨"FewLooksModel", "fromMirrored", "()I"⟩, 11) := ⟨⟨by decide +kernel, by decide +kernel⟩, List.mem_of_getElem? (i := 390) (by decide +kernel), List.mem_of_getElem? (i := 503) (by decide +kernel), List.mem_of_getElem? (i := 504) (by decide +kernel)⟩
theorem lw_p27 : lw_okq (⟨"FewLooksModel", "fromEven", "()I"⟩, 11) := ⟨⟨by decide +kernel, by decide +kernel⟩, List.mem_of_getElem? (i := 390) (by decide +kernel), List.mem_of_getElem? (i := 507) (by decide +kernel), List.mem_of_getElem? (i := 508) (by decide +kernel)⟩
theorem lw_p28 : lw_okq (⟨"FewLooksModel", "fromRound", "()I"⟩, 11) := ⟨⟨by decide +kernel, by decide +kernel⟩, List.mem_of_getElem? (i := 390) (by decide +kernel), List.mem_of_getElem? (i := 511) (by decide +kernel), List.mem_of_getElem? (i := 512) (by decide +kernel)⟩
theorem lw_p29 : lw_okq (⟨"FewLooksModel", "fromShift", "(I)I"⟩, 11) := ⟨⟨by decide +kernel, by decide +kernel⟩, List.mem_of_getElem? (i := 390) (by decide +kernel), List.mem_of_getElem? (i := 515) (by decide +kernel), List.mem_of_getElem? (i := 516) (by decide +kernel)⟩
theorem lw_p30 : lw_okq (⟨"FewLooksModel", "nearestTable", "()I"⟩, 11) := ⟨⟨by decide +kernel, by decide +kernel⟩, List.mem_of_getElem? (i := 390) (by decide +kernel), List.mem_of_getElem? (i := 519) (by decide +kernel), List.mem_of_getElem? (i := 520) (by decide +kernel)⟩
theorem lw_p31 : lw_okq (⟨"FewLooksModel", "tableFar", "(I)I"⟩, 11) := ⟨⟨by decide +kernel, by decide +kernel⟩, List.mem_of_getElem? (i := 390) (by decide +kernel), List.mem_of_getElem? (i := 523) (by decide +kernel), List.mem_of_getElem? (i := 524) (by decide +kernel)⟩
def lw_privs_2 : List (MethodName × Nat) := [(⟨"FewLooks", "isLook", "(III)Z"⟩, 6), (⟨"FewLooks", "fails", "(III)Z"⟩, 6), (⟨"FewLooks", "firstFailingSet", "()I"⟩, 6), (⟨"FewLooks", "firstFailingPair", "(I)I"⟩, 6), (⟨"FewLooksModel", "isPlace", "(I)Z"⟩, 11), (⟨"FewLooksModel", "distanceOf", "(I)I"⟩, 11), (⟨"FewLooksModel", "rowDistance", "(I)I"⟩, 11), (⟨"FewLooksModel", "takeRow", "()V"⟩, 11), (⟨"FewLooksModel", "fromKind", "(I)I"⟩, 11), (⟨"FewLooksModel", "fromRising", "()I"⟩, 11), (⟨"FewLooksModel", "fromMirrored", "()I"⟩, 11), (⟨"FewLooksModel", "fromEven", "()I"⟩, 11), (⟨"FewLooksModel", "fromRound", "()I"⟩, 11), (⟨"FewLooksModel", "fromShift", "(I)I"⟩, 11), (⟨"FewLooksModel", "nearestTable", "()I"⟩, 11), (⟨"FewLooksModel", "tableFar", "(I)I"⟩, 11)]
theorem lw_r2 : ∀ q ∈ lw_privs_2, lw_okq q := List.forall_mem_cons.mpr ⟨lw_p16, List.forall_mem_cons.mpr ⟨lw_p17, List.forall_mem_cons.mpr ⟨lw_p18, List.forall_mem_cons.mpr ⟨lw_p19, List.forall_mem_cons.mpr ⟨lw_p20, List.forall_mem_cons.mpr ⟨lw_p21, List.forall_mem_cons.mpr ⟨lw_p22, List.forall_mem_cons.mpr ⟨lw_p23, List.forall_mem_cons.mpr ⟨lw_p24, List.forall_mem_cons.mpr ⟨lw_p25, List.forall_mem_cons.mpr ⟨lw_p26, List.forall_mem_cons.mpr ⟨lw_p27, List.forall_mem_cons.mpr ⟨lw_p28, List.forall_mem_cons.mpr ⟨lw_p29, List.forall_mem_cons.mpr ⟨lw_p30, List.forall_mem_cons.mpr ⟨lw_p31, fun _ h => absurd h List.not_mem_nil⟩⟩⟩⟩⟩⟩⟩⟩⟩⟩⟩⟩⟩⟩⟩⟩
theorem lw_p32 : lw_okq (⟨"FewLooksModel", "nearestNet", "(I)I"⟩, 11) := ⟨⟨by decide +kernel, by decide +kernel⟩, List.mem_of_getElem? (i := 390) (by decide +kernel), List.mem_of_getElem? (i := 527) (by decide +kernel), List.mem_of_getElem? (i := 528) (by decide +kernel)⟩
theorem lw_p33 : lw_okq (⟨"FewLooksModel", "netFar", "(II)I"⟩, 11) := ⟨⟨by decide +kernel, by decide +kernel⟩, List.mem_of_getElem? (i := 390) (by decide +kernel), List.mem_of_getElem? (i := 531) (by decide +kernel), List.mem_of_getElem? (i := 532) (by decide +kernel)⟩
theorem lw_p34 : lw_okq (⟨"FewLooksModel", "findNearest", "(I)V"⟩, 11) := ⟨⟨by decide +kernel, by decide +kernel⟩, List.mem_of_getElem? (i := 390) (by decide +kernel), List.mem_of_getElem? (i := 543) (by decide +kernel), List.mem_of_getElem? (i := 544) (by decide +kernel)⟩
theorem lw_p35 : lw_okq (⟨"FewLooksModel", "findPass", "(I)V"⟩, 11) := ⟨⟨by decide +kernel, by decide +kernel⟩, List.mem_of_getElem? (i := 390) (by decide +kernel), List.mem_of_getElem? (i := 557) (by decide +kernel), List.mem_of_getElem? (i := 558) (by decide +kernel)⟩
theorem lw_p36 : lw_okq (⟨"FewLooksModel", "countRow", "(I)V"⟩, 11) := ⟨⟨by decide +kernel, by decide +kernel⟩, List.mem_of_getElem? (i := 390) (by decide +kernel), List.mem_of_getElem? (i := 561) (by decide +kernel), List.mem_of_getElem? (i := 562) (by decide +kernel)⟩
theorem lw_p37 : lw_okq (⟨"FewLooksModel", "countTable", "()V"⟩, 11) := ⟨⟨by decide +kernel, by decide +kernel⟩, List.mem_of_getElem? (i := 390) (by decide +kernel), List.mem_of_getElem? (i := 565) (by decide +kernel), List.mem_of_getElem? (i := 566) (by decide +kernel)⟩
theorem lw_p38 : lw_okq (⟨"FewLooksModel", "countNet", "()V"⟩, 11) := ⟨⟨by decide +kernel, by decide +kernel⟩, List.mem_of_getElem? (i := 390) (by decide +kernel), List.mem_of_getElem? (i := 573) (by decide +kernel), List.mem_of_getElem? (i := 574) (by decide +kernel)⟩
theorem lw_p39 : lw_okq (⟨"FewLooksModel", "passesNet", "(I)Z"⟩, 11) := ⟨⟨by decide +kernel, by decide +kernel⟩, List.mem_of_getElem? (i := 390) (by decide +kernel), List.mem_of_getElem? (i := 577) (by decide +kernel), List.mem_of_getElem? (i := 578) (by decide +kernel)⟩
theorem lw_p40 : lw_okq (⟨"FewLooksModel", "reduce", "()V"⟩, 11) := ⟨⟨by decide +kernel, by decide +kernel⟩, List.mem_of_getElem? (i := 390) (by decide +kernel), List.mem_of_getElem? (i := 581) (by decide +kernel), List.mem_of_getElem? (i := 582) (by decide +kernel)⟩
theorem lw_p41 : lw_okq (⟨"FewLooksModel", "findWorst", "(II)I"⟩, 11) := ⟨⟨by decide +kernel, by decide +kernel⟩, List.mem_of_getElem? (i := 390) (by decide +kernel), List.mem_of_getElem? (i := 593) (by decide +kernel), List.mem_of_getElem? (i := 594) (by decide +kernel)⟩
theorem lw_p42 : lw_okq (⟨"FewLooksModel", "maySubject", "(III)Z"⟩, 11) := ⟨⟨by decide +kernel, by decide +kernel⟩, List.mem_of_getElem? (i := 390) (by decide +kernel), List.mem_of_getElem? (i := 605) (by decide +kernel), List.mem_of_getElem? (i := 606) (by decide +kernel)⟩
theorem lw_p43 : lw_okq (⟨"FewLooksModel", "showsOf", "(III)Z"⟩, 11) := ⟨⟨by decide +kernel, by decide +kernel⟩, List.mem_of_getElem? (i := 390) (by decide +kernel), List.mem_of_getElem? (i := 609) (by decide +kernel), List.mem_of_getElem? (i := 610) (by decide +kernel)⟩
def lw_privs_3 : List (MethodName × Nat) := [(⟨"FewLooksModel", "nearestNet", "(I)I"⟩, 11), (⟨"FewLooksModel", "netFar", "(II)I"⟩, 11), (⟨"FewLooksModel", "findNearest", "(I)V"⟩, 11), (⟨"FewLooksModel", "findPass", "(I)V"⟩, 11), (⟨"FewLooksModel", "countRow", "(I)V"⟩, 11), (⟨"FewLooksModel", "countTable", "()V"⟩, 11), (⟨"FewLooksModel", "countNet", "()V"⟩, 11), (⟨"FewLooksModel", "passesNet", "(I)Z"⟩, 11), (⟨"FewLooksModel", "reduce", "()V"⟩, 11), (⟨"FewLooksModel", "findWorst", "(II)I"⟩, 11), (⟨"FewLooksModel", "maySubject", "(III)Z"⟩, 11), (⟨"FewLooksModel", "showsOf", "(III)Z"⟩, 11)]
theorem lw_r3 : ∀ q ∈ lw_privs_3, lw_okq q := List.forall_mem_cons.mpr ⟨lw_p32, List.forall_mem_cons.mpr ⟨lw_p33, List.forall_mem_cons.mpr ⟨lw_p34, List.forall_mem_cons.mpr ⟨lw_p35, List.forall_mem_cons.mpr ⟨lw_p36, List.forall_mem_cons.mpr ⟨lw_p37, List.forall_mem_cons.mpr ⟨lw_p38, List.forall_mem_cons.mpr ⟨lw_p39, List.forall_mem_cons.mpr ⟨lw_p40, List.forall_mem_cons.mpr ⟨lw_p41, List.forall_mem_cons.mpr ⟨lw_p42, List.forall_mem_cons.mpr ⟨lw_p43, fun _ h => absurd h List.not_mem_nil⟩⟩⟩⟩⟩⟩⟩⟩⟩⟩⟩⟩
def lw_privs : List (MethodName × Nat) := lw_privs_1 ++ (lw_privs_2 ++ (lw_privs_3))
def lw_tbl : List Cond := k2_sels lw_privs ++ tables_1
theorem lw_privs_ok : ∀ q ∈ lw_privs, lw_okq q := by
  show ∀ q ∈ lw_privs_1 ++ (lw_privs_2 ++ (lw_privs_3)), lw_okq q
  exact List.forall_mem_append.mpr ⟨lw_r1, List.forall_mem_append.mpr ⟨lw_r2, lw_r3⟩⟩
end
section
/-! ===== BEGIN words of one list among another's, by their places ===== -/
theorem goodIn_r {big : List Cond} (ws : List Cond) (ps : List Nat) (hp : ws = ps.filterMap (fun i => big[i]?)) (h : ws.all goodWord = true) : GoodIn big ws := by
  intro w hw
  have h1 := List.all_eq_true.mp h w hw
  rw [hp] at hw
  obtain ⟨i, -, hi⟩ := List.mem_filterMap.mp hw
  have hm : w ∈ big := by first | exact List.mem_of_getElem? hi | exact List.getElem?_mem hi
  exact ⟨hm, good_of_word h1⟩
theorem goodIn_app {big a b : List Cond} (ha : GoodIn big a) (hb : GoodIn big b) : GoodIn big (a ++ b) := fun w h => (List.mem_append.mp h).elim (ha w) (hb w)
theorem goodIn_ca {big a b : List Cond} {c : Cond} (ha : GoodIn big (c :: a)) (hb : GoodIn big b) : GoodIn big (c :: (a ++ b)) := fun w h => (List.mem_cons.mp h).elim (fun e => ha w (List.mem_cons.mpr (Or.inl e))) (fun h => (List.mem_append.mp h).elim (fun h => ha w (List.mem_cons.mpr (Or.inr h))) (hb w))
theorem goodIn_sub {big ws : List Cond} (hm : ∀ w ∈ ws, w ∈ big) (h : ws.all goodWord = true) : GoodIn big ws := fun w hw => ⟨hm w hw, good_of_word (List.all_eq_true.mp h w hw)⟩
/-! ===== END ===== -/

/-! ===== BEGIN printed: names, fields, word lists, decode rows ===== -/
def RX0 : String := "FewLooks$Mender"
def TX0 : u_T := fun k => match k with
  | 0 => ("FewLooks$Mender", "near", "LFewLooks$Row;", true)
  | 1 => ("FewLooks$Mender", "guess", "LFewLooks$Row;", true)
  | _ => ("FewLooks$Mender", "costs", "[I", true)
def tyX0 : Nat → FieldType := fun k => match k with
  | 0 => .object "FewLooks$Row"
  | 1 => .object "FewLooks$Row"
  | _ => .array .int
abbrev wsX00 : List Cond := u_ws RX0 TX0 3
theorem nmX0 : ∀ a, a < 3 → ∀ b, b < 3 → a ≠ b → (TX0 a).2.1 ≠ (TX0 b).2.1 := by decide +kernel
theorem tyX0_ok : ∀ k, k < 3 → parseFieldDescriptor (TX0 k).2.2.1 = some (tyX0 k) := by decide +kernel
abbrev cX0_init : ByteArray := prog_2_method_1_code
def yX0_init : MethodName := ⟨RX0, "<init>", "()V"⟩
abbrev cX0_seek : ByteArray := prog_2_method_2_code
def yX0_seek : MethodName := ⟨RX0, "seek", "(LFewLooks$Row;I)I"⟩
abbrev cX0_raise : ByteArray := prog_2_method_3_code
def yX0_raise : MethodName := ⟨RX0, "raise", "(LFewLooks$Row;)V"⟩
abbrev cX0_fillCosts : ByteArray := prog_2_method_4_code
def yX0_fillCosts : MethodName := ⟨RX0, "fillCosts", "(LFewLooks$Row;)V"⟩
abbrev cX0_costWith : ByteArray := prog_2_method_5_code
def yX0_costWith : MethodName := ⟨RX0, "costWith", "(LFewLooks$Row;II)I"⟩
abbrev cX0_mirror : ByteArray := prog_2_method_6_code
def yX0_mirror : MethodName := ⟨RX0, "mirror", "(LFewLooks$Row;)V"⟩
abbrev cX0_makeEven : ByteArray := prog_2_method_7_code
def yX0_makeEven : MethodName := ⟨RX0, "makeEven", "()V"⟩
abbrev cX0_makeRound : ByteArray := prog_2_method_8_code
def yX0_makeRound : MethodName := ⟨RX0, "makeRound", "(LFewLooks$Row;)V"⟩
abbrev cX0_guessPeriod : ByteArray := prog_2_method_9_code
def yX0_guessPeriod : MethodName := ⟨RX0, "guessPeriod", "(LFewLooks$Row;I)V"⟩
abbrev cX0_commonest : ByteArray := prog_2_method_10_code
def yX0_commonest : MethodName := ⟨RX0, "commonest", "(LFewLooks$Row;II)I"⟩
def RX1 : String := "FewLooks$Net"
def TX1 : u_T := fun k => match k with
  | _ => ("FewLooks$Net", "joins", "[I", true)
def tyX1 : Nat → FieldType := fun k => match k with
  | _ => .array .int
abbrev wsX10 : List Cond := u_ws RX1 TX1 1
theorem nmX1 : ∀ a, a < 1 → ∀ b, b < 1 → a ≠ b → (TX1 a).2.1 ≠ (TX1 b).2.1 := by decide +kernel
theorem tyX1_ok : ∀ k, k < 1 → parseFieldDescriptor (TX1 k).2.2.1 = some (tyX1 k) := by decide +kernel
abbrev cX1_init : ByteArray := prog_3_method_1_code
def yX1_init : MethodName := ⟨RX1, "<init>", "()V"⟩
abbrev cX1_joined : ByteArray := prog_3_method_2_code
def yX1_joined : MethodName := ⟨RX1, "joined", "(II)I"⟩
abbrev cX1_join : ByteArray := prog_3_method_3_code
def yX1_join : MethodName := ⟨RX1, "join", "(IIZ)V"⟩
abbrev cX1_lines : ByteArray := prog_3_method_4_code
def yX1_lines : MethodName := ⟨RX1, "lines", "()I"⟩
abbrev cX1_alikeTo : ByteArray := prog_3_method_5_code
def yX1_alikeTo : MethodName := ⟨RX1, "alikeTo", "(II)I"⟩
abbrev cX1_likeLines : ByteArray := prog_3_method_6_code
def yX1_likeLines : MethodName := ⟨RX1, "likeLines", "(II)I"⟩
abbrev cX1_cutLikeLines : ByteArray := prog_3_method_7_code
def yX1_cutLikeLines : MethodName := ⟨RX1, "cutLikeLines", "(I)V"⟩
abbrev cX1_bestColouring : ByteArray := prog_3_method_8_code
def yX1_bestColouring : MethodName := ⟨RX1, "bestColouring", "()I"⟩
abbrev cX1_bestColouringOf : ByteArray := prog_3_method_9_code
def yX1_bestColouringOf : MethodName := ⟨RX1, "bestColouringOf", "(I)I"⟩
abbrev cX1_twoColoured : ByteArray := prog_3_method_10_code
def yX1_twoColoured : MethodName := ⟨RX1, "twoColoured", "(I)Z"⟩
abbrev cX1_sets : ByteArray := prog_3_method_11_code
def yX1_sets : MethodName := ⟨RX1, "sets", "(I)I"⟩
abbrev cX1_passing : ByteArray := prog_3_method_12_code
def yX1_passing : MethodName := ⟨RX1, "passing", "(I)I"⟩
def RX2 : String := "FewLooks$Row"
def TX2 : u_T := fun k => match k with
  | 0 => ("FewLooks$Row", "digits", "[I", true)
  | _ => ("FewLooks$Row", "size", "I", false)
def tyX2 : Nat → FieldType := fun k => match k with
  | 0 => .array .int
  | _ => .int
abbrev wsX20 : List Cond := u_ws RX2 TX2 2
theorem nmX2 : ∀ a, a < 2 → ∀ b, b < 2 → a ≠ b → (TX2 a).2.1 ≠ (TX2 b).2.1 := by decide +kernel
theorem tyX2_ok : ∀ k, k < 2 → parseFieldDescriptor (TX2 k).2.2.1 = some (tyX2 k) := by decide +kernel
abbrev cX2_init : ByteArray := prog_4_method_1_code
def yX2_init : MethodName := ⟨RX2, "<init>", "()V"⟩
abbrev cX2_clear : ByteArray := prog_4_method_2_code
def yX2_clear : MethodName := ⟨RX2, "clear", "(I)V"⟩
abbrev cX2_become : ByteArray := prog_4_method_3_code
def yX2_become : MethodName := ⟨RX2, "become", "(LFewLooks$Row;)V"⟩
abbrev cX2_spell : ByteArray := prog_4_method_4_code
def yX2_spell : MethodName := ⟨RX2, "spell", "(II)V"⟩
abbrev cX2_total : ByteArray := prog_4_method_5_code
def yX2_total : MethodName := ⟨RX2, "total", "()I"⟩
abbrev cX2_differing : ByteArray := prog_4_method_6_code
def yX2_differing : MethodName := ⟨RX2, "differing", "(LFewLooks$Row;)I"⟩
abbrev cX2_isAheadOf : ByteArray := prog_4_method_7_code
def yX2_isAheadOf : MethodName := ⟨RX2, "isAheadOf", "(LFewLooks$Row;)Z"⟩
abbrev cX2_looks : ByteArray := prog_4_method_8_code
def yX2_looks : MethodName := ⟨RX2, "looks", "(I)I"⟩
abbrev cX2_passing : ByteArray := prog_4_method_9_code
def yX2_passing : MethodName := ⟨RX2, "passing", "(I)I"⟩
abbrev cX2_risingPairs : ByteArray := prog_4_method_10_code
def yX2_risingPairs : MethodName := ⟨RX2, "risingPairs", "()I"⟩
abbrev cX2_mirroredPlaces : ByteArray := prog_4_method_11_code
def yX2_mirroredPlaces : MethodName := ⟨RX2, "mirroredPlaces", "()I"⟩
abbrev cX2_alikeShifts : ByteArray := prog_4_method_12_code
def yX2_alikeShifts : MethodName := ⟨RX2, "alikeShifts", "()I"⟩
def RX3 : String := "FewLooks$Table"
def TX3 : u_T := fun k => match k with
  | _ => ("FewLooks$Table", "bits", "I", false)
def tyX3 : Nat → FieldType := fun k => match k with
  | _ => .int
abbrev wsX30 : List Cond := u_ws RX3 TX3 1
theorem nmX3 : ∀ a, a < 1 → ∀ b, b < 1 → a ≠ b → (TX3 a).2.1 ≠ (TX3 b).2.1 := by decide +kernel
theorem tyX3_ok : ∀ k, k < 1 → parseFieldDescriptor (TX3 k).2.2.1 = some (tyX3 k) := by decide +kernel
abbrev cX3_init : ByteArray := prog_5_method_1_code
def yX3_init : MethodName := ⟨RX3, "<init>", "()V"⟩
abbrev cX3_at : ByteArray := prog_5_method_2_code
def yX3_at : MethodName := ⟨RX3, "at", "(I)I"⟩
abbrev cX3_put : ByteArray := prog_5_method_3_code
def yX3_put : MethodName := ⟨RX3, "put", "(II)V"⟩
abbrev cX3_parities : ByteArray := prog_5_method_4_code
def yX3_parities : MethodName := ⟨RX3, "parities", "(I)I"⟩
abbrev cX3_differing : ByteArray := prog_5_method_5_code
def yX3_differing : MethodName := ⟨RX3, "differing", "(I)I"⟩
abbrev cX3_closest : ByteArray := prog_5_method_6_code
def yX3_closest : MethodName := ⟨RX3, "closest", "()I"⟩
abbrev cX3_agrees : ByteArray := prog_5_method_7_code
def yX3_agrees : MethodName := ⟨RX3, "agrees", "(II)Z"⟩
abbrev cX3_passing : ByteArray := prog_5_method_8_code
def yX3_passing : MethodName := ⟨RX3, "passing", "()I"⟩
abbrev cX3_tellers : ByteArray := prog_5_method_9_code
def yX3_tellers : MethodName := ⟨RX3, "tellers", "(II)I"⟩
def RX4 : String := "FewLooks"
def TX4 : u_T := fun k => match k with
  | 0 => ("FewLooks", "row", "LFewLooks$Row;", true)
  | 1 => ("FewLooks", "trial", "LFewLooks$Row;", true)
  | 2 => ("FewLooks", "mender", "LFewLooks$Mender;", true)
  | 3 => ("FewLooks", "table", "LFewLooks$Table;", true)
  | 4 => ("FewLooks", "net", "LFewLooks$Net;", true)
  | _ => ("FewLooks", "drawn", "I", false)
def tyX4 : Nat → FieldType := fun k => match k with
  | 0 => .object "FewLooks$Row"
  | 1 => .object "FewLooks$Row"
  | 2 => .object "FewLooks$Mender"
  | 3 => .object "FewLooks$Table"
  | 4 => .object "FewLooks$Net"
  | _ => .int
abbrev wsX40 : List Cond := u_ws RX4 TX4 6
theorem nmX4 : ∀ a, a < 6 → ∀ b, b < 6 → a ≠ b → (TX4 a).2.1 ≠ (TX4 b).2.1 := by decide +kernel
theorem tyX4_ok : ∀ k, k < 6 → parseFieldDescriptor (TX4 k).2.2.1 = some (tyX4 k) := by decide +kernel
abbrev cX4_init : ByteArray := prog_1_method_1_code
def yX4_init : MethodName := ⟨RX4, "<init>", "()V"⟩
abbrev cX4_places : ByteArray := prog_1_method_2_code
def yX4_places : MethodName := ⟨RX4, "places", "(I)I"⟩
abbrev cX4_digit : ByteArray := prog_1_method_3_code
def yX4_digit : MethodName := ⟨RX4, "digit", "(II)I"⟩
abbrev cX4_bit : ByteArray := prog_1_method_4_code
def yX4_bit : MethodName := ⟨RX4, "bit", "(II)I"⟩
abbrev cX4_linear : ByteArray := prog_1_method_5_code
def yX4_linear : MethodName := ⟨RX4, "linear", "(I)I"⟩
abbrev cX4_line : ByteArray := prog_1_method_6_code
def yX4_line : MethodName := ⟨RX4, "line", "(IIZ)I"⟩
abbrev cX4_draw : ByteArray := prog_1_method_7_code
def yX4_draw : MethodName := ⟨RX4, "draw", "(I)I"⟩
abbrev cX4_is : ByteArray := prog_1_method_8_code
def yX4_is : MethodName := ⟨RX4, "is", "(I)I"⟩
abbrev cX4_distance : ByteArray := prog_1_method_9_code
def yX4_distance : MethodName := ⟨RX4, "distance", "(I)I"⟩
abbrev cX4_nearest : ByteArray := prog_1_method_10_code
def yX4_nearest : MethodName := ⟨RX4, "nearest", "(II)I"⟩
abbrev cX4_mend : ByteArray := prog_1_method_11_code
def yX4_mend : MethodName := ⟨RX4, "mend", "(I)I"⟩
abbrev cX4_pass : ByteArray := prog_1_method_12_code
def yX4_pass : MethodName := ⟨RX4, "pass", "(II)J"⟩
abbrev cX4_repeats : ByteArray := prog_1_method_13_code
def yX4_repeats : MethodName := ⟨RX4, "repeats", "(III)I"⟩
abbrev cX4_worst : ByteArray := prog_1_method_14_code
def yX4_worst : MethodName := ⟨RX4, "worst", "(IIII)I"⟩
abbrev cX4_mended : ByteArray := prog_1_method_15_code
def yX4_mended : MethodName := ⟨RX4, "mended", "(II)I"⟩
abbrev cX4_shows : ByteArray := prog_1_method_16_code
def yX4_shows : MethodName := ⟨RX4, "shows", "(III)I"⟩
abbrev cX4_witness : ByteArray := prog_1_method_17_code
def yX4_witness : MethodName := ⟨RX4, "witness", "(I)I"⟩
abbrev cX4_count : ByteArray := prog_1_method_18_code
def yX4_count : MethodName := ⟨RX4, "count", "(I)I"⟩
abbrev cX4_within : ByteArray := prog_1_method_19_code
def yX4_within : MethodName := ⟨RX4, "within", "(III)Z"⟩
abbrev cX4_isSubject : ByteArray := prog_1_method_20_code
def yX4_isSubject : MethodName := ⟨RX4, "isSubject", "(I)Z"⟩
abbrev cX4_isRow : ByteArray := prog_1_method_21_code
def yX4_isRow : MethodName := ⟨RX4, "isRow", "(I)Z"⟩
abbrev cX4_isEntry : ByteArray := prog_1_method_22_code
def yX4_isEntry : MethodName := ⟨RX4, "isEntry", "(I)Z"⟩
abbrev cX4_isPoint : ByteArray := prog_1_method_23_code
def yX4_isPoint : MethodName := ⟨RX4, "isPoint", "(I)Z"⟩
abbrev cX4_isPlace : ByteArray := prog_1_method_24_code
def yX4_isPlace : MethodName := ⟨RX4, "isPlace", "(I)Z"⟩
abbrev cX4_howFar : ByteArray := prog_1_method_25_code
def yX4_howFar : MethodName := ⟨RX4, "howFar", "(I)I"⟩
abbrev cX4_passing : ByteArray := prog_1_method_26_code
def yX4_passing : MethodName := ⟨RX4, "passing", "(I)I"⟩
abbrev cX4_looks : ByteArray := prog_1_method_27_code
def yX4_looks : MethodName := ⟨RX4, "looks", "(I)I"⟩
abbrev cX4_lowestTerm : ByteArray := prog_1_method_28_code
def yX4_lowestTerm : MethodName := ⟨RX4, "lowestTerm", "(III)I"⟩
abbrev cX4_worstCode : ByteArray := prog_1_method_29_code
def yX4_worstCode : MethodName := ⟨RX4, "worstCode", "(II)I"⟩
abbrev cX4_isLook : ByteArray := prog_1_method_30_code
def yX4_isLook : MethodName := ⟨RX4, "isLook", "(III)Z"⟩
abbrev cX4_fails : ByteArray := prog_1_method_31_code
def yX4_fails : MethodName := ⟨RX4, "fails", "(III)Z"⟩
abbrev cX4_firstFailingSet : ByteArray := prog_1_method_32_code
def yX4_firstFailingSet : MethodName := ⟨RX4, "firstFailingSet", "()I"⟩
abbrev cX4_firstFailingPair : ByteArray := prog_1_method_33_code
def yX4_firstFailingPair : MethodName := ⟨RX4, "firstFailingPair", "(I)I"⟩
def RX5 : String := "FewLooksModel"
def TX5 : u_T := fun k => match k with
  | 0 => ("FewLooksModel", "n", "I", false)
  | 1 => ("FewLooksModel", "row", "[I", true)
  | 2 => ("FewLooksModel", "table", "[I", true)
  | 3 => ("FewLooksModel", "joined", "[I", true)
  | 4 => ("FewLooksModel", "k", "I", false)
  | 5 => ("FewLooksModel", "it", "[I", true)
  | 6 => ("FewLooksModel", "rise", "[I", true)
  | 7 => ("FewLooksModel", "above", "J", false)
  | 8 => ("FewLooksModel", "below", "J", false)
  | 9 => ("FewLooksModel", "worstAbove", "J", false)
  | _ => ("FewLooksModel", "worstBelow", "J", false)
def tyX5 : Nat → FieldType := fun k => match k with
  | 0 => .int
  | 1 => .array .int
  | 2 => .array .int
  | 3 => .array .int
  | 4 => .int
  | 5 => .array .int
  | 6 => .array .int
  | 7 => .long
  | 8 => .long
  | 9 => .long
  | _ => .long
abbrev wsX50 : List Cond := u_ws RX5 TX5 11
theorem nmX5 : ∀ a, a < 11 → ∀ b, b < 11 → a ≠ b → (TX5 a).2.1 ≠ (TX5 b).2.1 := by decide +kernel
theorem tyX5_ok : ∀ k, k < 11 → parseFieldDescriptor (TX5 k).2.2.1 = some (tyX5 k) := by decide +kernel
abbrev cX5_init : ByteArray := prog_7_method_1_code
def yX5_init : MethodName := ⟨RX5, "<init>", "()V"⟩
abbrev cX5_in : ByteArray := prog_7_method_2_code
def yX5_in : MethodName := ⟨RX5, "in", "(III)Z"⟩
abbrev cX5_ones : ByteArray := prog_7_method_3_code
def yX5_ones : MethodName := ⟨RX5, "ones", "(I)I"⟩
abbrev cX5_isSubject : ByteArray := prog_7_method_4_code
def yX5_isSubject : MethodName := ⟨RX5, "isSubject", "(I)Z"⟩
abbrev cX5_isPlace : ByteArray := prog_7_method_5_code
def yX5_isPlace : MethodName := ⟨RX5, "isPlace", "(I)Z"⟩
abbrev cX5_isEight : ByteArray := prog_7_method_6_code
def yX5_isEight : MethodName := ⟨RX5, "isEight", "(I)Z"⟩
abbrev cX5_isBit : ByteArray := prog_7_method_7_code
def yX5_isBit : MethodName := ⟨RX5, "isBit", "(I)Z"⟩
abbrev cX5_places : ByteArray := prog_7_method_8_code
def yX5_places : MethodName := ⟨RX5, "places", "(I)I"⟩
abbrev cX5_digit : ByteArray := prog_7_method_9_code
def yX5_digit : MethodName := ⟨RX5, "digit", "(II)I"⟩
abbrev cX5_bit : ByteArray := prog_7_method_10_code
def yX5_bit : MethodName := ⟨RX5, "bit", "(II)I"⟩
abbrev cX5_parity : ByteArray := prog_7_method_11_code
def yX5_parity : MethodName := ⟨RX5, "parity", "(II)I"⟩
abbrev cX5_linear : ByteArray := prog_7_method_12_code
def yX5_linear : MethodName := ⟨RX5, "linear", "(I)I"⟩
abbrev cX5_isPoint : ByteArray := prog_7_method_13_code
def yX5_isPoint : MethodName := ⟨RX5, "isPoint", "(I)Z"⟩
abbrev cX5_line : ByteArray := prog_7_method_14_code
def yX5_line : MethodName := ⟨RX5, "line", "(IIZ)I"⟩
abbrev cX5_draw : ByteArray := prog_7_method_15_code
def yX5_draw : MethodName := ⟨RX5, "draw", "(I)I"⟩
abbrev cX5_takeRow : ByteArray := prog_7_method_16_code
def yX5_takeRow : MethodName := ⟨RX5, "takeRow", "()V"⟩
abbrev cX5_fromRising : ByteArray := prog_7_method_17_code
def yX5_fromRising : MethodName := ⟨RX5, "fromRising", "()I"⟩
abbrev cX5_fromMirrored : ByteArray := prog_7_method_18_code
def yX5_fromMirrored : MethodName := ⟨RX5, "fromMirrored", "()I"⟩
abbrev cX5_fromEven : ByteArray := prog_7_method_19_code
def yX5_fromEven : MethodName := ⟨RX5, "fromEven", "()I"⟩
abbrev cX5_fromShift : ByteArray := prog_7_method_20_code
def yX5_fromShift : MethodName := ⟨RX5, "fromShift", "(I)I"⟩
abbrev cX5_fromRound : ByteArray := prog_7_method_21_code
def yX5_fromRound : MethodName := ⟨RX5, "fromRound", "()I"⟩
abbrev cX5_fromKind : ByteArray := prog_7_method_22_code
def yX5_fromKind : MethodName := ⟨RX5, "fromKind", "(I)I"⟩
abbrev cX5_rowDistance : ByteArray := prog_7_method_23_code
def yX5_rowDistance : MethodName := ⟨RX5, "rowDistance", "(I)I"⟩
abbrev cX5_findNearest : ByteArray := prog_7_method_24_code
def yX5_findNearest : MethodName := ⟨RX5, "findNearest", "(I)V"⟩
abbrev cX5_tableFar : ByteArray := prog_7_method_25_code
def yX5_tableFar : MethodName := ⟨RX5, "tableFar", "(I)I"⟩
abbrev cX5_nearestTable : ByteArray := prog_7_method_26_code
def yX5_nearestTable : MethodName := ⟨RX5, "nearestTable", "()I"⟩
abbrev cX5_netFar : ByteArray := prog_7_method_27_code
def yX5_netFar : MethodName := ⟨RX5, "netFar", "(II)I"⟩
abbrev cX5_nearestNet : ByteArray := prog_7_method_28_code
def yX5_nearestNet : MethodName := ⟨RX5, "nearestNet", "(I)I"⟩
abbrev cX5_distanceOf : ByteArray := prog_7_method_29_code
def yX5_distanceOf : MethodName := ⟨RX5, "distanceOf", "(I)I"⟩
abbrev cX5_is : ByteArray := prog_7_method_30_code
def yX5_is : MethodName := ⟨RX5, "is", "(I)I"⟩
abbrev cX5_distance : ByteArray := prog_7_method_31_code
def yX5_distance : MethodName := ⟨RX5, "distance", "(I)I"⟩
abbrev cX5_nearest : ByteArray := prog_7_method_32_code
def yX5_nearest : MethodName := ⟨RX5, "nearest", "(II)I"⟩
abbrev cX5_mend : ByteArray := prog_7_method_33_code
def yX5_mend : MethodName := ⟨RX5, "mend", "(I)I"⟩
abbrev cX5_passesTable : ByteArray := prog_7_method_34_code
def yX5_passesTable : MethodName := ⟨RX5, "passesTable", "(III)Z"⟩
abbrev cX5_countRow : ByteArray := prog_7_method_35_code
def yX5_countRow : MethodName := ⟨RX5, "countRow", "(I)V"⟩
abbrev cX5_countTable : ByteArray := prog_7_method_36_code
def yX5_countTable : MethodName := ⟨RX5, "countTable", "()V"⟩
abbrev cX5_passesNet : ByteArray := prog_7_method_37_code
def yX5_passesNet : MethodName := ⟨RX5, "passesNet", "(I)Z"⟩
abbrev cX5_countNet : ByteArray := prog_7_method_38_code
def yX5_countNet : MethodName := ⟨RX5, "countNet", "()V"⟩
abbrev cX5_reduce : ByteArray := prog_7_method_39_code
def yX5_reduce : MethodName := ⟨RX5, "reduce", "()V"⟩
abbrev cX5_findPass : ByteArray := prog_7_method_40_code
def yX5_findPass : MethodName := ⟨RX5, "findPass", "(I)V"⟩
abbrev cX5_pass : ByteArray := prog_7_method_41_code
def yX5_pass : MethodName := ⟨RX5, "pass", "(II)J"⟩
abbrev cX5_repeats : ByteArray := prog_7_method_42_code
def yX5_repeats : MethodName := ⟨RX5, "repeats", "(III)I"⟩
abbrev cX5_findWorst : ByteArray := prog_7_method_43_code
def yX5_findWorst : MethodName := ⟨RX5, "findWorst", "(II)I"⟩
abbrev cX5_worst : ByteArray := prog_7_method_44_code
def yX5_worst : MethodName := ⟨RX5, "worst", "(IIII)I"⟩
abbrev cX5_mended : ByteArray := prog_7_method_45_code
def yX5_mended : MethodName := ⟨RX5, "mended", "(II)I"⟩
abbrev cX5_maySubject : ByteArray := prog_7_method_46_code
def yX5_maySubject : MethodName := ⟨RX5, "maySubject", "(III)Z"⟩
abbrev cX5_showsOf : ByteArray := prog_7_method_47_code
def yX5_showsOf : MethodName := ⟨RX5, "showsOf", "(III)Z"⟩
abbrev cX5_shows : ByteArray := prog_7_method_48_code
def yX5_shows : MethodName := ⟨RX5, "shows", "(III)I"⟩
abbrev cX5_witness : ByteArray := prog_7_method_49_code
def yX5_witness : MethodName := ⟨RX5, "witness", "(I)I"⟩
abbrev cX5_count : ByteArray := prog_7_method_50_code
def yX5_count : MethodName := ⟨RX5, "count", "(I)I"⟩
def RJ6 : String := "java/lang/Integer"
def TJ6 : u_T := fun k => match k with
  | _ => ("", "", "", false)
def tyJ6 : Nat → FieldType := fun k => match k with
  | _ => .int
abbrev wsJ60 : List Cond := u_ws RJ6 TJ6 0
theorem nmJ6 : ∀ a, a < 0 → ∀ b, b < 0 → a ≠ b → (TJ6 a).2.1 ≠ (TJ6 b).2.1 := by decide +kernel
theorem tyJ6_ok : ∀ k, k < 0 → parseFieldDescriptor (TJ6 k).2.2.1 = some (tyJ6 k) := by decide +kernel
abbrev cJ6_bitCount_0f7a4 : ByteArray := prog_8_method_49_code
def yJ6_bitCount_0f7a4 : MethodName := ⟨RJ6, "bitCount", "(I)I"⟩
def RJ9 : String := "java/lang/Math"
def TJ9 : u_T := fun k => match k with
  | _ => ("", "", "", false)
def tyJ9 : Nat → FieldType := fun k => match k with
  | _ => .int
abbrev wsJ90 : List Cond := u_ws RJ9 TJ9 0
theorem nmJ9 : ∀ a, a < 0 → ∀ b, b < 0 → a ≠ b → (TJ9 a).2.1 ≠ (TJ9 b).2.1 := by decide +kernel
theorem tyJ9_ok : ∀ k, k < 0 → parseFieldDescriptor (TJ9 k).2.2.1 = some (tyJ9 k) := by decide +kernel
abbrev cJ9_min_7cf53 : ByteArray := prog_9_method_69_code
def yJ9_min_7cf53 : MethodName := ⟨RJ9, "min", "(II)I"⟩
def RL : String := "FewLooksLaw"
abbrev cL_law : ByteArray := code
def yL_law : MethodName := ⟨RL, "law", "([I)Z"⟩
def wsX2_init : List Cond := .code yX2_init cX2_init 1 none :: ([.methodLink RX2 3 objectInit, .instanceMethod objectInit, .code objectInit ⟨#[0xb1]⟩ 1 none, .arrayClass .int, .fieldLink RX2 9 "FewLooks$Row" "digits" "[I", .fieldLink RX2 15 "FewLooks$Row" "size" "I"] ++ wsX20)
def wsX0_init : List Cond := .code yX0_init cX0_init 1 none :: ([.methodLink RX0 3 objectInit, .instanceMethod objectInit, .code objectInit ⟨#[0xb1]⟩ 1 none, .classLink RX0 9 RX2, .instantiable RX2 2, .initialized RX2, .fieldLink RX0 12 "FewLooks$Mender" "near" "LFewLooks$Row;", .fieldLink RX0 18 "FewLooks$Mender" "guess" "LFewLooks$Row;", .arrayClass .int, .fieldLink RX0 21 "FewLooks$Mender" "costs" "[I", .instanceMethod yX2_init, .code yX2_init cX2_init 1 none, .methodLink RX2 3 objectInit, .fieldLink RX2 9 "FewLooks$Row" "digits" "[I", .fieldLink RX2 15 "FewLooks$Row" "size" "I"] ++ wsX20 ++ wsX00)
def wsX2_become : List Cond := .code yX2_become cX2_become 3 none :: ([.fieldLink RX2 15 "FewLooks$Row" "size" "I", .fieldLink RX2 9 "FewLooks$Row" "digits" "[I"] ++ wsX20)
def wsX0_costWith : List Cond := .code yX0_costWith cX0_costWith 5 (some .int) :: ([.fieldLink RX0 21 "FewLooks$Mender" "costs" "[I"] ++ wsX20 ++ wsX00)
def wsX0_fillCosts : List Cond := .code yX0_fillCosts cX0_fillCosts 5 none :: ([.fieldLink RX0 21 "FewLooks$Mender" "costs" "[I", .methodLink RX0 59 Lib.Math.min.name, .static Lib.Math.min.name, .initialized "java/lang/Math", .code Lib.Math.min.name Lib.Math.min.code 2 (some .int), .methodLink RX0 52 yX0_costWith, .instanceMethod yX0_costWith, .selects RX0 yX0_costWith yX0_costWith, .initialized RX0, .code yX0_costWith cX0_costWith 5 (some .int)] ++ wsX00 ++ wsX20)
def wsX0_raise : List Cond := .code yX0_raise cX0_raise 5 none :: ([.fieldLink RX0 21 "FewLooks$Mender" "costs" "[I", .fieldLink RX0 12 "FewLooks$Mender" "near" "LFewLooks$Row;", .methodLink RX0 45 yX0_fillCosts, .instanceMethod yX0_fillCosts, .selects RX0 yX0_fillCosts yX0_fillCosts, .initialized RX0, .code yX0_fillCosts cX0_fillCosts 5 none, .methodLink RX0 59 Lib.Math.min.name, .static Lib.Math.min.name, .initialized "java/lang/Math", .code Lib.Math.min.name Lib.Math.min.code 2 (some .int), .methodLink RX0 52 yX0_costWith, .instanceMethod yX0_costWith, .selects RX0 yX0_costWith yX0_costWith, .code yX0_costWith cX0_costWith 5 (some .int)] ++ wsX20 ++ wsX00)
def wsX0_mirror : List Cond := .code yX0_mirror cX0_mirror 3 none :: ([.fieldLink RX0 12 "FewLooks$Mender" "near" "LFewLooks$Row;", .methodLink RX0 59 Lib.Math.min.name, .static Lib.Math.min.name, .initialized "java/lang/Math", .code Lib.Math.min.name Lib.Math.min.code 2 (some .int)] ++ wsX20 ++ wsX00)
def wsX2_total : List Cond := .code yX2_total cX2_total 3 (some .int) :: ([.fieldLink RX2 15 "FewLooks$Row" "size" "I", .fieldLink RX2 9 "FewLooks$Row" "digits" "[I"] ++ wsX20)
def wsX0_makeEven : List Cond := .code yX0_makeEven cX0_makeEven 2 none :: ([.fieldLink RX0 12 "FewLooks$Mender" "near" "LFewLooks$Row;", .methodLink RX0 65 yX2_total, .instanceMethod yX2_total, .selects RX2 yX2_total yX2_total, .initialized RX2, .code yX2_total cX2_total 3 (some .int), .fieldLink RX2 15 "FewLooks$Row" "size" "I", .fieldLink RX2 9 "FewLooks$Row" "digits" "[I"] ++ wsX00 ++ wsX20)
def wsX0_commonest : List Cond := .code yX0_commonest cX0_commonest 9 (some .int) :: ([] ++ wsX20)
def wsX0_guessPeriod : List Cond := .code yX0_guessPeriod cX0_guessPeriod 4 none :: ([.fieldLink RX0 18 "FewLooks$Mender" "guess" "LFewLooks$Row;", .methodLink RX0 25 yX2_become, .instanceMethod yX2_become, .selects RX2 yX2_become yX2_become, .initialized RX2, .code yX2_become cX2_become 3 none, .fieldLink RX2 15 "FewLooks$Row" "size" "I", .fieldLink RX2 9 "FewLooks$Row" "digits" "[I", .methodLink RX0 77 yX0_commonest, .static yX0_commonest, .initialized RX0, .code yX0_commonest cX0_commonest 9 (some .int)] ++ wsX00 ++ wsX20)
def wsX2_differing : List Cond := .code yX2_differing cX2_differing 4 (some .int) :: ([.fieldLink RX2 15 "FewLooks$Row" "size" "I", .fieldLink RX2 9 "FewLooks$Row" "digits" "[I"] ++ wsX20)
def wsX2_isAheadOf : List Cond := .code yX2_isAheadOf cX2_isAheadOf 3 (some .boolean) :: ([.fieldLink RX2 15 "FewLooks$Row" "size" "I", .fieldLink RX2 9 "FewLooks$Row" "digits" "[I"] ++ wsX20)
def wsX0_makeRound_r1 : List Cond := [Cond.fieldLink RX0 18 "FewLooks$Mender" "guess" "LFewLooks$Row;", Cond.fieldLink RX0 12 "FewLooks$Mender" "near" "LFewLooks$Row;", Cond.methodLink RX0 69 yX0_guessPeriod, Cond.instanceMethod yX0_guessPeriod, Cond.selects RX0 yX0_guessPeriod yX0_guessPeriod, Cond.initialized RX0, Cond.code yX0_guessPeriod cX0_guessPeriod 4 none, Cond.methodLink RX0 25 yX2_become, Cond.instanceMethod yX2_become, Cond.selects RX2 yX2_become yX2_become, Cond.initialized RX2, Cond.code yX2_become cX2_become 3 none, Cond.fieldLink RX2 15 "FewLooks$Row" "size" "I", Cond.fieldLink RX2 9 "FewLooks$Row" "digits" "[I", Cond.methodLink RX0 77 yX0_commonest, Cond.static yX0_commonest, Cond.code yX0_commonest cX0_commonest 9 (some .int), Cond.methodLink RX0 41 yX2_differing, Cond.instanceMethod yX2_differing, Cond.selects RX2 yX2_differing yX2_differing, Cond.code yX2_differing cX2_differing 4 (some .int), Cond.methodLink RX0 73 yX2_isAheadOf, Cond.instanceMethod yX2_isAheadOf, Cond.selects RX2 yX2_isAheadOf yX2_isAheadOf]
def wsX0_makeRound_r2 : List Cond := [Cond.code yX2_isAheadOf cX2_isAheadOf 3 (some .boolean)]
def wsX0_makeRound : List Cond := .code yX0_makeRound cX0_makeRound 5 none :: ((wsX0_makeRound_r1 ++ wsX0_makeRound_r2) ++ wsX20 ++ wsX00)
def wsX0_seek_r1 : List Cond := [Cond.fieldLink RX0 12 "FewLooks$Mender" "near" "LFewLooks$Row;", Cond.methodLink RX0 25 yX2_become, Cond.instanceMethod yX2_become, Cond.selects RX2 yX2_become yX2_become, Cond.initialized RX2, Cond.code yX2_become cX2_become 3 none, Cond.fieldLink RX2 15 "FewLooks$Row" "size" "I", Cond.fieldLink RX2 9 "FewLooks$Row" "digits" "[I", Cond.methodLink RX0 29 yX0_raise, Cond.instanceMethod yX0_raise, Cond.selects RX0 yX0_raise yX0_raise, Cond.initialized RX0, Cond.code yX0_raise cX0_raise 5 none, Cond.fieldLink RX0 21 "FewLooks$Mender" "costs" "[I", Cond.methodLink RX0 45 yX0_fillCosts, Cond.instanceMethod yX0_fillCosts, Cond.selects RX0 yX0_fillCosts yX0_fillCosts, Cond.code yX0_fillCosts cX0_fillCosts 5 none, Cond.methodLink RX0 59 Lib.Math.min.name, Cond.static Lib.Math.min.name, Cond.initialized "java/lang/Math", Cond.code Lib.Math.min.name Lib.Math.min.code 2 (some .int), Cond.methodLink RX0 52 yX0_costWith, Cond.instanceMethod yX0_costWith]
def wsX0_seek_r2 : List Cond := [Cond.selects RX0 yX0_costWith yX0_costWith, Cond.code yX0_costWith cX0_costWith 5 (some .int), Cond.methodLink RX0 32 yX0_mirror, Cond.instanceMethod yX0_mirror, Cond.selects RX0 yX0_mirror yX0_mirror, Cond.code yX0_mirror cX0_mirror 3 none, Cond.methodLink RX0 35 yX0_makeEven, Cond.instanceMethod yX0_makeEven, Cond.selects RX0 yX0_makeEven yX0_makeEven, Cond.code yX0_makeEven cX0_makeEven 2 none, Cond.methodLink RX0 65 yX2_total, Cond.instanceMethod yX2_total, Cond.selects RX2 yX2_total yX2_total, Cond.code yX2_total cX2_total 3 (some .int), Cond.methodLink RX0 38 yX0_makeRound, Cond.instanceMethod yX0_makeRound, Cond.selects RX0 yX0_makeRound yX0_makeRound, Cond.code yX0_makeRound cX0_makeRound 5 none, Cond.fieldLink RX0 18 "FewLooks$Mender" "guess" "LFewLooks$Row;", Cond.methodLink RX0 69 yX0_guessPeriod, Cond.instanceMethod yX0_guessPeriod, Cond.selects RX0 yX0_guessPeriod yX0_guessPeriod, Cond.code yX0_guessPeriod cX0_guessPeriod 4 none, Cond.methodLink RX0 77 yX0_commonest]
def wsX0_seek_r3 : List Cond := [Cond.static yX0_commonest, Cond.code yX0_commonest cX0_commonest 9 (some .int), Cond.methodLink RX0 41 yX2_differing, Cond.instanceMethod yX2_differing, Cond.selects RX2 yX2_differing yX2_differing, Cond.code yX2_differing cX2_differing 4 (some .int), Cond.methodLink RX0 73 yX2_isAheadOf, Cond.instanceMethod yX2_isAheadOf, Cond.selects RX2 yX2_isAheadOf yX2_isAheadOf, Cond.code yX2_isAheadOf cX2_isAheadOf 3 (some .boolean)]
def wsX0_seek : List Cond := .code yX0_seek cX0_seek 3 (some .int) :: ((wsX0_seek_r1 ++ (wsX0_seek_r2 ++ wsX0_seek_r3)) ++ wsX00 ++ wsX20)
def wsX1_init : List Cond := .code yX1_init cX1_init 1 none :: ([.methodLink RX1 3 objectInit, .instanceMethod objectInit, .code objectInit ⟨#[0xb1]⟩ 1 none, .arrayClass .int, .fieldLink RX1 9 "FewLooks$Net" "joins" "[I"] ++ wsX10)
def wsX1_joined : List Cond := .code yX1_joined cX1_joined 3 (some .int) :: ([.fieldLink RX1 9 "FewLooks$Net" "joins" "[I"] ++ wsX10)
def wsX1_join : List Cond := .code yX1_join cX1_join 4 none :: ([.fieldLink RX1 9 "FewLooks$Net" "joins" "[I"] ++ wsX10)
def wsX1_alikeTo : List Cond := .code yX1_alikeTo cX1_alikeTo 2 (some .int) :: ([])
def wsJ6_bitCount_0f7a4 : List Cond := .code yJ6_bitCount_0f7a4 cJ6_bitCount_0f7a4 1 (some .int) :: ([.constant RJ6 265 (1431655765), .constant RJ6 266 (858993459), .constant RJ6 267 (252645135)])
def wsX1_likeLines : List Cond := .code yX1_likeLines cX1_likeLines 5 (some .int) :: ([.fieldLink RX1 9 "FewLooks$Net" "joins" "[I", .methodLink RX1 19 yX1_alikeTo, .static yX1_alikeTo, .initialized RX1, .code yX1_alikeTo cX1_alikeTo 2 (some .int), .methodLink RX1 22 yJ6_bitCount_0f7a4, .static yJ6_bitCount_0f7a4, .initialized RJ6, .code yJ6_bitCount_0f7a4 cJ6_bitCount_0f7a4 1 (some .int), .constant RJ6 265 (1431655765), .constant RJ6 266 (858993459), .constant RJ6 267 (252645135)] ++ wsX10)
def wsX1_lines : List Cond := .code yX1_lines cX1_lines 1 (some .int) :: ([.methodLink RX1 15 yX1_likeLines, .instanceMethod yX1_likeLines, .selects RX1 yX1_likeLines yX1_likeLines, .initialized RX1, .code yX1_likeLines cX1_likeLines 5 (some .int), .fieldLink RX1 9 "FewLooks$Net" "joins" "[I", .methodLink RX1 19 yX1_alikeTo, .static yX1_alikeTo, .code yX1_alikeTo cX1_alikeTo 2 (some .int), .methodLink RX1 22 yJ6_bitCount_0f7a4, .static yJ6_bitCount_0f7a4, .initialized RJ6, .code yJ6_bitCount_0f7a4 cJ6_bitCount_0f7a4 1 (some .int), .constant RJ6 265 (1431655765), .constant RJ6 266 (858993459), .constant RJ6 267 (252645135)] ++ wsX10)
def wsX1_cutLikeLines : List Cond := .code yX1_cutLikeLines cX1_cutLikeLines 3 none :: ([.fieldLink RX1 9 "FewLooks$Net" "joins" "[I", .methodLink RX1 19 yX1_alikeTo, .static yX1_alikeTo, .initialized RX1, .code yX1_alikeTo cX1_alikeTo 2 (some .int)] ++ wsX10)
def wsX1_bestColouringOf : List Cond := .code yX1_bestColouringOf cX1_bestColouringOf 6 (some .int) :: ([.methodLink RX1 15 yX1_likeLines, .instanceMethod yX1_likeLines, .selects RX1 yX1_likeLines yX1_likeLines, .initialized RX1, .code yX1_likeLines cX1_likeLines 5 (some .int), .fieldLink RX1 9 "FewLooks$Net" "joins" "[I", .methodLink RX1 19 yX1_alikeTo, .static yX1_alikeTo, .code yX1_alikeTo cX1_alikeTo 2 (some .int), .methodLink RX1 22 yJ6_bitCount_0f7a4, .static yJ6_bitCount_0f7a4, .initialized RJ6, .code yJ6_bitCount_0f7a4 cJ6_bitCount_0f7a4 1 (some .int), .constant RJ6 265 (1431655765), .constant RJ6 266 (858993459), .constant RJ6 267 (252645135)] ++ wsX10)
def wsX1_bestColouring : List Cond := .code yX1_bestColouring cX1_bestColouring 1 (some .int) :: ([.methodLink RX1 28 yX1_bestColouringOf, .instanceMethod yX1_bestColouringOf, .selects RX1 yX1_bestColouringOf yX1_bestColouringOf, .initialized RX1, .code yX1_bestColouringOf cX1_bestColouringOf 6 (some .int), .methodLink RX1 15 yX1_likeLines, .instanceMethod yX1_likeLines, .selects RX1 yX1_likeLines yX1_likeLines, .code yX1_likeLines cX1_likeLines 5 (some .int), .fieldLink RX1 9 "FewLooks$Net" "joins" "[I", .methodLink RX1 19 yX1_alikeTo, .static yX1_alikeTo, .code yX1_alikeTo cX1_alikeTo 2 (some .int), .methodLink RX1 22 yJ6_bitCount_0f7a4, .static yJ6_bitCount_0f7a4, .initialized RJ6, .code yJ6_bitCount_0f7a4 cJ6_bitCount_0f7a4 1 (some .int), .constant RJ6 265 (1431655765), .constant RJ6 266 (858993459), .constant RJ6 267 (252645135)] ++ wsX10)
def wsX1_twoColoured : List Cond := .code yX1_twoColoured cX1_twoColoured 2 (some .boolean) :: ([.methodLink RX1 28 yX1_bestColouringOf, .instanceMethod yX1_bestColouringOf, .selects RX1 yX1_bestColouringOf yX1_bestColouringOf, .initialized RX1, .code yX1_bestColouringOf cX1_bestColouringOf 6 (some .int), .methodLink RX1 15 yX1_likeLines, .instanceMethod yX1_likeLines, .selects RX1 yX1_likeLines yX1_likeLines, .code yX1_likeLines cX1_likeLines 5 (some .int), .fieldLink RX1 9 "FewLooks$Net" "joins" "[I", .methodLink RX1 19 yX1_alikeTo, .static yX1_alikeTo, .code yX1_alikeTo cX1_alikeTo 2 (some .int), .methodLink RX1 22 yJ6_bitCount_0f7a4, .static yJ6_bitCount_0f7a4, .initialized RJ6, .code yJ6_bitCount_0f7a4 cJ6_bitCount_0f7a4 1 (some .int), .constant RJ6 265 (1431655765), .constant RJ6 266 (858993459), .constant RJ6 267 (252645135)] ++ wsX10)
def wsX1_sets : List Cond := .code yX1_sets cX1_sets 3 (some .int) :: ([.methodLink RX1 22 yJ6_bitCount_0f7a4, .static yJ6_bitCount_0f7a4, .initialized RJ6, .code yJ6_bitCount_0f7a4 cJ6_bitCount_0f7a4 1 (some .int), .constant RJ6 265 (1431655765), .constant RJ6 266 (858993459), .constant RJ6 267 (252645135)])
def wsX1_passing : List Cond := .code yX1_passing cX1_passing 4 (some .int) :: ([.methodLink RX1 22 yJ6_bitCount_0f7a4, .static yJ6_bitCount_0f7a4, .initialized RJ6, .code yJ6_bitCount_0f7a4 cJ6_bitCount_0f7a4 1 (some .int), .constant RJ6 265 (1431655765), .constant RJ6 266 (858993459), .constant RJ6 267 (252645135), .methodLink RX1 31 yX1_twoColoured, .instanceMethod yX1_twoColoured, .selects RX1 yX1_twoColoured yX1_twoColoured, .initialized RX1, .code yX1_twoColoured cX1_twoColoured 2 (some .boolean), .methodLink RX1 28 yX1_bestColouringOf, .instanceMethod yX1_bestColouringOf, .selects RX1 yX1_bestColouringOf yX1_bestColouringOf, .code yX1_bestColouringOf cX1_bestColouringOf 6 (some .int), .methodLink RX1 15 yX1_likeLines, .instanceMethod yX1_likeLines, .selects RX1 yX1_likeLines yX1_likeLines, .code yX1_likeLines cX1_likeLines 5 (some .int), .fieldLink RX1 9 "FewLooks$Net" "joins" "[I", .methodLink RX1 19 yX1_alikeTo, .static yX1_alikeTo, .code yX1_alikeTo cX1_alikeTo 2 (some .int)] ++ wsX10)
def wsX2_clear : List Cond := .code yX2_clear cX2_clear 3 none :: ([.fieldLink RX2 15 "FewLooks$Row" "size" "I", .fieldLink RX2 9 "FewLooks$Row" "digits" "[I"] ++ wsX20)
def wsX2_spell : List Cond := .code yX2_spell cX2_spell 4 none :: ([.fieldLink RX2 15 "FewLooks$Row" "size" "I", .fieldLink RX2 9 "FewLooks$Row" "digits" "[I"] ++ wsX20)
def wsX2_looks : List Cond := .code yX2_looks cX2_looks 2 (some .int) :: ([.fieldLink RX2 15 "FewLooks$Row" "size" "I"] ++ wsX20)
def wsX2_risingPairs : List Cond := .code yX2_risingPairs cX2_risingPairs 4 (some .int) :: ([.fieldLink RX2 15 "FewLooks$Row" "size" "I", .fieldLink RX2 9 "FewLooks$Row" "digits" "[I"] ++ wsX20)
def wsX2_mirroredPlaces : List Cond := .code yX2_mirroredPlaces cX2_mirroredPlaces 3 (some .int) :: ([.fieldLink RX2 15 "FewLooks$Row" "size" "I", .fieldLink RX2 9 "FewLooks$Row" "digits" "[I"] ++ wsX20)
def wsX2_alikeShifts : List Cond := .code yX2_alikeShifts cX2_alikeShifts 4 (some .int) :: ([.fieldLink RX2 15 "FewLooks$Row" "size" "I", .fieldLink RX2 9 "FewLooks$Row" "digits" "[I"] ++ wsX20)
def wsX2_passing : List Cond := .code yX2_passing cX2_passing 2 (some .int) :: ([.methodLink RX2 19 yX2_risingPairs, .instanceMethod yX2_risingPairs, .selects RX2 yX2_risingPairs yX2_risingPairs, .initialized RX2, .code yX2_risingPairs cX2_risingPairs 4 (some .int), .fieldLink RX2 15 "FewLooks$Row" "size" "I", .fieldLink RX2 9 "FewLooks$Row" "digits" "[I", .methodLink RX2 23 yX2_mirroredPlaces, .instanceMethod yX2_mirroredPlaces, .selects RX2 yX2_mirroredPlaces yX2_mirroredPlaces, .code yX2_mirroredPlaces cX2_mirroredPlaces 3 (some .int), .methodLink RX2 26 yX2_total, .instanceMethod yX2_total, .selects RX2 yX2_total yX2_total, .code yX2_total cX2_total 3 (some .int), .methodLink RX2 29 yX2_alikeShifts, .instanceMethod yX2_alikeShifts, .selects RX2 yX2_alikeShifts yX2_alikeShifts, .code yX2_alikeShifts cX2_alikeShifts 4 (some .int)] ++ wsX20)
def wsX3_init : List Cond := .code yX3_init cX3_init 1 none :: ([.methodLink RX3 3 objectInit, .instanceMethod objectInit, .code objectInit ⟨#[0xb1]⟩ 1 none, .fieldLink RX3 9 "FewLooks$Table" "bits" "I"] ++ wsX30)
def wsX3_at : List Cond := .code yX3_at cX3_at 2 (some .int) :: ([.fieldLink RX3 9 "FewLooks$Table" "bits" "I"] ++ wsX30)
def wsX3_put : List Cond := .code yX3_put cX3_put 3 none :: ([.fieldLink RX3 9 "FewLooks$Table" "bits" "I"] ++ wsX30)
def wsX3_parities : List Cond := .code yX3_parities cX3_parities 3 (some .int) :: ([.methodLink RX3 15 yJ6_bitCount_0f7a4, .static yJ6_bitCount_0f7a4, .initialized RJ6, .code yJ6_bitCount_0f7a4 cJ6_bitCount_0f7a4 1 (some .int), .constant RJ6 265 (1431655765), .constant RJ6 266 (858993459), .constant RJ6 267 (252645135)])
def wsX3_differing : List Cond := .code yX3_differing cX3_differing 2 (some .int) :: ([.fieldLink RX3 9 "FewLooks$Table" "bits" "I", .methodLink RX3 21 yX3_parities, .static yX3_parities, .initialized RX3, .code yX3_parities cX3_parities 3 (some .int), .methodLink RX3 15 yJ6_bitCount_0f7a4, .static yJ6_bitCount_0f7a4, .initialized RJ6, .code yJ6_bitCount_0f7a4 cJ6_bitCount_0f7a4 1 (some .int), .constant RJ6 265 (1431655765), .constant RJ6 266 (858993459), .constant RJ6 267 (252645135)] ++ wsX30)
def wsX3_closest : List Cond := .code yX3_closest cX3_closest 3 (some .int) :: ([.methodLink RX3 24 yX3_differing, .instanceMethod yX3_differing, .selects RX3 yX3_differing yX3_differing, .initialized RX3, .code yX3_differing cX3_differing 2 (some .int), .fieldLink RX3 9 "FewLooks$Table" "bits" "I", .methodLink RX3 21 yX3_parities, .static yX3_parities, .code yX3_parities cX3_parities 3 (some .int), .methodLink RX3 15 yJ6_bitCount_0f7a4, .static yJ6_bitCount_0f7a4, .initialized RJ6, .code yJ6_bitCount_0f7a4 cJ6_bitCount_0f7a4 1 (some .int), .constant RJ6 265 (1431655765), .constant RJ6 266 (858993459), .constant RJ6 267 (252645135)] ++ wsX30)
def wsX3_agrees : List Cond := .code yX3_agrees cX3_agrees 3 (some .boolean) :: ([.methodLink RX3 27 yX3_at, .instanceMethod yX3_at, .selects RX3 yX3_at yX3_at, .initialized RX3, .code yX3_at cX3_at 2 (some .int), .fieldLink RX3 9 "FewLooks$Table" "bits" "I"] ++ wsX30)
def wsX3_passing : List Cond := .code yX3_passing cX3_passing 4 (some .int) :: ([.methodLink RX3 30 yX3_agrees, .instanceMethod yX3_agrees, .selects RX3 yX3_agrees yX3_agrees, .initialized RX3, .code yX3_agrees cX3_agrees 3 (some .boolean), .methodLink RX3 27 yX3_at, .instanceMethod yX3_at, .selects RX3 yX3_at yX3_at, .code yX3_at cX3_at 2 (some .int), .fieldLink RX3 9 "FewLooks$Table" "bits" "I"] ++ wsX30)
def wsX3_tellers : List Cond := .code yX3_tellers cX3_tellers 5 (some .int) :: ([.methodLink RX3 27 yX3_at, .instanceMethod yX3_at, .selects RX3 yX3_at yX3_at, .initialized RX3, .code yX3_at cX3_at 2 (some .int), .fieldLink RX3 9 "FewLooks$Table" "bits" "I"] ++ wsX30)
def wsX4_init_r1 : List Cond := [Cond.methodLink RX4 1 objectInit, Cond.instanceMethod objectInit, Cond.code objectInit ⟨#[0xb1]⟩ 1 none, Cond.classLink RX4 7 RX2, Cond.instantiable RX2 2, Cond.initialized RX2, Cond.fieldLink RX4 10 "FewLooks" "row" "LFewLooks$Row;", Cond.fieldLink RX4 16 "FewLooks" "trial" "LFewLooks$Row;", Cond.classLink RX4 19 RX0, Cond.instantiable RX0 3, Cond.initialized RX0, Cond.fieldLink RX4 22 "FewLooks" "mender" "LFewLooks$Mender;", Cond.classLink RX4 26 RX3, Cond.instantiable RX3 1, Cond.initialized RX3, Cond.fieldLink RX4 29 "FewLooks" "table" "LFewLooks$Table;", Cond.classLink RX4 33 RX1, Cond.instantiable RX1 1, Cond.initialized RX1, Cond.fieldLink RX4 36 "FewLooks" "net" "LFewLooks$Net;", Cond.fieldLink RX4 40 "FewLooks" "drawn" "I", Cond.instanceMethod yX2_init, Cond.code yX2_init cX2_init 1 none, Cond.methodLink RX2 3 objectInit]
def wsX4_init_r2 : List Cond := [Cond.arrayClass .int, Cond.fieldLink RX2 9 "FewLooks$Row" "digits" "[I", Cond.fieldLink RX2 15 "FewLooks$Row" "size" "I", Cond.instanceMethod yX0_init, Cond.code yX0_init cX0_init 1 none, Cond.methodLink RX0 3 objectInit, Cond.classLink RX0 9 RX2, Cond.fieldLink RX0 12 "FewLooks$Mender" "near" "LFewLooks$Row;", Cond.fieldLink RX0 18 "FewLooks$Mender" "guess" "LFewLooks$Row;", Cond.fieldLink RX0 21 "FewLooks$Mender" "costs" "[I", Cond.instanceMethod yX3_init, Cond.code yX3_init cX3_init 1 none, Cond.methodLink RX3 3 objectInit, Cond.fieldLink RX3 9 "FewLooks$Table" "bits" "I", Cond.instanceMethod yX1_init, Cond.code yX1_init cX1_init 1 none, Cond.methodLink RX1 3 objectInit, Cond.fieldLink RX1 9 "FewLooks$Net" "joins" "[I"]
def wsX4_init : List Cond := .code yX4_init cX4_init 1 none :: ((wsX4_init_r1 ++ wsX4_init_r2) ++ wsX20 ++ wsX40 ++ wsX00 ++ wsX30 ++ wsX10)
def wsX4_within : List Cond := .code yX4_within cX4_within 3 (some .boolean) :: ([])
def wsX4_places : List Cond := .code yX4_places cX4_places 3 (some .int) :: ([.fieldLink RX4 10 "FewLooks" "row" "LFewLooks$Row;", .methodLink RX4 44 yX4_within, .static yX4_within, .initialized RX4, .code yX4_within cX4_within 3 (some .boolean), .methodLink RX4 51 yX2_clear, .instanceMethod yX2_clear, .selects RX2 yX2_clear yX2_clear, .initialized RX2, .code yX2_clear cX2_clear 3 none, .fieldLink RX2 15 "FewLooks$Row" "size" "I", .fieldLink RX2 9 "FewLooks$Row" "digits" "[I"] ++ wsX40 ++ wsX20)
def wsX4_isPlace : List Cond := .code yX4_isPlace cX4_isPlace 2 (some .boolean) :: ([.fieldLink RX4 10 "FewLooks" "row" "LFewLooks$Row;", .methodLink RX4 44 yX4_within, .static yX4_within, .initialized RX4, .code yX4_within cX4_within 3 (some .boolean)] ++ wsX40 ++ wsX20)
def wsX4_digit : List Cond := .code yX4_digit cX4_digit 4 (some .int) :: ([.fieldLink RX4 10 "FewLooks" "row" "LFewLooks$Row;", .methodLink RX4 55 yX4_isPlace, .instanceMethod yX4_isPlace, .selects RX4 yX4_isPlace yX4_isPlace, .initialized RX4, .code yX4_isPlace cX4_isPlace 2 (some .boolean), .methodLink RX4 44 yX4_within, .static yX4_within, .code yX4_within cX4_within 3 (some .boolean)] ++ wsX40 ++ wsX20)
def wsX4_isEntry : List Cond := .code yX4_isEntry cX4_isEntry 1 (some .boolean) :: ([.methodLink RX4 44 yX4_within, .static yX4_within, .initialized RX4, .code yX4_within cX4_within 3 (some .boolean)])
def wsX4_bit : List Cond := .code yX4_bit cX4_bit 4 (some .int) :: ([.fieldLink RX4 29 "FewLooks" "table" "LFewLooks$Table;", .methodLink RX4 63 yX4_isEntry, .static yX4_isEntry, .initialized RX4, .code yX4_isEntry cX4_isEntry 1 (some .boolean), .methodLink RX4 44 yX4_within, .static yX4_within, .code yX4_within cX4_within 3 (some .boolean), .methodLink RX4 66 yX3_at, .instanceMethod yX3_at, .selects RX3 yX3_at yX3_at, .initialized RX3, .code yX3_at cX3_at 2 (some .int), .fieldLink RX3 9 "FewLooks$Table" "bits" "I", .methodLink RX4 70 yX3_put, .instanceMethod yX3_put, .selects RX3 yX3_put yX3_put, .code yX3_put cX3_put 3 none] ++ wsX40 ++ wsX30)
def wsX4_linear : List Cond := .code yX4_linear cX4_linear 2 (some .int) :: ([.fieldLink RX4 29 "FewLooks" "table" "LFewLooks$Table;", .methodLink RX4 63 yX4_isEntry, .static yX4_isEntry, .initialized RX4, .code yX4_isEntry cX4_isEntry 1 (some .boolean), .methodLink RX4 44 yX4_within, .static yX4_within, .code yX4_within cX4_within 3 (some .boolean), .methodLink RX4 74 yX3_parities, .static yX3_parities, .initialized RX3, .code yX3_parities cX3_parities 3 (some .int), .methodLink RX3 15 yJ6_bitCount_0f7a4, .static yJ6_bitCount_0f7a4, .initialized RJ6, .code yJ6_bitCount_0f7a4 cJ6_bitCount_0f7a4 1 (some .int), .constant RJ6 265 (1431655765), .constant RJ6 266 (858993459), .constant RJ6 267 (252645135)] ++ wsX40 ++ wsX30)
def wsX4_isPoint : List Cond := .code yX4_isPoint cX4_isPoint 1 (some .boolean) :: ([.methodLink RX4 44 yX4_within, .static yX4_within, .initialized RX4, .code yX4_within cX4_within 3 (some .boolean)])
def wsX4_line : List Cond := .code yX4_line cX4_line 5 (some .int) :: ([.fieldLink RX4 36 "FewLooks" "net" "LFewLooks$Net;", .methodLink RX4 80 yX4_isPoint, .static yX4_isPoint, .initialized RX4, .code yX4_isPoint cX4_isPoint 1 (some .boolean), .methodLink RX4 44 yX4_within, .static yX4_within, .code yX4_within cX4_within 3 (some .boolean), .methodLink RX4 83 yX1_joined, .instanceMethod yX1_joined, .selects RX1 yX1_joined yX1_joined, .initialized RX1, .code yX1_joined cX1_joined 3 (some .int), .fieldLink RX1 9 "FewLooks$Net" "joins" "[I", .methodLink RX4 87 yX1_join, .instanceMethod yX1_join, .selects RX1 yX1_join yX1_join, .code yX1_join cX1_join 4 none] ++ wsX40 ++ wsX10)
def wsX4_draw : List Cond := .code yX4_draw cX4_draw 3 (some .int) :: ([.fieldLink RX4 40 "FewLooks" "drawn" "I", .methodLink RX4 44 yX4_within, .static yX4_within, .initialized RX4, .code yX4_within cX4_within 3 (some .boolean)] ++ wsX40)
def wsX4_isSubject : List Cond := .code yX4_isSubject cX4_isSubject 1 (some .boolean) :: ([.methodLink RX4 44 yX4_within, .static yX4_within, .initialized RX4, .code yX4_within cX4_within 3 (some .boolean)])
def wsX4_isRow : List Cond := .code yX4_isRow cX4_isRow 1 (some .boolean) :: ([.methodLink RX4 44 yX4_within, .static yX4_within, .initialized RX4, .code yX4_within cX4_within 3 (some .boolean)])
def wsX4_howFar_r1 : List Cond := [Cond.fieldLink RX4 22 "FewLooks" "mender" "LFewLooks$Mender;", Cond.fieldLink RX4 10 "FewLooks" "row" "LFewLooks$Row;", Cond.fieldLink RX4 29 "FewLooks" "table" "LFewLooks$Table;", Cond.fieldLink RX4 36 "FewLooks" "net" "LFewLooks$Net;", Cond.methodLink RX4 97 yX4_isRow, Cond.static yX4_isRow, Cond.initialized RX4, Cond.code yX4_isRow cX4_isRow 1 (some .boolean), Cond.methodLink RX4 44 yX4_within, Cond.static yX4_within, Cond.code yX4_within cX4_within 3 (some .boolean), Cond.methodLink RX4 100 yX0_seek, Cond.instanceMethod yX0_seek, Cond.selects RX0 yX0_seek yX0_seek, Cond.initialized RX0, Cond.code yX0_seek cX0_seek 3 (some .int), Cond.fieldLink RX0 12 "FewLooks$Mender" "near" "LFewLooks$Row;", Cond.methodLink RX0 25 yX2_become, Cond.instanceMethod yX2_become, Cond.selects RX2 yX2_become yX2_become, Cond.initialized RX2, Cond.code yX2_become cX2_become 3 none, Cond.fieldLink RX2 15 "FewLooks$Row" "size" "I", Cond.fieldLink RX2 9 "FewLooks$Row" "digits" "[I"]
def wsX4_howFar_r2 : List Cond := [Cond.methodLink RX0 29 yX0_raise, Cond.instanceMethod yX0_raise, Cond.selects RX0 yX0_raise yX0_raise, Cond.code yX0_raise cX0_raise 5 none, Cond.fieldLink RX0 21 "FewLooks$Mender" "costs" "[I", Cond.methodLink RX0 45 yX0_fillCosts, Cond.instanceMethod yX0_fillCosts, Cond.selects RX0 yX0_fillCosts yX0_fillCosts, Cond.code yX0_fillCosts cX0_fillCosts 5 none, Cond.methodLink RX0 59 Lib.Math.min.name, Cond.static Lib.Math.min.name, Cond.initialized "java/lang/Math", Cond.code Lib.Math.min.name Lib.Math.min.code 2 (some .int), Cond.methodLink RX0 52 yX0_costWith, Cond.instanceMethod yX0_costWith, Cond.selects RX0 yX0_costWith yX0_costWith, Cond.code yX0_costWith cX0_costWith 5 (some .int), Cond.methodLink RX0 32 yX0_mirror, Cond.instanceMethod yX0_mirror, Cond.selects RX0 yX0_mirror yX0_mirror, Cond.code yX0_mirror cX0_mirror 3 none, Cond.methodLink RX0 35 yX0_makeEven, Cond.instanceMethod yX0_makeEven, Cond.selects RX0 yX0_makeEven yX0_makeEven]
def wsX4_howFar_r3 : List Cond := [Cond.code yX0_makeEven cX0_makeEven 2 none, Cond.methodLink RX0 65 yX2_total, Cond.instanceMethod yX2_total, Cond.selects RX2 yX2_total yX2_total, Cond.code yX2_total cX2_total 3 (some .int), Cond.methodLink RX0 38 yX0_makeRound, Cond.instanceMethod yX0_makeRound, Cond.selects RX0 yX0_makeRound yX0_makeRound, Cond.code yX0_makeRound cX0_makeRound 5 none, Cond.fieldLink RX0 18 "FewLooks$Mender" "guess" "LFewLooks$Row;", Cond.methodLink RX0 69 yX0_guessPeriod, Cond.instanceMethod yX0_guessPeriod, Cond.selects RX0 yX0_guessPeriod yX0_guessPeriod, Cond.code yX0_guessPeriod cX0_guessPeriod 4 none, Cond.methodLink RX0 77 yX0_commonest, Cond.static yX0_commonest, Cond.code yX0_commonest cX0_commonest 9 (some .int), Cond.methodLink RX0 41 yX2_differing, Cond.instanceMethod yX2_differing, Cond.selects RX2 yX2_differing yX2_differing, Cond.code yX2_differing cX2_differing 4 (some .int), Cond.methodLink RX0 73 yX2_isAheadOf, Cond.instanceMethod yX2_isAheadOf, Cond.selects RX2 yX2_isAheadOf yX2_isAheadOf]
def wsX4_howFar_r4 : List Cond := [Cond.code yX2_isAheadOf cX2_isAheadOf 3 (some .boolean), Cond.methodLink RX4 107 yX3_closest, Cond.instanceMethod yX3_closest, Cond.selects RX3 yX3_closest yX3_closest, Cond.initialized RX3, Cond.code yX3_closest cX3_closest 3 (some .int), Cond.methodLink RX3 24 yX3_differing, Cond.instanceMethod yX3_differing, Cond.selects RX3 yX3_differing yX3_differing, Cond.code yX3_differing cX3_differing 2 (some .int), Cond.fieldLink RX3 9 "FewLooks$Table" "bits" "I", Cond.methodLink RX3 21 yX3_parities, Cond.static yX3_parities, Cond.code yX3_parities cX3_parities 3 (some .int), Cond.methodLink RX3 15 yJ6_bitCount_0f7a4, Cond.static yJ6_bitCount_0f7a4, Cond.initialized RJ6, Cond.code yJ6_bitCount_0f7a4 cJ6_bitCount_0f7a4 1 (some .int), Cond.constant RJ6 265 (1431655765), Cond.constant RJ6 266 (858993459), Cond.constant RJ6 267 (252645135), Cond.methodLink RX4 167 yX3_differing, Cond.methodLink RX4 111 yX1_bestColouring, Cond.instanceMethod yX1_bestColouring]
def wsX4_howFar_r5 : List Cond := [Cond.selects RX1 yX1_bestColouring yX1_bestColouring, Cond.initialized RX1, Cond.code yX1_bestColouring cX1_bestColouring 1 (some .int), Cond.methodLink RX1 28 yX1_bestColouringOf, Cond.instanceMethod yX1_bestColouringOf, Cond.selects RX1 yX1_bestColouringOf yX1_bestColouringOf, Cond.code yX1_bestColouringOf cX1_bestColouringOf 6 (some .int), Cond.methodLink RX1 15 yX1_likeLines, Cond.instanceMethod yX1_likeLines, Cond.selects RX1 yX1_likeLines yX1_likeLines, Cond.code yX1_likeLines cX1_likeLines 5 (some .int), Cond.fieldLink RX1 9 "FewLooks$Net" "joins" "[I", Cond.methodLink RX1 19 yX1_alikeTo, Cond.static yX1_alikeTo, Cond.code yX1_alikeTo cX1_alikeTo 2 (some .int), Cond.methodLink RX1 22 yJ6_bitCount_0f7a4, Cond.methodLink RX4 170 yX1_likeLines]
def wsX4_howFar : List Cond := .code yX4_howFar cX4_howFar 2 (some .int) :: ((wsX4_howFar_r1 ++ (wsX4_howFar_r2 ++ (wsX4_howFar_r3 ++ (wsX4_howFar_r4 ++ wsX4_howFar_r5)))) ++ wsX40 ++ wsX00 ++ wsX20 ++ wsX30 ++ wsX10)
def wsX4_is_r1 : List Cond := [Cond.methodLink RX4 91 yX4_isSubject, Cond.static yX4_isSubject, Cond.initialized RX4, Cond.code yX4_isSubject cX4_isSubject 1 (some .boolean), Cond.methodLink RX4 44 yX4_within, Cond.static yX4_within, Cond.code yX4_within cX4_within 3 (some .boolean), Cond.methodLink RX4 94 yX4_howFar, Cond.instanceMethod yX4_howFar, Cond.selects RX4 yX4_howFar yX4_howFar, Cond.code yX4_howFar cX4_howFar 2 (some .int), Cond.fieldLink RX4 22 "FewLooks" "mender" "LFewLooks$Mender;", Cond.fieldLink RX4 10 "FewLooks" "row" "LFewLooks$Row;", Cond.fieldLink RX4 29 "FewLooks" "table" "LFewLooks$Table;", Cond.fieldLink RX4 36 "FewLooks" "net" "LFewLooks$Net;", Cond.methodLink RX4 97 yX4_isRow, Cond.static yX4_isRow, Cond.code yX4_isRow cX4_isRow 1 (some .boolean), Cond.methodLink RX4 100 yX0_seek, Cond.instanceMethod yX0_seek, Cond.selects RX0 yX0_seek yX0_seek, Cond.initialized RX0, Cond.code yX0_seek cX0_seek 3 (some .int), Cond.fieldLink RX0 12 "FewLooks$Mender" "near" "LFewLooks$Row;"]
def wsX4_is_r2 : List Cond := [Cond.methodLink RX0 25 yX2_become, Cond.instanceMethod yX2_become, Cond.selects RX2 yX2_become yX2_become, Cond.initialized RX2, Cond.code yX2_become cX2_become 3 none, Cond.fieldLink RX2 15 "FewLooks$Row" "size" "I", Cond.fieldLink RX2 9 "FewLooks$Row" "digits" "[I", Cond.methodLink RX0 29 yX0_raise, Cond.instanceMethod yX0_raise, Cond.selects RX0 yX0_raise yX0_raise, Cond.code yX0_raise cX0_raise 5 none, Cond.fieldLink RX0 21 "FewLooks$Mender" "costs" "[I", Cond.methodLink RX0 45 yX0_fillCosts, Cond.instanceMethod yX0_fillCosts, Cond.selects RX0 yX0_fillCosts yX0_fillCosts, Cond.code yX0_fillCosts cX0_fillCosts 5 none, Cond.methodLink RX0 59 Lib.Math.min.name, Cond.static Lib.Math.min.name, Cond.initialized "java/lang/Math", Cond.code Lib.Math.min.name Lib.Math.min.code 2 (some .int), Cond.methodLink RX0 52 yX0_costWith, Cond.instanceMethod yX0_costWith, Cond.selects RX0 yX0_costWith yX0_costWith, Cond.code yX0_costWith cX0_costWith 5 (some .int)]
def wsX4_is_r3 : List Cond := [Cond.methodLink RX0 32 yX0_mirror, Cond.instanceMethod yX0_mirror, Cond.selects RX0 yX0_mirror yX0_mirror, Cond.code yX0_mirror cX0_mirror 3 none, Cond.methodLink RX0 35 yX0_makeEven, Cond.instanceMethod yX0_makeEven, Cond.selects RX0 yX0_makeEven yX0_makeEven, Cond.code yX0_makeEven cX0_makeEven 2 none, Cond.methodLink RX0 65 yX2_total, Cond.instanceMethod yX2_total, Cond.selects RX2 yX2_total yX2_total, Cond.code yX2_total cX2_total 3 (some .int), Cond.methodLink RX0 38 yX0_makeRound, Cond.instanceMethod yX0_makeRound, Cond.selects RX0 yX0_makeRound yX0_makeRound, Cond.code yX0_makeRound cX0_makeRound 5 none, Cond.fieldLink RX0 18 "FewLooks$Mender" "guess" "LFewLooks$Row;", Cond.methodLink RX0 69 yX0_guessPeriod, Cond.instanceMethod yX0_guessPeriod, Cond.selects RX0 yX0_guessPeriod yX0_guessPeriod, Cond.code yX0_guessPeriod cX0_guessPeriod 4 none, Cond.methodLink RX0 77 yX0_commonest, Cond.static yX0_commonest, Cond.code yX0_commonest cX0_commonest 9 (some .int)]
def wsX4_is_r4 : List Cond := [Cond.methodLink RX0 41 yX2_differing, Cond.instanceMethod yX2_differing, Cond.selects RX2 yX2_differing yX2_differing, Cond.code yX2_differing cX2_differing 4 (some .int), Cond.methodLink RX0 73 yX2_isAheadOf, Cond.instanceMethod yX2_isAheadOf, Cond.selects RX2 yX2_isAheadOf yX2_isAheadOf, Cond.code yX2_isAheadOf cX2_isAheadOf 3 (some .boolean), Cond.methodLink RX4 107 yX3_closest, Cond.instanceMethod yX3_closest, Cond.selects RX3 yX3_closest yX3_closest, Cond.initialized RX3, Cond.code yX3_closest cX3_closest 3 (some .int), Cond.methodLink RX3 24 yX3_differing, Cond.instanceMethod yX3_differing, Cond.selects RX3 yX3_differing yX3_differing, Cond.code yX3_differing cX3_differing 2 (some .int), Cond.fieldLink RX3 9 "FewLooks$Table" "bits" "I", Cond.methodLink RX3 21 yX3_parities, Cond.static yX3_parities, Cond.code yX3_parities cX3_parities 3 (some .int), Cond.methodLink RX3 15 yJ6_bitCount_0f7a4, Cond.static yJ6_bitCount_0f7a4, Cond.initialized RJ6]
def wsX4_is_r5 : List Cond := [Cond.code yJ6_bitCount_0f7a4 cJ6_bitCount_0f7a4 1 (some .int), Cond.constant RJ6 265 (1431655765), Cond.constant RJ6 266 (858993459), Cond.constant RJ6 267 (252645135), Cond.methodLink RX4 167 yX3_differing, Cond.methodLink RX4 111 yX1_bestColouring, Cond.instanceMethod yX1_bestColouring, Cond.selects RX1 yX1_bestColouring yX1_bestColouring, Cond.initialized RX1, Cond.code yX1_bestColouring cX1_bestColouring 1 (some .int), Cond.methodLink RX1 28 yX1_bestColouringOf, Cond.instanceMethod yX1_bestColouringOf, Cond.selects RX1 yX1_bestColouringOf yX1_bestColouringOf, Cond.code yX1_bestColouringOf cX1_bestColouringOf 6 (some .int), Cond.methodLink RX1 15 yX1_likeLines, Cond.instanceMethod yX1_likeLines, Cond.selects RX1 yX1_likeLines yX1_likeLines, Cond.code yX1_likeLines cX1_likeLines 5 (some .int), Cond.fieldLink RX1 9 "FewLooks$Net" "joins" "[I", Cond.methodLink RX1 19 yX1_alikeTo, Cond.static yX1_alikeTo, Cond.code yX1_alikeTo cX1_alikeTo 2 (some .int), Cond.methodLink RX1 22 yJ6_bitCount_0f7a4, Cond.methodLink RX4 170 yX1_likeLines]
def wsX4_is : List Cond := .code yX4_is cX4_is 2 (some .int) :: ((wsX4_is_r1 ++ (wsX4_is_r2 ++ (wsX4_is_r3 ++ (wsX4_is_r4 ++ wsX4_is_r5)))) ++ wsX40 ++ wsX00 ++ wsX20 ++ wsX30 ++ wsX10)
def wsX4_distance_r1 : List Cond := [Cond.methodLink RX4 91 yX4_isSubject, Cond.static yX4_isSubject, Cond.initialized RX4, Cond.code yX4_isSubject cX4_isSubject 1 (some .boolean), Cond.methodLink RX4 44 yX4_within, Cond.static yX4_within, Cond.code yX4_within cX4_within 3 (some .boolean), Cond.methodLink RX4 94 yX4_howFar, Cond.instanceMethod yX4_howFar, Cond.selects RX4 yX4_howFar yX4_howFar, Cond.code yX4_howFar cX4_howFar 2 (some .int), Cond.fieldLink RX4 22 "FewLooks" "mender" "LFewLooks$Mender;", Cond.fieldLink RX4 10 "FewLooks" "row" "LFewLooks$Row;", Cond.fieldLink RX4 29 "FewLooks" "table" "LFewLooks$Table;", Cond.fieldLink RX4 36 "FewLooks" "net" "LFewLooks$Net;", Cond.methodLink RX4 97 yX4_isRow, Cond.static yX4_isRow, Cond.code yX4_isRow cX4_isRow 1 (some .boolean), Cond.methodLink RX4 100 yX0_seek, Cond.instanceMethod yX0_seek, Cond.selects RX0 yX0_seek yX0_seek, Cond.initialized RX0, Cond.code yX0_seek cX0_seek 3 (some .int), Cond.fieldLink RX0 12 "FewLooks$Mender" "near" "LFewLooks$Row;"]
def wsX4_distance_r2 : List Cond := [Cond.methodLink RX0 25 yX2_become, Cond.instanceMethod yX2_become, Cond.selects RX2 yX2_become yX2_become, Cond.initialized RX2, Cond.code yX2_become cX2_become 3 none, Cond.fieldLink RX2 15 "FewLooks$Row" "size" "I", Cond.fieldLink RX2 9 "FewLooks$Row" "digits" "[I", Cond.methodLink RX0 29 yX0_raise, Cond.instanceMethod yX0_raise, Cond.selects RX0 yX0_raise yX0_raise, Cond.code yX0_raise cX0_raise 5 none, Cond.fieldLink RX0 21 "FewLooks$Mender" "costs" "[I", Cond.methodLink RX0 45 yX0_fillCosts, Cond.instanceMethod yX0_fillCosts, Cond.selects RX0 yX0_fillCosts yX0_fillCosts, Cond.code yX0_fillCosts cX0_fillCosts 5 none, Cond.methodLink RX0 59 Lib.Math.min.name, Cond.static Lib.Math.min.name, Cond.initialized "java/lang/Math", Cond.code Lib.Math.min.name Lib.Math.min.code 2 (some .int), Cond.methodLink RX0 52 yX0_costWith, Cond.instanceMethod yX0_costWith, Cond.selects RX0 yX0_costWith yX0_costWith, Cond.code yX0_costWith cX0_costWith 5 (some .int)]
def wsX4_distance_r3 : List Cond := [Cond.methodLink RX0 32 yX0_mirror, Cond.instanceMethod yX0_mirror, Cond.selects RX0 yX0_mirror yX0_mirror, Cond.code yX0_mirror cX0_mirror 3 none, Cond.methodLink RX0 35 yX0_makeEven, Cond.instanceMethod yX0_makeEven, Cond.selects RX0 yX0_makeEven yX0_makeEven, Cond.code yX0_makeEven cX0_makeEven 2 none, Cond.methodLink RX0 65 yX2_total, Cond.instanceMethod yX2_total, Cond.selects RX2 yX2_total yX2_total, Cond.code yX2_total cX2_total 3 (some .int), Cond.methodLink RX0 38 yX0_makeRound, Cond.instanceMethod yX0_makeRound, Cond.selects RX0 yX0_makeRound yX0_makeRound, Cond.code yX0_makeRound cX0_makeRound 5 none, Cond.fieldLink RX0 18 "FewLooks$Mender" "guess" "LFewLooks$Row;", Cond.methodLink RX0 69 yX0_guessPeriod, Cond.instanceMethod yX0_guessPeriod, Cond.selects RX0 yX0_guessPeriod yX0_guessPeriod, Cond.code yX0_guessPeriod cX0_guessPeriod 4 none, Cond.methodLink RX0 77 yX0_commonest, Cond.static yX0_commonest, Cond.code yX0_commonest cX0_commonest 9 (some .int)]
def wsX4_distance_r4 : List Cond := [Cond.methodLink RX0 41 yX2_differing, Cond.instanceMethod yX2_differing, Cond.selects RX2 yX2_differing yX2_differing, Cond.code yX2_differing cX2_differing 4 (some .int), Cond.methodLink RX0 73 yX2_isAheadOf, Cond.instanceMethod yX2_isAheadOf, Cond.selects RX2 yX2_isAheadOf yX2_isAheadOf, Cond.code yX2_isAheadOf cX2_isAheadOf 3 (some .boolean), Cond.methodLink RX4 107 yX3_closest, Cond.instanceMethod yX3_closest, Cond.selects RX3 yX3_closest yX3_closest, Cond.initialized RX3, Cond.code yX3_closest cX3_closest 3 (some .int), Cond.methodLink RX3 24 yX3_differing, Cond.instanceMethod yX3_differing, Cond.selects RX3 yX3_differing yX3_differing, Cond.code yX3_differing cX3_differing 2 (some .int), Cond.fieldLink RX3 9 "FewLooks$Table" "bits" "I", Cond.methodLink RX3 21 yX3_parities, Cond.static yX3_parities, Cond.code yX3_parities cX3_parities 3 (some .int), Cond.methodLink RX3 15 yJ6_bitCount_0f7a4, Cond.static yJ6_bitCount_0f7a4, Cond.initialized RJ6]
def wsX4_distance_r5 : List Cond := [Cond.code yJ6_bitCount_0f7a4 cJ6_bitCount_0f7a4 1 (some .int), Cond.constant RJ6 265 (1431655765), Cond.constant RJ6 266 (858993459), Cond.constant RJ6 267 (252645135), Cond.methodLink RX4 167 yX3_differing, Cond.methodLink RX4 111 yX1_bestColouring, Cond.instanceMethod yX1_bestColouring, Cond.selects RX1 yX1_bestColouring yX1_bestColouring, Cond.initialized RX1, Cond.code yX1_bestColouring cX1_bestColouring 1 (some .int), Cond.methodLink RX1 28 yX1_bestColouringOf, Cond.instanceMethod yX1_bestColouringOf, Cond.selects RX1 yX1_bestColouringOf yX1_bestColouringOf, Cond.code yX1_bestColouringOf cX1_bestColouringOf 6 (some .int), Cond.methodLink RX1 15 yX1_likeLines, Cond.instanceMethod yX1_likeLines, Cond.selects RX1 yX1_likeLines yX1_likeLines, Cond.code yX1_likeLines cX1_likeLines 5 (some .int), Cond.fieldLink RX1 9 "FewLooks$Net" "joins" "[I", Cond.methodLink RX1 19 yX1_alikeTo, Cond.static yX1_alikeTo, Cond.code yX1_alikeTo cX1_alikeTo 2 (some .int), Cond.methodLink RX1 22 yJ6_bitCount_0f7a4, Cond.methodLink RX4 170 yX1_likeLines]
def wsX4_distance : List Cond := .code yX4_distance cX4_distance 2 (some .int) :: ((wsX4_distance_r1 ++ (wsX4_distance_r2 ++ (wsX4_distance_r3 ++ (wsX4_distance_r4 ++ wsX4_distance_r5)))) ++ wsX40 ++ wsX00 ++ wsX20 ++ wsX30 ++ wsX10)
def wsX4_nearest_r1 : List Cond := [Cond.fieldLink RX4 22 "FewLooks" "mender" "LFewLooks$Mender;", Cond.fieldLink RX4 10 "FewLooks" "row" "LFewLooks$Row;", Cond.fieldLink RX4 29 "FewLooks" "table" "LFewLooks$Table;", Cond.fieldLink RX4 36 "FewLooks" "net" "LFewLooks$Net;", Cond.methodLink RX4 91 yX4_isSubject, Cond.static yX4_isSubject, Cond.initialized RX4, Cond.code yX4_isSubject cX4_isSubject 1 (some .boolean), Cond.methodLink RX4 44 yX4_within, Cond.static yX4_within, Cond.code yX4_within cX4_within 3 (some .boolean), Cond.methodLink RX4 97 yX4_isRow, Cond.static yX4_isRow, Cond.code yX4_isRow cX4_isRow 1 (some .boolean), Cond.methodLink RX4 55 yX4_isPlace, Cond.instanceMethod yX4_isPlace, Cond.selects RX4 yX4_isPlace yX4_isPlace, Cond.code yX4_isPlace cX4_isPlace 2 (some .boolean), Cond.methodLink RX4 100 yX0_seek, Cond.instanceMethod yX0_seek, Cond.selects RX0 yX0_seek yX0_seek, Cond.initialized RX0, Cond.code yX0_seek cX0_seek 3 (some .int), Cond.fieldLink RX0 12 "FewLooks$Mender" "near" "LFewLooks$Row;"]
def wsX4_nearest_r2 : List Cond := [Cond.methodLink RX0 25 yX2_become, Cond.instanceMethod yX2_become, Cond.selects RX2 yX2_become yX2_become, Cond.initialized RX2, Cond.code yX2_become cX2_become 3 none, Cond.fieldLink RX2 15 "FewLooks$Row" "size" "I", Cond.fieldLink RX2 9 "FewLooks$Row" "digits" "[I", Cond.methodLink RX0 29 yX0_raise, Cond.instanceMethod yX0_raise, Cond.selects RX0 yX0_raise yX0_raise, Cond.code yX0_raise cX0_raise 5 none, Cond.fieldLink RX0 21 "FewLooks$Mender" "costs" "[I", Cond.methodLink RX0 45 yX0_fillCosts, Cond.instanceMethod yX0_fillCosts, Cond.selects RX0 yX0_fillCosts yX0_fillCosts, Cond.code yX0_fillCosts cX0_fillCosts 5 none, Cond.methodLink RX0 59 Lib.Math.min.name, Cond.static Lib.Math.min.name, Cond.initialized "java/lang/Math", Cond.code Lib.Math.min.name Lib.Math.min.code 2 (some .int), Cond.methodLink RX0 52 yX0_costWith, Cond.instanceMethod yX0_costWith, Cond.selects RX0 yX0_costWith yX0_costWith, Cond.code yX0_costWith cX0_costWith 5 (some .int)]
def wsX4_nearest_r3 : List Cond := [Cond.methodLink RX0 32 yX0_mirror, Cond.instanceMethod yX0_mirror, Cond.selects RX0 yX0_mirror yX0_mirror, Cond.code yX0_mirror cX0_mirror 3 none, Cond.methodLink RX0 35 yX0_makeEven, Cond.instanceMethod yX0_makeEven, Cond.selects RX0 yX0_makeEven yX0_makeEven, Cond.code yX0_makeEven cX0_makeEven 2 none, Cond.methodLink RX0 65 yX2_total, Cond.instanceMethod yX2_total, Cond.selects RX2 yX2_total yX2_total, Cond.code yX2_total cX2_total 3 (some .int), Cond.methodLink RX0 38 yX0_makeRound, Cond.instanceMethod yX0_makeRound, Cond.selects RX0 yX0_makeRound yX0_makeRound, Cond.code yX0_makeRound cX0_makeRound 5 none, Cond.fieldLink RX0 18 "FewLooks$Mender" "guess" "LFewLooks$Row;", Cond.methodLink RX0 69 yX0_guessPeriod, Cond.instanceMethod yX0_guessPeriod, Cond.selects RX0 yX0_guessPeriod yX0_guessPeriod, Cond.code yX0_guessPeriod cX0_guessPeriod 4 none, Cond.methodLink RX0 77 yX0_commonest, Cond.static yX0_commonest, Cond.code yX0_commonest cX0_commonest 9 (some .int)]
def wsX4_nearest_r4 : List Cond := [Cond.methodLink RX0 41 yX2_differing, Cond.instanceMethod yX2_differing, Cond.selects RX2 yX2_differing yX2_differing, Cond.code yX2_differing cX2_differing 4 (some .int), Cond.methodLink RX0 73 yX2_isAheadOf, Cond.instanceMethod yX2_isAheadOf, Cond.selects RX2 yX2_isAheadOf yX2_isAheadOf, Cond.code yX2_isAheadOf cX2_isAheadOf 3 (some .boolean), Cond.methodLink RX4 107 yX3_closest, Cond.instanceMethod yX3_closest, Cond.selects RX3 yX3_closest yX3_closest, Cond.initialized RX3, Cond.code yX3_closest cX3_closest 3 (some .int), Cond.methodLink RX3 24 yX3_differing, Cond.instanceMethod yX3_differing, Cond.selects RX3 yX3_differing yX3_differing, Cond.code yX3_differing cX3_differing 2 (some .int), Cond.fieldLink RX3 9 "FewLooks$Table" "bits" "I", Cond.methodLink RX3 21 yX3_parities, Cond.static yX3_parities, Cond.code yX3_parities cX3_parities 3 (some .int), Cond.methodLink RX3 15 yJ6_bitCount_0f7a4, Cond.static yJ6_bitCount_0f7a4, Cond.initialized RJ6]
def wsX4_nearest_r5 : List Cond := [Cond.code yJ6_bitCount_0f7a4 cJ6_bitCount_0f7a4 1 (some .int), Cond.constant RJ6 265 (1431655765), Cond.constant RJ6 266 (858993459), Cond.constant RJ6 267 (252645135), Cond.methodLink RX4 111 yX1_bestColouring, Cond.instanceMethod yX1_bestColouring, Cond.selects RX1 yX1_bestColouring yX1_bestColouring, Cond.initialized RX1, Cond.code yX1_bestColouring cX1_bestColouring 1 (some .int), Cond.methodLink RX1 28 yX1_bestColouringOf, Cond.instanceMethod yX1_bestColouringOf, Cond.selects RX1 yX1_bestColouringOf yX1_bestColouringOf, Cond.code yX1_bestColouringOf cX1_bestColouringOf 6 (some .int), Cond.methodLink RX1 15 yX1_likeLines, Cond.instanceMethod yX1_likeLines, Cond.selects RX1 yX1_likeLines yX1_likeLines, Cond.code yX1_likeLines cX1_likeLines 5 (some .int), Cond.fieldLink RX1 9 "FewLooks$Net" "joins" "[I", Cond.methodLink RX1 19 yX1_alikeTo, Cond.static yX1_alikeTo, Cond.code yX1_alikeTo cX1_alikeTo 2 (some .int), Cond.methodLink RX1 22 yJ6_bitCount_0f7a4]
def wsX4_nearest : List Cond := .code yX4_nearest cX4_nearest 3 (some .int) :: ((wsX4_nearest_r1 ++ (wsX4_nearest_r2 ++ (wsX4_nearest_r3 ++ (wsX4_nearest_r4 ++ wsX4_nearest_r5)))) ++ wsX40 ++ wsX00 ++ wsX20 ++ wsX30 ++ wsX10)
def wsX4_mend_r1 : List Cond := [Cond.fieldLink RX4 10 "FewLooks" "row" "LFewLooks$Row;", Cond.fieldLink RX4 22 "FewLooks" "mender" "LFewLooks$Mender;", Cond.fieldLink RX4 29 "FewLooks" "table" "LFewLooks$Table;", Cond.fieldLink RX4 36 "FewLooks" "net" "LFewLooks$Net;", Cond.methodLink RX4 91 yX4_isSubject, Cond.static yX4_isSubject, Cond.initialized RX4, Cond.code yX4_isSubject cX4_isSubject 1 (some .boolean), Cond.methodLink RX4 44 yX4_within, Cond.static yX4_within, Cond.code yX4_within cX4_within 3 (some .boolean), Cond.methodLink RX4 94 yX4_howFar, Cond.instanceMethod yX4_howFar, Cond.selects RX4 yX4_howFar yX4_howFar, Cond.code yX4_howFar cX4_howFar 2 (some .int), Cond.methodLink RX4 97 yX4_isRow, Cond.static yX4_isRow, Cond.code yX4_isRow cX4_isRow 1 (some .boolean), Cond.methodLink RX4 100 yX0_seek, Cond.instanceMethod yX0_seek, Cond.selects RX0 yX0_seek yX0_seek, Cond.initialized RX0, Cond.code yX0_seek cX0_seek 3 (some .int), Cond.fieldLink RX0 12 "FewLooks$Mender" "near" "LFewLooks$Row;"]
def wsX4_mend_r2 : List Cond := [Cond.methodLink RX0 25 yX2_become, Cond.instanceMethod yX2_become, Cond.selects RX2 yX2_become yX2_become, Cond.initialized RX2, Cond.code yX2_become cX2_become 3 none, Cond.fieldLink RX2 15 "FewLooks$Row" "size" "I", Cond.fieldLink RX2 9 "FewLooks$Row" "digits" "[I", Cond.methodLink RX0 29 yX0_raise, Cond.instanceMethod yX0_raise, Cond.selects RX0 yX0_raise yX0_raise, Cond.code yX0_raise cX0_raise 5 none, Cond.fieldLink RX0 21 "FewLooks$Mender" "costs" "[I", Cond.methodLink RX0 45 yX0_fillCosts, Cond.instanceMethod yX0_fillCosts, Cond.selects RX0 yX0_fillCosts yX0_fillCosts, Cond.code yX0_fillCosts cX0_fillCosts 5 none, Cond.methodLink RX0 59 Lib.Math.min.name, Cond.static Lib.Math.min.name, Cond.initialized "java/lang/Math", Cond.code Lib.Math.min.name Lib.Math.min.code 2 (some .int), Cond.methodLink RX0 52 yX0_costWith, Cond.instanceMethod yX0_costWith, Cond.selects RX0 yX0_costWith yX0_costWith, Cond.code yX0_costWith cX0_costWith 5 (some .int)]
def wsX4_mend_r3 : List Cond := [Cond.methodLink RX0 32 yX0_mirror, Cond.instanceMethod yX0_mirror, Cond.selects RX0 yX0_mirror yX0_mirror, Cond.code yX0_mirror cX0_mirror 3 none, Cond.methodLink RX0 35 yX0_makeEven, Cond.instanceMethod yX0_makeEven, Cond.selects RX0 yX0_makeEven yX0_makeEven, Cond.code yX0_makeEven cX0_makeEven 2 none, Cond.methodLink RX0 65 yX2_total, Cond.instanceMethod yX2_total, Cond.selects RX2 yX2_total yX2_total, Cond.code yX2_total cX2_total 3 (some .int), Cond.methodLink RX0 38 yX0_makeRound, Cond.instanceMethod yX0_makeRound, Cond.selects RX0 yX0_makeRound yX0_makeRound, Cond.code yX0_makeRound cX0_makeRound 5 none, Cond.fieldLink RX0 18 "FewLooks$Mender" "guess" "LFewLooks$Row;", Cond.methodLink RX0 69 yX0_guessPeriod, Cond.instanceMethod yX0_guessPeriod, Cond.selects RX0 yX0_guessPeriod yX0_guessPeriod, Cond.code yX0_guessPeriod cX0_guessPeriod 4 none, Cond.methodLink RX0 77 yX0_commonest, Cond.static yX0_commonest, Cond.code yX0_commonest cX0_commonest 9 (some .int)]
def wsX4_mend_r4 : List Cond := [Cond.methodLink RX0 41 yX2_differing, Cond.instanceMethod yX2_differing, Cond.selects RX2 yX2_differing yX2_differing, Cond.code yX2_differing cX2_differing 4 (some .int), Cond.methodLink RX0 73 yX2_isAheadOf, Cond.instanceMethod yX2_isAheadOf, Cond.selects RX2 yX2_isAheadOf yX2_isAheadOf, Cond.code yX2_isAheadOf cX2_isAheadOf 3 (some .boolean), Cond.methodLink RX4 107 yX3_closest, Cond.instanceMethod yX3_closest, Cond.selects RX3 yX3_closest yX3_closest, Cond.initialized RX3, Cond.code yX3_closest cX3_closest 3 (some .int), Cond.methodLink RX3 24 yX3_differing, Cond.instanceMethod yX3_differing, Cond.selects RX3 yX3_differing yX3_differing, Cond.code yX3_differing cX3_differing 2 (some .int), Cond.fieldLink RX3 9 "FewLooks$Table" "bits" "I", Cond.methodLink RX3 21 yX3_parities, Cond.static yX3_parities, Cond.code yX3_parities cX3_parities 3 (some .int), Cond.methodLink RX3 15 yJ6_bitCount_0f7a4, Cond.static yJ6_bitCount_0f7a4, Cond.initialized RJ6]
def wsX4_mend_r5 : List Cond := [Cond.code yJ6_bitCount_0f7a4 cJ6_bitCount_0f7a4 1 (some .int), Cond.constant RJ6 265 (1431655765), Cond.constant RJ6 266 (858993459), Cond.constant RJ6 267 (252645135), Cond.methodLink RX4 167 yX3_differing, Cond.methodLink RX4 111 yX1_bestColouring, Cond.instanceMethod yX1_bestColouring, Cond.selects RX1 yX1_bestColouring yX1_bestColouring, Cond.initialized RX1, Cond.code yX1_bestColouring cX1_bestColouring 1 (some .int), Cond.methodLink RX1 28 yX1_bestColouringOf, Cond.instanceMethod yX1_bestColouringOf, Cond.selects RX1 yX1_bestColouringOf yX1_bestColouringOf, Cond.code yX1_bestColouringOf cX1_bestColouringOf 6 (some .int), Cond.methodLink RX1 15 yX1_likeLines, Cond.instanceMethod yX1_likeLines, Cond.selects RX1 yX1_likeLines yX1_likeLines, Cond.code yX1_likeLines cX1_likeLines 5 (some .int), Cond.fieldLink RX1 9 "FewLooks$Net" "joins" "[I", Cond.methodLink RX1 19 yX1_alikeTo, Cond.static yX1_alikeTo, Cond.code yX1_alikeTo cX1_alikeTo 2 (some .int), Cond.methodLink RX1 22 yJ6_bitCount_0f7a4, Cond.methodLink RX4 170 yX1_likeLines]
def wsX4_mend_r6 : List Cond := [Cond.methodLink RX4 114 yX2_become, Cond.methodLink RX4 74 yX3_parities, Cond.methodLink RX4 118 yX1_cutLikeLines, Cond.instanceMethod yX1_cutLikeLines, Cond.selects RX1 yX1_cutLikeLines yX1_cutLikeLines, Cond.code yX1_cutLikeLines cX1_cutLikeLines 3 none]
def wsX4_mend : List Cond := .code yX4_mend cX4_mend 3 (some .int) :: ((wsX4_mend_r1 ++ (wsX4_mend_r2 ++ (wsX4_mend_r3 ++ (wsX4_mend_r4 ++ (wsX4_mend_r5 ++ wsX4_mend_r6))))) ++ wsX40 ++ wsX00 ++ wsX30 ++ wsX20 ++ wsX10)
def wsX4_passing_r1 : List Cond := [Cond.fieldLink RX4 10 "FewLooks" "row" "LFewLooks$Row;", Cond.fieldLink RX4 29 "FewLooks" "table" "LFewLooks$Table;", Cond.fieldLink RX4 36 "FewLooks" "net" "LFewLooks$Net;", Cond.fieldLink RX4 40 "FewLooks" "drawn" "I", Cond.methodLink RX4 97 yX4_isRow, Cond.static yX4_isRow, Cond.initialized RX4, Cond.code yX4_isRow cX4_isRow 1 (some .boolean), Cond.methodLink RX4 44 yX4_within, Cond.static yX4_within, Cond.code yX4_within cX4_within 3 (some .boolean), Cond.methodLink RX4 139 yX2_passing, Cond.instanceMethod yX2_passing, Cond.selects RX2 yX2_passing yX2_passing, Cond.initialized RX2, Cond.code yX2_passing cX2_passing 2 (some .int), Cond.methodLink RX2 19 yX2_risingPairs, Cond.instanceMethod yX2_risingPairs, Cond.selects RX2 yX2_risingPairs yX2_risingPairs, Cond.code yX2_risingPairs cX2_risingPairs 4 (some .int), Cond.fieldLink RX2 15 "FewLooks$Row" "size" "I", Cond.fieldLink RX2 9 "FewLooks$Row" "digits" "[I", Cond.methodLink RX2 23 yX2_mirroredPlaces, Cond.instanceMethod yX2_mirroredPlaces]
def wsX4_passing_r2 : List Cond := [Cond.selects RX2 yX2_mirroredPlaces yX2_mirroredPlaces, Cond.code yX2_mirroredPlaces cX2_mirroredPlaces 3 (some .int), Cond.methodLink RX2 26 yX2_total, Cond.instanceMethod yX2_total, Cond.selects RX2 yX2_total yX2_total, Cond.code yX2_total cX2_total 3 (some .int), Cond.methodLink RX2 29 yX2_alikeShifts, Cond.instanceMethod yX2_alikeShifts, Cond.selects RX2 yX2_alikeShifts yX2_alikeShifts, Cond.code yX2_alikeShifts cX2_alikeShifts 4 (some .int), Cond.methodLink RX4 173 yX3_passing, Cond.instanceMethod yX3_passing, Cond.selects RX3 yX3_passing yX3_passing, Cond.initialized RX3, Cond.code yX3_passing cX3_passing 4 (some .int), Cond.methodLink RX3 30 yX3_agrees, Cond.instanceMethod yX3_agrees, Cond.selects RX3 yX3_agrees yX3_agrees, Cond.code yX3_agrees cX3_agrees 3 (some .boolean), Cond.methodLink RX3 27 yX3_at, Cond.instanceMethod yX3_at, Cond.selects RX3 yX3_at yX3_at, Cond.code yX3_at cX3_at 2 (some .int), Cond.fieldLink RX3 9 "FewLooks$Table" "bits" "I"]
def wsX4_passing_r3 : List Cond := [Cond.methodLink RX4 175 yX1_passing, Cond.instanceMethod yX1_passing, Cond.selects RX1 yX1_passing yX1_passing, Cond.initialized RX1, Cond.code yX1_passing cX1_passing 4 (some .int), Cond.methodLink RX1 22 yJ6_bitCount_0f7a4, Cond.static yJ6_bitCount_0f7a4, Cond.initialized RJ6, Cond.code yJ6_bitCount_0f7a4 cJ6_bitCount_0f7a4 1 (some .int), Cond.constant RJ6 265 (1431655765), Cond.constant RJ6 266 (858993459), Cond.constant RJ6 267 (252645135), Cond.methodLink RX1 31 yX1_twoColoured, Cond.instanceMethod yX1_twoColoured, Cond.selects RX1 yX1_twoColoured yX1_twoColoured, Cond.code yX1_twoColoured cX1_twoColoured 2 (some .boolean), Cond.methodLink RX1 28 yX1_bestColouringOf, Cond.instanceMethod yX1_bestColouringOf, Cond.selects RX1 yX1_bestColouringOf yX1_bestColouringOf, Cond.code yX1_bestColouringOf cX1_bestColouringOf 6 (some .int), Cond.methodLink RX1 15 yX1_likeLines, Cond.instanceMethod yX1_likeLines, Cond.selects RX1 yX1_likeLines yX1_likeLines, Cond.code yX1_likeLines cX1_likeLines 5 (some .int)]
def wsX4_passing_r4 : List Cond := [Cond.fieldLink RX1 9 "FewLooks$Net" "joins" "[I", Cond.methodLink RX1 19 yX1_alikeTo, Cond.static yX1_alikeTo, Cond.code yX1_alikeTo cX1_alikeTo 2 (some .int)]
def wsX4_passing : List Cond := .code yX4_passing cX4_passing 2 (some .int) :: ((wsX4_passing_r1 ++ (wsX4_passing_r2 ++ (wsX4_passing_r3 ++ wsX4_passing_r4))) ++ wsX40 ++ wsX20 ++ wsX30 ++ wsX10)
def wsX4_looks_r1 : List Cond := [Cond.fieldLink RX4 10 "FewLooks" "row" "LFewLooks$Row;", Cond.fieldLink RX4 40 "FewLooks" "drawn" "I", Cond.methodLink RX4 97 yX4_isRow, Cond.static yX4_isRow, Cond.initialized RX4, Cond.code yX4_isRow cX4_isRow 1 (some .boolean), Cond.methodLink RX4 44 yX4_within, Cond.static yX4_within, Cond.code yX4_within cX4_within 3 (some .boolean), Cond.methodLink RX4 140 yX2_looks, Cond.instanceMethod yX2_looks, Cond.selects RX2 yX2_looks yX2_looks, Cond.initialized RX2, Cond.code yX2_looks cX2_looks 2 (some .int), Cond.fieldLink RX2 15 "FewLooks$Row" "size" "I", Cond.methodLink RX4 176 yX1_sets, Cond.static yX1_sets, Cond.initialized RX1, Cond.code yX1_sets cX1_sets 3 (some .int), Cond.methodLink RX1 22 yJ6_bitCount_0f7a4, Cond.static yJ6_bitCount_0f7a4, Cond.initialized RJ6, Cond.code yJ6_bitCount_0f7a4 cJ6_bitCount_0f7a4 1 (some .int), Cond.constant RJ6 265 (1431655765)]
def wsX4_looks_r2 : List Cond := [Cond.constant RJ6 266 (858993459), Cond.constant RJ6 267 (252645135)]
def wsX4_looks : List Cond := .code yX4_looks cX4_looks 2 (some .int) :: ((wsX4_looks_r1 ++ wsX4_looks_r2) ++ wsX40 ++ wsX20)
def wsX4_lowestTerm : List Cond := .code yX4_lowestTerm cX4_lowestTerm 5 (some .int) :: ([])
def wsX4_pass_r1 : List Cond := [Cond.constantLong RX4 121 (-2), Cond.methodLink RX4 91 yX4_isSubject, Cond.static yX4_isSubject, Cond.initialized RX4, Cond.code yX4_isSubject cX4_isSubject 1 (some .boolean), Cond.methodLink RX4 44 yX4_within, Cond.static yX4_within, Cond.code yX4_within cX4_within 3 (some .boolean), Cond.methodLink RX4 123 yX4_passing, Cond.instanceMethod yX4_passing, Cond.selects RX4 yX4_passing yX4_passing, Cond.code yX4_passing cX4_passing 2 (some .int), Cond.fieldLink RX4 10 "FewLooks" "row" "LFewLooks$Row;", Cond.fieldLink RX4 29 "FewLooks" "table" "LFewLooks$Table;", Cond.fieldLink RX4 36 "FewLooks" "net" "LFewLooks$Net;", Cond.fieldLink RX4 40 "FewLooks" "drawn" "I", Cond.methodLink RX4 97 yX4_isRow, Cond.static yX4_isRow, Cond.code yX4_isRow cX4_isRow 1 (some .boolean), Cond.methodLink RX4 139 yX2_passing, Cond.instanceMethod yX2_passing, Cond.selects RX2 yX2_passing yX2_passing, Cond.initialized RX2, Cond.code yX2_passing cX2_passing 2 (some .int)]
def wsX4_pass_r2 : List Cond := [Cond.methodLink RX2 19 yX2_risingPairs, Cond.instanceMethod yX2_risingPairs, Cond.selects RX2 yX2_risingPairs yX2_risingPairs, Cond.code yX2_risingPairs cX2_risingPairs 4 (some .int), Cond.fieldLink RX2 15 "FewLooks$Row" "size" "I", Cond.fieldLink RX2 9 "FewLooks$Row" "digits" "[I", Cond.methodLink RX2 23 yX2_mirroredPlaces, Cond.instanceMethod yX2_mirroredPlaces, Cond.selects RX2 yX2_mirroredPlaces yX2_mirroredPlaces, Cond.code yX2_mirroredPlaces cX2_mirroredPlaces 3 (some .int), Cond.methodLink RX2 26 yX2_total, Cond.instanceMethod yX2_total, Cond.selects RX2 yX2_total yX2_total, Cond.code yX2_total cX2_total 3 (some .int), Cond.methodLink RX2 29 yX2_alikeShifts, Cond.instanceMethod yX2_alikeShifts, Cond.selects RX2 yX2_alikeShifts yX2_alikeShifts, Cond.code yX2_alikeShifts cX2_alikeShifts 4 (some .int), Cond.methodLink RX4 173 yX3_passing, Cond.instanceMethod yX3_passing, Cond.selects RX3 yX3_passing yX3_passing, Cond.initialized RX3, Cond.code yX3_passing cX3_passing 4 (some .int), Cond.methodLink RX3 30 yX3_agrees]
def wsX4_pass_r3 : List Cond := [Cond.instanceMethod yX3_agrees, Cond.selects RX3 yX3_agrees yX3_agrees, Cond.code yX3_agrees cX3_agrees 3 (some .boolean), Cond.methodLink RX3 27 yX3_at, Cond.instanceMethod yX3_at, Cond.selects RX3 yX3_at yX3_at, Cond.code yX3_at cX3_at 2 (some .int), Cond.fieldLink RX3 9 "FewLooks$Table" "bits" "I", Cond.methodLink RX4 175 yX1_passing, Cond.instanceMethod yX1_passing, Cond.selects RX1 yX1_passing yX1_passing, Cond.initialized RX1, Cond.code yX1_passing cX1_passing 4 (some .int), Cond.methodLink RX1 22 yJ6_bitCount_0f7a4, Cond.static yJ6_bitCount_0f7a4, Cond.initialized RJ6, Cond.code yJ6_bitCount_0f7a4 cJ6_bitCount_0f7a4 1 (some .int), Cond.constant RJ6 265 (1431655765), Cond.constant RJ6 266 (858993459), Cond.constant RJ6 267 (252645135), Cond.methodLink RX1 31 yX1_twoColoured, Cond.instanceMethod yX1_twoColoured, Cond.selects RX1 yX1_twoColoured yX1_twoColoured, Cond.code yX1_twoColoured cX1_twoColoured 2 (some .boolean)]
def wsX4_pass_r4 : List Cond := [Cond.methodLink RX1 28 yX1_bestColouringOf, Cond.instanceMethod yX1_bestColouringOf, Cond.selects RX1 yX1_bestColouringOf yX1_bestColouringOf, Cond.code yX1_bestColouringOf cX1_bestColouringOf 6 (some .int), Cond.methodLink RX1 15 yX1_likeLines, Cond.instanceMethod yX1_likeLines, Cond.selects RX1 yX1_likeLines yX1_likeLines, Cond.code yX1_likeLines cX1_likeLines 5 (some .int), Cond.fieldLink RX1 9 "FewLooks$Net" "joins" "[I", Cond.methodLink RX1 19 yX1_alikeTo, Cond.static yX1_alikeTo, Cond.code yX1_alikeTo cX1_alikeTo 2 (some .int), Cond.methodLink RX4 126 yX4_looks, Cond.instanceMethod yX4_looks, Cond.selects RX4 yX4_looks yX4_looks, Cond.code yX4_looks cX4_looks 2 (some .int), Cond.methodLink RX4 140 yX2_looks, Cond.instanceMethod yX2_looks, Cond.selects RX2 yX2_looks yX2_looks, Cond.code yX2_looks cX2_looks 2 (some .int), Cond.methodLink RX4 176 yX1_sets, Cond.static yX1_sets, Cond.code yX1_sets cX1_sets 3 (some .int), Cond.methodLink RX4 129 yX4_lowestTerm]
def wsX4_pass_r5 : List Cond := [Cond.static yX4_lowestTerm, Cond.code yX4_lowestTerm cX4_lowestTerm 5 (some .int)]
def wsX4_pass : List Cond := .code yX4_pass cX4_pass 3 (some .long) :: ((wsX4_pass_r1 ++ (wsX4_pass_r2 ++ (wsX4_pass_r3 ++ (wsX4_pass_r4 ++ wsX4_pass_r5)))) ++ wsX40 ++ wsX20 ++ wsX30 ++ wsX10)
def wsX4_repeats_r1 : List Cond := [Cond.methodLink RX4 91 yX4_isSubject, Cond.static yX4_isSubject, Cond.initialized RX4, Cond.code yX4_isSubject cX4_isSubject 1 (some .boolean), Cond.methodLink RX4 44 yX4_within, Cond.static yX4_within, Cond.code yX4_within cX4_within 3 (some .boolean), Cond.methodLink RX4 123 yX4_passing, Cond.instanceMethod yX4_passing, Cond.selects RX4 yX4_passing yX4_passing, Cond.code yX4_passing cX4_passing 2 (some .int), Cond.fieldLink RX4 10 "FewLooks" "row" "LFewLooks$Row;", Cond.fieldLink RX4 29 "FewLooks" "table" "LFewLooks$Table;", Cond.fieldLink RX4 36 "FewLooks" "net" "LFewLooks$Net;", Cond.fieldLink RX4 40 "FewLooks" "drawn" "I", Cond.methodLink RX4 97 yX4_isRow, Cond.static yX4_isRow, Cond.code yX4_isRow cX4_isRow 1 (some .boolean), Cond.methodLink RX4 139 yX2_passing, Cond.instanceMethod yX2_passing, Cond.selects RX2 yX2_passing yX2_passing, Cond.initialized RX2, Cond.code yX2_passing cX2_passing 2 (some .int), Cond.methodLink RX2 19 yX2_risingPairs]
def wsX4_repeats_r2 : List Cond := [Cond.instanceMethod yX2_risingPairs, Cond.selects RX2 yX2_risingPairs yX2_risingPairs, Cond.code yX2_risingPairs cX2_risingPairs 4 (some .int), Cond.fieldLink RX2 15 "FewLooks$Row" "size" "I", Cond.fieldLink RX2 9 "FewLooks$Row" "digits" "[I", Cond.methodLink RX2 23 yX2_mirroredPlaces, Cond.instanceMethod yX2_mirroredPlaces, Cond.selects RX2 yX2_mirroredPlaces yX2_mirroredPlaces, Cond.code yX2_mirroredPlaces cX2_mirroredPlaces 3 (some .int), Cond.methodLink RX2 26 yX2_total, Cond.instanceMethod yX2_total, Cond.selects RX2 yX2_total yX2_total, Cond.code yX2_total cX2_total 3 (some .int), Cond.methodLink RX2 29 yX2_alikeShifts, Cond.instanceMethod yX2_alikeShifts, Cond.selects RX2 yX2_alikeShifts yX2_alikeShifts, Cond.code yX2_alikeShifts cX2_alikeShifts 4 (some .int), Cond.methodLink RX4 173 yX3_passing, Cond.instanceMethod yX3_passing, Cond.selects RX3 yX3_passing yX3_passing, Cond.initialized RX3, Cond.code yX3_passing cX3_passing 4 (some .int), Cond.methodLink RX3 30 yX3_agrees, Cond.instanceMethod yX3_agrees]
def wsX4_repeats_r3 : List Cond := [Cond.selects RX3 yX3_agrees yX3_agrees, Cond.code yX3_agrees cX3_agrees 3 (some .boolean), Cond.methodLink RX3 27 yX3_at, Cond.instanceMethod yX3_at, Cond.selects RX3 yX3_at yX3_at, Cond.code yX3_at cX3_at 2 (some .int), Cond.fieldLink RX3 9 "FewLooks$Table" "bits" "I", Cond.methodLink RX4 175 yX1_passing, Cond.instanceMethod yX1_passing, Cond.selects RX1 yX1_passing yX1_passing, Cond.initialized RX1, Cond.code yX1_passing cX1_passing 4 (some .int), Cond.methodLink RX1 22 yJ6_bitCount_0f7a4, Cond.static yJ6_bitCount_0f7a4, Cond.initialized RJ6, Cond.code yJ6_bitCount_0f7a4 cJ6_bitCount_0f7a4 1 (some .int), Cond.constant RJ6 265 (1431655765), Cond.constant RJ6 266 (858993459), Cond.constant RJ6 267 (252645135), Cond.methodLink RX1 31 yX1_twoColoured, Cond.instanceMethod yX1_twoColoured, Cond.selects RX1 yX1_twoColoured yX1_twoColoured, Cond.code yX1_twoColoured cX1_twoColoured 2 (some .boolean), Cond.methodLink RX1 28 yX1_bestColouringOf]
def wsX4_repeats_r4 : List Cond := [Cond.instanceMethod yX1_bestColouringOf, Cond.selects RX1 yX1_bestColouringOf yX1_bestColouringOf, Cond.code yX1_bestColouringOf cX1_bestColouringOf 6 (some .int), Cond.methodLink RX1 15 yX1_likeLines, Cond.instanceMethod yX1_likeLines, Cond.selects RX1 yX1_likeLines yX1_likeLines, Cond.code yX1_likeLines cX1_likeLines 5 (some .int), Cond.fieldLink RX1 9 "FewLooks$Net" "joins" "[I", Cond.methodLink RX1 19 yX1_alikeTo, Cond.static yX1_alikeTo, Cond.code yX1_alikeTo cX1_alikeTo 2 (some .int), Cond.methodLink RX4 126 yX4_looks, Cond.instanceMethod yX4_looks, Cond.selects RX4 yX4_looks yX4_looks, Cond.code yX4_looks cX4_looks 2 (some .int), Cond.methodLink RX4 140 yX2_looks, Cond.instanceMethod yX2_looks, Cond.selects RX2 yX2_looks yX2_looks, Cond.code yX2_looks cX2_looks 2 (some .int), Cond.methodLink RX4 176 yX1_sets, Cond.static yX1_sets, Cond.code yX1_sets cX1_sets 3 (some .int)]
def wsX4_repeats : List Cond := .code yX4_repeats cX4_repeats 13 (some .int) :: ((wsX4_repeats_r1 ++ (wsX4_repeats_r2 ++ (wsX4_repeats_r3 ++ wsX4_repeats_r4))) ++ wsX40 ++ wsX20 ++ wsX30 ++ wsX10)
def wsX4_worstCode_r1 : List Cond := [Cond.fieldLink RX4 10 "FewLooks" "row" "LFewLooks$Row;", Cond.fieldLink RX4 16 "FewLooks" "trial" "LFewLooks$Row;", Cond.fieldLink RX4 22 "FewLooks" "mender" "LFewLooks$Mender;", Cond.methodLink RX4 136 yX2_spell, Cond.instanceMethod yX2_spell, Cond.selects RX2 yX2_spell yX2_spell, Cond.initialized RX2, Cond.code yX2_spell cX2_spell 4 none, Cond.fieldLink RX2 15 "FewLooks$Row" "size" "I", Cond.fieldLink RX2 9 "FewLooks$Row" "digits" "[I", Cond.methodLink RX4 139 yX2_passing, Cond.instanceMethod yX2_passing, Cond.selects RX2 yX2_passing yX2_passing, Cond.code yX2_passing cX2_passing 2 (some .int), Cond.methodLink RX2 19 yX2_risingPairs, Cond.instanceMethod yX2_risingPairs, Cond.selects RX2 yX2_risingPairs yX2_risingPairs, Cond.code yX2_risingPairs cX2_risingPairs 4 (some .int), Cond.methodLink RX2 23 yX2_mirroredPlaces, Cond.instanceMethod yX2_mirroredPlaces, Cond.selects RX2 yX2_mirroredPlaces yX2_mirroredPlaces, Cond.code yX2_mirroredPlaces cX2_mirroredPlaces 3 (some .int), Cond.methodLink RX2 26 yX2_total, Cond.instanceMethod yX2_total]
def wsX4_worstCode_r2 : List Cond := [Cond.selects RX2 yX2_total yX2_total, Cond.code yX2_total cX2_total 3 (some .int), Cond.methodLink RX2 29 yX2_alikeShifts, Cond.instanceMethod yX2_alikeShifts, Cond.selects RX2 yX2_alikeShifts yX2_alikeShifts, Cond.code yX2_alikeShifts cX2_alikeShifts 4 (some .int), Cond.methodLink RX4 100 yX0_seek, Cond.instanceMethod yX0_seek, Cond.selects RX0 yX0_seek yX0_seek, Cond.initialized RX0, Cond.code yX0_seek cX0_seek 3 (some .int), Cond.fieldLink RX0 12 "FewLooks$Mender" "near" "LFewLooks$Row;", Cond.methodLink RX0 25 yX2_become, Cond.instanceMethod yX2_become, Cond.selects RX2 yX2_become yX2_become, Cond.code yX2_become cX2_become 3 none, Cond.methodLink RX0 29 yX0_raise, Cond.instanceMethod yX0_raise, Cond.selects RX0 yX0_raise yX0_raise, Cond.code yX0_raise cX0_raise 5 none, Cond.fieldLink RX0 21 "FewLooks$Mender" "costs" "[I", Cond.methodLink RX0 45 yX0_fillCosts, Cond.instanceMethod yX0_fillCosts, Cond.selects RX0 yX0_fillCosts yX0_fillCosts]
def wsX4_worstCode_r3 : List Cond := [Cond.code yX0_fillCosts cX0_fillCosts 5 none, Cond.methodLink RX0 59 Lib.Math.min.name, Cond.static Lib.Math.min.name, Cond.initialized "java/lang/Math", Cond.code Lib.Math.min.name Lib.Math.min.code 2 (some .int), Cond.methodLink RX0 52 yX0_costWith, Cond.instanceMethod yX0_costWith, Cond.selects RX0 yX0_costWith yX0_costWith, Cond.code yX0_costWith cX0_costWith 5 (some .int), Cond.methodLink RX0 32 yX0_mirror, Cond.instanceMethod yX0_mirror, Cond.selects RX0 yX0_mirror yX0_mirror, Cond.code yX0_mirror cX0_mirror 3 none, Cond.methodLink RX0 35 yX0_makeEven, Cond.instanceMethod yX0_makeEven, Cond.selects RX0 yX0_makeEven yX0_makeEven, Cond.code yX0_makeEven cX0_makeEven 2 none, Cond.methodLink RX0 65 yX2_total, Cond.methodLink RX0 38 yX0_makeRound, Cond.instanceMethod yX0_makeRound, Cond.selects RX0 yX0_makeRound yX0_makeRound, Cond.code yX0_makeRound cX0_makeRound 5 none, Cond.fieldLink RX0 18 "FewLooks$Mender" "guess" "LFewLooks$Row;", Cond.methodLink RX0 69 yX0_guessPeriod]
def wsX4_worstCode_r4 : List Cond := [Cond.instanceMethod yX0_guessPeriod, Cond.selects RX0 yX0_guessPeriod yX0_guessPeriod, Cond.code yX0_guessPeriod cX0_guessPeriod 4 none, Cond.methodLink RX0 77 yX0_commonest, Cond.static yX0_commonest, Cond.code yX0_commonest cX0_commonest 9 (some .int), Cond.methodLink RX0 41 yX2_differing, Cond.instanceMethod yX2_differing, Cond.selects RX2 yX2_differing yX2_differing, Cond.code yX2_differing cX2_differing 4 (some .int), Cond.methodLink RX0 73 yX2_isAheadOf, Cond.instanceMethod yX2_isAheadOf, Cond.selects RX2 yX2_isAheadOf yX2_isAheadOf, Cond.code yX2_isAheadOf cX2_isAheadOf 3 (some .boolean)]
def wsX4_worstCode : List Cond := .code yX4_worstCode cX4_worstCode 7 (some .int) :: ((wsX4_worstCode_r1 ++ (wsX4_worstCode_r2 ++ (wsX4_worstCode_r3 ++ wsX4_worstCode_r4))) ++ wsX40 ++ wsX20 ++ wsX00)
def wsX4_worst_r1 : List Cond := [Cond.fieldLink RX4 10 "FewLooks" "row" "LFewLooks$Row;", Cond.fieldLink RX4 16 "FewLooks" "trial" "LFewLooks$Row;", Cond.methodLink RX4 97 yX4_isRow, Cond.static yX4_isRow, Cond.initialized RX4, Cond.code yX4_isRow cX4_isRow 1 (some .boolean), Cond.methodLink RX4 44 yX4_within, Cond.static yX4_within, Cond.code yX4_within cX4_within 3 (some .boolean), Cond.methodLink RX4 133 yX4_worstCode, Cond.instanceMethod yX4_worstCode, Cond.selects RX4 yX4_worstCode yX4_worstCode, Cond.code yX4_worstCode cX4_worstCode 7 (some .int), Cond.fieldLink RX4 22 "FewLooks" "mender" "LFewLooks$Mender;", Cond.methodLink RX4 136 yX2_spell, Cond.instanceMethod yX2_spell, Cond.selects RX2 yX2_spell yX2_spell, Cond.initialized RX2, Cond.code yX2_spell cX2_spell 4 none, Cond.fieldLink RX2 15 "FewLooks$Row" "size" "I", Cond.fieldLink RX2 9 "FewLooks$Row" "digits" "[I", Cond.methodLink RX4 139 yX2_passing, Cond.instanceMethod yX2_passing, Cond.selects RX2 yX2_passing yX2_passing]
def wsX4_worst_r2 : List Cond := [Cond.code yX2_passing cX2_passing 2 (some .int), Cond.methodLink RX2 19 yX2_risingPairs, Cond.instanceMethod yX2_risingPairs, Cond.selects RX2 yX2_risingPairs yX2_risingPairs, Cond.code yX2_risingPairs cX2_risingPairs 4 (some .int), Cond.methodLink RX2 23 yX2_mirroredPlaces, Cond.instanceMethod yX2_mirroredPlaces, Cond.selects RX2 yX2_mirroredPlaces yX2_mirroredPlaces, Cond.code yX2_mirroredPlaces cX2_mirroredPlaces 3 (some .int), Cond.methodLink RX2 26 yX2_total, Cond.instanceMethod yX2_total, Cond.selects RX2 yX2_total yX2_total, Cond.code yX2_total cX2_total 3 (some .int), Cond.methodLink RX2 29 yX2_alikeShifts, Cond.instanceMethod yX2_alikeShifts, Cond.selects RX2 yX2_alikeShifts yX2_alikeShifts, Cond.code yX2_alikeShifts cX2_alikeShifts 4 (some .int), Cond.methodLink RX4 100 yX0_seek, Cond.instanceMethod yX0_seek, Cond.selects RX0 yX0_seek yX0_seek, Cond.initialized RX0, Cond.code yX0_seek cX0_seek 3 (some .int), Cond.fieldLink RX0 12 "FewLooks$Mender" "near" "LFewLooks$Row;", Cond.methodLink RX0 25 yX2_become]
def wsX4_worst_r3 : List Cond := [Cond.instanceMethod yX2_become, Cond.selects RX2 yX2_become yX2_become, Cond.code yX2_become cX2_become 3 none, Cond.methodLink RX0 29 yX0_raise, Cond.instanceMethod yX0_raise, Cond.selects RX0 yX0_raise yX0_raise, Cond.code yX0_raise cX0_raise 5 none, Cond.fieldLink RX0 21 "FewLooks$Mender" "costs" "[I", Cond.methodLink RX0 45 yX0_fillCosts, Cond.instanceMethod yX0_fillCosts, Cond.selects RX0 yX0_fillCosts yX0_fillCosts, Cond.code yX0_fillCosts cX0_fillCosts 5 none, Cond.methodLink RX0 59 Lib.Math.min.name, Cond.static Lib.Math.min.name, Cond.initialized "java/lang/Math", Cond.code Lib.Math.min.name Lib.Math.min.code 2 (some .int), Cond.methodLink RX0 52 yX0_costWith, Cond.instanceMethod yX0_costWith, Cond.selects RX0 yX0_costWith yX0_costWith, Cond.code yX0_costWith cX0_costWith 5 (some .int), Cond.methodLink RX0 32 yX0_mirror, Cond.instanceMethod yX0_mirror, Cond.selects RX0 yX0_mirror yX0_mirror, Cond.code yX0_mirror cX0_mirror 3 none]
def wsX4_worst_r4 : List Cond := [Cond.methodLink RX0 35 yX0_makeEven, Cond.instanceMethod yX0_makeEven, Cond.selects RX0 yX0_makeEven yX0_makeEven, Cond.code yX0_makeEven cX0_makeEven 2 none, Cond.methodLink RX0 65 yX2_total, Cond.methodLink RX0 38 yX0_makeRound, Cond.instanceMethod yX0_makeRound, Cond.selects RX0 yX0_makeRound yX0_makeRound, Cond.code yX0_makeRound cX0_makeRound 5 none, Cond.fieldLink RX0 18 "FewLooks$Mender" "guess" "LFewLooks$Row;", Cond.methodLink RX0 69 yX0_guessPeriod, Cond.instanceMethod yX0_guessPeriod, Cond.selects RX0 yX0_guessPeriod yX0_guessPeriod, Cond.code yX0_guessPeriod cX0_guessPeriod 4 none, Cond.methodLink RX0 77 yX0_commonest, Cond.static yX0_commonest, Cond.code yX0_commonest cX0_commonest 9 (some .int), Cond.methodLink RX0 41 yX2_differing, Cond.instanceMethod yX2_differing, Cond.selects RX2 yX2_differing yX2_differing, Cond.code yX2_differing cX2_differing 4 (some .int), Cond.methodLink RX0 73 yX2_isAheadOf, Cond.instanceMethod yX2_isAheadOf, Cond.selects RX2 yX2_isAheadOf yX2_isAheadOf]
def wsX4_worst_r5 : List Cond := [Cond.code yX2_isAheadOf cX2_isAheadOf 3 (some .boolean), Cond.methodLink RX4 140 yX2_looks, Cond.instanceMethod yX2_looks, Cond.selects RX2 yX2_looks yX2_looks, Cond.code yX2_looks cX2_looks 2 (some .int), Cond.methodLink RX4 129 yX4_lowestTerm, Cond.static yX4_lowestTerm, Cond.code yX4_lowestTerm cX4_lowestTerm 5 (some .int)]
def wsX4_worst : List Cond := .code yX4_worst cX4_worst 6 (some .int) :: ((wsX4_worst_r1 ++ (wsX4_worst_r2 ++ (wsX4_worst_r3 ++ (wsX4_worst_r4 ++ wsX4_worst_r5)))) ++ wsX40 ++ wsX20 ++ wsX00)
def wsX4_mended : List Cond := .code yX4_mended cX4_mended 3 (some .int) :: ([.fieldLink RX4 29 "FewLooks" "table" "LFewLooks$Table;", .methodLink RX4 63 yX4_isEntry, .static yX4_isEntry, .initialized RX4, .code yX4_isEntry cX4_isEntry 1 (some .boolean), .methodLink RX4 44 yX4_within, .static yX4_within, .code yX4_within cX4_within 3 (some .boolean), .methodLink RX4 141 yX3_tellers, .instanceMethod yX3_tellers, .selects RX3 yX3_tellers yX3_tellers, .initialized RX3, .code yX3_tellers cX3_tellers 5 (some .int), .methodLink RX3 27 yX3_at, .instanceMethod yX3_at, .selects RX3 yX3_at yX3_at, .code yX3_at cX3_at 2 (some .int), .fieldLink RX3 9 "FewLooks$Table" "bits" "I"] ++ wsX40 ++ wsX30)
def wsX4_isLook : List Cond := .code yX4_isLook cX4_isLook 4 (some .boolean) :: ([.fieldLink RX4 40 "FewLooks" "drawn" "I", .methodLink RX4 55 yX4_isPlace, .instanceMethod yX4_isPlace, .selects RX4 yX4_isPlace yX4_isPlace, .initialized RX4, .code yX4_isPlace cX4_isPlace 2 (some .boolean), .fieldLink RX4 10 "FewLooks" "row" "LFewLooks$Row;", .methodLink RX4 44 yX4_within, .static yX4_within, .code yX4_within cX4_within 3 (some .boolean), .methodLink RX4 63 yX4_isEntry, .static yX4_isEntry, .code yX4_isEntry cX4_isEntry 1 (some .boolean), .methodLink RX4 159 yJ6_bitCount_0f7a4, .static yJ6_bitCount_0f7a4, .initialized RJ6, .code yJ6_bitCount_0f7a4 cJ6_bitCount_0f7a4 1 (some .int), .constant RJ6 265 (1431655765), .constant RJ6 266 (858993459), .constant RJ6 267 (252645135)] ++ wsX40 ++ wsX20)
def wsX4_fails_r1 : List Cond := [Cond.fieldLink RX4 10 "FewLooks" "row" "LFewLooks$Row;", Cond.fieldLink RX4 29 "FewLooks" "table" "LFewLooks$Table;", Cond.fieldLink RX4 36 "FewLooks" "net" "LFewLooks$Net;", Cond.methodLink RX4 179 yX3_agrees, Cond.instanceMethod yX3_agrees, Cond.selects RX3 yX3_agrees yX3_agrees, Cond.initialized RX3, Cond.code yX3_agrees cX3_agrees 3 (some .boolean), Cond.methodLink RX3 27 yX3_at, Cond.instanceMethod yX3_at, Cond.selects RX3 yX3_at yX3_at, Cond.code yX3_at cX3_at 2 (some .int), Cond.fieldLink RX3 9 "FewLooks$Table" "bits" "I", Cond.methodLink RX4 183 yX1_twoColoured, Cond.instanceMethod yX1_twoColoured, Cond.selects RX1 yX1_twoColoured yX1_twoColoured, Cond.initialized RX1, Cond.code yX1_twoColoured cX1_twoColoured 2 (some .boolean), Cond.methodLink RX1 28 yX1_bestColouringOf, Cond.instanceMethod yX1_bestColouringOf, Cond.selects RX1 yX1_bestColouringOf yX1_bestColouringOf, Cond.code yX1_bestColouringOf cX1_bestColouringOf 6 (some .int), Cond.methodLink RX1 15 yX1_likeLines, Cond.instanceMethod yX1_likeLines]
def wsX4_fails_r2 : List Cond := [Cond.selects RX1 yX1_likeLines yX1_likeLines, Cond.code yX1_likeLines cX1_likeLines 5 (some .int), Cond.fieldLink RX1 9 "FewLooks$Net" "joins" "[I", Cond.methodLink RX1 19 yX1_alikeTo, Cond.static yX1_alikeTo, Cond.code yX1_alikeTo cX1_alikeTo 2 (some .int), Cond.methodLink RX1 22 yJ6_bitCount_0f7a4, Cond.static yJ6_bitCount_0f7a4, Cond.initialized RJ6, Cond.code yJ6_bitCount_0f7a4 cJ6_bitCount_0f7a4 1 (some .int), Cond.constant RJ6 265 (1431655765), Cond.constant RJ6 266 (858993459), Cond.constant RJ6 267 (252645135)]
def wsX4_fails : List Cond := .code yX4_fails cX4_fails 4 (some .boolean) :: ((wsX4_fails_r1 ++ wsX4_fails_r2) ++ wsX40 ++ wsX20 ++ wsX30 ++ wsX10)
def wsX4_shows_r1 : List Cond := [Cond.methodLink RX4 144 yX4_isLook, Cond.instanceMethod yX4_isLook, Cond.selects RX4 yX4_isLook yX4_isLook, Cond.initialized RX4, Cond.code yX4_isLook cX4_isLook 4 (some .boolean), Cond.fieldLink RX4 40 "FewLooks" "drawn" "I", Cond.methodLink RX4 55 yX4_isPlace, Cond.instanceMethod yX4_isPlace, Cond.selects RX4 yX4_isPlace yX4_isPlace, Cond.code yX4_isPlace cX4_isPlace 2 (some .boolean), Cond.fieldLink RX4 10 "FewLooks" "row" "LFewLooks$Row;", Cond.methodLink RX4 44 yX4_within, Cond.static yX4_within, Cond.code yX4_within cX4_within 3 (some .boolean), Cond.methodLink RX4 63 yX4_isEntry, Cond.static yX4_isEntry, Cond.code yX4_isEntry cX4_isEntry 1 (some .boolean), Cond.methodLink RX4 159 yJ6_bitCount_0f7a4, Cond.static yJ6_bitCount_0f7a4, Cond.initialized RJ6, Cond.code yJ6_bitCount_0f7a4 cJ6_bitCount_0f7a4 1 (some .int), Cond.constant RJ6 265 (1431655765), Cond.constant RJ6 266 (858993459), Cond.constant RJ6 267 (252645135)]
def wsX4_shows_r2 : List Cond := [Cond.methodLink RX4 147 yX4_fails, Cond.instanceMethod yX4_fails, Cond.selects RX4 yX4_fails yX4_fails, Cond.code yX4_fails cX4_fails 4 (some .boolean), Cond.fieldLink RX4 29 "FewLooks" "table" "LFewLooks$Table;", Cond.fieldLink RX4 36 "FewLooks" "net" "LFewLooks$Net;", Cond.methodLink RX4 179 yX3_agrees, Cond.instanceMethod yX3_agrees, Cond.selects RX3 yX3_agrees yX3_agrees, Cond.initialized RX3, Cond.code yX3_agrees cX3_agrees 3 (some .boolean), Cond.methodLink RX3 27 yX3_at, Cond.instanceMethod yX3_at, Cond.selects RX3 yX3_at yX3_at, Cond.code yX3_at cX3_at 2 (some .int), Cond.fieldLink RX3 9 "FewLooks$Table" "bits" "I", Cond.methodLink RX4 183 yX1_twoColoured, Cond.instanceMethod yX1_twoColoured, Cond.selects RX1 yX1_twoColoured yX1_twoColoured, Cond.initialized RX1, Cond.code yX1_twoColoured cX1_twoColoured 2 (some .boolean), Cond.methodLink RX1 28 yX1_bestColouringOf, Cond.instanceMethod yX1_bestColouringOf, Cond.selects RX1 yX1_bestColouringOf yX1_bestColouringOf]
def wsX4_shows_r3 : List Cond := [Cond.code yX1_bestColouringOf cX1_bestColouringOf 6 (some .int), Cond.methodLink RX1 15 yX1_likeLines, Cond.instanceMethod yX1_likeLines, Cond.selects RX1 yX1_likeLines yX1_likeLines, Cond.code yX1_likeLines cX1_likeLines 5 (some .int), Cond.fieldLink RX1 9 "FewLooks$Net" "joins" "[I", Cond.methodLink RX1 19 yX1_alikeTo, Cond.static yX1_alikeTo, Cond.code yX1_alikeTo cX1_alikeTo 2 (some .int), Cond.methodLink RX1 22 yJ6_bitCount_0f7a4]
def wsX4_shows : List Cond := .code yX4_shows cX4_shows 4 (some .int) :: ((wsX4_shows_r1 ++ (wsX4_shows_r2 ++ wsX4_shows_r3)) ++ wsX40 ++ wsX20 ++ wsX30 ++ wsX10)
def wsX4_firstFailingSet_r1 : List Cond := [Cond.methodLink RX4 144 yX4_isLook, Cond.instanceMethod yX4_isLook, Cond.selects RX4 yX4_isLook yX4_isLook, Cond.initialized RX4, Cond.code yX4_isLook cX4_isLook 4 (some .boolean), Cond.fieldLink RX4 40 "FewLooks" "drawn" "I", Cond.methodLink RX4 55 yX4_isPlace, Cond.instanceMethod yX4_isPlace, Cond.selects RX4 yX4_isPlace yX4_isPlace, Cond.code yX4_isPlace cX4_isPlace 2 (some .boolean), Cond.fieldLink RX4 10 "FewLooks" "row" "LFewLooks$Row;", Cond.methodLink RX4 44 yX4_within, Cond.static yX4_within, Cond.code yX4_within cX4_within 3 (some .boolean), Cond.methodLink RX4 63 yX4_isEntry, Cond.static yX4_isEntry, Cond.code yX4_isEntry cX4_isEntry 1 (some .boolean), Cond.methodLink RX4 159 yJ6_bitCount_0f7a4, Cond.static yJ6_bitCount_0f7a4, Cond.initialized RJ6, Cond.code yJ6_bitCount_0f7a4 cJ6_bitCount_0f7a4 1 (some .int), Cond.constant RJ6 265 (1431655765), Cond.constant RJ6 266 (858993459), Cond.constant RJ6 267 (252645135)]
def wsX4_firstFailingSet_r2 : List Cond := [Cond.methodLink RX4 147 yX4_fails, Cond.instanceMethod yX4_fails, Cond.selects RX4 yX4_fails yX4_fails, Cond.code yX4_fails cX4_fails 4 (some .boolean), Cond.fieldLink RX4 29 "FewLooks" "table" "LFewLooks$Table;", Cond.fieldLink RX4 36 "FewLooks" "net" "LFewLooks$Net;", Cond.methodLink RX4 179 yX3_agrees, Cond.instanceMethod yX3_agrees, Cond.selects RX3 yX3_agrees yX3_agrees, Cond.initialized RX3, Cond.code yX3_agrees cX3_agrees 3 (some .boolean), Cond.methodLink RX3 27 yX3_at, Cond.instanceMethod yX3_at, Cond.selects RX3 yX3_at yX3_at, Cond.code yX3_at cX3_at 2 (some .int), Cond.fieldLink RX3 9 "FewLooks$Table" "bits" "I", Cond.methodLink RX4 183 yX1_twoColoured, Cond.instanceMethod yX1_twoColoured, Cond.selects RX1 yX1_twoColoured yX1_twoColoured, Cond.initialized RX1, Cond.code yX1_twoColoured cX1_twoColoured 2 (some .boolean), Cond.methodLink RX1 28 yX1_bestColouringOf, Cond.instanceMethod yX1_bestColouringOf, Cond.selects RX1 yX1_bestColouringOf yX1_bestColouringOf]
def wsX4_firstFailingSet_r3 : List Cond := [Cond.code yX1_bestColouringOf cX1_bestColouringOf 6 (some .int), Cond.methodLink RX1 15 yX1_likeLines, Cond.instanceMethod yX1_likeLines, Cond.selects RX1 yX1_likeLines yX1_likeLines, Cond.code yX1_likeLines cX1_likeLines 5 (some .int), Cond.fieldLink RX1 9 "FewLooks$Net" "joins" "[I", Cond.methodLink RX1 19 yX1_alikeTo, Cond.static yX1_alikeTo, Cond.code yX1_alikeTo cX1_alikeTo 2 (some .int), Cond.methodLink RX1 22 yJ6_bitCount_0f7a4]
def wsX4_firstFailingSet : List Cond := .code yX4_firstFailingSet cX4_firstFailingSet 2 (some .int) :: ((wsX4_firstFailingSet_r1 ++ (wsX4_firstFailingSet_r2 ++ wsX4_firstFailingSet_r3)) ++ wsX40 ++ wsX20 ++ wsX30 ++ wsX10)
def wsX4_firstFailingPair_r1 : List Cond := [Cond.methodLink RX4 144 yX4_isLook, Cond.instanceMethod yX4_isLook, Cond.selects RX4 yX4_isLook yX4_isLook, Cond.initialized RX4, Cond.code yX4_isLook cX4_isLook 4 (some .boolean), Cond.fieldLink RX4 40 "FewLooks" "drawn" "I", Cond.methodLink RX4 55 yX4_isPlace, Cond.instanceMethod yX4_isPlace, Cond.selects RX4 yX4_isPlace yX4_isPlace, Cond.code yX4_isPlace cX4_isPlace 2 (some .boolean), Cond.fieldLink RX4 10 "FewLooks" "row" "LFewLooks$Row;", Cond.methodLink RX4 44 yX4_within, Cond.static yX4_within, Cond.code yX4_within cX4_within 3 (some .boolean), Cond.methodLink RX4 63 yX4_isEntry, Cond.static yX4_isEntry, Cond.code yX4_isEntry cX4_isEntry 1 (some .boolean), Cond.methodLink RX4 159 yJ6_bitCount_0f7a4, Cond.static yJ6_bitCount_0f7a4, Cond.initialized RJ6, Cond.code yJ6_bitCount_0f7a4 cJ6_bitCount_0f7a4 1 (some .int), Cond.constant RJ6 265 (1431655765), Cond.constant RJ6 266 (858993459), Cond.constant RJ6 267 (252645135)]
def wsX4_firstFailingPair_r2 : List Cond := [Cond.methodLink RX4 147 yX4_fails, Cond.instanceMethod yX4_fails, Cond.selects RX4 yX4_fails yX4_fails, Cond.code yX4_fails cX4_fails 4 (some .boolean), Cond.fieldLink RX4 29 "FewLooks" "table" "LFewLooks$Table;", Cond.fieldLink RX4 36 "FewLooks" "net" "LFewLooks$Net;", Cond.methodLink RX4 179 yX3_agrees, Cond.instanceMethod yX3_agrees, Cond.selects RX3 yX3_agrees yX3_agrees, Cond.initialized RX3, Cond.code yX3_agrees cX3_agrees 3 (some .boolean), Cond.methodLink RX3 27 yX3_at, Cond.instanceMethod yX3_at, Cond.selects RX3 yX3_at yX3_at, Cond.code yX3_at cX3_at 2 (some .int), Cond.fieldLink RX3 9 "FewLooks$Table" "bits" "I", Cond.methodLink RX4 183 yX1_twoColoured, Cond.instanceMethod yX1_twoColoured, Cond.selects RX1 yX1_twoColoured yX1_twoColoured, Cond.initialized RX1, Cond.code yX1_twoColoured cX1_twoColoured 2 (some .boolean), Cond.methodLink RX1 28 yX1_bestColouringOf, Cond.instanceMethod yX1_bestColouringOf, Cond.selects RX1 yX1_bestColouringOf yX1_bestColouringOf]
def wsX4_firstFailingPair_r3 : List Cond := [Cond.code yX1_bestColouringOf cX1_bestColouringOf 6 (some .int), Cond.methodLink RX1 15 yX1_likeLines, Cond.instanceMethod yX1_likeLines, Cond.selects RX1 yX1_likeLines yX1_likeLines, Cond.code yX1_likeLines cX1_likeLines 5 (some .int), Cond.fieldLink RX1 9 "FewLooks$Net" "joins" "[I", Cond.methodLink RX1 19 yX1_alikeTo, Cond.static yX1_alikeTo, Cond.code yX1_alikeTo cX1_alikeTo 2 (some .int), Cond.methodLink RX1 22 yJ6_bitCount_0f7a4]
def wsX4_firstFailingPair : List Cond := .code yX4_firstFailingPair cX4_firstFailingPair 4 (some .int) :: ((wsX4_firstFailingPair_r1 ++ (wsX4_firstFailingPair_r2 ++ wsX4_firstFailingPair_r3)) ++ wsX40 ++ wsX20 ++ wsX30 ++ wsX10)
def wsX4_witness_r1 : List Cond := [Cond.methodLink RX4 150 yX4_firstFailingSet, Cond.instanceMethod yX4_firstFailingSet, Cond.selects RX4 yX4_firstFailingSet yX4_firstFailingSet, Cond.initialized RX4, Cond.code yX4_firstFailingSet cX4_firstFailingSet 2 (some .int), Cond.methodLink RX4 144 yX4_isLook, Cond.instanceMethod yX4_isLook, Cond.selects RX4 yX4_isLook yX4_isLook, Cond.code yX4_isLook cX4_isLook 4 (some .boolean), Cond.fieldLink RX4 40 "FewLooks" "drawn" "I", Cond.methodLink RX4 55 yX4_isPlace, Cond.instanceMethod yX4_isPlace, Cond.selects RX4 yX4_isPlace yX4_isPlace, Cond.code yX4_isPlace cX4_isPlace 2 (some .boolean), Cond.fieldLink RX4 10 "FewLooks" "row" "LFewLooks$Row;", Cond.methodLink RX4 44 yX4_within, Cond.static yX4_within, Cond.code yX4_within cX4_within 3 (some .boolean), Cond.methodLink RX4 63 yX4_isEntry, Cond.static yX4_isEntry, Cond.code yX4_isEntry cX4_isEntry 1 (some .boolean), Cond.methodLink RX4 159 yJ6_bitCount_0f7a4, Cond.static yJ6_bitCount_0f7a4, Cond.initialized RJ6]
def wsX4_witness_r2 : List Cond := [Cond.code yJ6_bitCount_0f7a4 cJ6_bitCount_0f7a4 1 (some .int), Cond.constant RJ6 265 (1431655765), Cond.constant RJ6 266 (858993459), Cond.constant RJ6 267 (252645135), Cond.methodLink RX4 147 yX4_fails, Cond.instanceMethod yX4_fails, Cond.selects RX4 yX4_fails yX4_fails, Cond.code yX4_fails cX4_fails 4 (some .boolean), Cond.fieldLink RX4 29 "FewLooks" "table" "LFewLooks$Table;", Cond.fieldLink RX4 36 "FewLooks" "net" "LFewLooks$Net;", Cond.methodLink RX4 179 yX3_agrees, Cond.instanceMethod yX3_agrees, Cond.selects RX3 yX3_agrees yX3_agrees, Cond.initialized RX3, Cond.code yX3_agrees cX3_agrees 3 (some .boolean), Cond.methodLink RX3 27 yX3_at, Cond.instanceMethod yX3_at, Cond.selects RX3 yX3_at yX3_at, Cond.code yX3_at cX3_at 2 (some .int), Cond.fieldLink RX3 9 "FewLooks$Table" "bits" "I", Cond.methodLink RX4 183 yX1_twoColoured, Cond.instanceMethod yX1_twoColoured, Cond.selects RX1 yX1_twoColoured yX1_twoColoured, Cond.initialized RX1]
def wsX4_witness_r3 : List Cond := [Cond.code yX1_twoColoured cX1_twoColoured 2 (some .boolean), Cond.methodLink RX1 28 yX1_bestColouringOf, Cond.instanceMethod yX1_bestColouringOf, Cond.selects RX1 yX1_bestColouringOf yX1_bestColouringOf, Cond.code yX1_bestColouringOf cX1_bestColouringOf 6 (some .int), Cond.methodLink RX1 15 yX1_likeLines, Cond.instanceMethod yX1_likeLines, Cond.selects RX1 yX1_likeLines yX1_likeLines, Cond.code yX1_likeLines cX1_likeLines 5 (some .int), Cond.fieldLink RX1 9 "FewLooks$Net" "joins" "[I", Cond.methodLink RX1 19 yX1_alikeTo, Cond.static yX1_alikeTo, Cond.code yX1_alikeTo cX1_alikeTo 2 (some .int), Cond.methodLink RX1 22 yJ6_bitCount_0f7a4, Cond.methodLink RX4 153 yX4_firstFailingPair, Cond.instanceMethod yX4_firstFailingPair, Cond.selects RX4 yX4_firstFailingPair yX4_firstFailingPair, Cond.code yX4_firstFailingPair cX4_firstFailingPair 4 (some .int)]
def wsX4_witness : List Cond := .code yX4_witness cX4_witness 2 (some .int) :: ((wsX4_witness_r1 ++ (wsX4_witness_r2 ++ wsX4_witness_r3)) ++ wsX40 ++ wsX20 ++ wsX30 ++ wsX10)
def wsX4_count_r1 : List Cond := [Cond.fieldLink RX4 10 "FewLooks" "row" "LFewLooks$Row;", Cond.fieldLink RX4 40 "FewLooks" "drawn" "I", Cond.fieldLink RX4 36 "FewLooks" "net" "LFewLooks$Net;", Cond.fieldLink RX4 29 "FewLooks" "table" "LFewLooks$Table;", Cond.methodLink RX4 156 yX1_lines, Cond.instanceMethod yX1_lines, Cond.selects RX1 yX1_lines yX1_lines, Cond.initialized RX1, Cond.code yX1_lines cX1_lines 1 (some .int), Cond.methodLink RX1 15 yX1_likeLines, Cond.instanceMethod yX1_likeLines, Cond.selects RX1 yX1_likeLines yX1_likeLines, Cond.code yX1_likeLines cX1_likeLines 5 (some .int), Cond.fieldLink RX1 9 "FewLooks$Net" "joins" "[I", Cond.methodLink RX1 19 yX1_alikeTo, Cond.static yX1_alikeTo, Cond.code yX1_alikeTo cX1_alikeTo 2 (some .int), Cond.methodLink RX1 22 yJ6_bitCount_0f7a4, Cond.static yJ6_bitCount_0f7a4, Cond.initialized RJ6, Cond.code yJ6_bitCount_0f7a4 cJ6_bitCount_0f7a4 1 (some .int), Cond.constant RJ6 265 (1431655765), Cond.constant RJ6 266 (858993459), Cond.constant RJ6 267 (252645135)]
def wsX4_count_r2 : List Cond := [Cond.methodLink RX4 159 yJ6_bitCount_0f7a4, Cond.methodLink RX4 164 yX2_total, Cond.instanceMethod yX2_total, Cond.selects RX2 yX2_total yX2_total, Cond.initialized RX2, Cond.code yX2_total cX2_total 3 (some .int), Cond.fieldLink RX2 15 "FewLooks$Row" "size" "I", Cond.fieldLink RX2 9 "FewLooks$Row" "digits" "[I"]
def wsX4_count : List Cond := .code yX4_count cX4_count 2 (some .int) :: ((wsX4_count_r1 ++ wsX4_count_r2) ++ wsX40 ++ wsX20 ++ wsX30 ++ wsX10)
def wsX5_init : List Cond := .code yX5_init cX5_init 1 none :: ([.methodLink RX5 1 objectInit, .instanceMethod objectInit, .code objectInit ⟨#[0xb1]⟩ 1 none, .fieldLink RX5 7 "FewLooksModel" "n" "I", .arrayClass .int, .fieldLink RX5 13 "FewLooksModel" "row" "[I", .fieldLink RX5 17 "FewLooksModel" "table" "[I", .fieldLink RX5 20 "FewLooksModel" "joined" "[I", .fieldLink RX5 23 "FewLooksModel" "k" "I", .fieldLink RX5 26 "FewLooksModel" "it" "[I", .fieldLink RX5 29 "FewLooksModel" "rise" "[I"] ++ wsX50)
def wsX5_in : List Cond := .code yX5_in cX5_in 3 (some .boolean) :: ([])
def wsX5_ones : List Cond := .code yX5_ones cX5_ones 3 (some .int) :: ([])
def wsX5_isSubject : List Cond := .code yX5_isSubject cX5_isSubject 1 (some .boolean) :: ([.methodLink RX5 32 yX5_in, .static yX5_in, .initialized RX5, .code yX5_in cX5_in 3 (some .boolean)])
def wsX5_isPlace : List Cond := .code yX5_isPlace cX5_isPlace 2 (some .boolean) :: ([.fieldLink RX5 7 "FewLooksModel" "n" "I", .methodLink RX5 32 yX5_in, .static yX5_in, .initialized RX5, .code yX5_in cX5_in 3 (some .boolean)] ++ wsX50)
def wsX5_isEight : List Cond := .code yX5_isEight cX5_isEight 1 (some .boolean) :: ([.methodLink RX5 32 yX5_in, .static yX5_in, .initialized RX5, .code yX5_in cX5_in 3 (some .boolean)])
def wsX5_isBit : List Cond := .code yX5_isBit cX5_isBit 1 (some .boolean) :: ([.methodLink RX5 32 yX5_in, .static yX5_in, .initialized RX5, .code yX5_in cX5_in 3 (some .boolean)])
def wsX5_places : List Cond := .code yX5_places cX5_places 4 (some .int) :: ([.fieldLink RX5 7 "FewLooksModel" "n" "I", .fieldLink RX5 13 "FewLooksModel" "row" "[I", .methodLink RX5 32 yX5_in, .static yX5_in, .initialized RX5, .code yX5_in cX5_in 3 (some .boolean)] ++ wsX50)
def wsX5_digit : List Cond := .code yX5_digit cX5_digit 4 (some .int) :: ([.fieldLink RX5 13 "FewLooksModel" "row" "[I", .methodLink RX5 36 yX5_isPlace, .instanceMethod yX5_isPlace, .selects RX5 yX5_isPlace yX5_isPlace, .initialized RX5, .code yX5_isPlace cX5_isPlace 2 (some .boolean), .fieldLink RX5 7 "FewLooksModel" "n" "I", .methodLink RX5 32 yX5_in, .static yX5_in, .code yX5_in cX5_in 3 (some .boolean)] ++ wsX50)
def wsX5_bit : List Cond := .code yX5_bit cX5_bit 4 (some .int) :: ([.fieldLink RX5 17 "FewLooksModel" "table" "[I", .methodLink RX5 40 yX5_isEight, .static yX5_isEight, .initialized RX5, .code yX5_isEight cX5_isEight 1 (some .boolean), .methodLink RX5 32 yX5_in, .static yX5_in, .code yX5_in cX5_in 3 (some .boolean), .methodLink RX5 43 yX5_isBit, .static yX5_isBit, .code yX5_isBit cX5_isBit 1 (some .boolean)] ++ wsX50)
def wsX5_parity : List Cond := .code yX5_parity cX5_parity 2 (some .int) :: ([.methodLink RX5 46 yX5_ones, .static yX5_ones, .initialized RX5, .code yX5_ones cX5_ones 3 (some .int)])
def wsX5_linear : List Cond := .code yX5_linear cX5_linear 3 (some .int) :: ([.fieldLink RX5 17 "FewLooksModel" "table" "[I", .methodLink RX5 40 yX5_isEight, .static yX5_isEight, .initialized RX5, .code yX5_isEight cX5_isEight 1 (some .boolean), .methodLink RX5 32 yX5_in, .static yX5_in, .code yX5_in cX5_in 3 (some .boolean), .methodLink RX5 50 yX5_parity, .static yX5_parity, .code yX5_parity cX5_parity 2 (some .int), .methodLink RX5 46 yX5_ones, .static yX5_ones, .code yX5_ones cX5_ones 3 (some .int)] ++ wsX50)
def wsX5_isPoint : List Cond := .code yX5_isPoint cX5_isPoint 1 (some .boolean) :: ([.methodLink RX5 32 yX5_in, .static yX5_in, .initialized RX5, .code yX5_in cX5_in 3 (some .boolean)])
def wsX5_line : List Cond := .code yX5_line cX5_line 5 (some .int) :: ([.fieldLink RX5 20 "FewLooksModel" "joined" "[I", .methodLink RX5 54 yX5_isPoint, .static yX5_isPoint, .initialized RX5, .code yX5_isPoint cX5_isPoint 1 (some .boolean), .methodLink RX5 32 yX5_in, .static yX5_in, .code yX5_in cX5_in 3 (some .boolean)] ++ wsX50)
def wsX5_draw : List Cond := .code yX5_draw cX5_draw 3 (some .int) :: ([.fieldLink RX5 23 "FewLooksModel" "k" "I", .methodLink RX5 32 yX5_in, .static yX5_in, .initialized RX5, .code yX5_in cX5_in 3 (some .boolean)] ++ wsX50)
def wsX5_takeRow : List Cond := .code yX5_takeRow cX5_takeRow 2 none :: ([.fieldLink RX5 7 "FewLooksModel" "n" "I", .fieldLink RX5 26 "FewLooksModel" "it" "[I", .fieldLink RX5 13 "FewLooksModel" "row" "[I"] ++ wsX50)
def wsX5_fromRising : List Cond := .code yX5_fromRising cX5_fromRising 4 (some .int) :: ([.fieldLink RX5 7 "FewLooksModel" "n" "I", .fieldLink RX5 29 "FewLooksModel" "rise" "[I", .fieldLink RX5 26 "FewLooksModel" "it" "[I"] ++ wsX50)
def wsX5_fromMirrored : List Cond := .code yX5_fromMirrored cX5_fromMirrored 3 (some .int) :: ([.fieldLink RX5 7 "FewLooksModel" "n" "I", .fieldLink RX5 26 "FewLooksModel" "it" "[I"] ++ wsX50)
def wsX5_fromEven : List Cond := .code yX5_fromEven cX5_fromEven 3 (some .int) :: ([.fieldLink RX5 7 "FewLooksModel" "n" "I", .fieldLink RX5 26 "FewLooksModel" "it" "[I"] ++ wsX50)
def wsX5_fromShift : List Cond := .code yX5_fromShift cX5_fromShift 10 (some .int) :: ([.fieldLink RX5 7 "FewLooksModel" "n" "I", .fieldLink RX5 26 "FewLooksModel" "it" "[I"] ++ wsX50)
def wsX5_fromRound : List Cond := .code yX5_fromRound cX5_fromRound 4 (some .int) :: ([.fieldLink RX5 7 "FewLooksModel" "n" "I", .methodLink RX5 57 yX5_fromShift, .instanceMethod yX5_fromShift, .selects RX5 yX5_fromShift yX5_fromShift, .initialized RX5, .code yX5_fromShift cX5_fromShift 10 (some .int), .fieldLink RX5 26 "FewLooksModel" "it" "[I"] ++ wsX50)
def wsX5_fromKind : List Cond := .code yX5_fromKind cX5_fromKind 2 (some .int) :: ([.methodLink RX5 60 yX5_fromRising, .instanceMethod yX5_fromRising, .selects RX5 yX5_fromRising yX5_fromRising, .initialized RX5, .code yX5_fromRising cX5_fromRising 4 (some .int), .fieldLink RX5 7 "FewLooksModel" "n" "I", .fieldLink RX5 29 "FewLooksModel" "rise" "[I", .fieldLink RX5 26 "FewLooksModel" "it" "[I", .methodLink RX5 64 yX5_fromMirrored, .instanceMethod yX5_fromMirrored, .selects RX5 yX5_fromMirrored yX5_fromMirrored, .code yX5_fromMirrored cX5_fromMirrored 3 (some .int), .methodLink RX5 67 yX5_fromEven, .instanceMethod yX5_fromEven, .selects RX5 yX5_fromEven yX5_fromEven, .code yX5_fromEven cX5_fromEven 3 (some .int), .methodLink RX5 70 yX5_fromRound, .instanceMethod yX5_fromRound, .selects RX5 yX5_fromRound yX5_fromRound, .code yX5_fromRound cX5_fromRound 4 (some .int), .methodLink RX5 57 yX5_fromShift, .instanceMethod yX5_fromShift, .selects RX5 yX5_fromShift yX5_fromShift, .code yX5_fromShift cX5_fromShift 10 (some .int)] ++ wsX50)
def wsX5_rowDistance_r1 : List Cond := [Cond.methodLink RX5 73 yX5_takeRow, Cond.instanceMethod yX5_takeRow, Cond.selects RX5 yX5_takeRow yX5_takeRow, Cond.initialized RX5, Cond.code yX5_takeRow cX5_takeRow 2 none, Cond.fieldLink RX5 7 "FewLooksModel" "n" "I", Cond.fieldLink RX5 26 "FewLooksModel" "it" "[I", Cond.fieldLink RX5 13 "FewLooksModel" "row" "[I", Cond.methodLink RX5 76 yX5_fromKind, Cond.instanceMethod yX5_fromKind, Cond.selects RX5 yX5_fromKind yX5_fromKind, Cond.code yX5_fromKind cX5_fromKind 2 (some .int), Cond.methodLink RX5 60 yX5_fromRising, Cond.instanceMethod yX5_fromRising, Cond.selects RX5 yX5_fromRising yX5_fromRising, Cond.code yX5_fromRising cX5_fromRising 4 (some .int), Cond.fieldLink RX5 29 "FewLooksModel" "rise" "[I", Cond.methodLink RX5 64 yX5_fromMirrored, Cond.instanceMethod yX5_fromMirrored, Cond.selects RX5 yX5_fromMirrored yX5_fromMirrored, Cond.code yX5_fromMirrored cX5_fromMirrored 3 (some .int), Cond.methodLink RX5 67 yX5_fromEven, Cond.instanceMethod yX5_fromEven, Cond.selects RX5 yX5_fromEven yX5_fromEven]
def wsX5_rowDistance_r2 : List Cond := [Cond.code yX5_fromEven cX5_fromEven 3 (some .int), Cond.methodLink RX5 70 yX5_fromRound, Cond.instanceMethod yX5_fromRound, Cond.selects RX5 yX5_fromRound yX5_fromRound, Cond.code yX5_fromRound cX5_fromRound 4 (some .int), Cond.methodLink RX5 57 yX5_fromShift, Cond.instanceMethod yX5_fromShift, Cond.selects RX5 yX5_fromShift yX5_fromShift, Cond.code yX5_fromShift cX5_fromShift 10 (some .int)]
def wsX5_rowDistance : List Cond := .code yX5_rowDistance cX5_rowDistance 2 (some .int) :: ((wsX5_rowDistance_r1 ++ wsX5_rowDistance_r2) ++ wsX50)
def wsX5_findNearest_r1 : List Cond := [Cond.fieldLink RX5 7 "FewLooksModel" "n" "I", Cond.fieldLink RX5 26 "FewLooksModel" "it" "[I", Cond.fieldLink RX5 13 "FewLooksModel" "row" "[I", Cond.methodLink RX5 79 yX5_rowDistance, Cond.instanceMethod yX5_rowDistance, Cond.selects RX5 yX5_rowDistance yX5_rowDistance, Cond.initialized RX5, Cond.code yX5_rowDistance cX5_rowDistance 2 (some .int), Cond.methodLink RX5 73 yX5_takeRow, Cond.instanceMethod yX5_takeRow, Cond.selects RX5 yX5_takeRow yX5_takeRow, Cond.code yX5_takeRow cX5_takeRow 2 none, Cond.methodLink RX5 76 yX5_fromKind, Cond.instanceMethod yX5_fromKind, Cond.selects RX5 yX5_fromKind yX5_fromKind, Cond.code yX5_fromKind cX5_fromKind 2 (some .int), Cond.methodLink RX5 60 yX5_fromRising, Cond.instanceMethod yX5_fromRising, Cond.selects RX5 yX5_fromRising yX5_fromRising, Cond.code yX5_fromRising cX5_fromRising 4 (some .int), Cond.fieldLink RX5 29 "FewLooksModel" "rise" "[I", Cond.methodLink RX5 64 yX5_fromMirrored, Cond.instanceMethod yX5_fromMirrored, Cond.selects RX5 yX5_fromMirrored yX5_fromMirrored]
def wsX5_findNearest_r2 : List Cond := [Cond.code yX5_fromMirrored cX5_fromMirrored 3 (some .int), Cond.methodLink RX5 67 yX5_fromEven, Cond.instanceMethod yX5_fromEven, Cond.selects RX5 yX5_fromEven yX5_fromEven, Cond.code yX5_fromEven cX5_fromEven 3 (some .int), Cond.methodLink RX5 70 yX5_fromRound, Cond.instanceMethod yX5_fromRound, Cond.selects RX5 yX5_fromRound yX5_fromRound, Cond.code yX5_fromRound cX5_fromRound 4 (some .int), Cond.methodLink RX5 57 yX5_fromShift, Cond.instanceMethod yX5_fromShift, Cond.selects RX5 yX5_fromShift yX5_fromShift, Cond.code yX5_fromShift cX5_fromShift 10 (some .int)]
def wsX5_findNearest : List Cond := .code yX5_findNearest cX5_findNearest 7 none :: ((wsX5_findNearest_r1 ++ wsX5_findNearest_r2) ++ wsX50)
def wsX5_tableFar : List Cond := .code yX5_tableFar cX5_tableFar 4 (some .int) :: ([.fieldLink RX5 17 "FewLooksModel" "table" "[I", .methodLink RX5 50 yX5_parity, .static yX5_parity, .initialized RX5, .code yX5_parity cX5_parity 2 (some .int), .methodLink RX5 46 yX5_ones, .static yX5_ones, .code yX5_ones cX5_ones 3 (some .int)] ++ wsX50)
def wsX5_nearestTable : List Cond := .code yX5_nearestTable cX5_nearestTable 3 (some .int) :: ([.methodLink RX5 82 yX5_tableFar, .instanceMethod yX5_tableFar, .selects RX5 yX5_tableFar yX5_tableFar, .initialized RX5, .code yX5_tableFar cX5_tableFar 4 (some .int), .fieldLink RX5 17 "FewLooksModel" "table" "[I", .methodLink RX5 50 yX5_parity, .static yX5_parity, .code yX5_parity cX5_parity 2 (some .int), .methodLink RX5 46 yX5_ones, .static yX5_ones, .code yX5_ones cX5_ones 3 (some .int)] ++ wsX50)
def wsX5_netFar : List Cond := .code yX5_netFar cX5_netFar 7 (some .int) :: ([.fieldLink RX5 20 "FewLooksModel" "joined" "[I"] ++ wsX50)
def wsX5_nearestNet : List Cond := .code yX5_nearestNet cX5_nearestNet 4 (some .int) :: ([.methodLink RX5 85 yX5_netFar, .instanceMethod yX5_netFar, .selects RX5 yX5_netFar yX5_netFar, .initialized RX5, .code yX5_netFar cX5_netFar 7 (some .int), .fieldLink RX5 20 "FewLooksModel" "joined" "[I"] ++ wsX50)
def wsX5_distanceOf_r1 : List Cond := [Cond.methodLink RX5 79 yX5_rowDistance, Cond.instanceMethod yX5_rowDistance, Cond.selects RX5 yX5_rowDistance yX5_rowDistance, Cond.initialized RX5, Cond.code yX5_rowDistance cX5_rowDistance 2 (some .int), Cond.methodLink RX5 73 yX5_takeRow, Cond.instanceMethod yX5_takeRow, Cond.selects RX5 yX5_takeRow yX5_takeRow, Cond.code yX5_takeRow cX5_takeRow 2 none, Cond.fieldLink RX5 7 "FewLooksModel" "n" "I", Cond.fieldLink RX5 26 "FewLooksModel" "it" "[I", Cond.fieldLink RX5 13 "FewLooksModel" "row" "[I", Cond.methodLink RX5 76 yX5_fromKind, Cond.instanceMethod yX5_fromKind, Cond.selects RX5 yX5_fromKind yX5_fromKind, Cond.code yX5_fromKind cX5_fromKind 2 (some .int), Cond.methodLink RX5 60 yX5_fromRising, Cond.instanceMethod yX5_fromRising, Cond.selects RX5 yX5_fromRising yX5_fromRising, Cond.code yX5_fromRising cX5_fromRising 4 (some .int), Cond.fieldLink RX5 29 "FewLooksModel" "rise" "[I", Cond.methodLink RX5 64 yX5_fromMirrored, Cond.instanceMethod yX5_fromMirrored, Cond.selects RX5 yX5_fromMirrored yX5_fromMirrored]
def wsX5_distanceOf_r2 : List Cond := [Cond.code yX5_fromMirrored cX5_fromMirrored 3 (some .int), Cond.methodLink RX5 67 yX5_fromEven, Cond.instanceMethod yX5_fromEven, Cond.selects RX5 yX5_fromEven yX5_fromEven, Cond.code yX5_fromEven cX5_fromEven 3 (some .int), Cond.methodLink RX5 70 yX5_fromRound, Cond.instanceMethod yX5_fromRound, Cond.selects RX5 yX5_fromRound yX5_fromRound, Cond.code yX5_fromRound cX5_fromRound 4 (some .int), Cond.methodLink RX5 57 yX5_fromShift, Cond.instanceMethod yX5_fromShift, Cond.selects RX5 yX5_fromShift yX5_fromShift, Cond.code yX5_fromShift cX5_fromShift 10 (some .int), Cond.methodLink RX5 88 yX5_nearestTable, Cond.instanceMethod yX5_nearestTable, Cond.selects RX5 yX5_nearestTable yX5_nearestTable, Cond.code yX5_nearestTable cX5_nearestTable 3 (some .int), Cond.methodLink RX5 82 yX5_tableFar, Cond.instanceMethod yX5_tableFar, Cond.selects RX5 yX5_tableFar yX5_tableFar, Cond.code yX5_tableFar cX5_tableFar 4 (some .int), Cond.fieldLink RX5 17 "FewLooksModel" "table" "[I", Cond.methodLink RX5 50 yX5_parity, Cond.static yX5_parity]
def wsX5_distanceOf_r3 : List Cond := [Cond.code yX5_parity cX5_parity 2 (some .int), Cond.methodLink RX5 46 yX5_ones, Cond.static yX5_ones, Cond.code yX5_ones cX5_ones 3 (some .int), Cond.methodLink RX5 91 yX5_nearestNet, Cond.instanceMethod yX5_nearestNet, Cond.selects RX5 yX5_nearestNet yX5_nearestNet, Cond.code yX5_nearestNet cX5_nearestNet 4 (some .int), Cond.methodLink RX5 85 yX5_netFar, Cond.instanceMethod yX5_netFar, Cond.selects RX5 yX5_netFar yX5_netFar, Cond.code yX5_netFar cX5_netFar 7 (some .int), Cond.fieldLink RX5 20 "FewLooksModel" "joined" "[I"]
def wsX5_distanceOf : List Cond := .code yX5_distanceOf cX5_distanceOf 2 (some .int) :: ((wsX5_distanceOf_r1 ++ (wsX5_distanceOf_r2 ++ wsX5_distanceOf_r3)) ++ wsX50)
def wsX5_is_r1 : List Cond := [Cond.methodLink RX5 94 yX5_isSubject, Cond.static yX5_isSubject, Cond.initialized RX5, Cond.code yX5_isSubject cX5_isSubject 1 (some .boolean), Cond.methodLink RX5 32 yX5_in, Cond.static yX5_in, Cond.code yX5_in cX5_in 3 (some .boolean), Cond.methodLink RX5 97 yX5_distanceOf, Cond.instanceMethod yX5_distanceOf, Cond.selects RX5 yX5_distanceOf yX5_distanceOf, Cond.code yX5_distanceOf cX5_distanceOf 2 (some .int), Cond.methodLink RX5 79 yX5_rowDistance, Cond.instanceMethod yX5_rowDistance, Cond.selects RX5 yX5_rowDistance yX5_rowDistance, Cond.code yX5_rowDistance cX5_rowDistance 2 (some .int), Cond.methodLink RX5 73 yX5_takeRow, Cond.instanceMethod yX5_takeRow, Cond.selects RX5 yX5_takeRow yX5_takeRow, Cond.code yX5_takeRow cX5_takeRow 2 none, Cond.fieldLink RX5 7 "FewLooksModel" "n" "I", Cond.fieldLink RX5 26 "FewLooksModel" "it" "[I", Cond.fieldLink RX5 13 "FewLooksModel" "row" "[I", Cond.methodLink RX5 76 yX5_fromKind, Cond.instanceMethod yX5_fromKind]
def wsX5_is_r2 : List Cond := [Cond.selects RX5 yX5_fromKind yX5_fromKind, Cond.code yX5_fromKind cX5_fromKind 2 (some .int), Cond.methodLink RX5 60 yX5_fromRising, Cond.instanceMethod yX5_fromRising, Cond.selects RX5 yX5_fromRising yX5_fromRising, Cond.code yX5_fromRising cX5_fromRising 4 (some .int), Cond.fieldLink RX5 29 "FewLooksModel" "rise" "[I", Cond.methodLink RX5 64 yX5_fromMirrored, Cond.instanceMethod yX5_fromMirrored, Cond.selects RX5 yX5_fromMirrored yX5_fromMirrored, Cond.code yX5_fromMirrored cX5_fromMirrored 3 (some .int), Cond.methodLink RX5 67 yX5_fromEven, Cond.instanceMethod yX5_fromEven, Cond.selects RX5 yX5_fromEven yX5_fromEven, Cond.code yX5_fromEven cX5_fromEven 3 (some .int), Cond.methodLink RX5 70 yX5_fromRound, Cond.instanceMethod yX5_fromRound, Cond.selects RX5 yX5_fromRound yX5_fromRound, Cond.code yX5_fromRound cX5_fromRound 4 (some .int), Cond.methodLink RX5 57 yX5_fromShift, Cond.instanceMethod yX5_fromShift, Cond.selects RX5 yX5_fromShift yX5_fromShift, Cond.code yX5_fromShift cX5_fromShift 10 (some .int), Cond.methodLink RX5 88 yX5_nearestTable]
def wsX5_is_r3 : List Cond := [Cond.instanceMethod yX5_nearestTable, Cond.selects RX5 yX5_nearestTable yX5_nearestTable, Cond.code yX5_nearestTable cX5_nearestTable 3 (some .int), Cond.methodLink RX5 82 yX5_tableFar, Cond.instanceMethod yX5_tableFar, Cond.selects RX5 yX5_tableFar yX5_tableFar, Cond.code yX5_tableFar cX5_tableFar 4 (some .int), Cond.fieldLink RX5 17 "FewLooksModel" "table" "[I", Cond.methodLink RX5 50 yX5_parity, Cond.static yX5_parity, Cond.code yX5_parity cX5_parity 2 (some .int), Cond.methodLink RX5 46 yX5_ones, Cond.static yX5_ones, Cond.code yX5_ones cX5_ones 3 (some .int), Cond.methodLink RX5 91 yX5_nearestNet, Cond.instanceMethod yX5_nearestNet, Cond.selects RX5 yX5_nearestNet yX5_nearestNet, Cond.code yX5_nearestNet cX5_nearestNet 4 (some .int), Cond.methodLink RX5 85 yX5_netFar, Cond.instanceMethod yX5_netFar, Cond.selects RX5 yX5_netFar yX5_netFar, Cond.code yX5_netFar cX5_netFar 7 (some .int), Cond.fieldLink RX5 20 "FewLooksModel" "joined" "[I"]
def wsX5_is : List Cond := .code yX5_is cX5_is 2 (some .int) :: ((wsX5_is_r1 ++ (wsX5_is_r2 ++ wsX5_is_r3)) ++ wsX50)
def wsX5_distance_r1 : List Cond := [Cond.methodLink RX5 94 yX5_isSubject, Cond.static yX5_isSubject, Cond.initialized RX5, Cond.code yX5_isSubject cX5_isSubject 1 (some .boolean), Cond.methodLink RX5 32 yX5_in, Cond.static yX5_in, Cond.code yX5_in cX5_in 3 (some .boolean), Cond.methodLink RX5 97 yX5_distanceOf, Cond.instanceMethod yX5_distanceOf, Cond.selects RX5 yX5_distanceOf yX5_distanceOf, Cond.code yX5_distanceOf cX5_distanceOf 2 (some .int), Cond.methodLink RX5 79 yX5_rowDistance, Cond.instanceMethod yX5_rowDistance, Cond.selects RX5 yX5_rowDistance yX5_rowDistance, Cond.code yX5_rowDistance cX5_rowDistance 2 (some .int), Cond.methodLink RX5 73 yX5_takeRow, Cond.instanceMethod yX5_takeRow, Cond.selects RX5 yX5_takeRow yX5_takeRow, Cond.code yX5_takeRow cX5_takeRow 2 none, Cond.fieldLink RX5 7 "FewLooksModel" "n" "I", Cond.fieldLink RX5 26 "FewLooksModel" "it" "[I", Cond.fieldLink RX5 13 "FewLooksModel" "row" "[I", Cond.methodLink RX5 76 yX5_fromKind, Cond.instanceMethod yX5_fromKind]
def wsX5_distance_r2 : List Cond := [Cond.selects RX5 yX5_fromKind yX5_fromKind, Cond.code yX5_fromKind cX5_fromKind 2 (some .int), Cond.methodLink RX5 60 yX5_fromRising, Cond.instanceMethod yX5_fromRising, Cond.selects RX5 yX5_fromRising yX5_fromRising, Cond.code yX5_fromRising cX5_fromRising 4 (some .int), Cond.fieldLink RX5 29 "FewLooksModel" "rise" "[I", Cond.methodLink RX5 64 yX5_fromMirrored, Cond.instanceMethod yX5_fromMirrored, Cond.selects RX5 yX5_fromMirrored yX5_fromMirrored, Cond.code yX5_fromMirrored cX5_fromMirrored 3 (some .int), Cond.methodLink RX5 67 yX5_fromEven, Cond.instanceMethod yX5_fromEven, Cond.selects RX5 yX5_fromEven yX5_fromEven, Cond.code yX5_fromEven cX5_fromEven 3 (some .int), Cond.methodLink RX5 70 yX5_fromRound, Cond.instanceMethod yX5_fromRound, Cond.selects RX5 yX5_fromRound yX5_fromRound, Cond.code yX5_fromRound cX5_fromRound 4 (some .int), Cond.methodLink RX5 57 yX5_fromShift, Cond.instanceMethod yX5_fromShift, Cond.selects RX5 yX5_fromShift yX5_fromShift, Cond.code yX5_fromShift cX5_fromShift 10 (some .int), Cond.methodLink RX5 88 yX5_nearestTable]
def wsX5_distance_r3 : List Cond := [Cond.instanceMethod yX5_nearestTable, Cond.selects RX5 yX5_nearestTable yX5_nearestTable, Cond.code yX5_nearestTable cX5_nearestTable 3 (some .int), Cond.methodLink RX5 82 yX5_tableFar, Cond.instanceMethod yX5_tableFar, Cond.selects RX5 yX5_tableFar yX5_tableFar, Cond.code yX5_tableFar cX5_tableFar 4 (some .int), Cond.fieldLink RX5 17 "FewLooksModel" "table" "[I", Cond.methodLink RX5 50 yX5_parity, Cond.static yX5_parity, Cond.code yX5_parity cX5_parity 2 (some .int), Cond.methodLink RX5 46 yX5_ones, Cond.static yX5_ones, Cond.code yX5_ones cX5_ones 3 (some .int), Cond.methodLink RX5 91 yX5_nearestNet, Cond.instanceMethod yX5_nearestNet, Cond.selects RX5 yX5_nearestNet yX5_nearestNet, Cond.code yX5_nearestNet cX5_nearestNet 4 (some .int), Cond.methodLink RX5 85 yX5_netFar, Cond.instanceMethod yX5_netFar, Cond.selects RX5 yX5_netFar yX5_netFar, Cond.code yX5_netFar cX5_netFar 7 (some .int), Cond.fieldLink RX5 20 "FewLooksModel" "joined" "[I"]
def wsX5_distance : List Cond := .code yX5_distance cX5_distance 2 (some .int) :: ((wsX5_distance_r1 ++ (wsX5_distance_r2 ++ wsX5_distance_r3)) ++ wsX50)
def wsX5_nearest_r1 : List Cond := [Cond.fieldLink RX5 26 "FewLooksModel" "it" "[I", Cond.methodLink RX5 94 yX5_isSubject, Cond.static yX5_isSubject, Cond.initialized RX5, Cond.code yX5_isSubject cX5_isSubject 1 (some .boolean), Cond.methodLink RX5 32 yX5_in, Cond.static yX5_in, Cond.code yX5_in cX5_in 3 (some .boolean), Cond.methodLink RX5 36 yX5_isPlace, Cond.instanceMethod yX5_isPlace, Cond.selects RX5 yX5_isPlace yX5_isPlace, Cond.code yX5_isPlace cX5_isPlace 2 (some .boolean), Cond.fieldLink RX5 7 "FewLooksModel" "n" "I", Cond.methodLink RX5 100 yX5_findNearest, Cond.instanceMethod yX5_findNearest, Cond.selects RX5 yX5_findNearest yX5_findNearest, Cond.code yX5_findNearest cX5_findNearest 7 none, Cond.fieldLink RX5 13 "FewLooksModel" "row" "[I", Cond.methodLink RX5 79 yX5_rowDistance, Cond.instanceMethod yX5_rowDistance, Cond.selects RX5 yX5_rowDistance yX5_rowDistance, Cond.code yX5_rowDistance cX5_rowDistance 2 (some .int), Cond.methodLink RX5 73 yX5_takeRow, Cond.instanceMethod yX5_takeRow]
def wsX5_nearest_r2 : List Cond := [Cond.selects RX5 yX5_takeRow yX5_takeRow, Cond.code yX5_takeRow cX5_takeRow 2 none, Cond.methodLink RX5 76 yX5_fromKind, Cond.instanceMethod yX5_fromKind, Cond.selects RX5 yX5_fromKind yX5_fromKind, Cond.code yX5_fromKind cX5_fromKind 2 (some .int), Cond.methodLink RX5 60 yX5_fromRising, Cond.instanceMethod yX5_fromRising, Cond.selects RX5 yX5_fromRising yX5_fromRising, Cond.code yX5_fromRising cX5_fromRising 4 (some .int), Cond.fieldLink RX5 29 "FewLooksModel" "rise" "[I", Cond.methodLink RX5 64 yX5_fromMirrored, Cond.instanceMethod yX5_fromMirrored, Cond.selects RX5 yX5_fromMirrored yX5_fromMirrored, Cond.code yX5_fromMirrored cX5_fromMirrored 3 (some .int), Cond.methodLink RX5 67 yX5_fromEven, Cond.instanceMethod yX5_fromEven, Cond.selects RX5 yX5_fromEven yX5_fromEven, Cond.code yX5_fromEven cX5_fromEven 3 (some .int), Cond.methodLink RX5 70 yX5_fromRound, Cond.instanceMethod yX5_fromRound, Cond.selects RX5 yX5_fromRound yX5_fromRound, Cond.code yX5_fromRound cX5_fromRound 4 (some .int), Cond.methodLink RX5 57 yX5_fromShift]
def wsX5_nearest_r3 : List Cond := [Cond.instanceMethod yX5_fromShift, Cond.selects RX5 yX5_fromShift yX5_fromShift, Cond.code yX5_fromShift cX5_fromShift 10 (some .int), Cond.methodLink RX5 88 yX5_nearestTable, Cond.instanceMethod yX5_nearestTable, Cond.selects RX5 yX5_nearestTable yX5_nearestTable, Cond.code yX5_nearestTable cX5_nearestTable 3 (some .int), Cond.methodLink RX5 82 yX5_tableFar, Cond.instanceMethod yX5_tableFar, Cond.selects RX5 yX5_tableFar yX5_tableFar, Cond.code yX5_tableFar cX5_tableFar 4 (some .int), Cond.fieldLink RX5 17 "FewLooksModel" "table" "[I", Cond.methodLink RX5 50 yX5_parity, Cond.static yX5_parity, Cond.code yX5_parity cX5_parity 2 (some .int), Cond.methodLink RX5 46 yX5_ones, Cond.static yX5_ones, Cond.code yX5_ones cX5_ones 3 (some .int), Cond.methodLink RX5 91 yX5_nearestNet, Cond.instanceMethod yX5_nearestNet, Cond.selects RX5 yX5_nearestNet yX5_nearestNet, Cond.code yX5_nearestNet cX5_nearestNet 4 (some .int), Cond.methodLink RX5 85 yX5_netFar, Cond.instanceMethod yX5_netFar]
def wsX5_nearest_r4 : List Cond := [Cond.selects RX5 yX5_netFar yX5_netFar, Cond.code yX5_netFar cX5_netFar 7 (some .int), Cond.fieldLink RX5 20 "FewLooksModel" "joined" "[I"]
def wsX5_nearest : List Cond := .code yX5_nearest cX5_nearest 3 (some .int) :: ((wsX5_nearest_r1 ++ (wsX5_nearest_r2 ++ (wsX5_nearest_r3 ++ wsX5_nearest_r4))) ++ wsX50)
def wsX5_mend_r1 : List Cond := [Cond.fieldLink RX5 7 "FewLooksModel" "n" "I", Cond.fieldLink RX5 13 "FewLooksModel" "row" "[I", Cond.fieldLink RX5 26 "FewLooksModel" "it" "[I", Cond.fieldLink RX5 20 "FewLooksModel" "joined" "[I", Cond.methodLink RX5 94 yX5_isSubject, Cond.static yX5_isSubject, Cond.initialized RX5, Cond.code yX5_isSubject cX5_isSubject 1 (some .boolean), Cond.methodLink RX5 32 yX5_in, Cond.static yX5_in, Cond.code yX5_in cX5_in 3 (some .boolean), Cond.methodLink RX5 97 yX5_distanceOf, Cond.instanceMethod yX5_distanceOf, Cond.selects RX5 yX5_distanceOf yX5_distanceOf, Cond.code yX5_distanceOf cX5_distanceOf 2 (some .int), Cond.methodLink RX5 79 yX5_rowDistance, Cond.instanceMethod yX5_rowDistance, Cond.selects RX5 yX5_rowDistance yX5_rowDistance, Cond.code yX5_rowDistance cX5_rowDistance 2 (some .int), Cond.methodLink RX5 73 yX5_takeRow, Cond.instanceMethod yX5_takeRow, Cond.selects RX5 yX5_takeRow yX5_takeRow, Cond.code yX5_takeRow cX5_takeRow 2 none, Cond.methodLink RX5 76 yX5_fromKind]
def wsX5_mend_r2 : List Cond := [Cond.instanceMethod yX5_fromKind, Cond.selects RX5 yX5_fromKind yX5_fromKind, Cond.code yX5_fromKind cX5_fromKind 2 (some .int), Cond.methodLink RX5 60 yX5_fromRising, Cond.instanceMethod yX5_fromRising, Cond.selects RX5 yX5_fromRising yX5_fromRising, Cond.code yX5_fromRising cX5_fromRising 4 (some .int), Cond.fieldLink RX5 29 "FewLooksModel" "rise" "[I", Cond.methodLink RX5 64 yX5_fromMirrored, Cond.instanceMethod yX5_fromMirrored, Cond.selects RX5 yX5_fromMirrored yX5_fromMirrored, Cond.code yX5_fromMirrored cX5_fromMirrored 3 (some .int), Cond.methodLink RX5 67 yX5_fromEven, Cond.instanceMethod yX5_fromEven, Cond.selects RX5 yX5_fromEven yX5_fromEven, Cond.code yX5_fromEven cX5_fromEven 3 (some .int), Cond.methodLink RX5 70 yX5_fromRound, Cond.instanceMethod yX5_fromRound, Cond.selects RX5 yX5_fromRound yX5_fromRound, Cond.code yX5_fromRound cX5_fromRound 4 (some .int), Cond.methodLink RX5 57 yX5_fromShift, Cond.instanceMethod yX5_fromShift, Cond.selects RX5 yX5_fromShift yX5_fromShift, Cond.code yX5_fromShift cX5_fromShift 10 (some .int)]
def wsX5_mend_r3 : List Cond := [Cond.methodLink RX5 88 yX5_nearestTable, Cond.instanceMethod yX5_nearestTable, Cond.selects RX5 yX5_nearestTable yX5_nearestTable, Cond.code yX5_nearestTable cX5_nearestTable 3 (some .int), Cond.methodLink RX5 82 yX5_tableFar, Cond.instanceMethod yX5_tableFar, Cond.selects RX5 yX5_tableFar yX5_tableFar, Cond.code yX5_tableFar cX5_tableFar 4 (some .int), Cond.fieldLink RX5 17 "FewLooksModel" "table" "[I", Cond.methodLink RX5 50 yX5_parity, Cond.static yX5_parity, Cond.code yX5_parity cX5_parity 2 (some .int), Cond.methodLink RX5 46 yX5_ones, Cond.static yX5_ones, Cond.code yX5_ones cX5_ones 3 (some .int), Cond.methodLink RX5 91 yX5_nearestNet, Cond.instanceMethod yX5_nearestNet, Cond.selects RX5 yX5_nearestNet yX5_nearestNet, Cond.code yX5_nearestNet cX5_nearestNet 4 (some .int), Cond.methodLink RX5 85 yX5_netFar, Cond.instanceMethod yX5_netFar, Cond.selects RX5 yX5_netFar yX5_netFar, Cond.code yX5_netFar cX5_netFar 7 (some .int), Cond.methodLink RX5 100 yX5_findNearest]
def wsX5_mend_r4 : List Cond := [Cond.instanceMethod yX5_findNearest, Cond.selects RX5 yX5_findNearest yX5_findNearest, Cond.code yX5_findNearest cX5_findNearest 7 none, Cond.methodLink RX5 104 yX5_linear, Cond.instanceMethod yX5_linear, Cond.selects RX5 yX5_linear yX5_linear, Cond.code yX5_linear cX5_linear 3 (some .int), Cond.methodLink RX5 40 yX5_isEight, Cond.static yX5_isEight, Cond.code yX5_isEight cX5_isEight 1 (some .boolean)]
def wsX5_mend : List Cond := .code yX5_mend cX5_mend 6 (some .int) :: ((wsX5_mend_r1 ++ (wsX5_mend_r2 ++ (wsX5_mend_r3 ++ wsX5_mend_r4))) ++ wsX50)
def wsX5_passesTable : List Cond := .code yX5_passesTable cX5_passesTable 3 (some .boolean) :: ([])
def wsX5_countRow : List Cond := .code yX5_countRow cX5_countRow 4 none :: ([.fieldLink RX5 107 "FewLooksModel" "above" "J", .fieldLink RX5 111 "FewLooksModel" "below" "J", .fieldLink RX5 7 "FewLooksModel" "n" "I", .fieldLink RX5 26 "FewLooksModel" "it" "[I", .methodLink RX5 67 yX5_fromEven, .instanceMethod yX5_fromEven, .selects RX5 yX5_fromEven yX5_fromEven, .initialized RX5, .code yX5_fromEven cX5_fromEven 3 (some .int)] ++ wsX50)
def wsX5_countTable : List Cond := .code yX5_countTable cX5_countTable 3 none :: ([.fieldLink RX5 107 "FewLooksModel" "above" "J", .constantLong RX5 114 (64), .fieldLink RX5 111 "FewLooksModel" "below" "J", .fieldLink RX5 17 "FewLooksModel" "table" "[I", .methodLink RX5 116 yX5_passesTable, .static yX5_passesTable, .initialized RX5, .code yX5_passesTable cX5_passesTable 3 (some .boolean)] ++ wsX50)
def wsX5_passesNet : List Cond := .code yX5_passesNet cX5_passesNet 2 (some .boolean) :: ([.methodLink RX5 91 yX5_nearestNet, .instanceMethod yX5_nearestNet, .selects RX5 yX5_nearestNet yX5_nearestNet, .initialized RX5, .code yX5_nearestNet cX5_nearestNet 4 (some .int), .methodLink RX5 85 yX5_netFar, .instanceMethod yX5_netFar, .selects RX5 yX5_netFar yX5_netFar, .code yX5_netFar cX5_netFar 7 (some .int), .fieldLink RX5 20 "FewLooksModel" "joined" "[I"] ++ wsX50)
def wsX5_countNet : List Cond := .code yX5_countNet cX5_countNet 2 none :: ([.fieldLink RX5 107 "FewLooksModel" "above" "J", .fieldLink RX5 111 "FewLooksModel" "below" "J", .fieldLink RX5 23 "FewLooksModel" "k" "I", .methodLink RX5 46 yX5_ones, .static yX5_ones, .initialized RX5, .code yX5_ones cX5_ones 3 (some .int), .methodLink RX5 119 yX5_passesNet, .instanceMethod yX5_passesNet, .selects RX5 yX5_passesNet yX5_passesNet, .code yX5_passesNet cX5_passesNet 2 (some .boolean), .methodLink RX5 91 yX5_nearestNet, .instanceMethod yX5_nearestNet, .selects RX5 yX5_nearestNet yX5_nearestNet, .code yX5_nearestNet cX5_nearestNet 4 (some .int), .methodLink RX5 85 yX5_netFar, .instanceMethod yX5_netFar, .selects RX5 yX5_netFar yX5_netFar, .code yX5_netFar cX5_netFar 7 (some .int), .fieldLink RX5 20 "FewLooksModel" "joined" "[I"] ++ wsX50)
def wsX5_reduce : List Cond := .code yX5_reduce cX5_reduce 7 none :: ([.fieldLink RX5 107 "FewLooksModel" "above" "J", .fieldLink RX5 111 "FewLooksModel" "below" "J"] ++ wsX50)
def wsX5_findPass_r1 : List Cond := [Cond.methodLink RX5 73 yX5_takeRow, Cond.instanceMethod yX5_takeRow, Cond.selects RX5 yX5_takeRow yX5_takeRow, Cond.initialized RX5, Cond.code yX5_takeRow cX5_takeRow 2 none, Cond.fieldLink RX5 7 "FewLooksModel" "n" "I", Cond.fieldLink RX5 26 "FewLooksModel" "it" "[I", Cond.fieldLink RX5 13 "FewLooksModel" "row" "[I", Cond.methodLink RX5 122 yX5_countRow, Cond.instanceMethod yX5_countRow, Cond.selects RX5 yX5_countRow yX5_countRow, Cond.code yX5_countRow cX5_countRow 4 none, Cond.fieldLink RX5 107 "FewLooksModel" "above" "J", Cond.fieldLink RX5 111 "FewLooksModel" "below" "J", Cond.methodLink RX5 67 yX5_fromEven, Cond.instanceMethod yX5_fromEven, Cond.selects RX5 yX5_fromEven yX5_fromEven, Cond.code yX5_fromEven cX5_fromEven 3 (some .int), Cond.methodLink RX5 125 yX5_countTable, Cond.instanceMethod yX5_countTable, Cond.selects RX5 yX5_countTable yX5_countTable, Cond.code yX5_countTable cX5_countTable 3 none, Cond.constantLong RX5 114 (64), Cond.fieldLink RX5 17 "FewLooksModel" "table" "[I"]
def wsX5_findPass_r2 : List Cond := [Cond.methodLink RX5 116 yX5_passesTable, Cond.static yX5_passesTable, Cond.code yX5_passesTable cX5_passesTable 3 (some .boolean), Cond.methodLink RX5 128 yX5_countNet, Cond.instanceMethod yX5_countNet, Cond.selects RX5 yX5_countNet yX5_countNet, Cond.code yX5_countNet cX5_countNet 2 none, Cond.fieldLink RX5 23 "FewLooksModel" "k" "I", Cond.methodLink RX5 46 yX5_ones, Cond.static yX5_ones, Cond.code yX5_ones cX5_ones 3 (some .int), Cond.methodLink RX5 119 yX5_passesNet, Cond.instanceMethod yX5_passesNet, Cond.selects RX5 yX5_passesNet yX5_passesNet, Cond.code yX5_passesNet cX5_passesNet 2 (some .boolean), Cond.methodLink RX5 91 yX5_nearestNet, Cond.instanceMethod yX5_nearestNet, Cond.selects RX5 yX5_nearestNet yX5_nearestNet, Cond.code yX5_nearestNet cX5_nearestNet 4 (some .int), Cond.methodLink RX5 85 yX5_netFar, Cond.instanceMethod yX5_netFar, Cond.selects RX5 yX5_netFar yX5_netFar, Cond.code yX5_netFar cX5_netFar 7 (some .int), Cond.fieldLink RX5 20 "FewLooksModel" "joined" "[I"]
def wsX5_findPass_r3 : List Cond := [Cond.methodLink RX5 131 yX5_reduce, Cond.instanceMethod yX5_reduce, Cond.selects RX5 yX5_reduce yX5_reduce, Cond.code yX5_reduce cX5_reduce 7 none]
def wsX5_findPass : List Cond := .code yX5_findPass cX5_findPass 2 none :: ((wsX5_findPass_r1 ++ (wsX5_findPass_r2 ++ wsX5_findPass_r3)) ++ wsX50)
def wsX5_pass_r1 : List Cond := [Cond.constantLong RX5 134 (-2), Cond.fieldLink RX5 107 "FewLooksModel" "above" "J", Cond.fieldLink RX5 111 "FewLooksModel" "below" "J", Cond.methodLink RX5 94 yX5_isSubject, Cond.static yX5_isSubject, Cond.initialized RX5, Cond.code yX5_isSubject cX5_isSubject 1 (some .boolean), Cond.methodLink RX5 32 yX5_in, Cond.static yX5_in, Cond.code yX5_in cX5_in 3 (some .boolean), Cond.methodLink RX5 43 yX5_isBit, Cond.static yX5_isBit, Cond.code yX5_isBit cX5_isBit 1 (some .boolean), Cond.methodLink RX5 136 yX5_findPass, Cond.instanceMethod yX5_findPass, Cond.selects RX5 yX5_findPass yX5_findPass, Cond.code yX5_findPass cX5_findPass 2 none, Cond.methodLink RX5 73 yX5_takeRow, Cond.instanceMethod yX5_takeRow, Cond.selects RX5 yX5_takeRow yX5_takeRow, Cond.code yX5_takeRow cX5_takeRow 2 none, Cond.fieldLink RX5 7 "FewLooksModel" "n" "I", Cond.fieldLink RX5 26 "FewLooksModel" "it" "[I", Cond.fieldLink RX5 13 "FewLooksModel" "row" "[I"]
def wsX5_pass_r2 : List Cond := [Cond.methodLink RX5 122 yX5_countRow, Cond.instanceMethod yX5_countRow, Cond.selects RX5 yX5_countRow yX5_countRow, Cond.code yX5_countRow cX5_countRow 4 none, Cond.methodLink RX5 67 yX5_fromEven, Cond.instanceMethod yX5_fromEven, Cond.selects RX5 yX5_fromEven yX5_fromEven, Cond.code yX5_fromEven cX5_fromEven 3 (some .int), Cond.methodLink RX5 125 yX5_countTable, Cond.instanceMethod yX5_countTable, Cond.selects RX5 yX5_countTable yX5_countTable, Cond.code yX5_countTable cX5_countTable 3 none, Cond.constantLong RX5 114 (64), Cond.fieldLink RX5 17 "FewLooksModel" "table" "[I", Cond.methodLink RX5 116 yX5_passesTable, Cond.static yX5_passesTable, Cond.code yX5_passesTable cX5_passesTable 3 (some .boolean), Cond.methodLink RX5 128 yX5_countNet, Cond.instanceMethod yX5_countNet, Cond.selects RX5 yX5_countNet yX5_countNet, Cond.code yX5_countNet cX5_countNet 2 none, Cond.fieldLink RX5 23 "FewLooksModel" "k" "I", Cond.methodLink RX5 46 yX5_ones, Cond.static yX5_ones]
def wsX5_pass_r3 : List Cond := [Cond.code yX5_ones cX5_ones 3 (some .int), Cond.methodLink RX5 119 yX5_passesNet, Cond.instanceMethod yX5_passesNet, Cond.selects RX5 yX5_passesNet yX5_passesNet, Cond.code yX5_passesNet cX5_passesNet 2 (some .boolean), Cond.methodLink RX5 91 yX5_nearestNet, Cond.instanceMethod yX5_nearestNet, Cond.selects RX5 yX5_nearestNet yX5_nearestNet, Cond.code yX5_nearestNet cX5_nearestNet 4 (some .int), Cond.methodLink RX5 85 yX5_netFar, Cond.instanceMethod yX5_netFar, Cond.selects RX5 yX5_netFar yX5_netFar, Cond.code yX5_netFar cX5_netFar 7 (some .int), Cond.fieldLink RX5 20 "FewLooksModel" "joined" "[I", Cond.methodLink RX5 131 yX5_reduce, Cond.instanceMethod yX5_reduce, Cond.selects RX5 yX5_reduce yX5_reduce, Cond.code yX5_reduce cX5_reduce 7 none]
def wsX5_pass : List Cond := .code yX5_pass cX5_pass 3 (some .long) :: ((wsX5_pass_r1 ++ (wsX5_pass_r2 ++ wsX5_pass_r3)) ++ wsX50)
def wsX5_repeats_r1 : List Cond := [Cond.fieldLink RX5 107 "FewLooksModel" "above" "J", Cond.fieldLink RX5 111 "FewLooksModel" "below" "J", Cond.methodLink RX5 94 yX5_isSubject, Cond.static yX5_isSubject, Cond.initialized RX5, Cond.code yX5_isSubject cX5_isSubject 1 (some .boolean), Cond.methodLink RX5 32 yX5_in, Cond.static yX5_in, Cond.code yX5_in cX5_in 3 (some .boolean), Cond.methodLink RX5 136 yX5_findPass, Cond.instanceMethod yX5_findPass, Cond.selects RX5 yX5_findPass yX5_findPass, Cond.code yX5_findPass cX5_findPass 2 none, Cond.methodLink RX5 73 yX5_takeRow, Cond.instanceMethod yX5_takeRow, Cond.selects RX5 yX5_takeRow yX5_takeRow, Cond.code yX5_takeRow cX5_takeRow 2 none, Cond.fieldLink RX5 7 "FewLooksModel" "n" "I", Cond.fieldLink RX5 26 "FewLooksModel" "it" "[I", Cond.fieldLink RX5 13 "FewLooksModel" "row" "[I", Cond.methodLink RX5 122 yX5_countRow, Cond.instanceMethod yX5_countRow, Cond.selects RX5 yX5_countRow yX5_countRow, Cond.code yX5_countRow cX5_countRow 4 none]
def wsX5_repeats_r2 : List Cond := [Cond.methodLink RX5 67 yX5_fromEven, Cond.instanceMethod yX5_fromEven, Cond.selects RX5 yX5_fromEven yX5_fromEven, Cond.code yX5_fromEven cX5_fromEven 3 (some .int), Cond.methodLink RX5 125 yX5_countTable, Cond.instanceMethod yX5_countTable, Cond.selects RX5 yX5_countTable yX5_countTable, Cond.code yX5_countTable cX5_countTable 3 none, Cond.constantLong RX5 114 (64), Cond.fieldLink RX5 17 "FewLooksModel" "table" "[I", Cond.methodLink RX5 116 yX5_passesTable, Cond.static yX5_passesTable, Cond.code yX5_passesTable cX5_passesTable 3 (some .boolean), Cond.methodLink RX5 128 yX5_countNet, Cond.instanceMethod yX5_countNet, Cond.selects RX5 yX5_countNet yX5_countNet, Cond.code yX5_countNet cX5_countNet 2 none, Cond.fieldLink RX5 23 "FewLooksModel" "k" "I", Cond.methodLink RX5 46 yX5_ones, Cond.static yX5_ones, Cond.code yX5_ones cX5_ones 3 (some .int), Cond.methodLink RX5 119 yX5_passesNet, Cond.instanceMethod yX5_passesNet, Cond.selects RX5 yX5_passesNet yX5_passesNet]
def wsX5_repeats_r3 : List Cond := [Cond.code yX5_passesNet cX5_passesNet 2 (some .boolean), Cond.methodLink RX5 91 yX5_nearestNet, Cond.instanceMethod yX5_nearestNet, Cond.selects RX5 yX5_nearestNet yX5_nearestNet, Cond.code yX5_nearestNet cX5_nearestNet 4 (some .int), Cond.methodLink RX5 85 yX5_netFar, Cond.instanceMethod yX5_netFar, Cond.selects RX5 yX5_netFar yX5_netFar, Cond.code yX5_netFar cX5_netFar 7 (some .int), Cond.fieldLink RX5 20 "FewLooksModel" "joined" "[I", Cond.methodLink RX5 131 yX5_reduce, Cond.instanceMethod yX5_reduce, Cond.selects RX5 yX5_reduce yX5_reduce, Cond.code yX5_reduce cX5_reduce 7 none]
def wsX5_repeats : List Cond := .code yX5_repeats cX5_repeats 9 (some .int) :: ((wsX5_repeats_r1 ++ (wsX5_repeats_r2 ++ wsX5_repeats_r3)) ++ wsX50)
def wsX5_findWorst_r1 : List Cond := [Cond.fieldLink RX5 7 "FewLooksModel" "n" "I", Cond.fieldLink RX5 26 "FewLooksModel" "it" "[I", Cond.fieldLink RX5 107 "FewLooksModel" "above" "J", Cond.fieldLink RX5 139 "FewLooksModel" "worstBelow" "J", Cond.fieldLink RX5 142 "FewLooksModel" "worstAbove" "J", Cond.fieldLink RX5 111 "FewLooksModel" "below" "J", Cond.methodLink RX5 76 yX5_fromKind, Cond.instanceMethod yX5_fromKind, Cond.selects RX5 yX5_fromKind yX5_fromKind, Cond.initialized RX5, Cond.code yX5_fromKind cX5_fromKind 2 (some .int), Cond.methodLink RX5 60 yX5_fromRising, Cond.instanceMethod yX5_fromRising, Cond.selects RX5 yX5_fromRising yX5_fromRising, Cond.code yX5_fromRising cX5_fromRising 4 (some .int), Cond.fieldLink RX5 29 "FewLooksModel" "rise" "[I", Cond.methodLink RX5 64 yX5_fromMirrored, Cond.instanceMethod yX5_fromMirrored, Cond.selects RX5 yX5_fromMirrored yX5_fromMirrored, Cond.code yX5_fromMirrored cX5_fromMirrored 3 (some .int), Cond.methodLink RX5 67 yX5_fromEven, Cond.instanceMethod yX5_fromEven, Cond.selects RX5 yX5_fromEven yX5_fromEven, Cond.code yX5_fromEven cX5_fromEven 3 (some .int)]
def wsX5_findWorst_r2 : List Cond := [Cond.methodLink RX5 70 yX5_fromRound, Cond.instanceMethod yX5_fromRound, Cond.selects RX5 yX5_fromRound yX5_fromRound, Cond.code yX5_fromRound cX5_fromRound 4 (some .int), Cond.methodLink RX5 57 yX5_fromShift, Cond.instanceMethod yX5_fromShift, Cond.selects RX5 yX5_fromShift yX5_fromShift, Cond.code yX5_fromShift cX5_fromShift 10 (some .int), Cond.methodLink RX5 122 yX5_countRow, Cond.instanceMethod yX5_countRow, Cond.selects RX5 yX5_countRow yX5_countRow, Cond.code yX5_countRow cX5_countRow 4 none]
def wsX5_findWorst : List Cond := .code yX5_findWorst cX5_findWorst 6 (some .int) :: ((wsX5_findWorst_r1 ++ wsX5_findWorst_r2) ++ wsX50)
def wsX5_worst_r1 : List Cond := [Cond.fieldLink RX5 7 "FewLooksModel" "n" "I", Cond.fieldLink RX5 142 "FewLooksModel" "worstAbove" "J", Cond.fieldLink RX5 107 "FewLooksModel" "above" "J", Cond.fieldLink RX5 139 "FewLooksModel" "worstBelow" "J", Cond.fieldLink RX5 111 "FewLooksModel" "below" "J", Cond.methodLink RX5 32 yX5_in, Cond.static yX5_in, Cond.initialized RX5, Cond.code yX5_in cX5_in 3 (some .boolean), Cond.methodLink RX5 36 yX5_isPlace, Cond.instanceMethod yX5_isPlace, Cond.selects RX5 yX5_isPlace yX5_isPlace, Cond.code yX5_isPlace cX5_isPlace 2 (some .boolean), Cond.methodLink RX5 145 yX5_findWorst, Cond.instanceMethod yX5_findWorst, Cond.selects RX5 yX5_findWorst yX5_findWorst, Cond.code yX5_findWorst cX5_findWorst 6 (some .int), Cond.fieldLink RX5 26 "FewLooksModel" "it" "[I", Cond.methodLink RX5 76 yX5_fromKind, Cond.instanceMethod yX5_fromKind, Cond.selects RX5 yX5_fromKind yX5_fromKind, Cond.code yX5_fromKind cX5_fromKind 2 (some .int), Cond.methodLink RX5 60 yX5_fromRising, Cond.instanceMethod yX5_fromRising]
def wsX5_worst_r2 : List Cond := [Cond.selects RX5 yX5_fromRising yX5_fromRising, Cond.code yX5_fromRising cX5_fromRising 4 (some .int), Cond.fieldLink RX5 29 "FewLooksModel" "rise" "[I", Cond.methodLink RX5 64 yX5_fromMirrored, Cond.instanceMethod yX5_fromMirrored, Cond.selects RX5 yX5_fromMirrored yX5_fromMirrored, Cond.code yX5_fromMirrored cX5_fromMirrored 3 (some .int), Cond.methodLink RX5 67 yX5_fromEven, Cond.instanceMethod yX5_fromEven, Cond.selects RX5 yX5_fromEven yX5_fromEven, Cond.code yX5_fromEven cX5_fromEven 3 (some .int), Cond.methodLink RX5 70 yX5_fromRound, Cond.instanceMethod yX5_fromRound, Cond.selects RX5 yX5_fromRound yX5_fromRound, Cond.code yX5_fromRound cX5_fromRound 4 (some .int), Cond.methodLink RX5 57 yX5_fromShift, Cond.instanceMethod yX5_fromShift, Cond.selects RX5 yX5_fromShift yX5_fromShift, Cond.code yX5_fromShift cX5_fromShift 10 (some .int), Cond.methodLink RX5 122 yX5_countRow, Cond.instanceMethod yX5_countRow, Cond.selects RX5 yX5_countRow yX5_countRow, Cond.code yX5_countRow cX5_countRow 4 none, Cond.methodLink RX5 131 yX5_reduce]
def wsX5_worst_r3 : List Cond := [Cond.instanceMethod yX5_reduce, Cond.selects RX5 yX5_reduce yX5_reduce, Cond.code yX5_reduce cX5_reduce 7 none]
def wsX5_worst : List Cond := .code yX5_worst cX5_worst 6 (some .int) :: ((wsX5_worst_r1 ++ (wsX5_worst_r2 ++ wsX5_worst_r3)) ++ wsX50)
def wsX5_mended : List Cond := .code yX5_mended cX5_mended 5 (some .int) :: ([.fieldLink RX5 17 "FewLooksModel" "table" "[I", .methodLink RX5 40 yX5_isEight, .static yX5_isEight, .initialized RX5, .code yX5_isEight cX5_isEight 1 (some .boolean), .methodLink RX5 32 yX5_in, .static yX5_in, .code yX5_in cX5_in 3 (some .boolean), .methodLink RX5 43 yX5_isBit, .static yX5_isBit, .code yX5_isBit cX5_isBit 1 (some .boolean)] ++ wsX50)
def wsX5_maySubject : List Cond := .code yX5_maySubject cX5_maySubject 4 (some .boolean) :: ([.fieldLink RX5 23 "FewLooksModel" "k" "I", .methodLink RX5 36 yX5_isPlace, .instanceMethod yX5_isPlace, .selects RX5 yX5_isPlace yX5_isPlace, .initialized RX5, .code yX5_isPlace cX5_isPlace 2 (some .boolean), .fieldLink RX5 7 "FewLooksModel" "n" "I", .methodLink RX5 32 yX5_in, .static yX5_in, .code yX5_in cX5_in 3 (some .boolean), .methodLink RX5 40 yX5_isEight, .static yX5_isEight, .code yX5_isEight cX5_isEight 1 (some .boolean), .methodLink RX5 46 yX5_ones, .static yX5_ones, .code yX5_ones cX5_ones 3 (some .int)] ++ wsX50)
def wsX5_showsOf : List Cond := .code yX5_showsOf cX5_showsOf 4 (some .boolean) :: ([.fieldLink RX5 13 "FewLooksModel" "row" "[I", .fieldLink RX5 17 "FewLooksModel" "table" "[I", .methodLink RX5 116 yX5_passesTable, .static yX5_passesTable, .initialized RX5, .code yX5_passesTable cX5_passesTable 3 (some .boolean), .methodLink RX5 119 yX5_passesNet, .instanceMethod yX5_passesNet, .selects RX5 yX5_passesNet yX5_passesNet, .code yX5_passesNet cX5_passesNet 2 (some .boolean), .methodLink RX5 91 yX5_nearestNet, .instanceMethod yX5_nearestNet, .selects RX5 yX5_nearestNet yX5_nearestNet, .code yX5_nearestNet cX5_nearestNet 4 (some .int), .methodLink RX5 85 yX5_netFar, .instanceMethod yX5_netFar, .selects RX5 yX5_netFar yX5_netFar, .code yX5_netFar cX5_netFar 7 (some .int), .fieldLink RX5 20 "FewLooksModel" "joined" "[I"] ++ wsX50)
def wsX5_shows_r1 : List Cond := [Cond.methodLink RX5 148 yX5_maySubject, Cond.instanceMethod yX5_maySubject, Cond.selects RX5 yX5_maySubject yX5_maySubject, Cond.initialized RX5, Cond.code yX5_maySubject cX5_maySubject 4 (some .boolean), Cond.fieldLink RX5 23 "FewLooksModel" "k" "I", Cond.methodLink RX5 36 yX5_isPlace, Cond.instanceMethod yX5_isPlace, Cond.selects RX5 yX5_isPlace yX5_isPlace, Cond.code yX5_isPlace cX5_isPlace 2 (some .boolean), Cond.fieldLink RX5 7 "FewLooksModel" "n" "I", Cond.methodLink RX5 32 yX5_in, Cond.static yX5_in, Cond.code yX5_in cX5_in 3 (some .boolean), Cond.methodLink RX5 40 yX5_isEight, Cond.static yX5_isEight, Cond.code yX5_isEight cX5_isEight 1 (some .boolean), Cond.methodLink RX5 46 yX5_ones, Cond.static yX5_ones, Cond.code yX5_ones cX5_ones 3 (some .int), Cond.methodLink RX5 151 yX5_showsOf, Cond.instanceMethod yX5_showsOf, Cond.selects RX5 yX5_showsOf yX5_showsOf, Cond.code yX5_showsOf cX5_showsOf 4 (some .boolean)]
def wsX5_shows_r2 : List Cond := [Cond.fieldLink RX5 13 "FewLooksModel" "row" "[I", Cond.fieldLink RX5 17 "FewLooksModel" "table" "[I", Cond.methodLink RX5 116 yX5_passesTable, Cond.static yX5_passesTable, Cond.code yX5_passesTable cX5_passesTable 3 (some .boolean), Cond.methodLink RX5 119 yX5_passesNet, Cond.instanceMethod yX5_passesNet, Cond.selects RX5 yX5_passesNet yX5_passesNet, Cond.code yX5_passesNet cX5_passesNet 2 (some .boolean), Cond.methodLink RX5 91 yX5_nearestNet, Cond.instanceMethod yX5_nearestNet, Cond.selects RX5 yX5_nearestNet yX5_nearestNet, Cond.code yX5_nearestNet cX5_nearestNet 4 (some .int), Cond.methodLink RX5 85 yX5_netFar, Cond.instanceMethod yX5_netFar, Cond.selects RX5 yX5_netFar yX5_netFar, Cond.code yX5_netFar cX5_netFar 7 (some .int), Cond.fieldLink RX5 20 "FewLooksModel" "joined" "[I"]
def wsX5_shows : List Cond := .code yX5_shows cX5_shows 4 (some .int) :: ((wsX5_shows_r1 ++ wsX5_shows_r2) ++ wsX50)
def wsX5_witness_r1 : List Cond := [Cond.methodLink RX5 148 yX5_maySubject, Cond.instanceMethod yX5_maySubject, Cond.selects RX5 yX5_maySubject yX5_maySubject, Cond.initialized RX5, Cond.code yX5_maySubject cX5_maySubject 4 (some .boolean), Cond.fieldLink RX5 23 "FewLooksModel" "k" "I", Cond.methodLink RX5 36 yX5_isPlace, Cond.instanceMethod yX5_isPlace, Cond.selects RX5 yX5_isPlace yX5_isPlace, Cond.code yX5_isPlace cX5_isPlace 2 (some .boolean), Cond.fieldLink RX5 7 "FewLooksModel" "n" "I", Cond.methodLink RX5 32 yX5_in, Cond.static yX5_in, Cond.code yX5_in cX5_in 3 (some .boolean), Cond.methodLink RX5 40 yX5_isEight, Cond.static yX5_isEight, Cond.code yX5_isEight cX5_isEight 1 (some .boolean), Cond.methodLink RX5 46 yX5_ones, Cond.static yX5_ones, Cond.code yX5_ones cX5_ones 3 (some .int), Cond.methodLink RX5 151 yX5_showsOf, Cond.instanceMethod yX5_showsOf, Cond.selects RX5 yX5_showsOf yX5_showsOf, Cond.code yX5_showsOf cX5_showsOf 4 (some .boolean)]
def wsX5_witness_r2 : List Cond := [Cond.fieldLink RX5 13 "FewLooksModel" "row" "[I", Cond.fieldLink RX5 17 "FewLooksModel" "table" "[I", Cond.methodLink RX5 116 yX5_passesTable, Cond.static yX5_passesTable, Cond.code yX5_passesTable cX5_passesTable 3 (some .boolean), Cond.methodLink RX5 119 yX5_passesNet, Cond.instanceMethod yX5_passesNet, Cond.selects RX5 yX5_passesNet yX5_passesNet, Cond.code yX5_passesNet cX5_passesNet 2 (some .boolean), Cond.methodLink RX5 91 yX5_nearestNet, Cond.instanceMethod yX5_nearestNet, Cond.selects RX5 yX5_nearestNet yX5_nearestNet, Cond.code yX5_nearestNet cX5_nearestNet 4 (some .int), Cond.methodLink RX5 85 yX5_netFar, Cond.instanceMethod yX5_netFar, Cond.selects RX5 yX5_netFar yX5_netFar, Cond.code yX5_netFar cX5_netFar 7 (some .int), Cond.fieldLink RX5 20 "FewLooksModel" "joined" "[I"]
def wsX5_witness : List Cond := .code yX5_witness cX5_witness 4 (some .int) :: ((wsX5_witness_r1 ++ wsX5_witness_r2) ++ wsX50)
def wsX5_count : List Cond := .code yX5_count cX5_count 4 (some .int) :: ([.fieldLink RX5 7 "FewLooksModel" "n" "I", .fieldLink RX5 23 "FewLooksModel" "k" "I", .fieldLink RX5 20 "FewLooksModel" "joined" "[I", .fieldLink RX5 17 "FewLooksModel" "table" "[I", .fieldLink RX5 13 "FewLooksModel" "row" "[I", .methodLink RX5 46 yX5_ones, .static yX5_ones, .initialized RX5, .code yX5_ones cX5_ones 3 (some .int)] ++ wsX50)
def wsJ9_min_7cf53 : List Cond := .code yJ9_min_7cf53 cJ9_min_7cf53 2 (some .int) :: ([])
def wsL_law_r1 : List Cond := [Cond.classLink RL 7 RX4, Cond.instantiable RX4 6, Cond.initialized RX4, Cond.classLink RL 10 RX5, Cond.instantiable RX5 11, Cond.initialized RX5, Cond.methodLink RL 9 yX4_init, Cond.instanceMethod yX4_init, Cond.code yX4_init cX4_init 1 none, Cond.methodLink RX4 1 objectInit, Cond.instanceMethod objectInit, Cond.code objectInit ⟨#[0xb1]⟩ 1 none, Cond.classLink RX4 7 RX2, Cond.instantiable RX2 2, Cond.initialized RX2, Cond.fieldLink RX4 10 "FewLooks" "row" "LFewLooks$Row;", Cond.fieldLink RX4 16 "FewLooks" "trial" "LFewLooks$Row;", Cond.classLink RX4 19 RX0, Cond.instantiable RX0 3, Cond.initialized RX0, Cond.fieldLink RX4 22 "FewLooks" "mender" "LFewLooks$Mender;", Cond.classLink RX4 26 RX3, Cond.instantiable RX3 1, Cond.initialized RX3]
def wsL_law_r2 : List Cond := [Cond.fieldLink RX4 29 "FewLooks" "table" "LFewLooks$Table;", Cond.classLink RX4 33 RX1, Cond.instantiable RX1 1, Cond.initialized RX1, Cond.fieldLink RX4 36 "FewLooks" "net" "LFewLooks$Net;", Cond.fieldLink RX4 40 "FewLooks" "drawn" "I", Cond.instanceMethod yX2_init, Cond.code yX2_init cX2_init 1 none, Cond.methodLink RX2 3 objectInit, Cond.arrayClass .int, Cond.fieldLink RX2 9 "FewLooks$Row" "digits" "[I", Cond.fieldLink RX2 15 "FewLooks$Row" "size" "I", Cond.instanceMethod yX0_init, Cond.code yX0_init cX0_init 1 none, Cond.methodLink RX0 3 objectInit, Cond.classLink RX0 9 RX2, Cond.fieldLink RX0 12 "FewLooks$Mender" "near" "LFewLooks$Row;", Cond.fieldLink RX0 18 "FewLooks$Mender" "guess" "LFewLooks$Row;", Cond.fieldLink RX0 21 "FewLooks$Mender" "costs" "[I", Cond.instanceMethod yX3_init, Cond.code yX3_init cX3_init 1 none, Cond.methodLink RX3 3 objectInit, Cond.fieldLink RX3 9 "FewLooks$Table" "bits" "I", Cond.instanceMethod yX1_init]
def wsL_law_r3 : List Cond := [Cond.code yX1_init cX1_init 1 none, Cond.methodLink RX1 3 objectInit, Cond.fieldLink RX1 9 "FewLooks$Net" "joins" "[I", Cond.methodLink RL 12 yX5_init, Cond.instanceMethod yX5_init, Cond.code yX5_init cX5_init 1 none, Cond.methodLink RX5 1 objectInit, Cond.fieldLink RX5 7 "FewLooksModel" "n" "I", Cond.fieldLink RX5 13 "FewLooksModel" "row" "[I", Cond.fieldLink RX5 17 "FewLooksModel" "table" "[I", Cond.fieldLink RX5 20 "FewLooksModel" "joined" "[I", Cond.fieldLink RX5 23 "FewLooksModel" "k" "I", Cond.fieldLink RX5 26 "FewLooksModel" "it" "[I", Cond.fieldLink RX5 29 "FewLooksModel" "rise" "[I", Cond.methodLink RL 13 yX4_places, Cond.instanceMethod yX4_places, Cond.selects RX4 yX4_places yX4_places, Cond.code yX4_places cX4_places 3 (some .int), Cond.methodLink RX4 44 yX4_within, Cond.static yX4_within, Cond.code yX4_within cX4_within 3 (some .boolean), Cond.methodLink RX4 51 yX2_clear, Cond.instanceMethod yX2_clear, Cond.selects RX2 yX2_clear yX2_clear]
def wsL_law_r4 : List Cond := [Cond.code yX2_clear cX2_clear 3 none, Cond.methodLink RL 17 yX5_places, Cond.instanceMethod yX5_places, Cond.selects RX5 yX5_places yX5_places, Cond.code yX5_places cX5_places 4 (some .int), Cond.methodLink RX5 32 yX5_in, Cond.static yX5_in, Cond.code yX5_in cX5_in 3 (some .boolean), Cond.methodLink RL 18 yX4_digit, Cond.instanceMethod yX4_digit, Cond.selects RX4 yX4_digit yX4_digit, Cond.code yX4_digit cX4_digit 4 (some .int), Cond.methodLink RX4 55 yX4_isPlace, Cond.instanceMethod yX4_isPlace, Cond.selects RX4 yX4_isPlace yX4_isPlace, Cond.code yX4_isPlace cX4_isPlace 2 (some .boolean), Cond.methodLink RL 22 yX5_digit, Cond.instanceMethod yX5_digit, Cond.selects RX5 yX5_digit yX5_digit, Cond.code yX5_digit cX5_digit 4 (some .int), Cond.methodLink RX5 36 yX5_isPlace, Cond.instanceMethod yX5_isPlace, Cond.selects RX5 yX5_isPlace yX5_isPlace, Cond.code yX5_isPlace cX5_isPlace 2 (some .boolean)]
def wsL_law_r5 : List Cond := [Cond.methodLink RL 23 yX4_bit, Cond.instanceMethod yX4_bit, Cond.selects RX4 yX4_bit yX4_bit, Cond.code yX4_bit cX4_bit 4 (some .int), Cond.methodLink RX4 63 yX4_isEntry, Cond.static yX4_isEntry, Cond.code yX4_isEntry cX4_isEntry 1 (some .boolean), Cond.methodLink RX4 66 yX3_at, Cond.instanceMethod yX3_at, Cond.selects RX3 yX3_at yX3_at, Cond.code yX3_at cX3_at 2 (some .int), Cond.methodLink RX4 70 yX3_put, Cond.instanceMethod yX3_put, Cond.selects RX3 yX3_put yX3_put, Cond.code yX3_put cX3_put 3 none, Cond.methodLink RL 26 yX5_bit, Cond.instanceMethod yX5_bit, Cond.selects RX5 yX5_bit yX5_bit, Cond.code yX5_bit cX5_bit 4 (some .int), Cond.methodLink RX5 40 yX5_isEight, Cond.static yX5_isEight, Cond.code yX5_isEight cX5_isEight 1 (some .boolean), Cond.methodLink RX5 43 yX5_isBit, Cond.static yX5_isBit]
def wsL_law_r6 : List Cond := [Cond.code yX5_isBit cX5_isBit 1 (some .boolean), Cond.methodLink RL 27 yX4_linear, Cond.instanceMethod yX4_linear, Cond.selects RX4 yX4_linear yX4_linear, Cond.code yX4_linear cX4_linear 2 (some .int), Cond.methodLink RX4 74 yX3_parities, Cond.static yX3_parities, Cond.code yX3_parities cX3_parities 3 (some .int), Cond.methodLink RX3 15 yJ6_bitCount_0f7a4, Cond.static yJ6_bitCount_0f7a4, Cond.initialized RJ6, Cond.code yJ6_bitCount_0f7a4 cJ6_bitCount_0f7a4 1 (some .int), Cond.constant RJ6 265 (1431655765), Cond.constant RJ6 266 (858993459), Cond.constant RJ6 267 (252645135), Cond.methodLink RL 30 yX5_linear, Cond.instanceMethod yX5_linear, Cond.selects RX5 yX5_linear yX5_linear, Cond.code yX5_linear cX5_linear 3 (some .int), Cond.methodLink RX5 50 yX5_parity, Cond.static yX5_parity, Cond.code yX5_parity cX5_parity 2 (some .int), Cond.methodLink RX5 46 yX5_ones, Cond.static yX5_ones]
def wsL_law_r7 : List Cond := [Cond.code yX5_ones cX5_ones 3 (some .int), Cond.methodLink RL 31 yX4_line, Cond.instanceMethod yX4_line, Cond.selects RX4 yX4_line yX4_line, Cond.code yX4_line cX4_line 5 (some .int), Cond.methodLink RX4 80 yX4_isPoint, Cond.static yX4_isPoint, Cond.code yX4_isPoint cX4_isPoint 1 (some .boolean), Cond.methodLink RX4 83 yX1_joined, Cond.instanceMethod yX1_joined, Cond.selects RX1 yX1_joined yX1_joined, Cond.code yX1_joined cX1_joined 3 (some .int), Cond.methodLink RX4 87 yX1_join, Cond.instanceMethod yX1_join, Cond.selects RX1 yX1_join yX1_join, Cond.code yX1_join cX1_join 4 none, Cond.methodLink RL 35 yX5_line, Cond.instanceMethod yX5_line, Cond.selects RX5 yX5_line yX5_line, Cond.code yX5_line cX5_line 5 (some .int), Cond.methodLink RX5 54 yX5_isPoint, Cond.static yX5_isPoint, Cond.code yX5_isPoint cX5_isPoint 1 (some .boolean), Cond.methodLink RL 36 yX4_draw]
def wsL_law_r8 : List Cond := [Cond.instanceMethod yX4_draw, Cond.selects RX4 yX4_draw yX4_draw, Cond.code yX4_draw cX4_draw 3 (some .int), Cond.methodLink RL 39 yX5_draw, Cond.instanceMethod yX5_draw, Cond.selects RX5 yX5_draw yX5_draw, Cond.code yX5_draw cX5_draw 3 (some .int), Cond.methodLink RL 40 yX4_is, Cond.instanceMethod yX4_is, Cond.selects RX4 yX4_is yX4_is, Cond.code yX4_is cX4_is 2 (some .int), Cond.methodLink RX4 91 yX4_isSubject, Cond.static yX4_isSubject, Cond.code yX4_isSubject cX4_isSubject 1 (some .boolean), Cond.methodLink RX4 94 yX4_howFar, Cond.instanceMethod yX4_howFar, Cond.selects RX4 yX4_howFar yX4_howFar, Cond.code yX4_howFar cX4_howFar 2 (some .int), Cond.methodLink RX4 97 yX4_isRow, Cond.static yX4_isRow, Cond.code yX4_isRow cX4_isRow 1 (some .boolean), Cond.methodLink RX4 100 yX0_seek, Cond.instanceMethod yX0_seek, Cond.selects RX0 yX0_seek yX0_seek]
def wsL_law_r9 : List Cond := [Cond.code yX0_seek cX0_seek 3 (some .int), Cond.methodLink RX0 25 yX2_become, Cond.instanceMethod yX2_become, Cond.selects RX2 yX2_become yX2_become, Cond.code yX2_become cX2_become 3 none, Cond.methodLink RX0 29 yX0_raise, Cond.instanceMethod yX0_raise, Cond.selects RX0 yX0_raise yX0_raise, Cond.code yX0_raise cX0_raise 5 none, Cond.methodLink RX0 45 yX0_fillCosts, Cond.instanceMethod yX0_fillCosts, Cond.selects RX0 yX0_fillCosts yX0_fillCosts, Cond.code yX0_fillCosts cX0_fillCosts 5 none, Cond.methodLink RX0 59 Lib.Math.min.name, Cond.static Lib.Math.min.name, Cond.initialized "java/lang/Math", Cond.code Lib.Math.min.name Lib.Math.min.code 2 (some .int), Cond.methodLink RX0 52 yX0_costWith, Cond.instanceMethod yX0_costWith, Cond.selects RX0 yX0_costWith yX0_costWith, Cond.code yX0_costWith cX0_costWith 5 (some .int), Cond.methodLink RX0 32 yX0_mirror, Cond.instanceMethod yX0_mirror, Cond.selects RX0 yX0_mirror yX0_mirror]
def wsL_law_r10 : List Cond := [Cond.code yX0_mirror cX0_mirror 3 none, Cond.methodLink RX0 35 yX0_makeEven, Cond.instanceMethod yX0_makeEven, Cond.selects RX0 yX0_makeEven yX0_makeEven, Cond.code yX0_makeEven cX0_makeEven 2 none, Cond.methodLink RX0 65 yX2_total, Cond.instanceMethod yX2_total, Cond.selects RX2 yX2_total yX2_total, Cond.code yX2_total cX2_total 3 (some .int), Cond.methodLink RX0 38 yX0_makeRound, Cond.instanceMethod yX0_makeRound, Cond.selects RX0 yX0_makeRound yX0_makeRound, Cond.code yX0_makeRound cX0_makeRound 5 none, Cond.methodLink RX0 69 yX0_guessPeriod, Cond.instanceMethod yX0_guessPeriod, Cond.selects RX0 yX0_guessPeriod yX0_guessPeriod, Cond.code yX0_guessPeriod cX0_guessPeriod 4 none, Cond.methodLink RX0 77 yX0_commonest, Cond.static yX0_commonest, Cond.code yX0_commonest cX0_commonest 9 (some .int), Cond.methodLink RX0 41 yX2_differing, Cond.instanceMethod yX2_differing, Cond.selects RX2 yX2_differing yX2_differing, Cond.code yX2_differing cX2_differing 4 (some .int)]
def wsL_law_r11 : List Cond := [Cond.methodLink RX0 73 yX2_isAheadOf, Cond.instanceMethod yX2_isAheadOf, Cond.selects RX2 yX2_isAheadOf yX2_isAheadOf, Cond.code yX2_isAheadOf cX2_isAheadOf 3 (some .boolean), Cond.methodLink RX4 107 yX3_closest, Cond.instanceMethod yX3_closest, Cond.selects RX3 yX3_closest yX3_closest, Cond.code yX3_closest cX3_closest 3 (some .int), Cond.methodLink RX3 24 yX3_differing, Cond.instanceMethod yX3_differing, Cond.selects RX3 yX3_differing yX3_differing, Cond.code yX3_differing cX3_differing 2 (some .int), Cond.methodLink RX3 21 yX3_parities, Cond.methodLink RX4 167 yX3_differing, Cond.methodLink RX4 111 yX1_bestColouring, Cond.instanceMethod yX1_bestColouring, Cond.selects RX1 yX1_bestColouring yX1_bestColouring, Cond.code yX1_bestColouring cX1_bestColouring 1 (some .int), Cond.methodLink RX1 28 yX1_bestColouringOf, Cond.instanceMethod yX1_bestColouringOf, Cond.selects RX1 yX1_bestColouringOf yX1_bestColouringOf, Cond.code yX1_bestColouringOf cX1_bestColouringOf 6 (some .int), Cond.methodLink RX1 15 yX1_likeLines, Cond.instanceMethod yX1_likeLines]
def wsL_law_r12 : List Cond := [Cond.selects RX1 yX1_likeLines yX1_likeLines, Cond.code yX1_likeLines cX1_likeLines 5 (some .int), Cond.methodLink RX1 19 yX1_alikeTo, Cond.static yX1_alikeTo, Cond.code yX1_alikeTo cX1_alikeTo 2 (some .int), Cond.methodLink RX1 22 yJ6_bitCount_0f7a4, Cond.methodLink RX4 170 yX1_likeLines, Cond.methodLink RL 43 yX5_is, Cond.instanceMethod yX5_is, Cond.selects RX5 yX5_is yX5_is, Cond.code yX5_is cX5_is 2 (some .int), Cond.methodLink RX5 94 yX5_isSubject, Cond.static yX5_isSubject, Cond.code yX5_isSubject cX5_isSubject 1 (some .boolean), Cond.methodLink RX5 97 yX5_distanceOf, Cond.instanceMethod yX5_distanceOf, Cond.selects RX5 yX5_distanceOf yX5_distanceOf, Cond.code yX5_distanceOf cX5_distanceOf 2 (some .int), Cond.methodLink RX5 79 yX5_rowDistance, Cond.instanceMethod yX5_rowDistance, Cond.selects RX5 yX5_rowDistance yX5_rowDistance, Cond.code yX5_rowDistance cX5_rowDistance 2 (some .int), Cond.methodLink RX5 73 yX5_takeRow, Cond.instanceMethod yX5_takeRow]
def wsL_law_r13 : List Cond := [Cond.selects RX5 yX5_takeRow yX5_takeRow, Cond.code yX5_takeRow cX5_takeRow 2 none, Cond.methodLink RX5 76 yX5_fromKind, Cond.instanceMethod yX5_fromKind, Cond.selects RX5 yX5_fromKind yX5_fromKind, Cond.code yX5_fromKind cX5_fromKind 2 (some .int), Cond.methodLink RX5 60 yX5_fromRising, Cond.instanceMethod yX5_fromRising, Cond.selects RX5 yX5_fromRising yX5_fromRising, Cond.code yX5_fromRising cX5_fromRising 4 (some .int), Cond.methodLink RX5 64 yX5_fromMirrored, Cond.instanceMethod yX5_fromMirrored, Cond.selects RX5 yX5_fromMirrored yX5_fromMirrored, Cond.code yX5_fromMirrored cX5_fromMirrored 3 (some .int), Cond.methodLink RX5 67 yX5_fromEven, Cond.instanceMethod yX5_fromEven, Cond.selects RX5 yX5_fromEven yX5_fromEven, Cond.code yX5_fromEven cX5_fromEven 3 (some .int), Cond.methodLink RX5 70 yX5_fromRound, Cond.instanceMethod yX5_fromRound, Cond.selects RX5 yX5_fromRound yX5_fromRound, Cond.code yX5_fromRound cX5_fromRound 4 (some .int), Cond.methodLink RX5 57 yX5_fromShift, Cond.instanceMethod yX5_fromShift]
def wsL_law_r14 : List Cond := [Cond.selects RX5 yX5_fromShift yX5_fromShift, Cond.code yX5_fromShift cX5_fromShift 10 (some .int), Cond.methodLink RX5 88 yX5_nearestTable, Cond.instanceMethod yX5_nearestTable, Cond.selects RX5 yX5_nearestTable yX5_nearestTable, Cond.code yX5_nearestTable cX5_nearestTable 3 (some .int), Cond.methodLink RX5 82 yX5_tableFar, Cond.instanceMethod yX5_tableFar, Cond.selects RX5 yX5_tableFar yX5_tableFar, Cond.code yX5_tableFar cX5_tableFar 4 (some .int), Cond.methodLink RX5 91 yX5_nearestNet, Cond.instanceMethod yX5_nearestNet, Cond.selects RX5 yX5_nearestNet yX5_nearestNet, Cond.code yX5_nearestNet cX5_nearestNet 4 (some .int), Cond.methodLink RX5 85 yX5_netFar, Cond.instanceMethod yX5_netFar, Cond.selects RX5 yX5_netFar yX5_netFar, Cond.code yX5_netFar cX5_netFar 7 (some .int), Cond.methodLink RL 44 yX4_distance, Cond.instanceMethod yX4_distance, Cond.selects RX4 yX4_distance yX4_distance, Cond.code yX4_distance cX4_distance 2 (some .int), Cond.methodLink RL 47 yX5_distance, Cond.instanceMethod yX5_distance]
def wsL_law_r15 : List Cond := [Cond.selects RX5 yX5_distance yX5_distance, Cond.code yX5_distance cX5_distance 2 (some .int), Cond.methodLink RL 48 yX4_nearest, Cond.instanceMethod yX4_nearest, Cond.selects RX4 yX4_nearest yX4_nearest, Cond.code yX4_nearest cX4_nearest 3 (some .int), Cond.methodLink RL 51 yX5_nearest, Cond.instanceMethod yX5_nearest, Cond.selects RX5 yX5_nearest yX5_nearest, Cond.code yX5_nearest cX5_nearest 3 (some .int), Cond.methodLink RX5 100 yX5_findNearest, Cond.instanceMethod yX5_findNearest, Cond.selects RX5 yX5_findNearest yX5_findNearest, Cond.code yX5_findNearest cX5_findNearest 7 none, Cond.methodLink RL 52 yX4_mend, Cond.instanceMethod yX4_mend, Cond.selects RX4 yX4_mend yX4_mend, Cond.code yX4_mend cX4_mend 3 (some .int), Cond.methodLink RX4 114 yX2_become, Cond.methodLink RX4 118 yX1_cutLikeLines, Cond.instanceMethod yX1_cutLikeLines, Cond.selects RX1 yX1_cutLikeLines yX1_cutLikeLines, Cond.code yX1_cutLikeLines cX1_cutLikeLines 3 none, Cond.methodLink RL 55 yX5_mend]
def wsL_law_r16 : List Cond := [Cond.instanceMethod yX5_mend, Cond.selects RX5 yX5_mend yX5_mend, Cond.code yX5_mend cX5_mend 6 (some .int), Cond.methodLink RX5 104 yX5_linear, Cond.methodLink RL 56 yX4_pass, Cond.instanceMethod yX4_pass, Cond.selects RX4 yX4_pass yX4_pass, Cond.code yX4_pass cX4_pass 3 (some .long), Cond.constantLong RX4 121 (-2), Cond.methodLink RX4 123 yX4_passing, Cond.instanceMethod yX4_passing, Cond.selects RX4 yX4_passing yX4_passing, Cond.code yX4_passing cX4_passing 2 (some .int), Cond.methodLink RX4 139 yX2_passing, Cond.instanceMethod yX2_passing, Cond.selects RX2 yX2_passing yX2_passing, Cond.code yX2_passing cX2_passing 2 (some .int), Cond.methodLink RX2 19 yX2_risingPairs, Cond.instanceMethod yX2_risingPairs, Cond.selects RX2 yX2_risingPairs yX2_risingPairs, Cond.code yX2_risingPairs cX2_risingPairs 4 (some .int), Cond.methodLink RX2 23 yX2_mirroredPlaces, Cond.instanceMethod yX2_mirroredPlaces, Cond.selects RX2 yX2_mirroredPlaces yX2_mirroredPlaces]
def wsL_law_r17 : List Cond := [Cond.code yX2_mirroredPlaces cX2_mirroredPlaces 3 (some .int), Cond.methodLink RX2 26 yX2_total, Cond.methodLink RX2 29 yX2_alikeShifts, Cond.instanceMethod yX2_alikeShifts, Cond.selects RX2 yX2_alikeShifts yX2_alikeShifts, Cond.code yX2_alikeShifts cX2_alikeShifts 4 (some .int), Cond.methodLink RX4 173 yX3_passing, Cond.instanceMethod yX3_passing, Cond.selects RX3 yX3_passing yX3_passing, Cond.code yX3_passing cX3_passing 4 (some .int), Cond.methodLink RX3 30 yX3_agrees, Cond.instanceMethod yX3_agrees, Cond.selects RX3 yX3_agrees yX3_agrees, Cond.code yX3_agrees cX3_agrees 3 (some .boolean), Cond.methodLink RX3 27 yX3_at, Cond.methodLink RX4 175 yX1_passing, Cond.instanceMethod yX1_passing, Cond.selects RX1 yX1_passing yX1_passing, Cond.code yX1_passing cX1_passing 4 (some .int), Cond.methodLink RX1 31 yX1_twoColoured, Cond.instanceMethod yX1_twoColoured, Cond.selects RX1 yX1_twoColoured yX1_twoColoured, Cond.code yX1_twoColoured cX1_twoColoured 2 (some .boolean), Cond.methodLink RX4 126 yX4_looks]
def wsL_law_r18 : List Cond := [Cond.instanceMethod yX4_looks, Cond.selects RX4 yX4_looks yX4_looks, Cond.code yX4_looks cX4_looks 2 (some .int), Cond.methodLink RX4 140 yX2_looks, Cond.instanceMethod yX2_looks, Cond.selects RX2 yX2_looks yX2_looks, Cond.code yX2_looks cX2_looks 2 (some .int), Cond.methodLink RX4 176 yX1_sets, Cond.static yX1_sets, Cond.code yX1_sets cX1_sets 3 (some .int), Cond.methodLink RX4 129 yX4_lowestTerm, Cond.static yX4_lowestTerm, Cond.code yX4_lowestTerm cX4_lowestTerm 5 (some .int), Cond.methodLink RL 60 yX5_pass, Cond.instanceMethod yX5_pass, Cond.selects RX5 yX5_pass yX5_pass, Cond.code yX5_pass cX5_pass 3 (some .long), Cond.constantLong RX5 134 (-2), Cond.fieldLink RX5 107 "FewLooksModel" "above" "J", Cond.fieldLink RX5 111 "FewLooksModel" "below" "J", Cond.methodLink RX5 136 yX5_findPass, Cond.instanceMethod yX5_findPass, Cond.selects RX5 yX5_findPass yX5_findPass, Cond.code yX5_findPass cX5_findPass 2 none]
def wsL_law_r19 : List Cond := [Cond.methodLink RX5 122 yX5_countRow, Cond.instanceMethod yX5_countRow, Cond.selects RX5 yX5_countRow yX5_countRow, Cond.code yX5_countRow cX5_countRow 4 none, Cond.methodLink RX5 125 yX5_countTable, Cond.instanceMethod yX5_countTable, Cond.selects RX5 yX5_countTable yX5_countTable, Cond.code yX5_countTable cX5_countTable 3 none, Cond.constantLong RX5 114 (64), Cond.methodLink RX5 116 yX5_passesTable, Cond.static yX5_passesTable, Cond.code yX5_passesTable cX5_passesTable 3 (some .boolean), Cond.methodLink RX5 128 yX5_countNet, Cond.instanceMethod yX5_countNet, Cond.selects RX5 yX5_countNet yX5_countNet, Cond.code yX5_countNet cX5_countNet 2 none, Cond.methodLink RX5 119 yX5_passesNet, Cond.instanceMethod yX5_passesNet, Cond.selects RX5 yX5_passesNet yX5_passesNet, Cond.code yX5_passesNet cX5_passesNet 2 (some .boolean), Cond.methodLink RX5 131 yX5_reduce, Cond.instanceMethod yX5_reduce, Cond.selects RX5 yX5_reduce yX5_reduce, Cond.code yX5_reduce cX5_reduce 7 none]
def wsL_law_r20 : List Cond := [Cond.methodLink RL 61 yX4_repeats, Cond.instanceMethod yX4_repeats, Cond.selects RX4 yX4_repeats yX4_repeats, Cond.code yX4_repeats cX4_repeats 13 (some .int), Cond.methodLink RL 65 yX5_repeats, Cond.instanceMethod yX5_repeats, Cond.selects RX5 yX5_repeats yX5_repeats, Cond.code yX5_repeats cX5_repeats 9 (some .int), Cond.methodLink RL 66 yX4_worst, Cond.instanceMethod yX4_worst, Cond.selects RX4 yX4_worst yX4_worst, Cond.code yX4_worst cX4_worst 6 (some .int), Cond.methodLink RX4 133 yX4_worstCode, Cond.instanceMethod yX4_worstCode, Cond.selects RX4 yX4_worstCode yX4_worstCode, Cond.code yX4_worstCode cX4_worstCode 7 (some .int), Cond.methodLink RX4 136 yX2_spell, Cond.instanceMethod yX2_spell, Cond.selects RX2 yX2_spell yX2_spell, Cond.code yX2_spell cX2_spell 4 none, Cond.methodLink RL 70 yX5_worst, Cond.instanceMethod yX5_worst, Cond.selects RX5 yX5_worst yX5_worst, Cond.code yX5_worst cX5_worst 6 (some .int)]
def wsL_law_r21 : List Cond := [Cond.fieldLink RX5 142 "FewLooksModel" "worstAbove" "J", Cond.fieldLink RX5 139 "FewLooksModel" "worstBelow" "J", Cond.methodLink RX5 145 yX5_findWorst, Cond.instanceMethod yX5_findWorst, Cond.selects RX5 yX5_findWorst yX5_findWorst, Cond.code yX5_findWorst cX5_findWorst 6 (some .int), Cond.methodLink RL 71 yX4_mended, Cond.instanceMethod yX4_mended, Cond.selects RX4 yX4_mended yX4_mended, Cond.code yX4_mended cX4_mended 3 (some .int), Cond.methodLink RX4 141 yX3_tellers, Cond.instanceMethod yX3_tellers, Cond.selects RX3 yX3_tellers yX3_tellers, Cond.code yX3_tellers cX3_tellers 5 (some .int), Cond.methodLink RL 74 yX5_mended, Cond.instanceMethod yX5_mended, Cond.selects RX5 yX5_mended yX5_mended, Cond.code yX5_mended cX5_mended 5 (some .int), Cond.methodLink RL 75 yX4_shows, Cond.instanceMethod yX4_shows, Cond.selects RX4 yX4_shows yX4_shows, Cond.code yX4_shows cX4_shows 4 (some .int), Cond.methodLink RX4 144 yX4_isLook, Cond.instanceMethod yX4_isLook]
def wsL_law_r22 : List Cond := [Cond.selects RX4 yX4_isLook yX4_isLook, Cond.code yX4_isLook cX4_isLook 4 (some .boolean), Cond.methodLink RX4 159 yJ6_bitCount_0f7a4, Cond.methodLink RX4 147 yX4_fails, Cond.instanceMethod yX4_fails, Cond.selects RX4 yX4_fails yX4_fails, Cond.code yX4_fails cX4_fails 4 (some .boolean), Cond.methodLink RX4 179 yX3_agrees, Cond.methodLink RX4 183 yX1_twoColoured, Cond.methodLink RL 78 yX5_shows, Cond.instanceMethod yX5_shows, Cond.selects RX5 yX5_shows yX5_shows, Cond.code yX5_shows cX5_shows 4 (some .int), Cond.methodLink RX5 148 yX5_maySubject, Cond.instanceMethod yX5_maySubject, Cond.selects RX5 yX5_maySubject yX5_maySubject, Cond.code yX5_maySubject cX5_maySubject 4 (some .boolean), Cond.methodLink RX5 151 yX5_showsOf, Cond.instanceMethod yX5_showsOf, Cond.selects RX5 yX5_showsOf yX5_showsOf, Cond.code yX5_showsOf cX5_showsOf 4 (some .boolean), Cond.methodLink RL 79 yX4_witness, Cond.instanceMethod yX4_witness, Cond.selects RX4 yX4_witness yX4_witness]
def wsL_law_r23 : List Cond := [Cond.code yX4_witness cX4_witness 2 (some .int), Cond.methodLink RX4 150 yX4_firstFailingSet, Cond.instanceMethod yX4_firstFailingSet, Cond.selects RX4 yX4_firstFailingSet yX4_firstFailingSet, Cond.code yX4_firstFailingSet cX4_firstFailingSet 2 (some .int), Cond.methodLink RX4 153 yX4_firstFailingPair, Cond.instanceMethod yX4_firstFailingPair, Cond.selects RX4 yX4_firstFailingPair yX4_firstFailingPair, Cond.code yX4_firstFailingPair cX4_firstFailingPair 4 (some .int), Cond.methodLink RL 82 yX5_witness, Cond.instanceMethod yX5_witness, Cond.selects RX5 yX5_witness yX5_witness, Cond.code yX5_witness cX5_witness 4 (some .int), Cond.methodLink RL 83 yX4_count, Cond.instanceMethod yX4_count, Cond.selects RX4 yX4_count yX4_count, Cond.code yX4_count cX4_count 2 (some .int), Cond.methodLink RX4 156 yX1_lines, Cond.instanceMethod yX1_lines, Cond.selects RX1 yX1_lines yX1_lines, Cond.code yX1_lines cX1_lines 1 (some .int), Cond.methodLink RX4 164 yX2_total, Cond.methodLink RL 86 yX5_count, Cond.instanceMethod yX5_count]
def wsL_law_r24 : List Cond := [Cond.selects RX5 yX5_count yX5_count, Cond.code yX5_count cX5_count 4 (some .int)]
def wsL_law : List Cond := (wsL_law_r1 ++ (wsL_law_r2 ++ (wsL_law_r3 ++ (wsL_law_r4 ++ (wsL_law_r5 ++ (wsL_law_r6 ++ (wsL_law_r7 ++ (wsL_law_r8 ++ (wsL_law_r9 ++ (wsL_law_r10 ++ (wsL_law_r11 ++ (wsL_law_r12 ++ (wsL_law_r13 ++ (wsL_law_r14 ++ (wsL_law_r15 ++ (wsL_law_r16 ++ (wsL_law_r17 ++ (wsL_law_r18 ++ (wsL_law_r19 ++ (wsL_law_r20 ++ (wsL_law_r21 ++ (wsL_law_r22 ++ (wsL_law_r23 ++ wsL_law_r24))))))))))))))))))))))) ++ wsX40 ++ wsX50 ++ wsX20 ++ wsX00 ++ wsX30 ++ wsX10 ++ ([] : List Cond)
abbrev vwCl : List vw_C := [(RX0, TX0, 3), (RX1, TX1, 1), (RX2, TX2, 2), (RX3, TX3, 1), (RX4, TX4, 6), (RX5, TX5, 11)]
end
section
/-! base: nest words, worlds before and behind a call, guards of the pure functions -/
def bo (r : Int32) : Prop := narrow .boolean (.int r) = .int r
theorem bo_0 : bo 0 := rfl
theorem bo_1 : bo 1 := rfl
def nw_F48 : Cond := .fieldLinkNest RX4 48 "FewLooks$Row" "size" "I" "FewLooks"
def nw_F59 : Cond := .fieldLinkNest RX4 59 "FewLooks$Row" "digits" "[I" "FewLooks"
def nw_F77 : Cond := .fieldLinkNest RX4 77 "FewLooks$Table" "bits" "I" "FewLooks"
def nw_F104 : Cond := .fieldLinkNest RX4 104 "FewLooks$Mender" "near" "LFewLooks$Row;" "FewLooks"
def nw_M48 : Cond := .fieldLinkNest RX0 48 "FewLooks$Row" "size" "I" "FewLooks"
def nw_M56 : Cond := .fieldLinkNest RX0 56 "FewLooks$Row" "digits" "[I" "FewLooks"
def nw_I9 : Cond := .methodLinkNest RX4 9 yX2_init "FewLooks"
def nw_I21 : Cond := .methodLinkNest RX4 21 yX0_init "FewLooks"
def nw_I28 : Cond := .methodLinkNest RX4 28 yX3_init "FewLooks"
def nw_I35 : Cond := .methodLinkNest RX4 35 yX1_init "FewLooks"
def nw_I11 : Cond := .methodLinkNest RX0 11 yX2_init "FewLooks"
def NW (U : State) : Prop := va_Nw nw_F48 U ∧ va_Nw nw_F59 U ∧ va_Nw nw_F77 U ∧ va_Nw nw_F104 U ∧ va_Nw nw_M48 U ∧ va_Nw nw_M56 U ∧ va_Nw nw_I9 U ∧ va_Nw nw_I21 U ∧ va_Nw nw_I28 U ∧ va_Nw nw_I35 U ∧ va_Nw nw_I11 U
theorem NW.warm {s U : State} (hW : s.WarmedH U.vm) (h : NW s) : NW U := by
  obtain ⟨h1, h2, h3, h4, h5, h6, h7, h8, h9, h10, h11⟩ := h
  exact ⟨h1.warmF hW, h2.warmF hW, h3.warmF hW, h4.warmF hW, h5.warmF hW, h6.warmF hW, h7.warmM hW, h8.warmM hW, h9.warmM hW, h10.warmM hW, h11.warmM hW⟩
theorem NW.same {s U : State} (e : s.vm = U.vm) (h : NW s) : NW U := by
  obtain ⟨h1, h2, h3, h4, h5, h6, h7, h8, h9, h10, h11⟩ := h
  exact ⟨h1.same rfl e, h2.same rfl e, h3.same rfl e, h4.same rfl e, h5.same rfl e, h6.same rfl e, h7.same rfl e, h8.same rfl e, h9.same rfl e, h10.same rfl e, h11.same rfl e⟩
def PW (D : va_G) (cy : ClassId) (sz : Nat) (ws : va_W) (U : State) : Prop := U.heap.size = sz ∧ va_P D vwCl ws U.heap ∧ va_K D vwCl [(cy, .int)] U ∧ va_D (fun _ => True) ws ∧ NW U
def QW (D : va_G) (cy : ClassId) (A : Nat → Prop) (ws : va_W) (_ : Unit) (t : State) : Prop := va_P D vwCl ws t.heap ∧ va_K D vwCl [(cy, .int)] t ∧ va_D A ws
theorem PW_fb {av : List Value} {D : va_G} {cy : ClassId} {sz : Nat} {ws : va_W} : FrameBlind (va_Pc av (PW D cy sz ws)) := by
  intro a U g mk q
  obtain ⟨q0, q1, qP, qK, qD, qN⟩ := q
  exact ⟨q0, q1, qP, va_K.moved (u := U) (U := U.calling g mk a) (Vm.Alike.refl U.vm) qK, qD, NW.same (s := U) (U := U.calling g mk a) rfl qN⟩
theorem PW_pre {D : va_G} {cy : ClassId} {ws : va_W} {A : Nat → Prop} {s : State} {H : Heap} {av : List Value} (hP : va_P D vwCl ws H) (hK : va_K D vwCl [(cy, .int)] s) (hD : va_D A ws) (hN : NW s) : ∀ U : State, U.heap = H → s.WarmedH U.vm → va_Pc av (PW D cy H.size ws) av.toArray U :=
  fun U hU hW => ⟨rfl, by rw [hU], by rw [hU]; exact hP, va_K.moved hW.alike hK, hD.weaken (fun _ _ _ _ => trivial), hN.warm hW⟩
theorem QW_mk {D : va_G} {cy : ClassId} {ws : va_W} {A : Nat → Prop} {s t : State} {H : Heap} (hP : va_P D vwCl ws H) (hK : va_K D vwCl [(cy, .int)] s) (hD : va_D A ws) (ht : t.heap = H) (hW : s.WarmedH t.vm) : QW D cy A ws () t :=
  ⟨by rw [ht]; exact hP, va_K.moved hW.alike hK, hD⟩
theorem jn {A0 : Nat → Prop} {D : va_G} {cy : ClassId} {ws wc wr w1 ws' : va_W} {H H1 : Heap} {t : State} {u : Unit} (hP : va_P D vwCl ws H) (hD : va_D A0 ws) (isC isR : List Nat) (hC : isC.map (fun i => ws[i]?) = wc.map some) (hR : isR.map (fun i => ws[i]?) = wr.map some) (hn : va_nd isR = true) (hdis : ∀ i ∈ isR, i ∉ isC)
    (hk : ∀ q : Nat, q < H.size → ¬ va_A wc H.size q → H1[q]? = H[q]?) (hF : ∀ q, va_A wc H.size q → A0 q) (hB : QW D cy (va_A wc H.size) w1 u t) (ht : t.heap = H1) (perm : List Nat) (hp : perm.filterMap (fun i => (wr ++ w1)[i]?) = ws') (hpn : va_nd perm = true) (hp2 : perm.map (fun i => (wr ++ w1)[i]?) = ws'.map some) : va_P D vwCl ws' H1 ∧ va_D A0 ws' := by
  obtain ⟨hP1, _, hD1⟩ := hB
  rw [ht] at hP1
  obtain ⟨h1, h2⟩ := va_join hP hD isC isR hC hR hn hdis hk hF hP1 hD1
  exact ⟨h1.sub perm hp, h2.sub perm hpn hp2⟩
def gin {α : Type} (i : Int32) (n : Nat) (x : Option α) : Option α := if i < 0 ∨ n ≤ i.toNatClampNeg then none else x
theorem gin_some {α : Type} {i : Int32} {n : Nat} {x : Option α} {y : α} (h : gin i n x = some y) : vp_in i n ∧ x = some y := by
  unfold gin at h
  split at h
  · cases h
  · exact ⟨by assumption, h⟩
theorem gin_of {α : Type} {i : Int32} {n : Nat} {x : Option α} (h : vp_in i n) : gin i n x = x := if_neg h
theorem gin_nI {α : Type} {k n : Nat} {x : Option α} (h : k < n) (hn : n < 2 ^ 31) : gin (nI k) n x = x := gin_of (vp_in_nI h hn)
def gnz {α : Type} (y : Int32) (x : Option α) : Option α := if y = 0 then none else x
theorem gnz_some {α : Type} {i : Int32} {x : Option α} {y : α} (h : gnz i x = some y) : ¬ i = 0 ∧ x = some y := by
  unfold gnz at h
  split at h
  · cases h
  · exact ⟨by assumption, h⟩
theorem gnz_of {α : Type} {i : Int32} {x : Option α} (h : ¬ i = 0) : gnz i x = x := if_neg h
def gnl {α : Type} (y : Int64) (x : Option α) : Option α := if y = 0 then none else x
theorem gnl_some {α : Type} {i : Int64} {x : Option α} {y : α} (h : gnl i x = some y) : ¬ i = 0 ∧ x = some y := by
  unfold gnl at h
  split at h
  · cases h
  · exact ⟨by assumption, h⟩
theorem gnl_of {α : Type} {i : Int64} {x : Option α} (h : ¬ i = 0) : gnl i x = x := if_neg h
def bd {α β : Type} (x : Option α) (k : α → Option β) : Option β := match x with
  | none => none
  | some a => k a
theorem bd_some {α β : Type} {x : Option α} {k : α → Option β} {y : β} (h : bd x k = some y) : ∃ a, x = some a ∧ k a = some y := by
  cases x with
  | none => cases h
  | some a => exact ⟨a, rfl, h⟩
theorem bd_of {α β : Type} {x : Option α} {k : α → Option β} {a : α} (h : x = some a) : bd x k = k a := by rw [h]; rfl
def bs {α β : Type} (x : Option (α ⊕ β)) (k : β → Option α) : Option α := match x with
  | none => none
  | some (.inl a) => some a
  | some (.inr b) => k b
theorem bs_some {α β : Type} {x : Option (α ⊕ β)} {k : β → Option α} {y : α} (h : bs x k = some y) : ∃ r, x = some r ∧ (∀ q, r = .inl q → q = y) ∧ (∀ q, r = .inr q → k q = some y) := by
  cases x with
  | none => cases h
  | some r =>
    refine ⟨r, rfl, ?_, ?_⟩
    · intro q e
      subst e
      exact Option.some.inj h
    · intro q e
      subst e
      exact h
theorem bs_l {α β : Type} {x : Option (α ⊕ β)} {k : β → Option α} {a : α} (h : x = some (.inl a)) : bs x k = some a := by rw [h]; rfl
theorem bs_r {α β : Type} {x : Option (α ⊕ β)} {k : β → Option α} {b : β} (h : x = some (.inr b)) : bs x k = k b := by rw [h]; rfl
def bt {α β γ : Type} (x : Option (α ⊕ β)) (k : β → Option (α ⊕ γ)) : Option (α ⊕ γ) := match x with
  | none => none
  | some (.inl a) => some (.inl a)
  | some (.inr b) => k b
theorem bt_some {α β γ : Type} {x : Option (α ⊕ β)} {k : β → Option (α ⊕ γ)} {y : α ⊕ γ} (h : bt x k = some y) : ∃ r, x = some r ∧ (∀ q, r = .inl q → y = .inl q) ∧ (∀ q, r = .inr q → k q = some y) := by
  cases x with
  | none => cases h
  | some r =>
    refine ⟨r, rfl, ?_, ?_⟩
    · intro q e
      subst e
      exact (Option.some.inj h).symm
    · intro q e
      subst e
      exact h
theorem bt_l {α β γ : Type} {x : Option (α ⊕ β)} {k : β → Option (α ⊕ γ)} {a : α} (h : x = some (.inl a)) : bt x k = some (.inl a) := by rw [h]; rfl
theorem bt_r {α β γ : Type} {x : Option (α ⊕ β)} {k : β → Option (α ⊕ γ)} {b : β} (h : x = some (.inr b)) : bt x k = k b := by rw [h]; rfl
def FU : Nat := 70000
/-- a table switch whose cases are 0 .. n - 1: none of them -/
theorem tb_out {x : Int32} {n : Nat} (hn : n < 2 ^ 31) (h : ∀ k, k < n → ¬ x = nI k) : x.toInt < 0 ∨ (n : Int) - 1 < x.toInt := by
  rcases pk_ix x hn with h1 | h1 | ⟨j, h1, h2⟩
  · exact Or.inl (Int32.lt_iff_toInt_lt.mp h1)
  · right
    have h2 := Int32.le_iff_toInt_le.mp h1
    rw [nI_toInt hn] at h2
    omega
  · exact absurd h2 (h j h1)
end
section
theorem dX1_init_0 : decode cX1_init 0 = .ok (.aload_n 0, 1) := by decide +kernel
theorem dX1_init_1 : decode cX1_init 1 = .ok (.invokespecial 3, 3) := by decide +kernel
theorem dX1_init_4 : decode cX1_init 4 = .ok (.aload_n 0, 1) := by decide +kernel
theorem dX1_init_5 : decode cX1_init 5 = .ok (.bipush 6, 2) := by decide +kernel
theorem dX1_init_7 : decode cX1_init 7 = .ok (.newarray .int, 2) := by decide +kernel
theorem dX1_init_9 : decode cX1_init 9 = .ok (.putfield 9, 3) := by decide +kernel
theorem dX1_init_12 : decode cX1_init 12 = .ok (.return_, 1) := by decide +kernel
theorem dX1_joined_0 : decode cX1_joined 0 = .ok (.aload_n 0, 1) := by decide +kernel
theorem dX1_joined_1 : decode cX1_joined 1 = .ok (.getfield 9, 3) := by decide +kernel
theorem dX1_joined_4 : decode cX1_joined 4 = .ok (.iload_n 1, 1) := by decide +kernel
theorem dX1_joined_5 : decode cX1_joined 5 = .ok (.iaload, 1) := by decide +kernel
theorem dX1_joined_6 : decode cX1_joined 6 = .ok (.iload_n 2, 1) := by decide +kernel
theorem dX1_joined_7 : decode cX1_joined 7 = .ok (.ishr, 1) := by decide +kernel
theorem dX1_joined_8 : decode cX1_joined 8 = .ok (.iconst 1, 1) := by decide +kernel
theorem dX1_joined_9 : decode cX1_joined 9 = .ok (.iand, 1) := by decide +kernel
theorem dX1_joined_10 : decode cX1_joined 10 = .ok (.ireturn, 1) := by decide +kernel
theorem dX1_join_0 : decode cX1_join 0 = .ok (.iload_n 3, 1) := by decide +kernel
theorem dX1_join_1 : decode cX1_join 1 = .ok (.ifCond .eq 30, 3) := by decide +kernel
theorem dX1_join_4 : decode cX1_join 4 = .ok (.aload_n 0, 1) := by decide +kernel
theorem dX1_join_5 : decode cX1_join 5 = .ok (.getfield 9, 3) := by decide +kernel
theorem dX1_join_8 : decode cX1_join 8 = .ok (.iload_n 1, 1) := by decide +kernel
theorem dX1_join_9 : decode cX1_join 9 = .ok (.dup2, 1) := by decide +kernel
theorem dX1_join_10 : decode cX1_join 10 = .ok (.iaload, 1) := by decide +kernel
theorem dX1_join_11 : decode cX1_join 11 = .ok (.iconst 1, 1) := by decide +kernel
theorem dX1_join_12 : decode cX1_join 12 = .ok (.iload_n 2, 1) := by decide +kernel
theorem dX1_join_13 : decode cX1_join 13 = .ok (.ishl, 1) := by decide +kernel
theorem dX1_join_14 : decode cX1_join 14 = .ok (.ior, 1) := by decide +kernel
theorem dX1_join_15 : decode cX1_join 15 = .ok (.iastore, 1) := by decide +kernel
theorem dX1_join_16 : decode cX1_join 16 = .ok (.aload_n 0, 1) := by decide +kernel
theorem dX1_join_17 : decode cX1_join 17 = .ok (.getfield 9, 3) := by decide +kernel
theorem dX1_join_20 : decode cX1_join 20 = .ok (.iload_n 2, 1) := by decide +kernel
theorem dX1_join_21 : decode cX1_join 21 = .ok (.dup2, 1) := by decide +kernel
theorem dX1_join_22 : decode cX1_join 22 = .ok (.iaload, 1) := by decide +kernel
theorem dX1_join_23 : decode cX1_join 23 = .ok (.iconst 1, 1) := by decide +kernel
theorem dX1_join_24 : decode cX1_join 24 = .ok (.iload_n 1, 1) := by decide +kernel
theorem dX1_join_25 : decode cX1_join 25 = .ok (.ishl, 1) := by decide +kernel
theorem dX1_join_26 : decode cX1_join 26 = .ok (.ior, 1) := by decide +kernel
theorem dX1_join_27 : decode cX1_join 27 = .ok (.iastore, 1) := by decide +kernel
theorem dX1_join_28 : decode cX1_join 28 = .ok (.goto 31, 3) := by decide +kernel
theorem dX1_join_31 : decode cX1_join 31 = .ok (.aload_n 0, 1) := by decide +kernel
theorem dX1_join_32 : decode cX1_join 32 = .ok (.getfield 9, 3) := by decide +kernel
theorem dX1_join_35 : decode cX1_join 35 = .ok (.iload_n 1, 1) := by decide +kernel
theorem dX1_join_36 : decode cX1_join 36 = .ok (.dup2, 1) := by decide +kernel
theorem dX1_join_37 : decode cX1_join 37 = .ok (.iaload, 1) := by decide +kernel
theorem dX1_join_38 : decode cX1_join 38 = .ok (.iconst 1, 1) := by decide +kernel
theorem dX1_join_39 : decode cX1_join 39 = .ok (.iload_n 2, 1) := by decide +kernel
theorem dX1_join_40 : decode cX1_join 40 = .ok (.ishl, 1) := by decide +kernel
theorem dX1_join_41 : decode cX1_join 41 = .ok (.iconst (-1), 1) := by decide +kernel
theorem dX1_join_42 : decode cX1_join 42 = .ok (.ixor, 1) := by decide +kernel
theorem dX1_join_43 : decode cX1_join 43 = .ok (.iand, 1) := by decide +kernel
theorem dX1_join_44 : decode cX1_join 44 = .ok (.iastore, 1) := by decide +kernel
theorem dX1_join_45 : decode cX1_join 45 = .ok (.aload_n 0, 1) := by decide +kernel
theorem dX1_join_46 : decode cX1_join 46 = .ok (.getfield 9, 3) := by decide +kernel
theorem dX1_join_49 : decode cX1_join 49 = .ok (.iload_n 2, 1) := by decide +kernel
theorem dX1_join_50 : decode cX1_join 50 = .ok (.dup2, 1) := by decide +kernel
theorem dX1_join_51 : decode cX1_join 51 = .ok (.iaload, 1) := by decide +kernel
theorem dX1_join_52 : decode cX1_join 52 = .ok (.iconst 1, 1) := by decide +kernel
theorem dX1_join_53 : decode cX1_join 53 = .ok (.iload_n 1, 1) := by decide +kernel
theorem dX1_join_54 : decode cX1_join 54 = .ok (.ishl, 1) := by decide +kernel
theorem dX1_join_55 : decode cX1_join 55 = .ok (.iconst (-1), 1) := by decide +kernel
theorem dX1_join_56 : decode cX1_join 56 = .ok (.ixor, 1) := by decide +kernel
theorem dX1_join_57 : decode cX1_join 57 = .ok (.iand, 1) := by decide +kernel
theorem dX1_join_58 : decode cX1_join 58 = .ok (.iastore, 1) := by decide +kernel
theorem dX1_join_59 : decode cX1_join 59 = .ok (.return_, 1) := by decide +kernel
set_option maxRecDepth 20000 in
theorem ggX1_lines_X1_likeLines : GoodIn wsX1_lines wsX1_likeLines := goodIn_r _ [5, 6, 7, 8, 4, 9, 10, 11, 12, 13, 14, 15, 16, 17] (by decide +kernel) (by decide +kernel)
set_option maxRecDepth 20000 in
theorem gX1_lines_X1_likeLines : GoodIn wsX1_lines (wsV RX1 15 RX1 yX1_likeLines wsX1_likeLines) := goodIn_app (goodIn_of _ (by decide +kernel)) ggX1_lines_X1_likeLines
theorem dX1_lines_0 : decode cX1_lines 0 = .ok (.aload_n 0, 1) := by decide +kernel
theorem dX1_lines_1 : decode cX1_lines 1 = .ok (.bipush 63, 2) := by decide +kernel
theorem dX1_lines_3 : decode cX1_lines 3 = .ok (.iconst 0, 1) := by decide +kernel
theorem dX1_lines_4 : decode cX1_lines 4 = .ok (.invokevirtual 15, 3) := by decide +kernel
theorem dX1_lines_7 : decode cX1_lines 7 = .ok (.ireturn, 1) := by decide +kernel
theorem dX1_alikeTo_0 : decode cX1_alikeTo 0 = .ok (.iload_n 1, 1) := by decide +kernel
theorem dX1_alikeTo_1 : decode cX1_alikeTo 1 = .ok (.iload_n 0, 1) := by decide +kernel
theorem dX1_alikeTo_2 : decode cX1_alikeTo 2 = .ok (.ishr, 1) := by decide +kernel
theorem dX1_alikeTo_3 : decode cX1_alikeTo 3 = .ok (.iconst 1, 1) := by decide +kernel
theorem dX1_alikeTo_4 : decode cX1_alikeTo 4 = .ok (.iand, 1) := by decide +kernel
theorem dX1_alikeTo_5 : decode cX1_alikeTo 5 = .ok (.iconst 1, 1) := by decide +kernel
theorem dX1_alikeTo_6 : decode cX1_alikeTo 6 = .ok (.if_icmp .ne 7, 3) := by decide +kernel
theorem dX1_alikeTo_9 : decode cX1_alikeTo 9 = .ok (.iload_n 1, 1) := by decide +kernel
theorem dX1_alikeTo_10 : decode cX1_alikeTo 10 = .ok (.goto 6, 3) := by decide +kernel
theorem dX1_alikeTo_13 : decode cX1_alikeTo 13 = .ok (.iload_n 1, 1) := by decide +kernel
theorem dX1_alikeTo_14 : decode cX1_alikeTo 14 = .ok (.iconst (-1), 1) := by decide +kernel
theorem dX1_alikeTo_15 : decode cX1_alikeTo 15 = .ok (.ixor, 1) := by decide +kernel
theorem dX1_alikeTo_16 : decode cX1_alikeTo 16 = .ok (.ireturn, 1) := by decide +kernel
set_option maxRecDepth 20000 in
theorem ggX1_likeLines_X1_alikeTo : GoodIn wsX1_likeLines wsX1_alikeTo := goodIn_r _ [5] (by decide +kernel) (by decide +kernel)
set_option maxRecDepth 20000 in
theorem gX1_likeLines_X1_alikeTo : GoodIn wsX1_likeLines (va_wsS RX1 19 yX1_alikeTo wsX1_alikeTo) := goodIn_app (goodIn_of _ (by decide +kernel)) ggX1_likeLines_X1_alikeTo
set_option maxRecDepth 20000 in
theorem ggX1_likeLines_J6_bitCount_0f7a4 : GoodIn wsX1_likeLines wsJ6_bitCount_0f7a4 := goodIn_r _ [9, 10, 11, 12] (by decide +kernel) (by decide +kernel)
set_option maxRecDepth 20000 in
theorem gX1_likeLines_J6_bitCount_0f7a4 : GoodIn wsX1_likeLines (va_wsS RX1 22 yJ6_bitCount_0f7a4 wsJ6_bitCount_0f7a4) := goodIn_app (goodIn_of _ (by decide +kernel)) ggX1_likeLines_J6_bitCount_0f7a4
theorem dX1_likeLines_0 : decode cX1_likeLines 0 = .ok (.iconst 0, 1) := by decide +kernel
theorem dX1_likeLines_1 : decode cX1_likeLines 1 = .ok (.istore_n 3, 1) := by decide +kernel
theorem dX1_likeLines_2 : decode cX1_likeLines 2 = .ok (.iconst 0, 1) := by decide +kernel
theorem dX1_likeLines_3 : decode cX1_likeLines 3 = .ok (.istore 4, 2) := by decide +kernel
theorem dX1_likeLines_5 : decode cX1_likeLines 5 = .ok (.iload 4, 2) := by decide +kernel
theorem dX1_likeLines_7 : decode cX1_likeLines 7 = .ok (.bipush 6, 2) := by decide +kernel
theorem dX1_likeLines_9 : decode cX1_likeLines 9 = .ok (.if_icmp .ge 41, 3) := by decide +kernel
theorem dX1_likeLines_12 : decode cX1_likeLines 12 = .ok (.iload_n 1, 1) := by decide +kernel
theorem dX1_likeLines_13 : decode cX1_likeLines 13 = .ok (.iload 4, 2) := by decide +kernel
theorem dX1_likeLines_15 : decode cX1_likeLines 15 = .ok (.ishr, 1) := by decide +kernel
theorem dX1_likeLines_16 : decode cX1_likeLines 16 = .ok (.iconst 1, 1) := by decide +kernel
theorem dX1_likeLines_17 : decode cX1_likeLines 17 = .ok (.iand, 1) := by decide +kernel
theorem dX1_likeLines_18 : decode cX1_likeLines 18 = .ok (.iconst 1, 1) := by decide +kernel
theorem dX1_likeLines_19 : decode cX1_likeLines 19 = .ok (.if_icmp .ne 25, 3) := by decide +kernel
theorem dX1_likeLines_22 : decode cX1_likeLines 22 = .ok (.iload_n 3, 1) := by decide +kernel
theorem dX1_likeLines_23 : decode cX1_likeLines 23 = .ok (.aload_n 0, 1) := by decide +kernel
theorem dX1_likeLines_24 : decode cX1_likeLines 24 = .ok (.getfield 9, 3) := by decide +kernel
theorem dX1_likeLines_27 : decode cX1_likeLines 27 = .ok (.iload 4, 2) := by decide +kernel
theorem dX1_likeLines_29 : decode cX1_likeLines 29 = .ok (.iaload, 1) := by decide +kernel
theorem dX1_likeLines_30 : decode cX1_likeLines 30 = .ok (.iload_n 1, 1) := by decide +kernel
theorem dX1_likeLines_31 : decode cX1_likeLines 31 = .ok (.iand, 1) := by decide +kernel
theorem dX1_likeLines_32 : decode cX1_likeLines 32 = .ok (.iload 4, 2) := by decide +kernel
theorem dX1_likeLines_34 : decode cX1_likeLines 34 = .ok (.iload_n 2, 1) := by decide +kernel
theorem dX1_likeLines_35 : decode cX1_likeLines 35 = .ok (.invokestatic 19, 3) := by decide +kernel
theorem dX1_likeLines_38 : decode cX1_likeLines 38 = .ok (.iand, 1) := by decide +kernel
theorem dX1_likeLines_39 : decode cX1_likeLines 39 = .ok (.invokestatic 22, 3) := by decide +kernel
theorem dX1_likeLines_42 : decode cX1_likeLines 42 = .ok (.iadd, 1) := by decide +kernel
theorem dX1_likeLines_43 : decode cX1_likeLines 43 = .ok (.istore_n 3, 1) := by decide +kernel
theorem dX1_likeLines_44 : decode cX1_likeLines 44 = .ok (.iinc 4 1, 3) := by decide +kernel
theorem dX1_likeLines_47 : decode cX1_likeLines 47 = .ok (.goto (-42), 3) := by decide +kernel
theorem dX1_likeLines_50 : decode cX1_likeLines 50 = .ok (.iload_n 3, 1) := by decide +kernel
theorem dX1_likeLines_51 : decode cX1_likeLines 51 = .ok (.iconst 2, 1) := by decide +kernel
theorem dX1_likeLines_52 : decode cX1_likeLines 52 = .ok (.idiv, 1) := by decide +kernel
theorem dX1_likeLines_53 : decode cX1_likeLines 53 = .ok (.ireturn, 1) := by decide +kernel
set_option maxRecDepth 20000 in
theorem ggX1_cutLikeLines_X1_alikeTo : GoodIn wsX1_cutLikeLines wsX1_alikeTo := goodIn_r _ [5] (by decide +kernel) (by decide +kernel)
set_option maxRecDepth 20000 in
theorem gX1_cutLikeLines_X1_alikeTo : GoodIn wsX1_cutLikeLines (va_wsS RX1 19 yX1_alikeTo wsX1_alikeTo) := goodIn_app (goodIn_of _ (by decide +kernel)) ggX1_cutLikeLines_X1_alikeTo
theorem dX1_cutLikeLines_0 : decode cX1_cutLikeLines 0 = .ok (.iconst 0, 1) := by decide +kernel
theorem dX1_cutLikeLines_1 : decode cX1_cutLikeLines 1 = .ok (.istore_n 2, 1) := by decide +kernel
theorem dX1_cutLikeLines_2 : decode cX1_cutLikeLines 2 = .ok (.iload_n 2, 1) := by decide +kernel
theorem dX1_cutLikeLines_3 : decode cX1_cutLikeLines 3 = .ok (.bipush 6, 2) := by decide +kernel
theorem dX1_cutLikeLines_5 : decode cX1_cutLikeLines 5 = .ok (.if_icmp .ge 25, 3) := by decide +kernel
theorem dX1_cutLikeLines_8 : decode cX1_cutLikeLines 8 = .ok (.aload_n 0, 1) := by decide +kernel
theorem dX1_cutLikeLines_9 : decode cX1_cutLikeLines 9 = .ok (.getfield 9, 3) := by decide +kernel
theorem dX1_cutLikeLines_12 : decode cX1_cutLikeLines 12 = .ok (.iload_n 2, 1) := by decide +kernel
theorem dX1_cutLikeLines_13 : decode cX1_cutLikeLines 13 = .ok (.dup2, 1) := by decide +kernel
theorem dX1_cutLikeLines_14 : decode cX1_cutLikeLines 14 = .ok (.iaload, 1) := by decide +kernel
theorem dX1_cutLikeLines_15 : decode cX1_cutLikeLines 15 = .ok (.iload_n 2, 1) := by decide +kernel
theorem dX1_cutLikeLines_16 : decode cX1_cutLikeLines 16 = .ok (.iload_n 1, 1) := by decide +kernel
theorem dX1_cutLikeLines_17 : decode cX1_cutLikeLines 17 = .ok (.invokestatic 19, 3) := by decide +kernel
theorem dX1_cutLikeLines_20 : decode cX1_cutLikeLines 20 = .ok (.iconst (-1), 1) := by decide +kernel
theorem dX1_cutLikeLines_21 : decode cX1_cutLikeLines 21 = .ok (.ixor, 1) := by decide +kernel
theorem dX1_cutLikeLines_22 : decode cX1_cutLikeLines 22 = .ok (.iand, 1) := by decide +kernel
theorem dX1_cutLikeLines_23 : decode cX1_cutLikeLines 23 = .ok (.iastore, 1) := by decide +kernel
theorem dX1_cutLikeLines_24 : decode cX1_cutLikeLines 24 = .ok (.iinc 2 1, 3) := by decide +kernel
theorem dX1_cutLikeLines_27 : decode cX1_cutLikeLines 27 = .ok (.goto (-25), 3) := by decide +kernel
theorem dX1_cutLikeLines_30 : decode cX1_cutLikeLines 30 = .ok (.return_, 1) := by decide +kernel
set_option maxRecDepth 20000 in
theorem ggX1_bestColouring_X1_bestColouringOf : GoodIn wsX1_bestColouring wsX1_bestColouringOf := goodIn_r _ [5, 6, 7, 8, 4, 9, 10, 11, 12, 13, 14, 15, 16, 17, 18, 19, 20, 21] (by decide +kernel) (by decide +kernel)
set_option maxRecDepth 20000 in
theorem gX1_bestColouring_X1_bestColouringOf : GoodIn wsX1_bestColouring (wsV RX1 28 RX1 yX1_bestColouringOf wsX1_bestColouringOf) := goodIn_app (goodIn_of _ (by decide +kernel)) ggX1_bestColouring_X1_bestColouringOf
theorem dX1_bestColouring_0 : decode cX1_bestColouring 0 = .ok (.aload_n 0, 1) := by decide +kernel
theorem dX1_bestColouring_1 : decode cX1_bestColouring 1 = .ok (.bipush 63, 2) := by decide +kernel
theorem dX1_bestColouring_3 : decode cX1_bestColouring 3 = .ok (.invokevirtual 28, 3) := by decide +kernel
theorem dX1_bestColouring_6 : decode cX1_bestColouring 6 = .ok (.ireturn, 1) := by decide +kernel
set_option maxRecDepth 20000 in
theorem ggX1_bestColouringOf_X1_likeLines : GoodIn wsX1_bestColouringOf wsX1_likeLines := goodIn_r _ [5, 6, 7, 8, 4, 9, 10, 11, 12, 13, 14, 15, 16, 17] (by decide +kernel) (by decide +kernel)
set_option maxRecDepth 20000 in
theorem gX1_bestColouringOf_X1_likeLines : GoodIn wsX1_bestColouringOf (wsV RX1 15 RX1 yX1_likeLines wsX1_likeLines) := goodIn_app (goodIn_of _ (by decide +kernel)) ggX1_bestColouringOf_X1_likeLines
theorem dX1_bestColouringOf_0 : decode cX1_bestColouringOf 0 = .ok (.iconst 0, 1) := by decide +kernel
theorem dX1_bestColouringOf_1 : decode cX1_bestColouringOf 1 = .ok (.istore_n 2, 1) := by decide +kernel
theorem dX1_bestColouringOf_2 : decode cX1_bestColouringOf 2 = .ok (.aload_n 0, 1) := by decide +kernel
theorem dX1_bestColouringOf_3 : decode cX1_bestColouringOf 3 = .ok (.iload_n 1, 1) := by decide +kernel
theorem dX1_bestColouringOf_4 : decode cX1_bestColouringOf 4 = .ok (.iconst 0, 1) := by decide +kernel
theorem dX1_bestColouringOf_5 : decode cX1_bestColouringOf 5 = .ok (.invokevirtual 15, 3) := by decide +kernel
theorem dX1_bestColouringOf_8 : decode cX1_bestColouringOf 8 = .ok (.istore_n 3, 1) := by decide +kernel
theorem dX1_bestColouringOf_9 : decode cX1_bestColouringOf 9 = .ok (.iconst 2, 1) := by decide +kernel
theorem dX1_bestColouringOf_10 : decode cX1_bestColouringOf 10 = .ok (.istore 4, 2) := by decide +kernel
theorem dX1_bestColouringOf_12 : decode cX1_bestColouringOf 12 = .ok (.iload 4, 2) := by decide +kernel
theorem dX1_bestColouringOf_14 : decode cX1_bestColouringOf 14 = .ok (.bipush 63, 2) := by decide +kernel
theorem dX1_bestColouringOf_16 : decode cX1_bestColouringOf 16 = .ok (.if_icmp .gt 30, 3) := by decide +kernel
theorem dX1_bestColouringOf_19 : decode cX1_bestColouringOf 19 = .ok (.aload_n 0, 1) := by decide +kernel
theorem dX1_bestColouringOf_20 : decode cX1_bestColouringOf 20 = .ok (.iload_n 1, 1) := by decide +kernel
theorem dX1_bestColouringOf_21 : decode cX1_bestColouringOf 21 = .ok (.iload 4, 2) := by decide +kernel
theorem dX1_bestColouringOf_23 : decode cX1_bestColouringOf 23 = .ok (.invokevirtual 15, 3) := by decide +kernel
theorem dX1_bestColouringOf_26 : decode cX1_bestColouringOf 26 = .ok (.istore 5, 2) := by decide +kernel
theorem dX1_bestColouringOf_28 : decode cX1_bestColouringOf 28 = .ok (.iload 5, 2) := by decide +kernel
theorem dX1_bestColouringOf_30 : decode cX1_bestColouringOf 30 = .ok (.iload_n 3, 1) := by decide +kernel
theorem dX1_bestColouringOf_31 : decode cX1_bestColouringOf 31 = .ok (.if_icmp .ge 9, 3) := by decide +kernel
theorem dX1_bestColouringOf_34 : decode cX1_bestColouringOf 34 = .ok (.iload 5, 2) := by decide +kernel
theorem dX1_bestColouringOf_36 : decode cX1_bestColouringOf 36 = .ok (.istore_n 3, 1) := by decide +kernel
theorem dX1_bestColouringOf_37 : decode cX1_bestColouringOf 37 = .ok (.iload 4, 2) := by decide +kernel
theorem dX1_bestColouringOf_39 : decode cX1_bestColouringOf 39 = .ok (.istore_n 2, 1) := by decide +kernel
theorem dX1_bestColouringOf_40 : decode cX1_bestColouringOf 40 = .ok (.iinc 4 2, 3) := by decide +kernel
theorem dX1_bestColouringOf_43 : decode cX1_bestColouringOf 43 = .ok (.goto (-31), 3) := by decide +kernel
theorem dX1_bestColouringOf_46 : decode cX1_bestColouringOf 46 = .ok (.iload_n 2, 1) := by decide +kernel
theorem dX1_bestColouringOf_47 : decode cX1_bestColouringOf 47 = .ok (.ireturn, 1) := by decide +kernel
set_option maxRecDepth 20000 in
theorem ggX1_twoColoured_X1_bestColouringOf : GoodIn wsX1_twoColoured wsX1_bestColouringOf := goodIn_r _ [5, 6, 7, 8, 4, 9, 10, 11, 12, 13, 14, 15, 16, 17, 18, 19, 20, 21] (by decide +kernel) (by decide +kernel)
set_option maxRecDepth 20000 in
theorem gX1_twoColoured_X1_bestColouringOf : GoodIn wsX1_twoColoured (wsV RX1 28 RX1 yX1_bestColouringOf wsX1_bestColouringOf) := goodIn_app (goodIn_of _ (by decide +kernel)) ggX1_twoColoured_X1_bestColouringOf
set_option maxRecDepth 20000 in
theorem ggX1_twoColoured_X1_likeLines : GoodIn wsX1_twoColoured wsX1_likeLines := goodIn_r _ [9, 10, 11, 12, 4, 13, 14, 15, 16, 17, 18, 19, 20, 21] (by decide +kernel) (by decide +kernel)
set_option maxRecDepth 20000 in
theorem gX1_twoColoured_X1_likeLines : GoodIn wsX1_twoColoured (wsV RX1 15 RX1 yX1_likeLines wsX1_likeLines) := goodIn_app (goodIn_of _ (by decide +kernel)) ggX1_twoColoured_X1_likeLines
theorem dX1_twoColoured_0 : decode cX1_twoColoured 0 = .ok (.aload_n 0, 1) := by decide +kernel
theorem dX1_twoColoured_1 : decode cX1_twoColoured 1 = .ok (.iload_n 1, 1) := by decide +kernel
theorem dX1_twoColoured_2 : decode cX1_twoColoured 2 = .ok (.aload_n 0, 1) := by decide +kernel
theorem dX1_twoColoured_3 : decode cX1_twoColoured 3 = .ok (.iload_n 1, 1) := by decide +kernel
theorem dX1_twoColoured_4 : decode cX1_twoColoured 4 = .ok (.invokevirtual 28, 3) := by decide +kernel
theorem dX1_twoColoured_7 : decode cX1_twoColoured 7 = .ok (.invokevirtual 15, 3) := by decide +kernel
theorem dX1_twoColoured_10 : decode cX1_twoColoured 10 = .ok (.ifCond .ne 7, 3) := by decide +kernel
theorem dX1_twoColoured_13 : decode cX1_twoColoured 13 = .ok (.iconst 1, 1) := by decide +kernel
theorem dX1_twoColoured_14 : decode cX1_twoColoured 14 = .ok (.goto 4, 3) := by decide +kernel
theorem dX1_twoColoured_17 : decode cX1_twoColoured 17 = .ok (.iconst 0, 1) := by decide +kernel
theorem dX1_twoColoured_18 : decode cX1_twoColoured 18 = .ok (.ireturn, 1) := by decide +kernel
set_option maxRecDepth 20000 in
theorem ggX1_sets_J6_bitCount_0f7a4 : GoodIn wsX1_sets wsJ6_bitCount_0f7a4 := goodIn_r _ [4, 5, 6, 7] (by decide +kernel) (by decide +kernel)
set_option maxRecDepth 20000 in
theorem gX1_sets_J6_bitCount_0f7a4 : GoodIn wsX1_sets (va_wsS RX1 22 yJ6_bitCount_0f7a4 wsJ6_bitCount_0f7a4) := goodIn_app (goodIn_of _ (by decide +kernel)) ggX1_sets_J6_bitCount_0f7a4
theorem dX1_sets_0 : decode cX1_sets 0 = .ok (.iconst 0, 1) := by decide +kernel
theorem dX1_sets_1 : decode cX1_sets 1 = .ok (.istore_n 1, 1) := by decide +kernel
theorem dX1_sets_2 : decode cX1_sets 2 = .ok (.iconst 0, 1) := by decide +kernel
theorem dX1_sets_3 : decode cX1_sets 3 = .ok (.istore_n 2, 1) := by decide +kernel
theorem dX1_sets_4 : decode cX1_sets 4 = .ok (.iload_n 2, 1) := by decide +kernel
theorem dX1_sets_5 : decode cX1_sets 5 = .ok (.bipush 63, 2) := by decide +kernel
theorem dX1_sets_7 : decode cX1_sets 7 = .ok (.if_icmp .gt 20, 3) := by decide +kernel
theorem dX1_sets_10 : decode cX1_sets 10 = .ok (.iload_n 2, 1) := by decide +kernel
theorem dX1_sets_11 : decode cX1_sets 11 = .ok (.invokestatic 22, 3) := by decide +kernel
theorem dX1_sets_14 : decode cX1_sets 14 = .ok (.iload_n 0, 1) := by decide +kernel
theorem dX1_sets_15 : decode cX1_sets 15 = .ok (.if_icmp .ne 6, 3) := by decide +kernel
theorem dX1_sets_18 : decode cX1_sets 18 = .ok (.iinc 1 1, 3) := by decide +kernel
theorem dX1_sets_21 : decode cX1_sets 21 = .ok (.iinc 2 1, 3) := by decide +kernel
theorem dX1_sets_24 : decode cX1_sets 24 = .ok (.goto (-20), 3) := by decide +kernel
theorem dX1_sets_27 : decode cX1_sets 27 = .ok (.iload_n 1, 1) := by decide +kernel
theorem dX1_sets_28 : decode cX1_sets 28 = .ok (.ireturn, 1) := by decide +kernel
set_option maxRecDepth 20000 in
theorem ggX1_passing_J6_bitCount_0f7a4 : GoodIn wsX1_passing wsJ6_bitCount_0f7a4 := goodIn_r _ [4, 5, 6, 7] (by decide +kernel) (by decide +kernel)
set_option maxRecDepth 20000 in
theorem gX1_passing_J6_bitCount_0f7a4 : GoodIn wsX1_passing (va_wsS RX1 22 yJ6_bitCount_0f7a4 wsJ6_bitCount_0f7a4) := goodIn_app (goodIn_of _ (by decide +kernel)) ggX1_passing_J6_bitCount_0f7a4
set_option maxRecDepth 20000 in
theorem ggX1_passing_X1_twoColoured : GoodIn wsX1_passing wsX1_twoColoured := goodIn_r _ [12, 13, 14, 15, 11, 16, 17, 18, 19, 20, 21, 22, 23, 24, 1, 2, 3, 4, 5, 6, 7, 25] (by decide +kernel) (by decide +kernel)
set_option maxRecDepth 20000 in
theorem gX1_passing_X1_twoColoured : GoodIn wsX1_passing (wsV RX1 31 RX1 yX1_twoColoured wsX1_twoColoured) := goodIn_app (goodIn_of _ (by decide +kernel)) ggX1_passing_X1_twoColoured
theorem dX1_passing_0 : decode cX1_passing 0 = .ok (.iconst 0, 1) := by decide +kernel
theorem dX1_passing_1 : decode cX1_passing 1 = .ok (.istore_n 2, 1) := by decide +kernel
theorem dX1_passing_2 : decode cX1_passing 2 = .ok (.iconst 0, 1) := by decide +kernel
theorem dX1_passing_3 : decode cX1_passing 3 = .ok (.istore_n 3, 1) := by decide +kernel
theorem dX1_passing_4 : decode cX1_passing 4 = .ok (.iload_n 3, 1) := by decide +kernel
theorem dX1_passing_5 : decode cX1_passing 5 = .ok (.bipush 63, 2) := by decide +kernel
theorem dX1_passing_7 : decode cX1_passing 7 = .ok (.if_icmp .gt 28, 3) := by decide +kernel
theorem dX1_passing_10 : decode cX1_passing 10 = .ok (.iload_n 3, 1) := by decide +kernel
theorem dX1_passing_11 : decode cX1_passing 11 = .ok (.invokestatic 22, 3) := by decide +kernel
theorem dX1_passing_14 : decode cX1_passing 14 = .ok (.iload_n 1, 1) := by decide +kernel
theorem dX1_passing_15 : decode cX1_passing 15 = .ok (.if_icmp .ne 14, 3) := by decide +kernel
theorem dX1_passing_18 : decode cX1_passing 18 = .ok (.aload_n 0, 1) := by decide +kernel
theorem dX1_passing_19 : decode cX1_passing 19 = .ok (.iload_n 3, 1) := by decide +kernel
theorem dX1_passing_20 : decode cX1_passing 20 = .ok (.invokevirtual 31, 3) := by decide +kernel
theorem dX1_passing_23 : decode cX1_passing 23 = .ok (.ifCond .eq 6, 3) := by decide +kernel
theorem dX1_passing_26 : decode cX1_passing 26 = .ok (.iinc 2 1, 3) := by decide +kernel
theorem dX1_passing_29 : decode cX1_passing 29 = .ok (.iinc 3 1, 3) := by decide +kernel
theorem dX1_passing_32 : decode cX1_passing 32 = .ok (.goto (-28), 3) := by decide +kernel
theorem dX1_passing_35 : decode cX1_passing 35 = .ok (.iload_n 2, 1) := by decide +kernel
theorem dX1_passing_36 : decode cX1_passing 36 = .ok (.ireturn, 1) := by decide +kernel
theorem dX2_init_0 : decode cX2_init 0 = .ok (.aload_n 0, 1) := by decide +kernel
theorem dX2_init_1 : decode cX2_init 1 = .ok (.invokespecial 3, 3) := by decide +kernel
theorem dX2_init_4 : decode cX2_init 4 = .ok (.aload_n 0, 1) := by decide +kernel
theorem dX2_init_5 : decode cX2_init 5 = .ok (.bipush 8, 2) := by decide +kernel
theorem dX2_init_7 : decode cX2_init 7 = .ok (.newarray .int, 2) := by decide +kernel
theorem dX2_init_9 : decode cX2_init 9 = .ok (.putfield 9, 3) := by decide +kernel
theorem dX2_init_12 : decode cX2_init 12 = .ok (.aload_n 0, 1) := by decide +kernel
theorem dX2_init_13 : decode cX2_init 13 = .ok (.bipush 8, 2) := by decide +kernel
theorem dX2_init_15 : decode cX2_init 15 = .ok (.putfield 15, 3) := by decide +kernel
theorem dX2_init_18 : decode cX2_init 18 = .ok (.return_, 1) := by decide +kernel
theorem dX2_clear_0 : decode cX2_clear 0 = .ok (.aload_n 0, 1) := by decide +kernel
theorem dX2_clear_1 : decode cX2_clear 1 = .ok (.iload_n 1, 1) := by decide +kernel
theorem dX2_clear_2 : decode cX2_clear 2 = .ok (.putfield 15, 3) := by decide +kernel
theorem dX2_clear_5 : decode cX2_clear 5 = .ok (.iconst 0, 1) := by decide +kernel
theorem dX2_clear_6 : decode cX2_clear 6 = .ok (.istore_n 2, 1) := by decide +kernel
theorem dX2_clear_7 : decode cX2_clear 7 = .ok (.iload_n 2, 1) := by decide +kernel
theorem dX2_clear_8 : decode cX2_clear 8 = .ok (.bipush 8, 2) := by decide +kernel
theorem dX2_clear_10 : decode cX2_clear 10 = .ok (.if_icmp .ge 16, 3) := by decide +kernel
theorem dX2_clear_13 : decode cX2_clear 13 = .ok (.aload_n 0, 1) := by decide +kernel
theorem dX2_clear_14 : decode cX2_clear 14 = .ok (.getfield 9, 3) := by decide +kernel
theorem dX2_clear_17 : decode cX2_clear 17 = .ok (.iload_n 2, 1) := by decide +kernel
theorem dX2_clear_18 : decode cX2_clear 18 = .ok (.iconst 0, 1) := by decide +kernel
theorem dX2_clear_19 : decode cX2_clear 19 = .ok (.iastore, 1) := by decide +kernel
theorem dX2_clear_20 : decode cX2_clear 20 = .ok (.iinc 2 1, 3) := by decide +kernel
theorem dX2_clear_23 : decode cX2_clear 23 = .ok (.goto (-16), 3) := by decide +kernel
theorem dX2_clear_26 : decode cX2_clear 26 = .ok (.return_, 1) := by decide +kernel
theorem dX2_become_0 : decode cX2_become 0 = .ok (.aload_n 0, 1) := by decide +kernel
theorem dX2_become_1 : decode cX2_become 1 = .ok (.aload_n 1, 1) := by decide +kernel
theorem dX2_become_2 : decode cX2_become 2 = .ok (.getfield 15, 3) := by decide +kernel
theorem dX2_become_5 : decode cX2_become 5 = .ok (.putfield 15, 3) := by decide +kernel
theorem dX2_become_8 : decode cX2_become 8 = .ok (.iconst 0, 1) := by decide +kernel
theorem dX2_become_9 : decode cX2_become 9 = .ok (.istore_n 2, 1) := by decide +kernel
theorem dX2_become_10 : decode cX2_become 10 = .ok (.iload_n 2, 1) := by decide +kernel
theorem dX2_become_11 : decode cX2_become 11 = .ok (.bipush 8, 2) := by decide +kernel
theorem dX2_become_13 : decode cX2_become 13 = .ok (.if_icmp .ge 21, 3) := by decide +kernel
theorem dX2_become_16 : decode cX2_become 16 = .ok (.aload_n 0, 1) := by decide +kernel
theorem dX2_become_17 : decode cX2_become 17 = .ok (.getfield 9, 3) := by decide +kernel
theorem dX2_become_20 : decode cX2_become 20 = .ok (.iload_n 2, 1) := by decide +kernel
theorem dX2_become_21 : decode cX2_become 21 = .ok (.aload_n 1, 1) := by decide +kernel
theorem dX2_become_22 : decode cX2_become 22 = .ok (.getfield 9, 3) := by decide +kernel
theorem dX2_become_25 : decode cX2_become 25 = .ok (.iload_n 2, 1) := by decide +kernel
theorem dX2_become_26 : decode cX2_become 26 = .ok (.iaload, 1) := by decide +kernel
theorem dX2_become_27 : decode cX2_become 27 = .ok (.iastore, 1) := by decide +kernel
theorem dX2_become_28 : decode cX2_become 28 = .ok (.iinc 2 1, 3) := by decide +kernel
theorem dX2_become_31 : decode cX2_become 31 = .ok (.goto (-21), 3) := by decide +kernel
theorem dX2_become_34 : decode cX2_become 34 = .ok (.return_, 1) := by decide +kernel
theorem dX2_spell_0 : decode cX2_spell 0 = .ok (.aload_n 0, 1) := by decide +kernel
theorem dX2_spell_1 : decode cX2_spell 1 = .ok (.iload_n 2, 1) := by decide +kernel
theorem dX2_spell_2 : decode cX2_spell 2 = .ok (.putfield 15, 3) := by decide +kernel
theorem dX2_spell_5 : decode cX2_spell 5 = .ok (.iconst 0, 1) := by decide +kernel
theorem dX2_spell_6 : decode cX2_spell 6 = .ok (.istore_n 3, 1) := by decide +kernel
theorem dX2_spell_7 : decode cX2_spell 7 = .ok (.iload_n 3, 1) := by decide +kernel
theorem dX2_spell_8 : decode cX2_spell 8 = .ok (.aload_n 0, 1) := by decide +kernel
theorem dX2_spell_9 : decode cX2_spell 9 = .ok (.getfield 15, 3) := by decide +kernel
theorem dX2_spell_12 : decode cX2_spell 12 = .ok (.if_icmp .ge 27, 3) := by decide +kernel
theorem dX2_spell_15 : decode cX2_spell 15 = .ok (.aload_n 0, 1) := by decide +kernel
theorem dX2_spell_16 : decode cX2_spell 16 = .ok (.getfield 9, 3) := by decide +kernel
theorem dX2_spell_19 : decode cX2_spell 19 = .ok (.iload_n 3, 1) := by decide +kernel
theorem dX2_spell_20 : decode cX2_spell 20 = .ok (.iload_n 1, 1) := by decide +kernel
theorem dX2_spell_21 : decode cX2_spell 21 = .ok (.aload_n 0, 1) := by decide +kernel
theorem dX2_spell_22 : decode cX2_spell 22 = .ok (.getfield 15, 3) := by decide +kernel
theorem dX2_spell_25 : decode cX2_spell 25 = .ok (.iconst 1, 1) := by decide +kernel
theorem dX2_spell_26 : decode cX2_spell 26 = .ok (.isub, 1) := by decide +kernel
theorem dX2_spell_27 : decode cX2_spell 27 = .ok (.iload_n 3, 1) := by decide +kernel
theorem dX2_spell_28 : decode cX2_spell 28 = .ok (.isub, 1) := by decide +kernel
theorem dX2_spell_29 : decode cX2_spell 29 = .ok (.ishr, 1) := by decide +kernel
theorem dX2_spell_30 : decode cX2_spell 30 = .ok (.iconst 1, 1) := by decide +kernel
theorem dX2_spell_31 : decode cX2_spell 31 = .ok (.iand, 1) := by decide +kernel
theorem dX2_spell_32 : decode cX2_spell 32 = .ok (.iastore, 1) := by decide +kernel
theorem dX2_spell_33 : decode cX2_spell 33 = .ok (.iinc 3 1, 3) := by decide +kernel
theorem dX2_spell_36 : decode cX2_spell 36 = .ok (.goto (-29), 3) := by decide +kernel
theorem dX2_spell_39 : decode cX2_spell 39 = .ok (.return_, 1) := by decide +kernel
theorem dX2_total_0 : decode cX2_total 0 = .ok (.iconst 0, 1) := by decide +kernel
theorem dX2_total_1 : decode cX2_total 1 = .ok (.istore_n 1, 1) := by decide +kernel
theorem dX2_total_2 : decode cX2_total 2 = .ok (.iconst 0, 1) := by decide +kernel
theorem dX2_total_3 : decode cX2_total 3 = .ok (.istore_n 2, 1) := by decide +kernel
theorem dX2_total_4 : decode cX2_total 4 = .ok (.iload_n 2, 1) := by decide +kernel
theorem dX2_total_5 : decode cX2_total 5 = .ok (.aload_n 0, 1) := by decide +kernel
theorem dX2_total_6 : decode cX2_total 6 = .ok (.getfield 15, 3) := by decide +kernel
theorem dX2_total_9 : decode cX2_total 9 = .ok (.if_icmp .ge 18, 3) := by decide +kernel
theorem dX2_total_12 : decode cX2_total 12 = .ok (.iload_n 1, 1) := by decide +kernel
theorem dX2_total_13 : decode cX2_total 13 = .ok (.aload_n 0, 1) := by decide +kernel
theorem dX2_total_14 : decode cX2_total 14 = .ok (.getfield 9, 3) := by decide +kernel
theorem dX2_total_17 : decode cX2_total 17 = .ok (.iload_n 2, 1) := by decide +kernel
theorem dX2_total_18 : decode cX2_total 18 = .ok (.iaload, 1) := by decide +kernel
theorem dX2_total_19 : decode cX2_total 19 = .ok (.iadd, 1) := by decide +kernel
theorem dX2_total_20 : decode cX2_total 20 = .ok (.istore_n 1, 1) := by decide +kernel
theorem dX2_total_21 : decode cX2_total 21 = .ok (.iinc 2 1, 3) := by decide +kernel
theorem dX2_total_24 : decode cX2_total 24 = .ok (.goto (-20), 3) := by decide +kernel
theorem dX2_total_27 : decode cX2_total 27 = .ok (.iload_n 1, 1) := by decide +kernel
theorem dX2_total_28 : decode cX2_total 28 = .ok (.ireturn, 1) := by decide +kernel
theorem dX2_differing_0 : decode cX2_differing 0 = .ok (.iconst 0, 1) := by decide +kernel
theorem dX2_differing_1 : decode cX2_differing 1 = .ok (.istore_n 2, 1) := by decide +kernel
theorem dX2_differing_2 : decode cX2_differing 2 = .ok (.iconst 0, 1) := by decide +kernel
theorem dX2_differing_3 : decode cX2_differing 3 = .ok (.istore_n 3, 1) := by decide +kernel
theorem dX2_differing_4 : decode cX2_differing 4 = .ok (.iload_n 3, 1) := by decide +kernel
theorem dX2_differing_5 : decode cX2_differing 5 = .ok (.aload_n 0, 1) := by decide +kernel
theorem dX2_differing_6 : decode cX2_differing 6 = .ok (.getfield 15, 3) := by decide +kernel
theorem dX2_differing_9 : decode cX2_differing 9 = .ok (.if_icmp .ge 27, 3) := by decide +kernel
theorem dX2_differing_12 : decode cX2_differing 12 = .ok (.aload_n 0, 1) := by decide +kernel
theorem dX2_differing_13 : decode cX2_differing 13 = .ok (.getfield 9, 3) := by decide +kernel
theorem dX2_differing_16 : decode cX2_differing 16 = .ok (.iload_n 3, 1) := by decide +kernel
theorem dX2_differing_17 : decode cX2_differing 17 = .ok (.iaload, 1) := by decide +kernel
theorem dX2_differing_18 : decode cX2_differing 18 = .ok (.aload_n 1, 1) := by decide +kernel
theorem dX2_differing_19 : decode cX2_differing 19 = .ok (.getfield 9, 3) := by decide +kernel
theorem dX2_differing_22 : decode cX2_differing 22 = .ok (.iload_n 3, 1) := by decide +kernel
theorem dX2_differing_23 : decode cX2_differing 23 = .ok (.iaload, 1) := by decide +kernel
theorem dX2_differing_24 : decode cX2_differing 24 = .ok (.if_icmp .eq 6, 3) := by decide +kernel
theorem dX2_differing_27 : decode cX2_differing 27 = .ok (.iinc 2 1, 3) := by decide +kernel
theorem dX2_differing_30 : decode cX2_differing 30 = .ok (.iinc 3 1, 3) := by decide +kernel
theorem dX2_differing_33 : decode cX2_differing 33 = .ok (.goto (-29), 3) := by decide +kernel
theorem dX2_differing_36 : decode cX2_differing 36 = .ok (.iload_n 2, 1) := by decide +kernel
theorem dX2_differing_37 : decode cX2_differing 37 = .ok (.ireturn, 1) := by decide +kernel
theorem dX2_isAheadOf_0 : decode cX2_isAheadOf 0 = .ok (.iconst 0, 1) := by decide +kernel
theorem dX2_isAheadOf_1 : decode cX2_isAheadOf 1 = .ok (.istore_n 2, 1) := by decide +kernel
theorem dX2_isAheadOf_2 : decode cX2_isAheadOf 2 = .ok (.iload_n 2, 1) := by decide +kernel
theorem dX2_isAheadOf_3 : decode cX2_isAheadOf 3 = .ok (.aload_n 0, 1) := by decide +kernel
theorem dX2_isAheadOf_4 : decode cX2_isAheadOf 4 = .ok (.getfield 15, 3) := by decide +kernel
theorem dX2_isAheadOf_7 : decode cX2_isAheadOf 7 = .ok (.if_icmp .ge 45, 3) := by decide +kernel
theorem dX2_isAheadOf_10 : decode cX2_isAheadOf 10 = .ok (.aload_n 0, 1) := by decide +kernel
theorem dX2_isAheadOf_11 : decode cX2_isAheadOf 11 = .ok (.getfield 9, 3) := by decide +kernel
theorem dX2_isAheadOf_14 : decode cX2_isAheadOf 14 = .ok (.iload_n 2, 1) := by decide +kernel
theorem dX2_isAheadOf_15 : decode cX2_isAheadOf 15 = .ok (.iaload, 1) := by decide +kernel
theorem dX2_isAheadOf_16 : decode cX2_isAheadOf 16 = .ok (.aload_n 1, 1) := by decide +kernel
theorem dX2_isAheadOf_17 : decode cX2_isAheadOf 17 = .ok (.getfield 9, 3) := by decide +kernel
theorem dX2_isAheadOf_20 : decode cX2_isAheadOf 20 = .ok (.iload_n 2, 1) := by decide +kernel
theorem dX2_isAheadOf_21 : decode cX2_isAheadOf 21 = .ok (.iaload, 1) := by decide +kernel
theorem dX2_isAheadOf_22 : decode cX2_isAheadOf 22 = .ok (.if_icmp .eq 24, 3) := by decide +kernel
theorem dX2_isAheadOf_25 : decode cX2_isAheadOf 25 = .ok (.aload_n 0, 1) := by decide +kernel
theorem dX2_isAheadOf_26 : decode cX2_isAheadOf 26 = .ok (.getfield 9, 3) := by decide +kernel
theorem dX2_isAheadOf_29 : decode cX2_isAheadOf 29 = .ok (.iload_n 2, 1) := by decide +kernel
theorem dX2_isAheadOf_30 : decode cX2_isAheadOf 30 = .ok (.iaload, 1) := by decide +kernel
theorem dX2_isAheadOf_31 : decode cX2_isAheadOf 31 = .ok (.aload_n 1, 1) := by decide +kernel
theorem dX2_isAheadOf_32 : decode cX2_isAheadOf 32 = .ok (.getfield 9, 3) := by decide +kernel
theorem dX2_isAheadOf_35 : decode cX2_isAheadOf 35 = .ok (.iload_n 2, 1) := by decide +kernel
theorem dX2_isAheadOf_36 : decode cX2_isAheadOf 36 = .ok (.iaload, 1) := by decide +kernel
theorem dX2_isAheadOf_37 : decode cX2_isAheadOf 37 = .ok (.if_icmp .ge 7, 3) := by decide +kernel
theorem dX2_isAheadOf_40 : decode cX2_isAheadOf 40 = .ok (.iconst 1, 1) := by decide +kernel
theorem dX2_isAheadOf_41 : decode cX2_isAheadOf 41 = .ok (.goto 4, 3) := by decide +kernel
theorem dX2_isAheadOf_44 : decode cX2_isAheadOf 44 = .ok (.iconst 0, 1) := by decide +kernel
theorem dX2_isAheadOf_45 : decode cX2_isAheadOf 45 = .ok (.ireturn, 1) := by decide +kernel
theorem dX2_isAheadOf_46 : decode cX2_isAheadOf 46 = .ok (.iinc 2 1, 3) := by decide +kernel
theorem dX2_isAheadOf_49 : decode cX2_isAheadOf 49 = .ok (.goto (-47), 3) := by decide +kernel
theorem dX2_isAheadOf_52 : decode cX2_isAheadOf 52 = .ok (.iconst 0, 1) := by decide +kernel
theorem dX2_isAheadOf_53 : decode cX2_isAheadOf 53 = .ok (.ireturn, 1) := by decide +kernel
theorem dX2_looks_0 : decode cX2_looks 0 = .ok (.iload_n 1, 1) := by decide +kernel
theorem dX2_looks_1 : decode cX2_looks 1 = .ok (.tableswitch 48 0 2 #[27, 41, 46], 27) := by decide +kernel
theorem dX2_looks_28 : decode cX2_looks 28 = .ok (.aload_n 0, 1) := by decide +kernel
theorem dX2_looks_29 : decode cX2_looks 29 = .ok (.getfield 15, 3) := by decide +kernel
theorem dX2_looks_32 : decode cX2_looks 32 = .ok (.aload_n 0, 1) := by decide +kernel
theorem dX2_looks_33 : decode cX2_looks 33 = .ok (.getfield 15, 3) := by decide +kernel
theorem dX2_looks_36 : decode cX2_looks 36 = .ok (.iconst 1, 1) := by decide +kernel
theorem dX2_looks_37 : decode cX2_looks 37 = .ok (.isub, 1) := by decide +kernel
theorem dX2_looks_38 : decode cX2_looks 38 = .ok (.imul, 1) := by decide +kernel
theorem dX2_looks_39 : decode cX2_looks 39 = .ok (.iconst 2, 1) := by decide +kernel
theorem dX2_looks_40 : decode cX2_looks 40 = .ok (.idiv, 1) := by decide +kernel
theorem dX2_looks_41 : decode cX2_looks 41 = .ok (.ireturn, 1) := by decide +kernel
theorem dX2_looks_42 : decode cX2_looks 42 = .ok (.aload_n 0, 1) := by decide +kernel
theorem dX2_looks_43 : decode cX2_looks 43 = .ok (.getfield 15, 3) := by decide +kernel
theorem dX2_looks_46 : decode cX2_looks 46 = .ok (.ireturn, 1) := by decide +kernel
theorem dX2_looks_47 : decode cX2_looks 47 = .ok (.iconst 1, 1) := by decide +kernel
theorem dX2_looks_48 : decode cX2_looks 48 = .ok (.ireturn, 1) := by decide +kernel
theorem dX2_looks_49 : decode cX2_looks 49 = .ok (.aload_n 0, 1) := by decide +kernel
theorem dX2_looks_50 : decode cX2_looks 50 = .ok (.getfield 15, 3) := by decide +kernel
theorem dX2_looks_53 : decode cX2_looks 53 = .ok (.aload_n 0, 1) := by decide +kernel
theorem dX2_looks_54 : decode cX2_looks 54 = .ok (.getfield 15, 3) := by decide +kernel
theorem dX2_looks_57 : decode cX2_looks 57 = .ok (.iconst 1, 1) := by decide +kernel
theorem dX2_looks_58 : decode cX2_looks 58 = .ok (.isub, 1) := by decide +kernel
theorem dX2_looks_59 : decode cX2_looks 59 = .ok (.imul, 1) := by decide +kernel
theorem dX2_looks_60 : decode cX2_looks 60 = .ok (.ireturn, 1) := by decide +kernel
set_option maxRecDepth 20000 in
theorem ggX2_passing_X2_risingPairs : GoodIn wsX2_passing wsX2_risingPairs := goodIn_r _ [5, 6, 7, 20, 21] (by decide +kernel) (by decide +kernel)
set_option maxRecDepth 20000 in
theorem gX2_passing_X2_risingPairs : GoodIn wsX2_passing (wsV RX2 19 RX2 yX2_risingPairs wsX2_risingPairs) := goodIn_app (goodIn_of _ (by decide +kernel)) ggX2_passing_X2_risingPairs
set_option maxRecDepth 20000 in
theorem ggX2_passing_X2_mirroredPlaces : GoodIn wsX2_passing wsX2_mirroredPlaces := goodIn_r _ [11, 6, 7, 20, 21] (by decide +kernel) (by decide +kernel)
set_option maxRecDepth 20000 in
theorem gX2_passing_X2_mirroredPlaces : GoodIn wsX2_passing (wsV RX2 23 RX2 yX2_mirroredPlaces wsX2_mirroredPlaces) := goodIn_app (goodIn_of _ (by decide +kernel)) ggX2_passing_X2_mirroredPlaces
set_option maxRecDepth 20000 in
theorem ggX2_passing_X2_total : GoodIn wsX2_passing wsX2_total := goodIn_r _ [15, 6, 7, 20, 21] (by decide +kernel) (by decide +kernel)
set_option maxRecDepth 20000 in
theorem gX2_passing_X2_total : GoodIn wsX2_passing (wsV RX2 26 RX2 yX2_total wsX2_total) := goodIn_app (goodIn_of _ (by decide +kernel)) ggX2_passing_X2_total
set_option maxRecDepth 20000 in
theorem ggX2_passing_X2_alikeShifts : GoodIn wsX2_passing wsX2_alikeShifts := goodIn_r _ [19, 6, 7, 20, 21] (by decide +kernel) (by decide +kernel)
set_option maxRecDepth 20000 in
theorem gX2_passing_X2_alikeShifts : GoodIn wsX2_passing (wsV RX2 29 RX2 yX2_alikeShifts wsX2_alikeShifts) := goodIn_app (goodIn_of _ (by decide +kernel)) ggX2_passing_X2_alikeShifts
theorem dX2_passing_0 : decode cX2_passing 0 = .ok (.iload_n 1, 1) := by decide +kernel
theorem dX2_passing_1 : decode cX2_passing 1 = .ok (.tableswitch 52 0 2 #[27, 32, 37], 27) := by decide +kernel
theorem dX2_passing_28 : decode cX2_passing 28 = .ok (.aload_n 0, 1) := by decide +kernel
theorem dX2_passing_29 : decode cX2_passing 29 = .ok (.invokevirtual 19, 3) := by decide +kernel
theorem dX2_passing_32 : decode cX2_passing 32 = .ok (.ireturn, 1) := by decide +kernel
theorem dX2_passing_33 : decode cX2_passing 33 = .ok (.aload_n 0, 1) := by decide +kernel
theorem dX2_passing_34 : decode cX2_passing 34 = .ok (.invokevirtual 23, 3) := by decide +kernel
theorem dX2_passing_37 : decode cX2_passing 37 = .ok (.ireturn, 1) := by decide +kernel
theorem dX2_passing_38 : decode cX2_passing 38 = .ok (.aload_n 0, 1) := by decide +kernel
theorem dX2_passing_39 : decode cX2_passing 39 = .ok (.invokevirtual 26, 3) := by decide +kernel
theorem dX2_passing_42 : decode cX2_passing 42 = .ok (.iconst 2, 1) := by decide +kernel
theorem dX2_passing_43 : decode cX2_passing 43 = .ok (.irem, 1) := by decide +kernel
theorem dX2_passing_44 : decode cX2_passing 44 = .ok (.ifCond .ne 7, 3) := by decide +kernel
theorem dX2_passing_47 : decode cX2_passing 47 = .ok (.iconst 1, 1) := by decide +kernel
theorem dX2_passing_48 : decode cX2_passing 48 = .ok (.goto 4, 3) := by decide +kernel
theorem dX2_passing_51 : decode cX2_passing 51 = .ok (.iconst 0, 1) := by decide +kernel
theorem dX2_passing_52 : decode cX2_passing 52 = .ok (.ireturn, 1) := by decide +kernel
theorem dX2_passing_53 : decode cX2_passing 53 = .ok (.aload_n 0, 1) := by decide +kernel
theorem dX2_passing_54 : decode cX2_passing 54 = .ok (.invokevirtual 29, 3) := by decide +kernel
theorem dX2_passing_57 : decode cX2_passing 57 = .ok (.ireturn, 1) := by decide +kernel
theorem dX2_risingPairs_0 : decode cX2_risingPairs 0 = .ok (.iconst 0, 1) := by decide +kernel
theorem dX2_risingPairs_1 : decode cX2_risingPairs 1 = .ok (.istore_n 1, 1) := by decide +kernel
theorem dX2_risingPairs_2 : decode cX2_risingPairs 2 = .ok (.iconst 0, 1) := by decide +kernel
theorem dX2_risingPairs_3 : decode cX2_risingPairs 3 = .ok (.istore_n 2, 1) := by decide +kernel
theorem dX2_risingPairs_4 : decode cX2_risingPairs 4 = .ok (.iload_n 2, 1) := by decide +kernel
theorem dX2_risingPairs_5 : decode cX2_risingPairs 5 = .ok (.aload_n 0, 1) := by decide +kernel
theorem dX2_risingPairs_6 : decode cX2_risingPairs 6 = .ok (.getfield 15, 3) := by decide +kernel
theorem dX2_risingPairs_9 : decode cX2_risingPairs 9 = .ok (.if_icmp .ge 45, 3) := by decide +kernel
theorem dX2_risingPairs_12 : decode cX2_risingPairs 12 = .ok (.iload_n 2, 1) := by decide +kernel
theorem dX2_risingPairs_13 : decode cX2_risingPairs 13 = .ok (.iconst 1, 1) := by decide +kernel
theorem dX2_risingPairs_14 : decode cX2_risingPairs 14 = .ok (.iadd, 1) := by decide +kernel
theorem dX2_risingPairs_15 : decode cX2_risingPairs 15 = .ok (.istore_n 3, 1) := by decide +kernel
theorem dX2_risingPairs_16 : decode cX2_risingPairs 16 = .ok (.iload_n 3, 1) := by decide +kernel
theorem dX2_risingPairs_17 : decode cX2_risingPairs 17 = .ok (.aload_n 0, 1) := by decide +kernel
theorem dX2_risingPairs_18 : decode cX2_risingPairs 18 = .ok (.getfield 15, 3) := by decide +kernel
theorem dX2_risingPairs_21 : decode cX2_risingPairs 21 = .ok (.if_icmp .ge 27, 3) := by decide +kernel
theorem dX2_risingPairs_24 : decode cX2_risingPairs 24 = .ok (.aload_n 0, 1) := by decide +kernel
theorem dX2_risingPairs_25 : decode cX2_risingPairs 25 = .ok (.getfield 9, 3) := by decide +kernel
theorem dX2_risingPairs_28 : decode cX2_risingPairs 28 = .ok (.iload_n 2, 1) := by decide +kernel
theorem dX2_risingPairs_29 : decode cX2_risingPairs 29 = .ok (.iaload, 1) := by decide +kernel
theorem dX2_risingPairs_30 : decode cX2_risingPairs 30 = .ok (.aload_n 0, 1) := by decide +kernel
theorem dX2_risingPairs_31 : decode cX2_risingPairs 31 = .ok (.getfield 9, 3) := by decide +kernel
theorem dX2_risingPairs_34 : decode cX2_risingPairs 34 = .ok (.iload_n 3, 1) := by decide +kernel
theorem dX2_risingPairs_35 : decode cX2_risingPairs 35 = .ok (.iaload, 1) := by decide +kernel
theorem dX2_risingPairs_36 : decode cX2_risingPairs 36 = .ok (.if_icmp .gt 6, 3) := by decide +kernel
theorem dX2_risingPairs_39 : decode cX2_risingPairs 39 = .ok (.iinc 1 1, 3) := by decide +kernel
theorem dX2_risingPairs_42 : decode cX2_risingPairs 42 = .ok (.iinc 3 1, 3) := by decide +kernel
theorem dX2_risingPairs_45 : decode cX2_risingPairs 45 = .ok (.goto (-29), 3) := by decide +kernel
theorem dX2_risingPairs_48 : decode cX2_risingPairs 48 = .ok (.iinc 2 1, 3) := by decide +kernel
theorem dX2_risingPairs_51 : decode cX2_risingPairs 51 = .ok (.goto (-47), 3) := by decide +kernel
theorem dX2_risingPairs_54 : decode cX2_risingPairs 54 = .ok (.iload_n 1, 1) := by decide +kernel
theorem dX2_risingPairs_55 : decode cX2_risingPairs 55 = .ok (.ireturn, 1) := by decide +kernel
theorem dX2_mirroredPlaces_0 : decode cX2_mirroredPlaces 0 = .ok (.iconst 0, 1) := by decide +kernel
theorem dX2_mirroredPlaces_1 : decode cX2_mirroredPlaces 1 = .ok (.istore_n 1, 1) := by decide +kernel
theorem dX2_mirroredPlaces_2 : decode cX2_mirroredPlaces 2 = .ok (.iconst 0, 1) := by decide +kernel
theorem dX2_mirroredPlaces_3 : decode cX2_mirroredPlaces 3 = .ok (.istore_n 2, 1) := by decide +kernel
theorem dX2_mirroredPlaces_4 : decode cX2_mirroredPlaces 4 = .ok (.iload_n 2, 1) := by decide +kernel
theorem dX2_mirroredPlaces_5 : decode cX2_mirroredPlaces 5 = .ok (.aload_n 0, 1) := by decide +kernel
theorem dX2_mirroredPlaces_6 : decode cX2_mirroredPlaces 6 = .ok (.getfield 15, 3) := by decide +kernel
theorem dX2_mirroredPlaces_9 : decode cX2_mirroredPlaces 9 = .ok (.if_icmp .ge 34, 3) := by decide +kernel
theorem dX2_mirroredPlaces_12 : decode cX2_mirroredPlaces 12 = .ok (.aload_n 0, 1) := by decide +kernel
theorem dX2_mirroredPlaces_13 : decode cX2_mirroredPlaces 13 = .ok (.getfield 9, 3) := by decide +kernel
theorem dX2_mirroredPlaces_16 : decode cX2_mirroredPlaces 16 = .ok (.iload_n 2, 1) := by decide +kernel
theorem dX2_mirroredPlaces_17 : decode cX2_mirroredPlaces 17 = .ok (.iaload, 1) := by decide +kernel
theorem dX2_mirroredPlaces_18 : decode cX2_mirroredPlaces 18 = .ok (.aload_n 0, 1) := by decide +kernel
theorem dX2_mirroredPlaces_19 : decode cX2_mirroredPlaces 19 = .ok (.getfield 9, 3) := by decide +kernel
theorem dX2_mirroredPlaces_22 : decode cX2_mirroredPlaces 22 = .ok (.aload_n 0, 1) := by decide +kernel
theorem dX2_mirroredPlaces_23 : decode cX2_mirroredPlaces 23 = .ok (.getfield 15, 3) := by decide +kernel
theorem dX2_mirroredPlaces_26 : decode cX2_mirroredPlaces 26 = .ok (.iconst 1, 1) := by decide +kernel
theorem dX2_mirroredPlaces_27 : decode cX2_mirroredPlaces 27 = .ok (.isub, 1) := by decide +kernel
theorem dX2_mirroredPlaces_28 : decode cX2_mirroredPlaces 28 = .ok (.iload_n 2, 1) := by decide +kernel
theorem dX2_mirroredPlaces_29 : decode cX2_mirroredPlaces 29 = .ok (.isub, 1) := by decide +kernel
theorem dX2_mirroredPlaces_30 : decode cX2_mirroredPlaces 30 = .ok (.iaload, 1) := by decide +kernel
theorem dX2_mirroredPlaces_31 : decode cX2_mirroredPlaces 31 = .ok (.if_icmp .ne 6, 3) := by decide +kernel
theorem dX2_mirroredPlaces_34 : decode cX2_mirroredPlaces 34 = .ok (.iinc 1 1, 3) := by decide +kernel
theorem dX2_mirroredPlaces_37 : decode cX2_mirroredPlaces 37 = .ok (.iinc 2 1, 3) := by decide +kernel
theorem dX2_mirroredPlaces_40 : decode cX2_mirroredPlaces 40 = .ok (.goto (-36), 3) := by decide +kernel
theorem dX2_mirroredPlaces_43 : decode cX2_mirroredPlaces 43 = .ok (.iload_n 1, 1) := by decide +kernel
theorem dX2_mirroredPlaces_44 : decode cX2_mirroredPlaces 44 = .ok (.ireturn, 1) := by decide +kernel
theorem dX2_alikeShifts_0 : decode cX2_alikeShifts 0 = .ok (.iconst 0, 1) := by decide +kernel
theorem dX2_alikeShifts_1 : decode cX2_alikeShifts 1 = .ok (.istore_n 1, 1) := by decide +kernel
theorem dX2_alikeShifts_2 : decode cX2_alikeShifts 2 = .ok (.iconst 0, 1) := by decide +kernel
theorem dX2_alikeShifts_3 : decode cX2_alikeShifts 3 = .ok (.istore_n 2, 1) := by decide +kernel
theorem dX2_alikeShifts_4 : decode cX2_alikeShifts 4 = .ok (.iload_n 2, 1) := by decide +kernel
theorem dX2_alikeShifts_5 : decode cX2_alikeShifts 5 = .ok (.aload_n 0, 1) := by decide +kernel
theorem dX2_alikeShifts_6 : decode cX2_alikeShifts 6 = .ok (.getfield 15, 3) := by decide +kernel
theorem dX2_alikeShifts_9 : decode cX2_alikeShifts 9 = .ok (.if_icmp .ge 48, 3) := by decide +kernel
theorem dX2_alikeShifts_12 : decode cX2_alikeShifts 12 = .ok (.iconst 0, 1) := by decide +kernel
theorem dX2_alikeShifts_13 : decode cX2_alikeShifts 13 = .ok (.istore_n 3, 1) := by decide +kernel
theorem dX2_alikeShifts_14 : decode cX2_alikeShifts 14 = .ok (.iload_n 3, 1) := by decide +kernel
theorem dX2_alikeShifts_15 : decode cX2_alikeShifts 15 = .ok (.aload_n 0, 1) := by decide +kernel
theorem dX2_alikeShifts_16 : decode cX2_alikeShifts 16 = .ok (.getfield 15, 3) := by decide +kernel
theorem dX2_alikeShifts_19 : decode cX2_alikeShifts 19 = .ok (.if_icmp .ge 32, 3) := by decide +kernel
theorem dX2_alikeShifts_22 : decode cX2_alikeShifts 22 = .ok (.iload_n 2, 1) := by decide +kernel
theorem dX2_alikeShifts_23 : decode cX2_alikeShifts 23 = .ok (.iload_n 3, 1) := by decide +kernel
theorem dX2_alikeShifts_24 : decode cX2_alikeShifts 24 = .ok (.if_icmp .eq 21, 3) := by decide +kernel
theorem dX2_alikeShifts_27 : decode cX2_alikeShifts 27 = .ok (.aload_n 0, 1) := by decide +kernel
theorem dX2_alikeShifts_28 : decode cX2_alikeShifts 28 = .ok (.getfield 9, 3) := by decide +kernel
theorem dX2_alikeShifts_31 : decode cX2_alikeShifts 31 = .ok (.iload_n 2, 1) := by decide +kernel
theorem dX2_alikeShifts_32 : decode cX2_alikeShifts 32 = .ok (.iaload, 1) := by decide +kernel
theorem dX2_alikeShifts_33 : decode cX2_alikeShifts 33 = .ok (.aload_n 0, 1) := by decide +kernel
theorem dX2_alikeShifts_34 : decode cX2_alikeShifts 34 = .ok (.getfield 9, 3) := by decide +kernel
theorem dX2_alikeShifts_37 : decode cX2_alikeShifts 37 = .ok (.iload_n 3, 1) := by decide +kernel
theorem dX2_alikeShifts_38 : decode cX2_alikeShifts 38 = .ok (.iaload, 1) := by decide +kernel
theorem dX2_alikeShifts_39 : decode cX2_alikeShifts 39 = .ok (.if_icmp .ne 6, 3) := by decide +kernel
theorem dX2_alikeShifts_42 : decode cX2_alikeShifts 42 = .ok (.iinc 1 1, 3) := by decide +kernel
theorem dX2_alikeShifts_45 : decode cX2_alikeShifts 45 = .ok (.iinc 3 1, 3) := by decide +kernel
theorem dX2_alikeShifts_48 : decode cX2_alikeShifts 48 = .ok (.goto (-34), 3) := by decide +kernel
theorem dX2_alikeShifts_51 : decode cX2_alikeShifts 51 = .ok (.iinc 2 1, 3) := by decide +kernel
theorem dX2_alikeShifts_54 : decode cX2_alikeShifts 54 = .ok (.goto (-50), 3) := by decide +kernel
theorem dX2_alikeShifts_57 : decode cX2_alikeShifts 57 = .ok (.iload_n 1, 1) := by decide +kernel
theorem dX2_alikeShifts_58 : decode cX2_alikeShifts 58 = .ok (.ireturn, 1) := by decide +kernel
theorem dX3_init_0 : decode cX3_init 0 = .ok (.aload_n 0, 1) := by decide +kernel
theorem dX3_init_1 : decode cX3_init 1 = .ok (.invokespecial 3, 3) := by decide +kernel
theorem dX3_init_4 : decode cX3_init 4 = .ok (.aload_n 0, 1) := by decide +kernel
theorem dX3_init_5 : decode cX3_init 5 = .ok (.iconst 0, 1) := by decide +kernel
theorem dX3_init_6 : decode cX3_init 6 = .ok (.putfield 9, 3) := by decide +kernel
theorem dX3_init_9 : decode cX3_init 9 = .ok (.return_, 1) := by decide +kernel
theorem dX3_at_0 : decode cX3_at 0 = .ok (.aload_n 0, 1) := by decide +kernel
theorem dX3_at_1 : decode cX3_at 1 = .ok (.getfield 9, 3) := by decide +kernel
theorem dX3_at_4 : decode cX3_at 4 = .ok (.iload_n 1, 1) := by decide +kernel
theorem dX3_at_5 : decode cX3_at 5 = .ok (.ishr, 1) := by decide +kernel
theorem dX3_at_6 : decode cX3_at 6 = .ok (.iconst 1, 1) := by decide +kernel
theorem dX3_at_7 : decode cX3_at 7 = .ok (.iand, 1) := by decide +kernel
theorem dX3_at_8 : decode cX3_at 8 = .ok (.ireturn, 1) := by decide +kernel
theorem dX3_put_0 : decode cX3_put 0 = .ok (.aload_n 0, 1) := by decide +kernel
theorem dX3_put_1 : decode cX3_put 1 = .ok (.aload_n 0, 1) := by decide +kernel
theorem dX3_put_2 : decode cX3_put 2 = .ok (.getfield 9, 3) := by decide +kernel
theorem dX3_put_5 : decode cX3_put 5 = .ok (.iconst 1, 1) := by decide +kernel
theorem dX3_put_6 : decode cX3_put 6 = .ok (.iload_n 1, 1) := by decide +kernel
theorem dX3_put_7 : decode cX3_put 7 = .ok (.ishl, 1) := by decide +kernel
theorem dX3_put_8 : decode cX3_put 8 = .ok (.iconst (-1), 1) := by decide +kernel
theorem dX3_put_9 : decode cX3_put 9 = .ok (.ixor, 1) := by decide +kernel
theorem dX3_put_10 : decode cX3_put 10 = .ok (.iand, 1) := by decide +kernel
theorem dX3_put_11 : decode cX3_put 11 = .ok (.iload_n 2, 1) := by decide +kernel
theorem dX3_put_12 : decode cX3_put 12 = .ok (.iload_n 1, 1) := by decide +kernel
theorem dX3_put_13 : decode cX3_put 13 = .ok (.ishl, 1) := by decide +kernel
theorem dX3_put_14 : decode cX3_put 14 = .ok (.ior, 1) := by decide +kernel
theorem dX3_put_15 : decode cX3_put 15 = .ok (.putfield 9, 3) := by decide +kernel
theorem dX3_put_18 : decode cX3_put 18 = .ok (.return_, 1) := by decide +kernel
set_option maxRecDepth 20000 in
theorem ggX3_parities_J6_bitCount_0f7a4 : GoodIn wsX3_parities wsJ6_bitCount_0f7a4 := goodIn_r _ [4, 5, 6, 7] (by decide +kernel) (by decide +kernel)
set_option maxRecDepth 20000 in
theorem gX3_parities_J6_bitCount_0f7a4 : GoodIn wsX3_parities (va_wsS RX3 15 yJ6_bitCount_0f7a4 wsJ6_bitCount_0f7a4) := goodIn_app (goodIn_of _ (by decide +kernel)) ggX3_parities_J6_bitCount_0f7a4
theorem dX3_parities_0 : decode cX3_parities 0 = .ok (.iconst 0, 1) := by decide +kernel
theorem dX3_parities_1 : decode cX3_parities 1 = .ok (.istore_n 1, 1) := by decide +kernel
theorem dX3_parities_2 : decode cX3_parities 2 = .ok (.iconst 0, 1) := by decide +kernel
theorem dX3_parities_3 : decode cX3_parities 3 = .ok (.istore_n 2, 1) := by decide +kernel
theorem dX3_parities_4 : decode cX3_parities 4 = .ok (.iload_n 2, 1) := by decide +kernel
theorem dX3_parities_5 : decode cX3_parities 5 = .ok (.bipush 8, 2) := by decide +kernel
theorem dX3_parities_7 : decode cX3_parities 7 = .ok (.if_icmp .ge 22, 3) := by decide +kernel
theorem dX3_parities_10 : decode cX3_parities 10 = .ok (.iload_n 1, 1) := by decide +kernel
theorem dX3_parities_11 : decode cX3_parities 11 = .ok (.iload_n 0, 1) := by decide +kernel
theorem dX3_parities_12 : decode cX3_parities 12 = .ok (.iload_n 2, 1) := by decide +kernel
theorem dX3_parities_13 : decode cX3_parities 13 = .ok (.iand, 1) := by decide +kernel
theorem dX3_parities_14 : decode cX3_parities 14 = .ok (.invokestatic 15, 3) := by decide +kernel
theorem dX3_parities_17 : decode cX3_parities 17 = .ok (.iconst 1, 1) := by decide +kernel
theorem dX3_parities_18 : decode cX3_parities 18 = .ok (.iand, 1) := by decide +kernel
theorem dX3_parities_19 : decode cX3_parities 19 = .ok (.iload_n 2, 1) := by decide +kernel
theorem dX3_parities_20 : decode cX3_parities 20 = .ok (.ishl, 1) := by decide +kernel
theorem dX3_parities_21 : decode cX3_parities 21 = .ok (.ior, 1) := by decide +kernel
theorem dX3_parities_22 : decode cX3_parities 22 = .ok (.istore_n 1, 1) := by decide +kernel
theorem dX3_parities_23 : decode cX3_parities 23 = .ok (.iinc 2 1, 3) := by decide +kernel
theorem dX3_parities_26 : decode cX3_parities 26 = .ok (.goto (-22), 3) := by decide +kernel
theorem dX3_parities_29 : decode cX3_parities 29 = .ok (.iload_n 1, 1) := by decide +kernel
theorem dX3_parities_30 : decode cX3_parities 30 = .ok (.ireturn, 1) := by decide +kernel
set_option maxRecDepth 20000 in
theorem ggX3_differing_X3_parities : GoodIn wsX3_differing wsX3_parities := goodIn_r _ [5, 6, 7, 8, 9, 10, 11, 12] (by decide +kernel) (by decide +kernel)
set_option maxRecDepth 20000 in
theorem gX3_differing_X3_parities : GoodIn wsX3_differing (va_wsS RX3 21 yX3_parities wsX3_parities) := goodIn_app (goodIn_of _ (by decide +kernel)) ggX3_differing_X3_parities
set_option maxRecDepth 20000 in
theorem ggX3_differing_J6_bitCount_0f7a4 : GoodIn wsX3_differing wsJ6_bitCount_0f7a4 := goodIn_r _ [9, 10, 11, 12] (by decide +kernel) (by decide +kernel)
set_option maxRecDepth 20000 in
theorem gX3_differing_J6_bitCount_0f7a4 : GoodIn wsX3_differing (va_wsS RX3 15 yJ6_bitCount_0f7a4 wsJ6_bitCount_0f7a4) := goodIn_app (goodIn_of _ (by decide +kernel)) ggX3_differing_J6_bitCount_0f7a4
theorem dX3_differing_0 : decode cX3_differing 0 = .ok (.aload_n 0, 1) := by decide +kernel
theorem dX3_differing_1 : decode cX3_differing 1 = .ok (.getfield 9, 3) := by decide +kernel
theorem dX3_differing_4 : decode cX3_differing 4 = .ok (.iload_n 1, 1) := by decide +kernel
theorem dX3_differing_5 : decode cX3_differing 5 = .ok (.invokestatic 21, 3) := by decide +kernel
theorem dX3_differing_8 : decode cX3_differing 8 = .ok (.ixor, 1) := by decide +kernel
theorem dX3_differing_9 : decode cX3_differing 9 = .ok (.invokestatic 15, 3) := by decide +kernel
theorem dX3_differing_12 : decode cX3_differing 12 = .ok (.ireturn, 1) := by decide +kernel
set_option maxRecDepth 20000 in
theorem ggX3_closest_X3_differing : GoodIn wsX3_closest wsX3_differing := goodIn_r _ [5, 6, 7, 8, 4, 9, 10, 11, 12, 13, 14, 15, 16, 17] (by decide +kernel) (by decide +kernel)
set_option maxRecDepth 20000 in
theorem gX3_closest_X3_differing : GoodIn wsX3_closest (wsV RX3 24 RX3 yX3_differing wsX3_differing) := goodIn_app (goodIn_of _ (by decide +kernel)) ggX3_closest_X3_differing
theorem dX3_closest_0 : decode cX3_closest 0 = .ok (.iconst 0, 1) := by decide +kernel
theorem dX3_closest_1 : decode cX3_closest 1 = .ok (.istore_n 1, 1) := by decide +kernel
theorem dX3_closest_2 : decode cX3_closest 2 = .ok (.iconst 1, 1) := by decide +kernel
theorem dX3_closest_3 : decode cX3_closest 3 = .ok (.istore_n 2, 1) := by decide +kernel
theorem dX3_closest_4 : decode cX3_closest 4 = .ok (.iload_n 2, 1) := by decide +kernel
theorem dX3_closest_5 : decode cX3_closest 5 = .ok (.bipush 8, 2) := by decide +kernel
theorem dX3_closest_7 : decode cX3_closest 7 = .ok (.if_icmp .ge 24, 3) := by decide +kernel
theorem dX3_closest_10 : decode cX3_closest 10 = .ok (.aload_n 0, 1) := by decide +kernel
theorem dX3_closest_11 : decode cX3_closest 11 = .ok (.iload_n 2, 1) := by decide +kernel
theorem dX3_closest_12 : decode cX3_closest 12 = .ok (.invokevirtual 24, 3) := by decide +kernel
theorem dX3_closest_15 : decode cX3_closest 15 = .ok (.aload_n 0, 1) := by decide +kernel
theorem dX3_closest_16 : decode cX3_closest 16 = .ok (.iload_n 1, 1) := by decide +kernel
theorem dX3_closest_17 : decode cX3_closest 17 = .ok (.invokevirtual 24, 3) := by decide +kernel
theorem dX3_closest_20 : decode cX3_closest 20 = .ok (.if_icmp .ge 5, 3) := by decide +kernel
theorem dX3_closest_23 : decode cX3_closest 23 = .ok (.iload_n 2, 1) := by decide +kernel
theorem dX3_closest_24 : decode cX3_closest 24 = .ok (.istore_n 1, 1) := by decide +kernel
theorem dX3_closest_25 : decode cX3_closest 25 = .ok (.iinc 2 1, 3) := by decide +kernel
theorem dX3_closest_28 : decode cX3_closest 28 = .ok (.goto (-24), 3) := by decide +kernel
theorem dX3_closest_31 : decode cX3_closest 31 = .ok (.iload_n 1, 1) := by decide +kernel
theorem dX3_closest_32 : decode cX3_closest 32 = .ok (.ireturn, 1) := by decide +kernel
set_option maxRecDepth 20000 in
theorem ggX3_agrees_X3_at : GoodIn wsX3_agrees wsX3_at := goodIn_r _ [5, 6, 7] (by decide +kernel) (by decide +kernel)
set_option maxRecDepth 20000 in
theorem gX3_agrees_X3_at : GoodIn wsX3_agrees (wsV RX3 27 RX3 yX3_at wsX3_at) := goodIn_app (goodIn_of _ (by decide +kernel)) ggX3_agrees_X3_at
theorem dX3_agrees_0 : decode cX3_agrees 0 = .ok (.aload_n 0, 1) := by decide +kernel
theorem dX3_agrees_1 : decode cX3_agrees 1 = .ok (.iload_n 1, 1) := by decide +kernel
theorem dX3_agrees_2 : decode cX3_agrees 2 = .ok (.invokevirtual 27, 3) := by decide +kernel
theorem dX3_agrees_5 : decode cX3_agrees 5 = .ok (.aload_n 0, 1) := by decide +kernel
theorem dX3_agrees_6 : decode cX3_agrees 6 = .ok (.iload_n 2, 1) := by decide +kernel
theorem dX3_agrees_7 : decode cX3_agrees 7 = .ok (.invokevirtual 27, 3) := by decide +kernel
theorem dX3_agrees_10 : decode cX3_agrees 10 = .ok (.ixor, 1) := by decide +kernel
theorem dX3_agrees_11 : decode cX3_agrees 11 = .ok (.aload_n 0, 1) := by decide +kernel
theorem dX3_agrees_12 : decode cX3_agrees 12 = .ok (.iload_n 1, 1) := by decide +kernel
theorem dX3_agrees_13 : decode cX3_agrees 13 = .ok (.iload_n 2, 1) := by decide +kernel
theorem dX3_agrees_14 : decode cX3_agrees 14 = .ok (.ixor, 1) := by decide +kernel
theorem dX3_agrees_15 : decode cX3_agrees 15 = .ok (.invokevirtual 27, 3) := by decide +kernel
theorem dX3_agrees_18 : decode cX3_agrees 18 = .ok (.if_icmp .ne 7, 3) := by decide +kernel
theorem dX3_agrees_21 : decode cX3_agrees 21 = .ok (.iconst 1, 1) := by decide +kernel
theorem dX3_agrees_22 : decode cX3_agrees 22 = .ok (.goto 4, 3) := by decide +kernel
theorem dX3_agrees_25 : decode cX3_agrees 25 = .ok (.iconst 0, 1) := by decide +kernel
theorem dX3_agrees_26 : decode cX3_agrees 26 = .ok (.ireturn, 1) := by decide +kernel
set_option maxRecDepth 20000 in
theorem ggX3_passing_X3_agrees : GoodIn wsX3_passing wsX3_agrees := goodIn_r _ [5, 6, 7, 8, 4, 9, 10, 11] (by decide +kernel) (by decide +kernel)
set_option maxRecDepth 20000 in
theorem gX3_passing_X3_agrees : GoodIn wsX3_passing (wsV RX3 30 RX3 yX3_agrees wsX3_agrees) := goodIn_app (goodIn_of _ (by decide +kernel)) ggX3_passing_X3_agrees
theorem dX3_passing_0 : decode cX3_passing 0 = .ok (.iconst 0, 1) := by decide +kernel
theorem dX3_passing_1 : decode cX3_passing 1 = .ok (.istore_n 1, 1) := by decide +kernel
theorem dX3_passing_2 : decode cX3_passing 2 = .ok (.iconst 0, 1) := by decide +kernel
theorem dX3_passing_3 : decode cX3_passing 3 = .ok (.istore_n 2, 1) := by decide +kernel
theorem dX3_passing_4 : decode cX3_passing 4 = .ok (.iload_n 2, 1) := by decide +kernel
theorem dX3_passing_5 : decode cX3_passing 5 = .ok (.bipush 8, 2) := by decide +kernel
theorem dX3_passing_7 : decode cX3_passing 7 = .ok (.if_icmp .ge 35, 3) := by decide +kernel
theorem dX3_passing_10 : decode cX3_passing 10 = .ok (.iconst 0, 1) := by decide +kernel
theorem dX3_passing_11 : decode cX3_passing 11 = .ok (.istore_n 3, 1) := by decide +kernel
theorem dX3_passing_12 : decode cX3_passing 12 = .ok (.iload_n 3, 1) := by decide +kernel
theorem dX3_passing_13 : decode cX3_passing 13 = .ok (.bipush 8, 2) := by decide +kernel
theorem dX3_passing_15 : decode cX3_passing 15 = .ok (.if_icmp .ge 21, 3) := by decide +kernel
theorem dX3_passing_18 : decode cX3_passing 18 = .ok (.aload_n 0, 1) := by decide +kernel
theorem dX3_passing_19 : decode cX3_passing 19 = .ok (.iload_n 2, 1) := by decide +kernel
theorem dX3_passing_20 : decode cX3_passing 20 = .ok (.iload_n 3, 1) := by decide +kernel
theorem dX3_passing_21 : decode cX3_passing 21 = .ok (.invokevirtual 30, 3) := by decide +kernel
theorem dX3_passing_24 : decode cX3_passing 24 = .ok (.ifCond .eq 6, 3) := by decide +kernel
theorem dX3_passing_27 : decode cX3_passing 27 = .ok (.iinc 1 1, 3) := by decide +kernel
theorem dX3_passing_30 : decode cX3_passing 30 = .ok (.iinc 3 1, 3) := by decide +kernel
theorem dX3_passing_33 : decode cX3_passing 33 = .ok (.goto (-21), 3) := by decide +kernel
theorem dX3_passing_36 : decode cX3_passing 36 = .ok (.iinc 2 1, 3) := by decide +kernel
theorem dX3_passing_39 : decode cX3_passing 39 = .ok (.goto (-35), 3) := by decide +kernel
theorem dX3_passing_42 : decode cX3_passing 42 = .ok (.iload_n 1, 1) := by decide +kernel
theorem dX3_passing_43 : decode cX3_passing 43 = .ok (.ireturn, 1) := by decide +kernel
set_option maxRecDepth 20000 in
theorem ggX3_tellers_X3_at : GoodIn wsX3_tellers wsX3_at := goodIn_r _ [5, 6, 7] (by decide +kernel) (by decide +kernel)
set_option maxRecDepth 20000 in
theorem gX3_tellers_X3_at : GoodIn wsX3_tellers (wsV RX3 27 RX3 yX3_at wsX3_at) := goodIn_app (goodIn_of _ (by decide +kernel)) ggX3_tellers_X3_at
theorem dX3_tellers_0 : decode cX3_tellers 0 = .ok (.iconst 0, 1) := by decide +kernel
theorem dX3_tellers_1 : decode cX3_tellers 1 = .ok (.istore_n 3, 1) := by decide +kernel
theorem dX3_tellers_2 : decode cX3_tellers 2 = .ok (.iconst 0, 1) := by decide +kernel
theorem dX3_tellers_3 : decode cX3_tellers 3 = .ok (.istore 4, 2) := by decide +kernel
theorem dX3_tellers_5 : decode cX3_tellers 5 = .ok (.iload 4, 2) := by decide +kernel
theorem dX3_tellers_7 : decode cX3_tellers 7 = .ok (.bipush 8, 2) := by decide +kernel
theorem dX3_tellers_9 : decode cX3_tellers 9 = .ok (.if_icmp .ge 31, 3) := by decide +kernel
theorem dX3_tellers_12 : decode cX3_tellers 12 = .ok (.aload_n 0, 1) := by decide +kernel
theorem dX3_tellers_13 : decode cX3_tellers 13 = .ok (.iload 4, 2) := by decide +kernel
theorem dX3_tellers_15 : decode cX3_tellers 15 = .ok (.invokevirtual 27, 3) := by decide +kernel
theorem dX3_tellers_18 : decode cX3_tellers 18 = .ok (.aload_n 0, 1) := by decide +kernel
theorem dX3_tellers_19 : decode cX3_tellers 19 = .ok (.iload_n 1, 1) := by decide +kernel
theorem dX3_tellers_20 : decode cX3_tellers 20 = .ok (.iload 4, 2) := by decide +kernel
theorem dX3_tellers_22 : decode cX3_tellers 22 = .ok (.ixor, 1) := by decide +kernel
theorem dX3_tellers_23 : decode cX3_tellers 23 = .ok (.invokevirtual 27, 3) := by decide +kernel
theorem dX3_tellers_26 : decode cX3_tellers 26 = .ok (.ixor, 1) := by decide +kernel
theorem dX3_tellers_27 : decode cX3_tellers 27 = .ok (.iload_n 2, 1) := by decide +kernel
theorem dX3_tellers_28 : decode cX3_tellers 28 = .ok (.if_icmp .ne 6, 3) := by decide +kernel
theorem dX3_tellers_31 : decode cX3_tellers 31 = .ok (.iinc 3 1, 3) := by decide +kernel
theorem dX3_tellers_34 : decode cX3_tellers 34 = .ok (.iinc 4 1, 3) := by decide +kernel
theorem dX3_tellers_37 : decode cX3_tellers 37 = .ok (.goto (-32), 3) := by decide +kernel
theorem dX3_tellers_40 : decode cX3_tellers 40 = .ok (.iload_n 3, 1) := by decide +kernel
theorem dX3_tellers_41 : decode cX3_tellers 41 = .ok (.ireturn, 1) := by decide +kernel
theorem dJ6_bitCount_0f7a4_0 : decode cJ6_bitCount_0f7a4 0 = .ok (.iload_n 0, 1) := by decide +kernel
theorem dJ6_bitCount_0f7a4_1 : decode cJ6_bitCount_0f7a4 1 = .ok (.iload_n 0, 1) := by decide +kernel
theorem dJ6_bitCount_0f7a4_2 : decode cJ6_bitCount_0f7a4 2 = .ok (.iconst 1, 1) := by decide +kernel
theorem dJ6_bitCount_0f7a4_3 : decode cJ6_bitCount_0f7a4 3 = .ok (.iushr, 1) := by decide +kernel
theorem dJ6_bitCount_0f7a4_4 : decode cJ6_bitCount_0f7a4 4 = .ok (.ldc_w 265, 3) := by decide +kernel
theorem dJ6_bitCount_0f7a4_7 : decode cJ6_bitCount_0f7a4 7 = .ok (.iand, 1) := by decide +kernel
theorem dJ6_bitCount_0f7a4_8 : decode cJ6_bitCount_0f7a4 8 = .ok (.isub, 1) := by decide +kernel
theorem dJ6_bitCount_0f7a4_9 : decode cJ6_bitCount_0f7a4 9 = .ok (.istore_n 0, 1) := by decide +kernel
theorem dJ6_bitCount_0f7a4_10 : decode cJ6_bitCount_0f7a4 10 = .ok (.iload_n 0, 1) := by decide +kernel
theorem dJ6_bitCount_0f7a4_11 : decode cJ6_bitCount_0f7a4 11 = .ok (.ldc_w 266, 3) := by decide +kernel
theorem dJ6_bitCount_0f7a4_14 : decode cJ6_bitCount_0f7a4 14 = .ok (.iand, 1) := by decide +kernel
theorem dJ6_bitCount_0f7a4_15 : decode cJ6_bitCount_0f7a4 15 = .ok (.iload_n 0, 1) := by decide +kernel
theorem dJ6_bitCount_0f7a4_16 : decode cJ6_bitCount_0f7a4 16 = .ok (.iconst 2, 1) := by decide +kernel
theorem dJ6_bitCount_0f7a4_17 : decode cJ6_bitCount_0f7a4 17 = .ok (.iushr, 1) := by decide +kernel
theorem dJ6_bitCount_0f7a4_18 : decode cJ6_bitCount_0f7a4 18 = .ok (.ldc_w 266, 3) := by decide +kernel
theorem dJ6_bitCount_0f7a4_21 : decode cJ6_bitCount_0f7a4 21 = .ok (.iand, 1) := by decide +kernel
theorem dJ6_bitCount_0f7a4_22 : decode cJ6_bitCount_0f7a4 22 = .ok (.iadd, 1) := by decide +kernel
theorem dJ6_bitCount_0f7a4_23 : decode cJ6_bitCount_0f7a4 23 = .ok (.istore_n 0, 1) := by decide +kernel
theorem dJ6_bitCount_0f7a4_24 : decode cJ6_bitCount_0f7a4 24 = .ok (.iload_n 0, 1) := by decide +kernel
theorem dJ6_bitCount_0f7a4_25 : decode cJ6_bitCount_0f7a4 25 = .ok (.iload_n 0, 1) := by decide +kernel
theorem dJ6_bitCount_0f7a4_26 : decode cJ6_bitCount_0f7a4 26 = .ok (.iconst 4, 1) := by decide +kernel
theorem dJ6_bitCount_0f7a4_27 : decode cJ6_bitCount_0f7a4 27 = .ok (.iushr, 1) := by decide +kernel
theorem dJ6_bitCount_0f7a4_28 : decode cJ6_bitCount_0f7a4 28 = .ok (.iadd, 1) := by decide +kernel
theorem dJ6_bitCount_0f7a4_29 : decode cJ6_bitCount_0f7a4 29 = .ok (.ldc_w 267, 3) := by decide +kernel
theorem dJ6_bitCount_0f7a4_32 : decode cJ6_bitCount_0f7a4 32 = .ok (.iand, 1) := by decide +kernel
theorem dJ6_bitCount_0f7a4_33 : decode cJ6_bitCount_0f7a4 33 = .ok (.istore_n 0, 1) := by decide +kernel
theorem dJ6_bitCount_0f7a4_34 : decode cJ6_bitCount_0f7a4 34 = .ok (.iload_n 0, 1) := by decide +kernel
theorem dJ6_bitCount_0f7a4_35 : decode cJ6_bitCount_0f7a4 35 = .ok (.iload_n 0, 1) := by decide +kernel
theorem dJ6_bitCount_0f7a4_36 : decode cJ6_bitCount_0f7a4 36 = .ok (.bipush 8, 2) := by decide +kernel
theorem dJ6_bitCount_0f7a4_38 : decode cJ6_bitCount_0f7a4 38 = .ok (.iushr, 1) := by decide +kernel
theorem dJ6_bitCount_0f7a4_39 : decode cJ6_bitCount_0f7a4 39 = .ok (.iadd, 1) := by decide +kernel
theorem dJ6_bitCount_0f7a4_40 : decode cJ6_bitCount_0f7a4 40 = .ok (.istore_n 0, 1) := by decide +kernel
theorem dJ6_bitCount_0f7a4_41 : decode cJ6_bitCount_0f7a4 41 = .ok (.iload_n 0, 1) := by decide +kernel
theorem dJ6_bitCount_0f7a4_42 : decode cJ6_bitCount_0f7a4 42 = .ok (.iload_n 0, 1) := by decide +kernel
theorem dJ6_bitCount_0f7a4_43 : decode cJ6_bitCount_0f7a4 43 = .ok (.bipush 16, 2) := by decide +kernel
theorem dJ6_bitCount_0f7a4_45 : decode cJ6_bitCount_0f7a4 45 = .ok (.iushr, 1) := by decide +kernel
theorem dJ6_bitCount_0f7a4_46 : decode cJ6_bitCount_0f7a4 46 = .ok (.iadd, 1) := by decide +kernel
theorem dJ6_bitCount_0f7a4_47 : decode cJ6_bitCount_0f7a4 47 = .ok (.istore_n 0, 1) := by decide +kernel
theorem dJ6_bitCount_0f7a4_48 : decode cJ6_bitCount_0f7a4 48 = .ok (.iload_n 0, 1) := by decide +kernel
theorem dJ6_bitCount_0f7a4_49 : decode cJ6_bitCount_0f7a4 49 = .ok (.bipush 63, 2) := by decide +kernel
theorem dJ6_bitCount_0f7a4_51 : decode cJ6_bitCount_0f7a4 51 = .ok (.iand, 1) := by decide +kernel
theorem dJ6_bitCount_0f7a4_52 : decode cJ6_bitCount_0f7a4 52 = .ok (.ireturn, 1) := by decide +kernel
theorem dJ9_min_7cf53_0 : decode cJ9_min_7cf53 0 = .ok (.iload_n 0, 1) := by decide +kernel
theorem dJ9_min_7cf53_1 : decode cJ9_min_7cf53 1 = .ok (.iload_n 1, 1) := by decide +kernel
theorem dJ9_min_7cf53_2 : decode cJ9_min_7cf53 2 = .ok (.if_icmp .gt 7, 3) := by decide +kernel
theorem dJ9_min_7cf53_5 : decode cJ9_min_7cf53 5 = .ok (.iload_n 0, 1) := by decide +kernel
theorem dJ9_min_7cf53_6 : decode cJ9_min_7cf53 6 = .ok (.goto 4, 3) := by decide +kernel
theorem dJ9_min_7cf53_9 : decode cJ9_min_7cf53 9 = .ok (.iload_n 1, 1) := by decide +kernel
theorem dJ9_min_7cf53_10 : decode cJ9_min_7cf53 10 = .ok (.ireturn, 1) := by decide +kernel
end
section
noncomputable def fX2_clear_L7 (n : Nat) (l2 : Int32) (fxd : Nat → Int32) : Option (Int32 × (Nat → Int32)) := match n with
  | 0 => none
  | n + 1 => if (8 : Int32) ≤ l2 then (some (l2, fxd)) else (gin l2 8 (fX2_clear_L7 n (l2 + (1 : Int32)) (upd fxd l2.toNatClampNeg (0 : Int32))))
theorem fX2_clear_L7_0 (l2 : Int32) (fxd : Nat → Int32) : fX2_clear_L7 0 l2 fxd = none := rfl
theorem fX2_clear_L7_s (n : Nat) (l2 : Int32) (fxd : Nat → Int32) : fX2_clear_L7 (n + 1) l2 fxd = if (8 : Int32) ≤ l2 then (some (l2, fxd)) else (gin l2 8 (fX2_clear_L7 n (l2 + (1 : Int32)) (upd fxd l2.toNatClampNeg (0 : Int32)))) := rfl
noncomputable def fX2_clear (vxs : Int32) (fxd : Nat → Int32) (p0 : Int32) : Option (Int32 × (Nat → Int32)) := bd (fX2_clear_L7 FU (0 : Int32) fxd) fun q3 => some (p0, q3.2)
set_option maxHeartbeats 4000000 in
set_option maxRecDepth 100000 in
theorem c_X2_clear (l : Launch) (dC : Nat → ClassId) (dI : Nat → Nat → Nat) (cy : ClassId) (ax axd : Nat) (sz : Nat) (vxs : Int32) (fxd : Nat → Int32) (p0 : Int32) (res : Int32 × (Nat → Int32)) (h : fX2_clear vxs fxd p0 = some res) : Met l yX2_clear wsX2_clear ({ frames := 0, cells := 0, slots := 0, locals := 0 }) (va_Pc [.ref ax, .int p0] (PW (dC, dI) cy sz [(ax, .inr (2, [.ref axd, .int vxs])), (axd, .inl (cy, 8, .inl fxd))])) (va_Qv (fun (_ : Unit) => True) (QW (dC, dI) cy (va_A [(ax, .inr (2, [.ref axd, .int vxs])), (axd, .inl (cy, 8, .inl fxd))] sz) [(ax, .inr (2, [.ref axd, .int res.1])), (axd, .inl (cy, 8, .inl res.2))]) (va_A [(ax, .inr (2, [.ref axd, .int vxs])), (axd, .inl (cy, 8, .inl fxd))] sz)) 0 0 (va_A [(ax, .inr (2, [.ref axd, .int vxs])), (axd, .inl (cy, 8, .inl fxd))] sz) := by
  refine Met.ofW (cc := cX2_clear) (maxL := 3) (ret := none) (by decide) rfl ?_
  intro p e s m args below meth c s₁ B hml hv
  obtain ⟨rfl, hsz, hP, hK, hD0, hN⟩ := hv
  have hx := B.exec
  have hb := B.bytes
  have hr := B.returns
  have hts := atoms_spec (ws := wsX2_clear) B.pre
  have hown : s.vm.findClass RX2 = some m.cls := findClass_of_methodNamed B.named
  have hlocks := B.notSynchronized
  subst hsz
  have hD := hD0.self (sz := s.heap.size)
  clear hD0
  generalize hAe : va_A [(ax, .inr (2, [.ref axd, .int vxs])), (axd, .inl (cy, 8, .inl fxd))] s.heap.size = A at hD ⊢
  have hA : ∀ q : Nat, s.heap.size ≤ q → A q := fun q h => by rw [← hAe]; exact Or.inr h
  have hS : va_S A s.heap s.heap [] := va_S.rf
  have hl := lv_entry ([.ref ax, .int p0]) (n := 3) (Nat.le_of_ble_eq_true rfl)
  rw [lg_entry_eq]
  generalize (lg_sl ([.ref ax, .int p0]) ++ List.replicate (3 - (lg_sl ([.ref ax, .int p0])).length) Slot.unset).toArray = ls at hl ⊢
  replace hl : lv_has ls 3 [(0, .ref ax), (1, .int p0)] := hl
  replace hP : va_P (dC, dI) vwCl [(ax, .inr (2, [.ref axd, .int vxs])), (axd, .inl (cy, 8, .inl fxd))] s.heap := hP
  obtain ⟨locs, hlocs⟩ : ∃ lc : List Loc, lc = [] := ⟨_, rfl⟩
  rw [← hlocs] at hS ⊢
  obtain ⟨H, hH⟩ : ∃ H : Heap, H = s.heap := ⟨_, rfl⟩
  have hP2 := hP; rw [← hH] at hP2
  have hS2 : va_S A s.heap H locs := by rw [hH]; exact hS
  suffices hgo : W p l e (headSpec wsX2_clear ({ frames := 0, cells := 0, slots := 0, locals := 0 })).room s m (([.ref ax, .int p0] : List Value).toArray) below meth c H locs 0 0 (MQ below (va_Qv (fun (_ : Unit) => True) (QW (dC, dI) cy A [(ax, .inr (2, [.ref axd, .int res.1])), (axd, .inl (cy, 8, .inl res.2))]) A) (([.ref ax, .int p0] : List Value).toArray) s 0 0 A) (F0 m 0 ls []) by rw [hH] at hgo; exact hgo
  replace hP := hP2
  replace hS := hS2
  clear hP2 hS2
  have hin_X2 : ∀ w ∈ wsX20, w ∈ wsX2_clear := by decide +kernel
  have hf_9 := hts (.fieldLink RX2 9 "FewLooks$Row" "digits" "[I") (by decide +kernel)
  have hf_15 := hts (.fieldLink RX2 15 "FewLooks$Row" "size" "I") (by decide +kernel)
  unfold fX2_clear at h
  refine lv_aload_n hx hb dX2_clear_0 rfl (lv_at hl 0 rfl) ?_
  refine lv_iload_n hx hb dX2_clear_1 rfl (lv_at hl 1 rfl) ?_
  refine va_put (D := (dC, dI)) (ci := 2) (v := .int p0) (ty := .int) (C := RX2) (T := TX2) (N := 2) hx hb hts hin_X2 tyX2 tyX2_ok nmX2 hown hK hP hD hS 0 rfl rfl 1 (by decide) (hf_15) (fun _ h9 => h9) rfl (by decide +kernel) rfl rfl (Nat.le_of_ble_eq_true rfl) dX2_clear_2 (fun H locs hP hD hS => ?_)
  replace hP : va_P (dC, dI) vwCl [(ax, .inr (2, [.ref axd, .int p0])), (axd, .inl (cy, 8, .inl fxd))] H := hP
  replace hD : va_D A [(ax, .inr (2, [.ref axd, .int p0])), (axd, .inl (cy, 8, .inl fxd))] := hD
  refine lv_iconst (v := (0 : Int32)) hx hb dX2_clear_5 (by decide) ?_
  refine lv_istore_n (lv' := [(2, .int (0 : Int32)), (0, .ref ax), (1, .int p0)]) hx hb dX2_clear_6 rfl hl (by decide) rfl (fun ls hl => ?_)
  have L7_1 : ∀ (n : Nat) (l1 : Int32) (l2 : Int32) (vxs : Int32) (fxd : Nat → Int32) (rs : (Int32 × (Nat → Int32))) (H : Heap) (locs : List Loc) (ls : Array Slot), fX2_clear_L7 n l2 fxd = some rs → lv_has ls 3 [(0, .ref ax), (1, .int l1), (2, .int l2)] → va_P (dC, dI) vwCl [(ax, .inr (2, [.ref axd, .int vxs])), (axd, .inl (cy, 8, .inl fxd))] H → va_D A [(ax, .inr (2, [.ref axd, .int vxs])), (axd, .inl (cy, 8, .inl fxd))] → va_S A s.heap H locs → (∀ (H : Heap) (locs : List Loc) (ls : Array Slot), lv_has ls 3 [(0, .ref ax), (1, .int l1), (2, .int rs.1)] → va_P (dC, dI) vwCl [(ax, .inr (2, [.ref axd, .int vxs])), (axd, .inl (cy, 8, .inl rs.2))] H → va_D A [(ax, .inr (2, [.ref axd, .int vxs])), (axd, .inl (cy, 8, .inl rs.2))] → va_S A s.heap H locs → W p l e (headSpec wsX2_clear ({ frames := 0, cells := 0, slots := 0, locals := 0 })).room s m (([.ref ax, .int p0] : List Value).toArray) below meth c H locs 0 0 (MQ below (va_Qv (fun (_ : Unit) => True) (QW (dC, dI) cy A [(ax, .inr (2, [.ref axd, .int res.1])), (axd, .inl (cy, 8, .inl res.2))]) A) (([.ref ax, .int p0] : List Value).toArray) s 0 0 A) (F0 m 26 ls [])) → W p l e (headSpec wsX2_clear ({ frames := 0, cells := 0, slots := 0, locals := 0 })).room s m (([.ref ax, .int p0] : List Value).toArray) below meth c H locs 0 0 (MQ below (va_Qv (fun (_ : Unit) => True) (QW (dC, dI) cy A [(ax, .inr (2, [.ref axd, .int res.1])), (axd, .inl (cy, 8, .inl res.2))]) A) (([.ref ax, .int p0] : List Value).toArray) s 0 0 A) (F0 m 7 ls []) := by
    intro n
    induction n with
    | zero =>
      intro l1 l2 vxs fxd rs H locs ls h
      rw [fX2_clear_L7_0] at h
      cases h
    | succ n ih =>
      intro l1 l2 vxs fxd rs H locs ls h hl hP hD hS K
      rw [fX2_clear_L7_s] at h
      refine lv_iload_n hx hb dX2_clear_7 rfl (lv_at hl 2 rfl) ?_
      refine lv_bipush (v := (8 : Int32)) hx hb dX2_clear_8 (by decide) ?_
      refine lv_icmp_ge (tgt := 26) hx hb dX2_clear_10 (by decide) (fun c1 => ?_) (fun c1 => ?_)
      · rw [if_pos c1] at h
        have h0 := Option.some.inj h
        subst h0
        exact K H locs ls (lv_sub hl [0, 1, 2] rfl) hP hD hS
      · rw [if_neg c1] at h
        refine lv_aload_n hx hb dX2_clear_13 rfl (lv_at hl 0 rfl) ?_
        refine va_get (D := (dC, dI)) (ci := 2) (v := .ref axd) (C := RX2) (T := TX2) (N := 2) hx hb hts hin_X2 hown hK hP 0 rfl rfl 0 (by decide) (hf_9) (fun _ h9 => h9) rfl dX2_clear_14 ?_
        refine lv_iload_n hx hb dX2_clear_17 rfl (lv_at hl 2 rfl) ?_
        refine lv_iconst (v := (0 : Int32)) hx hb dX2_clear_18 (by decide) ?_
        obtain ⟨hi, h⟩ := gin_some h
        refine va_iast hx hb hK hP hD hS 1 0 rfl rfl hi dX2_clear_19 (fun H locs hP hD hS => ?_)
        replace hP : va_P (dC, dI) vwCl [(ax, .inr (2, [.ref axd, .int vxs])), (axd, .inl (cy, 8, .inl (upd fxd l2.toNatClampNeg (0 : Int32))))] H := hP
        replace hD : va_D A [(ax, .inr (2, [.ref axd, .int vxs])), (axd, .inl (cy, 8, .inl (upd fxd l2.toNatClampNeg (0 : Int32))))] := hD
        refine lv_iinc (v := l2 + (1 : Int32)) (lv' := [(2, .int (l2 + (1 : Int32))), (0, .ref ax), (1, .int l1)]) hx hb dX2_clear_20 hl (k := 2) rfl rfl (by decide) rfl (fun ls hl => ?_)
        refine lv_goto (tgt := 7) hx hb dX2_clear_23 (by decide) ?_
        exact ih l1 (l2 + (1 : Int32)) vxs (upd fxd l2.toNatClampNeg (0 : Int32)) rs H locs ls h (lv_sub hl [1, 2, 0] rfl) hP hD hS K
  obtain ⟨q3, hq3, h⟩ := bd_some h
  refine L7_1 FU p0 (0 : Int32) p0 fxd q3 H locs ls hq3 (lv_sub hl [1, 2, 0] rfl) hP hD hS (fun H locs ls hl hP hD hS => ?_)
  have h0 := Option.some.inj h
  subst h0
  exact W.vret hx hb hr (fun t ht hW => ⟨⟨(), rfl, trivial, QW_mk hP hK hD ht hW⟩, hS.F ht⟩) hS.2.2 dX2_clear_26

noncomputable def fX2_become_L10 (n : Nat) (l2 : Int32) (fxd : Nat → Int32) (fod : Nat → Int32) : Option (Int32 × (Nat → Int32)) := match n with
  | 0 => none
  | n + 1 => if (8 : Int32) ≤ l2 then (some (l2, fxd)) else (gin l2 8 (gin l2 8 (fX2_become_L10 n (l2 + (1 : Int32)) (upd fxd l2.toNatClampNeg (fod l2.toNatClampNeg)) fod)))
theorem fX2_become_L10_0 (l2 : Int32) (fxd : Nat → Int32) (fod : Nat → Int32) : fX2_become_L10 0 l2 fxd fod = none := rfl
theorem fX2_become_L10_s (n : Nat) (l2 : Int32) (fxd : Nat → Int32) (fod : Nat → Int32) : fX2_become_L10 (n + 1) l2 fxd fod = if (8 : Int32) ≤ l2 then (some (l2, fxd)) else (gin l2 8 (gin l2 8 (fX2_become_L10 n (l2 + (1 : Int32)) (upd fxd l2.toNatClampNeg (fod l2.toNatClampNeg)) fod))) := rfl
noncomputable def fX2_become (vxs : Int32) (fxd : Nat → Int32) (vos : Int32) (fod : Nat → Int32)  : Option (Int32 × (Nat → Int32)) := bd (fX2_become_L10 FU (0 : Int32) fxd fod) fun q3 => some (vos, q3.2)
set_option maxHeartbeats 4000000 in
set_option maxRecDepth 100000 in
theorem c_X2_become (l : Launch) (dC : Nat → ClassId) (dI : Nat → Nat → Nat) (cy : ClassId) (ax axd ao aod : Nat) (sz : Nat) (vxs : Int32) (fxd : Nat → Int32) (vos : Int32) (fod : Nat → Int32)  (res : Int32 × (Nat → Int32)) (h : fX2_become vxs fxd vos fod = some res) : Met l yX2_become wsX2_become ({ frames := 0, cells := 0, slots := 0, locals := 0 }) (va_Pc [.ref ax, .ref ao] (PW (dC, dI) cy sz [(ax, .inr (2, [.ref axd, .int vxs])), (axd, .inl (cy, 8, .inl fxd)), (ao, .inr (2, [.ref aod, .int vos])), (aod, .inl (cy, 8, .inl fod))])) (va_Qv (fun (_ : Unit) => True) (QW (dC, dI) cy (va_A [(ax, .inr (2, [.ref axd, .int vxs])), (axd, .inl (cy, 8, .inl fxd)), (ao, .inr (2, [.ref aod, .int vos])), (aod, .inl (cy, 8, .inl fod))] sz) [(ax, .inr (2, [.ref axd, .int res.1])), (axd, .inl (cy, 8, .inl res.2)), (ao, .inr (2, [.ref aod, .int vos])), (aod, .inl (cy, 8, .inl fod))]) (va_A [(ax, .inr (2, [.ref axd, .int vxs])), (axd, .inl (cy, 8, .inl fxd)), (ao, .inr (2, [.ref aod, .int vos])), (aod, .inl (cy, 8, .inl fod))] sz)) 0 0 (va_A [(ax, .inr (2, [.ref axd, .int vxs])), (axd, .inl (cy, 8, .inl fxd)), (ao, .inr (2, [.ref aod, .int vos])), (aod, .inl (cy, 8, .inl fod))] sz) := by
  refine Met.ofW (cc := cX2_become) (maxL := 3) (ret := none) (by decide) rfl ?_
  intro p e s m args below meth c s₁ B hml hv
  obtain ⟨rfl, hsz, hP, hK, hD0, hN⟩ := hv
  have hx := B.exec
  have hb := B.bytes
  have hr := B.returns
  have hts := atoms_spec (ws := wsX2_become) B.pre
  have hown : s.vm.findClass RX2 = some m.cls := findClass_of_methodNamed B.named
  have hlocks := B.notSynchronized
  subst hsz
  have hD := hD0.self (sz := s.heap.size)
  clear hD0
  generalize hAe : va_A [(ax, .inr (2, [.ref axd, .int vxs])), (axd, .inl (cy, 8, .inl fxd)), (ao, .inr (2, [.ref aod, .int vos])), (aod, .inl (cy, 8, .inl fod))] s.heap.size = A at hD ⊢
  have hA : ∀ q : Nat, s.heap.size ≤ q → A q := fun q h => by rw [← hAe]; exact Or.inr h
  have hS : va_S A s.heap s.heap [] := va_S.rf
  have hl := lv_entry ([.ref ax, .ref ao]) (n := 3) (Nat.le_of_ble_eq_true rfl)
  rw [lg_entry_eq]
  generalize (lg_sl ([.ref ax, .ref ao]) ++ List.replicate (3 - (lg_sl ([.ref ax, .ref ao])).length) Slot.unset).toArray = ls at hl ⊢
  replace hl : lv_has ls 3 [(0, .ref ax), (1, .ref ao)] := hl
  replace hP : va_P (dC, dI) vwCl [(ax, .inr (2, [.ref axd, .int vxs])), (axd, .inl (cy, 8, .inl fxd)), (ao, .inr (2, [.ref aod, .int vos])), (aod, .inl (cy, 8, .inl fod))] s.heap := hP
  obtain ⟨locs, hlocs⟩ : ∃ lc : List Loc, lc = [] := ⟨_, rfl⟩
  rw [← hlocs] at hS ⊢
  obtain ⟨H, hH⟩ : ∃ H : Heap, H = s.heap := ⟨_, rfl⟩
  have hP2 := hP; rw [← hH] at hP2
  have hS2 : va_S A s.heap H locs := by rw [hH]; exact hS
  suffices hgo : W p l e (headSpec wsX2_become ({ frames := 0, cells := 0, slots := 0, locals := 0 })).room s m (([.ref ax, .ref ao] : List Value).toArray) below meth c H locs 0 0 (MQ below (va_Qv (fun (_ : Unit) => True) (QW (dC, dI) cy A [(ax, .inr (2, [.ref axd, .int res.1])), (axd, .inl (cy, 8, .inl res.2)), (ao, .inr (2, [.ref aod, .int vos])), (aod, .inl (cy, 8, .inl fod))]) A) (([.ref ax, .ref ao] : List Value).toArray) s 0 0 A) (F0 m 0 ls []) by rw [hH] at hgo; exact hgo
  replace hP := hP2
  replace hS := hS2
  clear hP2 hS2
  have hin_X2 : ∀ w ∈ wsX20, w ∈ wsX2_become := by decide +kernel
  have hf_9 := hts (.fieldLink RX2 9 "FewLooks$Row" "digits" "[I") (by decide +kernel)
  have hf_15 := hts (.fieldLink RX2 15 "FewLooks$Row" "size" "I") (by decide +kernel)
  unfold fX2_become at h
  refine lv_aload_n hx hb dX2_become_0 rfl (lv_at hl 0 rfl) ?_
  refine lv_aload_n hx hb dX2_become_1 rfl (lv_at hl 1 rfl) ?_
  refine va_get (D := (dC, dI)) (ci := 2) (v := .int vos) (C := RX2) (T := TX2) (N := 2) hx hb hts hin_X2 hown hK hP 2 rfl rfl 1 (by decide) (hf_15) (fun _ h9 => h9) rfl dX2_become_2 ?_
  refine va_put (D := (dC, dI)) (ci := 2) (v := .int vos) (ty := .int) (C := RX2) (T := TX2) (N := 2) hx hb hts hin_X2 tyX2 tyX2_ok nmX2 hown hK hP hD hS 0 rfl rfl 1 (by decide) (hf_15) (fun _ h9 => h9) rfl (by decide +kernel) rfl rfl (Nat.le_of_ble_eq_true rfl) dX2_become_5 (fun H locs hP hD hS => ?_)
  replace hP : va_P (dC, dI) vwCl [(ax, .inr (2, [.ref axd, .int vos])), (axd, .inl (cy, 8, .inl fxd)), (ao, .inr (2, [.ref aod, .int vos])), (aod, .inl (cy, 8, .inl fod))] H := hP
  replace hD : va_D A [(ax, .inr (2, [.ref axd, .int vos])), (axd, .inl (cy, 8, .inl fxd)), (ao, .inr (2, [.ref aod, .int vos])), (aod, .inl (cy, 8, .inl fod))] := hD
  refine lv_iconst (v := (0 : Int32)) hx hb dX2_become_8 (by decide) ?_
  refine lv_istore_n (lv' := [(2, .int (0 : Int32)), (0, .ref ax), (1, .ref ao)]) hx hb dX2_become_9 rfl hl (by decide) rfl (fun ls hl => ?_)
  have L10_1 : ∀ (n : Nat) (l2 : Int32) (vxs : Int32) (fxd : Nat → Int32) (rs : (Int32 × (Nat → Int32))) (H : Heap) (locs : List Loc) (ls : Array Slot), fX2_become_L10 n l2 fxd fod = some rs → lv_has ls 3 [(0, .ref ax), (1, .ref ao), (2, .int l2)] → va_P (dC, dI) vwCl [(ax, .inr (2, [.ref axd, .int vxs])), (axd, .inl (cy, 8, .inl fxd)), (ao, .inr (2, [.ref aod, .int vos])), (aod, .inl (cy, 8, .inl fod))] H → va_D A [(ax, .inr (2, [.ref axd, .int vxs])), (axd, .inl (cy, 8, .inl fxd)), (ao, .inr (2, [.ref aod, .int vos])), (aod, .inl (cy, 8, .inl fod))] → va_S A s.heap H locs → (∀ (H : Heap) (locs : List Loc) (ls : Array Slot), lv_has ls 3 [(0, .ref ax), (1, .ref ao), (2, .int rs.1)] → va_P (dC, dI) vwCl [(ax, .inr (2, [.ref axd, .int vxs])), (axd, .inl (cy, 8, .inl rs.2)), (ao, .inr (2, [.ref aod, .int vos])), (aod, .inl (cy, 8, .inl fod))] H → va_D A [(ax, .inr (2, [.ref axd, .int vxs])), (axd, .inl (cy, 8, .inl rs.2)), (ao, .inr (2, [.ref aod, .int vos])), (aod, .inl (cy, 8, .inl fod))] → va_S A s.heap H locs → W p l e (headSpec wsX2_become ({ frames := 0, cells := 0, slots := 0, locals := 0 })).room s m (([.ref ax, .ref ao] : List Value).toArray) below meth c H locs 0 0 (MQ below (va_Qv (fun (_ : Unit) => True) (QW (dC, dI) cy A [(ax, .inr (2, [.ref axd, .int res.1])), (axd, .inl (cy, 8, .inl res.2)), (ao, .inr (2, [.ref aod, .int vos])), (aod, .inl (cy, 8, .inl fod))]) A) (([.ref ax, .ref ao] : List Value).toArray) s 0 0 A) (F0 m 34 ls [])) → W p l e (headSpec wsX2_become ({ frames := 0, cells := 0, slots := 0, locals := 0 })).room s m (([.ref ax, .ref ao] : List Value).toArray) below meth c H locs 0 0 (MQ below (va_Qv (fun (_ : Unit) => True) (QW (dC, dI) cy A [(ax, .inr (2, [.ref axd, .int res.1])), (axd, .inl (cy, 8, .inl res.2)), (ao, .inr (2, [.ref aod, .int vos])), (aod, .inl (cy, 8, .inl fod))]) A) (([.ref ax, .ref ao] : List Value).toArray) s 0 0 A) (F0 m 10 ls []) := by
    intro n
    induction n with
    | zero =>
      intro l2 vxs fxd rs H locs ls h
      rw [fX2_become_L10_0] at h
      cases h
    | succ n ih =>
      intro l2 vxs fxd rs H locs ls h hl hP hD hS K
      rw [fX2_become_L10_s] at h
      refine lv_iload_n hx hb dX2_become_10 rfl (lv_at hl 2 rfl) ?_
      refine lv_bipush (v := (8 : Int32)) hx hb dX2_become_11 (by decide) ?_
      refine lv_icmp_ge (tgt := 34) hx hb dX2_become_13 (by decide) (fun c1 => ?_) (fun c1 => ?_)
      · rw [if_pos c1] at h
        have h0 := Option.some.inj h
        subst h0
        exact K H locs ls (lv_sub hl [0, 1, 2] rfl) hP hD hS
      · rw [if_neg c1] at h
        refine lv_aload_n hx hb dX2_become_16 rfl (lv_at hl 0 rfl) ?_
        refine va_get (D := (dC, dI)) (ci := 2) (v := .ref axd) (C := RX2) (T := TX2) (N := 2) hx hb hts hin_X2 hown hK hP 0 rfl rfl 0 (by decide) (hf_9) (fun _ h9 => h9) rfl dX2_become_17 ?_
        refine lv_iload_n hx hb dX2_become_20 rfl (lv_at hl 2 rfl) ?_
        refine lv_aload_n hx hb dX2_become_21 rfl (lv_at hl 1 rfl) ?_
        refine va_get (D := (dC, dI)) (ci := 2) (v := .ref aod) (C := RX2) (T := TX2) (N := 2) hx hb hts hin_X2 hown hK hP 2 rfl rfl 0 (by decide) (hf_9) (fun _ h9 => h9) rfl dX2_become_22 ?_
        refine lv_iload_n hx hb dX2_become_25 rfl (lv_at hl 2 rfl) ?_
        obtain ⟨hi, h⟩ := gin_some h
        refine va_iald hx hb hK hP 3 0 rfl rfl hi dX2_become_26 ?_
        obtain ⟨hi, h⟩ := gin_some h
        refine va_iast hx hb hK hP hD hS 1 0 rfl rfl hi dX2_become_27 (fun H locs hP hD hS => ?_)
        replace hP : va_P (dC, dI) vwCl [(ax, .inr (2, [.ref axd, .int vxs])), (axd, .inl (cy, 8, .inl (upd fxd l2.toNatClampNeg (fod l2.toNatClampNeg)))), (ao, .inr (2, [.ref aod, .int vos])), (aod, .inl (cy, 8, .inl fod))] H := hP
        replace hD : va_D A [(ax, .inr (2, [.ref axd, .int vxs])), (axd, .inl (cy, 8, .inl (upd fxd l2.toNatClampNeg (fod l2.toNatClampNeg)))), (ao, .inr (2, [.ref aod, .int vos])), (aod, .inl (cy, 8, .inl fod))] := hD
        refine lv_iinc (v := l2 + (1 : Int32)) (lv' := [(2, .int (l2 + (1 : Int32))), (0, .ref ax), (1, .ref ao)]) hx hb dX2_become_28 hl (k := 2) rfl rfl (by decide) rfl (fun ls hl => ?_)
        refine lv_goto (tgt := 10) hx hb dX2_become_31 (by decide) ?_
        exact ih (l2 + (1 : Int32)) vxs (upd fxd l2.toNatClampNeg (fod l2.toNatClampNeg)) rs H locs ls h (lv_sub hl [1, 2, 0] rfl) hP hD hS K
  obtain ⟨q3, hq3, h⟩ := bd_some h
  refine L10_1 FU (0 : Int32) vos fxd q3 H locs ls hq3 (lv_sub hl [1, 2, 0] rfl) hP hD hS (fun H locs ls hl hP hD hS => ?_)
  have h0 := Option.some.inj h
  subst h0
  exact W.vret hx hb hr (fun t ht hW => ⟨⟨(), rfl, trivial, QW_mk hP hK hD ht hW⟩, hS.F ht⟩) hS.2.2 dX2_become_34

noncomputable def fX2_spell_L7 (n : Nat) (l1 : Int32) (l3 : Int32) (vxs : Int32) (fxd : Nat → Int32) : Option (Int32 × (Nat → Int32)) := match n with
  | 0 => none
  | n + 1 => if vxs ≤ l3 then (some (l3, fxd)) else (gin l3 8 (fX2_spell_L7 n l1 (l3 + (1 : Int32)) vxs (upd fxd l3.toNatClampNeg ((l1 >>> (((vxs - (1 : Int32)) - l3) &&& 31)) &&& (1 : Int32)))))
theorem fX2_spell_L7_0 (l1 : Int32) (l3 : Int32) (vxs : Int32) (fxd : Nat → Int32) : fX2_spell_L7 0 l1 l3 vxs fxd = none := rfl
theorem fX2_spell_L7_s (n : Nat) (l1 : Int32) (l3 : Int32) (vxs : Int32) (fxd : Nat → Int32) : fX2_spell_L7 (n + 1) l1 l3 vxs fxd = if vxs ≤ l3 then (some (l3, fxd)) else (gin l3 8 (fX2_spell_L7 n l1 (l3 + (1 : Int32)) vxs (upd fxd l3.toNatClampNeg ((l1 >>> (((vxs - (1 : Int32)) - l3) &&& 31)) &&& (1 : Int32))))) := rfl
noncomputable def fX2_spell (vxs : Int32) (fxd : Nat → Int32) (p0 : Int32) (p1 : Int32) : Option (Int32 × (Nat → Int32)) := bd (fX2_spell_L7 FU p0 (0 : Int32) p1 fxd) fun q3 => some (p1, q3.2)
set_option maxHeartbeats 4000000 in
set_option maxRecDepth 100000 in
theorem c_X2_spell (l : Launch) (dC : Nat → ClassId) (dI : Nat → Nat → Nat) (cy : ClassId) (ax axd : Nat) (sz : Nat) (vxs : Int32) (fxd : Nat → Int32) (p0 : Int32) (p1 : Int32) (res : Int32 × (Nat → Int32)) (h : fX2_spell vxs fxd p0 p1 = some res) : Met l yX2_spell wsX2_spell ({ frames := 0, cells := 0, slots := 0, locals := 0 }) (va_Pc [.ref ax, .int p0, .int p1] (PW (dC, dI) cy sz [(ax, .inr (2, [.ref axd, .int vxs])), (axd, .inl (cy, 8, .inl fxd))])) (va_Qv (fun (_ : Unit) => True) (QW (dC, dI) cy (va_A [(ax, .inr (2, [.ref axd, .int vxs])), (axd, .inl (cy, 8, .inl fxd))] sz) [(ax, .inr (2, [.ref axd, .int res.1])), (axd, .inl (cy, 8, .inl res.2))]) (va_A [(ax, .inr (2, [.ref axd, .int vxs])), (axd, .inl (cy, 8, .inl fxd))] sz)) 0 0 (va_A [(ax, .inr (2, [.ref axd, .int vxs])), (axd, .inl (cy, 8, .inl fxd))] sz) := by
  refine Met.ofW (cc := cX2_spell) (maxL := 4) (ret := none) (by decide) rfl ?_
  intro p e s m args below meth c s₁ B hml hv
  obtain ⟨rfl, hsz, hP, hK, hD0, hN⟩ := hv
  have hx := B.exec
  have hb := B.bytes
  have hr := B.returns
  have hts := atoms_spec (ws := wsX2_spell) B.pre
  have hown : s.vm.findClass RX2 = some m.cls := findClass_of_methodNamed B.named
  have hlocks := B.notSynchronized
  subst hsz
  have hD := hD0.self (sz := s.heap.size)
  clear hD0
  generalize hAe : va_A [(ax, .inr (2, [.ref axd, .int vxs])), (axd, .inl (cy, 8, .inl fxd))] s.heap.size = A at hD ⊢
  have hA : ∀ q : Nat, s.heap.size ≤ q → A q := fun q h => by rw [← hAe]; exact Or.inr h
  have hS : va_S A s.heap s.heap [] := va_S.rf
  have hl := lv_entry ([.ref ax, .int p0, .int p1]) (n := 4) (Nat.le_of_ble_eq_true rfl)
  rw [lg_entry_eq]
  generalize (lg_sl ([.ref ax, .int p0, .int p1]) ++ List.replicate (4 - (lg_sl ([.ref ax, .int p0, .int p1])).length) Slot.unset).toArray = ls at hl ⊢
  replace hl : lv_has ls 4 [(0, .ref ax), (1, .int p0), (2, .int p1)] := hl
  replace hP : va_P (dC, dI) vwCl [(ax, .inr (2, [.ref axd, .int vxs])), (axd, .inl (cy, 8, .inl fxd))] s.heap := hP
  obtain ⟨locs, hlocs⟩ : ∃ lc : List Loc, lc = [] := ⟨_, rfl⟩
  rw [← hlocs] at hS ⊢
  obtain ⟨H, hH⟩ : ∃ H : Heap, H = s.heap := ⟨_, rfl⟩
  have hP2 := hP; rw [← hH] at hP2
  have hS2 : va_S A s.heap H locs := by rw [hH]; exact hS
  suffices hgo : W p l e (headSpec wsX2_spell ({ frames := 0, cells := 0, slots := 0, locals := 0 })).room s m (([.ref ax, .int p0, .int p1] : List Value).toArray) below meth c H locs 0 0 (MQ below (va_Qv (fun (_ : Unit) => True) (QW (dC, dI) cy A [(ax, .inr (2, [.ref axd, .int res.1])), (axd, .inl (cy, 8, .inl res.2))]) A) (([.ref ax, .int p0, .int p1] : List Value).toArray) s 0 0 A) (F0 m 0 ls []) by rw [hH] at hgo; exact hgo
  replace hP := hP2
  replace hS := hS2
  clear hP2 hS2
  have hin_X2 : ∀ w ∈ wsX20, w ∈ wsX2_spell := by decide +kernel
  have hf_9 := hts (.fieldLink RX2 9 "FewLooks$Row" "digits" "[I") (by decide +kernel)
  have hf_15 := hts (.fieldLink RX2 15 "FewLooks$Row" "size" "I") (by decide +kernel)
  unfold fX2_spell at h
  refine lv_aload_n hx hb dX2_spell_0 rfl (lv_at hl 0 rfl) ?_
  refine lv_iload_n hx hb dX2_spell_1 rfl (lv_at hl 2 rfl) ?_
  refine va_put (D := (dC, dI)) (ci := 2) (v := .int p1) (ty := .int) (C := RX2) (T := TX2) (N := 2) hx hb hts hin_X2 tyX2 tyX2_ok nmX2 hown hK hP hD hS 0 rfl rfl 1 (by decide) (hf_15) (fun _ h9 => h9) rfl (by decide +kernel) rfl rfl (Nat.le_of_ble_eq_true rfl) dX2_spell_2 (fun H locs hP hD hS => ?_)
  replace hP : va_P (dC, dI) vwCl [(ax, .inr (2, [.ref axd, .int p1])), (axd, .inl (cy, 8, .inl fxd))] H := hP
  replace hD : va_D A [(ax, .inr (2, [.ref axd, .int p1])), (axd, .inl (cy, 8, .inl fxd))] := hD
  refine lv_iconst (v := (0 : Int32)) hx hb dX2_spell_5 (by decide) ?_
  refine lv_istore_n (lv' := [(3, .int (0 : Int32)), (0, .ref ax), (1, .int p0), (2, .int p1)]) hx hb dX2_spell_6 rfl hl (by decide) rfl (fun ls hl => ?_)
  have L7_1 : ∀ (n : Nat) (l1 : Int32) (l2 : Int32) (l3 : Int32) (vxs : Int32) (fxd : Nat → Int32) (rs : (Int32 × (Nat → Int32))) (H : Heap) (locs : List Loc) (ls : Array Slot), fX2_spell_L7 n l1 l3 vxs fxd = some rs → lv_has ls 4 [(0, .ref ax), (1, .int l1), (2, .int l2), (3, .int l3)] → va_P (dC, dI) vwCl [(ax, .inr (2, [.ref axd, .int vxs])), (axd, .inl (cy, 8, .inl fxd))] H → va_D A [(ax, .inr (2, [.ref axd, .int vxs])), (axd, .inl (cy, 8, .inl fxd))] → va_S A s.heap H locs → (∀ (H : Heap) (locs : List Loc) (ls : Array Slot), lv_has ls 4 [(0, .ref ax), (1, .int l1), (2, .int l2), (3, .int rs.1)] → va_P (dC, dI) vwCl [(ax, .inr (2, [.ref axd, .int vxs])), (axd, .inl (cy, 8, .inl rs.2))] H → va_D A [(ax, .inr (2, [.ref axd, .int vxs])), (axd, .inl (cy, 8, .inl rs.2))] → va_S A s.heap H locs → W p l e (headSpec wsX2_spell ({ frames := 0, cells := 0, slots := 0, locals := 0 })).room s m (([.ref ax, .int p0, .int p1] : List Value).toArray) below meth c H locs 0 0 (MQ below (va_Qv (fun (_ : Unit) => True) (QW (dC, dI) cy A [(ax, .inr (2, [.ref axd, .int res.1])), (axd, .inl (cy, 8, .inl res.2))]) A) (([.ref ax, .int p0, .int p1] : List Value).toArray) s 0 0 A) (F0 m 39 ls [])) → W p l e (headSpec wsX2_spell ({ frames := 0, cells := 0, slots := 0, locals := 0 })).room s m (([.ref ax, .int p0, .int p1] : List Value).toArray) below meth c H locs 0 0 (MQ below (va_Qv (fun (_ : Unit) => True) (QW (dC, dI) cy A [(ax, .inr (2, [.ref axd, .int res.1])), (axd, .inl (cy, 8, .inl res.2))]) A) (([.ref ax, .int p0, .int p1] : List Value).toArray) s 0 0 A) (F0 m 7 ls []) := by
    intro n
    induction n with
    | zero =>
      intro l1 l2 l3 vxs fxd rs H locs ls h
      rw [fX2_spell_L7_0] at h
      cases h
    | succ n ih =>
      intro l1 l2 l3 vxs fxd rs H locs ls h hl hP hD hS K
      rw [fX2_spell_L7_s] at h
      refine lv_iload_n hx hb dX2_spell_7 rfl (lv_at hl 3 rfl) ?_
      refine lv_aload_n hx hb dX2_spell_8 rfl (lv_at hl 0 rfl) ?_
      refine va_get (D := (dC, dI)) (ci := 2) (v := .int vxs) (C := RX2) (T := TX2) (N := 2) hx hb hts hin_X2 hown hK hP 0 rfl rfl 1 (by decide) (hf_15) (fun _ h9 => h9) rfl dX2_spell_9 ?_
      refine lv_icmp_ge (tgt := 39) hx hb dX2_spell_12 (by decide) (fun c1 => ?_) (fun c1 => ?_)
      · rw [if_pos c1] at h
        have h0 := Option.some.inj h
        subst h0
        exact K H locs ls (lv_sub hl [0, 1, 2, 3] rfl) hP hD hS
      · rw [if_neg c1] at h
        refine lv_aload_n hx hb dX2_spell_15 rfl (lv_at hl 0 rfl) ?_
        refine va_get (D := (dC, dI)) (ci := 2) (v := .ref axd) (C := RX2) (T := TX2) (N := 2) hx hb hts hin_X2 hown hK hP 0 rfl rfl 0 (by decide) (hf_9) (fun _ h9 => h9) rfl dX2_spell_16 ?_
        refine lv_iload_n hx hb dX2_spell_19 rfl (lv_at hl 3 rfl) ?_
        refine lv_iload_n hx hb dX2_spell_20 rfl (lv_at hl 1 rfl) ?_
        refine lv_aload_n hx hb dX2_spell_21 rfl (lv_at hl 0 rfl) ?_
        refine va_get (D := (dC, dI)) (ci := 2) (v := .int vxs) (C := RX2) (T := TX2) (N := 2) hx hb hts hin_X2 hown hK hP 0 rfl rfl 1 (by decide) (hf_15) (fun _ h9 => h9) rfl dX2_spell_22 ?_
        refine lv_iconst (v := (1 : Int32)) hx hb dX2_spell_25 (by decide) ?_
        refine lv_isub hx hb dX2_spell_26 ?_
        refine lv_iload_n hx hb dX2_spell_27 rfl (lv_at hl 3 rfl) ?_
        refine lv_isub hx hb dX2_spell_28 ?_
        refine lv_ishr hx hb dX2_spell_29 ?_
        refine lv_iconst (v := (1 : Int32)) hx hb dX2_spell_30 (by decide) ?_
        refine lv_iand hx hb dX2_spell_31 ?_
        obtain ⟨hi, h⟩ := gin_some h
        refine va_iast hx hb hK hP hD hS 1 0 rfl rfl hi dX2_spell_32 (fun H locs hP hD hS => ?_)
        replace hP : va_P (dC, dI) vwCl [(ax, .inr (2, [.ref axd, .int vxs])), (axd, .inl (cy, 8, .inl (upd fxd l3.toNatClampNeg ((l1 >>> (((vxs - (1 : Int32)) - l3) &&& 31)) &&& (1 : Int32)))))] H := hP
        replace hD : va_D A [(ax, .inr (2, [.ref axd, .int vxs])), (axd, .inl (cy, 8, .inl (upd fxd l3.toNatClampNeg ((l1 >>> (((vxs - (1 : Int32)) - l3) &&& 31)) &&& (1 : Int32)))))] := hD
        refine lv_iinc (v := l3 + (1 : Int32)) (lv' := [(3, .int (l3 + (1 : Int32))), (0, .ref ax), (1, .int l1), (2, .int l2)]) hx hb dX2_spell_33 hl (k := 3) rfl rfl (by decide) rfl (fun ls hl => ?_)
        refine lv_goto (tgt := 7) hx hb dX2_spell_36 (by decide) ?_
        exact ih l1 l2 (l3 + (1 : Int32)) vxs (upd fxd l3.toNatClampNeg ((l1 >>> (((vxs - (1 : Int32)) - l3) &&& 31)) &&& (1 : Int32))) rs H locs ls h (lv_sub hl [1, 2, 3, 0] rfl) hP hD hS K
  obtain ⟨q3, hq3, h⟩ := bd_some h
  refine L7_1 FU p0 p1 (0 : Int32) p1 fxd q3 H locs ls hq3 (lv_sub hl [1, 2, 3, 0] rfl) hP hD hS (fun H locs ls hl hP hD hS => ?_)
  have h0 := Option.some.inj h
  subst h0
  exact W.vret hx hb hr (fun t ht hW => ⟨⟨(), rfl, trivial, QW_mk hP hK hD ht hW⟩, hS.F ht⟩) hS.2.2 dX2_spell_39

noncomputable def fX2_total_L4 (n : Nat) (l1 : Int32) (l2 : Int32) (vxs : Int32) (fxd : Nat → Int32) : Option (Int32 × Int32) := match n with
  | 0 => none
  | n + 1 => if vxs ≤ l2 then (some (l1, l2)) else (gin l2 8 (fX2_total_L4 n (l1 + (fxd l2.toNatClampNeg)) (l2 + (1 : Int32)) vxs fxd))
theorem fX2_total_L4_0 (l1 : Int32) (l2 : Int32) (vxs : Int32) (fxd : Nat → Int32) : fX2_total_L4 0 l1 l2 vxs fxd = none := rfl
theorem fX2_total_L4_s (n : Nat) (l1 : Int32) (l2 : Int32) (vxs : Int32) (fxd : Nat → Int32) : fX2_total_L4 (n + 1) l1 l2 vxs fxd = if vxs ≤ l2 then (some (l1, l2)) else (gin l2 8 (fX2_total_L4 n (l1 + (fxd l2.toNatClampNeg)) (l2 + (1 : Int32)) vxs fxd)) := rfl
noncomputable def fX2_total (vxs : Int32) (fxd : Nat → Int32)  : Option (Int32) := bd (fX2_total_L4 FU (0 : Int32) (0 : Int32) vxs fxd) fun q3 => some q3.1
set_option maxHeartbeats 4000000 in
set_option maxRecDepth 100000 in
theorem c_X2_total (l : Launch) (dC : Nat → ClassId) (dI : Nat → Nat → Nat) (cy : ClassId) (ax axd : Nat) (sz : Nat) (vxs : Int32) (fxd : Nat → Int32)  (res : Int32) (h : fX2_total vxs fxd = some res) : Met l yX2_total wsX2_total ({ frames := 0, cells := 0, slots := 0, locals := 0 }) (va_Pc [.ref ax] (PW (dC, dI) cy sz [(ax, .inr (2, [.ref axd, .int vxs])), (axd, .inl (cy, 8, .inl fxd))])) (va_Qi (fun (r : Int32) (_ : Unit) => r = res) (QW (dC, dI) cy (va_A [(ax, .inr (2, [.ref axd, .int vxs])), (axd, .inl (cy, 8, .inl fxd))] sz) [(ax, .inr (2, [.ref axd, .int vxs])), (axd, .inl (cy, 8, .inl fxd))]) (va_A [(ax, .inr (2, [.ref axd, .int vxs])), (axd, .inl (cy, 8, .inl fxd))] sz)) 0 0 (va_A [(ax, .inr (2, [.ref axd, .int vxs])), (axd, .inl (cy, 8, .inl fxd))] sz) := by
  refine Met.ofW (cc := cX2_total) (maxL := 3) (ret := (some .int)) (by decide) rfl ?_
  intro p e s m args below meth c s₁ B hml hv
  obtain ⟨rfl, hsz, hP, hK, hD0, hN⟩ := hv
  have hx := B.exec
  have hb := B.bytes
  have hr := B.returns
  have hts := atoms_spec (ws := wsX2_total) B.pre
  have hown : s.vm.findClass RX2 = some m.cls := findClass_of_methodNamed B.named
  have hlocks := B.notSynchronized
  subst hsz
  have hD := hD0.self (sz := s.heap.size)
  clear hD0
  generalize hAe : va_A [(ax, .inr (2, [.ref axd, .int vxs])), (axd, .inl (cy, 8, .inl fxd))] s.heap.size = A at hD ⊢
  have hA : ∀ q : Nat, s.heap.size ≤ q → A q := fun q h => by rw [← hAe]; exact Or.inr h
  have hS : va_S A s.heap s.heap [] := va_S.rf
  have hl := lv_entry ([.ref ax]) (n := 3) (Nat.le_of_ble_eq_true rfl)
  rw [lg_entry_eq]
  generalize (lg_sl ([.ref ax]) ++ List.replicate (3 - (lg_sl ([.ref ax])).length) Slot.unset).toArray = ls at hl ⊢
  replace hl : lv_has ls 3 [(0, .ref ax)] := hl
  replace hP : va_P (dC, dI) vwCl [(ax, .inr (2, [.ref axd, .int vxs])), (axd, .inl (cy, 8, .inl fxd))] s.heap := hP
  obtain ⟨locs, hlocs⟩ : ∃ lc : List Loc, lc = [] := ⟨_, rfl⟩
  rw [← hlocs] at hS ⊢
  obtain ⟨H, hH⟩ : ∃ H : Heap, H = s.heap := ⟨_, rfl⟩
  have hP2 := hP; rw [← hH] at hP2
  have hS2 : va_S A s.heap H locs := by rw [hH]; exact hS
  suffices hgo : W p l e (headSpec wsX2_total ({ frames := 0, cells := 0, slots := 0, locals := 0 })).room s m (([.ref ax] : List Value).toArray) below meth c H locs 0 0 (MQ below (va_Qi (fun (r : Int32) (_ : Unit) => r = res) (QW (dC, dI) cy A [(ax, .inr (2, [.ref axd, .int vxs])), (axd, .inl (cy, 8, .inl fxd))]) A) (([.ref ax] : List Value).toArray) s 0 0 A) (F0 m 0 ls []) by rw [hH] at hgo; exact hgo
  replace hP := hP2
  replace hS := hS2
  clear hP2 hS2
  have hin_X2 : ∀ w ∈ wsX20, w ∈ wsX2_total := by decide +kernel
  have hf_9 := hts (.fieldLink RX2 9 "FewLooks$Row" "digits" "[I") (by decide +kernel)
  have hf_15 := hts (.fieldLink RX2 15 "FewLooks$Row" "size" "I") (by decide +kernel)
  unfold fX2_total at h
  refine lv_iconst (v := (0 : Int32)) hx hb dX2_total_0 (by decide) ?_
  refine lv_istore_n (lv' := [(1, .int (0 : Int32)), (0, .ref ax)]) hx hb dX2_total_1 rfl hl (by decide) rfl (fun ls hl => ?_)
  refine lv_iconst (v := (0 : Int32)) hx hb dX2_total_2 (by decide) ?_
  refine lv_istore_n (lv' := [(2, .int (0 : Int32)), (1, .int (0 : Int32)), (0, .ref ax)]) hx hb dX2_total_3 rfl hl (by decide) rfl (fun ls hl => ?_)
  have L4_1 : ∀ (n : Nat) (l1 : Int32) (l2 : Int32) (rs : (Int32 × Int32)) (H : Heap) (locs : List Loc) (ls : Array Slot), fX2_total_L4 n l1 l2 vxs fxd = some rs → lv_has ls 3 [(0, .ref ax), (1, .int l1), (2, .int l2)] → va_P (dC, dI) vwCl [(ax, .inr (2, [.ref axd, .int vxs])), (axd, .inl (cy, 8, .inl fxd))] H → va_D A [(ax, .inr (2, [.ref axd, .int vxs])), (axd, .inl (cy, 8, .inl fxd))] → va_S A s.heap H locs → (∀ (H : Heap) (locs : List Loc) (ls : Array Slot), lv_has ls 3 [(0, .ref ax), (1, .int rs.1), (2, .int rs.2)] → va_P (dC, dI) vwCl [(ax, .inr (2, [.ref axd, .int vxs])), (axd, .inl (cy, 8, .inl fxd))] H → va_D A [(ax, .inr (2, [.ref axd, .int vxs])), (axd, .inl (cy, 8, .inl fxd))] → va_S A s.heap H locs → W p l e (headSpec wsX2_total ({ frames := 0, cells := 0, slots := 0, locals := 0 })).room s m (([.ref ax] : List Value).toArray) below meth c H locs 0 0 (MQ below (va_Qi (fun (r : Int32) (_ : Unit) => r = res) (QW (dC, dI) cy A [(ax, .inr (2, [.ref axd, .int vxs])), (axd, .inl (cy, 8, .inl fxd))]) A) (([.ref ax] : List Value).toArray) s 0 0 A) (F0 m 27 ls [])) → W p l e (headSpec wsX2_total ({ frames := 0, cells := 0, slots := 0, locals := 0 })).room s m (([.ref ax] : List Value).toArray) below meth c H locs 0 0 (MQ below (va_Qi (fun (r : Int32) (_ : Unit) => r = res) (QW (dC, dI) cy A [(ax, .inr (2, [.ref axd, .int vxs])), (axd, .inl (cy, 8, .inl fxd))]) A) (([.ref ax] : List Value).toArray) s 0 0 A) (F0 m 4 ls []) := by
    intro n
    induction n with
    | zero =>
      intro l1 l2 rs H locs ls h
      rw [fX2_total_L4_0] at h
      cases h
    | succ n ih =>
      intro l1 l2 rs H locs ls h hl hP hD hS K
      rw [fX2_total_L4_s] at h
      refine lv_iload_n hx hb dX2_total_4 rfl (lv_at hl 2 rfl) ?_
      refine lv_aload_n hx hb dX2_total_5 rfl (lv_at hl 0 rfl) ?_
      refine va_get (D := (dC, dI)) (ci := 2) (v := .int vxs) (C := RX2) (T := TX2) (N := 2) hx hb hts hin_X2 hown hK hP 0 rfl rfl 1 (by decide) (hf_15) (fun _ h9 => h9) rfl dX2_total_6 ?_
      refine lv_icmp_ge (tgt := 27) hx hb dX2_total_9 (by decide) (fun c1 => ?_) (fun c1 => ?_)
      · rw [if_pos c1] at h
        have h0 := Option.some.inj h
        subst h0
        exact K H locs ls (lv_sub hl [0, 1, 2] rfl) hP hD hS
      · rw [if_neg c1] at h
        refine lv_iload_n hx hb dX2_total_12 rfl (lv_at hl 1 rfl) ?_
        refine lv_aload_n hx hb dX2_total_13 rfl (lv_at hl 0 rfl) ?_
        refine va_get (D := (dC, dI)) (ci := 2) (v := .ref axd) (C := RX2) (T := TX2) (N := 2) hx hb hts hin_X2 hown hK hP 0 rfl rfl 0 (by decide) (hf_9) (fun _ h9 => h9) rfl dX2_total_14 ?_
        refine lv_iload_n hx hb dX2_total_17 rfl (lv_at hl 2 rfl) ?_
        obtain ⟨hi, h⟩ := gin_some h
        refine va_iald hx hb hK hP 1 0 rfl rfl hi dX2_total_18 ?_
        refine lv_iadd hx hb dX2_total_19 ?_
        refine lv_istore_n (lv' := [(1, .int (l1 + (fxd l2.toNatClampNeg))), (0, .ref ax), (2, .int l2)]) hx hb dX2_total_20 rfl hl (by decide) rfl (fun ls hl => ?_)
        refine lv_iinc (v := l2 + (1 : Int32)) (lv' := [(2, .int (l2 + (1 : Int32))), (1, .int (l1 + (fxd l2.toNatClampNeg))), (0, .ref ax)]) hx hb dX2_total_21 hl (k := 2) rfl rfl (by decide) rfl (fun ls hl => ?_)
        refine lv_goto (tgt := 4) hx hb dX2_total_24 (by decide) ?_
        exact ih (l1 + (fxd l2.toNatClampNeg)) (l2 + (1 : Int32)) rs H locs ls h (lv_sub hl [2, 1, 0] rfl) hP hD hS K
  obtain ⟨q3, hq3, h⟩ := bd_some h
  refine L4_1 FU (0 : Int32) (0 : Int32) q3 H locs ls hq3 (lv_sub hl [2, 1, 0] rfl) hP hD hS (fun H locs ls hl hP hD hS => ?_)
  refine lv_iload_n hx hb dX2_total_27 rfl (lv_at hl 1 rfl) ?_
  have h0 := Option.some.inj h
  subst h0
  exact W.iret hx hb hr (fun t ht hW => ⟨⟨_, (), rfl, rfl, QW_mk hP hK hD ht hW⟩, hS.F ht⟩) hS.2.2 dX2_total_28

noncomputable def fX2_differing_L4 (n : Nat) (l2 : Int32) (l3 : Int32) (vxs : Int32) (fxd : Nat → Int32) (fod : Nat → Int32) : Option (Int32 × Int32) := match n with
  | 0 => none
  | n + 1 => if vxs ≤ l3 then (some (l2, l3)) else (gin l3 8 (gin l3 8 (if (fxd l3.toNatClampNeg) = (fod l3.toNatClampNeg) then (fX2_differing_L4 n l2 (l3 + (1 : Int32)) vxs fxd fod) else (fX2_differing_L4 n (l2 + (1 : Int32)) (l3 + (1 : Int32)) vxs fxd fod))))
theorem fX2_differing_L4_0 (l2 : Int32) (l3 : Int32) (vxs : Int32) (fxd : Nat → Int32) (fod : Nat → Int32) : fX2_differing_L4 0 l2 l3 vxs fxd fod = none := rfl
theorem fX2_differing_L4_s (n : Nat) (l2 : Int32) (l3 : Int32) (vxs : Int32) (fxd : Nat → Int32) (fod : Nat → Int32) : fX2_differing_L4 (n + 1) l2 l3 vxs fxd fod = if vxs ≤ l3 then (some (l2, l3)) else (gin l3 8 (gin l3 8 (if (fxd l3.toNatClampNeg) = (fod l3.toNatClampNeg) then (fX2_differing_L4 n l2 (l3 + (1 : Int32)) vxs fxd fod) else (fX2_differing_L4 n (l2 + (1 : Int32)) (l3 + (1 : Int32)) vxs fxd fod)))) := rfl
noncomputable def fX2_differing (vxs : Int32) (fxd : Nat → Int32) (fod : Nat → Int32)  : Option (Int32) := bd (fX2_differing_L4 FU (0 : Int32) (0 : Int32) vxs fxd fod) fun q4 => some q4.1
set_option maxHeartbeats 4000000 in
set_option maxRecDepth 100000 in
theorem c_X2_differing (l : Launch) (dC : Nat → ClassId) (dI : Nat → Nat → Nat) (cy : ClassId) (ax axd ao aod : Nat) (sz : Nat) (vxs : Int32) (fxd : Nat → Int32) (vos : Int32) (fod : Nat → Int32)  (res : Int32) (h : fX2_differing vxs fxd fod = some res) : Met l yX2_differing wsX2_differing ({ frames := 0, cells := 0, slots := 0, locals := 0 }) (va_Pc [.ref ax, .ref ao] (PW (dC, dI) cy sz [(ax, .inr (2, [.ref axd, .int vxs])), (axd, .inl (cy, 8, .inl fxd)), (ao, .inr (2, [.ref aod, .int vos])), (aod, .inl (cy, 8, .inl fod))])) (va_Qi (fun (r : Int32) (_ : Unit) => r = res) (QW (dC, dI) cy (va_A [(ax, .inr (2, [.ref axd, .int vxs])), (axd, .inl (cy, 8, .inl fxd)), (ao, .inr (2, [.ref aod, .int vos])), (aod, .inl (cy, 8, .inl fod))] sz) [(ax, .inr (2, [.ref axd, .int vxs])), (axd, .inl (cy, 8, .inl fxd)), (ao, .inr (2, [.ref aod, .int vos])), (aod, .inl (cy, 8, .inl fod))]) (va_A [(ax, .inr (2, [.ref axd, .int vxs])), (axd, .inl (cy, 8, .inl fxd)), (ao, .inr (2, [.ref aod, .int vos])), (aod, .inl (cy, 8, .inl fod))] sz)) 0 0 (va_A [(ax, .inr (2, [.ref axd, .int vxs])), (axd, .inl (cy, 8, .inl fxd)), (ao, .inr (2, [.ref aod, .int vos])), (aod, .inl (cy, 8, .inl fod))] sz) := by
  refine Met.ofW (cc := cX2_differing) (maxL := 4) (ret := (some .int)) (by decide) rfl ?_
  intro p e s m args below meth c s₁ B hml hv
  obtain ⟨rfl, hsz, hP, hK, hD0, hN⟩ := hv
  have hx := B.exec
  have hb := B.bytes
  have hr := B.returns
  have hts := atoms_spec (ws := wsX2_differing) B.pre
  have hown : s.vm.findClass RX2 = some m.cls := findClass_of_methodNamed B.named
  have hlocks := B.notSynchronized
  subst hsz
  have hD := hD0.self (sz := s.heap.size)
  clear hD0
  generalize hAe : va_A [(ax, .inr (2, [.ref axd, .int vxs])), (axd, .inl (cy, 8, .inl fxd)), (ao, .inr (2, [.ref aod, .int vos])), (aod, .inl (cy, 8, .inl fod))] s.heap.size = A at hD ⊢
  have hA : ∀ q : Nat, s.heap.size ≤ q → A q := fun q h => by rw [← hAe]; exact Or.inr h
  have hS : va_S A s.heap s.heap [] := va_S.rf
  have hl := lv_entry ([.ref ax, .ref ao]) (n := 4) (Nat.le_of_ble_eq_true rfl)
  rw [lg_entry_eq]
  generalize (lg_sl ([.ref ax, .ref ao]) ++ List.replicate (4 - (lg_sl ([.ref ax, .ref ao])).length) Slot.unset).toArray = ls at hl ⊢
  replace hl : lv_has ls 4 [(0, .ref ax), (1, .ref ao)] := hl
  replace hP : va_P (dC, dI) vwCl [(ax, .inr (2, [.ref axd, .int vxs])), (axd, .inl (cy, 8, .inl fxd)), (ao, .inr (2, [.ref aod, .int vos])), (aod, .inl (cy, 8, .inl fod))] s.heap := hP
  obtain ⟨locs, hlocs⟩ : ∃ lc : List Loc, lc = [] := ⟨_, rfl⟩
  rw [← hlocs] at hS ⊢
  obtain ⟨H, hH⟩ : ∃ H : Heap, H = s.heap := ⟨_, rfl⟩
  have hP2 := hP; rw [← hH] at hP2
  have hS2 : va_S A s.heap H locs := by rw [hH]; exact hS
  suffices hgo : W p l e (headSpec wsX2_differing ({ frames := 0, cells := 0, slots := 0, locals := 0 })).room s m (([.ref ax, .ref ao] : List Value).toArray) below meth c H locs 0 0 (MQ below (va_Qi (fun (r : Int32) (_ : Unit) => r = res) (QW (dC, dI) cy A [(ax, .inr (2, [.ref axd, .int vxs])), (axd, .inl (cy, 8, .inl fxd)), (ao, .inr (2, [.ref aod, .int vos])), (aod, .inl (cy, 8, .inl fod))]) A) (([.ref ax, .ref ao] : List Value).toArray) s 0 0 A) (F0 m 0 ls []) by rw [hH] at hgo; exact hgo
  replace hP := hP2
  replace hS := hS2
  clear hP2 hS2
  have hin_X2 : ∀ w ∈ wsX20, w ∈ wsX2_differing := by decide +kernel
  have hf_9 := hts (.fieldLink RX2 9 "FewLooks$Row" "digits" "[I") (by decide +kernel)
  have hf_15 := hts (.fieldLink RX2 15 "FewLooks$Row" "size" "I") (by decide +kernel)
  unfold fX2_differing at h
  refine lv_iconst (v := (0 : Int32)) hx hb dX2_differing_0 (by decide) ?_
  refine lv_istore_n (lv' := [(2, .int (0 : Int32)), (0, .ref ax), (1, .ref ao)]) hx hb dX2_differing_1 rfl hl (by decide) rfl (fun ls hl => ?_)
  refine lv_iconst (v := (0 : Int32)) hx hb dX2_differing_2 (by decide) ?_
  refine lv_istore_n (lv' := [(3, .int (0 : Int32)), (2, .int (0 : Int32)), (0, .ref ax), (1, .ref ao)]) hx hb dX2_differing_3 rfl hl (by decide) rfl (fun ls hl => ?_)
  have L4_2 : ∀ (n : Nat) (l2 : Int32) (l3 : Int32) (rs : (Int32 × Int32)) (H : Heap) (locs : List Loc) (ls : Array Slot), fX2_differing_L4 n l2 l3 vxs fxd fod = some rs → lv_has ls 4 [(0, .ref ax), (1, .ref ao), (2, .int l2), (3, .int l3)] → va_P (dC, dI) vwCl [(ax, .inr (2, [.ref axd, .int vxs])), (axd, .inl (cy, 8, .inl fxd)), (ao, .inr (2, [.ref aod, .int vos])), (aod, .inl (cy, 8, .inl fod))] H → va_D A [(ax, .inr (2, [.ref axd, .int vxs])), (axd, .inl (cy, 8, .inl fxd)), (ao, .inr (2, [.ref aod, .int vos])), (aod, .inl (cy, 8, .inl fod))] → va_S A s.heap H locs → (∀ (H : Heap) (locs : List Loc) (ls : Array Slot), lv_has ls 4 [(0, .ref ax), (1, .ref ao), (2, .int rs.1), (3, .int rs.2)] → va_P (dC, dI) vwCl [(ax, .inr (2, [.ref axd, .int vxs])), (axd, .inl (cy, 8, .inl fxd)), (ao, .inr (2, [.ref aod, .int vos])), (aod, .inl (cy, 8, .inl fod))] H → va_D A [(ax, .inr (2, [.ref axd, .int vxs])), (axd, .inl (cy, 8, .inl fxd)), (ao, .inr (2, [.ref aod, .int vos])), (aod, .inl (cy, 8, .inl fod))] → va_S A s.heap H locs → W p l e (headSpec wsX2_differing ({ frames := 0, cells := 0, slots := 0, locals := 0 })).room s m (([.ref ax, .ref ao] : List Value).toArray) below meth c H locs 0 0 (MQ below (va_Qi (fun (r : Int32) (_ : Unit) => r = res) (QW (dC, dI) cy A [(ax, .inr (2, [.ref axd, .int vxs])), (axd, .inl (cy, 8, .inl fxd)), (ao, .inr (2, [.ref aod, .int vos])), (aod, .inl (cy, 8, .inl fod))]) A) (([.ref ax, .ref ao] : List Value).toArray) s 0 0 A) (F0 m 36 ls [])) → W p l e (headSpec wsX2_differing ({ frames := 0, cells := 0, slots := 0, locals := 0 })).room s m (([.ref ax, .ref ao] : List Value).toArray) below meth c H locs 0 0 (MQ below (va_Qi (fun (r : Int32) (_ : Unit) => r = res) (QW (dC, dI) cy A [(ax, .inr (2, [.ref axd, .int vxs])), (axd, .inl (cy, 8, .inl fxd)), (ao, .inr (2, [.ref aod, .int vos])), (aod, .inl (cy, 8, .inl fod))]) A) (([.ref ax, .ref ao] : List Value).toArray) s 0 0 A) (F0 m 4 ls []) := by
    intro n
    induction n with
    | zero =>
      intro l2 l3 rs H locs ls h
      rw [fX2_differing_L4_0] at h
      cases h
    | succ n ih =>
      intro l2 l3 rs H locs ls h hl hP hD hS K
      rw [fX2_differing_L4_s] at h
      refine lv_iload_n hx hb dX2_differing_4 rfl (lv_at hl 3 rfl) ?_
      refine lv_aload_n hx hb dX2_differing_5 rfl (lv_at hl 0 rfl) ?_
      refine va_get (D := (dC, dI)) (ci := 2) (v := .int vxs) (C := RX2) (T := TX2) (N := 2) hx hb hts hin_X2 hown hK hP 0 rfl rfl 1 (by decide) (hf_15) (fun _ h9 => h9) rfl dX2_differing_6 ?_
      refine lv_icmp_ge (tgt := 36) hx hb dX2_differing_9 (by decide) (fun c2 => ?_) (fun c2 => ?_)
      · rw [if_pos c2] at h
        have h0 := Option.some.inj h
        subst h0
        exact K H locs ls (lv_sub hl [0, 1, 2, 3] rfl) hP hD hS
      · rw [if_neg c2] at h
        refine lv_aload_n hx hb dX2_differing_12 rfl (lv_at hl 0 rfl) ?_
        refine va_get (D := (dC, dI)) (ci := 2) (v := .ref axd) (C := RX2) (T := TX2) (N := 2) hx hb hts hin_X2 hown hK hP 0 rfl rfl 0 (by decide) (hf_9) (fun _ h9 => h9) rfl dX2_differing_13 ?_
        refine lv_iload_n hx hb dX2_differing_16 rfl (lv_at hl 3 rfl) ?_
        obtain ⟨hi, h⟩ := gin_some h
        refine va_iald hx hb hK hP 1 0 rfl rfl hi dX2_differing_17 ?_
        refine lv_aload_n hx hb dX2_differing_18 rfl (lv_at hl 1 rfl) ?_
        refine va_get (D := (dC, dI)) (ci := 2) (v := .ref aod) (C := RX2) (T := TX2) (N := 2) hx hb hts hin_X2 hown hK hP 2 rfl rfl 0 (by decide) (hf_9) (fun _ h9 => h9) rfl dX2_differing_19 ?_
        refine lv_iload_n hx hb dX2_differing_22 rfl (lv_at hl 3 rfl) ?_
        obtain ⟨hi, h⟩ := gin_some h
        refine va_iald hx hb hK hP 3 0 rfl rfl hi dX2_differing_23 ?_
        refine lv_icmp_eq (tgt := 30) hx hb dX2_differing_24 (by decide) (fun c1 => ?_) (fun c1 => ?_)
        · rw [if_pos c1] at h
          refine lv_iinc (v := l3 + (1 : Int32)) (lv' := [(3, .int (l3 + (1 : Int32))), (0, .ref ax), (1, .ref ao), (2, .int l2)]) hx hb dX2_differing_30 hl (k := 3) rfl rfl (by decide) rfl (fun ls hl => ?_)
          refine lv_goto (tgt := 4) hx hb dX2_differing_33 (by decide) ?_
          exact ih l2 (l3 + (1 : Int32)) rs H locs ls h (lv_sub hl [1, 2, 3, 0] rfl) hP hD hS K
        · rw [if_neg c1] at h
          refine lv_iinc (v := l2 + (1 : Int32)) (lv' := [(2, .int (l2 + (1 : Int32))), (0, .ref ax), (1, .ref ao), (3, .int l3)]) hx hb dX2_differing_27 hl (k := 2) rfl rfl (by decide) rfl (fun ls hl => ?_)
          refine lv_iinc (v := l3 + (1 : Int32)) (lv' := [(3, .int (l3 + (1 : Int32))), (2, .int (l2 + (1 : Int32))), (0, .ref ax), (1, .ref ao)]) hx hb dX2_differing_30 hl (k := 3) rfl rfl (by decide) rfl (fun ls hl => ?_)
          refine lv_goto (tgt := 4) hx hb dX2_differing_33 (by decide) ?_
          exact ih (l2 + (1 : Int32)) (l3 + (1 : Int32)) rs H locs ls h (lv_sub hl [2, 3, 1, 0] rfl) hP hD hS K
  obtain ⟨q4, hq4, h⟩ := bd_some h
  refine L4_2 FU (0 : Int32) (0 : Int32) q4 H locs ls hq4 (lv_sub hl [2, 3, 1, 0] rfl) hP hD hS (fun H locs ls hl hP hD hS => ?_)
  refine lv_iload_n hx hb dX2_differing_36 rfl (lv_at hl 2 rfl) ?_
  have h0 := Option.some.inj h
  subst h0
  exact W.iret hx hb hr (fun t ht hW => ⟨⟨_, (), rfl, rfl, QW_mk hP hK hD ht hW⟩, hS.F ht⟩) hS.2.2 dX2_differing_37

noncomputable def fX2_isAheadOf_L2 (n : Nat) (l2 : Int32) (vxs : Int32) (fxd : Nat → Int32) (fod : Nat → Int32) : Option ((Int32) ⊕ (Int32)) := match n with
  | 0 => none
  | n + 1 => if vxs ≤ l2 then (some (.inr l2)) else (gin l2 8 (gin l2 8 (if (fxd l2.toNatClampNeg) = (fod l2.toNatClampNeg) then (fX2_isAheadOf_L2 n (l2 + (1 : Int32)) vxs fxd fod) else (gin l2 8 (gin l2 8 (if (fod l2.toNatClampNeg) ≤ (fxd l2.toNatClampNeg) then (some (.inl (0 : Int32))) else (some (.inl (1 : Int32)))))))))
theorem fX2_isAheadOf_L2_0 (l2 : Int32) (vxs : Int32) (fxd : Nat → Int32) (fod : Nat → Int32) : fX2_isAheadOf_L2 0 l2 vxs fxd fod = none := rfl
theorem fX2_isAheadOf_L2_s (n : Nat) (l2 : Int32) (vxs : Int32) (fxd : Nat → Int32) (fod : Nat → Int32) : fX2_isAheadOf_L2 (n + 1) l2 vxs fxd fod = if vxs ≤ l2 then (some (.inr l2)) else (gin l2 8 (gin l2 8 (if (fxd l2.toNatClampNeg) = (fod l2.toNatClampNeg) then (fX2_isAheadOf_L2 n (l2 + (1 : Int32)) vxs fxd fod) else (gin l2 8 (gin l2 8 (if (fod l2.toNatClampNeg) ≤ (fxd l2.toNatClampNeg) then (some (.inl (0 : Int32))) else (some (.inl (1 : Int32))))))))) := rfl
noncomputable def fX2_isAheadOf (vxs : Int32) (fxd : Nat → Int32) (fod : Nat → Int32)  : Option (Int32) := bs (fX2_isAheadOf_L2 FU (0 : Int32) vxs fxd fod) fun q5 => some (0 : Int32)
set_option maxHeartbeats 4000000 in
set_option maxRecDepth 100000 in
theorem c_X2_isAheadOf (l : Launch) (dC : Nat → ClassId) (dI : Nat → Nat → Nat) (cy : ClassId) (ax axd ao aod : Nat) (sz : Nat) (vxs : Int32) (fxd : Nat → Int32) (vos : Int32) (fod : Nat → Int32)  (res : Int32) (h : fX2_isAheadOf vxs fxd fod = some res) : Met l yX2_isAheadOf wsX2_isAheadOf ({ frames := 0, cells := 0, slots := 0, locals := 0 }) (va_Pc [.ref ax, .ref ao] (PW (dC, dI) cy sz [(ax, .inr (2, [.ref axd, .int vxs])), (axd, .inl (cy, 8, .inl fxd)), (ao, .inr (2, [.ref aod, .int vos])), (aod, .inl (cy, 8, .inl fod))])) (va_Qi (fun (r : Int32) (_ : Unit) => r = res ∧ bo r) (QW (dC, dI) cy (va_A [(ax, .inr (2, [.ref axd, .int vxs])), (axd, .inl (cy, 8, .inl fxd)), (ao, .inr (2, [.ref aod, .int vos])), (aod, .inl (cy, 8, .inl fod))] sz) [(ax, .inr (2, [.ref axd, .int vxs])), (axd, .inl (cy, 8, .inl fxd)), (ao, .inr (2, [.ref aod, .int vos])), (aod, .inl (cy, 8, .inl fod))]) (va_A [(ax, .inr (2, [.ref axd, .int vxs])), (axd, .inl (cy, 8, .inl fxd)), (ao, .inr (2, [.ref aod, .int vos])), (aod, .inl (cy, 8, .inl fod))] sz)) 0 0 (va_A [(ax, .inr (2, [.ref axd, .int vxs])), (axd, .inl (cy, 8, .inl fxd)), (ao, .inr (2, [.ref aod, .int vos])), (aod, .inl (cy, 8, .inl fod))] sz) := by
  refine Met.ofW (cc := cX2_isAheadOf) (maxL := 3) (ret := (some .boolean)) (by decide) rfl ?_
  intro p e s m args below meth c s₁ B hml hv
  obtain ⟨rfl, hsz, hP, hK, hD0, hN⟩ := hv
  have hx := B.exec
  have hb := B.bytes
  have hr := B.returns
  have hts := atoms_spec (ws := wsX2_isAheadOf) B.pre
  have hown : s.vm.findClass RX2 = some m.cls := findClass_of_methodNamed B.named
  have hlocks := B.notSynchronized
  subst hsz
  have hD := hD0.self (sz := s.heap.size)
  clear hD0
  generalize hAe : va_A [(ax, .inr (2, [.ref axd, .int vxs])), (axd, .inl (cy, 8, .inl fxd)), (ao, .inr (2, [.ref aod, .int vos])), (aod, .inl (cy, 8, .inl fod))] s.heap.size = A at hD ⊢
  have hA : ∀ q : Nat, s.heap.size ≤ q → A q := fun q h => by rw [← hAe]; exact Or.inr h
  have hS : va_S A s.heap s.heap [] := va_S.rf
  have hl := lv_entry ([.ref ax, .ref ao]) (n := 3) (Nat.le_of_ble_eq_true rfl)
  rw [lg_entry_eq]
  generalize (lg_sl ([.ref ax, .ref ao]) ++ List.replicate (3 - (lg_sl ([.ref ax, .ref ao])).length) Slot.unset).toArray = ls at hl ⊢
  replace hl : lv_has ls 3 [(0, .ref ax), (1, .ref ao)] := hl
  replace hP : va_P (dC, dI) vwCl [(ax, .inr (2, [.ref axd, .int vxs])), (axd, .inl (cy, 8, .inl fxd)), (ao, .inr (2, [.ref aod, .int vos])), (aod, .inl (cy, 8, .inl fod))] s.heap := hP
  obtain ⟨locs, hlocs⟩ : ∃ lc : List Loc, lc = [] := ⟨_, rfl⟩
  rw [← hlocs] at hS ⊢
  obtain ⟨H, hH⟩ : ∃ H : Heap, H = s.heap := ⟨_, rfl⟩
  have hP2 := hP; rw [← hH] at hP2
  have hS2 : va_S A s.heap H locs := by rw [hH]; exact hS
  suffices hgo : W p l e (headSpec wsX2_isAheadOf ({ frames := 0, cells := 0, slots := 0, locals := 0 })).room s m (([.ref ax, .ref ao] : List Value).toArray) below meth c H locs 0 0 (MQ below (va_Qi (fun (r : Int32) (_ : Unit) => r = res ∧ bo r) (QW (dC, dI) cy A [(ax, .inr (2, [.ref axd, .int vxs])), (axd, .inl (cy, 8, .inl fxd)), (ao, .inr (2, [.ref aod, .int vos])), (aod, .inl (cy, 8, .inl fod))]) A) (([.ref ax, .ref ao] : List Value).toArray) s 0 0 A) (F0 m 0 ls []) by rw [hH] at hgo; exact hgo
  replace hP := hP2
  replace hS := hS2
  clear hP2 hS2
  have hin_X2 : ∀ w ∈ wsX20, w ∈ wsX2_isAheadOf := by decide +kernel
  have hf_9 := hts (.fieldLink RX2 9 "FewLooks$Row" "digits" "[I") (by decide +kernel)
  have hf_15 := hts (.fieldLink RX2 15 "FewLooks$Row" "size" "I") (by decide +kernel)
  unfold fX2_isAheadOf at h
  refine lv_iconst (v := (0 : Int32)) hx hb dX2_isAheadOf_0 (by decide) ?_
  refine lv_istore_n (lv' := [(2, .int (0 : Int32)), (0, .ref ax), (1, .ref ao)]) hx hb dX2_isAheadOf_1 rfl hl (by decide) rfl (fun ls hl => ?_)
  have L2_3 : ∀ (n : Nat) (l2 : Int32) (rs : ((Int32) ⊕ (Int32))) (H : Heap) (locs : List Loc) (ls : Array Slot), fX2_isAheadOf_L2 n l2 vxs fxd fod = some rs → lv_has ls 3 [(0, .ref ax), (1, .ref ao), (2, .int l2)] → va_P (dC, dI) vwCl [(ax, .inr (2, [.ref axd, .int vxs])), (axd, .inl (cy, 8, .inl fxd)), (ao, .inr (2, [.ref aod, .int vos])), (aod, .inl (cy, 8, .inl fod))] H → va_D A [(ax, .inr (2, [.ref axd, .int vxs])), (axd, .inl (cy, 8, .inl fxd)), (ao, .inr (2, [.ref aod, .int vos])), (aod, .inl (cy, 8, .inl fod))] → va_S A s.heap H locs → (∀ q, rs = .inl q → q = res) → (∀ q, rs = .inr q → (∀ (H : Heap) (locs : List Loc) (ls : Array Slot), lv_has ls 3 [(0, .ref ax), (1, .ref ao), (2, .int q)] → va_P (dC, dI) vwCl [(ax, .inr (2, [.ref axd, .int vxs])), (axd, .inl (cy, 8, .inl fxd)), (ao, .inr (2, [.ref aod, .int vos])), (aod, .inl (cy, 8, .inl fod))] H → va_D A [(ax, .inr (2, [.ref axd, .int vxs])), (axd, .inl (cy, 8, .inl fxd)), (ao, .inr (2, [.ref aod, .int vos])), (aod, .inl (cy, 8, .inl fod))] → va_S A s.heap H locs → W p l e (headSpec wsX2_isAheadOf ({ frames := 0, cells := 0, slots := 0, locals := 0 })).room s m (([.ref ax, .ref ao] : List Value).toArray) below meth c H locs 0 0 (MQ below (va_Qi (fun (r : Int32) (_ : Unit) => r = res ∧ bo r) (QW (dC, dI) cy A [(ax, .inr (2, [.ref axd, .int vxs])), (axd, .inl (cy, 8, .inl fxd)), (ao, .inr (2, [.ref aod, .int vos])), (aod, .inl (cy, 8, .inl fod))]) A) (([.ref ax, .ref ao] : List Value).toArray) s 0 0 A) (F0 m 52 ls []))) → W p l e (headSpec wsX2_isAheadOf ({ frames := 0, cells := 0, slots := 0, locals := 0 })).room s m (([.ref ax, .ref ao] : List Value).toArray) below meth c H locs 0 0 (MQ below (va_Qi (fun (r : Int32) (_ : Unit) => r = res ∧ bo r) (QW (dC, dI) cy A [(ax, .inr (2, [.ref axd, .int vxs])), (axd, .inl (cy, 8, .inl fxd)), (ao, .inr (2, [.ref aod, .int vos])), (aod, .inl (cy, 8, .inl fod))]) A) (([.ref ax, .ref ao] : List Value).toArray) s 0 0 A) (F0 m 2 ls []) := by
    intro n
    induction n with
    | zero =>
      intro l2 rs H locs ls h
      rw [fX2_isAheadOf_L2_0] at h
      cases h
    | succ n ih =>
      intro l2 rs H locs ls h hl hP hD hS kr kx
      rw [fX2_isAheadOf_L2_s] at h
      refine lv_iload_n hx hb dX2_isAheadOf_2 rfl (lv_at hl 2 rfl) ?_
      refine lv_aload_n hx hb dX2_isAheadOf_3 rfl (lv_at hl 0 rfl) ?_
      refine va_get (D := (dC, dI)) (ci := 2) (v := .int vxs) (C := RX2) (T := TX2) (N := 2) hx hb hts hin_X2 hown hK hP 0 rfl rfl 1 (by decide) (hf_15) (fun _ h9 => h9) rfl dX2_isAheadOf_4 ?_
      refine lv_icmp_ge (tgt := 52) hx hb dX2_isAheadOf_7 (by decide) (fun c3 => ?_) (fun c3 => ?_)
      · rw [if_pos c3] at h
        have h0 := Option.some.inj h
        subst h0
        exact kx _ rfl H locs ls (lv_sub hl [0, 1, 2] rfl) hP hD hS
      · rw [if_neg c3] at h
        refine lv_aload_n hx hb dX2_isAheadOf_10 rfl (lv_at hl 0 rfl) ?_
        refine va_get (D := (dC, dI)) (ci := 2) (v := .ref axd) (C := RX2) (T := TX2) (N := 2) hx hb hts hin_X2 hown hK hP 0 rfl rfl 0 (by decide) (hf_9) (fun _ h9 => h9) rfl dX2_isAheadOf_11 ?_
        refine lv_iload_n hx hb dX2_isAheadOf_14 rfl (lv_at hl 2 rfl) ?_
        obtain ⟨hi, h⟩ := gin_some h
        refine va_iald hx hb hK hP 1 0 rfl rfl hi dX2_isAheadOf_15 ?_
        refine lv_aload_n hx hb dX2_isAheadOf_16 rfl (lv_at hl 1 rfl) ?_
        refine va_get (D := (dC, dI)) (ci := 2) (v := .ref aod) (C := RX2) (T := TX2) (N := 2) hx hb hts hin_X2 hown hK hP 2 rfl rfl 0 (by decide) (hf_9) (fun _ h9 => h9) rfl dX2_isAheadOf_17 ?_
        refine lv_iload_n hx hb dX2_isAheadOf_20 rfl (lv_at hl 2 rfl) ?_
        obtain ⟨hi, h⟩ := gin_some h
        refine va_iald hx hb hK hP 3 0 rfl rfl hi dX2_isAheadOf_21 ?_
        refine lv_icmp_eq (tgt := 46) hx hb dX2_isAheadOf_22 (by decide) (fun c2 => ?_) (fun c2 => ?_)
        · rw [if_pos c2] at h
          refine lv_iinc (v := l2 + (1 : Int32)) (lv' := [(2, .int (l2 + (1 : Int32))), (0, .ref ax), (1, .ref ao)]) hx hb dX2_isAheadOf_46 hl (k := 2) rfl rfl (by decide) rfl (fun ls hl => ?_)
          refine lv_goto (tgt := 2) hx hb dX2_isAheadOf_49 (by decide) ?_
          exact ih (l2 + (1 : Int32)) rs H locs ls h (lv_sub hl [1, 2, 0] rfl) hP hD hS kr kx
        · rw [if_neg c2] at h
          refine lv_aload_n hx hb dX2_isAheadOf_25 rfl (lv_at hl 0 rfl) ?_
          refine va_get (D := (dC, dI)) (ci := 2) (v := .ref axd) (C := RX2) (T := TX2) (N := 2) hx hb hts hin_X2 hown hK hP 0 rfl rfl 0 (by decide) (hf_9) (fun _ h9 => h9) rfl dX2_isAheadOf_26 ?_
          refine lv_iload_n hx hb dX2_isAheadOf_29 rfl (lv_at hl 2 rfl) ?_
          obtain ⟨hi, h⟩ := gin_some h
          refine va_iald hx hb hK hP 1 0 rfl rfl hi dX2_isAheadOf_30 ?_
          refine lv_aload_n hx hb dX2_isAheadOf_31 rfl (lv_at hl 1 rfl) ?_
          refine va_get (D := (dC, dI)) (ci := 2) (v := .ref aod) (C := RX2) (T := TX2) (N := 2) hx hb hts hin_X2 hown hK hP 2 rfl rfl 0 (by decide) (hf_9) (fun _ h9 => h9) rfl dX2_isAheadOf_32 ?_
          refine lv_iload_n hx hb dX2_isAheadOf_35 rfl (lv_at hl 2 rfl) ?_
          obtain ⟨hi, h⟩ := gin_some h
          refine va_iald hx hb hK hP 3 0 rfl rfl hi dX2_isAheadOf_36 ?_
          refine lv_icmp_ge (tgt := 44) hx hb dX2_isAheadOf_37 (by decide) (fun c1 => ?_) (fun c1 => ?_)
          · rw [if_pos c1] at h
            refine lv_iconst (v := (0 : Int32)) hx hb dX2_isAheadOf_44 (by decide) ?_
            have h0 := Option.some.inj h
            subst h0
            have hk := kr _ rfl
            subst hk
            exact W.zret (ty := .boolean) hx hb hr bo_0 (fun t ht hW => ⟨⟨_, (), rfl, ⟨rfl, bo_0⟩, QW_mk hP hK hD ht hW⟩, hS.F ht⟩) hS.2.2 dX2_isAheadOf_45
          · rw [if_neg c1] at h
            refine lv_iconst (v := (1 : Int32)) hx hb dX2_isAheadOf_40 (by decide) ?_
            refine lv_goto (tgt := 45) hx hb dX2_isAheadOf_41 (by decide) ?_
            have h0 := Option.some.inj h
            subst h0
            have hk := kr _ rfl
            subst hk
            exact W.zret (ty := .boolean) hx hb hr bo_1 (fun t ht hW => ⟨⟨_, (), rfl, ⟨rfl, bo_1⟩, QW_mk hP hK hD ht hW⟩, hS.F ht⟩) hS.2.2 dX2_isAheadOf_45
  obtain ⟨rq5, hq5, kq5, xq5⟩ := bs_some h
  refine L2_3 FU (0 : Int32) rq5 H locs ls hq5 (lv_sub hl [1, 2, 0] rfl) hP hD hS kq5 (fun q5 eq5 H locs ls hl hP hD hS => ?_)
  replace h := xq5 q5 eq5
  refine lv_iconst (v := (0 : Int32)) hx hb dX2_isAheadOf_52 (by decide) ?_
  have h0 := Option.some.inj h
  subst h0
  exact W.zret (ty := .boolean) hx hb hr bo_0 (fun t ht hW => ⟨⟨_, (), rfl, ⟨rfl, bo_0⟩, QW_mk hP hK hD ht hW⟩, hS.F ht⟩) hS.2.2 dX2_isAheadOf_53

noncomputable def fX2_looks (vxs : Int32) (p0 : Int32) : Option (Int32) := if p0 = (0 : Int32) then (some ((vxs * (vxs - (1 : Int32))) / (2 : Int32))) else (if p0 = (1 : Int32) then (some vxs) else (if p0 = (2 : Int32) then (some (1 : Int32)) else (some (vxs * (vxs - (1 : Int32))))))
set_option maxHeartbeats 4000000 in
set_option maxRecDepth 100000 in
theorem c_X2_looks (l : Launch) (dC : Nat → ClassId) (dI : Nat → Nat → Nat) (cy : ClassId) (ax axd : Nat) (sz : Nat) (vxs : Int32) (p0 : Int32) (res : Int32) (h : fX2_looks vxs p0 = some res) : Met l yX2_looks wsX2_looks ({ frames := 0, cells := 0, slots := 0, locals := 0 }) (va_Pc [.ref ax, .int p0] (PW (dC, dI) cy sz [(ax, .inr (2, [.ref axd, .int vxs]))])) (va_Qi (fun (r : Int32) (_ : Unit) => r = res) (QW (dC, dI) cy (va_A [(ax, .inr (2, [.ref axd, .int vxs]))] sz) [(ax, .inr (2, [.ref axd, .int vxs]))]) (va_A [(ax, .inr (2, [.ref axd, .int vxs]))] sz)) 0 0 (va_A [(ax, .inr (2, [.ref axd, .int vxs]))] sz) := by
  refine Met.ofW (cc := cX2_looks) (maxL := 2) (ret := (some .int)) (by decide) rfl ?_
  intro p e s m args below meth c s₁ B hml hv
  obtain ⟨rfl, hsz, hP, hK, hD0, hN⟩ := hv
  have hx := B.exec
  have hb := B.bytes
  have hr := B.returns
  have hts := atoms_spec (ws := wsX2_looks) B.pre
  have hown : s.vm.findClass RX2 = some m.cls := findClass_of_methodNamed B.named
  have hlocks := B.notSynchronized
  subst hsz
  have hD := hD0.self (sz := s.heap.size)
  clear hD0
  generalize hAe : va_A [(ax, .inr (2, [.ref axd, .int vxs]))] s.heap.size = A at hD ⊢
  have hA : ∀ q : Nat, s.heap.size ≤ q → A q := fun q h => by rw [← hAe]; exact Or.inr h
  have hS : va_S A s.heap s.heap [] := va_S.rf
  have hl := lv_entry ([.ref ax, .int p0]) (n := 2) (Nat.le_of_ble_eq_true rfl)
  rw [lg_entry_eq]
  generalize (lg_sl ([.ref ax, .int p0]) ++ List.replicate (2 - (lg_sl ([.ref ax, .int p0])).length) Slot.unset).toArray = ls at hl ⊢
  replace hl : lv_has ls 2 [(0, .ref ax), (1, .int p0)] := hl
  replace hP : va_P (dC, dI) vwCl [(ax, .inr (2, [.ref axd, .int vxs]))] s.heap := hP
  obtain ⟨locs, hlocs⟩ : ∃ lc : List Loc, lc = [] := ⟨_, rfl⟩
  rw [← hlocs] at hS ⊢
  obtain ⟨H, hH⟩ : ∃ H : Heap, H = s.heap := ⟨_, rfl⟩
  have hP2 := hP; rw [← hH] at hP2
  have hS2 : va_S A s.heap H locs := by rw [hH]; exact hS
  suffices hgo : W p l e (headSpec wsX2_looks ({ frames := 0, cells := 0, slots := 0, locals := 0 })).room s m (([.ref ax, .int p0] : List Value).toArray) below meth c H locs 0 0 (MQ below (va_Qi (fun (r : Int32) (_ : Unit) => r = res) (QW (dC, dI) cy A [(ax, .inr (2, [.ref axd, .int vxs]))]) A) (([.ref ax, .int p0] : List Value).toArray) s 0 0 A) (F0 m 0 ls []) by rw [hH] at hgo; exact hgo
  replace hP := hP2
  replace hS := hS2
  clear hP2 hS2
  have hin_X2 : ∀ w ∈ wsX20, w ∈ wsX2_looks := by decide +kernel
  have hf_15 := hts (.fieldLink RX2 15 "FewLooks$Row" "size" "I") (by decide +kernel)
  unfold fX2_looks at h
  refine lv_iload_n hx hb dX2_looks_0 rfl (lv_at hl 1 rfl) ?_
  by_cases c1 : p0 = (0 : Int32)
  · rw [if_pos c1] at h
    have ec1 : (p0).toInt = 0 := by rw [c1]; rfl
    refine lv_tableIn (tgt := 28) hx hb dX2_looks_1 (by rw [ec1]; decide) (by rw [ec1]; decide) (by rw [ec1]; rfl) (by decide) ?_
    refine lv_aload_n hx hb dX2_looks_28 rfl (lv_at hl 0 rfl) ?_
    refine va_get (D := (dC, dI)) (ci := 2) (v := .int vxs) (C := RX2) (T := TX2) (N := 2) hx hb hts hin_X2 hown hK hP 0 rfl rfl 1 (by decide) (hf_15) (fun _ h9 => h9) rfl dX2_looks_29 ?_
    refine lv_aload_n hx hb dX2_looks_32 rfl (lv_at hl 0 rfl) ?_
    refine va_get (D := (dC, dI)) (ci := 2) (v := .int vxs) (C := RX2) (T := TX2) (N := 2) hx hb hts hin_X2 hown hK hP 0 rfl rfl 1 (by decide) (hf_15) (fun _ h9 => h9) rfl dX2_looks_33 ?_
    refine lv_iconst (v := (1 : Int32)) hx hb dX2_looks_36 (by decide) ?_
    refine lv_isub hx hb dX2_looks_37 ?_
    refine lv_imul hx hb dX2_looks_38 ?_
    refine lv_iconst (v := (2 : Int32)) hx hb dX2_looks_39 (by decide) ?_
    refine lv_idiv hx hb dX2_looks_40 (by decide) ?_
    have h0 := Option.some.inj h
    subst h0
    exact W.iret hx hb hr (fun t ht hW => ⟨⟨_, (), rfl, rfl, QW_mk hP hK hD ht hW⟩, hS.F ht⟩) hS.2.2 dX2_looks_41
  · rw [if_neg c1] at h
    by_cases c2 : p0 = (1 : Int32)
    · rw [if_pos c2] at h
      have ec2 : (p0).toInt = 1 := by rw [c2]; rfl
      refine lv_tableIn (tgt := 42) hx hb dX2_looks_1 (by rw [ec2]; decide) (by rw [ec2]; decide) (by rw [ec2]; rfl) (by decide) ?_
      refine lv_aload_n hx hb dX2_looks_42 rfl (lv_at hl 0 rfl) ?_
      refine va_get (D := (dC, dI)) (ci := 2) (v := .int vxs) (C := RX2) (T := TX2) (N := 2) hx hb hts hin_X2 hown hK hP 0 rfl rfl 1 (by decide) (hf_15) (fun _ h9 => h9) rfl dX2_looks_43 ?_
      have h0 := Option.some.inj h
      subst h0
      exact W.iret hx hb hr (fun t ht hW => ⟨⟨_, (), rfl, rfl, QW_mk hP hK hD ht hW⟩, hS.F ht⟩) hS.2.2 dX2_looks_46
    · rw [if_neg c2] at h
      by_cases c3 : p0 = (2 : Int32)
      · rw [if_pos c3] at h
        have ec3 : (p0).toInt = 2 := by rw [c3]; rfl
        refine lv_tableIn (tgt := 47) hx hb dX2_looks_1 (by rw [ec3]; decide) (by rw [ec3]; decide) (by rw [ec3]; rfl) (by decide) ?_
        refine lv_iconst (v := (1 : Int32)) hx hb dX2_looks_47 (by decide) ?_
        have h0 := Option.some.inj h
        subst h0
        exact W.iret hx hb hr (fun t ht hW => ⟨⟨_, (), rfl, rfl, QW_mk hP hK hD ht hW⟩, hS.F ht⟩) hS.2.2 dX2_looks_48
      · rw [if_neg c3] at h
        have hout := tb_out (x := p0) (n := 3) (by decide) (fun k hk => by rcases (show k = 0 ∨ k = 1 ∨ k = 2 by omega) with rfl | rfl | rfl; all_goals assumption)
        refine lv_tableOut (tgt := 49) hx hb dX2_looks_1 hout (by decide) ?_
        refine lv_aload_n hx hb dX2_looks_49 rfl (lv_at hl 0 rfl) ?_
        refine va_get (D := (dC, dI)) (ci := 2) (v := .int vxs) (C := RX2) (T := TX2) (N := 2) hx hb hts hin_X2 hown hK hP 0 rfl rfl 1 (by decide) (hf_15) (fun _ h9 => h9) rfl dX2_looks_50 ?_
        refine lv_aload_n hx hb dX2_looks_53 rfl (lv_at hl 0 rfl) ?_
        refine va_get (D := (dC, dI)) (ci := 2) (v := .int vxs) (C := RX2) (T := TX2) (N := 2) hx hb hts hin_X2 hown hK hP 0 rfl rfl 1 (by decide) (hf_15) (fun _ h9 => h9) rfl dX2_looks_54 ?_
        refine lv_iconst (v := (1 : Int32)) hx hb dX2_looks_57 (by decide) ?_
        refine lv_isub hx hb dX2_looks_58 ?_
        refine lv_imul hx hb dX2_looks_59 ?_
        have h0 := Option.some.inj h
        subst h0
        exact W.iret hx hb hr (fun t ht hW => ⟨⟨_, (), rfl, rfl, QW_mk hP hK hD ht hW⟩, hS.F ht⟩) hS.2.2 dX2_looks_60

noncomputable def fX2_risingPairs_L16 (n : Nat) (l1 : Int32) (l2 : Int32) (l3 : Int32) (vxs : Int32) (fxd : Nat → Int32) : Option (Int32 × Int32) := match n with
  | 0 => none
  | n + 1 => if vxs ≤ l3 then (some (l1, l3)) else (gin l2 8 (gin l3 8 (if (fxd l3.toNatClampNeg) < (fxd l2.toNatClampNeg) then (fX2_risingPairs_L16 n l1 l2 (l3 + (1 : Int32)) vxs fxd) else (fX2_risingPairs_L16 n (l1 + (1 : Int32)) l2 (l3 + (1 : Int32)) vxs fxd))))
theorem fX2_risingPairs_L16_0 (l1 : Int32) (l2 : Int32) (l3 : Int32) (vxs : Int32) (fxd : Nat → Int32) : fX2_risingPairs_L16 0 l1 l2 l3 vxs fxd = none := rfl
theorem fX2_risingPairs_L16_s (n : Nat) (l1 : Int32) (l2 : Int32) (l3 : Int32) (vxs : Int32) (fxd : Nat → Int32) : fX2_risingPairs_L16 (n + 1) l1 l2 l3 vxs fxd = if vxs ≤ l3 then (some (l1, l3)) else (gin l2 8 (gin l3 8 (if (fxd l3.toNatClampNeg) < (fxd l2.toNatClampNeg) then (fX2_risingPairs_L16 n l1 l2 (l3 + (1 : Int32)) vxs fxd) else (fX2_risingPairs_L16 n (l1 + (1 : Int32)) l2 (l3 + (1 : Int32)) vxs fxd)))) := rfl
noncomputable def fX2_risingPairs_L4 (n : Nat) (l1 : Int32) (l2 : Int32) (vxs : Int32) (fxd : Nat → Int32) : Option (Int32 × Int32) := match n with
  | 0 => none
  | n + 1 => if vxs ≤ l2 then (some (l1, l2)) else (bd (fX2_risingPairs_L16 FU l1 l2 (l2 + (1 : Int32)) vxs fxd) fun q4 => fX2_risingPairs_L4 n q4.1 (l2 + (1 : Int32)) vxs fxd)
theorem fX2_risingPairs_L4_0 (l1 : Int32) (l2 : Int32) (vxs : Int32) (fxd : Nat → Int32) : fX2_risingPairs_L4 0 l1 l2 vxs fxd = none := rfl
theorem fX2_risingPairs_L4_s (n : Nat) (l1 : Int32) (l2 : Int32) (vxs : Int32) (fxd : Nat → Int32) : fX2_risingPairs_L4 (n + 1) l1 l2 vxs fxd = if vxs ≤ l2 then (some (l1, l2)) else (bd (fX2_risingPairs_L16 FU l1 l2 (l2 + (1 : Int32)) vxs fxd) fun q4 => fX2_risingPairs_L4 n q4.1 (l2 + (1 : Int32)) vxs fxd) := rfl
noncomputable def fX2_risingPairs (vxs : Int32) (fxd : Nat → Int32)  : Option (Int32) := bd (fX2_risingPairs_L4 FU (0 : Int32) (0 : Int32) vxs fxd) fun q7 => some q7.1
set_option maxHeartbeats 4000000 in
set_option maxRecDepth 100000 in
theorem c_X2_risingPairs (l : Launch) (dC : Nat → ClassId) (dI : Nat → Nat → Nat) (cy : ClassId) (ax axd : Nat) (sz : Nat) (vxs : Int32) (fxd : Nat → Int32)  (res : Int32) (h : fX2_risingPairs vxs fxd = some res) : Met l yX2_risingPairs wsX2_risingPairs ({ frames := 0, cells := 0, slots := 0, locals := 0 }) (va_Pc [.ref ax] (PW (dC, dI) cy sz [(ax, .inr (2, [.ref axd, .int vxs])), (axd, .inl (cy, 8, .inl fxd))])) (va_Qi (fun (r : Int32) (_ : Unit) => r = res) (QW (dC, dI) cy (va_A [(ax, .inr (2, [.ref axd, .int vxs])), (axd, .inl (cy, 8, .inl fxd))] sz) [(ax, .inr (2, [.ref axd, .int vxs])), (axd, .inl (cy, 8, .inl fxd))]) (va_A [(ax, .inr (2, [.ref axd, .int vxs])), (axd, .inl (cy, 8, .inl fxd))] sz)) 0 0 (va_A [(ax, .inr (2, [.ref axd, .int vxs])), (axd, .inl (cy, 8, .inl fxd))] sz) := by
  refine Met.ofW (cc := cX2_risingPairs) (maxL := 4) (ret := (some .int)) (by decide) rfl ?_
  intro p e s m args below meth c s₁ B hml hv
  obtain ⟨rfl, hsz, hP, hK, hD0, hN⟩ := hv
  have hx := B.exec
  have hb := B.bytes
  have hr := B.returns
  have hts := atoms_spec (ws := wsX2_risingPairs) B.pre
  have hown : s.vm.findClass RX2 = some m.cls := findClass_of_methodNamed B.named
  have hlocks := B.notSynchronized
  subst hsz
  have hD := hD0.self (sz := s.heap.size)
  clear hD0
  generalize hAe : va_A [(ax, .inr (2, [.ref axd, .int vxs])), (axd, .inl (cy, 8, .inl fxd))] s.heap.size = A at hD ⊢
  have hA : ∀ q : Nat, s.heap.size ≤ q → A q := fun q h => by rw [← hAe]; exact Or.inr h
  have hS : va_S A s.heap s.heap [] := va_S.rf
  have hl := lv_entry ([.ref ax]) (n := 4) (Nat.le_of_ble_eq_true rfl)
  rw [lg_entry_eq]
  generalize (lg_sl ([.ref ax]) ++ List.replicate (4 - (lg_sl ([.ref ax])).length) Slot.unset).toArray = ls at hl ⊢
  replace hl : lv_has ls 4 [(0, .ref ax)] := hl
  replace hP : va_P (dC, dI) vwCl [(ax, .inr (2, [.ref axd, .int vxs])), (axd, .inl (cy, 8, .inl fxd))] s.heap := hP
  obtain ⟨locs, hlocs⟩ : ∃ lc : List Loc, lc = [] := ⟨_, rfl⟩
  rw [← hlocs] at hS ⊢
  obtain ⟨H, hH⟩ : ∃ H : Heap, H = s.heap := ⟨_, rfl⟩
  have hP2 := hP; rw [← hH] at hP2
  have hS2 : va_S A s.heap H locs := by rw [hH]; exact hS
  suffices hgo : W p l e (headSpec wsX2_risingPairs ({ frames := 0, cells := 0, slots := 0, locals := 0 })).room s m (([.ref ax] : List Value).toArray) below meth c H locs 0 0 (MQ below (va_Qi (fun (r : Int32) (_ : Unit) => r = res) (QW (dC, dI) cy A [(ax, .inr (2, [.ref axd, .int vxs])), (axd, .inl (cy, 8, .inl fxd))]) A) (([.ref ax] : List Value).toArray) s 0 0 A) (F0 m 0 ls []) by rw [hH] at hgo; exact hgo
  replace hP := hP2
  replace hS := hS2
  clear hP2 hS2
  have hin_X2 : ∀ w ∈ wsX20, w ∈ wsX2_risingPairs := by decide +kernel
  have hf_9 := hts (.fieldLink RX2 9 "FewLooks$Row" "digits" "[I") (by decide +kernel)
  have hf_15 := hts (.fieldLink RX2 15 "FewLooks$Row" "size" "I") (by decide +kernel)
  unfold fX2_risingPairs at h
  refine lv_iconst (v := (0 : Int32)) hx hb dX2_risingPairs_0 (by decide) ?_
  refine lv_istore_n (lv' := [(1, .int (0 : Int32)), (0, .ref ax)]) hx hb dX2_risingPairs_1 rfl hl (by decide) rfl (fun ls hl => ?_)
  refine lv_iconst (v := (0 : Int32)) hx hb dX2_risingPairs_2 (by decide) ?_
  refine lv_istore_n (lv' := [(2, .int (0 : Int32)), (1, .int (0 : Int32)), (0, .ref ax)]) hx hb dX2_risingPairs_3 rfl hl (by decide) rfl (fun ls hl => ?_)
  have L4_5 : ∀ (n : Nat) (l1 : Int32) (l2 : Int32) (rs : (Int32 × Int32)) (H : Heap) (locs : List Loc) (ls : Array Slot), fX2_risingPairs_L4 n l1 l2 vxs fxd = some rs → lv_has ls 4 [(0, .ref ax), (1, .int l1), (2, .int l2)] → va_P (dC, dI) vwCl [(ax, .inr (2, [.ref axd, .int vxs])), (axd, .inl (cy, 8, .inl fxd))] H → va_D A [(ax, .inr (2, [.ref axd, .int vxs])), (axd, .inl (cy, 8, .inl fxd))] → va_S A s.heap H locs → (∀ (H : Heap) (locs : List Loc) (ls : Array Slot), lv_has ls 4 [(0, .ref ax), (1, .int rs.1), (2, .int rs.2)] → va_P (dC, dI) vwCl [(ax, .inr (2, [.ref axd, .int vxs])), (axd, .inl (cy, 8, .inl fxd))] H → va_D A [(ax, .inr (2, [.ref axd, .int vxs])), (axd, .inl (cy, 8, .inl fxd))] → va_S A s.heap H locs → W p l e (headSpec wsX2_risingPairs ({ frames := 0, cells := 0, slots := 0, locals := 0 })).room s m (([.ref ax] : List Value).toArray) below meth c H locs 0 0 (MQ below (va_Qi (fun (r : Int32) (_ : Unit) => r = res) (QW (dC, dI) cy A [(ax, .inr (2, [.ref axd, .int vxs])), (axd, .inl (cy, 8, .inl fxd))]) A) (([.ref ax] : List Value).toArray) s 0 0 A) (F0 m 54 ls [])) → W p l e (headSpec wsX2_risingPairs ({ frames := 0, cells := 0, slots := 0, locals := 0 })).room s m (([.ref ax] : List Value).toArray) below meth c H locs 0 0 (MQ below (va_Qi (fun (r : Int32) (_ : Unit) => r = res) (QW (dC, dI) cy A [(ax, .inr (2, [.ref axd, .int vxs])), (axd, .inl (cy, 8, .inl fxd))]) A) (([.ref ax] : List Value).toArray) s 0 0 A) (F0 m 4 ls []) := by
    intro n
    induction n with
    | zero =>
      intro l1 l2 rs H locs ls h
      rw [fX2_risingPairs_L4_0] at h
      cases h
    | succ n ih =>
      intro l1 l2 rs H locs ls h hl hP hD hS K
      rw [fX2_risingPairs_L4_s] at h
      refine lv_iload_n hx hb dX2_risingPairs_4 rfl (lv_at hl 2 rfl) ?_
      refine lv_aload_n hx hb dX2_risingPairs_5 rfl (lv_at hl 0 rfl) ?_
      refine va_get (D := (dC, dI)) (ci := 2) (v := .int vxs) (C := RX2) (T := TX2) (N := 2) hx hb hts hin_X2 hown hK hP 0 rfl rfl 1 (by decide) (hf_15) (fun _ h9 => h9) rfl dX2_risingPairs_6 ?_
      refine lv_icmp_ge (tgt := 54) hx hb dX2_risingPairs_9 (by decide) (fun c5 => ?_) (fun c5 => ?_)
      · rw [if_pos c5] at h
        have h0 := Option.some.inj h
        subst h0
        exact K H locs ls (lv_sub hl [0, 1, 2] rfl) hP hD hS
      · rw [if_neg c5] at h
        refine lv_iload_n hx hb dX2_risingPairs_12 rfl (lv_at hl 2 rfl) ?_
        refine lv_iconst (v := (1 : Int32)) hx hb dX2_risingPairs_13 (by decide) ?_
        refine lv_iadd hx hb dX2_risingPairs_14 ?_
        refine lv_istore_n (lv' := [(3, .int (l2 + (1 : Int32))), (0, .ref ax), (1, .int l1), (2, .int l2)]) hx hb dX2_risingPairs_15 rfl hl (by decide) rfl (fun ls hl => ?_)
        have L16_2 : ∀ (n : Nat) (l1 : Int32) (l2 : Int32) (l3 : Int32) (rs : (Int32 × Int32)) (H : Heap) (locs : List Loc) (ls : Array Slot), fX2_risingPairs_L16 n l1 l2 l3 vxs fxd = some rs → lv_has ls 4 [(0, .ref ax), (1, .int l1), (2, .int l2), (3, .int l3)] → va_P (dC, dI) vwCl [(ax, .inr (2, [.ref axd, .int vxs])), (axd, .inl (cy, 8, .inl fxd))] H → va_D A [(ax, .inr (2, [.ref axd, .int vxs])), (axd, .inl (cy, 8, .inl fxd))] → va_S A s.heap H locs → (∀ (H : Heap) (locs : List Loc) (ls : Array Slot), lv_has ls 4 [(0, .ref ax), (1, .int rs.1), (2, .int l2), (3, .int rs.2)] → va_P (dC, dI) vwCl [(ax, .inr (2, [.ref axd, .int vxs])), (axd, .inl (cy, 8, .inl fxd))] H → va_D A [(ax, .inr (2, [.ref axd, .int vxs])), (axd, .inl (cy, 8, .inl fxd))] → va_S A s.heap H locs → W p l e (headSpec wsX2_risingPairs ({ frames := 0, cells := 0, slots := 0, locals := 0 })).room s m (([.ref ax] : List Value).toArray) below meth c H locs 0 0 (MQ below (va_Qi (fun (r : Int32) (_ : Unit) => r = res) (QW (dC, dI) cy A [(ax, .inr (2, [.ref axd, .int vxs])), (axd, .inl (cy, 8, .inl fxd))]) A) (([.ref ax] : List Value).toArray) s 0 0 A) (F0 m 48 ls [])) → W p l e (headSpec wsX2_risingPairs ({ frames := 0, cells := 0, slots := 0, locals := 0 })).room s m (([.ref ax] : List Value).toArray) below meth c H locs 0 0 (MQ below (va_Qi (fun (r : Int32) (_ : Unit) => r = res) (QW (dC, dI) cy A [(ax, .inr (2, [.ref axd, .int vxs])), (axd, .inl (cy, 8, .inl fxd))]) A) (([.ref ax] : List Value).toArray) s 0 0 A) (F0 m 16 ls []) := by
          intro n
          induction n with
          | zero =>
            intro l1 l2 l3 rs H locs ls h
            rw [fX2_risingPairs_L16_0] at h
            cases h
          | succ n ih =>
            intro l1 l2 l3 rs H locs ls h hl hP hD hS K
            rw [fX2_risingPairs_L16_s] at h
            refine lv_iload_n hx hb dX2_risingPairs_16 rfl (lv_at hl 3 rfl) ?_
            refine lv_aload_n hx hb dX2_risingPairs_17 rfl (lv_at hl 0 rfl) ?_
            refine va_get (D := (dC, dI)) (ci := 2) (v := .int vxs) (C := RX2) (T := TX2) (N := 2) hx hb hts hin_X2 hown hK hP 0 rfl rfl 1 (by decide) (hf_15) (fun _ h9 => h9) rfl dX2_risingPairs_18 ?_
            refine lv_icmp_ge (tgt := 48) hx hb dX2_risingPairs_21 (by decide) (fun c2 => ?_) (fun c2 => ?_)
            · rw [if_pos c2] at h
              have h0 := Option.some.inj h
              subst h0
              exact K H locs ls (lv_sub hl [0, 1, 2, 3] rfl) hP hD hS
            · rw [if_neg c2] at h
              refine lv_aload_n hx hb dX2_risingPairs_24 rfl (lv_at hl 0 rfl) ?_
              refine va_get (D := (dC, dI)) (ci := 2) (v := .ref axd) (C := RX2) (T := TX2) (N := 2) hx hb hts hin_X2 hown hK hP 0 rfl rfl 0 (by decide) (hf_9) (fun _ h9 => h9) rfl dX2_risingPairs_25 ?_
              refine lv_iload_n hx hb dX2_risingPairs_28 rfl (lv_at hl 2 rfl) ?_
              obtain ⟨hi, h⟩ := gin_some h
              refine va_iald hx hb hK hP 1 0 rfl rfl hi dX2_risingPairs_29 ?_
              refine lv_aload_n hx hb dX2_risingPairs_30 rfl (lv_at hl 0 rfl) ?_
              refine va_get (D := (dC, dI)) (ci := 2) (v := .ref axd) (C := RX2) (T := TX2) (N := 2) hx hb hts hin_X2 hown hK hP 0 rfl rfl 0 (by decide) (hf_9) (fun _ h9 => h9) rfl dX2_risingPairs_31 ?_
              refine lv_iload_n hx hb dX2_risingPairs_34 rfl (lv_at hl 3 rfl) ?_
              obtain ⟨hi, h⟩ := gin_some h
              refine va_iald hx hb hK hP 1 0 rfl rfl hi dX2_risingPairs_35 ?_
              refine lv_icmp_gt (tgt := 42) hx hb dX2_risingPairs_36 (by decide) (fun c1 => ?_) (fun c1 => ?_)
              · rw [if_pos c1] at h
                refine lv_iinc (v := l3 + (1 : Int32)) (lv' := [(3, .int (l3 + (1 : Int32))), (0, .ref ax), (1, .int l1), (2, .int l2)]) hx hb dX2_risingPairs_42 hl (k := 3) rfl rfl (by decide) rfl (fun ls hl => ?_)
                refine lv_goto (tgt := 16) hx hb dX2_risingPairs_45 (by decide) ?_
                exact ih l1 l2 (l3 + (1 : Int32)) rs H locs ls h (lv_sub hl [1, 2, 3, 0] rfl) hP hD hS K
              · rw [if_neg c1] at h
                refine lv_iinc (v := l1 + (1 : Int32)) (lv' := [(1, .int (l1 + (1 : Int32))), (0, .ref ax), (2, .int l2), (3, .int l3)]) hx hb dX2_risingPairs_39 hl (k := 1) rfl rfl (by decide) rfl (fun ls hl => ?_)
                refine lv_iinc (v := l3 + (1 : Int32)) (lv' := [(3, .int (l3 + (1 : Int32))), (1, .int (l1 + (1 : Int32))), (0, .ref ax), (2, .int l2)]) hx hb dX2_risingPairs_42 hl (k := 3) rfl rfl (by decide) rfl (fun ls hl => ?_)
                refine lv_goto (tgt := 16) hx hb dX2_risingPairs_45 (by decide) ?_
                exact ih (l1 + (1 : Int32)) l2 (l3 + (1 : Int32)) rs H locs ls h (lv_sub hl [2, 1, 3, 0] rfl) hP hD hS K
        obtain ⟨q4, hq4, h⟩ := bd_some h
        refine L16_2 FU l1 l2 (l2 + (1 : Int32)) q4 H locs ls hq4 (lv_sub hl [1, 2, 3, 0] rfl) hP hD hS (fun H locs ls hl hP hD hS => ?_)
        refine lv_iinc (v := l2 + (1 : Int32)) (lv' := [(2, .int (l2 + (1 : Int32))), (0, .ref ax), (1, .int q4.1), (3, .int q4.2)]) hx hb dX2_risingPairs_48 hl (k := 2) rfl rfl (by decide) rfl (fun ls hl => ?_)
        refine lv_goto (tgt := 4) hx hb dX2_risingPairs_51 (by decide) ?_
        exact ih q4.1 (l2 + (1 : Int32)) rs H locs ls h (lv_sub hl [1, 2, 0] rfl) hP hD hS K
  obtain ⟨q7, hq7, h⟩ := bd_some h
  refine L4_5 FU (0 : Int32) (0 : Int32) q7 H locs ls hq7 (lv_sub hl [2, 1, 0] rfl) hP hD hS (fun H locs ls hl hP hD hS => ?_)
  refine lv_iload_n hx hb dX2_risingPairs_54 rfl (lv_at hl 1 rfl) ?_
  have h0 := Option.some.inj h
  subst h0
  exact W.iret hx hb hr (fun t ht hW => ⟨⟨_, (), rfl, rfl, QW_mk hP hK hD ht hW⟩, hS.F ht⟩) hS.2.2 dX2_risingPairs_55

noncomputable def fX2_mirroredPlaces_L4 (n : Nat) (l1 : Int32) (l2 : Int32) (vxs : Int32) (fxd : Nat → Int32) : Option (Int32 × Int32) := match n with
  | 0 => none
  | n + 1 => if vxs ≤ l2 then (some (l1, l2)) else (gin l2 8 (gin ((vxs - (1 : Int32)) - l2) 8 (if (fxd l2.toNatClampNeg) = (fxd ((vxs - (1 : Int32)) - l2).toNatClampNeg) then (fX2_mirroredPlaces_L4 n (l1 + (1 : Int32)) (l2 + (1 : Int32)) vxs fxd) else (fX2_mirroredPlaces_L4 n l1 (l2 + (1 : Int32)) vxs fxd))))
theorem fX2_mirroredPlaces_L4_0 (l1 : Int32) (l2 : Int32) (vxs : Int32) (fxd : Nat → Int32) : fX2_mirroredPlaces_L4 0 l1 l2 vxs fxd = none := rfl
theorem fX2_mirroredPlaces_L4_s (n : Nat) (l1 : Int32) (l2 : Int32) (vxs : Int32) (fxd : Nat → Int32) : fX2_mirroredPlaces_L4 (n + 1) l1 l2 vxs fxd = if vxs ≤ l2 then (some (l1, l2)) else (gin l2 8 (gin ((vxs - (1 : Int32)) - l2) 8 (if (fxd l2.toNatClampNeg) = (fxd ((vxs - (1 : Int32)) - l2).toNatClampNeg) then (fX2_mirroredPlaces_L4 n (l1 + (1 : Int32)) (l2 + (1 : Int32)) vxs fxd) else (fX2_mirroredPlaces_L4 n l1 (l2 + (1 : Int32)) vxs fxd)))) := rfl
noncomputable def fX2_mirroredPlaces (vxs : Int32) (fxd : Nat → Int32)  : Option (Int32) := bd (fX2_mirroredPlaces_L4 FU (0 : Int32) (0 : Int32) vxs fxd) fun q4 => some q4.1
set_option maxHeartbeats 4000000 in
set_option maxRecDepth 100000 in
theorem c_X2_mirroredPlaces (l : Launch) (dC : Nat → ClassId) (dI : Nat → Nat → Nat) (cy : ClassId) (ax axd : Nat) (sz : Nat) (vxs : Int32) (fxd : Nat → Int32)  (res : Int32) (h : fX2_mirroredPlaces vxs fxd = some res) : Met l yX2_mirroredPlaces wsX2_mirroredPlaces ({ frames := 0, cells := 0, slots := 0, locals := 0 }) (va_Pc [.ref ax] (PW (dC, dI) cy sz [(ax, .inr (2, [.ref axd, .int vxs])), (axd, .inl (cy, 8, .inl fxd))])) (va_Qi (fun (r : Int32) (_ : Unit) => r = res) (QW (dC, dI) cy (va_A [(ax, .inr (2, [.ref axd, .int vxs])), (axd, .inl (cy, 8, .inl fxd))] sz) [(ax, .inr (2, [.ref axd, .int vxs])), (axd, .inl (cy, 8, .inl fxd))]) (va_A [(ax, .inr (2, [.ref axd, .int vxs])), (axd, .inl (cy, 8, .inl fxd))] sz)) 0 0 (va_A [(ax, .inr (2, [.ref axd, .int vxs])), (axd, .inl (cy, 8, .inl fxd))] sz) := by
  refine Met.ofW (cc := cX2_mirroredPlaces) (maxL := 3) (ret := (some .int)) (by decide) rfl ?_
  intro p e s m args below meth c s₁ B hml hv
  obtain ⟨rfl, hsz, hP, hK, hD0, hN⟩ := hv
  have hx := B.exec
  have hb := B.bytes
  have hr := B.returns
  have hts := atoms_spec (ws := wsX2_mirroredPlaces) B.pre
  have hown : s.vm.findClass RX2 = some m.cls := findClass_of_methodNamed B.named
  have hlocks := B.notSynchronized
  subst hsz
  have hD := hD0.self (sz := s.heap.size)
  clear hD0
  generalize hAe : va_A [(ax, .inr (2, [.ref axd, .int vxs])), (axd, .inl (cy, 8, .inl fxd))] s.heap.size = A at hD ⊢
  have hA : ∀ q : Nat, s.heap.size ≤ q → A q := fun q h => by rw [← hAe]; exact Or.inr h
  have hS : va_S A s.heap s.heap [] := va_S.rf
  have hl := lv_entry ([.ref ax]) (n := 3) (Nat.le_of_ble_eq_true rfl)
  rw [lg_entry_eq]
  generalize (lg_sl ([.ref ax]) ++ List.replicate (3 - (lg_sl ([.ref ax])).length) Slot.unset).toArray = ls at hl ⊢
  replace hl : lv_has ls 3 [(0, .ref ax)] := hl
  replace hP : va_P (dC, dI) vwCl [(ax, .inr (2, [.ref axd, .int vxs])), (axd, .inl (cy, 8, .inl fxd))] s.heap := hP
  obtain ⟨locs, hlocs⟩ : ∃ lc : List Loc, lc = [] := ⟨_, rfl⟩
  rw [← hlocs] at hS ⊢
  obtain ⟨H, hH⟩ : ∃ H : Heap, H = s.heap := ⟨_, rfl⟩
  have hP2 := hP; rw [← hH] at hP2
  have hS2 : va_S A s.heap H locs := by rw [hH]; exact hS
  suffices hgo : W p l e (headSpec wsX2_mirroredPlaces ({ frames := 0, cells := 0, slots := 0, locals := 0 })).room s m (([.ref ax] : List Value).toArray) below meth c H locs 0 0 (MQ below (va_Qi (fun (r : Int32) (_ : Unit) => r = res) (QW (dC, dI) cy A [(ax, .inr (2, [.ref axd, .int vxs])), (axd, .inl (cy, 8, .inl fxd))]) A) (([.ref ax] : List Value).toArray) s 0 0 A) (F0 m 0 ls []) by rw [hH] at hgo; exact hgo
  replace hP := hP2
  replace hS := hS2
  clear hP2 hS2
  have hin_X2 : ∀ w ∈ wsX20, w ∈ wsX2_mirroredPlaces := by decide +kernel
  have hf_9 := hts (.fieldLink RX2 9 "FewLooks$Row" "digits" "[I") (by decide +kernel)
  have hf_15 := hts (.fieldLink RX2 15 "FewLooks$Row" "size" "I") (by decide +kernel)
  unfold fX2_mirroredPlaces at h
  refine lv_iconst (v := (0 : Int32)) hx hb dX2_mirroredPlaces_0 (by decide) ?_
  refine lv_istore_n (lv' := [(1, .int (0 : Int32)), (0, .ref ax)]) hx hb dX2_mirroredPlaces_1 rfl hl (by decide) rfl (fun ls hl => ?_)
  refine lv_iconst (v := (0 : Int32)) hx hb dX2_mirroredPlaces_2 (by decide) ?_
  refine lv_istore_n (lv' := [(2, .int (0 : Int32)), (1, .int (0 : Int32)), (0, .ref ax)]) hx hb dX2_mirroredPlaces_3 rfl hl (by decide) rfl (fun ls hl => ?_)
  have L4_2 : ∀ (n : Nat) (l1 : Int32) (l2 : Int32) (rs : (Int32 × Int32)) (H : Heap) (locs : List Loc) (ls : Array Slot), fX2_mirroredPlaces_L4 n l1 l2 vxs fxd = some rs → lv_has ls 3 [(0, .ref ax), (1, .int l1), (2, .int l2)] → va_P (dC, dI) vwCl [(ax, .inr (2, [.ref axd, .int vxs])), (axd, .inl (cy, 8, .inl fxd))] H → va_D A [(ax, .inr (2, [.ref axd, .int vxs])), (axd, .inl (cy, 8, .inl fxd))] → va_S A s.heap H locs → (∀ (H : Heap) (locs : List Loc) (ls : Array Slot), lv_has ls 3 [(0, .ref ax), (1, .int rs.1), (2, .int rs.2)] → va_P (dC, dI) vwCl [(ax, .inr (2, [.ref axd, .int vxs])), (axd, .inl (cy, 8, .inl fxd))] H → va_D A [(ax, .inr (2, [.ref axd, .int vxs])), (axd, .inl (cy, 8, .inl fxd))] → va_S A s.heap H locs → W p l e (headSpec wsX2_mirroredPlaces ({ frames := 0, cells := 0, slots := 0, locals := 0 })).room s m (([.ref ax] : List Value).toArray) below meth c H locs 0 0 (MQ below (va_Qi (fun (r : Int32) (_ : Unit) => r = res) (QW (dC, dI) cy A [(ax, .inr (2, [.ref axd, .int vxs])), (axd, .inl (cy, 8, .inl fxd))]) A) (([.ref ax] : List Value).toArray) s 0 0 A) (F0 m 43 ls [])) → W p l e (headSpec wsX2_mirroredPlaces ({ frames := 0, cells := 0, slots := 0, locals := 0 })).room s m (([.ref ax] : List Value).toArray) below meth c H locs 0 0 (MQ below (va_Qi (fun (r : Int32) (_ : Unit) => r = res) (QW (dC, dI) cy A [(ax, .inr (2, [.ref axd, .int vxs])), (axd, .inl (cy, 8, .inl fxd))]) A) (([.ref ax] : List Value).toArray) s 0 0 A) (F0 m 4 ls []) := by
    intro n
    induction n with
    | zero =>
      intro l1 l2 rs H locs ls h
      rw [fX2_mirroredPlaces_L4_0] at h
      cases h
    | succ n ih =>
      intro l1 l2 rs H locs ls h hl hP hD hS K
      rw [fX2_mirroredPlaces_L4_s] at h
      refine lv_iload_n hx hb dX2_mirroredPlaces_4 rfl (lv_at hl 2 rfl) ?_
      refine lv_aload_n hx hb dX2_mirroredPlaces_5 rfl (lv_at hl 0 rfl) ?_
      refine va_get (D := (dC, dI)) (ci := 2) (v := .int vxs) (C := RX2) (T := TX2) (N := 2) hx hb hts hin_X2 hown hK hP 0 rfl rfl 1 (by decide) (hf_15) (fun _ h9 => h9) rfl dX2_mirroredPlaces_6 ?_
      refine lv_icmp_ge (tgt := 43) hx hb dX2_mirroredPlaces_9 (by decide) (fun c2 => ?_) (fun c2 => ?_)
      · rw [if_pos c2] at h
        have h0 := Option.some.inj h
        subst h0
        exact K H locs ls (lv_sub hl [0, 1, 2] rfl) hP hD hS
      · rw [if_neg c2] at h
        refine lv_aload_n hx hb dX2_mirroredPlaces_12 rfl (lv_at hl 0 rfl) ?_
        refine va_get (D := (dC, dI)) (ci := 2) (v := .ref axd) (C := RX2) (T := TX2) (N := 2) hx hb hts hin_X2 hown hK hP 0 rfl rfl 0 (by decide) (hf_9) (fun _ h9 => h9) rfl dX2_mirroredPlaces_13 ?_
        refine lv_iload_n hx hb dX2_mirroredPlaces_16 rfl (lv_at hl 2 rfl) ?_
        obtain ⟨hi, h⟩ := gin_some h
        refine va_iald hx hb hK hP 1 0 rfl rfl hi dX2_mirroredPlaces_17 ?_
        refine lv_aload_n hx hb dX2_mirroredPlaces_18 rfl (lv_at hl 0 rfl) ?_
        refine va_get (D := (dC, dI)) (ci := 2) (v := .ref axd) (C := RX2) (T := TX2) (N := 2) hx hb hts hin_X2 hown hK hP 0 rfl rfl 0 (by decide) (hf_9) (fun _ h9 => h9) rfl dX2_mirroredPlaces_19 ?_
        refine lv_aload_n hx hb dX2_mirroredPlaces_22 rfl (lv_at hl 0 rfl) ?_
        refine va_get (D := (dC, dI)) (ci := 2) (v := .int vxs) (C := RX2) (T := TX2) (N := 2) hx hb hts hin_X2 hown hK hP 0 rfl rfl 1 (by decide) (hf_15) (fun _ h9 => h9) rfl dX2_mirroredPlaces_23 ?_
        refine lv_iconst (v := (1 : Int32)) hx hb dX2_mirroredPlaces_26 (by decide) ?_
        refine lv_isub hx hb dX2_mirroredPlaces_27 ?_
        refine lv_iload_n hx hb dX2_mirroredPlaces_28 rfl (lv_at hl 2 rfl) ?_
        refine lv_isub hx hb dX2_mirroredPlaces_29 ?_
        obtain ⟨hi, h⟩ := gin_some h
        refine va_iald hx hb hK hP 1 0 rfl rfl hi dX2_mirroredPlaces_30 ?_
        refine lv_icmp_ne (tgt := 37) hx hb dX2_mirroredPlaces_31 (by decide) (fun c1 => ?_) (fun c1 => ?_)
        · rw [if_neg c1] at h
          refine lv_iinc (v := l2 + (1 : Int32)) (lv' := [(2, .int (l2 + (1 : Int32))), (0, .ref ax), (1, .int l1)]) hx hb dX2_mirroredPlaces_37 hl (k := 2) rfl rfl (by decide) rfl (fun ls hl => ?_)
          refine lv_goto (tgt := 4) hx hb dX2_mirroredPlaces_40 (by decide) ?_
          exact ih l1 (l2 + (1 : Int32)) rs H locs ls h (lv_sub hl [1, 2, 0] rfl) hP hD hS K
        · rw [if_pos c1] at h
          refine lv_iinc (v := l1 + (1 : Int32)) (lv' := [(1, .int (l1 + (1 : Int32))), (0, .ref ax), (2, .int l2)]) hx hb dX2_mirroredPlaces_34 hl (k := 1) rfl rfl (by decide) rfl (fun ls hl => ?_)
          refine lv_iinc (v := l2 + (1 : Int32)) (lv' := [(2, .int (l2 + (1 : Int32))), (1, .int (l1 + (1 : Int32))), (0, .ref ax)]) hx hb dX2_mirroredPlaces_37 hl (k := 2) rfl rfl (by decide) rfl (fun ls hl => ?_)
          refine lv_goto (tgt := 4) hx hb dX2_mirroredPlaces_40 (by decide) ?_
          exact ih (l1 + (1 : Int32)) (l2 + (1 : Int32)) rs H locs ls h (lv_sub hl [2, 1, 0] rfl) hP hD hS K
  obtain ⟨q4, hq4, h⟩ := bd_some h
  refine L4_2 FU (0 : Int32) (0 : Int32) q4 H locs ls hq4 (lv_sub hl [2, 1, 0] rfl) hP hD hS (fun H locs ls hl hP hD hS => ?_)
  refine lv_iload_n hx hb dX2_mirroredPlaces_43 rfl (lv_at hl 1 rfl) ?_
  have h0 := Option.some.inj h
  subst h0
  exact W.iret hx hb hr (fun t ht hW => ⟨⟨_, (), rfl, rfl, QW_mk hP hK hD ht hW⟩, hS.F ht⟩) hS.2.2 dX2_mirroredPlaces_44

noncomputable def fX2_alikeShifts_L14 (n : Nat) (l1 : Int32) (l2 : Int32) (l3 : Int32) (vxs : Int32) (fxd : Nat → Int32) : Option (Int32 × Int32) := match n with
  | 0 => none
  | n + 1 => if vxs ≤ l3 then (some (l1, l3)) else (if l2 = l3 then (fX2_alikeShifts_L14 n l1 l2 (l3 + (1 : Int32)) vxs fxd) else (gin l2 8 (gin l3 8 (if (fxd l2.toNatClampNeg) = (fxd l3.toNatClampNeg) then (fX2_alikeShifts_L14 n (l1 + (1 : Int32)) l2 (l3 + (1 : Int32)) vxs fxd) else (fX2_alikeShifts_L14 n l1 l2 (l3 + (1 : Int32)) vxs fxd)))))
theorem fX2_alikeShifts_L14_0 (l1 : Int32) (l2 : Int32) (l3 : Int32) (vxs : Int32) (fxd : Nat → Int32) : fX2_alikeShifts_L14 0 l1 l2 l3 vxs fxd = none := rfl
theorem fX2_alikeShifts_L14_s (n : Nat) (l1 : Int32) (l2 : Int32) (l3 : Int32) (vxs : Int32) (fxd : Nat → Int32) : fX2_alikeShifts_L14 (n + 1) l1 l2 l3 vxs fxd = if vxs ≤ l3 then (some (l1, l3)) else (if l2 = l3 then (fX2_alikeShifts_L14 n l1 l2 (l3 + (1 : Int32)) vxs fxd) else (gin l2 8 (gin l3 8 (if (fxd l2.toNatClampNeg) = (fxd l3.toNatClampNeg) then (fX2_alikeShifts_L14 n (l1 + (1 : Int32)) l2 (l3 + (1 : Int32)) vxs fxd) else (fX2_alikeShifts_L14 n l1 l2 (l3 + (1 : Int32)) vxs fxd))))) := rfl
noncomputable def fX2_alikeShifts_L4 (n : Nat) (l1 : Int32) (l2 : Int32) (vxs : Int32) (fxd : Nat → Int32) : Option (Int32 × Int32) := match n with
  | 0 => none
  | n + 1 => if vxs ≤ l2 then (some (l1, l2)) else (bd (fX2_alikeShifts_L14 FU l1 l2 (0 : Int32) vxs fxd) fun q5 => fX2_alikeShifts_L4 n q5.1 (l2 + (1 : Int32)) vxs fxd)
theorem fX2_alikeShifts_L4_0 (l1 : Int32) (l2 : Int32) (vxs : Int32) (fxd : Nat → Int32) : fX2_alikeShifts_L4 0 l1 l2 vxs fxd = none := rfl
theorem fX2_alikeShifts_L4_s (n : Nat) (l1 : Int32) (l2 : Int32) (vxs : Int32) (fxd : Nat → Int32) : fX2_alikeShifts_L4 (n + 1) l1 l2 vxs fxd = if vxs ≤ l2 then (some (l1, l2)) else (bd (fX2_alikeShifts_L14 FU l1 l2 (0 : Int32) vxs fxd) fun q5 => fX2_alikeShifts_L4 n q5.1 (l2 + (1 : Int32)) vxs fxd) := rfl
noncomputable def fX2_alikeShifts (vxs : Int32) (fxd : Nat → Int32)  : Option (Int32) := bd (fX2_alikeShifts_L4 FU (0 : Int32) (0 : Int32) vxs fxd) fun q8 => some q8.1
set_option maxHeartbeats 4000000 in
set_option maxRecDepth 100000 in
theorem c_X2_alikeShifts (l : Launch) (dC : Nat → ClassId) (dI : Nat → Nat → Nat) (cy : ClassId) (ax axd : Nat) (sz : Nat) (vxs : Int32) (fxd : Nat → Int32)  (res : Int32) (h : fX2_alikeShifts vxs fxd = some res) : Met l yX2_alikeShifts wsX2_alikeShifts ({ frames := 0, cells := 0, slots := 0, locals := 0 }) (va_Pc [.ref ax] (PW (dC, dI) cy sz [(ax, .inr (2, [.ref axd, .int vxs])), (axd, .inl (cy, 8, .inl fxd))])) (va_Qi (fun (r : Int32) (_ : Unit) => r = res) (QW (dC, dI) cy (va_A [(ax, .inr (2, [.ref axd, .int vxs])), (axd, .inl (cy, 8, .inl fxd))] sz) [(ax, .inr (2, [.ref axd, .int vxs])), (axd, .inl (cy, 8, .inl fxd))]) (va_A [(ax, .inr (2, [.ref axd, .int vxs])), (axd, .inl (cy, 8, .inl fxd))] sz)) 0 0 (va_A [(ax, .inr (2, [.ref axd, .int vxs])), (axd, .inl (cy, 8, .inl fxd))] sz) := by
  refine Met.ofW (cc := cX2_alikeShifts) (maxL := 4) (ret := (some .int)) (by decide) rfl ?_
  intro p e s m args below meth c s₁ B hml hv
  obtain ⟨rfl, hsz, hP, hK, hD0, hN⟩ := hv
  have hx := B.exec
  have hb := B.bytes
  have hr := B.returns
  have hts := atoms_spec (ws := wsX2_alikeShifts) B.pre
  have hown : s.vm.findClass RX2 = some m.cls := findClass_of_methodNamed B.named
  have hlocks := B.notSynchronized
  subst hsz
  have hD := hD0.self (sz := s.heap.size)
  clear hD0
  generalize hAe : va_A [(ax, .inr (2, [.ref axd, .int vxs])), (axd, .inl (cy, 8, .inl fxd))] s.heap.size = A at hD ⊢
  have hA : ∀ q : Nat, s.heap.size ≤ q → A q := fun q h => by rw [← hAe]; exact Or.inr h
  have hS : va_S A s.heap s.heap [] := va_S.rf
  have hl := lv_entry ([.ref ax]) (n := 4) (Nat.le_of_ble_eq_true rfl)
  rw [lg_entry_eq]
  generalize (lg_sl ([.ref ax]) ++ List.replicate (4 - (lg_sl ([.ref ax])).length) Slot.unset).toArray = ls at hl ⊢
  replace hl : lv_has ls 4 [(0, .ref ax)] := hl
  replace hP : va_P (dC, dI) vwCl [(ax, .inr (2, [.ref axd, .int vxs])), (axd, .inl (cy, 8, .inl fxd))] s.heap := hP
  obtain ⟨locs, hlocs⟩ : ∃ lc : List Loc, lc = [] := ⟨_, rfl⟩
  rw [← hlocs] at hS ⊢
  obtain ⟨H, hH⟩ : ∃ H : Heap, H = s.heap := ⟨_, rfl⟩
  have hP2 := hP; rw [← hH] at hP2
  have hS2 : va_S A s.heap H locs := by rw [hH]; exact hS
  suffices hgo : W p l e (headSpec wsX2_alikeShifts ({ frames := 0, cells := 0, slots := 0, locals := 0 })).room s m (([.ref ax] : List Value).toArray) below meth c H locs 0 0 (MQ below (va_Qi (fun (r : Int32) (_ : Unit) => r = res) (QW (dC, dI) cy A [(ax, .inr (2, [.ref axd, .int vxs])), (axd, .inl (cy, 8, .inl fxd))]) A) (([.ref ax] : List Value).toArray) s 0 0 A) (F0 m 0 ls []) by rw [hH] at hgo; exact hgo
  replace hP := hP2
  replace hS := hS2
  clear hP2 hS2
  have hin_X2 : ∀ w ∈ wsX20, w ∈ wsX2_alikeShifts := by decide +kernel
  have hf_9 := hts (.fieldLink RX2 9 "FewLooks$Row" "digits" "[I") (by decide +kernel)
  have hf_15 := hts (.fieldLink RX2 15 "FewLooks$Row" "size" "I") (by decide +kernel)
  unfold fX2_alikeShifts at h
  refine lv_iconst (v := (0 : Int32)) hx hb dX2_alikeShifts_0 (by decide) ?_
  refine lv_istore_n (lv' := [(1, .int (0 : Int32)), (0, .ref ax)]) hx hb dX2_alikeShifts_1 rfl hl (by decide) rfl (fun ls hl => ?_)
  refine lv_iconst (v := (0 : Int32)) hx hb dX2_alikeShifts_2 (by decide) ?_
  refine lv_istore_n (lv' := [(2, .int (0 : Int32)), (1, .int (0 : Int32)), (0, .ref ax)]) hx hb dX2_alikeShifts_3 rfl hl (by decide) rfl (fun ls hl => ?_)
  have L4_6 : ∀ (n : Nat) (l1 : Int32) (l2 : Int32) (rs : (Int32 × Int32)) (H : Heap) (locs : List Loc) (ls : Array Slot), fX2_alikeShifts_L4 n l1 l2 vxs fxd = some rs → lv_has ls 4 [(0, .ref ax), (1, .int l1), (2, .int l2)] → va_P (dC, dI) vwCl [(ax, .inr (2, [.ref axd, .int vxs])), (axd, .inl (cy, 8, .inl fxd))] H → va_D A [(ax, .inr (2, [.ref axd, .int vxs])), (axd, .inl (cy, 8, .inl fxd))] → va_S A s.heap H locs → (∀ (H : Heap) (locs : List Loc) (ls : Array Slot), lv_has ls 4 [(0, .ref ax), (1, .int rs.1), (2, .int rs.2)] → va_P (dC, dI) vwCl [(ax, .inr (2, [.ref axd, .int vxs])), (axd, .inl (cy, 8, .inl fxd))] H → va_D A [(ax, .inr (2, [.ref axd, .int vxs])), (axd, .inl (cy, 8, .inl fxd))] → va_S A s.heap H locs → W p l e (headSpec wsX2_alikeShifts ({ frames := 0, cells := 0, slots := 0, locals := 0 })).room s m (([.ref ax] : List Value).toArray) below meth c H locs 0 0 (MQ below (va_Qi (fun (r : Int32) (_ : Unit) => r = res) (QW (dC, dI) cy A [(ax, .inr (2, [.ref axd, .int vxs])), (axd, .inl (cy, 8, .inl fxd))]) A) (([.ref ax] : List Value).toArray) s 0 0 A) (F0 m 57 ls [])) → W p l e (headSpec wsX2_alikeShifts ({ frames := 0, cells := 0, slots := 0, locals := 0 })).room s m (([.ref ax] : List Value).toArray) below meth c H locs 0 0 (MQ below (va_Qi (fun (r : Int32) (_ : Unit) => r = res) (QW (dC, dI) cy A [(ax, .inr (2, [.ref axd, .int vxs])), (axd, .inl (cy, 8, .inl fxd))]) A) (([.ref ax] : List Value).toArray) s 0 0 A) (F0 m 4 ls []) := by
    intro n
    induction n with
    | zero =>
      intro l1 l2 rs H locs ls h
      rw [fX2_alikeShifts_L4_0] at h
      cases h
    | succ n ih =>
      intro l1 l2 rs H locs ls h hl hP hD hS K
      rw [fX2_alikeShifts_L4_s] at h
      refine lv_iload_n hx hb dX2_alikeShifts_4 rfl (lv_at hl 2 rfl) ?_
      refine lv_aload_n hx hb dX2_alikeShifts_5 rfl (lv_at hl 0 rfl) ?_
      refine va_get (D := (dC, dI)) (ci := 2) (v := .int vxs) (C := RX2) (T := TX2) (N := 2) hx hb hts hin_X2 hown hK hP 0 rfl rfl 1 (by decide) (hf_15) (fun _ h9 => h9) rfl dX2_alikeShifts_6 ?_
      refine lv_icmp_ge (tgt := 57) hx hb dX2_alikeShifts_9 (by decide) (fun c6 => ?_) (fun c6 => ?_)
      · rw [if_pos c6] at h
        have h0 := Option.some.inj h
        subst h0
        exact K H locs ls (lv_sub hl [0, 1, 2] rfl) hP hD hS
      · rw [if_neg c6] at h
        refine lv_iconst (v := (0 : Int32)) hx hb dX2_alikeShifts_12 (by decide) ?_
        refine lv_istore_n (lv' := [(3, .int (0 : Int32)), (0, .ref ax), (1, .int l1), (2, .int l2)]) hx hb dX2_alikeShifts_13 rfl hl (by decide) rfl (fun ls hl => ?_)
        have L14_3 : ∀ (n : Nat) (l1 : Int32) (l2 : Int32) (l3 : Int32) (rs : (Int32 × Int32)) (H : Heap) (locs : List Loc) (ls : Array Slot), fX2_alikeShifts_L14 n l1 l2 l3 vxs fxd = some rs → lv_has ls 4 [(0, .ref ax), (1, .int l1), (2, .int l2), (3, .int l3)] → va_P (dC, dI) vwCl [(ax, .inr (2, [.ref axd, .int vxs])), (axd, .inl (cy, 8, .inl fxd))] H → va_D A [(ax, .inr (2, [.ref axd, .int vxs])), (axd, .inl (cy, 8, .inl fxd))] → va_S A s.heap H locs → (∀ (H : Heap) (locs : List Loc) (ls : Array Slot), lv_has ls 4 [(0, .ref ax), (1, .int rs.1), (2, .int l2), (3, .int rs.2)] → va_P (dC, dI) vwCl [(ax, .inr (2, [.ref axd, .int vxs])), (axd, .inl (cy, 8, .inl fxd))] H → va_D A [(ax, .inr (2, [.ref axd, .int vxs])), (axd, .inl (cy, 8, .inl fxd))] → va_S A s.heap H locs → W p l e (headSpec wsX2_alikeShifts ({ frames := 0, cells := 0, slots := 0, locals := 0 })).room s m (([.ref ax] : List Value).toArray) below meth c H locs 0 0 (MQ below (va_Qi (fun (r : Int32) (_ : Unit) => r = res) (QW (dC, dI) cy A [(ax, .inr (2, [.ref axd, .int vxs])), (axd, .inl (cy, 8, .inl fxd))]) A) (([.ref ax] : List Value).toArray) s 0 0 A) (F0 m 51 ls [])) → W p l e (headSpec wsX2_alikeShifts ({ frames := 0, cells := 0, slots := 0, locals := 0 })).room s m (([.ref ax] : List Value).toArray) below meth c H locs 0 0 (MQ below (va_Qi (fun (r : Int32) (_ : Unit) => r = res) (QW (dC, dI) cy A [(ax, .inr (2, [.ref axd, .int vxs])), (axd, .inl (cy, 8, .inl fxd))]) A) (([.ref ax] : List Value).toArray) s 0 0 A) (F0 m 14 ls []) := by
          intro n
          induction n with
          | zero =>
            intro l1 l2 l3 rs H locs ls h
            rw [fX2_alikeShifts_L14_0] at h
            cases h
          | succ n ih =>
            intro l1 l2 l3 rs H locs ls h hl hP hD hS K
            rw [fX2_alikeShifts_L14_s] at h
            refine lv_iload_n hx hb dX2_alikeShifts_14 rfl (lv_at hl 3 rfl) ?_
            refine lv_aload_n hx hb dX2_alikeShifts_15 rfl (lv_at hl 0 rfl) ?_
            refine va_get (D := (dC, dI)) (ci := 2) (v := .int vxs) (C := RX2) (T := TX2) (N := 2) hx hb hts hin_X2 hown hK hP 0 rfl rfl 1 (by decide) (hf_15) (fun _ h9 => h9) rfl dX2_alikeShifts_16 ?_
            refine lv_icmp_ge (tgt := 51) hx hb dX2_alikeShifts_19 (by decide) (fun c3 => ?_) (fun c3 => ?_)
            · rw [if_pos c3] at h
              have h0 := Option.some.inj h
              subst h0
              exact K H locs ls (lv_sub hl [0, 1, 2, 3] rfl) hP hD hS
            · rw [if_neg c3] at h
              refine lv_iload_n hx hb dX2_alikeShifts_22 rfl (lv_at hl 2 rfl) ?_
              refine lv_iload_n hx hb dX2_alikeShifts_23 rfl (lv_at hl 3 rfl) ?_
              refine lv_icmp_eq (tgt := 45) hx hb dX2_alikeShifts_24 (by decide) (fun c2 => ?_) (fun c2 => ?_)
              · rw [if_pos c2] at h
                refine lv_iinc (v := l3 + (1 : Int32)) (lv' := [(3, .int (l3 + (1 : Int32))), (0, .ref ax), (1, .int l1), (2, .int l2)]) hx hb dX2_alikeShifts_45 hl (k := 3) rfl rfl (by decide) rfl (fun ls hl => ?_)
                refine lv_goto (tgt := 14) hx hb dX2_alikeShifts_48 (by decide) ?_
                exact ih l1 l2 (l3 + (1 : Int32)) rs H locs ls h (lv_sub hl [1, 2, 3, 0] rfl) hP hD hS K
              · rw [if_neg c2] at h
                refine lv_aload_n hx hb dX2_alikeShifts_27 rfl (lv_at hl 0 rfl) ?_
                refine va_get (D := (dC, dI)) (ci := 2) (v := .ref axd) (C := RX2) (T := TX2) (N := 2) hx hb hts hin_X2 hown hK hP 0 rfl rfl 0 (by decide) (hf_9) (fun _ h9 => h9) rfl dX2_alikeShifts_28 ?_
                refine lv_iload_n hx hb dX2_alikeShifts_31 rfl (lv_at hl 2 rfl) ?_
                obtain ⟨hi, h⟩ := gin_some h
                refine va_iald hx hb hK hP 1 0 rfl rfl hi dX2_alikeShifts_32 ?_
                refine lv_aload_n hx hb dX2_alikeShifts_33 rfl (lv_at hl 0 rfl) ?_
                refine va_get (D := (dC, dI)) (ci := 2) (v := .ref axd) (C := RX2) (T := TX2) (N := 2) hx hb hts hin_X2 hown hK hP 0 rfl rfl 0 (by decide) (hf_9) (fun _ h9 => h9) rfl dX2_alikeShifts_34 ?_
                refine lv_iload_n hx hb dX2_alikeShifts_37 rfl (lv_at hl 3 rfl) ?_
                obtain ⟨hi, h⟩ := gin_some h
                refine va_iald hx hb hK hP 1 0 rfl rfl hi dX2_alikeShifts_38 ?_
                refine lv_icmp_ne (tgt := 45) hx hb dX2_alikeShifts_39 (by decide) (fun c1 => ?_) (fun c1 => ?_)
                · rw [if_neg c1] at h
                  refine lv_iinc (v := l3 + (1 : Int32)) (lv' := [(3, .int (l3 + (1 : Int32))), (0, .ref ax), (1, .int l1), (2, .int l2)]) hx hb dX2_alikeShifts_45 hl (k := 3) rfl rfl (by decide) rfl (fun ls hl => ?_)
                  refine lv_goto (tgt := 14) hx hb dX2_alikeShifts_48 (by decide) ?_
                  exact ih l1 l2 (l3 + (1 : Int32)) rs H locs ls h (lv_sub hl [1, 2, 3, 0] rfl) hP hD hS K
                · rw [if_pos c1] at h
                  refine lv_iinc (v := l1 + (1 : Int32)) (lv' := [(1, .int (l1 + (1 : Int32))), (0, .ref ax), (2, .int l2), (3, .int l3)]) hx hb dX2_alikeShifts_42 hl (k := 1) rfl rfl (by decide) rfl (fun ls hl => ?_)
                  refine lv_iinc (v := l3 + (1 : Int32)) (lv' := [(3, .int (l3 + (1 : Int32))), (1, .int (l1 + (1 : Int32))), (0, .ref ax), (2, .int l2)]) hx hb dX2_alikeShifts_45 hl (k := 3) rfl rfl (by decide) rfl (fun ls hl => ?_)
                  refine lv_goto (tgt := 14) hx hb dX2_alikeShifts_48 (by decide) ?_
                  exact ih (l1 + (1 : Int32)) l2 (l3 + (1 : Int32)) rs H locs ls h (lv_sub hl [2, 1, 3, 0] rfl) hP hD hS K
        obtain ⟨q5, hq5, h⟩ := bd_some h
        refine L14_3 FU l1 l2 (0 : Int32) q5 H locs ls hq5 (lv_sub hl [1, 2, 3, 0] rfl) hP hD hS (fun H locs ls hl hP hD hS => ?_)
        refine lv_iinc (v := l2 + (1 : Int32)) (lv' := [(2, .int (l2 + (1 : Int32))), (0, .ref ax), (1, .int q5.1), (3, .int q5.2)]) hx hb dX2_alikeShifts_51 hl (k := 2) rfl rfl (by decide) rfl (fun ls hl => ?_)
        refine lv_goto (tgt := 4) hx hb dX2_alikeShifts_54 (by decide) ?_
        exact ih q5.1 (l2 + (1 : Int32)) rs H locs ls h (lv_sub hl [1, 2, 0] rfl) hP hD hS K
  obtain ⟨q8, hq8, h⟩ := bd_some h
  refine L4_6 FU (0 : Int32) (0 : Int32) q8 H locs ls hq8 (lv_sub hl [2, 1, 0] rfl) hP hD hS (fun H locs ls hl hP hD hS => ?_)
  refine lv_iload_n hx hb dX2_alikeShifts_57 rfl (lv_at hl 1 rfl) ?_
  have h0 := Option.some.inj h
  subst h0
  exact W.iret hx hb hr (fun t ht hW => ⟨⟨_, (), rfl, rfl, QW_mk hP hK hD ht hW⟩, hS.F ht⟩) hS.2.2 dX2_alikeShifts_58

noncomputable def fX2_passing (vxs : Int32) (fxd : Nat → Int32) (p0 : Int32) : Option (Int32) := if p0 = (0 : Int32) then (bd (fX2_risingPairs vxs fxd) fun r2 => some r2) else (if p0 = (1 : Int32) then (bd (fX2_mirroredPlaces vxs fxd) fun r4 => some r4) else (if p0 = (2 : Int32) then (bd (fX2_total vxs fxd) fun r6 => if (r6 - r6 / (2 : Int32) * (2 : Int32)) = 0 then (some (1 : Int32)) else (some (0 : Int32))) else (bd (fX2_alikeShifts vxs fxd) fun r8 => some r8)))
set_option maxHeartbeats 4000000 in
set_option maxRecDepth 100000 in
theorem c_X2_passing (l : Launch) (dC : Nat → ClassId) (dI : Nat → Nat → Nat) (cy : ClassId) (ax axd : Nat) (sz : Nat) (vxs : Int32) (fxd : Nat → Int32) (p0 : Int32) (res : Int32) (h : fX2_passing vxs fxd p0 = some res) : Met l yX2_passing wsX2_passing ({ frames := 1, cells := 0, slots := 0, locals := 23 }) (va_Pc [.ref ax, .int p0] (PW (dC, dI) cy sz [(ax, .inr (2, [.ref axd, .int vxs])), (axd, .inl (cy, 8, .inl fxd))])) (va_Qi (fun (r : Int32) (_ : Unit) => r = res) (QW (dC, dI) cy (va_A [(ax, .inr (2, [.ref axd, .int vxs])), (axd, .inl (cy, 8, .inl fxd))] sz) [(ax, .inr (2, [.ref axd, .int vxs])), (axd, .inl (cy, 8, .inl fxd))]) (va_A [(ax, .inr (2, [.ref axd, .int vxs])), (axd, .inl (cy, 8, .inl fxd))] sz)) 0 0 (va_A [(ax, .inr (2, [.ref axd, .int vxs])), (axd, .inl (cy, 8, .inl fxd))] sz) := by
  refine Met.ofW (cc := cX2_passing) (maxL := 2) (ret := (some .int)) (by decide) rfl ?_
  intro p e s m args below meth c s₁ B hml hv
  obtain ⟨rfl, hsz, hP, hK, hD0, hN⟩ := hv
  have hx := B.exec
  have hb := B.bytes
  have hr := B.returns
  have hts := atoms_spec (ws := wsX2_passing) B.pre
  have hown : s.vm.findClass RX2 = some m.cls := findClass_of_methodNamed B.named
  have hlocks := B.notSynchronized
  subst hsz
  have hD := hD0.self (sz := s.heap.size)
  clear hD0
  generalize hAe : va_A [(ax, .inr (2, [.ref axd, .int vxs])), (axd, .inl (cy, 8, .inl fxd))] s.heap.size = A at hD ⊢
  have hA : ∀ q : Nat, s.heap.size ≤ q → A q := fun q h => by rw [← hAe]; exact Or.inr h
  have hS : va_S A s.heap s.heap [] := va_S.rf
  have hl := lv_entry ([.ref ax, .int p0]) (n := 2) (Nat.le_of_ble_eq_true rfl)
  rw [lg_entry_eq]
  generalize (lg_sl ([.ref ax, .int p0]) ++ List.replicate (2 - (lg_sl ([.ref ax, .int p0])).length) Slot.unset).toArray = ls at hl ⊢
  replace hl : lv_has ls 2 [(0, .ref ax), (1, .int p0)] := hl
  replace hP : va_P (dC, dI) vwCl [(ax, .inr (2, [.ref axd, .int vxs])), (axd, .inl (cy, 8, .inl fxd))] s.heap := hP
  obtain ⟨locs, hlocs⟩ : ∃ lc : List Loc, lc = [] := ⟨_, rfl⟩
  rw [← hlocs] at hS ⊢
  obtain ⟨H, hH⟩ : ∃ H : Heap, H = s.heap := ⟨_, rfl⟩
  have hP2 := hP; rw [← hH] at hP2
  have hS2 : va_S A s.heap H locs := by rw [hH]; exact hS
  suffices hgo : W p l e (headSpec wsX2_passing ({ frames := 1, cells := 0, slots := 0, locals := 23 })).room s m (([.ref ax, .int p0] : List Value).toArray) below meth c H locs 0 0 (MQ below (va_Qi (fun (r : Int32) (_ : Unit) => r = res) (QW (dC, dI) cy A [(ax, .inr (2, [.ref axd, .int vxs])), (axd, .inl (cy, 8, .inl fxd))]) A) (([.ref ax, .int p0] : List Value).toArray) s 0 0 A) (F0 m 0 ls []) by rw [hH] at hgo; exact hgo
  replace hP := hP2
  replace hS := hS2
  clear hP2 hS2
  unfold fX2_passing at h
  refine lv_iload_n hx hb dX2_passing_0 rfl (lv_at hl 1 rfl) ?_
  by_cases c1 : p0 = (0 : Int32)
  · rw [if_pos c1] at h
    have ec1 : (p0).toInt = 0 := by rw [c1]; rfl
    refine lv_tableIn (tgt := 28) hx hb dX2_passing_1 (by rw [ec1]; decide) (by rw [ec1]; decide) (by rw [ec1]; rfl) (by decide) ?_
    refine lv_aload_n hx hb dX2_passing_28 rfl (lv_at hl 0 rfl) ?_
    obtain ⟨r2, hr2, h⟩ := bd_some h
    have hFc := va_free (wc := [(ax, .inr (2, [.ref axd, .int vxs])), (axd, .inl (cy, 8, .inl fxd))]) hD hS hA [0, 1] rfl
    refine va_calli (va_runV (As := []) (rest := []) ⟨hx, hb, hml, hown, hts⟩ (c_X2_risingPairs l dC dI cy ax axd H.size vxs fxd  r2 hr2) (cwV 0 hts gX2_passing_X2_risingPairs rfl rfl rfl (by decide +kernel) ⟨Nat.le_of_ble_eq_true rfl, Nat.le_of_ble_eq_true rfl⟩) ⟨PW_fb, va_recv hK hP (ci := 2) (q0 := 0) rfl rfl, PW_pre (hP.sub (ws' := [(ax, .inr (2, [.ref axd, .int vxs])), (axd, .inl (cy, 8, .inl fxd))]) [0, 1] rfl) hK (hD.sub [0, 1] (by decide) rfl) hN⟩ rfl rfl hl.1 rfl (lv_room (Nat.le_of_ble_eq_true rfl)) dX2_passing_29 ⟨Nat.zero_le _, Nat.zero_le _⟩) hS (fun q _ h => hFc q h) hFc (fun rz u t H locs ht hvm hw hB hz1 hk1 hS => ?_)
    obtain ⟨hP, hD⟩ := jn (wr := []) (w1 := [(ax, .inr (2, [.ref axd, .int vxs])), (axd, .inl (cy, 8, .inl fxd))]) (ws' := [(ax, .inr (2, [.ref axd, .int vxs])), (axd, .inl (cy, 8, .inl fxd))]) hP hD [0, 1] [] rfl rfl (by decide) (by decide) hk1 hFc hB ht [0, 1] rfl (by decide) rfl
    replace hw := hw.symm
    subst hw
    clear hFc hB hk1 hz1 hvm
    have h0 := Option.some.inj h
    subst h0
    exact W.iret hx hb hr (fun t ht hW => ⟨⟨_, (), rfl, rfl, QW_mk hP hK hD ht hW⟩, hS.F ht⟩) hS.2.2 dX2_passing_32
  · rw [if_neg c1] at h
    by_cases c3 : p0 = (1 : Int32)
    · rw [if_pos c3] at h
      have ec3 : (p0).toInt = 1 := by rw [c3]; rfl
      refine lv_tableIn (tgt := 33) hx hb dX2_passing_1 (by rw [ec3]; decide) (by rw [ec3]; decide) (by rw [ec3]; rfl) (by decide) ?_
      refine lv_aload_n hx hb dX2_passing_33 rfl (lv_at hl 0 rfl) ?_
      obtain ⟨r4, hr4, h⟩ := bd_some h
      have hFc := va_free (wc := [(ax, .inr (2, [.ref axd, .int vxs])), (axd, .inl (cy, 8, .inl fxd))]) hD hS hA [0, 1] rfl
      refine va_calli (va_runV (As := []) (rest := []) ⟨hx, hb, hml, hown, hts⟩ (c_X2_mirroredPlaces l dC dI cy ax axd H.size vxs fxd  r4 hr4) (cwV 0 hts gX2_passing_X2_mirroredPlaces rfl rfl rfl (by decide +kernel) ⟨Nat.le_of_ble_eq_true rfl, Nat.le_of_ble_eq_true rfl⟩) ⟨PW_fb, va_recv hK hP (ci := 2) (q0 := 0) rfl rfl, PW_pre (hP.sub (ws' := [(ax, .inr (2, [.ref axd, .int vxs])), (axd, .inl (cy, 8, .inl fxd))]) [0, 1] rfl) hK (hD.sub [0, 1] (by decide) rfl) hN⟩ rfl rfl hl.1 rfl (lv_room (Nat.le_of_ble_eq_true rfl)) dX2_passing_34 ⟨Nat.zero_le _, Nat.zero_le _⟩) hS (fun q _ h => hFc q h) hFc (fun rz u t H locs ht hvm hw hB hz1 hk1 hS => ?_)
      obtain ⟨hP, hD⟩ := jn (wr := []) (w1 := [(ax, .inr (2, [.ref axd, .int vxs])), (axd, .inl (cy, 8, .inl fxd))]) (ws' := [(ax, .inr (2, [.ref axd, .int vxs])), (axd, .inl (cy, 8, .inl fxd))]) hP hD [0, 1] [] rfl rfl (by decide) (by decide) hk1 hFc hB ht [0, 1] rfl (by decide) rfl
      replace hw := hw.symm
      subst hw
      clear hFc hB hk1 hz1 hvm
      have h0 := Option.some.inj h
      subst h0
      exact W.iret hx hb hr (fun t ht hW => ⟨⟨_, (), rfl, rfl, QW_mk hP hK hD ht hW⟩, hS.F ht⟩) hS.2.2 dX2_passing_37
    · rw [if_neg c3] at h
      by_cases c5 : p0 = (2 : Int32)
      · rw [if_pos c5] at h
        have ec5 : (p0).toInt = 2 := by rw [c5]; rfl
        refine lv_tableIn (tgt := 38) hx hb dX2_passing_1 (by rw [ec5]; decide) (by rw [ec5]; decide) (by rw [ec5]; rfl) (by decide) ?_
        refine lv_aload_n hx hb dX2_passing_38 rfl (lv_at hl 0 rfl) ?_
        obtain ⟨r6, hr6, h⟩ := bd_some h
        have hFc := va_free (wc := [(ax, .inr (2, [.ref axd, .int vxs])), (axd, .inl (cy, 8, .inl fxd))]) hD hS hA [0, 1] rfl
        refine va_calli (va_runV (As := []) (rest := []) ⟨hx, hb, hml, hown, hts⟩ (c_X2_total l dC dI cy ax axd H.size vxs fxd  r6 hr6) (cwV 0 hts gX2_passing_X2_total rfl rfl rfl (by decide +kernel) ⟨Nat.le_of_ble_eq_true rfl, Nat.le_of_ble_eq_true rfl⟩) ⟨PW_fb, va_recv hK hP (ci := 2) (q0 := 0) rfl rfl, PW_pre (hP.sub (ws' := [(ax, .inr (2, [.ref axd, .int vxs])), (axd, .inl (cy, 8, .inl fxd))]) [0, 1] rfl) hK (hD.sub [0, 1] (by decide) rfl) hN⟩ rfl rfl hl.1 rfl (lv_room (Nat.le_of_ble_eq_true rfl)) dX2_passing_39 ⟨Nat.zero_le _, Nat.zero_le _⟩) hS (fun q _ h => hFc q h) hFc (fun rz u t H locs ht hvm hw hB hz1 hk1 hS => ?_)
        obtain ⟨hP, hD⟩ := jn (wr := []) (w1 := [(ax, .inr (2, [.ref axd, .int vxs])), (axd, .inl (cy, 8, .inl fxd))]) (ws' := [(ax, .inr (2, [.ref axd, .int vxs])), (axd, .inl (cy, 8, .inl fxd))]) hP hD [0, 1] [] rfl rfl (by decide) (by decide) hk1 hFc hB ht [0, 1] rfl (by decide) rfl
        replace hw := hw.symm
        subst hw
        clear hFc hB hk1 hz1 hvm
        refine lv_iconst (v := (2 : Int32)) hx hb dX2_passing_42 (by decide) ?_
        refine lv_irem hx hb dX2_passing_43 (by decide) ?_
        refine lv_if_ne (tgt := 51) hx hb dX2_passing_44 (by decide) (fun c7 => ?_) (fun c7 => ?_)
        · rw [if_neg c7] at h
          refine lv_iconst (v := (0 : Int32)) hx hb dX2_passing_51 (by decide) ?_
          have h0 := Option.some.inj h
          subst h0
          exact W.iret hx hb hr (fun t ht hW => ⟨⟨_, (), rfl, rfl, QW_mk hP hK hD ht hW⟩, hS.F ht⟩) hS.2.2 dX2_passing_52
        · rw [if_pos c7] at h
          refine lv_iconst (v := (1 : Int32)) hx hb dX2_passing_47 (by decide) ?_
          refine lv_goto (tgt := 52) hx hb dX2_passing_48 (by decide) ?_
          have h0 := Option.some.inj h
          subst h0
          exact W.iret hx hb hr (fun t ht hW => ⟨⟨_, (), rfl, rfl, QW_mk hP hK hD ht hW⟩, hS.F ht⟩) hS.2.2 dX2_passing_52
      · rw [if_neg c5] at h
        have hout := tb_out (x := p0) (n := 3) (by decide) (fun k hk => by rcases (show k = 0 ∨ k = 1 ∨ k = 2 by omega) with rfl | rfl | rfl; all_goals assumption)
        refine lv_tableOut (tgt := 53) hx hb dX2_passing_1 hout (by decide) ?_
        refine lv_aload_n hx hb dX2_passing_53 rfl (lv_at hl 0 rfl) ?_
        obtain ⟨r8, hr8, h⟩ := bd_some h
        have hFc := va_free (wc := [(ax, .inr (2, [.ref axd, .int vxs])), (axd, .inl (cy, 8, .inl fxd))]) hD hS hA [0, 1] rfl
        refine va_calli (va_runV (As := []) (rest := []) ⟨hx, hb, hml, hown, hts⟩ (c_X2_alikeShifts l dC dI cy ax axd H.size vxs fxd  r8 hr8) (cwV 0 hts gX2_passing_X2_alikeShifts rfl rfl rfl (by decide +kernel) ⟨Nat.le_of_ble_eq_true rfl, Nat.le_of_ble_eq_true rfl⟩) ⟨PW_fb, va_recv hK hP (ci := 2) (q0 := 0) rfl rfl, PW_pre (hP.sub (ws' := [(ax, .inr (2, [.ref axd, .int vxs])), (axd, .inl (cy, 8, .inl fxd))]) [0, 1] rfl) hK (hD.sub [0, 1] (by decide) rfl) hN⟩ rfl rfl hl.1 rfl (lv_room (Nat.le_of_ble_eq_true rfl)) dX2_passing_54 ⟨Nat.zero_le _, Nat.zero_le _⟩) hS (fun q _ h => hFc q h) hFc (fun rz u t H locs ht hvm hw hB hz1 hk1 hS => ?_)
        obtain ⟨hP, hD⟩ := jn (wr := []) (w1 := [(ax, .inr (2, [.ref axd, .int vxs])), (axd, .inl (cy, 8, .inl fxd))]) (ws' := [(ax, .inr (2, [.ref axd, .int vxs])), (axd, .inl (cy, 8, .inl fxd))]) hP hD [0, 1] [] rfl rfl (by decide) (by decide) hk1 hFc hB ht [0, 1] rfl (by decide) rfl
        replace hw := hw.symm
        subst hw
        clear hFc hB hk1 hz1 hvm
        have h0 := Option.some.inj h
        subst h0
        exact W.iret hx hb hr (fun t ht hW => ⟨⟨_, (), rfl, rfl, QW_mk hP hK hD ht hW⟩, hS.F ht⟩) hS.2.2 dX2_passing_57
end
section
noncomputable def fJ6_bitCount_0f7a4  (p0 : Int32) : Option (Int32) := some ((((((((p0 - (((p0.toUInt32 >>> ((1 : Int32).toUInt32 &&& Int32.toUInt32 31)).toInt32) &&& (1431655765 : Int32))) &&& (858993459 : Int32)) + ((((p0 - (((p0.toUInt32 >>> ((1 : Int32).toUInt32 &&& Int32.toUInt32 31)).toInt32) &&& (1431655765 : Int32))).toUInt32 >>> ((2 : Int32).toUInt32 &&& Int32.toUInt32 31)).toInt32) &&& (858993459 : Int32))) + (((((p0 - (((p0.toUInt32 >>> ((1 : Int32).toUInt32 &&& Int32.toUInt32 31)).toInt32) &&& (1431655765 : Int32))) &&& (858993459 : Int32)) + ((((p0 - (((p0.toUInt32 >>> ((1 : Int32).toUInt32 &&& Int32.toUInt32 31)).toInt32) &&& (1431655765 : Int32))).toUInt32 >>> ((2 : Int32).toUInt32 &&& Int32.toUInt32 31)).toInt32) &&& (858993459 : Int32))).toUInt32 >>> ((4 : Int32).toUInt32 &&& Int32.toUInt32 31)).toInt32)) &&& (252645135 : Int32)) + (((((((p0 - (((p0.toUInt32 >>> ((1 : Int32).toUInt32 &&& Int32.toUInt32 31)).toInt32) &&& (1431655765 : Int32))) &&& (858993459 : Int32)) + ((((p0 - (((p0.toUInt32 >>> ((1 : Int32).toUInt32 &&& Int32.toUInt32 31)).toInt32) &&& (1431655765 : Int32))).toUInt32 >>> ((2 : Int32).toUInt32 &&& Int32.toUInt32 31)).toInt32) &&& (858993459 : Int32))) + (((((p0 - (((p0.toUInt32 >>> ((1 : Int32).toUInt32 &&& Int32.toUInt32 31)).toInt32) &&& (1431655765 : Int32))) &&& (858993459 : Int32)) + ((((p0 - (((p0.toUInt32 >>> ((1 : Int32).toUInt32 &&& Int32.toUInt32 31)).toInt32) &&& (1431655765 : Int32))).toUInt32 >>> ((2 : Int32).toUInt32 &&& Int32.toUInt32 31)).toInt32) &&& (858993459 : Int32))).toUInt32 >>> ((4 : Int32).toUInt32 &&& Int32.toUInt32 31)).toInt32)) &&& (252645135 : Int32)).toUInt32 >>> ((8 : Int32).toUInt32 &&& Int32.toUInt32 31)).toInt32)) + ((((((((p0 - (((p0.toUInt32 >>> ((1 : Int32).toUInt32 &&& Int32.toUInt32 31)).toInt32) &&& (1431655765 : Int32))) &&& (858993459 : Int32)) + ((((p0 - (((p0.toUInt32 >>> ((1 : Int32).toUInt32 &&& Int32.toUInt32 31)).toInt32) &&& (1431655765 : Int32))).toUInt32 >>> ((2 : Int32).toUInt32 &&& Int32.toUInt32 31)).toInt32) &&& (858993459 : Int32))) + (((((p0 - (((p0.toUInt32 >>> ((1 : Int32).toUInt32 &&& Int32.toUInt32 31)).toInt32) &&& (1431655765 : Int32))) &&& (858993459 : Int32)) + ((((p0 - (((p0.toUInt32 >>> ((1 : Int32).toUInt32 &&& Int32.toUInt32 31)).toInt32) &&& (1431655765 : Int32))).toUInt32 >>> ((2 : Int32).toUInt32 &&& Int32.toUInt32 31)).toInt32) &&& (858993459 : Int32))).toUInt32 >>> ((4 : Int32).toUInt32 &&& Int32.toUInt32 31)).toInt32)) &&& (252645135 : Int32)) + (((((((p0 - (((p0.toUInt32 >>> ((1 : Int32).toUInt32 &&& Int32.toUInt32 31)).toInt32) &&& (1431655765 : Int32))) &&& (858993459 : Int32)) + ((((p0 - (((p0.toUInt32 >>> ((1 : Int32).toUInt32 &&& Int32.toUInt32 31)).toInt32) &&& (1431655765 : Int32))).toUInt32 >>> ((2 : Int32).toUInt32 &&& Int32.toUInt32 31)).toInt32) &&& (858993459 : Int32))) + (((((p0 - (((p0.toUInt32 >>> ((1 : Int32).toUInt32 &&& Int32.toUInt32 31)).toInt32) &&& (1431655765 : Int32))) &&& (858993459 : Int32)) + ((((p0 - (((p0.toUInt32 >>> ((1 : Int32).toUInt32 &&& Int32.toUInt32 31)).toInt32) &&& (1431655765 : Int32))).toUInt32 >>> ((2 : Int32).toUInt32 &&& Int32.toUInt32 31)).toInt32) &&& (858993459 : Int32))).toUInt32 >>> ((4 : Int32).toUInt32 &&& Int32.toUInt32 31)).toInt32)) &&& (252645135 : Int32)).toUInt32 >>> ((8 : Int32).toUInt32 &&& Int32.toUInt32 31)).toInt32)).toUInt32 >>> ((16 : Int32).toUInt32 &&& Int32.toUInt32 31)).toInt32)) &&& (63 : Int32))
set_option maxHeartbeats 4000000 in
set_option maxRecDepth 100000 in
theorem c_J6_bitCount_0f7a4 (l : Launch) (dC : Nat → ClassId) (dI : Nat → Nat → Nat) (cy : ClassId)  (sz : Nat)  (p0 : Int32) (res : Int32) (h : fJ6_bitCount_0f7a4 p0 = some res) : Met l yJ6_bitCount_0f7a4 wsJ6_bitCount_0f7a4 ({ frames := 0, cells := 0, slots := 0, locals := 0 }) (va_Pc [.int p0] (PW (dC, dI) cy sz [])) (va_Qi (fun (r : Int32) (_ : Unit) => r = res) (QW (dC, dI) cy (va_A [] sz) []) (va_A [] sz)) 0 0 (va_A [] sz) := by
  refine Met.ofW (cc := cJ6_bitCount_0f7a4) (maxL := 1) (ret := (some .int)) (by decide) rfl ?_
  intro p e s m args below meth c s₁ B hml hv
  obtain ⟨rfl, hsz, hP, hK, hD0, hN⟩ := hv
  have hx := B.exec
  have hb := B.bytes
  have hr := B.returns
  have hts := atoms_spec (ws := wsJ6_bitCount_0f7a4) B.pre
  have hown : s.vm.findClass RJ6 = some m.cls := findClass_of_methodNamed B.named
  have hlocks := B.notSynchronized
  subst hsz
  have hD := hD0.self (sz := s.heap.size)
  clear hD0
  generalize hAe : va_A [] s.heap.size = A at hD ⊢
  have hA : ∀ q : Nat, s.heap.size ≤ q → A q := fun q h => by rw [← hAe]; exact Or.inr h
  have hS : va_S A s.heap s.heap [] := va_S.rf
  have hl := lv_entry ([.int p0]) (n := 1) (Nat.le_of_ble_eq_true rfl)
  rw [lg_entry_eq]
  generalize (lg_sl ([.int p0]) ++ List.replicate (1 - (lg_sl ([.int p0])).length) Slot.unset).toArray = ls at hl ⊢
  replace hl : lv_has ls 1 [(0, .int p0)] := hl
  replace hP : va_P (dC, dI) vwCl [] s.heap := hP
  obtain ⟨locs, hlocs⟩ : ∃ lc : List Loc, lc = [] := ⟨_, rfl⟩
  rw [← hlocs] at hS ⊢
  obtain ⟨H, hH⟩ : ∃ H : Heap, H = s.heap := ⟨_, rfl⟩
  have hP2 := hP; rw [← hH] at hP2
  have hS2 : va_S A s.heap H locs := by rw [hH]; exact hS
  suffices hgo : W p l e (headSpec wsJ6_bitCount_0f7a4 ({ frames := 0, cells := 0, slots := 0, locals := 0 })).room s m (([.int p0] : List Value).toArray) below meth c H locs 0 0 (MQ below (va_Qi (fun (r : Int32) (_ : Unit) => r = res) (QW (dC, dI) cy A []) A) (([.int p0] : List Value).toArray) s 0 0 A) (F0 m 0 ls []) by rw [hH] at hgo; exact hgo
  replace hP := hP2
  replace hS := hS2
  clear hP2 hS2
  unfold fJ6_bitCount_0f7a4 at h
  refine lv_iload_n hx hb dJ6_bitCount_0f7a4_0 rfl (lv_at hl 0 rfl) ?_
  refine lv_iload_n hx hb dJ6_bitCount_0f7a4_1 rfl (lv_at hl 0 rfl) ?_
  refine lv_iconst (v := (1 : Int32)) hx hb dJ6_bitCount_0f7a4_2 (by decide) ?_
  refine lv_iushr (v := (p0.toUInt32 >>> ((1 : Int32).toUInt32 &&& Int32.toUInt32 31)).toInt32) hx hb dJ6_bitCount_0f7a4_3 rfl ?_
  refine lv_ldcw (v := (1431655765 : Int32)) hx hb hown (hts (.constant RJ6 265 (1431655765)) (by decide +kernel)) dJ6_bitCount_0f7a4_4 ?_
  refine lv_iand hx hb dJ6_bitCount_0f7a4_7 ?_
  refine lv_isub hx hb dJ6_bitCount_0f7a4_8 ?_
  refine lv_istore_n (lv' := [(0, .int (p0 - (((p0.toUInt32 >>> ((1 : Int32).toUInt32 &&& Int32.toUInt32 31)).toInt32) &&& (1431655765 : Int32))))]) hx hb dJ6_bitCount_0f7a4_9 rfl hl (by decide) rfl (fun ls hl => ?_)
  refine lv_iload_n hx hb dJ6_bitCount_0f7a4_10 rfl (lv_at hl 0 rfl) ?_
  refine lv_ldcw (v := (858993459 : Int32)) hx hb hown (hts (.constant RJ6 266 (858993459)) (by decide +kernel)) dJ6_bitCount_0f7a4_11 ?_
  refine lv_iand hx hb dJ6_bitCount_0f7a4_14 ?_
  refine lv_iload_n hx hb dJ6_bitCount_0f7a4_15 rfl (lv_at hl 0 rfl) ?_
  refine lv_iconst (v := (2 : Int32)) hx hb dJ6_bitCount_0f7a4_16 (by decide) ?_
  refine lv_iushr (v := ((p0 - (((p0.toUInt32 >>> ((1 : Int32).toUInt32 &&& Int32.toUInt32 31)).toInt32) &&& (1431655765 : Int32))).toUInt32 >>> ((2 : Int32).toUInt32 &&& Int32.toUInt32 31)).toInt32) hx hb dJ6_bitCount_0f7a4_17 rfl ?_
  refine lv_ldcw (v := (858993459 : Int32)) hx hb hown (hts (.constant RJ6 266 (858993459)) (by decide +kernel)) dJ6_bitCount_0f7a4_18 ?_
  refine lv_iand hx hb dJ6_bitCount_0f7a4_21 ?_
  refine lv_iadd hx hb dJ6_bitCount_0f7a4_22 ?_
  refine lv_istore_n (lv' := [(0, .int (((p0 - (((p0.toUInt32 >>> ((1 : Int32).toUInt32 &&& Int32.toUInt32 31)).toInt32) &&& (1431655765 : Int32))) &&& (858993459 : Int32)) + ((((p0 - (((p0.toUInt32 >>> ((1 : Int32).toUInt32 &&& Int32.toUInt32 31)).toInt32) &&& (1431655765 : Int32))).toUInt32 >>> ((2 : Int32).toUInt32 &&& Int32.toUInt32 31)).toInt32) &&& (858993459 : Int32))))]) hx hb dJ6_bitCount_0f7a4_23 rfl hl (by decide) rfl (fun ls hl => ?_)
  refine lv_iload_n hx hb dJ6_bitCount_0f7a4_24 rfl (lv_at hl 0 rfl) ?_
  refine lv_iload_n hx hb dJ6_bitCount_0f7a4_25 rfl (lv_at hl 0 rfl) ?_
  refine lv_iconst (v := (4 : Int32)) hx hb dJ6_bitCount_0f7a4_26 (by decide) ?_
  refine lv_iushr (v := ((((p0 - (((p0.toUInt32 >>> ((1 : Int32).toUInt32 &&& Int32.toUInt32 31)).toInt32) &&& (1431655765 : Int32))) &&& (858993459 : Int32)) + ((((p0 - (((p0.toUInt32 >>> ((1 : Int32).toUInt32 &&& Int32.toUInt32 31)).toInt32) &&& (1431655765 : Int32))).toUInt32 >>> ((2 : Int32).toUInt32 &&& Int32.toUInt32 31)).toInt32) &&& (858993459 : Int32))).toUInt32 >>> ((4 : Int32).toUInt32 &&& Int32.toUInt32 31)).toInt32) hx hb dJ6_bitCount_0f7a4_27 rfl ?_
  refine lv_iadd hx hb dJ6_bitCount_0f7a4_28 ?_
  refine lv_ldcw (v := (252645135 : Int32)) hx hb hown (hts (.constant RJ6 267 (252645135)) (by decide +kernel)) dJ6_bitCount_0f7a4_29 ?_
  refine lv_iand hx hb dJ6_bitCount_0f7a4_32 ?_
  refine lv_istore_n (lv' := [(0, .int (((((p0 - (((p0.toUInt32 >>> ((1 : Int32).toUInt32 &&& Int32.toUInt32 31)).toInt32) &&& (1431655765 : Int32))) &&& (858993459 : Int32)) + ((((p0 - (((p0.toUInt32 >>> ((1 : Int32).toUInt32 &&& Int32.toUInt32 31)).toInt32) &&& (1431655765 : Int32))).toUInt32 >>> ((2 : Int32).toUInt32 &&& Int32.toUInt32 31)).toInt32) &&& (858993459 : Int32))) + (((((p0 - (((p0.toUInt32 >>> ((1 : Int32).toUInt32 &&& Int32.toUInt32 31)).toInt32) &&& (1431655765 : Int32))) &&& (858993459 : Int32)) + ((((p0 - (((p0.toUInt32 >>> ((1 : Int32).toUInt32 &&& Int32.toUInt32 31)).toInt32) &&& (1431655765 : Int32))).toUInt32 >>> ((2 : Int32).toUInt32 &&& Int32.toUInt32 31)).toInt32) &&& (858993459 : Int32))).toUInt32 >>> ((4 : Int32).toUInt32 &&& Int32.toUInt32 31)).toInt32)) &&& (252645135 : Int32)))]) hx hb dJ6_bitCount_0f7a4_33 rfl hl (by decide) rfl (fun ls hl => ?_)
  refine lv_iload_n hx hb dJ6_bitCount_0f7a4_34 rfl (lv_at hl 0 rfl) ?_
  refine lv_iload_n hx hb dJ6_bitCount_0f7a4_35 rfl (lv_at hl 0 rfl) ?_
  refine lv_bipush (v := (8 : Int32)) hx hb dJ6_bitCount_0f7a4_36 (by decide) ?_
  refine lv_iushr (v := ((((((p0 - (((p0.toUInt32 >>> ((1 : Int32).toUInt32 &&& Int32.toUInt32 31)).toInt32) &&& (1431655765 : Int32))) &&& (858993459 : Int32)) + ((((p0 - (((p0.toUInt32 >>> ((1 : Int32).toUInt32 &&& Int32.toUInt32 31)).toInt32) &&& (1431655765 : Int32))).toUInt32 >>> ((2 : Int32).toUInt32 &&& Int32.toUInt32 31)).toInt32) &&& (858993459 : Int32))) + (((((p0 - (((p0.toUInt32 >>> ((1 : Int32).toUInt32 &&& Int32.toUInt32 31)).toInt32) &&& (1431655765 : Int32))) &&& (858993459 : Int32)) + ((((p0 - (((p0.toUInt32 >>> ((1 : Int32).toUInt32 &&& Int32.toUInt32 31)).toInt32) &&& (1431655765 : Int32))).toUInt32 >>> ((2 : Int32).toUInt32 &&& Int32.toUInt32 31)).toInt32) &&& (858993459 : Int32))).toUInt32 >>> ((4 : Int32).toUInt32 &&& Int32.toUInt32 31)).toInt32)) &&& (252645135 : Int32)).toUInt32 >>> ((8 : Int32).toUInt32 &&& Int32.toUInt32 31)).toInt32) hx hb dJ6_bitCount_0f7a4_38 rfl ?_
  refine lv_iadd hx hb dJ6_bitCount_0f7a4_39 ?_
  refine lv_istore_n (lv' := [(0, .int ((((((p0 - (((p0.toUInt32 >>> ((1 : Int32).toUInt32 &&& Int32.toUInt32 31)).toInt32) &&& (1431655765 : Int32))) &&& (858993459 : Int32)) + ((((p0 - (((p0.toUInt32 >>> ((1 : Int32).toUInt32 &&& Int32.toUInt32 31)).toInt32) &&& (1431655765 : Int32))).toUInt32 >>> ((2 : Int32).toUInt32 &&& Int32.toUInt32 31)).toInt32) &&& (858993459 : Int32))) + (((((p0 - (((p0.toUInt32 >>> ((1 : Int32).toUInt32 &&& Int32.toUInt32 31)).toInt32) &&& (1431655765 : Int32))) &&& (858993459 : Int32)) + ((((p0 - (((p0.toUInt32 >>> ((1 : Int32).toUInt32 &&& Int32.toUInt32 31)).toInt32) &&& (1431655765 : Int32))).toUInt32 >>> ((2 : Int32).toUInt32 &&& Int32.toUInt32 31)).toInt32) &&& (858993459 : Int32))).toUInt32 >>> ((4 : Int32).toUInt32 &&& Int32.toUInt32 31)).toInt32)) &&& (252645135 : Int32)) + (((((((p0 - (((p0.toUInt32 >>> ((1 : Int32).toUInt32 &&& Int32.toUInt32 31)).toInt32) &&& (1431655765 : Int32))) &&& (858993459 : Int32)) + ((((p0 - (((p0.toUInt32 >>> ((1 : Int32).toUInt32 &&& Int32.toUInt32 31)).toInt32) &&& (1431655765 : Int32))).toUInt32 >>> ((2 : Int32).toUInt32 &&& Int32.toUInt32 31)).toInt32) &&& (858993459 : Int32))) + (((((p0 - (((p0.toUInt32 >>> ((1 : Int32).toUInt32 &&& Int32.toUInt32 31)).toInt32) &&& (1431655765 : Int32))) &&& (858993459 : Int32)) + ((((p0 - (((p0.toUInt32 >>> ((1 : Int32).toUInt32 &&& Int32.toUInt32 31)).toInt32) &&& (1431655765 : Int32))).toUInt32 >>> ((2 : Int32).toUInt32 &&& Int32.toUInt32 31)).toInt32) &&& (858993459 : Int32))).toUInt32 >>> ((4 : Int32).toUInt32 &&& Int32.toUInt32 31)).toInt32)) &&& (252645135 : Int32)).toUInt32 >>> ((8 : Int32).toUInt32 &&& Int32.toUInt32 31)).toInt32)))]) hx hb dJ6_bitCount_0f7a4_40 rfl hl (by decide) rfl (fun ls hl => ?_)
  refine lv_iload_n hx hb dJ6_bitCount_0f7a4_41 rfl (lv_at hl 0 rfl) ?_
  refine lv_iload_n hx hb dJ6_bitCount_0f7a4_42 rfl (lv_at hl 0 rfl) ?_
  refine lv_bipush (v := (16 : Int32)) hx hb dJ6_bitCount_0f7a4_43 (by decide) ?_
  refine lv_iushr (v := (((((((p0 - (((p0.toUInt32 >>> ((1 : Int32).toUInt32 &&& Int32.toUInt32 31)).toInt32) &&& (1431655765 : Int32))) &&& (858993459 : Int32)) + ((((p0 - (((p0.toUInt32 >>> ((1 : Int32).toUInt32 &&& Int32.toUInt32 31)).toInt32) &&& (1431655765 : Int32))).toUInt32 >>> ((2 : Int32).toUInt32 &&& Int32.toUInt32 31)).toInt32) &&& (858993459 : Int32))) + (((((p0 - (((p0.toUInt32 >>> ((1 : Int32).toUInt32 &&& Int32.toUInt32 31)).toInt32) &&& (1431655765 : Int32))) &&& (858993459 : Int32)) + ((((p0 - (((p0.toUInt32 >>> ((1 : Int32).toUInt32 &&& Int32.toUInt32 31)).toInt32) &&& (1431655765 : Int32))).toUInt32 >>> ((2 : Int32).toUInt32 &&& Int32.toUInt32 31)).toInt32) &&& (858993459 : Int32))).toUInt32 >>> ((4 : Int32).toUInt32 &&& Int32.toUInt32 31)).toInt32)) &&& (252645135 : Int32)) + (((((((p0 - (((p0.toUInt32 >>> ((1 : Int32).toUInt32 &&& Int32.toUInt32 31)).toInt32) &&& (1431655765 : Int32))) &&& (858993459 : Int32)) + ((((p0 - (((p0.toUInt32 >>> ((1 : Int32).toUInt32 &&& Int32.toUInt32 31)).toInt32) &&& (1431655765 : Int32))).toUInt32 >>> ((2 : Int32).toUInt32 &&& Int32.toUInt32 31)).toInt32) &&& (858993459 : Int32))) + (((((p0 - (((p0.toUInt32 >>> ((1 : Int32).toUInt32 &&& Int32.toUInt32 31)).toInt32) &&& (1431655765 : Int32))) &&& (858993459 : Int32)) + ((((p0 - (((p0.toUInt32 >>> ((1 : Int32).toUInt32 &&& Int32.toUInt32 31)).toInt32) &&& (1431655765 : Int32))).toUInt32 >>> ((2 : Int32).toUInt32 &&& Int32.toUInt32 31)).toInt32) &&& (858993459 : Int32))).toUInt32 >>> ((4 : Int32).toUInt32 &&& Int32.toUInt32 31)).toInt32)) &&& (252645135 : Int32)).toUInt32 >>> ((8 : Int32).toUInt32 &&& Int32.toUInt32 31)).toInt32)).toUInt32 >>> ((16 : Int32).toUInt32 &&& Int32.toUInt32 31)).toInt32) hx hb dJ6_bitCount_0f7a4_45 rfl ?_
  refine lv_iadd hx hb dJ6_bitCount_0f7a4_46 ?_
  refine lv_istore_n (lv' := [(0, .int (((((((p0 - (((p0.toUInt32 >>> ((1 : Int32).toUInt32 &&& Int32.toUInt32 31)).toInt32) &&& (1431655765 : Int32))) &&& (858993459 : Int32)) + ((((p0 - (((p0.toUInt32 >>> ((1 : Int32).toUInt32 &&& Int32.toUInt32 31)).toInt32) &&& (1431655765 : Int32))).toUInt32 >>> ((2 : Int32).toUInt32 &&& Int32.toUInt32 31)).toInt32) &&& (858993459 : Int32))) + (((((p0 - (((p0.toUInt32 >>> ((1 : Int32).toUInt32 &&& Int32.toUInt32 31)).toInt32) &&& (1431655765 : Int32))) &&& (858993459 : Int32)) + ((((p0 - (((p0.toUInt32 >>> ((1 : Int32).toUInt32 &&& Int32.toUInt32 31)).toInt32) &&& (1431655765 : Int32))).toUInt32 >>> ((2 : Int32).toUInt32 &&& Int32.toUInt32 31)).toInt32) &&& (858993459 : Int32))).toUInt32 >>> ((4 : Int32).toUInt32 &&& Int32.toUInt32 31)).toInt32)) &&& (252645135 : Int32)) + (((((((p0 - (((p0.toUInt32 >>> ((1 : Int32).toUInt32 &&& Int32.toUInt32 31)).toInt32) &&& (1431655765 : Int32))) &&& (858993459 : Int32)) + ((((p0 - (((p0.toUInt32 >>> ((1 : Int32).toUInt32 &&& Int32.toUInt32 31)).toInt32) &&& (1431655765 : Int32))).toUInt32 >>> ((2 : Int32).toUInt32 &&& Int32.toUInt32 31)).toInt32) &&& (858993459 : Int32))) + (((((p0 - (((p0.toUInt32 >>> ((1 : Int32).toUInt32 &&& Int32.toUInt32 31)).toInt32) &&& (1431655765 : Int32))) &&& (858993459 : Int32)) + ((((p0 - (((p0.toUInt32 >>> ((1 : Int32).toUInt32 &&& Int32.toUInt32 31)).toInt32) &&& (1431655765 : Int32))).toUInt32 >>> ((2 : Int32).toUInt32 &&& Int32.toUInt32 31)).toInt32) &&& (858993459 : Int32))).toUInt32 >>> ((4 : Int32).toUInt32 &&& Int32.toUInt32 31)).toInt32)) &&& (252645135 : Int32)).toUInt32 >>> ((8 : Int32).toUInt32 &&& Int32.toUInt32 31)).toInt32)) + ((((((((p0 - (((p0.toUInt32 >>> ((1 : Int32).toUInt32 &&& Int32.toUInt32 31)).toInt32) &&& (1431655765 : Int32))) &&& (858993459 : Int32)) + ((((p0 - (((p0.toUInt32 >>> ((1 : Int32).toUInt32 &&& Int32.toUInt32 31)).toInt32) &&& (1431655765 : Int32))).toUInt32 >>> ((2 : Int32).toUInt32 &&& Int32.toUInt32 31)).toInt32) &&& (858993459 : Int32))) + (((((p0 - (((p0.toUInt32 >>> ((1 : Int32).toUInt32 &&& Int32.toUInt32 31)).toInt32) &&& (1431655765 : Int32))) &&& (858993459 : Int32)) + ((((p0 - (((p0.toUInt32 >>> ((1 : Int32).toUInt32 &&& Int32.toUInt32 31)).toInt32) &&& (1431655765 : Int32))).toUInt32 >>> ((2 : Int32).toUInt32 &&& Int32.toUInt32 31)).toInt32) &&& (858993459 : Int32))).toUInt32 >>> ((4 : Int32).toUInt32 &&& Int32.toUInt32 31)).toInt32)) &&& (252645135 : Int32)) + (((((((p0 - (((p0.toUInt32 >>> ((1 : Int32).toUInt32 &&& Int32.toUInt32 31)).toInt32) &&& (1431655765 : Int32))) &&& (858993459 : Int32)) + ((((p0 - (((p0.toUInt32 >>> ((1 : Int32).toUInt32 &&& Int32.toUInt32 31)).toInt32) &&& (1431655765 : Int32))).toUInt32 >>> ((2 : Int32).toUInt32 &&& Int32.toUInt32 31)).toInt32) &&& (858993459 : Int32))) + (((((p0 - (((p0.toUInt32 >>> ((1 : Int32).toUInt32 &&& Int32.toUInt32 31)).toInt32) &&& (1431655765 : Int32))) &&& (858993459 : Int32)) + ((((p0 - (((p0.toUInt32 >>> ((1 : Int32).toUInt32 &&& Int32.toUInt32 31)).toInt32) &&& (1431655765 : Int32))).toUInt32 >>> ((2 : Int32).toUInt32 &&& Int32.toUInt32 31)).toInt32) &&& (858993459 : Int32))).toUInt32 >>> ((4 : Int32).toUInt32 &&& Int32.toUInt32 31)).toInt32)) &&& (252645135 : Int32)).toUInt32 >>> ((8 : Int32).toUInt32 &&& Int32.toUInt32 31)).toInt32)).toUInt32 >>> ((16 : Int32).toUInt32 &&& Int32.toUInt32 31)).toInt32)))]) hx hb dJ6_bitCount_0f7a4_47 rfl hl (by decide) rfl (fun ls hl => ?_)
  refine lv_iload_n hx hb dJ6_bitCount_0f7a4_48 rfl (lv_at hl 0 rfl) ?_
  refine lv_bipush (v := (63 : Int32)) hx hb dJ6_bitCount_0f7a4_49 (by decide) ?_
  refine lv_iand hx hb dJ6_bitCount_0f7a4_51 ?_
  have h0 := Option.some.inj h
  subst h0
  exact W.iret hx hb hr (fun t ht hW => ⟨⟨_, (), rfl, rfl, QW_mk hP hK hD ht hW⟩, hS.F ht⟩) hS.2.2 dJ6_bitCount_0f7a4_52

noncomputable def fX3_at (vxb : Int32) (p0 : Int32) : Option (Int32) := some ((vxb >>> (p0 &&& 31)) &&& (1 : Int32))
set_option maxHeartbeats 4000000 in
set_option maxRecDepth 100000 in
theorem c_X3_at (l : Launch) (dC : Nat → ClassId) (dI : Nat → Nat → Nat) (cy : ClassId) (ax : Nat) (sz : Nat) (vxb : Int32) (p0 : Int32) (res : Int32) (h : fX3_at vxb p0 = some res) : Met l yX3_at wsX3_at ({ frames := 0, cells := 0, slots := 0, locals := 0 }) (va_Pc [.ref ax, .int p0] (PW (dC, dI) cy sz [(ax, .inr (3, [.int vxb]))])) (va_Qi (fun (r : Int32) (_ : Unit) => r = res) (QW (dC, dI) cy (va_A [(ax, .inr (3, [.int vxb]))] sz) [(ax, .inr (3, [.int vxb]))]) (va_A [(ax, .inr (3, [.int vxb]))] sz)) 0 0 (va_A [(ax, .inr (3, [.int vxb]))] sz) := by
  refine Met.ofW (cc := cX3_at) (maxL := 2) (ret := (some .int)) (by decide) rfl ?_
  intro p e s m args below meth c s₁ B hml hv
  obtain ⟨rfl, hsz, hP, hK, hD0, hN⟩ := hv
  have hx := B.exec
  have hb := B.bytes
  have hr := B.returns
  have hts := atoms_spec (ws := wsX3_at) B.pre
  have hown : s.vm.findClass RX3 = some m.cls := findClass_of_methodNamed B.named
  have hlocks := B.notSynchronized
  subst hsz
  have hD := hD0.self (sz := s.heap.size)
  clear hD0
  generalize hAe : va_A [(ax, .inr (3, [.int vxb]))] s.heap.size = A at hD ⊢
  have hA : ∀ q : Nat, s.heap.size ≤ q → A q := fun q h => by rw [← hAe]; exact Or.inr h
  have hS : va_S A s.heap s.heap [] := va_S.rf
  have hl := lv_entry ([.ref ax, .int p0]) (n := 2) (Nat.le_of_ble_eq_true rfl)
  rw [lg_entry_eq]
  generalize (lg_sl ([.ref ax, .int p0]) ++ List.replicate (2 - (lg_sl ([.ref ax, .int p0])).length) Slot.unset).toArray = ls at hl ⊢
  replace hl : lv_has ls 2 [(0, .ref ax), (1, .int p0)] := hl
  replace hP : va_P (dC, dI) vwCl [(ax, .inr (3, [.int vxb]))] s.heap := hP
  obtain ⟨locs, hlocs⟩ : ∃ lc : List Loc, lc = [] := ⟨_, rfl⟩
  rw [← hlocs] at hS ⊢
  obtain ⟨H, hH⟩ : ∃ H : Heap, H = s.heap := ⟨_, rfl⟩
  have hP2 := hP; rw [← hH] at hP2
  have hS2 : va_S A s.heap H locs := by rw [hH]; exact hS
  suffices hgo : W p l e (headSpec wsX3_at ({ frames := 0, cells := 0, slots := 0, locals := 0 })).room s m (([.ref ax, .int p0] : List Value).toArray) below meth c H locs 0 0 (MQ below (va_Qi (fun (r : Int32) (_ : Unit) => r = res) (QW (dC, dI) cy A [(ax, .inr (3, [.int vxb]))]) A) (([.ref ax, .int p0] : List Value).toArray) s 0 0 A) (F0 m 0 ls []) by rw [hH] at hgo; exact hgo
  replace hP := hP2
  replace hS := hS2
  clear hP2 hS2
  have hin_X3 : ∀ w ∈ wsX30, w ∈ wsX3_at := by decide +kernel
  have hf_9 := hts (.fieldLink RX3 9 "FewLooks$Table" "bits" "I") (by decide +kernel)
  unfold fX3_at at h
  refine lv_aload_n hx hb dX3_at_0 rfl (lv_at hl 0 rfl) ?_
  refine va_get (D := (dC, dI)) (ci := 3) (v := .int vxb) (C := RX3) (T := TX3) (N := 1) hx hb hts hin_X3 hown hK hP 0 rfl rfl 0 (by decide) (hf_9) (fun _ h9 => h9) rfl dX3_at_1 ?_
  refine lv_iload_n hx hb dX3_at_4 rfl (lv_at hl 1 rfl) ?_
  refine lv_ishr hx hb dX3_at_5 ?_
  refine lv_iconst (v := (1 : Int32)) hx hb dX3_at_6 (by decide) ?_
  refine lv_iand hx hb dX3_at_7 ?_
  have h0 := Option.some.inj h
  subst h0
  exact W.iret hx hb hr (fun t ht hW => ⟨⟨_, (), rfl, rfl, QW_mk hP hK hD ht hW⟩, hS.F ht⟩) hS.2.2 dX3_at_8

noncomputable def fX3_put (vxb : Int32) (p0 : Int32) (p1 : Int32) : Option (Int32) := some ((vxb &&& (((1 : Int32) <<< (p0 &&& 31)) ^^^ (-1 : Int32))) ||| (p1 <<< (p0 &&& 31)))
set_option maxHeartbeats 4000000 in
set_option maxRecDepth 100000 in
theorem c_X3_put (l : Launch) (dC : Nat → ClassId) (dI : Nat → Nat → Nat) (cy : ClassId) (ax : Nat) (sz : Nat) (vxb : Int32) (p0 : Int32) (p1 : Int32) (res : Int32) (h : fX3_put vxb p0 p1 = some res) : Met l yX3_put wsX3_put ({ frames := 0, cells := 0, slots := 0, locals := 0 }) (va_Pc [.ref ax, .int p0, .int p1] (PW (dC, dI) cy sz [(ax, .inr (3, [.int vxb]))])) (va_Qv (fun (_ : Unit) => True) (QW (dC, dI) cy (va_A [(ax, .inr (3, [.int vxb]))] sz) [(ax, .inr (3, [.int res]))]) (va_A [(ax, .inr (3, [.int vxb]))] sz)) 0 0 (va_A [(ax, .inr (3, [.int vxb]))] sz) := by
  refine Met.ofW (cc := cX3_put) (maxL := 3) (ret := none) (by decide) rfl ?_
  intro p e s m args below meth c s₁ B hml hv
  obtain ⟨rfl, hsz, hP, hK, hD0, hN⟩ := hv
  have hx := B.exec
  have hb := B.bytes
  have hr := B.returns
  have hts := atoms_spec (ws := wsX3_put) B.pre
  have hown : s.vm.findClass RX3 = some m.cls := findClass_of_methodNamed B.named
  have hlocks := B.notSynchronized
  subst hsz
  have hD := hD0.self (sz := s.heap.size)
  clear hD0
  generalize hAe : va_A [(ax, .inr (3, [.int vxb]))] s.heap.size = A at hD ⊢
  have hA : ∀ q : Nat, s.heap.size ≤ q → A q := fun q h => by rw [← hAe]; exact Or.inr h
  have hS : va_S A s.heap s.heap [] := va_S.rf
  have hl := lv_entry ([.ref ax, .int p0, .int p1]) (n := 3) (Nat.le_of_ble_eq_true rfl)
  rw [lg_entry_eq]
  generalize (lg_sl ([.ref ax, .int p0, .int p1]) ++ List.replicate (3 - (lg_sl ([.ref ax, .int p0, .int p1])).length) Slot.unset).toArray = ls at hl ⊢
  replace hl : lv_has ls 3 [(0, .ref ax), (1, .int p0), (2, .int p1)] := hl
  replace hP : va_P (dC, dI) vwCl [(ax, .inr (3, [.int vxb]))] s.heap := hP
  obtain ⟨locs, hlocs⟩ : ∃ lc : List Loc, lc = [] := ⟨_, rfl⟩
  rw [← hlocs] at hS ⊢
  obtain ⟨H, hH⟩ : ∃ H : Heap, H = s.heap := ⟨_, rfl⟩
  have hP2 := hP; rw [← hH] at hP2
  have hS2 : va_S A s.heap H locs := by rw [hH]; exact hS
  suffices hgo : W p l e (headSpec wsX3_put ({ frames := 0, cells := 0, slots := 0, locals := 0 })).room s m (([.ref ax, .int p0, .int p1] : List Value).toArray) below meth c H locs 0 0 (MQ below (va_Qv (fun (_ : Unit) => True) (QW (dC, dI) cy A [(ax, .inr (3, [.int res]))]) A) (([.ref ax, .int p0, .int p1] : List Value).toArray) s 0 0 A) (F0 m 0 ls []) by rw [hH] at hgo; exact hgo
  replace hP := hP2
  replace hS := hS2
  clear hP2 hS2
  have hin_X3 : ∀ w ∈ wsX30, w ∈ wsX3_put := by decide +kernel
  have hf_9 := hts (.fieldLink RX3 9 "FewLooks$Table" "bits" "I") (by decide +kernel)
  unfold fX3_put at h
  refine lv_aload_n hx hb dX3_put_0 rfl (lv_at hl 0 rfl) ?_
  refine lv_aload_n hx hb dX3_put_1 rfl (lv_at hl 0 rfl) ?_
  refine va_get (D := (dC, dI)) (ci := 3) (v := .int vxb) (C := RX3) (T := TX3) (N := 1) hx hb hts hin_X3 hown hK hP 0 rfl rfl 0 (by decide) (hf_9) (fun _ h9 => h9) rfl dX3_put_2 ?_
  refine lv_iconst (v := (1 : Int32)) hx hb dX3_put_5 (by decide) ?_
  refine lv_iload_n hx hb dX3_put_6 rfl (lv_at hl 1 rfl) ?_
  refine lv_ishl hx hb dX3_put_7 ?_
  refine lv_iconst (v := (-1 : Int32)) hx hb dX3_put_8 (by decide) ?_
  refine lv_ixor hx hb dX3_put_9 ?_
  refine lv_iand hx hb dX3_put_10 ?_
  refine lv_iload_n hx hb dX3_put_11 rfl (lv_at hl 2 rfl) ?_
  refine lv_iload_n hx hb dX3_put_12 rfl (lv_at hl 1 rfl) ?_
  refine lv_ishl hx hb dX3_put_13 ?_
  refine lv_ior hx hb dX3_put_14 ?_
  refine va_put (D := (dC, dI)) (ci := 3) (v := .int ((vxb &&& (((1 : Int32) <<< (p0 &&& 31)) ^^^ (-1 : Int32))) ||| (p1 <<< (p0 &&& 31)))) (ty := .int) (C := RX3) (T := TX3) (N := 1) hx hb hts hin_X3 tyX3 tyX3_ok nmX3 hown hK hP hD hS 0 rfl rfl 0 (by decide) (hf_9) (fun _ h9 => h9) rfl (by decide +kernel) rfl rfl (Nat.le_of_ble_eq_true rfl) dX3_put_15 (fun H locs hP hD hS => ?_)
  replace hP : va_P (dC, dI) vwCl [(ax, .inr (3, [.int ((vxb &&& (((1 : Int32) <<< (p0 &&& 31)) ^^^ (-1 : Int32))) ||| (p1 <<< (p0 &&& 31)))]))] H := hP
  replace hD : va_D A [(ax, .inr (3, [.int ((vxb &&& (((1 : Int32) <<< (p0 &&& 31)) ^^^ (-1 : Int32))) ||| (p1 <<< (p0 &&& 31)))]))] := hD
  have h0 := Option.some.inj h
  subst h0
  exact W.vret hx hb hr (fun t ht hW => ⟨⟨(), rfl, trivial, QW_mk hP hK hD ht hW⟩, hS.F ht⟩) hS.2.2 dX3_put_18

noncomputable def fX3_parities_L4 (n : Nat) (l0 : Int32) (l1 : Int32) (l2 : Int32) : Option (Int32 × Int32) := match n with
  | 0 => none
  | n + 1 => if (8 : Int32) ≤ l2 then (some (l1, l2)) else (bd (fJ6_bitCount_0f7a4 (l0 &&& l2)) fun r1 => fX3_parities_L4 n l0 (l1 ||| ((r1 &&& (1 : Int32)) <<< (l2 &&& 31))) (l2 + (1 : Int32)))
theorem fX3_parities_L4_0 (l0 : Int32) (l1 : Int32) (l2 : Int32) : fX3_parities_L4 0 l0 l1 l2 = none := rfl
theorem fX3_parities_L4_s (n : Nat) (l0 : Int32) (l1 : Int32) (l2 : Int32) : fX3_parities_L4 (n + 1) l0 l1 l2 = if (8 : Int32) ≤ l2 then (some (l1, l2)) else (bd (fJ6_bitCount_0f7a4 (l0 &&& l2)) fun r1 => fX3_parities_L4 n l0 (l1 ||| ((r1 &&& (1 : Int32)) <<< (l2 &&& 31))) (l2 + (1 : Int32))) := rfl
noncomputable def fX3_parities  (p0 : Int32) : Option (Int32) := bd (fX3_parities_L4 FU p0 (0 : Int32) (0 : Int32)) fun q4 => some q4.1
set_option maxHeartbeats 4000000 in
set_option maxRecDepth 100000 in
theorem c_X3_parities (l : Launch) (dC : Nat → ClassId) (dI : Nat → Nat → Nat) (cy : ClassId)  (sz : Nat)  (p0 : Int32) (res : Int32) (h : fX3_parities p0 = some res) : Met l yX3_parities wsX3_parities ({ frames := 1, cells := 0, slots := 0, locals := 20 }) (va_Pc [.int p0] (PW (dC, dI) cy sz [])) (va_Qi (fun (r : Int32) (_ : Unit) => r = res) (QW (dC, dI) cy (va_A [] sz) []) (va_A [] sz)) 0 0 (va_A [] sz) := by
  refine Met.ofW (cc := cX3_parities) (maxL := 3) (ret := (some .int)) (by decide) rfl ?_
  intro p e s m args below meth c s₁ B hml hv
  obtain ⟨rfl, hsz, hP, hK, hD0, hN⟩ := hv
  have hx := B.exec
  have hb := B.bytes
  have hr := B.returns
  have hts := atoms_spec (ws := wsX3_parities) B.pre
  have hown : s.vm.findClass RX3 = some m.cls := findClass_of_methodNamed B.named
  have hlocks := B.notSynchronized
  subst hsz
  have hD := hD0.self (sz := s.heap.size)
  clear hD0
  generalize hAe : va_A [] s.heap.size = A at hD ⊢
  have hA : ∀ q : Nat, s.heap.size ≤ q → A q := fun q h => by rw [← hAe]; exact Or.inr h
  have hS : va_S A s.heap s.heap [] := va_S.rf
  have hl := lv_entry ([.int p0]) (n := 3) (Nat.le_of_ble_eq_true rfl)
  rw [lg_entry_eq]
  generalize (lg_sl ([.int p0]) ++ List.replicate (3 - (lg_sl ([.int p0])).length) Slot.unset).toArray = ls at hl ⊢
  replace hl : lv_has ls 3 [(0, .int p0)] := hl
  replace hP : va_P (dC, dI) vwCl [] s.heap := hP
  obtain ⟨locs, hlocs⟩ : ∃ lc : List Loc, lc = [] := ⟨_, rfl⟩
  rw [← hlocs] at hS ⊢
  obtain ⟨H, hH⟩ : ∃ H : Heap, H = s.heap := ⟨_, rfl⟩
  have hP2 := hP; rw [← hH] at hP2
  have hS2 : va_S A s.heap H locs := by rw [hH]; exact hS
  suffices hgo : W p l e (headSpec wsX3_parities ({ frames := 1, cells := 0, slots := 0, locals := 20 })).room s m (([.int p0] : List Value).toArray) below meth c H locs 0 0 (MQ below (va_Qi (fun (r : Int32) (_ : Unit) => r = res) (QW (dC, dI) cy A []) A) (([.int p0] : List Value).toArray) s 0 0 A) (F0 m 0 ls []) by rw [hH] at hgo; exact hgo
  replace hP := hP2
  replace hS := hS2
  clear hP2 hS2
  unfold fX3_parities at h
  refine lv_iconst (v := (0 : Int32)) hx hb dX3_parities_0 (by decide) ?_
  refine lv_istore_n (lv' := [(1, .int (0 : Int32)), (0, .int p0)]) hx hb dX3_parities_1 rfl hl (by decide) rfl (fun ls hl => ?_)
  refine lv_iconst (v := (0 : Int32)) hx hb dX3_parities_2 (by decide) ?_
  refine lv_istore_n (lv' := [(2, .int (0 : Int32)), (1, .int (0 : Int32)), (0, .int p0)]) hx hb dX3_parities_3 rfl hl (by decide) rfl (fun ls hl => ?_)
  have L4_2 : ∀ (n : Nat) (l0 : Int32) (l1 : Int32) (l2 : Int32) (rs : (Int32 × Int32)) (H : Heap) (locs : List Loc) (ls : Array Slot), fX3_parities_L4 n l0 l1 l2 = some rs → lv_has ls 3 [(0, .int l0), (1, .int l1), (2, .int l2)] → va_P (dC, dI) vwCl [] H → va_D A [] → va_S A s.heap H locs → (∀ (H : Heap) (locs : List Loc) (ls : Array Slot), lv_has ls 3 [(0, .int l0), (1, .int rs.1), (2, .int rs.2)] → va_P (dC, dI) vwCl [] H → va_D A [] → va_S A s.heap H locs → W p l e (headSpec wsX3_parities ({ frames := 1, cells := 0, slots := 0, locals := 20 })).room s m (([.int p0] : List Value).toArray) below meth c H locs 0 0 (MQ below (va_Qi (fun (r : Int32) (_ : Unit) => r = res) (QW (dC, dI) cy A []) A) (([.int p0] : List Value).toArray) s 0 0 A) (F0 m 29 ls [])) → W p l e (headSpec wsX3_parities ({ frames := 1, cells := 0, slots := 0, locals := 20 })).room s m (([.int p0] : List Value).toArray) below meth c H locs 0 0 (MQ below (va_Qi (fun (r : Int32) (_ : Unit) => r = res) (QW (dC, dI) cy A []) A) (([.int p0] : List Value).toArray) s 0 0 A) (F0 m 4 ls []) := by
    intro n
    induction n with
    | zero =>
      intro l0 l1 l2 rs H locs ls h
      rw [fX3_parities_L4_0] at h
      cases h
    | succ n ih =>
      intro l0 l1 l2 rs H locs ls h hl hP hD hS K
      rw [fX3_parities_L4_s] at h
      refine lv_iload_n hx hb dX3_parities_4 rfl (lv_at hl 2 rfl) ?_
      refine lv_bipush (v := (8 : Int32)) hx hb dX3_parities_5 (by decide) ?_
      refine lv_icmp_ge (tgt := 29) hx hb dX3_parities_7 (by decide) (fun c2 => ?_) (fun c2 => ?_)
      · rw [if_pos c2] at h
        have h0 := Option.some.inj h
        subst h0
        exact K H locs ls (lv_sub hl [0, 1, 2] rfl) hP hD hS
      · rw [if_neg c2] at h
        refine lv_iload_n hx hb dX3_parities_10 rfl (lv_at hl 1 rfl) ?_
        refine lv_iload_n hx hb dX3_parities_11 rfl (lv_at hl 0 rfl) ?_
        refine lv_iload_n hx hb dX3_parities_12 rfl (lv_at hl 2 rfl) ?_
        refine lv_iand hx hb dX3_parities_13 ?_
        obtain ⟨r1, hr1, h⟩ := bd_some h
        have hFc := va_free (wc := []) hD hS hA [] rfl
        refine va_calli (va_runS (As := [.int (l0 &&& l2)]) (rest := [.int l1]) ⟨hx, hb, hml, hown, hts⟩ (c_J6_bitCount_0f7a4 l dC dI cy  H.size  (l0 &&& l2) r1 hr1) (va_cwS 1 hts gX3_parities_J6_bitCount_0f7a4 rfl rfl rfl (by decide +kernel) ⟨Nat.le_of_ble_eq_true rfl, Nat.le_of_ble_eq_true rfl⟩) ⟨PW_fb, PW_pre (hP.sub (ws' := []) [] rfl) hK (hD.sub [] (by decide) rfl) hN⟩ rfl rfl hl.1 rfl (lv_room (Nat.le_of_ble_eq_true rfl)) dX3_parities_14 ⟨Nat.zero_le _, Nat.zero_le _⟩) hS (fun q _ h => hFc q h) hFc (fun rz u t H locs ht hvm hw hB hz1 hk1 hS => ?_)
        obtain ⟨hP, hD⟩ := jn (wr := []) (w1 := []) (ws' := []) hP hD [] [] rfl rfl (by decide) (by decide) hk1 hFc hB ht [] rfl (by decide) rfl
        replace hw := hw.symm
        subst hw
        clear hFc hB hk1 hz1 hvm
        refine lv_iconst (v := (1 : Int32)) hx hb dX3_parities_17 (by decide) ?_
        refine lv_iand hx hb dX3_parities_18 ?_
        refine lv_iload_n hx hb dX3_parities_19 rfl (lv_at hl 2 rfl) ?_
        refine lv_ishl hx hb dX3_parities_20 ?_
        refine lv_ior hx hb dX3_parities_21 ?_
        refine lv_istore_n (lv' := [(1, .int (l1 ||| ((r1 &&& (1 : Int32)) <<< (l2 &&& 31)))), (0, .int l0), (2, .int l2)]) hx hb dX3_parities_22 rfl hl (by decide) rfl (fun ls hl => ?_)
        refine lv_iinc (v := l2 + (1 : Int32)) (lv' := [(2, .int (l2 + (1 : Int32))), (1, .int (l1 ||| ((r1 &&& (1 : Int32)) <<< (l2 &&& 31)))), (0, .int l0)]) hx hb dX3_parities_23 hl (k := 2) rfl rfl (by decide) rfl (fun ls hl => ?_)
        refine lv_goto (tgt := 4) hx hb dX3_parities_26 (by decide) ?_
        exact ih l0 (l1 ||| ((r1 &&& (1 : Int32)) <<< (l2 &&& 31))) (l2 + (1 : Int32)) rs H locs ls h (lv_sub hl [2, 1, 0] rfl) hP hD hS K
  obtain ⟨q4, hq4, h⟩ := bd_some h
  refine L4_2 FU p0 (0 : Int32) (0 : Int32) q4 H locs ls hq4 (lv_sub hl [2, 1, 0] rfl) hP hD hS (fun H locs ls hl hP hD hS => ?_)
  refine lv_iload_n hx hb dX3_parities_29 rfl (lv_at hl 1 rfl) ?_
  have h0 := Option.some.inj h
  subst h0
  exact W.iret hx hb hr (fun t ht hW => ⟨⟨_, (), rfl, rfl, QW_mk hP hK hD ht hW⟩, hS.F ht⟩) hS.2.2 dX3_parities_30

noncomputable def fX3_differing (vxb : Int32) (p0 : Int32) : Option (Int32) := bd (fX3_parities p0) fun r1 => bd (fJ6_bitCount_0f7a4 (vxb ^^^ r1)) fun r2 => some r2
set_option maxHeartbeats 4000000 in
set_option maxRecDepth 100000 in
theorem c_X3_differing (l : Launch) (dC : Nat → ClassId) (dI : Nat → Nat → Nat) (cy : ClassId) (ax : Nat) (sz : Nat) (vxb : Int32) (p0 : Int32) (res : Int32) (h : fX3_differing vxb p0 = some res) : Met l yX3_differing wsX3_differing ({ frames := 2, cells := 0, slots := 0, locals := 42 }) (va_Pc [.ref ax, .int p0] (PW (dC, dI) cy sz [(ax, .inr (3, [.int vxb]))])) (va_Qi (fun (r : Int32) (_ : Unit) => r = res) (QW (dC, dI) cy (va_A [(ax, .inr (3, [.int vxb]))] sz) [(ax, .inr (3, [.int vxb]))]) (va_A [(ax, .inr (3, [.int vxb]))] sz)) 0 0 (va_A [(ax, .inr (3, [.int vxb]))] sz) := by
  refine Met.ofW (cc := cX3_differing) (maxL := 2) (ret := (some .int)) (by decide) rfl ?_
  intro p e s m args below meth c s₁ B hml hv
  obtain ⟨rfl, hsz, hP, hK, hD0, hN⟩ := hv
  have hx := B.exec
  have hb := B.bytes
  have hr := B.returns
  have hts := atoms_spec (ws := wsX3_differing) B.pre
  have hown : s.vm.findClass RX3 = some m.cls := findClass_of_methodNamed B.named
  have hlocks := B.notSynchronized
  subst hsz
  have hD := hD0.self (sz := s.heap.size)
  clear hD0
  generalize hAe : va_A [(ax, .inr (3, [.int vxb]))] s.heap.size = A at hD ⊢
  have hA : ∀ q : Nat, s.heap.size ≤ q → A q := fun q h => by rw [← hAe]; exact Or.inr h
  have hS : va_S A s.heap s.heap [] := va_S.rf
  have hl := lv_entry ([.ref ax, .int p0]) (n := 2) (Nat.le_of_ble_eq_true rfl)
  rw [lg_entry_eq]
  generalize (lg_sl ([.ref ax, .int p0]) ++ List.replicate (2 - (lg_sl ([.ref ax, .int p0])).length) Slot.unset).toArray = ls at hl ⊢
  replace hl : lv_has ls 2 [(0, .ref ax), (1, .int p0)] := hl
  replace hP : va_P (dC, dI) vwCl [(ax, .inr (3, [.int vxb]))] s.heap := hP
  obtain ⟨locs, hlocs⟩ : ∃ lc : List Loc, lc = [] := ⟨_, rfl⟩
  rw [← hlocs] at hS ⊢
  obtain ⟨H, hH⟩ : ∃ H : Heap, H = s.heap := ⟨_, rfl⟩
  have hP2 := hP; rw [← hH] at hP2
  have hS2 : va_S A s.heap H locs := by rw [hH]; exact hS
  suffices hgo : W p l e (headSpec wsX3_differing ({ frames := 2, cells := 0, slots := 0, locals := 42 })).room s m (([.ref ax, .int p0] : List Value).toArray) below meth c H locs 0 0 (MQ below (va_Qi (fun (r : Int32) (_ : Unit) => r = res) (QW (dC, dI) cy A [(ax, .inr (3, [.int vxb]))]) A) (([.ref ax, .int p0] : List Value).toArray) s 0 0 A) (F0 m 0 ls []) by rw [hH] at hgo; exact hgo
  replace hP := hP2
  replace hS := hS2
  clear hP2 hS2
  have hin_X3 : ∀ w ∈ wsX30, w ∈ wsX3_differing := by decide +kernel
  have hf_9 := hts (.fieldLink RX3 9 "FewLooks$Table" "bits" "I") (by decide +kernel)
  unfold fX3_differing at h
  refine lv_aload_n hx hb dX3_differing_0 rfl (lv_at hl 0 rfl) ?_
  refine va_get (D := (dC, dI)) (ci := 3) (v := .int vxb) (C := RX3) (T := TX3) (N := 1) hx hb hts hin_X3 hown hK hP 0 rfl rfl 0 (by decide) (hf_9) (fun _ h9 => h9) rfl dX3_differing_1 ?_
  refine lv_iload_n hx hb dX3_differing_4 rfl (lv_at hl 1 rfl) ?_
  obtain ⟨r1, hr1, h⟩ := bd_some h
  have hFc := va_free (wc := []) hD hS hA [] rfl
  refine va_calli (va_runS (As := [.int p0]) (rest := [.int vxb]) ⟨hx, hb, hml, hown, hts⟩ (c_X3_parities l dC dI cy  H.size  p0 r1 hr1) (va_cwS 1 hts gX3_differing_X3_parities rfl rfl rfl (by decide +kernel) ⟨Nat.le_of_ble_eq_true rfl, Nat.le_of_ble_eq_true rfl⟩) ⟨PW_fb, PW_pre (hP.sub (ws' := []) [] rfl) hK (hD.sub [] (by decide) rfl) hN⟩ rfl rfl hl.1 rfl (lv_room (Nat.le_of_ble_eq_true rfl)) dX3_differing_5 ⟨Nat.zero_le _, Nat.zero_le _⟩) hS (fun q _ h => hFc q h) hFc (fun rz u t H locs ht hvm hw hB hz1 hk1 hS => ?_)
  obtain ⟨hP, hD⟩ := jn (wr := [(ax, .inr (3, [.int vxb]))]) (w1 := []) (ws' := [(ax, .inr (3, [.int vxb]))]) hP hD [] [0] rfl rfl (by decide) (by decide) hk1 hFc hB ht [0] rfl (by decide) rfl
  replace hw := hw.symm
  subst hw
  clear hFc hB hk1 hz1 hvm
  refine lv_ixor hx hb dX3_differing_8 ?_
  obtain ⟨r2, hr2, h⟩ := bd_some h
  have hFc := va_free (wc := []) hD hS hA [] rfl
  refine va_calli (va_runS (As := [.int (vxb ^^^ r1)]) (rest := []) ⟨hx, hb, hml, hown, hts⟩ (c_J6_bitCount_0f7a4 l dC dI cy  H.size  (vxb ^^^ r1) r2 hr2) (va_cwS 1 hts gX3_differing_J6_bitCount_0f7a4 rfl rfl rfl (by decide +kernel) ⟨Nat.le_of_ble_eq_true rfl, Nat.le_of_ble_eq_true rfl⟩) ⟨PW_fb, PW_pre (hP.sub (ws' := []) [] rfl) hK (hD.sub [] (by decide) rfl) hN⟩ rfl rfl hl.1 rfl (lv_room (Nat.le_of_ble_eq_true rfl)) dX3_differing_9 ⟨Nat.zero_le _, Nat.zero_le _⟩) hS (fun q _ h => hFc q h) hFc (fun rz u t H locs ht hvm hw hB hz1 hk1 hS => ?_)
  obtain ⟨hP, hD⟩ := jn (wr := [(ax, .inr (3, [.int vxb]))]) (w1 := []) (ws' := [(ax, .inr (3, [.int vxb]))]) hP hD [] [0] rfl rfl (by decide) (by decide) hk1 hFc hB ht [0] rfl (by decide) rfl
  replace hw := hw.symm
  subst hw
  clear hFc hB hk1 hz1 hvm
  have h0 := Option.some.inj h
  subst h0
  exact W.iret hx hb hr (fun t ht hW => ⟨⟨_, (), rfl, rfl, QW_mk hP hK hD ht hW⟩, hS.F ht⟩) hS.2.2 dX3_differing_12

noncomputable def fX3_closest_L4 (n : Nat) (l1 : Int32) (l2 : Int32) (vxb : Int32) : Option (Int32 × Int32) := match n with
  | 0 => none
  | n + 1 => if (8 : Int32) ≤ l2 then (some (l1, l2)) else (bd (fX3_differing vxb l2) fun r1 => bd (fX3_differing vxb l1) fun r2 => if r2 ≤ r1 then (fX3_closest_L4 n l1 (l2 + (1 : Int32)) vxb) else (fX3_closest_L4 n l2 (l2 + (1 : Int32)) vxb))
theorem fX3_closest_L4_0 (l1 : Int32) (l2 : Int32) (vxb : Int32) : fX3_closest_L4 0 l1 l2 vxb = none := rfl
theorem fX3_closest_L4_s (n : Nat) (l1 : Int32) (l2 : Int32) (vxb : Int32) : fX3_closest_L4 (n + 1) l1 l2 vxb = if (8 : Int32) ≤ l2 then (some (l1, l2)) else (bd (fX3_differing vxb l2) fun r1 => bd (fX3_differing vxb l1) fun r2 => if r2 ≤ r1 then (fX3_closest_L4 n l1 (l2 + (1 : Int32)) vxb) else (fX3_closest_L4 n l2 (l2 + (1 : Int32)) vxb)) := rfl
noncomputable def fX3_closest (vxb : Int32)  : Option (Int32) := bd (fX3_closest_L4 FU (0 : Int32) (1 : Int32) vxb) fun q6 => some q6.1
set_option maxHeartbeats 4000000 in
set_option maxRecDepth 100000 in
theorem c_X3_closest (l : Launch) (dC : Nat → ClassId) (dI : Nat → Nat → Nat) (cy : ClassId) (ax : Nat) (sz : Nat) (vxb : Int32)  (res : Int32) (h : fX3_closest vxb = some res) : Met l yX3_closest wsX3_closest ({ frames := 3, cells := 0, slots := 0, locals := 63 }) (va_Pc [.ref ax] (PW (dC, dI) cy sz [(ax, .inr (3, [.int vxb]))])) (va_Qi (fun (r : Int32) (_ : Unit) => r = res) (QW (dC, dI) cy (va_A [(ax, .inr (3, [.int vxb]))] sz) [(ax, .inr (3, [.int vxb]))]) (va_A [(ax, .inr (3, [.int vxb]))] sz)) 0 0 (va_A [(ax, .inr (3, [.int vxb]))] sz) := by
  refine Met.ofW (cc := cX3_closest) (maxL := 3) (ret := (some .int)) (by decide) rfl ?_
  intro p e s m args below meth c s₁ B hml hv
  obtain ⟨rfl, hsz, hP, hK, hD0, hN⟩ := hv
  have hx := B.exec
  have hb := B.bytes
  have hr := B.returns
  have hts := atoms_spec (ws := wsX3_closest) B.pre
  have hown : s.vm.findClass RX3 = some m.cls := findClass_of_methodNamed B.named
  have hlocks := B.notSynchronized
  subst hsz
  have hD := hD0.self (sz := s.heap.size)
  clear hD0
  generalize hAe : va_A [(ax, .inr (3, [.int vxb]))] s.heap.size = A at hD ⊢
  have hA : ∀ q : Nat, s.heap.size ≤ q → A q := fun q h => by rw [← hAe]; exact Or.inr h
  have hS : va_S A s.heap s.heap [] := va_S.rf
  have hl := lv_entry ([.ref ax]) (n := 3) (Nat.le_of_ble_eq_true rfl)
  rw [lg_entry_eq]
  generalize (lg_sl ([.ref ax]) ++ List.replicate (3 - (lg_sl ([.ref ax])).length) Slot.unset).toArray = ls at hl ⊢
  replace hl : lv_has ls 3 [(0, .ref ax)] := hl
  replace hP : va_P (dC, dI) vwCl [(ax, .inr (3, [.int vxb]))] s.heap := hP
  obtain ⟨locs, hlocs⟩ : ∃ lc : List Loc, lc = [] := ⟨_, rfl⟩
  rw [← hlocs] at hS ⊢
  obtain ⟨H, hH⟩ : ∃ H : Heap, H = s.heap := ⟨_, rfl⟩
  have hP2 := hP; rw [← hH] at hP2
  have hS2 : va_S A s.heap H locs := by rw [hH]; exact hS
  suffices hgo : W p l e (headSpec wsX3_closest ({ frames := 3, cells := 0, slots := 0, locals := 63 })).room s m (([.ref ax] : List Value).toArray) below meth c H locs 0 0 (MQ below (va_Qi (fun (r : Int32) (_ : Unit) => r = res) (QW (dC, dI) cy A [(ax, .inr (3, [.int vxb]))]) A) (([.ref ax] : List Value).toArray) s 0 0 A) (F0 m 0 ls []) by rw [hH] at hgo; exact hgo
  replace hP := hP2
  replace hS := hS2
  clear hP2 hS2
  unfold fX3_closest at h
  refine lv_iconst (v := (0 : Int32)) hx hb dX3_closest_0 (by decide) ?_
  refine lv_istore_n (lv' := [(1, .int (0 : Int32)), (0, .ref ax)]) hx hb dX3_closest_1 rfl hl (by decide) rfl (fun ls hl => ?_)
  refine lv_iconst (v := (1 : Int32)) hx hb dX3_closest_2 (by decide) ?_
  refine lv_istore_n (lv' := [(2, .int (1 : Int32)), (1, .int (0 : Int32)), (0, .ref ax)]) hx hb dX3_closest_3 rfl hl (by decide) rfl (fun ls hl => ?_)
  have L4_4 : ∀ (n : Nat) (l1 : Int32) (l2 : Int32) (rs : (Int32 × Int32)) (H : Heap) (locs : List Loc) (ls : Array Slot), fX3_closest_L4 n l1 l2 vxb = some rs → lv_has ls 3 [(0, .ref ax), (1, .int l1), (2, .int l2)] → va_P (dC, dI) vwCl [(ax, .inr (3, [.int vxb]))] H → va_D A [(ax, .inr (3, [.int vxb]))] → va_S A s.heap H locs → (∀ (H : Heap) (locs : List Loc) (ls : Array Slot), lv_has ls 3 [(0, .ref ax), (1, .int rs.1), (2, .int rs.2)] → va_P (dC, dI) vwCl [(ax, .inr (3, [.int vxb]))] H → va_D A [(ax, .inr (3, [.int vxb]))] → va_S A s.heap H locs → W p l e (headSpec wsX3_closest ({ frames := 3, cells := 0, slots := 0, locals := 63 })).room s m (([.ref ax] : List Value).toArray) below meth c H locs 0 0 (MQ below (va_Qi (fun (r : Int32) (_ : Unit) => r = res) (QW (dC, dI) cy A [(ax, .inr (3, [.int vxb]))]) A) (([.ref ax] : List Value).toArray) s 0 0 A) (F0 m 31 ls [])) → W p l e (headSpec wsX3_closest ({ frames := 3, cells := 0, slots := 0, locals := 63 })).room s m (([.ref ax] : List Value).toArray) below meth c H locs 0 0 (MQ below (va_Qi (fun (r : Int32) (_ : Unit) => r = res) (QW (dC, dI) cy A [(ax, .inr (3, [.int vxb]))]) A) (([.ref ax] : List Value).toArray) s 0 0 A) (F0 m 4 ls []) := by
    intro n
    induction n with
    | zero =>
      intro l1 l2 rs H locs ls h
      rw [fX3_closest_L4_0] at h
      cases h
    | succ n ih =>
      intro l1 l2 rs H locs ls h hl hP hD hS K
      rw [fX3_closest_L4_s] at h
      refine lv_iload_n hx hb dX3_closest_4 rfl (lv_at hl 2 rfl) ?_
      refine lv_bipush (v := (8 : Int32)) hx hb dX3_closest_5 (by decide) ?_
      refine lv_icmp_ge (tgt := 31) hx hb dX3_closest_7 (by decide) (fun c4 => ?_) (fun c4 => ?_)
      · rw [if_pos c4] at h
        have h0 := Option.some.inj h
        subst h0
        exact K H locs ls (lv_sub hl [0, 1, 2] rfl) hP hD hS
      · rw [if_neg c4] at h
        refine lv_aload_n hx hb dX3_closest_10 rfl (lv_at hl 0 rfl) ?_
        refine lv_iload_n hx hb dX3_closest_11 rfl (lv_at hl 2 rfl) ?_
        obtain ⟨r1, hr1, h⟩ := bd_some h
        have hFc := va_free (wc := [(ax, .inr (3, [.int vxb]))]) hD hS hA [0] rfl
        refine va_calli (va_runV (As := [.int l2]) (rest := []) ⟨hx, hb, hml, hown, hts⟩ (c_X3_differing l dC dI cy ax H.size vxb l2 r1 hr1) (cwV 1 hts gX3_closest_X3_differing rfl rfl rfl (by decide +kernel) ⟨Nat.le_of_ble_eq_true rfl, Nat.le_of_ble_eq_true rfl⟩) ⟨PW_fb, va_recv hK hP (ci := 3) (q0 := 0) rfl rfl, PW_pre (hP.sub (ws' := [(ax, .inr (3, [.int vxb]))]) [0] rfl) hK (hD.sub [0] (by decide) rfl) hN⟩ rfl rfl hl.1 rfl (lv_room (Nat.le_of_ble_eq_true rfl)) dX3_closest_12 ⟨Nat.zero_le _, Nat.zero_le _⟩) hS (fun q _ h => hFc q h) hFc (fun rz u t H locs ht hvm hw hB hz1 hk1 hS => ?_)
        obtain ⟨hP, hD⟩ := jn (wr := []) (w1 := [(ax, .inr (3, [.int vxb]))]) (ws' := [(ax, .inr (3, [.int vxb]))]) hP hD [0] [] rfl rfl (by decide) (by decide) hk1 hFc hB ht [0] rfl (by decide) rfl
        replace hw := hw.symm
        subst hw
        clear hFc hB hk1 hz1 hvm
        refine lv_aload_n hx hb dX3_closest_15 rfl (lv_at hl 0 rfl) ?_
        refine lv_iload_n hx hb dX3_closest_16 rfl (lv_at hl 1 rfl) ?_
        obtain ⟨r2, hr2, h⟩ := bd_some h
        have hFc := va_free (wc := [(ax, .inr (3, [.int vxb]))]) hD hS hA [0] rfl
        refine va_calli (va_runV (As := [.int l1]) (rest := [.int r1]) ⟨hx, hb, hml, hown, hts⟩ (c_X3_differing l dC dI cy ax H.size vxb l1 r2 hr2) (cwV 1 hts gX3_closest_X3_differing rfl rfl rfl (by decide +kernel) ⟨Nat.le_of_ble_eq_true rfl, Nat.le_of_ble_eq_true rfl⟩) ⟨PW_fb, va_recv hK hP (ci := 3) (q0 := 0) rfl rfl, PW_pre (hP.sub (ws' := [(ax, .inr (3, [.int vxb]))]) [0] rfl) hK (hD.sub [0] (by decide) rfl) hN⟩ rfl rfl hl.1 rfl (lv_room (Nat.le_of_ble_eq_true rfl)) dX3_closest_17 ⟨Nat.zero_le _, Nat.zero_le _⟩) hS (fun q _ h => hFc q h) hFc (fun rz u t H locs ht hvm hw hB hz1 hk1 hS => ?_)
        obtain ⟨hP, hD⟩ := jn (wr := []) (w1 := [(ax, .inr (3, [.int vxb]))]) (ws' := [(ax, .inr (3, [.int vxb]))]) hP hD [0] [] rfl rfl (by decide) (by decide) hk1 hFc hB ht [0] rfl (by decide) rfl
        replace hw := hw.symm
        subst hw
        clear hFc hB hk1 hz1 hvm
        refine lv_icmp_ge (tgt := 25) hx hb dX3_closest_20 (by decide) (fun c3 => ?_) (fun c3 => ?_)
        · rw [if_pos c3] at h
          refine lv_iinc (v := l2 + (1 : Int32)) (lv' := [(2, .int (l2 + (1 : Int32))), (0, .ref ax), (1, .int l1)]) hx hb dX3_closest_25 hl (k := 2) rfl rfl (by decide) rfl (fun ls hl => ?_)
          refine lv_goto (tgt := 4) hx hb dX3_closest_28 (by decide) ?_
          exact ih l1 (l2 + (1 : Int32)) rs H locs ls h (lv_sub hl [1, 2, 0] rfl) hP hD hS K
        · rw [if_neg c3] at h
          refine lv_iload_n hx hb dX3_closest_23 rfl (lv_at hl 2 rfl) ?_
          refine lv_istore_n (lv' := [(1, .int l2), (0, .ref ax), (2, .int l2)]) hx hb dX3_closest_24 rfl hl (by decide) rfl (fun ls hl => ?_)
          refine lv_iinc (v := l2 + (1 : Int32)) (lv' := [(2, .int (l2 + (1 : Int32))), (1, .int l2), (0, .ref ax)]) hx hb dX3_closest_25 hl (k := 2) rfl rfl (by decide) rfl (fun ls hl => ?_)
          refine lv_goto (tgt := 4) hx hb dX3_closest_28 (by decide) ?_
          exact ih l2 (l2 + (1 : Int32)) rs H locs ls h (lv_sub hl [2, 1, 0] rfl) hP hD hS K
  obtain ⟨q6, hq6, h⟩ := bd_some h
  refine L4_4 FU (0 : Int32) (1 : Int32) q6 H locs ls hq6 (lv_sub hl [2, 1, 0] rfl) hP hD hS (fun H locs ls hl hP hD hS => ?_)
  refine lv_iload_n hx hb dX3_closest_31 rfl (lv_at hl 1 rfl) ?_
  have h0 := Option.some.inj h
  subst h0
  exact W.iret hx hb hr (fun t ht hW => ⟨⟨_, (), rfl, rfl, QW_mk hP hK hD ht hW⟩, hS.F ht⟩) hS.2.2 dX3_closest_32

noncomputable def fX3_agrees (vxb : Int32) (p0 : Int32) (p1 : Int32) : Option (Int32) := bd (fX3_at vxb p0) fun r1 => bd (fX3_at vxb p1) fun r2 => bd (fX3_at vxb (p0 ^^^ p1)) fun r3 => if (r1 ^^^ r2) = r3 then (some (1 : Int32)) else (some (0 : Int32))
set_option maxHeartbeats 4000000 in
set_option maxRecDepth 100000 in
theorem c_X3_agrees (l : Launch) (dC : Nat → ClassId) (dI : Nat → Nat → Nat) (cy : ClassId) (ax : Nat) (sz : Nat) (vxb : Int32) (p0 : Int32) (p1 : Int32) (res : Int32) (h : fX3_agrees vxb p0 p1 = some res) : Met l yX3_agrees wsX3_agrees ({ frames := 1, cells := 0, slots := 0, locals := 21 }) (va_Pc [.ref ax, .int p0, .int p1] (PW (dC, dI) cy sz [(ax, .inr (3, [.int vxb]))])) (va_Qi (fun (r : Int32) (_ : Unit) => r = res ∧ bo r) (QW (dC, dI) cy (va_A [(ax, .inr (3, [.int vxb]))] sz) [(ax, .inr (3, [.int vxb]))]) (va_A [(ax, .inr (3, [.int vxb]))] sz)) 0 0 (va_A [(ax, .inr (3, [.int vxb]))] sz) := by
  refine Met.ofW (cc := cX3_agrees) (maxL := 3) (ret := (some .boolean)) (by decide) rfl ?_
  intro p e s m args below meth c s₁ B hml hv
  obtain ⟨rfl, hsz, hP, hK, hD0, hN⟩ := hv
  have hx := B.exec
  have hb := B.bytes
  have hr := B.returns
  have hts := atoms_spec (ws := wsX3_agrees) B.pre
  have hown : s.vm.findClass RX3 = some m.cls := findClass_of_methodNamed B.named
  have hlocks := B.notSynchronized
  subst hsz
  have hD := hD0.self (sz := s.heap.size)
  clear hD0
  generalize hAe : va_A [(ax, .inr (3, [.int vxb]))] s.heap.size = A at hD ⊢
  have hA : ∀ q : Nat, s.heap.size ≤ q → A q := fun q h => by rw [← hAe]; exact Or.inr h
  have hS : va_S A s.heap s.heap [] := va_S.rf
  have hl := lv_entry ([.ref ax, .int p0, .int p1]) (n := 3) (Nat.le_of_ble_eq_true rfl)
  rw [lg_entry_eq]
  generalize (lg_sl ([.ref ax, .int p0, .int p1]) ++ List.replicate (3 - (lg_sl ([.ref ax, .int p0, .int p1])).length) Slot.unset).toArray = ls at hl ⊢
  replace hl : lv_has ls 3 [(0, .ref ax), (1, .int p0), (2, .int p1)] := hl
  replace hP : va_P (dC, dI) vwCl [(ax, .inr (3, [.int vxb]))] s.heap := hP
  obtain ⟨locs, hlocs⟩ : ∃ lc : List Loc, lc = [] := ⟨_, rfl⟩
  rw [← hlocs] at hS ⊢
  obtain ⟨H, hH⟩ : ∃ H : Heap, H = s.heap := ⟨_, rfl⟩
  have hP2 := hP; rw [← hH] at hP2
  have hS2 : va_S A s.heap H locs := by rw [hH]; exact hS
  suffices hgo : W p l e (headSpec wsX3_agrees ({ frames := 1, cells := 0, slots := 0, locals := 21 })).room s m (([.ref ax, .int p0, .int p1] : List Value).toArray) below meth c H locs 0 0 (MQ below (va_Qi (fun (r : Int32) (_ : Unit) => r = res ∧ bo r) (QW (dC, dI) cy A [(ax, .inr (3, [.int vxb]))]) A) (([.ref ax, .int p0, .int p1] : List Value).toArray) s 0 0 A) (F0 m 0 ls []) by rw [hH] at hgo; exact hgo
  replace hP := hP2
  replace hS := hS2
  clear hP2 hS2
  unfold fX3_agrees at h
  refine lv_aload_n hx hb dX3_agrees_0 rfl (lv_at hl 0 rfl) ?_
  refine lv_iload_n hx hb dX3_agrees_1 rfl (lv_at hl 1 rfl) ?_
  obtain ⟨r1, hr1, h⟩ := bd_some h
  have hFc := va_free (wc := [(ax, .inr (3, [.int vxb]))]) hD hS hA [0] rfl
  refine va_calli (va_runV (As := [.int p0]) (rest := []) ⟨hx, hb, hml, hown, hts⟩ (c_X3_at l dC dI cy ax H.size vxb p0 r1 hr1) (cwV 1 hts gX3_agrees_X3_at rfl rfl rfl (by decide +kernel) ⟨Nat.le_of_ble_eq_true rfl, Nat.le_of_ble_eq_true rfl⟩) ⟨PW_fb, va_recv hK hP (ci := 3) (q0 := 0) rfl rfl, PW_pre (hP.sub (ws' := [(ax, .inr (3, [.int vxb]))]) [0] rfl) hK (hD.sub [0] (by decide) rfl) hN⟩ rfl rfl hl.1 rfl (lv_room (Nat.le_of_ble_eq_true rfl)) dX3_agrees_2 ⟨Nat.zero_le _, Nat.zero_le _⟩) hS (fun q _ h => hFc q h) hFc (fun rz u t H locs ht hvm hw hB hz1 hk1 hS => ?_)
  obtain ⟨hP, hD⟩ := jn (wr := []) (w1 := [(ax, .inr (3, [.int vxb]))]) (ws' := [(ax, .inr (3, [.int vxb]))]) hP hD [0] [] rfl rfl (by decide) (by decide) hk1 hFc hB ht [0] rfl (by decide) rfl
  replace hw := hw.symm
  subst hw
  clear hFc hB hk1 hz1 hvm
  refine lv_aload_n hx hb dX3_agrees_5 rfl (lv_at hl 0 rfl) ?_
  refine lv_iload_n hx hb dX3_agrees_6 rfl (lv_at hl 2 rfl) ?_
  obtain ⟨r2, hr2, h⟩ := bd_some h
  have hFc := va_free (wc := [(ax, .inr (3, [.int vxb]))]) hD hS hA [0] rfl
  refine va_calli (va_runV (As := [.int p1]) (rest := [.int r1]) ⟨hx, hb, hml, hown, hts⟩ (c_X3_at l dC dI cy ax H.size vxb p1 r2 hr2) (cwV 1 hts gX3_agrees_X3_at rfl rfl rfl (by decide +kernel) ⟨Nat.le_of_ble_eq_true rfl, Nat.le_of_ble_eq_true rfl⟩) ⟨PW_fb, va_recv hK hP (ci := 3) (q0 := 0) rfl rfl, PW_pre (hP.sub (ws' := [(ax, .inr (3, [.int vxb]))]) [0] rfl) hK (hD.sub [0] (by decide) rfl) hN⟩ rfl rfl hl.1 rfl (lv_room (Nat.le_of_ble_eq_true rfl)) dX3_agrees_7 ⟨Nat.zero_le _, Nat.zero_le _⟩) hS (fun q _ h => hFc q h) hFc (fun rz u t H locs ht hvm hw hB hz1 hk1 hS => ?_)
  obtain ⟨hP, hD⟩ := jn (wr := []) (w1 := [(ax, .inr (3, [.int vxb]))]) (ws' := [(ax, .inr (3, [.int vxb]))]) hP hD [0] [] rfl rfl (by decide) (by decide) hk1 hFc hB ht [0] rfl (by decide) rfl
  replace hw := hw.symm
  subst hw
  clear hFc hB hk1 hz1 hvm
  refine lv_ixor hx hb dX3_agrees_10 ?_
  refine lv_aload_n hx hb dX3_agrees_11 rfl (lv_at hl 0 rfl) ?_
  refine lv_iload_n hx hb dX3_agrees_12 rfl (lv_at hl 1 rfl) ?_
  refine lv_iload_n hx hb dX3_agrees_13 rfl (lv_at hl 2 rfl) ?_
  refine lv_ixor hx hb dX3_agrees_14 ?_
  obtain ⟨r3, hr3, h⟩ := bd_some h
  have hFc := va_free (wc := [(ax, .inr (3, [.int vxb]))]) hD hS hA [0] rfl
  refine va_calli (va_runV (As := [.int (p0 ^^^ p1)]) (rest := [.int (r1 ^^^ r2)]) ⟨hx, hb, hml, hown, hts⟩ (c_X3_at l dC dI cy ax H.size vxb (p0 ^^^ p1) r3 hr3) (cwV 1 hts gX3_agrees_X3_at rfl rfl rfl (by decide +kernel) ⟨Nat.le_of_ble_eq_true rfl, Nat.le_of_ble_eq_true rfl⟩) ⟨PW_fb, va_recv hK hP (ci := 3) (q0 := 0) rfl rfl, PW_pre (hP.sub (ws' := [(ax, .inr (3, [.int vxb]))]) [0] rfl) hK (hD.sub [0] (by decide) rfl) hN⟩ rfl rfl hl.1 rfl (lv_room (Nat.le_of_ble_eq_true rfl)) dX3_agrees_15 ⟨Nat.zero_le _, Nat.zero_le _⟩) hS (fun q _ h => hFc q h) hFc (fun rz u t H locs ht hvm hw hB hz1 hk1 hS => ?_)
  obtain ⟨hP, hD⟩ := jn (wr := []) (w1 := [(ax, .inr (3, [.int vxb]))]) (ws' := [(ax, .inr (3, [.int vxb]))]) hP hD [0] [] rfl rfl (by decide) (by decide) hk1 hFc hB ht [0] rfl (by decide) rfl
  replace hw := hw.symm
  subst hw
  clear hFc hB hk1 hz1 hvm
  refine lv_icmp_ne (tgt := 25) hx hb dX3_agrees_18 (by decide) (fun c4 => ?_) (fun c4 => ?_)
  · rw [if_neg c4] at h
    refine lv_iconst (v := (0 : Int32)) hx hb dX3_agrees_25 (by decide) ?_
    have h0 := Option.some.inj h
    subst h0
    exact W.zret (ty := .boolean) hx hb hr bo_0 (fun t ht hW => ⟨⟨_, (), rfl, ⟨rfl, bo_0⟩, QW_mk hP hK hD ht hW⟩, hS.F ht⟩) hS.2.2 dX3_agrees_26
  · rw [if_pos c4] at h
    refine lv_iconst (v := (1 : Int32)) hx hb dX3_agrees_21 (by decide) ?_
    refine lv_goto (tgt := 26) hx hb dX3_agrees_22 (by decide) ?_
    have h0 := Option.some.inj h
    subst h0
    exact W.zret (ty := .boolean) hx hb hr bo_1 (fun t ht hW => ⟨⟨_, (), rfl, ⟨rfl, bo_1⟩, QW_mk hP hK hD ht hW⟩, hS.F ht⟩) hS.2.2 dX3_agrees_26

noncomputable def fX3_passing_L12 (n : Nat) (l1 : Int32) (l2 : Int32) (l3 : Int32) (vxb : Int32) : Option (Int32 × Int32) := match n with
  | 0 => none
  | n + 1 => if (8 : Int32) ≤ l3 then (some (l1, l3)) else (bd (fX3_agrees vxb l2 l3) fun r1 => if r1 = 0 then (fX3_passing_L12 n l1 l2 (l3 + (1 : Int32)) vxb) else (fX3_passing_L12 n (l1 + (1 : Int32)) l2 (l3 + (1 : Int32)) vxb))
theorem fX3_passing_L12_0 (l1 : Int32) (l2 : Int32) (l3 : Int32) (vxb : Int32) : fX3_passing_L12 0 l1 l2 l3 vxb = none := rfl
theorem fX3_passing_L12_s (n : Nat) (l1 : Int32) (l2 : Int32) (l3 : Int32) (vxb : Int32) : fX3_passing_L12 (n + 1) l1 l2 l3 vxb = if (8 : Int32) ≤ l3 then (some (l1, l3)) else (bd (fX3_agrees vxb l2 l3) fun r1 => if r1 = 0 then (fX3_passing_L12 n l1 l2 (l3 + (1 : Int32)) vxb) else (fX3_passing_L12 n (l1 + (1 : Int32)) l2 (l3 + (1 : Int32)) vxb)) := rfl
noncomputable def fX3_passing_L4 (n : Nat) (l1 : Int32) (l2 : Int32) (vxb : Int32) : Option (Int32 × Int32) := match n with
  | 0 => none
  | n + 1 => if (8 : Int32) ≤ l2 then (some (l1, l2)) else (bd (fX3_passing_L12 FU l1 l2 (0 : Int32) vxb) fun q5 => fX3_passing_L4 n q5.1 (l2 + (1 : Int32)) vxb)
theorem fX3_passing_L4_0 (l1 : Int32) (l2 : Int32) (vxb : Int32) : fX3_passing_L4 0 l1 l2 vxb = none := rfl
theorem fX3_passing_L4_s (n : Nat) (l1 : Int32) (l2 : Int32) (vxb : Int32) : fX3_passing_L4 (n + 1) l1 l2 vxb = if (8 : Int32) ≤ l2 then (some (l1, l2)) else (bd (fX3_passing_L12 FU l1 l2 (0 : Int32) vxb) fun q5 => fX3_passing_L4 n q5.1 (l2 + (1 : Int32)) vxb) := rfl
noncomputable def fX3_passing (vxb : Int32)  : Option (Int32) := bd (fX3_passing_L4 FU (0 : Int32) (0 : Int32) vxb) fun q8 => some q8.1
set_option maxHeartbeats 4000000 in
set_option maxRecDepth 100000 in
theorem c_X3_passing (l : Launch) (dC : Nat → ClassId) (dI : Nat → Nat → Nat) (cy : ClassId) (ax : Nat) (sz : Nat) (vxb : Int32)  (res : Int32) (h : fX3_passing vxb = some res) : Met l yX3_passing wsX3_passing ({ frames := 2, cells := 0, slots := 0, locals := 43 }) (va_Pc [.ref ax] (PW (dC, dI) cy sz [(ax, .inr (3, [.int vxb]))])) (va_Qi (fun (r : Int32) (_ : Unit) => r = res) (QW (dC, dI) cy (va_A [(ax, .inr (3, [.int vxb]))] sz) [(ax, .inr (3, [.int vxb]))]) (va_A [(ax, .inr (3, [.int vxb]))] sz)) 0 0 (va_A [(ax, .inr (3, [.int vxb]))] sz) := by
  refine Met.ofW (cc := cX3_passing) (maxL := 4) (ret := (some .int)) (by decide) rfl ?_
  intro p e s m args below meth c s₁ B hml hv
  obtain ⟨rfl, hsz, hP, hK, hD0, hN⟩ := hv
  have hx := B.exec
  have hb := B.bytes
  have hr := B.returns
  have hts := atoms_spec (ws := wsX3_passing) B.pre
  have hown : s.vm.findClass RX3 = some m.cls := findClass_of_methodNamed B.named
  have hlocks := B.notSynchronized
  subst hsz
  have hD := hD0.self (sz := s.heap.size)
  clear hD0
  generalize hAe : va_A [(ax, .inr (3, [.int vxb]))] s.heap.size = A at hD ⊢
  have hA : ∀ q : Nat, s.heap.size ≤ q → A q := fun q h => by rw [← hAe]; exact Or.inr h
  have hS : va_S A s.heap s.heap [] := va_S.rf
  have hl := lv_entry ([.ref ax]) (n := 4) (Nat.le_of_ble_eq_true rfl)
  rw [lg_entry_eq]
  generalize (lg_sl ([.ref ax]) ++ List.replicate (4 - (lg_sl ([.ref ax])).length) Slot.unset).toArray = ls at hl ⊢
  replace hl : lv_has ls 4 [(0, .ref ax)] := hl
  replace hP : va_P (dC, dI) vwCl [(ax, .inr (3, [.int vxb]))] s.heap := hP
  obtain ⟨locs, hlocs⟩ : ∃ lc : List Loc, lc = [] := ⟨_, rfl⟩
  rw [← hlocs] at hS ⊢
  obtain ⟨H, hH⟩ : ∃ H : Heap, H = s.heap := ⟨_, rfl⟩
  have hP2 := hP; rw [← hH] at hP2
  have hS2 : va_S A s.heap H locs := by rw [hH]; exact hS
  suffices hgo : W p l e (headSpec wsX3_passing ({ frames := 2, cells := 0, slots := 0, locals := 43 })).room s m (([.ref ax] : List Value).toArray) below meth c H locs 0 0 (MQ below (va_Qi (fun (r : Int32) (_ : Unit) => r = res) (QW (dC, dI) cy A [(ax, .inr (3, [.int vxb]))]) A) (([.ref ax] : List Value).toArray) s 0 0 A) (F0 m 0 ls []) by rw [hH] at hgo; exact hgo
  replace hP := hP2
  replace hS := hS2
  clear hP2 hS2
  unfold fX3_passing at h
  refine lv_iconst (v := (0 : Int32)) hx hb dX3_passing_0 (by decide) ?_
  refine lv_istore_n (lv' := [(1, .int (0 : Int32)), (0, .ref ax)]) hx hb dX3_passing_1 rfl hl (by decide) rfl (fun ls hl => ?_)
  refine lv_iconst (v := (0 : Int32)) hx hb dX3_passing_2 (by decide) ?_
  refine lv_istore_n (lv' := [(2, .int (0 : Int32)), (1, .int (0 : Int32)), (0, .ref ax)]) hx hb dX3_passing_3 rfl hl (by decide) rfl (fun ls hl => ?_)
  have L4_6 : ∀ (n : Nat) (l1 : Int32) (l2 : Int32) (rs : (Int32 × Int32)) (H : Heap) (locs : List Loc) (ls : Array Slot), fX3_passing_L4 n l1 l2 vxb = some rs → lv_has ls 4 [(0, .ref ax), (1, .int l1), (2, .int l2)] → va_P (dC, dI) vwCl [(ax, .inr (3, [.int vxb]))] H → va_D A [(ax, .inr (3, [.int vxb]))] → va_S A s.heap H locs → (∀ (H : Heap) (locs : List Loc) (ls : Array Slot), lv_has ls 4 [(0, .ref ax), (1, .int rs.1), (2, .int rs.2)] → va_P (dC, dI) vwCl [(ax, .inr (3, [.int vxb]))] H → va_D A [(ax, .inr (3, [.int vxb]))] → va_S A s.heap H locs → W p l e (headSpec wsX3_passing ({ frames := 2, cells := 0, slots := 0, locals := 43 })).room s m (([.ref ax] : List Value).toArray) below meth c H locs 0 0 (MQ below (va_Qi (fun (r : Int32) (_ : Unit) => r = res) (QW (dC, dI) cy A [(ax, .inr (3, [.int vxb]))]) A) (([.ref ax] : List Value).toArray) s 0 0 A) (F0 m 42 ls [])) → W p l e (headSpec wsX3_passing ({ frames := 2, cells := 0, slots := 0, locals := 43 })).room s m (([.ref ax] : List Value).toArray) below meth c H locs 0 0 (MQ below (va_Qi (fun (r : Int32) (_ : Unit) => r = res) (QW (dC, dI) cy A [(ax, .inr (3, [.int vxb]))]) A) (([.ref ax] : List Value).toArray) s 0 0 A) (F0 m 4 ls []) := by
    intro n
    induction n with
    | zero =>
      intro l1 l2 rs H locs ls h
      rw [fX3_passing_L4_0] at h
      cases h
    | succ n ih =>
      intro l1 l2 rs H locs ls h hl hP hD hS K
      rw [fX3_passing_L4_s] at h
      refine lv_iload_n hx hb dX3_passing_4 rfl (lv_at hl 2 rfl) ?_
      refine lv_bipush (v := (8 : Int32)) hx hb dX3_passing_5 (by decide) ?_
      refine lv_icmp_ge (tgt := 42) hx hb dX3_passing_7 (by decide) (fun c6 => ?_) (fun c6 => ?_)
      · rw [if_pos c6] at h
        have h0 := Option.some.inj h
        subst h0
        exact K H locs ls (lv_sub hl [0, 1, 2] rfl) hP hD hS
      · rw [if_neg c6] at h
        refine lv_iconst (v := (0 : Int32)) hx hb dX3_passing_10 (by decide) ?_
        refine lv_istore_n (lv' := [(3, .int (0 : Int32)), (0, .ref ax), (1, .int l1), (2, .int l2)]) hx hb dX3_passing_11 rfl hl (by decide) rfl (fun ls hl => ?_)
        have L12_3 : ∀ (n : Nat) (l1 : Int32) (l2 : Int32) (l3 : Int32) (rs : (Int32 × Int32)) (H : Heap) (locs : List Loc) (ls : Array Slot), fX3_passing_L12 n l1 l2 l3 vxb = some rs → lv_has ls 4 [(0, .ref ax), (1, .int l1), (2, .int l2), (3, .int l3)] → va_P (dC, dI) vwCl [(ax, .inr (3, [.int vxb]))] H → va_D A [(ax, .inr (3, [.int vxb]))] → va_S A s.heap H locs → (∀ (H : Heap) (locs : List Loc) (ls : Array Slot), lv_has ls 4 [(0, .ref ax), (1, .int rs.1), (2, .int l2), (3, .int rs.2)] → va_P (dC, dI) vwCl [(ax, .inr (3, [.int vxb]))] H → va_D A [(ax, .inr (3, [.int vxb]))] → va_S A s.heap H locs → W p l e (headSpec wsX3_passing ({ frames := 2, cells := 0, slots := 0, locals := 43 })).room s m (([.ref ax] : List Value).toArray) below meth c H locs 0 0 (MQ below (va_Qi (fun (r : Int32) (_ : Unit) => r = res) (QW (dC, dI) cy A [(ax, .inr (3, [.int vxb]))]) A) (([.ref ax] : List Value).toArray) s 0 0 A) (F0 m 36 ls [])) → W p l e (headSpec wsX3_passing ({ frames := 2, cells := 0, slots := 0, locals := 43 })).room s m (([.ref ax] : List Value).toArray) below meth c H locs 0 0 (MQ below (va_Qi (fun (r : Int32) (_ : Unit) => r = res) (QW (dC, dI) cy A [(ax, .inr (3, [.int vxb]))]) A) (([.ref ax] : List Value).toArray) s 0 0 A) (F0 m 12 ls []) := by
          intro n
          induction n with
          | zero =>
            intro l1 l2 l3 rs H locs ls h
            rw [fX3_passing_L12_0] at h
            cases h
          | succ n ih =>
            intro l1 l2 l3 rs H locs ls h hl hP hD hS K
            rw [fX3_passing_L12_s] at h
            refine lv_iload_n hx hb dX3_passing_12 rfl (lv_at hl 3 rfl) ?_
            refine lv_bipush (v := (8 : Int32)) hx hb dX3_passing_13 (by decide) ?_
            refine lv_icmp_ge (tgt := 36) hx hb dX3_passing_15 (by decide) (fun c3 => ?_) (fun c3 => ?_)
            · rw [if_pos c3] at h
              have h0 := Option.some.inj h
              subst h0
              exact K H locs ls (lv_sub hl [0, 1, 2, 3] rfl) hP hD hS
            · rw [if_neg c3] at h
              refine lv_aload_n hx hb dX3_passing_18 rfl (lv_at hl 0 rfl) ?_
              refine lv_iload_n hx hb dX3_passing_19 rfl (lv_at hl 2 rfl) ?_
              refine lv_iload_n hx hb dX3_passing_20 rfl (lv_at hl 3 rfl) ?_
              obtain ⟨r1, hr1, h⟩ := bd_some h
              have hFc := va_free (wc := [(ax, .inr (3, [.int vxb]))]) hD hS hA [0] rfl
              refine va_calli (va_runV (As := [.int l2, .int l3]) (rest := []) ⟨hx, hb, hml, hown, hts⟩ (c_X3_agrees l dC dI cy ax H.size vxb l2 l3 r1 hr1) (cwV 2 hts gX3_passing_X3_agrees rfl rfl rfl (by decide +kernel) ⟨Nat.le_of_ble_eq_true rfl, Nat.le_of_ble_eq_true rfl⟩) ⟨PW_fb, va_recv hK hP (ci := 3) (q0 := 0) rfl rfl, PW_pre (hP.sub (ws' := [(ax, .inr (3, [.int vxb]))]) [0] rfl) hK (hD.sub [0] (by decide) rfl) hN⟩ rfl rfl hl.1 rfl (lv_room (Nat.le_of_ble_eq_true rfl)) dX3_passing_21 ⟨Nat.zero_le _, Nat.zero_le _⟩) hS (fun q _ h => hFc q h) hFc (fun rz u t H locs ht hvm hw hB hz1 hk1 hS => ?_)
              obtain ⟨hP, hD⟩ := jn (wr := []) (w1 := [(ax, .inr (3, [.int vxb]))]) (ws' := [(ax, .inr (3, [.int vxb]))]) hP hD [0] [] rfl rfl (by decide) (by decide) hk1 hFc hB ht [0] rfl (by decide) rfl
              obtain ⟨hw, br1⟩ := hw
              replace hw := hw.symm
              subst hw
              clear hFc hB hk1 hz1 hvm
              refine lv_if_eq (tgt := 30) hx hb dX3_passing_24 (by decide) (fun c2 => ?_) (fun c2 => ?_)
              · rw [if_pos c2] at h
                refine lv_iinc (v := l3 + (1 : Int32)) (lv' := [(3, .int (l3 + (1 : Int32))), (0, .ref ax), (1, .int l1), (2, .int l2)]) hx hb dX3_passing_30 hl (k := 3) rfl rfl (by decide) rfl (fun ls hl => ?_)
                refine lv_goto (tgt := 12) hx hb dX3_passing_33 (by decide) ?_
                exact ih l1 l2 (l3 + (1 : Int32)) rs H locs ls h (lv_sub hl [1, 2, 3, 0] rfl) hP hD hS K
              · rw [if_neg c2] at h
                refine lv_iinc (v := l1 + (1 : Int32)) (lv' := [(1, .int (l1 + (1 : Int32))), (0, .ref ax), (2, .int l2), (3, .int l3)]) hx hb dX3_passing_27 hl (k := 1) rfl rfl (by decide) rfl (fun ls hl => ?_)
                refine lv_iinc (v := l3 + (1 : Int32)) (lv' := [(3, .int (l3 + (1 : Int32))), (1, .int (l1 + (1 : Int32))), (0, .ref ax), (2, .int l2)]) hx hb dX3_passing_30 hl (k := 3) rfl rfl (by decide) rfl (fun ls hl => ?_)
                refine lv_goto (tgt := 12) hx hb dX3_passing_33 (by decide) ?_
                exact ih (l1 + (1 : Int32)) l2 (l3 + (1 : Int32)) rs H locs ls h (lv_sub hl [2, 1, 3, 0] rfl) hP hD hS K
        obtain ⟨q5, hq5, h⟩ := bd_some h
        refine L12_3 FU l1 l2 (0 : Int32) q5 H locs ls hq5 (lv_sub hl [1, 2, 3, 0] rfl) hP hD hS (fun H locs ls hl hP hD hS => ?_)
        refine lv_iinc (v := l2 + (1 : Int32)) (lv' := [(2, .int (l2 + (1 : Int32))), (0, .ref ax), (1, .int q5.1), (3, .int q5.2)]) hx hb dX3_passing_36 hl (k := 2) rfl rfl (by decide) rfl (fun ls hl => ?_)
        refine lv_goto (tgt := 4) hx hb dX3_passing_39 (by decide) ?_
        exact ih q5.1 (l2 + (1 : Int32)) rs H locs ls h (lv_sub hl [1, 2, 0] rfl) hP hD hS K
  obtain ⟨q8, hq8, h⟩ := bd_some h
  refine L4_6 FU (0 : Int32) (0 : Int32) q8 H locs ls hq8 (lv_sub hl [2, 1, 0] rfl) hP hD hS (fun H locs ls hl hP hD hS => ?_)
  refine lv_iload_n hx hb dX3_passing_42 rfl (lv_at hl 1 rfl) ?_
  have h0 := Option.some.inj h
  subst h0
  exact W.iret hx hb hr (fun t ht hW => ⟨⟨_, (), rfl, rfl, QW_mk hP hK hD ht hW⟩, hS.F ht⟩) hS.2.2 dX3_passing_43

noncomputable def fX3_tellers_L5 (n : Nat) (l1 : Int32) (l2 : Int32) (l3 : Int32) (l4 : Int32) (vxb : Int32) : Option (Int32 × Int32) := match n with
  | 0 => none
  | n + 1 => if (8 : Int32) ≤ l4 then (some (l3, l4)) else (bd (fX3_at vxb l4) fun r1 => bd (fX3_at vxb (l1 ^^^ l4)) fun r2 => if (r1 ^^^ r2) = l2 then (fX3_tellers_L5 n l1 l2 (l3 + (1 : Int32)) (l4 + (1 : Int32)) vxb) else (fX3_tellers_L5 n l1 l2 l3 (l4 + (1 : Int32)) vxb))
theorem fX3_tellers_L5_0 (l1 : Int32) (l2 : Int32) (l3 : Int32) (l4 : Int32) (vxb : Int32) : fX3_tellers_L5 0 l1 l2 l3 l4 vxb = none := rfl
theorem fX3_tellers_L5_s (n : Nat) (l1 : Int32) (l2 : Int32) (l3 : Int32) (l4 : Int32) (vxb : Int32) : fX3_tellers_L5 (n + 1) l1 l2 l3 l4 vxb = if (8 : Int32) ≤ l4 then (some (l3, l4)) else (bd (fX3_at vxb l4) fun r1 => bd (fX3_at vxb (l1 ^^^ l4)) fun r2 => if (r1 ^^^ r2) = l2 then (fX3_tellers_L5 n l1 l2 (l3 + (1 : Int32)) (l4 + (1 : Int32)) vxb) else (fX3_tellers_L5 n l1 l2 l3 (l4 + (1 : Int32)) vxb)) := rfl
noncomputable def fX3_tellers (vxb : Int32) (p0 : Int32) (p1 : Int32) : Option (Int32) := bd (fX3_tellers_L5 FU p0 p1 (0 : Int32) (0 : Int32) vxb) fun q6 => some q6.1
set_option maxHeartbeats 4000000 in
set_option maxRecDepth 100000 in
theorem c_X3_tellers (l : Launch) (dC : Nat → ClassId) (dI : Nat → Nat → Nat) (cy : ClassId) (ax : Nat) (sz : Nat) (vxb : Int32) (p0 : Int32) (p1 : Int32) (res : Int32) (h : fX3_tellers vxb p0 p1 = some res) : Met l yX3_tellers wsX3_tellers ({ frames := 1, cells := 0, slots := 0, locals := 21 }) (va_Pc [.ref ax, .int p0, .int p1] (PW (dC, dI) cy sz [(ax, .inr (3, [.int vxb]))])) (va_Qi (fun (r : Int32) (_ : Unit) => r = res) (QW (dC, dI) cy (va_A [(ax, .inr (3, [.int vxb]))] sz) [(ax, .inr (3, [.int vxb]))]) (va_A [(ax, .inr (3, [.int vxb]))] sz)) 0 0 (va_A [(ax, .inr (3, [.int vxb]))] sz) := by
  refine Met.ofW (cc := cX3_tellers) (maxL := 5) (ret := (some .int)) (by decide) rfl ?_
  intro p e s m args below meth c s₁ B hml hv
  obtain ⟨rfl, hsz, hP, hK, hD0, hN⟩ := hv
  have hx := B.exec
  have hb := B.bytes
  have hr := B.returns
  have hts := atoms_spec (ws := wsX3_tellers) B.pre
  have hown : s.vm.findClass RX3 = some m.cls := findClass_of_methodNamed B.named
  have hlocks := B.notSynchronized
  subst hsz
  have hD := hD0.self (sz := s.heap.size)
  clear hD0
  generalize hAe : va_A [(ax, .inr (3, [.int vxb]))] s.heap.size = A at hD ⊢
  have hA : ∀ q : Nat, s.heap.size ≤ q → A q := fun q h => by rw [← hAe]; exact Or.inr h
  have hS : va_S A s.heap s.heap [] := va_S.rf
  have hl := lv_entry ([.ref ax, .int p0, .int p1]) (n := 5) (Nat.le_of_ble_eq_true rfl)
  rw [lg_entry_eq]
  generalize (lg_sl ([.ref ax, .int p0, .int p1]) ++ List.replicate (5 - (lg_sl ([.ref ax, .int p0, .int p1])).length) Slot.unset).toArray = ls at hl ⊢
  replace hl : lv_has ls 5 [(0, .ref ax), (1, .int p0), (2, .int p1)] := hl
  replace hP : va_P (dC, dI) vwCl [(ax, .inr (3, [.int vxb]))] s.heap := hP
  obtain ⟨locs, hlocs⟩ : ∃ lc : List Loc, lc = [] := ⟨_, rfl⟩
  rw [← hlocs] at hS ⊢
  obtain ⟨H, hH⟩ : ∃ H : Heap, H = s.heap := ⟨_, rfl⟩
  have hP2 := hP; rw [← hH] at hP2
  have hS2 : va_S A s.heap H locs := by rw [hH]; exact hS
  suffices hgo : W p l e (headSpec wsX3_tellers ({ frames := 1, cells := 0, slots := 0, locals := 21 })).room s m (([.ref ax, .int p0, .int p1] : List Value).toArray) below meth c H locs 0 0 (MQ below (va_Qi (fun (r : Int32) (_ : Unit) => r = res) (QW (dC, dI) cy A [(ax, .inr (3, [.int vxb]))]) A) (([.ref ax, .int p0, .int p1] : List Value).toArray) s 0 0 A) (F0 m 0 ls []) by rw [hH] at hgo; exact hgo
  replace hP := hP2
  replace hS := hS2
  clear hP2 hS2
  unfold fX3_tellers at h
  refine lv_iconst (v := (0 : Int32)) hx hb dX3_tellers_0 (by decide) ?_
  refine lv_istore_n (lv' := [(3, .int (0 : Int32)), (0, .ref ax), (1, .int p0), (2, .int p1)]) hx hb dX3_tellers_1 rfl hl (by decide) rfl (fun ls hl => ?_)
  refine lv_iconst (v := (0 : Int32)) hx hb dX3_tellers_2 (by decide) ?_
  refine lv_istore (lv' := [(4, .int (0 : Int32)), (3, .int (0 : Int32)), (0, .ref ax), (1, .int p0), (2, .int p1)]) hx hb dX3_tellers_3 hl (by decide) rfl (fun ls hl => ?_)
  have L5_4 : ∀ (n : Nat) (l1 : Int32) (l2 : Int32) (l3 : Int32) (l4 : Int32) (rs : (Int32 × Int32)) (H : Heap) (locs : List Loc) (ls : Array Slot), fX3_tellers_L5 n l1 l2 l3 l4 vxb = some rs → lv_has ls 5 [(0, .ref ax), (1, .int l1), (2, .int l2), (3, .int l3), (4, .int l4)] → va_P (dC, dI) vwCl [(ax, .inr (3, [.int vxb]))] H → va_D A [(ax, .inr (3, [.int vxb]))] → va_S A s.heap H locs → (∀ (H : Heap) (locs : List Loc) (ls : Array Slot), lv_has ls 5 [(0, .ref ax), (1, .int l1), (2, .int l2), (3, .int rs.1), (4, .int rs.2)] → va_P (dC, dI) vwCl [(ax, .inr (3, [.int vxb]))] H → va_D A [(ax, .inr (3, [.int vxb]))] → va_S A s.heap H locs → W p l e (headSpec wsX3_tellers ({ frames := 1, cells := 0, slots := 0, locals := 21 })).room s m (([.ref ax, .int p0, .int p1] : List Value).toArray) below meth c H locs 0 0 (MQ below (va_Qi (fun (r : Int32) (_ : Unit) => r = res) (QW (dC, dI) cy A [(ax, .inr (3, [.int vxb]))]) A) (([.ref ax, .int p0, .int p1] : List Value).toArray) s 0 0 A) (F0 m 40 ls [])) → W p l e (headSpec wsX3_tellers ({ frames := 1, cells := 0, slots := 0, locals := 21 })).room s m (([.ref ax, .int p0, .int p1] : List Value).toArray) below meth c H locs 0 0 (MQ below (va_Qi (fun (r : Int32) (_ : Unit) => r = res) (QW (dC, dI) cy A [(ax, .inr (3, [.int vxb]))]) A) (([.ref ax, .int p0, .int p1] : List Value).toArray) s 0 0 A) (F0 m 5 ls []) := by
    intro n
    induction n with
    | zero =>
      intro l1 l2 l3 l4 rs H locs ls h
      rw [fX3_tellers_L5_0] at h
      cases h
    | succ n ih =>
      intro l1 l2 l3 l4 rs H locs ls h hl hP hD hS K
      rw [fX3_tellers_L5_s] at h
      refine lv_iload hx hb dX3_tellers_5 (lv_at hl 4 rfl) ?_
      refine lv_bipush (v := (8 : Int32)) hx hb dX3_tellers_7 (by decide) ?_
      refine lv_icmp_ge (tgt := 40) hx hb dX3_tellers_9 (by decide) (fun c4 => ?_) (fun c4 => ?_)
      · rw [if_pos c4] at h
        have h0 := Option.some.inj h
        subst h0
        exact K H locs ls (lv_sub hl [0, 1, 2, 3, 4] rfl) hP hD hS
      · rw [if_neg c4] at h
        refine lv_aload_n hx hb dX3_tellers_12 rfl (lv_at hl 0 rfl) ?_
        refine lv_iload hx hb dX3_tellers_13 (lv_at hl 4 rfl) ?_
        obtain ⟨r1, hr1, h⟩ := bd_some h
        have hFc := va_free (wc := [(ax, .inr (3, [.int vxb]))]) hD hS hA [0] rfl
        refine va_calli (va_runV (As := [.int l4]) (rest := []) ⟨hx, hb, hml, hown, hts⟩ (c_X3_at l dC dI cy ax H.size vxb l4 r1 hr1) (cwV 1 hts gX3_tellers_X3_at rfl rfl rfl (by decide +kernel) ⟨Nat.le_of_ble_eq_true rfl, Nat.le_of_ble_eq_true rfl⟩) ⟨PW_fb, va_recv hK hP (ci := 3) (q0 := 0) rfl rfl, PW_pre (hP.sub (ws' := [(ax, .inr (3, [.int vxb]))]) [0] rfl) hK (hD.sub [0] (by decide) rfl) hN⟩ rfl rfl hl.1 rfl (lv_room (Nat.le_of_ble_eq_true rfl)) dX3_tellers_15 ⟨Nat.zero_le _, Nat.zero_le _⟩) hS (fun q _ h => hFc q h) hFc (fun rz u t H locs ht hvm hw hB hz1 hk1 hS => ?_)
        obtain ⟨hP, hD⟩ := jn (wr := []) (w1 := [(ax, .inr (3, [.int vxb]))]) (ws' := [(ax, .inr (3, [.int vxb]))]) hP hD [0] [] rfl rfl (by decide) (by decide) hk1 hFc hB ht [0] rfl (by decide) rfl
        replace hw := hw.symm
        subst hw
        clear hFc hB hk1 hz1 hvm
        refine lv_aload_n hx hb dX3_tellers_18 rfl (lv_at hl 0 rfl) ?_
        refine lv_iload_n hx hb dX3_tellers_19 rfl (lv_at hl 1 rfl) ?_
        refine lv_iload hx hb dX3_tellers_20 (lv_at hl 4 rfl) ?_
        refine lv_ixor hx hb dX3_tellers_22 ?_
        obtain ⟨r2, hr2, h⟩ := bd_some h
        have hFc := va_free (wc := [(ax, .inr (3, [.int vxb]))]) hD hS hA [0] rfl
        refine va_calli (va_runV (As := [.int (l1 ^^^ l4)]) (rest := [.int r1]) ⟨hx, hb, hml, hown, hts⟩ (c_X3_at l dC dI cy ax H.size vxb (l1 ^^^ l4) r2 hr2) (cwV 1 hts gX3_tellers_X3_at rfl rfl rfl (by decide +kernel) ⟨Nat.le_of_ble_eq_true rfl, Nat.le_of_ble_eq_true rfl⟩) ⟨PW_fb, va_recv hK hP (ci := 3) (q0 := 0) rfl rfl, PW_pre (hP.sub (ws' := [(ax, .inr (3, [.int vxb]))]) [0] rfl) hK (hD.sub [0] (by decide) rfl) hN⟩ rfl rfl hl.1 rfl (lv_room (Nat.le_of_ble_eq_true rfl)) dX3_tellers_23 ⟨Nat.zero_le _, Nat.zero_le _⟩) hS (fun q _ h => hFc q h) hFc (fun rz u t H locs ht hvm hw hB hz1 hk1 hS => ?_)
        obtain ⟨hP, hD⟩ := jn (wr := []) (w1 := [(ax, .inr (3, [.int vxb]))]) (ws' := [(ax, .inr (3, [.int vxb]))]) hP hD [0] [] rfl rfl (by decide) (by decide) hk1 hFc hB ht [0] rfl (by decide) rfl
        replace hw := hw.symm
        subst hw
        clear hFc hB hk1 hz1 hvm
        refine lv_ixor hx hb dX3_tellers_26 ?_
        refine lv_iload_n hx hb dX3_tellers_27 rfl (lv_at hl 2 rfl) ?_
        refine lv_icmp_ne (tgt := 34) hx hb dX3_tellers_28 (by decide) (fun c3 => ?_) (fun c3 => ?_)
        · rw [if_neg c3] at h
          refine lv_iinc (v := l4 + (1 : Int32)) (lv' := [(4, .int (l4 + (1 : Int32))), (0, .ref ax), (1, .int l1), (2, .int l2), (3, .int l3)]) hx hb dX3_tellers_34 hl (k := 4) rfl rfl (by decide) rfl (fun ls hl => ?_)
          refine lv_goto (tgt := 5) hx hb dX3_tellers_37 (by decide) ?_
          exact ih l1 l2 l3 (l4 + (1 : Int32)) rs H locs ls h (lv_sub hl [1, 2, 3, 4, 0] rfl) hP hD hS K
        · rw [if_pos c3] at h
          refine lv_iinc (v := l3 + (1 : Int32)) (lv' := [(3, .int (l3 + (1 : Int32))), (0, .ref ax), (1, .int l1), (2, .int l2), (4, .int l4)]) hx hb dX3_tellers_31 hl (k := 3) rfl rfl (by decide) rfl (fun ls hl => ?_)
          refine lv_iinc (v := l4 + (1 : Int32)) (lv' := [(4, .int (l4 + (1 : Int32))), (3, .int (l3 + (1 : Int32))), (0, .ref ax), (1, .int l1), (2, .int l2)]) hx hb dX3_tellers_34 hl (k := 4) rfl rfl (by decide) rfl (fun ls hl => ?_)
          refine lv_goto (tgt := 5) hx hb dX3_tellers_37 (by decide) ?_
          exact ih l1 l2 (l3 + (1 : Int32)) (l4 + (1 : Int32)) rs H locs ls h (lv_sub hl [2, 3, 4, 1, 0] rfl) hP hD hS K
  obtain ⟨q6, hq6, h⟩ := bd_some h
  refine L5_4 FU p0 p1 (0 : Int32) (0 : Int32) q6 H locs ls hq6 (lv_sub hl [2, 3, 4, 1, 0] rfl) hP hD hS (fun H locs ls hl hP hD hS => ?_)
  refine lv_iload_n hx hb dX3_tellers_40 rfl (lv_at hl 3 rfl) ?_
  have h0 := Option.some.inj h
  subst h0
  exact W.iret hx hb hr (fun t ht hW => ⟨⟨_, (), rfl, rfl, QW_mk hP hK hD ht hW⟩, hS.F ht⟩) hS.2.2 dX3_tellers_41
end
section
noncomputable def fX1_joined (fxj : Nat → Int32) (p0 : Int32) (p1 : Int32) : Option (Int32) := gin p0 6 (some (((fxj p0.toNatClampNeg) >>> (p1 &&& 31)) &&& (1 : Int32)))
set_option maxHeartbeats 4000000 in
set_option maxRecDepth 100000 in
theorem c_X1_joined (l : Launch) (dC : Nat → ClassId) (dI : Nat → Nat → Nat) (cy : ClassId) (ax axj : Nat) (sz : Nat) (fxj : Nat → Int32) (p0 : Int32) (p1 : Int32) (res : Int32) (h : fX1_joined fxj p0 p1 = some res) : Met l yX1_joined wsX1_joined ({ frames := 0, cells := 0, slots := 0, locals := 0 }) (va_Pc [.ref ax, .int p0, .int p1] (PW (dC, dI) cy sz [(ax, .inr (1, [.ref axj])), (axj, .inl (cy, 6, .inl fxj))])) (va_Qi (fun (r : Int32) (_ : Unit) => r = res) (QW (dC, dI) cy (va_A [(ax, .inr (1, [.ref axj])), (axj, .inl (cy, 6, .inl fxj))] sz) [(ax, .inr (1, [.ref axj])), (axj, .inl (cy, 6, .inl fxj))]) (va_A [(ax, .inr (1, [.ref axj])), (axj, .inl (cy, 6, .inl fxj))] sz)) 0 0 (va_A [(ax, .inr (1, [.ref axj])), (axj, .inl (cy, 6, .inl fxj))] sz) := by
  refine Met.ofW (cc := cX1_joined) (maxL := 3) (ret := (some .int)) (by decide) rfl ?_
  intro p e s m args below meth c s₁ B hml hv
  obtain ⟨rfl, hsz, hP, hK, hD0, hN⟩ := hv
  have hx := B.exec
  have hb := B.bytes
  have hr := B.returns
  have hts := atoms_spec (ws := wsX1_joined) B.pre
  have hown : s.vm.findClass RX1 = some m.cls := findClass_of_methodNamed B.named
  have hlocks := B.notSynchronized
  subst hsz
  have hD := hD0.self (sz := s.heap.size)
  clear hD0
  generalize hAe : va_A [(ax, .inr (1, [.ref axj])), (axj, .inl (cy, 6, .inl fxj))] s.heap.size = A at hD ⊢
  have hA : ∀ q : Nat, s.heap.size ≤ q → A q := fun q h => by rw [← hAe]; exact Or.inr h
  have hS : va_S A s.heap s.heap [] := va_S.rf
  have hl := lv_entry ([.ref ax, .int p0, .int p1]) (n := 3) (Nat.le_of_ble_eq_true rfl)
  rw [lg_entry_eq]
  generalize (lg_sl ([.ref ax, .int p0, .int p1]) ++ List.replicate (3 - (lg_sl ([.ref ax, .int p0, .int p1])).length) Slot.unset).toArray = ls at hl ⊢
  replace hl : lv_has ls 3 [(0, .ref ax), (1, .int p0), (2, .int p1)] := hl
  replace hP : va_P (dC, dI) vwCl [(ax, .inr (1, [.ref axj])), (axj, .inl (cy, 6, .inl fxj))] s.heap := hP
  obtain ⟨locs, hlocs⟩ : ∃ lc : List Loc, lc = [] := ⟨_, rfl⟩
  rw [← hlocs] at hS ⊢
  obtain ⟨H, hH⟩ : ∃ H : Heap, H = s.heap := ⟨_, rfl⟩
  have hP2 := hP; rw [← hH] at hP2
  have hS2 : va_S A s.heap H locs := by rw [hH]; exact hS
  suffices hgo : W p l e (headSpec wsX1_joined ({ frames := 0, cells := 0, slots := 0, locals := 0 })).room s m (([.ref ax, .int p0, .int p1] : List Value).toArray) below meth c H locs 0 0 (MQ below (va_Qi (fun (r : Int32) (_ : Unit) => r = res) (QW (dC, dI) cy A [(ax, .inr (1, [.ref axj])), (axj, .inl (cy, 6, .inl fxj))]) A) (([.ref ax, .int p0, .int p1] : List Value).toArray) s 0 0 A) (F0 m 0 ls []) by rw [hH] at hgo; exact hgo
  replace hP := hP2
  replace hS := hS2
  clear hP2 hS2
  have hin_X1 : ∀ w ∈ wsX10, w ∈ wsX1_joined := by decide +kernel
  have hf_9 := hts (.fieldLink RX1 9 "FewLooks$Net" "joins" "[I") (by decide +kernel)
  unfold fX1_joined at h
  refine lv_aload_n hx hb dX1_joined_0 rfl (lv_at hl 0 rfl) ?_
  refine va_get (D := (dC, dI)) (ci := 1) (v := .ref axj) (C := RX1) (T := TX1) (N := 1) hx hb hts hin_X1 hown hK hP 0 rfl rfl 0 (by decide) (hf_9) (fun _ h9 => h9) rfl dX1_joined_1 ?_
  refine lv_iload_n hx hb dX1_joined_4 rfl (lv_at hl 1 rfl) ?_
  obtain ⟨hi, h⟩ := gin_some h
  refine va_iald hx hb hK hP 1 0 rfl rfl hi dX1_joined_5 ?_
  refine lv_iload_n hx hb dX1_joined_6 rfl (lv_at hl 2 rfl) ?_
  refine lv_ishr hx hb dX1_joined_7 ?_
  refine lv_iconst (v := (1 : Int32)) hx hb dX1_joined_8 (by decide) ?_
  refine lv_iand hx hb dX1_joined_9 ?_
  have h0 := Option.some.inj h
  subst h0
  exact W.iret hx hb hr (fun t ht hW => ⟨⟨_, (), rfl, rfl, QW_mk hP hK hD ht hW⟩, hS.F ht⟩) hS.2.2 dX1_joined_10

noncomputable def fX1_join (fxj : Nat → Int32) (p0 : Int32) (p1 : Int32) (p2 : Int32) : Option ((Nat → Int32)) := if p2 = 0 then (gin p0 6 (gin p0 6 (gin p1 6 (gin p1 6 (some (upd (upd fxj p0.toNatClampNeg ((fxj p0.toNatClampNeg) &&& (((1 : Int32) <<< (p1 &&& 31)) ^^^ (-1 : Int32)))) p1.toNatClampNeg (((upd fxj p0.toNatClampNeg ((fxj p0.toNatClampNeg) &&& (((1 : Int32) <<< (p1 &&& 31)) ^^^ (-1 : Int32)))) p1.toNatClampNeg) &&& (((1 : Int32) <<< (p0 &&& 31)) ^^^ (-1 : Int32))))))))) else (gin p0 6 (gin p0 6 (gin p1 6 (gin p1 6 (some (upd (upd fxj p0.toNatClampNeg ((fxj p0.toNatClampNeg) ||| ((1 : Int32) <<< (p1 &&& 31)))) p1.toNatClampNeg (((upd fxj p0.toNatClampNeg ((fxj p0.toNatClampNeg) ||| ((1 : Int32) <<< (p1 &&& 31)))) p1.toNatClampNeg) ||| ((1 : Int32) <<< (p0 &&& 31)))))))))
set_option maxHeartbeats 4000000 in
set_option maxRecDepth 100000 in
theorem c_X1_join (l : Launch) (dC : Nat → ClassId) (dI : Nat → Nat → Nat) (cy : ClassId) (ax axj : Nat) (sz : Nat) (fxj : Nat → Int32) (p0 : Int32) (p1 : Int32) (p2 : Int32) (res : (Nat → Int32)) (h : fX1_join fxj p0 p1 p2 = some res) : Met l yX1_join wsX1_join ({ frames := 0, cells := 0, slots := 0, locals := 0 }) (va_Pc [.ref ax, .int p0, .int p1, .int p2] (PW (dC, dI) cy sz [(ax, .inr (1, [.ref axj])), (axj, .inl (cy, 6, .inl fxj))])) (va_Qv (fun (_ : Unit) => True) (QW (dC, dI) cy (va_A [(ax, .inr (1, [.ref axj])), (axj, .inl (cy, 6, .inl fxj))] sz) [(ax, .inr (1, [.ref axj])), (axj, .inl (cy, 6, .inl res))]) (va_A [(ax, .inr (1, [.ref axj])), (axj, .inl (cy, 6, .inl fxj))] sz)) 0 0 (va_A [(ax, .inr (1, [.ref axj])), (axj, .inl (cy, 6, .inl fxj))] sz) := by
  refine Met.ofW (cc := cX1_join) (maxL := 4) (ret := none) (by decide) rfl ?_
  intro p e s m args below meth c s₁ B hml hv
  obtain ⟨rfl, hsz, hP, hK, hD0, hN⟩ := hv
  have hx := B.exec
  have hb := B.bytes
  have hr := B.returns
  have hts := atoms_spec (ws := wsX1_join) B.pre
  have hown : s.vm.findClass RX1 = some m.cls := findClass_of_methodNamed B.named
  have hlocks := B.notSynchronized
  subst hsz
  have hD := hD0.self (sz := s.heap.size)
  clear hD0
  generalize hAe : va_A [(ax, .inr (1, [.ref axj])), (axj, .inl (cy, 6, .inl fxj))] s.heap.size = A at hD ⊢
  have hA : ∀ q : Nat, s.heap.size ≤ q → A q := fun q h => by rw [← hAe]; exact Or.inr h
  have hS : va_S A s.heap s.heap [] := va_S.rf
  have hl := lv_entry ([.ref ax, .int p0, .int p1, .int p2]) (n := 4) (Nat.le_of_ble_eq_true rfl)
  rw [lg_entry_eq]
  generalize (lg_sl ([.ref ax, .int p0, .int p1, .int p2]) ++ List.replicate (4 - (lg_sl ([.ref ax, .int p0, .int p1, .int p2])).length) Slot.unset).toArray = ls at hl ⊢
  replace hl : lv_has ls 4 [(0, .ref ax), (1, .int p0), (2, .int p1), (3, .int p2)] := hl
  replace hP : va_P (dC, dI) vwCl [(ax, .inr (1, [.ref axj])), (axj, .inl (cy, 6, .inl fxj))] s.heap := hP
  obtain ⟨locs, hlocs⟩ : ∃ lc : List Loc, lc = [] := ⟨_, rfl⟩
  rw [← hlocs] at hS ⊢
  obtain ⟨H, hH⟩ : ∃ H : Heap, H = s.heap := ⟨_, rfl⟩
  have hP2 := hP; rw [← hH] at hP2
  have hS2 : va_S A s.heap H locs := by rw [hH]; exact hS
  suffices hgo : W p l e (headSpec wsX1_join ({ frames := 0, cells := 0, slots := 0, locals := 0 })).room s m (([.ref ax, .int p0, .int p1, .int p2] : List Value).toArray) below meth c H locs 0 0 (MQ below (va_Qv (fun (_ : Unit) => True) (QW (dC, dI) cy A [(ax, .inr (1, [.ref axj])), (axj, .inl (cy, 6, .inl res))]) A) (([.ref ax, .int p0, .int p1, .int p2] : List Value).toArray) s 0 0 A) (F0 m 0 ls []) by rw [hH] at hgo; exact hgo
  replace hP := hP2
  replace hS := hS2
  clear hP2 hS2
  have hin_X1 : ∀ w ∈ wsX10, w ∈ wsX1_join := by decide +kernel
  have hf_9 := hts (.fieldLink RX1 9 "FewLooks$Net" "joins" "[I") (by decide +kernel)
  unfold fX1_join at h
  refine lv_iload_n hx hb dX1_join_0 rfl (lv_at hl 3 rfl) ?_
  refine lv_if_eq (tgt := 31) hx hb dX1_join_1 (by decide) (fun c1 => ?_) (fun c1 => ?_)
  · rw [if_pos c1] at h
    refine lv_aload_n hx hb dX1_join_31 rfl (lv_at hl 0 rfl) ?_
    refine va_get (D := (dC, dI)) (ci := 1) (v := .ref axj) (C := RX1) (T := TX1) (N := 1) hx hb hts hin_X1 hown hK hP 0 rfl rfl 0 (by decide) (hf_9) (fun _ h9 => h9) rfl dX1_join_32 ?_
    refine lv_iload_n hx hb dX1_join_35 rfl (lv_at hl 1 rfl) ?_
    refine lv_dup2_11 hx hb dX1_join_36 rfl rfl ?_
    obtain ⟨hi, h⟩ := gin_some h
    refine va_iald hx hb hK hP 1 0 rfl rfl hi dX1_join_37 ?_
    refine lv_iconst (v := (1 : Int32)) hx hb dX1_join_38 (by decide) ?_
    refine lv_iload_n hx hb dX1_join_39 rfl (lv_at hl 2 rfl) ?_
    refine lv_ishl hx hb dX1_join_40 ?_
    refine lv_iconst (v := (-1 : Int32)) hx hb dX1_join_41 (by decide) ?_
    refine lv_ixor hx hb dX1_join_42 ?_
    refine lv_iand hx hb dX1_join_43 ?_
    obtain ⟨hi, h⟩ := gin_some h
    refine va_iast hx hb hK hP hD hS 1 0 rfl rfl hi dX1_join_44 (fun H locs hP hD hS => ?_)
    replace hP : va_P (dC, dI) vwCl [(ax, .inr (1, [.ref axj])), (axj, .inl (cy, 6, .inl (upd fxj p0.toNatClampNeg ((fxj p0.toNatClampNeg) &&& (((1 : Int32) <<< (p1 &&& 31)) ^^^ (-1 : Int32))))))] H := hP
    replace hD : va_D A [(ax, .inr (1, [.ref axj])), (axj, .inl (cy, 6, .inl (upd fxj p0.toNatClampNeg ((fxj p0.toNatClampNeg) &&& (((1 : Int32) <<< (p1 &&& 31)) ^^^ (-1 : Int32))))))] := hD
    refine lv_aload_n hx hb dX1_join_45 rfl (lv_at hl 0 rfl) ?_
    refine va_get (D := (dC, dI)) (ci := 1) (v := .ref axj) (C := RX1) (T := TX1) (N := 1) hx hb hts hin_X1 hown hK hP 0 rfl rfl 0 (by decide) (hf_9) (fun _ h9 => h9) rfl dX1_join_46 ?_
    refine lv_iload_n hx hb dX1_join_49 rfl (lv_at hl 2 rfl) ?_
    refine lv_dup2_11 hx hb dX1_join_50 rfl rfl ?_
    obtain ⟨hi, h⟩ := gin_some h
    refine va_iald hx hb hK hP 1 0 rfl rfl hi dX1_join_51 ?_
    refine lv_iconst (v := (1 : Int32)) hx hb dX1_join_52 (by decide) ?_
    refine lv_iload_n hx hb dX1_join_53 rfl (lv_at hl 1 rfl) ?_
    refine lv_ishl hx hb dX1_join_54 ?_
    refine lv_iconst (v := (-1 : Int32)) hx hb dX1_join_55 (by decide) ?_
    refine lv_ixor hx hb dX1_join_56 ?_
    refine lv_iand hx hb dX1_join_57 ?_
    obtain ⟨hi, h⟩ := gin_some h
    refine va_iast hx hb hK hP hD hS 1 0 rfl rfl hi dX1_join_58 (fun H locs hP hD hS => ?_)
    replace hP : va_P (dC, dI) vwCl [(ax, .inr (1, [.ref axj])), (axj, .inl (cy, 6, .inl (upd (upd fxj p0.toNatClampNeg ((fxj p0.toNatClampNeg) &&& (((1 : Int32) <<< (p1 &&& 31)) ^^^ (-1 : Int32)))) p1.toNatClampNeg (((upd fxj p0.toNatClampNeg ((fxj p0.toNatClampNeg) &&& (((1 : Int32) <<< (p1 &&& 31)) ^^^ (-1 : Int32)))) p1.toNatClampNeg) &&& (((1 : Int32) <<< (p0 &&& 31)) ^^^ (-1 : Int32))))))] H := hP
    replace hD : va_D A [(ax, .inr (1, [.ref axj])), (axj, .inl (cy, 6, .inl (upd (upd fxj p0.toNatClampNeg ((fxj p0.toNatClampNeg) &&& (((1 : Int32) <<< (p1 &&& 31)) ^^^ (-1 : Int32)))) p1.toNatClampNeg (((upd fxj p0.toNatClampNeg ((fxj p0.toNatClampNeg) &&& (((1 : Int32) <<< (p1 &&& 31)) ^^^ (-1 : Int32)))) p1.toNatClampNeg) &&& (((1 : Int32) <<< (p0 &&& 31)) ^^^ (-1 : Int32))))))] := hD
    have h0 := Option.some.inj h
    subst h0
    exact W.vret hx hb hr (fun t ht hW => ⟨⟨(), rfl, trivial, QW_mk hP hK hD ht hW⟩, hS.F ht⟩) hS.2.2 dX1_join_59
  · rw [if_neg c1] at h
    refine lv_aload_n hx hb dX1_join_4 rfl (lv_at hl 0 rfl) ?_
    refine va_get (D := (dC, dI)) (ci := 1) (v := .ref axj) (C := RX1) (T := TX1) (N := 1) hx hb hts hin_X1 hown hK hP 0 rfl rfl 0 (by decide) (hf_9) (fun _ h9 => h9) rfl dX1_join_5 ?_
    refine lv_iload_n hx hb dX1_join_8 rfl (lv_at hl 1 rfl) ?_
    refine lv_dup2_11 hx hb dX1_join_9 rfl rfl ?_
    obtain ⟨hi, h⟩ := gin_some h
    refine va_iald hx hb hK hP 1 0 rfl rfl hi dX1_join_10 ?_
    refine lv_iconst (v := (1 : Int32)) hx hb dX1_join_11 (by decide) ?_
    refine lv_iload_n hx hb dX1_join_12 rfl (lv_at hl 2 rfl) ?_
    refine lv_ishl hx hb dX1_join_13 ?_
    refine lv_ior hx hb dX1_join_14 ?_
    obtain ⟨hi, h⟩ := gin_some h
    refine va_iast hx hb hK hP hD hS 1 0 rfl rfl hi dX1_join_15 (fun H locs hP hD hS => ?_)
    replace hP : va_P (dC, dI) vwCl [(ax, .inr (1, [.ref axj])), (axj, .inl (cy, 6, .inl (upd fxj p0.toNatClampNeg ((fxj p0.toNatClampNeg) ||| ((1 : Int32) <<< (p1 &&& 31))))))] H := hP
    replace hD : va_D A [(ax, .inr (1, [.ref axj])), (axj, .inl (cy, 6, .inl (upd fxj p0.toNatClampNeg ((fxj p0.toNatClampNeg) ||| ((1 : Int32) <<< (p1 &&& 31))))))] := hD
    refine lv_aload_n hx hb dX1_join_16 rfl (lv_at hl 0 rfl) ?_
    refine va_get (D := (dC, dI)) (ci := 1) (v := .ref axj) (C := RX1) (T := TX1) (N := 1) hx hb hts hin_X1 hown hK hP 0 rfl rfl 0 (by decide) (hf_9) (fun _ h9 => h9) rfl dX1_join_17 ?_
    refine lv_iload_n hx hb dX1_join_20 rfl (lv_at hl 2 rfl) ?_
    refine lv_dup2_11 hx hb dX1_join_21 rfl rfl ?_
    obtain ⟨hi, h⟩ := gin_some h
    refine va_iald hx hb hK hP 1 0 rfl rfl hi dX1_join_22 ?_
    refine lv_iconst (v := (1 : Int32)) hx hb dX1_join_23 (by decide) ?_
    refine lv_iload_n hx hb dX1_join_24 rfl (lv_at hl 1 rfl) ?_
    refine lv_ishl hx hb dX1_join_25 ?_
    refine lv_ior hx hb dX1_join_26 ?_
    obtain ⟨hi, h⟩ := gin_some h
    refine va_iast hx hb hK hP hD hS 1 0 rfl rfl hi dX1_join_27 (fun H locs hP hD hS => ?_)
    replace hP : va_P (dC, dI) vwCl [(ax, .inr (1, [.ref axj])), (axj, .inl (cy, 6, .inl (upd (upd fxj p0.toNatClampNeg ((fxj p0.toNatClampNeg) ||| ((1 : Int32) <<< (p1 &&& 31)))) p1.toNatClampNeg (((upd fxj p0.toNatClampNeg ((fxj p0.toNatClampNeg) ||| ((1 : Int32) <<< (p1 &&& 31)))) p1.toNatClampNeg) ||| ((1 : Int32) <<< (p0 &&& 31))))))] H := hP
    replace hD : va_D A [(ax, .inr (1, [.ref axj])), (axj, .inl (cy, 6, .inl (upd (upd fxj p0.toNatClampNeg ((fxj p0.toNatClampNeg) ||| ((1 : Int32) <<< (p1 &&& 31)))) p1.toNatClampNeg (((upd fxj p0.toNatClampNeg ((fxj p0.toNatClampNeg) ||| ((1 : Int32) <<< (p1 &&& 31)))) p1.toNatClampNeg) ||| ((1 : Int32) <<< (p0 &&& 31))))))] := hD
    refine lv_goto (tgt := 59) hx hb dX1_join_28 (by decide) ?_
    have h0 := Option.some.inj h
    subst h0
    exact W.vret hx hb hr (fun t ht hW => ⟨⟨(), rfl, trivial, QW_mk hP hK hD ht hW⟩, hS.F ht⟩) hS.2.2 dX1_join_59

noncomputable def fX1_alikeTo  (p0 : Int32) (p1 : Int32) : Option (Int32) := if ((p1 >>> (p0 &&& 31)) &&& (1 : Int32)) = (1 : Int32) then (some p1) else (some (p1 ^^^ (-1 : Int32)))
set_option maxHeartbeats 4000000 in
set_option maxRecDepth 100000 in
theorem c_X1_alikeTo (l : Launch) (dC : Nat → ClassId) (dI : Nat → Nat → Nat) (cy : ClassId)  (sz : Nat)  (p0 : Int32) (p1 : Int32) (res : Int32) (h : fX1_alikeTo p0 p1 = some res) : Met l yX1_alikeTo wsX1_alikeTo ({ frames := 0, cells := 0, slots := 0, locals := 0 }) (va_Pc [.int p0, .int p1] (PW (dC, dI) cy sz [])) (va_Qi (fun (r : Int32) (_ : Unit) => r = res) (QW (dC, dI) cy (va_A [] sz) []) (va_A [] sz)) 0 0 (va_A [] sz) := by
  refine Met.ofW (cc := cX1_alikeTo) (maxL := 2) (ret := (some .int)) (by decide) rfl ?_
  intro p e s m args below meth c s₁ B hml hv
  obtain ⟨rfl, hsz, hP, hK, hD0, hN⟩ := hv
  have hx := B.exec
  have hb := B.bytes
  have hr := B.returns
  have hts := atoms_spec (ws := wsX1_alikeTo) B.pre
  have hown : s.vm.findClass RX1 = some m.cls := findClass_of_methodNamed B.named
  have hlocks := B.notSynchronized
  subst hsz
  have hD := hD0.self (sz := s.heap.size)
  clear hD0
  generalize hAe : va_A [] s.heap.size = A at hD ⊢
  have hA : ∀ q : Nat, s.heap.size ≤ q → A q := fun q h => by rw [← hAe]; exact Or.inr h
  have hS : va_S A s.heap s.heap [] := va_S.rf
  have hl := lv_entry ([.int p0, .int p1]) (n := 2) (Nat.le_of_ble_eq_true rfl)
  rw [lg_entry_eq]
  generalize (lg_sl ([.int p0, .int p1]) ++ List.replicate (2 - (lg_sl ([.int p0, .int p1])).length) Slot.unset).toArray = ls at hl ⊢
  replace hl : lv_has ls 2 [(0, .int p0), (1, .int p1)] := hl
  replace hP : va_P (dC, dI) vwCl [] s.heap := hP
  obtain ⟨locs, hlocs⟩ : ∃ lc : List Loc, lc = [] := ⟨_, rfl⟩
  rw [← hlocs] at hS ⊢
  obtain ⟨H, hH⟩ : ∃ H : Heap, H = s.heap := ⟨_, rfl⟩
  have hP2 := hP; rw [← hH] at hP2
  have hS2 : va_S A s.heap H locs := by rw [hH]; exact hS
  suffices hgo : W p l e (headSpec wsX1_alikeTo ({ frames := 0, cells := 0, slots := 0, locals := 0 })).room s m (([.int p0, .int p1] : List Value).toArray) below meth c H locs 0 0 (MQ below (va_Qi (fun (r : Int32) (_ : Unit) => r = res) (QW (dC, dI) cy A []) A) (([.int p0, .int p1] : List Value).toArray) s 0 0 A) (F0 m 0 ls []) by rw [hH] at hgo; exact hgo
  replace hP := hP2
  replace hS := hS2
  clear hP2 hS2
  unfold fX1_alikeTo at h
  refine lv_iload_n hx hb dX1_alikeTo_0 rfl (lv_at hl 1 rfl) ?_
  refine lv_iload_n hx hb dX1_alikeTo_1 rfl (lv_at hl 0 rfl) ?_
  refine lv_ishr hx hb dX1_alikeTo_2 ?_
  refine lv_iconst (v := (1 : Int32)) hx hb dX1_alikeTo_3 (by decide) ?_
  refine lv_iand hx hb dX1_alikeTo_4 ?_
  refine lv_iconst (v := (1 : Int32)) hx hb dX1_alikeTo_5 (by decide) ?_
  refine lv_icmp_ne (tgt := 13) hx hb dX1_alikeTo_6 (by decide) (fun c1 => ?_) (fun c1 => ?_)
  · rw [if_neg c1] at h
    refine lv_iload_n hx hb dX1_alikeTo_13 rfl (lv_at hl 1 rfl) ?_
    refine lv_iconst (v := (-1 : Int32)) hx hb dX1_alikeTo_14 (by decide) ?_
    refine lv_ixor hx hb dX1_alikeTo_15 ?_
    have h0 := Option.some.inj h
    subst h0
    exact W.iret hx hb hr (fun t ht hW => ⟨⟨_, (), rfl, rfl, QW_mk hP hK hD ht hW⟩, hS.F ht⟩) hS.2.2 dX1_alikeTo_16
  · rw [if_pos c1] at h
    refine lv_iload_n hx hb dX1_alikeTo_9 rfl (lv_at hl 1 rfl) ?_
    refine lv_goto (tgt := 16) hx hb dX1_alikeTo_10 (by decide) ?_
    have h0 := Option.some.inj h
    subst h0
    exact W.iret hx hb hr (fun t ht hW => ⟨⟨_, (), rfl, rfl, QW_mk hP hK hD ht hW⟩, hS.F ht⟩) hS.2.2 dX1_alikeTo_16

noncomputable def fX1_likeLines_L5 (n : Nat) (l1 : Int32) (l2 : Int32) (l3 : Int32) (l4 : Int32) (fxj : Nat → Int32) : Option (Int32 × Int32) := match n with
  | 0 => none
  | n + 1 => if (6 : Int32) ≤ l4 then (some (l3, l4)) else (if ((l1 >>> (l4 &&& 31)) &&& (1 : Int32)) = (1 : Int32) then (gin l4 6 (bd (fX1_alikeTo l4 l2) fun r1 => bd (fJ6_bitCount_0f7a4 (((fxj l4.toNatClampNeg) &&& l1) &&& r1)) fun r2 => fX1_likeLines_L5 n l1 l2 (l3 + r2) (l4 + (1 : Int32)) fxj)) else (fX1_likeLines_L5 n l1 l2 l3 (l4 + (1 : Int32)) fxj))
theorem fX1_likeLines_L5_0 (l1 : Int32) (l2 : Int32) (l3 : Int32) (l4 : Int32) (fxj : Nat → Int32) : fX1_likeLines_L5 0 l1 l2 l3 l4 fxj = none := rfl
theorem fX1_likeLines_L5_s (n : Nat) (l1 : Int32) (l2 : Int32) (l3 : Int32) (l4 : Int32) (fxj : Nat → Int32) : fX1_likeLines_L5 (n + 1) l1 l2 l3 l4 fxj = if (6 : Int32) ≤ l4 then (some (l3, l4)) else (if ((l1 >>> (l4 &&& 31)) &&& (1 : Int32)) = (1 : Int32) then (gin l4 6 (bd (fX1_alikeTo l4 l2) fun r1 => bd (fJ6_bitCount_0f7a4 (((fxj l4.toNatClampNeg) &&& l1) &&& r1)) fun r2 => fX1_likeLines_L5 n l1 l2 (l3 + r2) (l4 + (1 : Int32)) fxj)) else (fX1_likeLines_L5 n l1 l2 l3 (l4 + (1 : Int32)) fxj)) := rfl
noncomputable def fX1_likeLines (fxj : Nat → Int32) (p0 : Int32) (p1 : Int32) : Option (Int32) := bd (fX1_likeLines_L5 FU p0 p1 (0 : Int32) (0 : Int32) fxj) fun q6 => some (q6.1 / (2 : Int32))
set_option maxHeartbeats 4000000 in
set_option maxRecDepth 100000 in
theorem c_X1_likeLines (l : Launch) (dC : Nat → ClassId) (dI : Nat → Nat → Nat) (cy : ClassId) (ax axj : Nat) (sz : Nat) (fxj : Nat → Int32) (p0 : Int32) (p1 : Int32) (res : Int32) (h : fX1_likeLines fxj p0 p1 = some res) : Met l yX1_likeLines wsX1_likeLines ({ frames := 1, cells := 0, slots := 0, locals := 21 }) (va_Pc [.ref ax, .int p0, .int p1] (PW (dC, dI) cy sz [(ax, .inr (1, [.ref axj])), (axj, .inl (cy, 6, .inl fxj))])) (va_Qi (fun (r : Int32) (_ : Unit) => r = res) (QW (dC, dI) cy (va_A [(ax, .inr (1, [.ref axj])), (axj, .inl (cy, 6, .inl fxj))] sz) [(ax, .inr (1, [.ref axj])), (axj, .inl (cy, 6, .inl fxj))]) (va_A [(ax, .inr (1, [.ref axj])), (axj, .inl (cy, 6, .inl fxj))] sz)) 0 0 (va_A [(ax, .inr (1, [.ref axj])), (axj, .inl (cy, 6, .inl fxj))] sz) := by
  refine Met.ofW (cc := cX1_likeLines) (maxL := 5) (ret := (some .int)) (by decide) rfl ?_
  intro p e s m args below meth c s₁ B hml hv
  obtain ⟨rfl, hsz, hP, hK, hD0, hN⟩ := hv
  have hx := B.exec
  have hb := B.bytes
  have hr := B.returns
  have hts := atoms_spec (ws := wsX1_likeLines) B.pre
  have hown : s.vm.findClass RX1 = some m.cls := findClass_of_methodNamed B.named
  have hlocks := B.notSynchronized
  subst hsz
  have hD := hD0.self (sz := s.heap.size)
  clear hD0
  generalize hAe : va_A [(ax, .inr (1, [.ref axj])), (axj, .inl (cy, 6, .inl fxj))] s.heap.size = A at hD ⊢
  have hA : ∀ q : Nat, s.heap.size ≤ q → A q := fun q h => by rw [← hAe]; exact Or.inr h
  have hS : va_S A s.heap s.heap [] := va_S.rf
  have hl := lv_entry ([.ref ax, .int p0, .int p1]) (n := 5) (Nat.le_of_ble_eq_true rfl)
  rw [lg_entry_eq]
  generalize (lg_sl ([.ref ax, .int p0, .int p1]) ++ List.replicate (5 - (lg_sl ([.ref ax, .int p0, .int p1])).length) Slot.unset).toArray = ls at hl ⊢
  replace hl : lv_has ls 5 [(0, .ref ax), (1, .int p0), (2, .int p1)] := hl
  replace hP : va_P (dC, dI) vwCl [(ax, .inr (1, [.ref axj])), (axj, .inl (cy, 6, .inl fxj))] s.heap := hP
  obtain ⟨locs, hlocs⟩ : ∃ lc : List Loc, lc = [] := ⟨_, rfl⟩
  rw [← hlocs] at hS ⊢
  obtain ⟨H, hH⟩ : ∃ H : Heap, H = s.heap := ⟨_, rfl⟩
  have hP2 := hP; rw [← hH] at hP2
  have hS2 : va_S A s.heap H locs := by rw [hH]; exact hS
  suffices hgo : W p l e (headSpec wsX1_likeLines ({ frames := 1, cells := 0, slots := 0, locals := 21 })).room s m (([.ref ax, .int p0, .int p1] : List Value).toArray) below meth c H locs 0 0 (MQ below (va_Qi (fun (r : Int32) (_ : Unit) => r = res) (QW (dC, dI) cy A [(ax, .inr (1, [.ref axj])), (axj, .inl (cy, 6, .inl fxj))]) A) (([.ref ax, .int p0, .int p1] : List Value).toArray) s 0 0 A) (F0 m 0 ls []) by rw [hH] at hgo; exact hgo
  replace hP := hP2
  replace hS := hS2
  clear hP2 hS2
  have hin_X1 : ∀ w ∈ wsX10, w ∈ wsX1_likeLines := by decide +kernel
  have hf_9 := hts (.fieldLink RX1 9 "FewLooks$Net" "joins" "[I") (by decide +kernel)
  unfold fX1_likeLines at h
  refine lv_iconst (v := (0 : Int32)) hx hb dX1_likeLines_0 (by decide) ?_
  refine lv_istore_n (lv' := [(3, .int (0 : Int32)), (0, .ref ax), (1, .int p0), (2, .int p1)]) hx hb dX1_likeLines_1 rfl hl (by decide) rfl (fun ls hl => ?_)
  refine lv_iconst (v := (0 : Int32)) hx hb dX1_likeLines_2 (by decide) ?_
  refine lv_istore (lv' := [(4, .int (0 : Int32)), (3, .int (0 : Int32)), (0, .ref ax), (1, .int p0), (2, .int p1)]) hx hb dX1_likeLines_3 hl (by decide) rfl (fun ls hl => ?_)
  have L5_4 : ∀ (n : Nat) (l1 : Int32) (l2 : Int32) (l3 : Int32) (l4 : Int32) (rs : (Int32 × Int32)) (H : Heap) (locs : List Loc) (ls : Array Slot), fX1_likeLines_L5 n l1 l2 l3 l4 fxj = some rs → lv_has ls 5 [(0, .ref ax), (1, .int l1), (2, .int l2), (3, .int l3), (4, .int l4)] → va_P (dC, dI) vwCl [(ax, .inr (1, [.ref axj])), (axj, .inl (cy, 6, .inl fxj))] H → va_D A [(ax, .inr (1, [.ref axj])), (axj, .inl (cy, 6, .inl fxj))] → va_S A s.heap H locs → (∀ (H : Heap) (locs : List Loc) (ls : Array Slot), lv_has ls 5 [(0, .ref ax), (1, .int l1), (2, .int l2), (3, .int rs.1), (4, .int rs.2)] → va_P (dC, dI) vwCl [(ax, .inr (1, [.ref axj])), (axj, .inl (cy, 6, .inl fxj))] H → va_D A [(ax, .inr (1, [.ref axj])), (axj, .inl (cy, 6, .inl fxj))] → va_S A s.heap H locs → W p l e (headSpec wsX1_likeLines ({ frames := 1, cells := 0, slots := 0, locals := 21 })).room s m (([.ref ax, .int p0, .int p1] : List Value).toArray) below meth c H locs 0 0 (MQ below (va_Qi (fun (r : Int32) (_ : Unit) => r = res) (QW (dC, dI) cy A [(ax, .inr (1, [.ref axj])), (axj, .inl (cy, 6, .inl fxj))]) A) (([.ref ax, .int p0, .int p1] : List Value).toArray) s 0 0 A) (F0 m 50 ls [])) → W p l e (headSpec wsX1_likeLines ({ frames := 1, cells := 0, slots := 0, locals := 21 })).room s m (([.ref ax, .int p0, .int p1] : List Value).toArray) below meth c H locs 0 0 (MQ below (va_Qi (fun (r : Int32) (_ : Unit) => r = res) (QW (dC, dI) cy A [(ax, .inr (1, [.ref axj])), (axj, .inl (cy, 6, .inl fxj))]) A) (([.ref ax, .int p0, .int p1] : List Value).toArray) s 0 0 A) (F0 m 5 ls []) := by
    intro n
    induction n with
    | zero =>
      intro l1 l2 l3 l4 rs H locs ls h
      rw [fX1_likeLines_L5_0] at h
      cases h
    | succ n ih =>
      intro l1 l2 l3 l4 rs H locs ls h hl hP hD hS K
      rw [fX1_likeLines_L5_s] at h
      refine lv_iload hx hb dX1_likeLines_5 (lv_at hl 4 rfl) ?_
      refine lv_bipush (v := (6 : Int32)) hx hb dX1_likeLines_7 (by decide) ?_
      refine lv_icmp_ge (tgt := 50) hx hb dX1_likeLines_9 (by decide) (fun c4 => ?_) (fun c4 => ?_)
      · rw [if_pos c4] at h
        have h0 := Option.some.inj h
        subst h0
        exact K H locs ls (lv_sub hl [0, 1, 2, 3, 4] rfl) hP hD hS
      · rw [if_neg c4] at h
        refine lv_iload_n hx hb dX1_likeLines_12 rfl (lv_at hl 1 rfl) ?_
        refine lv_iload hx hb dX1_likeLines_13 (lv_at hl 4 rfl) ?_
        refine lv_ishr hx hb dX1_likeLines_15 ?_
        refine lv_iconst (v := (1 : Int32)) hx hb dX1_likeLines_16 (by decide) ?_
        refine lv_iand hx hb dX1_likeLines_17 ?_
        refine lv_iconst (v := (1 : Int32)) hx hb dX1_likeLines_18 (by decide) ?_
        refine lv_icmp_ne (tgt := 44) hx hb dX1_likeLines_19 (by decide) (fun c3 => ?_) (fun c3 => ?_)
        · rw [if_neg c3] at h
          refine lv_iinc (v := l4 + (1 : Int32)) (lv' := [(4, .int (l4 + (1 : Int32))), (0, .ref ax), (1, .int l1), (2, .int l2), (3, .int l3)]) hx hb dX1_likeLines_44 hl (k := 4) rfl rfl (by decide) rfl (fun ls hl => ?_)
          refine lv_goto (tgt := 5) hx hb dX1_likeLines_47 (by decide) ?_
          exact ih l1 l2 l3 (l4 + (1 : Int32)) rs H locs ls h (lv_sub hl [1, 2, 3, 4, 0] rfl) hP hD hS K
        · rw [if_pos c3] at h
          refine lv_iload_n hx hb dX1_likeLines_22 rfl (lv_at hl 3 rfl) ?_
          refine lv_aload_n hx hb dX1_likeLines_23 rfl (lv_at hl 0 rfl) ?_
          refine va_get (D := (dC, dI)) (ci := 1) (v := .ref axj) (C := RX1) (T := TX1) (N := 1) hx hb hts hin_X1 hown hK hP 0 rfl rfl 0 (by decide) (hf_9) (fun _ h9 => h9) rfl dX1_likeLines_24 ?_
          refine lv_iload hx hb dX1_likeLines_27 (lv_at hl 4 rfl) ?_
          obtain ⟨hi, h⟩ := gin_some h
          refine va_iald hx hb hK hP 1 0 rfl rfl hi dX1_likeLines_29 ?_
          refine lv_iload_n hx hb dX1_likeLines_30 rfl (lv_at hl 1 rfl) ?_
          refine lv_iand hx hb dX1_likeLines_31 ?_
          refine lv_iload hx hb dX1_likeLines_32 (lv_at hl 4 rfl) ?_
          refine lv_iload_n hx hb dX1_likeLines_34 rfl (lv_at hl 2 rfl) ?_
          obtain ⟨r1, hr1, h⟩ := bd_some h
          have hFc := va_free (wc := []) hD hS hA [] rfl
          refine va_calli (va_runS (As := [.int l4, .int l2]) (rest := [.int ((fxj l4.toNatClampNeg) &&& l1), .int l3]) ⟨hx, hb, hml, hown, hts⟩ (c_X1_alikeTo l dC dI cy  H.size  l4 l2 r1 hr1) (va_cwS 2 hts gX1_likeLines_X1_alikeTo rfl rfl rfl (by decide +kernel) ⟨Nat.le_of_ble_eq_true rfl, Nat.le_of_ble_eq_true rfl⟩) ⟨PW_fb, PW_pre (hP.sub (ws' := []) [] rfl) hK (hD.sub [] (by decide) rfl) hN⟩ rfl rfl hl.1 rfl (lv_room (Nat.le_of_ble_eq_true rfl)) dX1_likeLines_35 ⟨Nat.zero_le _, Nat.zero_le _⟩) hS (fun q _ h => hFc q h) hFc (fun rz u t H locs ht hvm hw hB hz1 hk1 hS => ?_)
          obtain ⟨hP, hD⟩ := jn (wr := [(ax, .inr (1, [.ref axj])), (axj, .inl (cy, 6, .inl fxj))]) (w1 := []) (ws' := [(ax, .inr (1, [.ref axj])), (axj, .inl (cy, 6, .inl fxj))]) hP hD [] [0, 1] rfl rfl (by decide) (by decide) hk1 hFc hB ht [0, 1] rfl (by decide) rfl
          replace hw := hw.symm
          subst hw
          clear hFc hB hk1 hz1 hvm
          refine lv_iand hx hb dX1_likeLines_38 ?_
          obtain ⟨r2, hr2, h⟩ := bd_some h
          have hFc := va_free (wc := []) hD hS hA [] rfl
          refine va_calli (va_runS (As := [.int (((fxj l4.toNatClampNeg) &&& l1) &&& r1)]) (rest := [.int l3]) ⟨hx, hb, hml, hown, hts⟩ (c_J6_bitCount_0f7a4 l dC dI cy  H.size  (((fxj l4.toNatClampNeg) &&& l1) &&& r1) r2 hr2) (va_cwS 1 hts gX1_likeLines_J6_bitCount_0f7a4 rfl rfl rfl (by decide +kernel) ⟨Nat.le_of_ble_eq_true rfl, Nat.le_of_ble_eq_true rfl⟩) ⟨PW_fb, PW_pre (hP.sub (ws' := []) [] rfl) hK (hD.sub [] (by decide) rfl) hN⟩ rfl rfl hl.1 rfl (lv_room (Nat.le_of_ble_eq_true rfl)) dX1_likeLines_39 ⟨Nat.zero_le _, Nat.zero_le _⟩) hS (fun q _ h => hFc q h) hFc (fun rz u t H locs ht hvm hw hB hz1 hk1 hS => ?_)
          obtain ⟨hP, hD⟩ := jn (wr := [(ax, .inr (1, [.ref axj])), (axj, .inl (cy, 6, .inl fxj))]) (w1 := []) (ws' := [(ax, .inr (1, [.ref axj])), (axj, .inl (cy, 6, .inl fxj))]) hP hD [] [0, 1] rfl rfl (by decide) (by decide) hk1 hFc hB ht [0, 1] rfl (by decide) rfl
          replace hw := hw.symm
          subst hw
          clear hFc hB hk1 hz1 hvm
          refine lv_iadd hx hb dX1_likeLines_42 ?_
          refine lv_istore_n (lv' := [(3, .int (l3 + r2)), (0, .ref ax), (1, .int l1), (2, .int l2), (4, .int l4)]) hx hb dX1_likeLines_43 rfl hl (by decide) rfl (fun ls hl => ?_)
          refine lv_iinc (v := l4 + (1 : Int32)) (lv' := [(4, .int (l4 + (1 : Int32))), (3, .int (l3 + r2)), (0, .ref ax), (1, .int l1), (2, .int l2)]) hx hb dX1_likeLines_44 hl (k := 4) rfl rfl (by decide) rfl (fun ls hl => ?_)
          refine lv_goto (tgt := 5) hx hb dX1_likeLines_47 (by decide) ?_
          exact ih l1 l2 (l3 + r2) (l4 + (1 : Int32)) rs H locs ls h (lv_sub hl [2, 3, 4, 1, 0] rfl) hP hD hS K
  obtain ⟨q6, hq6, h⟩ := bd_some h
  refine L5_4 FU p0 p1 (0 : Int32) (0 : Int32) q6 H locs ls hq6 (lv_sub hl [2, 3, 4, 1, 0] rfl) hP hD hS (fun H locs ls hl hP hD hS => ?_)
  refine lv_iload_n hx hb dX1_likeLines_50 rfl (lv_at hl 3 rfl) ?_
  refine lv_iconst (v := (2 : Int32)) hx hb dX1_likeLines_51 (by decide) ?_
  refine lv_idiv hx hb dX1_likeLines_52 (by decide) ?_
  have h0 := Option.some.inj h
  subst h0
  exact W.iret hx hb hr (fun t ht hW => ⟨⟨_, (), rfl, rfl, QW_mk hP hK hD ht hW⟩, hS.F ht⟩) hS.2.2 dX1_likeLines_53

noncomputable def fX1_lines (fxj : Nat → Int32)  : Option (Int32) := bd (fX1_likeLines fxj (63 : Int32) (0 : Int32)) fun r1 => some r1
set_option maxHeartbeats 4000000 in
set_option maxRecDepth 100000 in
theorem c_X1_lines (l : Launch) (dC : Nat → ClassId) (dI : Nat → Nat → Nat) (cy : ClassId) (ax axj : Nat) (sz : Nat) (fxj : Nat → Int32)  (res : Int32) (h : fX1_lines fxj = some res) : Met l yX1_lines wsX1_lines ({ frames := 2, cells := 0, slots := 0, locals := 45 }) (va_Pc [.ref ax] (PW (dC, dI) cy sz [(ax, .inr (1, [.ref axj])), (axj, .inl (cy, 6, .inl fxj))])) (va_Qi (fun (r : Int32) (_ : Unit) => r = res) (QW (dC, dI) cy (va_A [(ax, .inr (1, [.ref axj])), (axj, .inl (cy, 6, .inl fxj))] sz) [(ax, .inr (1, [.ref axj])), (axj, .inl (cy, 6, .inl fxj))]) (va_A [(ax, .inr (1, [.ref axj])), (axj, .inl (cy, 6, .inl fxj))] sz)) 0 0 (va_A [(ax, .inr (1, [.ref axj])), (axj, .inl (cy, 6, .inl fxj))] sz) := by
  refine Met.ofW (cc := cX1_lines) (maxL := 1) (ret := (some .int)) (by decide) rfl ?_
  intro p e s m args below meth c s₁ B hml hv
  obtain ⟨rfl, hsz, hP, hK, hD0, hN⟩ := hv
  have hx := B.exec
  have hb := B.bytes
  have hr := B.returns
  have hts := atoms_spec (ws := wsX1_lines) B.pre
  have hown : s.vm.findClass RX1 = some m.cls := findClass_of_methodNamed B.named
  have hlocks := B.notSynchronized
  subst hsz
  have hD := hD0.self (sz := s.heap.size)
  clear hD0
  generalize hAe : va_A [(ax, .inr (1, [.ref axj])), (axj, .inl (cy, 6, .inl fxj))] s.heap.size = A at hD ⊢
  have hA : ∀ q : Nat, s.heap.size ≤ q → A q := fun q h => by rw [← hAe]; exact Or.inr h
  have hS : va_S A s.heap s.heap [] := va_S.rf
  have hl := lv_entry ([.ref ax]) (n := 1) (Nat.le_of_ble_eq_true rfl)
  rw [lg_entry_eq]
  generalize (lg_sl ([.ref ax]) ++ List.replicate (1 - (lg_sl ([.ref ax])).length) Slot.unset).toArray = ls at hl ⊢
  replace hl : lv_has ls 1 [(0, .ref ax)] := hl
  replace hP : va_P (dC, dI) vwCl [(ax, .inr (1, [.ref axj])), (axj, .inl (cy, 6, .inl fxj))] s.heap := hP
  obtain ⟨locs, hlocs⟩ : ∃ lc : List Loc, lc = [] := ⟨_, rfl⟩
  rw [← hlocs] at hS ⊢
  obtain ⟨H, hH⟩ : ∃ H : Heap, H = s.heap := ⟨_, rfl⟩
  have hP2 := hP; rw [← hH] at hP2
  have hS2 : va_S A s.heap H locs := by rw [hH]; exact hS
  suffices hgo : W p l e (headSpec wsX1_lines ({ frames := 2, cells := 0, slots := 0, locals := 45 })).room s m (([.ref ax] : List Value).toArray) below meth c H locs 0 0 (MQ below (va_Qi (fun (r : Int32) (_ : Unit) => r = res) (QW (dC, dI) cy A [(ax, .inr (1, [.ref axj])), (axj, .inl (cy, 6, .inl fxj))]) A) (([.ref ax] : List Value).toArray) s 0 0 A) (F0 m 0 ls []) by rw [hH] at hgo; exact hgo
  replace hP := hP2
  replace hS := hS2
  clear hP2 hS2
  unfold fX1_lines at h
  refine lv_aload_n hx hb dX1_lines_0 rfl (lv_at hl 0 rfl) ?_
  refine lv_bipush (v := (63 : Int32)) hx hb dX1_lines_1 (by decide) ?_
  refine lv_iconst (v := (0 : Int32)) hx hb dX1_lines_3 (by decide) ?_
  obtain ⟨r1, hr1, h⟩ := bd_some h
  have hFc := va_free (wc := [(ax, .inr (1, [.ref axj])), (axj, .inl (cy, 6, .inl fxj))]) hD hS hA [0, 1] rfl
  refine va_calli (va_runV (As := [.int (63 : Int32), .int (0 : Int32)]) (rest := []) ⟨hx, hb, hml, hown, hts⟩ (c_X1_likeLines l dC dI cy ax axj H.size fxj (63 : Int32) (0 : Int32) r1 hr1) (cwV 2 hts gX1_lines_X1_likeLines rfl rfl rfl (by decide +kernel) ⟨Nat.le_of_ble_eq_true rfl, Nat.le_of_ble_eq_true rfl⟩) ⟨PW_fb, va_recv hK hP (ci := 1) (q0 := 0) rfl rfl, PW_pre (hP.sub (ws' := [(ax, .inr (1, [.ref axj])), (axj, .inl (cy, 6, .inl fxj))]) [0, 1] rfl) hK (hD.sub [0, 1] (by decide) rfl) hN⟩ rfl rfl hl.1 rfl (lv_room (Nat.le_of_ble_eq_true rfl)) dX1_lines_4 ⟨Nat.zero_le _, Nat.zero_le _⟩) hS (fun q _ h => hFc q h) hFc (fun rz u t H locs ht hvm hw hB hz1 hk1 hS => ?_)
  obtain ⟨hP, hD⟩ := jn (wr := []) (w1 := [(ax, .inr (1, [.ref axj])), (axj, .inl (cy, 6, .inl fxj))]) (ws' := [(ax, .inr (1, [.ref axj])), (axj, .inl (cy, 6, .inl fxj))]) hP hD [0, 1] [] rfl rfl (by decide) (by decide) hk1 hFc hB ht [0, 1] rfl (by decide) rfl
  replace hw := hw.symm
  subst hw
  clear hFc hB hk1 hz1 hvm
  have h0 := Option.some.inj h
  subst h0
  exact W.iret hx hb hr (fun t ht hW => ⟨⟨_, (), rfl, rfl, QW_mk hP hK hD ht hW⟩, hS.F ht⟩) hS.2.2 dX1_lines_7

noncomputable def fX1_cutLikeLines_L2 (n : Nat) (l1 : Int32) (l2 : Int32) (fxj : Nat → Int32) : Option (Int32 × (Nat → Int32)) := match n with
  | 0 => none
  | n + 1 => if (6 : Int32) ≤ l2 then (some (l2, fxj)) else (gin l2 6 (bd (fX1_alikeTo l2 l1) fun r1 => gin l2 6 (fX1_cutLikeLines_L2 n l1 (l2 + (1 : Int32)) (upd fxj l2.toNatClampNeg ((fxj l2.toNatClampNeg) &&& (r1 ^^^ (-1 : Int32)))))))
theorem fX1_cutLikeLines_L2_0 (l1 : Int32) (l2 : Int32) (fxj : Nat → Int32) : fX1_cutLikeLines_L2 0 l1 l2 fxj = none := rfl
theorem fX1_cutLikeLines_L2_s (n : Nat) (l1 : Int32) (l2 : Int32) (fxj : Nat → Int32) : fX1_cutLikeLines_L2 (n + 1) l1 l2 fxj = if (6 : Int32) ≤ l2 then (some (l2, fxj)) else (gin l2 6 (bd (fX1_alikeTo l2 l1) fun r1 => gin l2 6 (fX1_cutLikeLines_L2 n l1 (l2 + (1 : Int32)) (upd fxj l2.toNatClampNeg ((fxj l2.toNatClampNeg) &&& (r1 ^^^ (-1 : Int32))))))) := rfl
noncomputable def fX1_cutLikeLines (fxj : Nat → Int32) (p0 : Int32) : Option ((Nat → Int32)) := bd (fX1_cutLikeLines_L2 FU p0 (0 : Int32) fxj) fun q4 => some q4.2
set_option maxHeartbeats 4000000 in
set_option maxRecDepth 100000 in
theorem c_X1_cutLikeLines (l : Launch) (dC : Nat → ClassId) (dI : Nat → Nat → Nat) (cy : ClassId) (ax axj : Nat) (sz : Nat) (fxj : Nat → Int32) (p0 : Int32) (res : (Nat → Int32)) (h : fX1_cutLikeLines fxj p0 = some res) : Met l yX1_cutLikeLines wsX1_cutLikeLines ({ frames := 1, cells := 0, slots := 0, locals := 21 }) (va_Pc [.ref ax, .int p0] (PW (dC, dI) cy sz [(ax, .inr (1, [.ref axj])), (axj, .inl (cy, 6, .inl fxj))])) (va_Qv (fun (_ : Unit) => True) (QW (dC, dI) cy (va_A [(ax, .inr (1, [.ref axj])), (axj, .inl (cy, 6, .inl fxj))] sz) [(ax, .inr (1, [.ref axj])), (axj, .inl (cy, 6, .inl res))]) (va_A [(ax, .inr (1, [.ref axj])), (axj, .inl (cy, 6, .inl fxj))] sz)) 0 0 (va_A [(ax, .inr (1, [.ref axj])), (axj, .inl (cy, 6, .inl fxj))] sz) := by
  refine Met.ofW (cc := cX1_cutLikeLines) (maxL := 3) (ret := none) (by decide) rfl ?_
  intro p e s m args below meth c s₁ B hml hv
  obtain ⟨rfl, hsz, hP, hK, hD0, hN⟩ := hv
  have hx := B.exec
  have hb := B.bytes
  have hr := B.returns
  have hts := atoms_spec (ws := wsX1_cutLikeLines) B.pre
  have hown : s.vm.findClass RX1 = some m.cls := findClass_of_methodNamed B.named
  have hlocks := B.notSynchronized
  subst hsz
  have hD := hD0.self (sz := s.heap.size)
  clear hD0
  generalize hAe : va_A [(ax, .inr (1, [.ref axj])), (axj, .inl (cy, 6, .inl fxj))] s.heap.size = A at hD ⊢
  have hA : ∀ q : Nat, s.heap.size ≤ q → A q := fun q h => by rw [← hAe]; exact Or.inr h
  have hS : va_S A s.heap s.heap [] := va_S.rf
  have hl := lv_entry ([.ref ax, .int p0]) (n := 3) (Nat.le_of_ble_eq_true rfl)
  rw [lg_entry_eq]
  generalize (lg_sl ([.ref ax, .int p0]) ++ List.replicate (3 - (lg_sl ([.ref ax, .int p0])).length) Slot.unset).toArray = ls at hl ⊢
  replace hl : lv_has ls 3 [(0, .ref ax), (1, .int p0)] := hl
  replace hP : va_P (dC, dI) vwCl [(ax, .inr (1, [.ref axj])), (axj, .inl (cy, 6, .inl fxj))] s.heap := hP
  obtain ⟨locs, hlocs⟩ : ∃ lc : List Loc, lc = [] := ⟨_, rfl⟩
  rw [← hlocs] at hS ⊢
  obtain ⟨H, hH⟩ : ∃ H : Heap, H = s.heap := ⟨_, rfl⟩
  have hP2 := hP; rw [← hH] at hP2
  have hS2 : va_S A s.heap H locs := by rw [hH]; exact hS
  suffices hgo : W p l e (headSpec wsX1_cutLikeLines ({ frames := 1, cells := 0, slots := 0, locals := 21 })).room s m (([.ref ax, .int p0] : List Value).toArray) below meth c H locs 0 0 (MQ below (va_Qv (fun (_ : Unit) => True) (QW (dC, dI) cy A [(ax, .inr (1, [.ref axj])), (axj, .inl (cy, 6, .inl res))]) A) (([.ref ax, .int p0] : List Value).toArray) s 0 0 A) (F0 m 0 ls []) by rw [hH] at hgo; exact hgo
  replace hP := hP2
  replace hS := hS2
  clear hP2 hS2
  have hin_X1 : ∀ w ∈ wsX10, w ∈ wsX1_cutLikeLines := by decide +kernel
  have hf_9 := hts (.fieldLink RX1 9 "FewLooks$Net" "joins" "[I") (by decide +kernel)
  unfold fX1_cutLikeLines at h
  refine lv_iconst (v := (0 : Int32)) hx hb dX1_cutLikeLines_0 (by decide) ?_
  refine lv_istore_n (lv' := [(2, .int (0 : Int32)), (0, .ref ax), (1, .int p0)]) hx hb dX1_cutLikeLines_1 rfl hl (by decide) rfl (fun ls hl => ?_)
  have L2_2 : ∀ (n : Nat) (l1 : Int32) (l2 : Int32) (fxj : Nat → Int32) (rs : (Int32 × (Nat → Int32))) (H : Heap) (locs : List Loc) (ls : Array Slot), fX1_cutLikeLines_L2 n l1 l2 fxj = some rs → lv_has ls 3 [(0, .ref ax), (1, .int l1), (2, .int l2)] → va_P (dC, dI) vwCl [(ax, .inr (1, [.ref axj])), (axj, .inl (cy, 6, .inl fxj))] H → va_D A [(ax, .inr (1, [.ref axj])), (axj, .inl (cy, 6, .inl fxj))] → va_S A s.heap H locs → (∀ (H : Heap) (locs : List Loc) (ls : Array Slot), lv_has ls 3 [(0, .ref ax), (1, .int l1), (2, .int rs.1)] → va_P (dC, dI) vwCl [(ax, .inr (1, [.ref axj])), (axj, .inl (cy, 6, .inl rs.2))] H → va_D A [(ax, .inr (1, [.ref axj])), (axj, .inl (cy, 6, .inl rs.2))] → va_S A s.heap H locs → W p l e (headSpec wsX1_cutLikeLines ({ frames := 1, cells := 0, slots := 0, locals := 21 })).room s m (([.ref ax, .int p0] : List Value).toArray) below meth c H locs 0 0 (MQ below (va_Qv (fun (_ : Unit) => True) (QW (dC, dI) cy A [(ax, .inr (1, [.ref axj])), (axj, .inl (cy, 6, .inl res))]) A) (([.ref ax, .int p0] : List Value).toArray) s 0 0 A) (F0 m 30 ls [])) → W p l e (headSpec wsX1_cutLikeLines ({ frames := 1, cells := 0, slots := 0, locals := 21 })).room s m (([.ref ax, .int p0] : List Value).toArray) below meth c H locs 0 0 (MQ below (va_Qv (fun (_ : Unit) => True) (QW (dC, dI) cy A [(ax, .inr (1, [.ref axj])), (axj, .inl (cy, 6, .inl res))]) A) (([.ref ax, .int p0] : List Value).toArray) s 0 0 A) (F0 m 2 ls []) := by
    intro n
    induction n with
    | zero =>
      intro l1 l2 fxj rs H locs ls h
      rw [fX1_cutLikeLines_L2_0] at h
      cases h
    | succ n ih =>
      intro l1 l2 fxj rs H locs ls h hl hP hD hS K
      rw [fX1_cutLikeLines_L2_s] at h
      refine lv_iload_n hx hb dX1_cutLikeLines_2 rfl (lv_at hl 2 rfl) ?_
      refine lv_bipush (v := (6 : Int32)) hx hb dX1_cutLikeLines_3 (by decide) ?_
      refine lv_icmp_ge (tgt := 30) hx hb dX1_cutLikeLines_5 (by decide) (fun c2 => ?_) (fun c2 => ?_)
      · rw [if_pos c2] at h
        have h0 := Option.some.inj h
        subst h0
        exact K H locs ls (lv_sub hl [0, 1, 2] rfl) hP hD hS
      · rw [if_neg c2] at h
        refine lv_aload_n hx hb dX1_cutLikeLines_8 rfl (lv_at hl 0 rfl) ?_
        refine va_get (D := (dC, dI)) (ci := 1) (v := .ref axj) (C := RX1) (T := TX1) (N := 1) hx hb hts hin_X1 hown hK hP 0 rfl rfl 0 (by decide) (hf_9) (fun _ h9 => h9) rfl dX1_cutLikeLines_9 ?_
        refine lv_iload_n hx hb dX1_cutLikeLines_12 rfl (lv_at hl 2 rfl) ?_
        refine lv_dup2_11 hx hb dX1_cutLikeLines_13 rfl rfl ?_
        obtain ⟨hi, h⟩ := gin_some h
        refine va_iald hx hb hK hP 1 0 rfl rfl hi dX1_cutLikeLines_14 ?_
        refine lv_iload_n hx hb dX1_cutLikeLines_15 rfl (lv_at hl 2 rfl) ?_
        refine lv_iload_n hx hb dX1_cutLikeLines_16 rfl (lv_at hl 1 rfl) ?_
        obtain ⟨r1, hr1, h⟩ := bd_some h
        have hFc := va_free (wc := []) hD hS hA [] rfl
        refine va_calli (va_runS (As := [.int l2, .int l1]) (rest := [.int (fxj l2.toNatClampNeg), .int l2, .ref axj]) ⟨hx, hb, hml, hown, hts⟩ (c_X1_alikeTo l dC dI cy  H.size  l2 l1 r1 hr1) (va_cwS 2 hts gX1_cutLikeLines_X1_alikeTo rfl rfl rfl (by decide +kernel) ⟨Nat.le_of_ble_eq_true rfl, Nat.le_of_ble_eq_true rfl⟩) ⟨PW_fb, PW_pre (hP.sub (ws' := []) [] rfl) hK (hD.sub [] (by decide) rfl) hN⟩ rfl rfl hl.1 rfl (lv_room (Nat.le_of_ble_eq_true rfl)) dX1_cutLikeLines_17 ⟨Nat.zero_le _, Nat.zero_le _⟩) hS (fun q _ h => hFc q h) hFc (fun rz u t H locs ht hvm hw hB hz1 hk1 hS => ?_)
        obtain ⟨hP, hD⟩ := jn (wr := [(ax, .inr (1, [.ref axj])), (axj, .inl (cy, 6, .inl fxj))]) (w1 := []) (ws' := [(ax, .inr (1, [.ref axj])), (axj, .inl (cy, 6, .inl fxj))]) hP hD [] [0, 1] rfl rfl (by decide) (by decide) hk1 hFc hB ht [0, 1] rfl (by decide) rfl
        replace hw := hw.symm
        subst hw
        clear hFc hB hk1 hz1 hvm
        refine lv_iconst (v := (-1 : Int32)) hx hb dX1_cutLikeLines_20 (by decide) ?_
        refine lv_ixor hx hb dX1_cutLikeLines_21 ?_
        refine lv_iand hx hb dX1_cutLikeLines_22 ?_
        obtain ⟨hi, h⟩ := gin_some h
        refine va_iast hx hb hK hP hD hS 1 0 rfl rfl hi dX1_cutLikeLines_23 (fun H locs hP hD hS => ?_)
        replace hP : va_P (dC, dI) vwCl [(ax, .inr (1, [.ref axj])), (axj, .inl (cy, 6, .inl (upd fxj l2.toNatClampNeg ((fxj l2.toNatClampNeg) &&& (r1 ^^^ (-1 : Int32))))))] H := hP
        replace hD : va_D A [(ax, .inr (1, [.ref axj])), (axj, .inl (cy, 6, .inl (upd fxj l2.toNatClampNeg ((fxj l2.toNatClampNeg) &&& (r1 ^^^ (-1 : Int32))))))] := hD
        refine lv_iinc (v := l2 + (1 : Int32)) (lv' := [(2, .int (l2 + (1 : Int32))), (0, .ref ax), (1, .int l1)]) hx hb dX1_cutLikeLines_24 hl (k := 2) rfl rfl (by decide) rfl (fun ls hl => ?_)
        refine lv_goto (tgt := 2) hx hb dX1_cutLikeLines_27 (by decide) ?_
        exact ih l1 (l2 + (1 : Int32)) (upd fxj l2.toNatClampNeg ((fxj l2.toNatClampNeg) &&& (r1 ^^^ (-1 : Int32)))) rs H locs ls h (lv_sub hl [1, 2, 0] rfl) hP hD hS K
  obtain ⟨q4, hq4, h⟩ := bd_some h
  refine L2_2 FU p0 (0 : Int32) fxj q4 H locs ls hq4 (lv_sub hl [1, 2, 0] rfl) hP hD hS (fun H locs ls hl hP hD hS => ?_)
  have h0 := Option.some.inj h
  subst h0
  exact W.vret hx hb hr (fun t ht hW => ⟨⟨(), rfl, trivial, QW_mk hP hK hD ht hW⟩, hS.F ht⟩) hS.2.2 dX1_cutLikeLines_30

noncomputable def fX1_bestColouringOf_L12 (n : Nat) (l1 : Int32) (l2 : Int32) (l3 : Int32) (l4 : Int32) (fxj : Nat → Int32) : Option (Int32 × Int32 × Int32) := match n with
  | 0 => none
  | n + 1 => if (63 : Int32) < l4 then (some (l2, l3, l4)) else (bd (fX1_likeLines fxj l1 l4) fun r2 => if l3 ≤ r2 then (fX1_bestColouringOf_L12 n l1 l2 l3 (l4 + (2 : Int32)) fxj) else (fX1_bestColouringOf_L12 n l1 l4 r2 (l4 + (2 : Int32)) fxj))
theorem fX1_bestColouringOf_L12_0 (l1 : Int32) (l2 : Int32) (l3 : Int32) (l4 : Int32) (fxj : Nat → Int32) : fX1_bestColouringOf_L12 0 l1 l2 l3 l4 fxj = none := rfl
theorem fX1_bestColouringOf_L12_s (n : Nat) (l1 : Int32) (l2 : Int32) (l3 : Int32) (l4 : Int32) (fxj : Nat → Int32) : fX1_bestColouringOf_L12 (n + 1) l1 l2 l3 l4 fxj = if (63 : Int32) < l4 then (some (l2, l3, l4)) else (bd (fX1_likeLines fxj l1 l4) fun r2 => if l3 ≤ r2 then (fX1_bestColouringOf_L12 n l1 l2 l3 (l4 + (2 : Int32)) fxj) else (fX1_bestColouringOf_L12 n l1 l4 r2 (l4 + (2 : Int32)) fxj)) := rfl
noncomputable def fX1_bestColouringOf (fxj : Nat → Int32) (p0 : Int32) : Option (Int32) := bd (fX1_likeLines fxj p0 (0 : Int32)) fun r1 => bd (fX1_bestColouringOf_L12 FU p0 (0 : Int32) r1 (2 : Int32) fxj) fun q6 => some q6.1
set_option maxHeartbeats 4000000 in
set_option maxRecDepth 100000 in
theorem c_X1_bestColouringOf (l : Launch) (dC : Nat → ClassId) (dI : Nat → Nat → Nat) (cy : ClassId) (ax axj : Nat) (sz : Nat) (fxj : Nat → Int32) (p0 : Int32) (res : Int32) (h : fX1_bestColouringOf fxj p0 = some res) : Met l yX1_bestColouringOf wsX1_bestColouringOf ({ frames := 2, cells := 0, slots := 0, locals := 45 }) (va_Pc [.ref ax, .int p0] (PW (dC, dI) cy sz [(ax, .inr (1, [.ref axj])), (axj, .inl (cy, 6, .inl fxj))])) (va_Qi (fun (r : Int32) (_ : Unit) => r = res) (QW (dC, dI) cy (va_A [(ax, .inr (1, [.ref axj])), (axj, .inl (cy, 6, .inl fxj))] sz) [(ax, .inr (1, [.ref axj])), (axj, .inl (cy, 6, .inl fxj))]) (va_A [(ax, .inr (1, [.ref axj])), (axj, .inl (cy, 6, .inl fxj))] sz)) 0 0 (va_A [(ax, .inr (1, [.ref axj])), (axj, .inl (cy, 6, .inl fxj))] sz) := by
  refine Met.ofW (cc := cX1_bestColouringOf) (maxL := 6) (ret := (some .int)) (by decide) rfl ?_
  intro p e s m args below meth c s₁ B hml hv
  obtain ⟨rfl, hsz, hP, hK, hD0, hN⟩ := hv
  have hx := B.exec
  have hb := B.bytes
  have hr := B.returns
  have hts := atoms_spec (ws := wsX1_bestColouringOf) B.pre
  have hown : s.vm.findClass RX1 = some m.cls := findClass_of_methodNamed B.named
  have hlocks := B.notSynchronized
  subst hsz
  have hD := hD0.self (sz := s.heap.size)
  clear hD0
  generalize hAe : va_A [(ax, .inr (1, [.ref axj])), (axj, .inl (cy, 6, .inl fxj))] s.heap.size = A at hD ⊢
  have hA : ∀ q : Nat, s.heap.size ≤ q → A q := fun q h => by rw [← hAe]; exact Or.inr h
  have hS : va_S A s.heap s.heap [] := va_S.rf
  have hl := lv_entry ([.ref ax, .int p0]) (n := 6) (Nat.le_of_ble_eq_true rfl)
  rw [lg_entry_eq]
  generalize (lg_sl ([.ref ax, .int p0]) ++ List.replicate (6 - (lg_sl ([.ref ax, .int p0])).length) Slot.unset).toArray = ls at hl ⊢
  replace hl : lv_has ls 6 [(0, .ref ax), (1, .int p0)] := hl
  replace hP : va_P (dC, dI) vwCl [(ax, .inr (1, [.ref axj])), (axj, .inl (cy, 6, .inl fxj))] s.heap := hP
  obtain ⟨locs, hlocs⟩ : ∃ lc : List Loc, lc = [] := ⟨_, rfl⟩
  rw [← hlocs] at hS ⊢
  obtain ⟨H, hH⟩ : ∃ H : Heap, H = s.heap := ⟨_, rfl⟩
  have hP2 := hP; rw [← hH] at hP2
  have hS2 : va_S A s.heap H locs := by rw [hH]; exact hS
  suffices hgo : W p l e (headSpec wsX1_bestColouringOf ({ frames := 2, cells := 0, slots := 0, locals := 45 })).room s m (([.ref ax, .int p0] : List Value).toArray) below meth c H locs 0 0 (MQ below (va_Qi (fun (r : Int32) (_ : Unit) => r = res) (QW (dC, dI) cy A [(ax, .inr (1, [.ref axj])), (axj, .inl (cy, 6, .inl fxj))]) A) (([.ref ax, .int p0] : List Value).toArray) s 0 0 A) (F0 m 0 ls []) by rw [hH] at hgo; exact hgo
  replace hP := hP2
  replace hS := hS2
  clear hP2 hS2
  unfold fX1_bestColouringOf at h
  refine lv_iconst (v := (0 : Int32)) hx hb dX1_bestColouringOf_0 (by decide) ?_
  refine lv_istore_n (lv' := [(2, .int (0 : Int32)), (0, .ref ax), (1, .int p0)]) hx hb dX1_bestColouringOf_1 rfl hl (by decide) rfl (fun ls hl => ?_)
  refine lv_aload_n hx hb dX1_bestColouringOf_2 rfl (lv_at hl 1 rfl) ?_
  refine lv_iload_n hx hb dX1_bestColouringOf_3 rfl (lv_at hl 2 rfl) ?_
  refine lv_iconst (v := (0 : Int32)) hx hb dX1_bestColouringOf_4 (by decide) ?_
  obtain ⟨r1, hr1, h⟩ := bd_some h
  have hFc := va_free (wc := [(ax, .inr (1, [.ref axj])), (axj, .inl (cy, 6, .inl fxj))]) hD hS hA [0, 1] rfl
  refine va_calli (va_runV (As := [.int p0, .int (0 : Int32)]) (rest := []) ⟨hx, hb, hml, hown, hts⟩ (c_X1_likeLines l dC dI cy ax axj H.size fxj p0 (0 : Int32) r1 hr1) (cwV 2 hts gX1_bestColouringOf_X1_likeLines rfl rfl rfl (by decide +kernel) ⟨Nat.le_of_ble_eq_true rfl, Nat.le_of_ble_eq_true rfl⟩) ⟨PW_fb, va_recv hK hP (ci := 1) (q0 := 0) rfl rfl, PW_pre (hP.sub (ws' := [(ax, .inr (1, [.ref axj])), (axj, .inl (cy, 6, .inl fxj))]) [0, 1] rfl) hK (hD.sub [0, 1] (by decide) rfl) hN⟩ rfl rfl hl.1 rfl (lv_room (Nat.le_of_ble_eq_true rfl)) dX1_bestColouringOf_5 ⟨Nat.zero_le _, Nat.zero_le _⟩) hS (fun q _ h => hFc q h) hFc (fun rz u t H locs ht hvm hw hB hz1 hk1 hS => ?_)
  obtain ⟨hP, hD⟩ := jn (wr := []) (w1 := [(ax, .inr (1, [.ref axj])), (axj, .inl (cy, 6, .inl fxj))]) (ws' := [(ax, .inr (1, [.ref axj])), (axj, .inl (cy, 6, .inl fxj))]) hP hD [0, 1] [] rfl rfl (by decide) (by decide) hk1 hFc hB ht [0, 1] rfl (by decide) rfl
  replace hw := hw.symm
  subst hw
  clear hFc hB hk1 hz1 hvm
  refine lv_istore_n (lv' := [(3, .int r1), (2, .int (0 : Int32)), (0, .ref ax), (1, .int p0)]) hx hb dX1_bestColouringOf_8 rfl hl (by decide) rfl (fun ls hl => ?_)
  refine lv_iconst (v := (2 : Int32)) hx hb dX1_bestColouringOf_9 (by decide) ?_
  refine lv_istore (lv' := [(4, .int (2 : Int32)), (3, .int r1), (2, .int (0 : Int32)), (0, .ref ax), (1, .int p0)]) hx hb dX1_bestColouringOf_10 hl (by decide) rfl (fun ls hl => ?_)
  have L12_4 : ∀ (n : Nat) (l1 : Int32) (l2 : Int32) (l3 : Int32) (l4 : Int32) (rs : (Int32 × Int32 × Int32)) (H : Heap) (locs : List Loc) (ls : Array Slot), fX1_bestColouringOf_L12 n l1 l2 l3 l4 fxj = some rs → lv_has ls 6 [(0, .ref ax), (1, .int l1), (2, .int l2), (3, .int l3), (4, .int l4)] → va_P (dC, dI) vwCl [(ax, .inr (1, [.ref axj])), (axj, .inl (cy, 6, .inl fxj))] H → va_D A [(ax, .inr (1, [.ref axj])), (axj, .inl (cy, 6, .inl fxj))] → va_S A s.heap H locs → (∀ (H : Heap) (locs : List Loc) (ls : Array Slot), lv_has ls 6 [(0, .ref ax), (1, .int l1), (2, .int rs.1), (3, .int rs.2.1), (4, .int rs.2.2)] → va_P (dC, dI) vwCl [(ax, .inr (1, [.ref axj])), (axj, .inl (cy, 6, .inl fxj))] H → va_D A [(ax, .inr (1, [.ref axj])), (axj, .inl (cy, 6, .inl fxj))] → va_S A s.heap H locs → W p l e (headSpec wsX1_bestColouringOf ({ frames := 2, cells := 0, slots := 0, locals := 45 })).room s m (([.ref ax, .int p0] : List Value).toArray) below meth c H locs 0 0 (MQ below (va_Qi (fun (r : Int32) (_ : Unit) => r = res) (QW (dC, dI) cy A [(ax, .inr (1, [.ref axj])), (axj, .inl (cy, 6, .inl fxj))]) A) (([.ref ax, .int p0] : List Value).toArray) s 0 0 A) (F0 m 46 ls [])) → W p l e (headSpec wsX1_bestColouringOf ({ frames := 2, cells := 0, slots := 0, locals := 45 })).room s m (([.ref ax, .int p0] : List Value).toArray) below meth c H locs 0 0 (MQ below (va_Qi (fun (r : Int32) (_ : Unit) => r = res) (QW (dC, dI) cy A [(ax, .inr (1, [.ref axj])), (axj, .inl (cy, 6, .inl fxj))]) A) (([.ref ax, .int p0] : List Value).toArray) s 0 0 A) (F0 m 12 ls []) := by
    intro n
    induction n with
    | zero =>
      intro l1 l2 l3 l4 rs H locs ls h
      rw [fX1_bestColouringOf_L12_0] at h
      cases h
    | succ n ih =>
      intro l1 l2 l3 l4 rs H locs ls h hl hP hD hS K
      rw [fX1_bestColouringOf_L12_s] at h
      refine lv_iload hx hb dX1_bestColouringOf_12 (lv_at hl 4 rfl) ?_
      refine lv_bipush (v := (63 : Int32)) hx hb dX1_bestColouringOf_14 (by decide) ?_
      refine lv_icmp_gt (tgt := 46) hx hb dX1_bestColouringOf_16 (by decide) (fun c4 => ?_) (fun c4 => ?_)
      · rw [if_pos c4] at h
        have h0 := Option.some.inj h
        subst h0
        exact K H locs ls (lv_sub hl [0, 1, 2, 3, 4] rfl) hP hD hS
      · rw [if_neg c4] at h
        refine lv_aload_n hx hb dX1_bestColouringOf_19 rfl (lv_at hl 0 rfl) ?_
        refine lv_iload_n hx hb dX1_bestColouringOf_20 rfl (lv_at hl 1 rfl) ?_
        refine lv_iload hx hb dX1_bestColouringOf_21 (lv_at hl 4 rfl) ?_
        obtain ⟨r2, hr2, h⟩ := bd_some h
        have hFc := va_free (wc := [(ax, .inr (1, [.ref axj])), (axj, .inl (cy, 6, .inl fxj))]) hD hS hA [0, 1] rfl
        refine va_calli (va_runV (As := [.int l1, .int l4]) (rest := []) ⟨hx, hb, hml, hown, hts⟩ (c_X1_likeLines l dC dI cy ax axj H.size fxj l1 l4 r2 hr2) (cwV 2 hts gX1_bestColouringOf_X1_likeLines rfl rfl rfl (by decide +kernel) ⟨Nat.le_of_ble_eq_true rfl, Nat.le_of_ble_eq_true rfl⟩) ⟨PW_fb, va_recv hK hP (ci := 1) (q0 := 0) rfl rfl, PW_pre (hP.sub (ws' := [(ax, .inr (1, [.ref axj])), (axj, .inl (cy, 6, .inl fxj))]) [0, 1] rfl) hK (hD.sub [0, 1] (by decide) rfl) hN⟩ rfl rfl hl.1 rfl (lv_room (Nat.le_of_ble_eq_true rfl)) dX1_bestColouringOf_23 ⟨Nat.zero_le _, Nat.zero_le _⟩) hS (fun q _ h => hFc q h) hFc (fun rz u t H locs ht hvm hw hB hz1 hk1 hS => ?_)
        obtain ⟨hP, hD⟩ := jn (wr := []) (w1 := [(ax, .inr (1, [.ref axj])), (axj, .inl (cy, 6, .inl fxj))]) (ws' := [(ax, .inr (1, [.ref axj])), (axj, .inl (cy, 6, .inl fxj))]) hP hD [0, 1] [] rfl rfl (by decide) (by decide) hk1 hFc hB ht [0, 1] rfl (by decide) rfl
        replace hw := hw.symm
        subst hw
        clear hFc hB hk1 hz1 hvm
        refine lv_istore (lv' := [(5, .int r2), (0, .ref ax), (1, .int l1), (2, .int l2), (3, .int l3), (4, .int l4)]) hx hb dX1_bestColouringOf_26 hl (by decide) rfl (fun ls hl => ?_)
        refine lv_iload hx hb dX1_bestColouringOf_28 (lv_at hl 0 rfl) ?_
        refine lv_iload_n hx hb dX1_bestColouringOf_30 rfl (lv_at hl 4 rfl) ?_
        refine lv_icmp_ge (tgt := 40) hx hb dX1_bestColouringOf_31 (by decide) (fun c3 => ?_) (fun c3 => ?_)
        · rw [if_pos c3] at h
          refine lv_iinc (v := l4 + (2 : Int32)) (lv' := [(4, .int (l4 + (2 : Int32))), (5, .int r2), (0, .ref ax), (1, .int l1), (2, .int l2), (3, .int l3)]) hx hb dX1_bestColouringOf_40 hl (k := 5) rfl rfl (by decide) rfl (fun ls hl => ?_)
          refine lv_goto (tgt := 12) hx hb dX1_bestColouringOf_43 (by decide) ?_
          exact ih l1 l2 l3 (l4 + (2 : Int32)) rs H locs ls h (lv_sub hl [2, 3, 4, 5, 0] rfl) hP hD hS K
        · rw [if_neg c3] at h
          refine lv_iload hx hb dX1_bestColouringOf_34 (lv_at hl 0 rfl) ?_
          refine lv_istore_n (lv' := [(3, .int r2), (5, .int r2), (0, .ref ax), (1, .int l1), (2, .int l2), (4, .int l4)]) hx hb dX1_bestColouringOf_36 rfl hl (by decide) rfl (fun ls hl => ?_)
          refine lv_iload hx hb dX1_bestColouringOf_37 (lv_at hl 5 rfl) ?_
          refine lv_istore_n (lv' := [(2, .int l4), (3, .int r2), (5, .int r2), (0, .ref ax), (1, .int l1), (4, .int l4)]) hx hb dX1_bestColouringOf_39 rfl hl (by decide) rfl (fun ls hl => ?_)
          refine lv_iinc (v := l4 + (2 : Int32)) (lv' := [(4, .int (l4 + (2 : Int32))), (2, .int l4), (3, .int r2), (5, .int r2), (0, .ref ax), (1, .int l1)]) hx hb dX1_bestColouringOf_40 hl (k := 5) rfl rfl (by decide) rfl (fun ls hl => ?_)
          refine lv_goto (tgt := 12) hx hb dX1_bestColouringOf_43 (by decide) ?_
          exact ih l1 l4 r2 (l4 + (2 : Int32)) rs H locs ls h (lv_sub hl [4, 5, 1, 2, 0] rfl) hP hD hS K
  obtain ⟨q6, hq6, h⟩ := bd_some h
  refine L12_4 FU p0 (0 : Int32) r1 (2 : Int32) q6 H locs ls hq6 (lv_sub hl [3, 4, 2, 1, 0] rfl) hP hD hS (fun H locs ls hl hP hD hS => ?_)
  refine lv_iload_n hx hb dX1_bestColouringOf_46 rfl (lv_at hl 2 rfl) ?_
  have h0 := Option.some.inj h
  subst h0
  exact W.iret hx hb hr (fun t ht hW => ⟨⟨_, (), rfl, rfl, QW_mk hP hK hD ht hW⟩, hS.F ht⟩) hS.2.2 dX1_bestColouringOf_47

noncomputable def fX1_bestColouring (fxj : Nat → Int32)  : Option (Int32) := bd (fX1_bestColouringOf fxj (63 : Int32)) fun r1 => some r1
set_option maxHeartbeats 4000000 in
set_option maxRecDepth 100000 in
theorem c_X1_bestColouring (l : Launch) (dC : Nat → ClassId) (dI : Nat → Nat → Nat) (cy : ClassId) (ax axj : Nat) (sz : Nat) (fxj : Nat → Int32)  (res : Int32) (h : fX1_bestColouring fxj = some res) : Met l yX1_bestColouring wsX1_bestColouring ({ frames := 3, cells := 0, slots := 0, locals := 70 }) (va_Pc [.ref ax] (PW (dC, dI) cy sz [(ax, .inr (1, [.ref axj])), (axj, .inl (cy, 6, .inl fxj))])) (va_Qi (fun (r : Int32) (_ : Unit) => r = res) (QW (dC, dI) cy (va_A [(ax, .inr (1, [.ref axj])), (axj, .inl (cy, 6, .inl fxj))] sz) [(ax, .inr (1, [.ref axj])), (axj, .inl (cy, 6, .inl fxj))]) (va_A [(ax, .inr (1, [.ref axj])), (axj, .inl (cy, 6, .inl fxj))] sz)) 0 0 (va_A [(ax, .inr (1, [.ref axj])), (axj, .inl (cy, 6, .inl fxj))] sz) := by
  refine Met.ofW (cc := cX1_bestColouring) (maxL := 1) (ret := (some .int)) (by decide) rfl ?_
  intro p e s m args below meth c s₁ B hml hv
  obtain ⟨rfl, hsz, hP, hK, hD0, hN⟩ := hv
  have hx := B.exec
  have hb := B.bytes
  have hr := B.returns
  have hts := atoms_spec (ws := wsX1_bestColouring) B.pre
  have hown : s.vm.findClass RX1 = some m.cls := findClass_of_methodNamed B.named
  have hlocks := B.notSynchronized
  subst hsz
  have hD := hD0.self (sz := s.heap.size)
  clear hD0
  generalize hAe : va_A [(ax, .inr (1, [.ref axj])), (axj, .inl (cy, 6, .inl fxj))] s.heap.size = A at hD ⊢
  have hA : ∀ q : Nat, s.heap.size ≤ q → A q := fun q h => by rw [← hAe]; exact Or.inr h
  have hS : va_S A s.heap s.heap [] := va_S.rf
  have hl := lv_entry ([.ref ax]) (n := 1) (Nat.le_of_ble_eq_true rfl)
  rw [lg_entry_eq]
  generalize (lg_sl ([.ref ax]) ++ List.replicate (1 - (lg_sl ([.ref ax])).length) Slot.unset).toArray = ls at hl ⊢
  replace hl : lv_has ls 1 [(0, .ref ax)] := hl
  replace hP : va_P (dC, dI) vwCl [(ax, .inr (1, [.ref axj])), (axj, .inl (cy, 6, .inl fxj))] s.heap := hP
  obtain ⟨locs, hlocs⟩ : ∃ lc : List Loc, lc = [] := ⟨_, rfl⟩
  rw [← hlocs] at hS ⊢
  obtain ⟨H, hH⟩ : ∃ H : Heap, H = s.heap := ⟨_, rfl⟩
  have hP2 := hP; rw [← hH] at hP2
  have hS2 : va_S A s.heap H locs := by rw [hH]; exact hS
  suffices hgo : W p l e (headSpec wsX1_bestColouring ({ frames := 3, cells := 0, slots := 0, locals := 70 })).room s m (([.ref ax] : List Value).toArray) below meth c H locs 0 0 (MQ below (va_Qi (fun (r : Int32) (_ : Unit) => r = res) (QW (dC, dI) cy A [(ax, .inr (1, [.ref axj])), (axj, .inl (cy, 6, .inl fxj))]) A) (([.ref ax] : List Value).toArray) s 0 0 A) (F0 m 0 ls []) by rw [hH] at hgo; exact hgo
  replace hP := hP2
  replace hS := hS2
  clear hP2 hS2
  unfold fX1_bestColouring at h
  refine lv_aload_n hx hb dX1_bestColouring_0 rfl (lv_at hl 0 rfl) ?_
  refine lv_bipush (v := (63 : Int32)) hx hb dX1_bestColouring_1 (by decide) ?_
  obtain ⟨r1, hr1, h⟩ := bd_some h
  have hFc := va_free (wc := [(ax, .inr (1, [.ref axj])), (axj, .inl (cy, 6, .inl fxj))]) hD hS hA [0, 1] rfl
  refine va_calli (va_runV (As := [.int (63 : Int32)]) (rest := []) ⟨hx, hb, hml, hown, hts⟩ (c_X1_bestColouringOf l dC dI cy ax axj H.size fxj (63 : Int32) r1 hr1) (cwV 1 hts gX1_bestColouring_X1_bestColouringOf rfl rfl rfl (by decide +kernel) ⟨Nat.le_of_ble_eq_true rfl, Nat.le_of_ble_eq_true rfl⟩) ⟨PW_fb, va_recv hK hP (ci := 1) (q0 := 0) rfl rfl, PW_pre (hP.sub (ws' := [(ax, .inr (1, [.ref axj])), (axj, .inl (cy, 6, .inl fxj))]) [0, 1] rfl) hK (hD.sub [0, 1] (by decide) rfl) hN⟩ rfl rfl hl.1 rfl (lv_room (Nat.le_of_ble_eq_true rfl)) dX1_bestColouring_3 ⟨Nat.zero_le _, Nat.zero_le _⟩) hS (fun q _ h => hFc q h) hFc (fun rz u t H locs ht hvm hw hB hz1 hk1 hS => ?_)
  obtain ⟨hP, hD⟩ := jn (wr := []) (w1 := [(ax, .inr (1, [.ref axj])), (axj, .inl (cy, 6, .inl fxj))]) (ws' := [(ax, .inr (1, [.ref axj])), (axj, .inl (cy, 6, .inl fxj))]) hP hD [0, 1] [] rfl rfl (by decide) (by decide) hk1 hFc hB ht [0, 1] rfl (by decide) rfl
  replace hw := hw.symm
  subst hw
  clear hFc hB hk1 hz1 hvm
  have h0 := Option.some.inj h
  subst h0
  exact W.iret hx hb hr (fun t ht hW => ⟨⟨_, (), rfl, rfl, QW_mk hP hK hD ht hW⟩, hS.F ht⟩) hS.2.2 dX1_bestColouring_6

noncomputable def fX1_twoColoured (fxj : Nat → Int32) (p0 : Int32) : Option (Int32) := bd (fX1_bestColouringOf fxj p0) fun r1 => bd (fX1_likeLines fxj p0 r1) fun r2 => if r2 = 0 then (some (1 : Int32)) else (some (0 : Int32))
set_option maxHeartbeats 4000000 in
set_option maxRecDepth 100000 in
theorem c_X1_twoColoured (l : Launch) (dC : Nat → ClassId) (dI : Nat → Nat → Nat) (cy : ClassId) (ax axj : Nat) (sz : Nat) (fxj : Nat → Int32) (p0 : Int32) (res : Int32) (h : fX1_twoColoured fxj p0 = some res) : Met l yX1_twoColoured wsX1_twoColoured ({ frames := 3, cells := 0, slots := 0, locals := 70 }) (va_Pc [.ref ax, .int p0] (PW (dC, dI) cy sz [(ax, .inr (1, [.ref axj])), (axj, .inl (cy, 6, .inl fxj))])) (va_Qi (fun (r : Int32) (_ : Unit) => r = res ∧ bo r) (QW (dC, dI) cy (va_A [(ax, .inr (1, [.ref axj])), (axj, .inl (cy, 6, .inl fxj))] sz) [(ax, .inr (1, [.ref axj])), (axj, .inl (cy, 6, .inl fxj))]) (va_A [(ax, .inr (1, [.ref axj])), (axj, .inl (cy, 6, .inl fxj))] sz)) 0 0 (va_A [(ax, .inr (1, [.ref axj])), (axj, .inl (cy, 6, .inl fxj))] sz) := by
  refine Met.ofW (cc := cX1_twoColoured) (maxL := 2) (ret := (some .boolean)) (by decide) rfl ?_
  intro p e s m args below meth c s₁ B hml hv
  obtain ⟨rfl, hsz, hP, hK, hD0, hN⟩ := hv
  have hx := B.exec
  have hb := B.bytes
  have hr := B.returns
  have hts := atoms_spec (ws := wsX1_twoColoured) B.pre
  have hown : s.vm.findClass RX1 = some m.cls := findClass_of_methodNamed B.named
  have hlocks := B.notSynchronized
  subst hsz
  have hD := hD0.self (sz := s.heap.size)
  clear hD0
  generalize hAe : va_A [(ax, .inr (1, [.ref axj])), (axj, .inl (cy, 6, .inl fxj))] s.heap.size = A at hD ⊢
  have hA : ∀ q : Nat, s.heap.size ≤ q → A q := fun q h => by rw [← hAe]; exact Or.inr h
  have hS : va_S A s.heap s.heap [] := va_S.rf
  have hl := lv_entry ([.ref ax, .int p0]) (n := 2) (Nat.le_of_ble_eq_true rfl)
  rw [lg_entry_eq]
  generalize (lg_sl ([.ref ax, .int p0]) ++ List.replicate (2 - (lg_sl ([.ref ax, .int p0])).length) Slot.unset).toArray = ls at hl ⊢
  replace hl : lv_has ls 2 [(0, .ref ax), (1, .int p0)] := hl
  replace hP : va_P (dC, dI) vwCl [(ax, .inr (1, [.ref axj])), (axj, .inl (cy, 6, .inl fxj))] s.heap := hP
  obtain ⟨locs, hlocs⟩ : ∃ lc : List Loc, lc = [] := ⟨_, rfl⟩
  rw [← hlocs] at hS ⊢
  obtain ⟨H, hH⟩ : ∃ H : Heap, H = s.heap := ⟨_, rfl⟩
  have hP2 := hP; rw [← hH] at hP2
  have hS2 : va_S A s.heap H locs := by rw [hH]; exact hS
  suffices hgo : W p l e (headSpec wsX1_twoColoured ({ frames := 3, cells := 0, slots := 0, locals := 70 })).room s m (([.ref ax, .int p0] : List Value).toArray) below meth c H locs 0 0 (MQ below (va_Qi (fun (r : Int32) (_ : Unit) => r = res ∧ bo r) (QW (dC, dI) cy A [(ax, .inr (1, [.ref axj])), (axj, .inl (cy, 6, .inl fxj))]) A) (([.ref ax, .int p0] : List Value).toArray) s 0 0 A) (F0 m 0 ls []) by rw [hH] at hgo; exact hgo
  replace hP := hP2
  replace hS := hS2
  clear hP2 hS2
  unfold fX1_twoColoured at h
  refine lv_aload_n hx hb dX1_twoColoured_0 rfl (lv_at hl 0 rfl) ?_
  refine lv_iload_n hx hb dX1_twoColoured_1 rfl (lv_at hl 1 rfl) ?_
  refine lv_aload_n hx hb dX1_twoColoured_2 rfl (lv_at hl 0 rfl) ?_
  refine lv_iload_n hx hb dX1_twoColoured_3 rfl (lv_at hl 1 rfl) ?_
  obtain ⟨r1, hr1, h⟩ := bd_some h
  have hFc := va_free (wc := [(ax, .inr (1, [.ref axj])), (axj, .inl (cy, 6, .inl fxj))]) hD hS hA [0, 1] rfl
  refine va_calli (va_runV (As := [.int p0]) (rest := [.int p0, .ref ax]) ⟨hx, hb, hml, hown, hts⟩ (c_X1_bestColouringOf l dC dI cy ax axj H.size fxj p0 r1 hr1) (cwV 1 hts gX1_twoColoured_X1_bestColouringOf rfl rfl rfl (by decide +kernel) ⟨Nat.le_of_ble_eq_true rfl, Nat.le_of_ble_eq_true rfl⟩) ⟨PW_fb, va_recv hK hP (ci := 1) (q0 := 0) rfl rfl, PW_pre (hP.sub (ws' := [(ax, .inr (1, [.ref axj])), (axj, .inl (cy, 6, .inl fxj))]) [0, 1] rfl) hK (hD.sub [0, 1] (by decide) rfl) hN⟩ rfl rfl hl.1 rfl (lv_room (Nat.le_of_ble_eq_true rfl)) dX1_twoColoured_4 ⟨Nat.zero_le _, Nat.zero_le _⟩) hS (fun q _ h => hFc q h) hFc (fun rz u t H locs ht hvm hw hB hz1 hk1 hS => ?_)
  obtain ⟨hP, hD⟩ := jn (wr := []) (w1 := [(ax, .inr (1, [.ref axj])), (axj, .inl (cy, 6, .inl fxj))]) (ws' := [(ax, .inr (1, [.ref axj])), (axj, .inl (cy, 6, .inl fxj))]) hP hD [0, 1] [] rfl rfl (by decide) (by decide) hk1 hFc hB ht [0, 1] rfl (by decide) rfl
  replace hw := hw.symm
  subst hw
  clear hFc hB hk1 hz1 hvm
  obtain ⟨r2, hr2, h⟩ := bd_some h
  have hFc := va_free (wc := [(ax, .inr (1, [.ref axj])), (axj, .inl (cy, 6, .inl fxj))]) hD hS hA [0, 1] rfl
  refine va_calli (va_runV (As := [.int p0, .int r1]) (rest := []) ⟨hx, hb, hml, hown, hts⟩ (c_X1_likeLines l dC dI cy ax axj H.size fxj p0 r1 r2 hr2) (cwV 2 hts gX1_twoColoured_X1_likeLines rfl rfl rfl (by decide +kernel) ⟨Nat.le_of_ble_eq_true rfl, Nat.le_of_ble_eq_true rfl⟩) ⟨PW_fb, va_recv hK hP (ci := 1) (q0 := 0) rfl rfl, PW_pre (hP.sub (ws' := [(ax, .inr (1, [.ref axj])), (axj, .inl (cy, 6, .inl fxj))]) [0, 1] rfl) hK (hD.sub [0, 1] (by decide) rfl) hN⟩ rfl rfl hl.1 rfl (lv_room (Nat.le_of_ble_eq_true rfl)) dX1_twoColoured_7 ⟨Nat.zero_le _, Nat.zero_le _⟩) hS (fun q _ h => hFc q h) hFc (fun rz u t H locs ht hvm hw hB hz1 hk1 hS => ?_)
  obtain ⟨hP, hD⟩ := jn (wr := []) (w1 := [(ax, .inr (1, [.ref axj])), (axj, .inl (cy, 6, .inl fxj))]) (ws' := [(ax, .inr (1, [.ref axj])), (axj, .inl (cy, 6, .inl fxj))]) hP hD [0, 1] [] rfl rfl (by decide) (by decide) hk1 hFc hB ht [0, 1] rfl (by decide) rfl
  replace hw := hw.symm
  subst hw
  clear hFc hB hk1 hz1 hvm
  refine lv_if_ne (tgt := 17) hx hb dX1_twoColoured_10 (by decide) (fun c3 => ?_) (fun c3 => ?_)
  · rw [if_neg c3] at h
    refine lv_iconst (v := (0 : Int32)) hx hb dX1_twoColoured_17 (by decide) ?_
    have h0 := Option.some.inj h
    subst h0
    exact W.zret (ty := .boolean) hx hb hr bo_0 (fun t ht hW => ⟨⟨_, (), rfl, ⟨rfl, bo_0⟩, QW_mk hP hK hD ht hW⟩, hS.F ht⟩) hS.2.2 dX1_twoColoured_18
  · rw [if_pos c3] at h
    refine lv_iconst (v := (1 : Int32)) hx hb dX1_twoColoured_13 (by decide) ?_
    refine lv_goto (tgt := 18) hx hb dX1_twoColoured_14 (by decide) ?_
    have h0 := Option.some.inj h
    subst h0
    exact W.zret (ty := .boolean) hx hb hr bo_1 (fun t ht hW => ⟨⟨_, (), rfl, ⟨rfl, bo_1⟩, QW_mk hP hK hD ht hW⟩, hS.F ht⟩) hS.2.2 dX1_twoColoured_18

noncomputable def fX1_sets_L4 (n : Nat) (l0 : Int32) (l1 : Int32) (l2 : Int32) : Option (Int32 × Int32) := match n with
  | 0 => none
  | n + 1 => if (63 : Int32) < l2 then (some (l1, l2)) else (bd (fJ6_bitCount_0f7a4 l2) fun r1 => if r1 = l0 then (fX1_sets_L4 n l0 (l1 + (1 : Int32)) (l2 + (1 : Int32))) else (fX1_sets_L4 n l0 l1 (l2 + (1 : Int32))))
theorem fX1_sets_L4_0 (l0 : Int32) (l1 : Int32) (l2 : Int32) : fX1_sets_L4 0 l0 l1 l2 = none := rfl
theorem fX1_sets_L4_s (n : Nat) (l0 : Int32) (l1 : Int32) (l2 : Int32) : fX1_sets_L4 (n + 1) l0 l1 l2 = if (63 : Int32) < l2 then (some (l1, l2)) else (bd (fJ6_bitCount_0f7a4 l2) fun r1 => if r1 = l0 then (fX1_sets_L4 n l0 (l1 + (1 : Int32)) (l2 + (1 : Int32))) else (fX1_sets_L4 n l0 l1 (l2 + (1 : Int32)))) := rfl
noncomputable def fX1_sets  (p0 : Int32) : Option (Int32) := bd (fX1_sets_L4 FU p0 (0 : Int32) (0 : Int32)) fun q5 => some q5.1
set_option maxHeartbeats 4000000 in
set_option maxRecDepth 100000 in
theorem c_X1_sets (l : Launch) (dC : Nat → ClassId) (dI : Nat → Nat → Nat) (cy : ClassId)  (sz : Nat)  (p0 : Int32) (res : Int32) (h : fX1_sets p0 = some res) : Met l yX1_sets wsX1_sets ({ frames := 1, cells := 0, slots := 0, locals := 20 }) (va_Pc [.int p0] (PW (dC, dI) cy sz [])) (va_Qi (fun (r : Int32) (_ : Unit) => r = res) (QW (dC, dI) cy (va_A [] sz) []) (va_A [] sz)) 0 0 (va_A [] sz) := by
  refine Met.ofW (cc := cX1_sets) (maxL := 3) (ret := (some .int)) (by decide) rfl ?_
  intro p e s m args below meth c s₁ B hml hv
  obtain ⟨rfl, hsz, hP, hK, hD0, hN⟩ := hv
  have hx := B.exec
  have hb := B.bytes
  have hr := B.returns
  have hts := atoms_spec (ws := wsX1_sets) B.pre
  have hown : s.vm.findClass RX1 = some m.cls := findClass_of_methodNamed B.named
  have hlocks := B.notSynchronized
  subst hsz
  have hD := hD0.self (sz := s.heap.size)
  clear hD0
  generalize hAe : va_A [] s.heap.size = A at hD ⊢
  have hA : ∀ q : Nat, s.heap.size ≤ q → A q := fun q h => by rw [← hAe]; exact Or.inr h
  have hS : va_S A s.heap s.heap [] := va_S.rf
  have hl := lv_entry ([.int p0]) (n := 3) (Nat.le_of_ble_eq_true rfl)
  rw [lg_entry_eq]
  generalize (lg_sl ([.int p0]) ++ List.replicate (3 - (lg_sl ([.int p0])).length) Slot.unset).toArray = ls at hl ⊢
  replace hl : lv_has ls 3 [(0, .int p0)] := hl
  replace hP : va_P (dC, dI) vwCl [] s.heap := hP
  obtain ⟨locs, hlocs⟩ : ∃ lc : List Loc, lc = [] := ⟨_, rfl⟩
  rw [← hlocs] at hS ⊢
  obtain ⟨H, hH⟩ : ∃ H : Heap, H = s.heap := ⟨_, rfl⟩
  have hP2 := hP; rw [← hH] at hP2
  have hS2 : va_S A s.heap H locs := by rw [hH]; exact hS
  suffices hgo : W p l e (headSpec wsX1_sets ({ frames := 1, cells := 0, slots := 0, locals := 20 })).room s m (([.int p0] : List Value).toArray) below meth c H locs 0 0 (MQ below (va_Qi (fun (r : Int32) (_ : Unit) => r = res) (QW (dC, dI) cy A []) A) (([.int p0] : List Value).toArray) s 0 0 A) (F0 m 0 ls []) by rw [hH] at hgo; exact hgo
  replace hP := hP2
  replace hS := hS2
  clear hP2 hS2
  unfold fX1_sets at h
  refine lv_iconst (v := (0 : Int32)) hx hb dX1_sets_0 (by decide) ?_
  refine lv_istore_n (lv' := [(1, .int (0 : Int32)), (0, .int p0)]) hx hb dX1_sets_1 rfl hl (by decide) rfl (fun ls hl => ?_)
  refine lv_iconst (v := (0 : Int32)) hx hb dX1_sets_2 (by decide) ?_
  refine lv_istore_n (lv' := [(2, .int (0 : Int32)), (1, .int (0 : Int32)), (0, .int p0)]) hx hb dX1_sets_3 rfl hl (by decide) rfl (fun ls hl => ?_)
  have L4_3 : ∀ (n : Nat) (l0 : Int32) (l1 : Int32) (l2 : Int32) (rs : (Int32 × Int32)) (H : Heap) (locs : List Loc) (ls : Array Slot), fX1_sets_L4 n l0 l1 l2 = some rs → lv_has ls 3 [(0, .int l0), (1, .int l1), (2, .int l2)] → va_P (dC, dI) vwCl [] H → va_D A [] → va_S A s.heap H locs → (∀ (H : Heap) (locs : List Loc) (ls : Array Slot), lv_has ls 3 [(0, .int l0), (1, .int rs.1), (2, .int rs.2)] → va_P (dC, dI) vwCl [] H → va_D A [] → va_S A s.heap H locs → W p l e (headSpec wsX1_sets ({ frames := 1, cells := 0, slots := 0, locals := 20 })).room s m (([.int p0] : List Value).toArray) below meth c H locs 0 0 (MQ below (va_Qi (fun (r : Int32) (_ : Unit) => r = res) (QW (dC, dI) cy A []) A) (([.int p0] : List Value).toArray) s 0 0 A) (F0 m 27 ls [])) → W p l e (headSpec wsX1_sets ({ frames := 1, cells := 0, slots := 0, locals := 20 })).room s m (([.int p0] : List Value).toArray) below meth c H locs 0 0 (MQ below (va_Qi (fun (r : Int32) (_ : Unit) => r = res) (QW (dC, dI) cy A []) A) (([.int p0] : List Value).toArray) s 0 0 A) (F0 m 4 ls []) := by
    intro n
    induction n with
    | zero =>
      intro l0 l1 l2 rs H locs ls h
      rw [fX1_sets_L4_0] at h
      cases h
    | succ n ih =>
      intro l0 l1 l2 rs H locs ls h hl hP hD hS K
      rw [fX1_sets_L4_s] at h
      refine lv_iload_n hx hb dX1_sets_4 rfl (lv_at hl 2 rfl) ?_
      refine lv_bipush (v := (63 : Int32)) hx hb dX1_sets_5 (by decide) ?_
      refine lv_icmp_gt (tgt := 27) hx hb dX1_sets_7 (by decide) (fun c3 => ?_) (fun c3 => ?_)
      · rw [if_pos c3] at h
        have h0 := Option.some.inj h
        subst h0
        exact K H locs ls (lv_sub hl [0, 1, 2] rfl) hP hD hS
      · rw [if_neg c3] at h
        refine lv_iload_n hx hb dX1_sets_10 rfl (lv_at hl 2 rfl) ?_
        obtain ⟨r1, hr1, h⟩ := bd_some h
        have hFc := va_free (wc := []) hD hS hA [] rfl
        refine va_calli (va_runS (As := [.int l2]) (rest := []) ⟨hx, hb, hml, hown, hts⟩ (c_J6_bitCount_0f7a4 l dC dI cy  H.size  l2 r1 hr1) (va_cwS 1 hts gX1_sets_J6_bitCount_0f7a4 rfl rfl rfl (by decide +kernel) ⟨Nat.le_of_ble_eq_true rfl, Nat.le_of_ble_eq_true rfl⟩) ⟨PW_fb, PW_pre (hP.sub (ws' := []) [] rfl) hK (hD.sub [] (by decide) rfl) hN⟩ rfl rfl hl.1 rfl (lv_room (Nat.le_of_ble_eq_true rfl)) dX1_sets_11 ⟨Nat.zero_le _, Nat.zero_le _⟩) hS (fun q _ h => hFc q h) hFc (fun rz u t H locs ht hvm hw hB hz1 hk1 hS => ?_)
        obtain ⟨hP, hD⟩ := jn (wr := []) (w1 := []) (ws' := []) hP hD [] [] rfl rfl (by decide) (by decide) hk1 hFc hB ht [] rfl (by decide) rfl
        replace hw := hw.symm
        subst hw
        clear hFc hB hk1 hz1 hvm
        refine lv_iload_n hx hb dX1_sets_14 rfl (lv_at hl 0 rfl) ?_
        refine lv_icmp_ne (tgt := 21) hx hb dX1_sets_15 (by decide) (fun c2 => ?_) (fun c2 => ?_)
        · rw [if_neg c2] at h
          refine lv_iinc (v := l2 + (1 : Int32)) (lv' := [(2, .int (l2 + (1 : Int32))), (0, .int l0), (1, .int l1)]) hx hb dX1_sets_21 hl (k := 2) rfl rfl (by decide) rfl (fun ls hl => ?_)
          refine lv_goto (tgt := 4) hx hb dX1_sets_24 (by decide) ?_
          exact ih l0 l1 (l2 + (1 : Int32)) rs H locs ls h (lv_sub hl [1, 2, 0] rfl) hP hD hS K
        · rw [if_pos c2] at h
          refine lv_iinc (v := l1 + (1 : Int32)) (lv' := [(1, .int (l1 + (1 : Int32))), (0, .int l0), (2, .int l2)]) hx hb dX1_sets_18 hl (k := 1) rfl rfl (by decide) rfl (fun ls hl => ?_)
          refine lv_iinc (v := l2 + (1 : Int32)) (lv' := [(2, .int (l2 + (1 : Int32))), (1, .int (l1 + (1 : Int32))), (0, .int l0)]) hx hb dX1_sets_21 hl (k := 2) rfl rfl (by decide) rfl (fun ls hl => ?_)
          refine lv_goto (tgt := 4) hx hb dX1_sets_24 (by decide) ?_
          exact ih l0 (l1 + (1 : Int32)) (l2 + (1 : Int32)) rs H locs ls h (lv_sub hl [2, 1, 0] rfl) hP hD hS K
  obtain ⟨q5, hq5, h⟩ := bd_some h
  refine L4_3 FU p0 (0 : Int32) (0 : Int32) q5 H locs ls hq5 (lv_sub hl [2, 1, 0] rfl) hP hD hS (fun H locs ls hl hP hD hS => ?_)
  refine lv_iload_n hx hb dX1_sets_27 rfl (lv_at hl 1 rfl) ?_
  have h0 := Option.some.inj h
  subst h0
  exact W.iret hx hb hr (fun t ht hW => ⟨⟨_, (), rfl, rfl, QW_mk hP hK hD ht hW⟩, hS.F ht⟩) hS.2.2 dX1_sets_28

noncomputable def fX1_passing_L4 (n : Nat) (l1 : Int32) (l2 : Int32) (l3 : Int32) (fxj : Nat → Int32) : Option (Int32 × Int32) := match n with
  | 0 => none
  | n + 1 => if (63 : Int32) < l3 then (some (l2, l3)) else (bd (fJ6_bitCount_0f7a4 l3) fun r1 => if r1 = l1 then (bd (fX1_twoColoured fxj l3) fun r2 => if r2 = 0 then (fX1_passing_L4 n l1 l2 (l3 + (1 : Int32)) fxj) else (fX1_passing_L4 n l1 (l2 + (1 : Int32)) (l3 + (1 : Int32)) fxj)) else (fX1_passing_L4 n l1 l2 (l3 + (1 : Int32)) fxj))
theorem fX1_passing_L4_0 (l1 : Int32) (l2 : Int32) (l3 : Int32) (fxj : Nat → Int32) : fX1_passing_L4 0 l1 l2 l3 fxj = none := rfl
theorem fX1_passing_L4_s (n : Nat) (l1 : Int32) (l2 : Int32) (l3 : Int32) (fxj : Nat → Int32) : fX1_passing_L4 (n + 1) l1 l2 l3 fxj = if (63 : Int32) < l3 then (some (l2, l3)) else (bd (fJ6_bitCount_0f7a4 l3) fun r1 => if r1 = l1 then (bd (fX1_twoColoured fxj l3) fun r2 => if r2 = 0 then (fX1_passing_L4 n l1 l2 (l3 + (1 : Int32)) fxj) else (fX1_passing_L4 n l1 (l2 + (1 : Int32)) (l3 + (1 : Int32)) fxj)) else (fX1_passing_L4 n l1 l2 (l3 + (1 : Int32)) fxj)) := rfl
noncomputable def fX1_passing (fxj : Nat → Int32) (p0 : Int32) : Option (Int32) := bd (fX1_passing_L4 FU p0 (0 : Int32) (0 : Int32) fxj) fun q7 => some q7.1
set_option maxHeartbeats 4000000 in
set_option maxRecDepth 100000 in
theorem c_X1_passing (l : Launch) (dC : Nat → ClassId) (dI : Nat → Nat → Nat) (cy : ClassId) (ax axj : Nat) (sz : Nat) (fxj : Nat → Int32) (p0 : Int32) (res : Int32) (h : fX1_passing fxj p0 = some res) : Met l yX1_passing wsX1_passing ({ frames := 4, cells := 0, slots := 0, locals := 91 }) (va_Pc [.ref ax, .int p0] (PW (dC, dI) cy sz [(ax, .inr (1, [.ref axj])), (axj, .inl (cy, 6, .inl fxj))])) (va_Qi (fun (r : Int32) (_ : Unit) => r = res) (QW (dC, dI) cy (va_A [(ax, .inr (1, [.ref axj])), (axj, .inl (cy, 6, .inl fxj))] sz) [(ax, .inr (1, [.ref axj])), (axj, .inl (cy, 6, .inl fxj))]) (va_A [(ax, .inr (1, [.ref axj])), (axj, .inl (cy, 6, .inl fxj))] sz)) 0 0 (va_A [(ax, .inr (1, [.ref axj])), (axj, .inl (cy, 6, .inl fxj))] sz) := by
  refine Met.ofW (cc := cX1_passing) (maxL := 4) (ret := (some .int)) (by decide) rfl ?_
  intro p e s m args below meth c s₁ B hml hv
  obtain ⟨rfl, hsz, hP, hK, hD0, hN⟩ := hv
  have hx := B.exec
  have hb := B.bytes
  have hr := B.returns
  have hts := atoms_spec (ws := wsX1_passing) B.pre
  have hown : s.vm.findClass RX1 = some m.cls := findClass_of_methodNamed B.named
  have hlocks := B.notSynchronized
  subst hsz
  have hD := hD0.self (sz := s.heap.size)
  clear hD0
  generalize hAe : va_A [(ax, .inr (1, [.ref axj])), (axj, .inl (cy, 6, .inl fxj))] s.heap.size = A at hD ⊢
  have hA : ∀ q : Nat, s.heap.size ≤ q → A q := fun q h => by rw [← hAe]; exact Or.inr h
  have hS : va_S A s.heap s.heap [] := va_S.rf
  have hl := lv_entry ([.ref ax, .int p0]) (n := 4) (Nat.le_of_ble_eq_true rfl)
  rw [lg_entry_eq]
  generalize (lg_sl ([.ref ax, .int p0]) ++ List.replicate (4 - (lg_sl ([.ref ax, .int p0])).length) Slot.unset).toArray = ls at hl ⊢
  replace hl : lv_has ls 4 [(0, .ref ax), (1, .int p0)] := hl
  replace hP : va_P (dC, dI) vwCl [(ax, .inr (1, [.ref axj])), (axj, .inl (cy, 6, .inl fxj))] s.heap := hP
  obtain ⟨locs, hlocs⟩ : ∃ lc : List Loc, lc = [] := ⟨_, rfl⟩
  rw [← hlocs] at hS ⊢
  obtain ⟨H, hH⟩ : ∃ H : Heap, H = s.heap := ⟨_, rfl⟩
  have hP2 := hP; rw [← hH] at hP2
  have hS2 : va_S A s.heap H locs := by rw [hH]; exact hS
  suffices hgo : W p l e (headSpec wsX1_passing ({ frames := 4, cells := 0, slots := 0, locals := 91 })).room s m (([.ref ax, .int p0] : List Value).toArray) below meth c H locs 0 0 (MQ below (va_Qi (fun (r : Int32) (_ : Unit) => r = res) (QW (dC, dI) cy A [(ax, .inr (1, [.ref axj])), (axj, .inl (cy, 6, .inl fxj))]) A) (([.ref ax, .int p0] : List Value).toArray) s 0 0 A) (F0 m 0 ls []) by rw [hH] at hgo; exact hgo
  replace hP := hP2
  replace hS := hS2
  clear hP2 hS2
  unfold fX1_passing at h
  refine lv_iconst (v := (0 : Int32)) hx hb dX1_passing_0 (by decide) ?_
  refine lv_istore_n (lv' := [(2, .int (0 : Int32)), (0, .ref ax), (1, .int p0)]) hx hb dX1_passing_1 rfl hl (by decide) rfl (fun ls hl => ?_)
  refine lv_iconst (v := (0 : Int32)) hx hb dX1_passing_2 (by decide) ?_
  refine lv_istore_n (lv' := [(3, .int (0 : Int32)), (2, .int (0 : Int32)), (0, .ref ax), (1, .int p0)]) hx hb dX1_passing_3 rfl hl (by decide) rfl (fun ls hl => ?_)
  have L4_5 : ∀ (n : Nat) (l1 : Int32) (l2 : Int32) (l3 : Int32) (rs : (Int32 × Int32)) (H : Heap) (locs : List Loc) (ls : Array Slot), fX1_passing_L4 n l1 l2 l3 fxj = some rs → lv_has ls 4 [(0, .ref ax), (1, .int l1), (2, .int l2), (3, .int l3)] → va_P (dC, dI) vwCl [(ax, .inr (1, [.ref axj])), (axj, .inl (cy, 6, .inl fxj))] H → va_D A [(ax, .inr (1, [.ref axj])), (axj, .inl (cy, 6, .inl fxj))] → va_S A s.heap H locs → (∀ (H : Heap) (locs : List Loc) (ls : Array Slot), lv_has ls 4 [(0, .ref ax), (1, .int l1), (2, .int rs.1), (3, .int rs.2)] → va_P (dC, dI) vwCl [(ax, .inr (1, [.ref axj])), (axj, .inl (cy, 6, .inl fxj))] H → va_D A [(ax, .inr (1, [.ref axj])), (axj, .inl (cy, 6, .inl fxj))] → va_S A s.heap H locs → W p l e (headSpec wsX1_passing ({ frames := 4, cells := 0, slots := 0, locals := 91 })).room s m (([.ref ax, .int p0] : List Value).toArray) below meth c H locs 0 0 (MQ below (va_Qi (fun (r : Int32) (_ : Unit) => r = res) (QW (dC, dI) cy A [(ax, .inr (1, [.ref axj])), (axj, .inl (cy, 6, .inl fxj))]) A) (([.ref ax, .int p0] : List Value).toArray) s 0 0 A) (F0 m 35 ls [])) → W p l e (headSpec wsX1_passing ({ frames := 4, cells := 0, slots := 0, locals := 91 })).room s m (([.ref ax, .int p0] : List Value).toArray) below meth c H locs 0 0 (MQ below (va_Qi (fun (r : Int32) (_ : Unit) => r = res) (QW (dC, dI) cy A [(ax, .inr (1, [.ref axj])), (axj, .inl (cy, 6, .inl fxj))]) A) (([.ref ax, .int p0] : List Value).toArray) s 0 0 A) (F0 m 4 ls []) := by
    intro n
    induction n with
    | zero =>
      intro l1 l2 l3 rs H locs ls h
      rw [fX1_passing_L4_0] at h
      cases h
    | succ n ih =>
      intro l1 l2 l3 rs H locs ls h hl hP hD hS K
      rw [fX1_passing_L4_s] at h
      refine lv_iload_n hx hb dX1_passing_4 rfl (lv_at hl 3 rfl) ?_
      refine lv_bipush (v := (63 : Int32)) hx hb dX1_passing_5 (by decide) ?_
      refine lv_icmp_gt (tgt := 35) hx hb dX1_passing_7 (by decide) (fun c5 => ?_) (fun c5 => ?_)
      · rw [if_pos c5] at h
        have h0 := Option.some.inj h
        subst h0
        exact K H locs ls (lv_sub hl [0, 1, 2, 3] rfl) hP hD hS
      · rw [if_neg c5] at h
        refine lv_iload_n hx hb dX1_passing_10 rfl (lv_at hl 3 rfl) ?_
        obtain ⟨r1, hr1, h⟩ := bd_some h
        have hFc := va_free (wc := []) hD hS hA [] rfl
        refine va_calli (va_runS (As := [.int l3]) (rest := []) ⟨hx, hb, hml, hown, hts⟩ (c_J6_bitCount_0f7a4 l dC dI cy  H.size  l3 r1 hr1) (va_cwS 1 hts gX1_passing_J6_bitCount_0f7a4 rfl rfl rfl (by decide +kernel) ⟨Nat.le_of_ble_eq_true rfl, Nat.le_of_ble_eq_true rfl⟩) ⟨PW_fb, PW_pre (hP.sub (ws' := []) [] rfl) hK (hD.sub [] (by decide) rfl) hN⟩ rfl rfl hl.1 rfl (lv_room (Nat.le_of_ble_eq_true rfl)) dX1_passing_11 ⟨Nat.zero_le _, Nat.zero_le _⟩) hS (fun q _ h => hFc q h) hFc (fun rz u t H locs ht hvm hw hB hz1 hk1 hS => ?_)
        obtain ⟨hP, hD⟩ := jn (wr := [(ax, .inr (1, [.ref axj])), (axj, .inl (cy, 6, .inl fxj))]) (w1 := []) (ws' := [(ax, .inr (1, [.ref axj])), (axj, .inl (cy, 6, .inl fxj))]) hP hD [] [0, 1] rfl rfl (by decide) (by decide) hk1 hFc hB ht [0, 1] rfl (by decide) rfl
        replace hw := hw.symm
        subst hw
        clear hFc hB hk1 hz1 hvm
        refine lv_iload_n hx hb dX1_passing_14 rfl (lv_at hl 1 rfl) ?_
        refine lv_icmp_ne (tgt := 29) hx hb dX1_passing_15 (by decide) (fun c4 => ?_) (fun c4 => ?_)
        · rw [if_neg c4] at h
          refine lv_iinc (v := l3 + (1 : Int32)) (lv' := [(3, .int (l3 + (1 : Int32))), (0, .ref ax), (1, .int l1), (2, .int l2)]) hx hb dX1_passing_29 hl (k := 3) rfl rfl (by decide) rfl (fun ls hl => ?_)
          refine lv_goto (tgt := 4) hx hb dX1_passing_32 (by decide) ?_
          exact ih l1 l2 (l3 + (1 : Int32)) rs H locs ls h (lv_sub hl [1, 2, 3, 0] rfl) hP hD hS K
        · rw [if_pos c4] at h
          refine lv_aload_n hx hb dX1_passing_18 rfl (lv_at hl 0 rfl) ?_
          refine lv_iload_n hx hb dX1_passing_19 rfl (lv_at hl 3 rfl) ?_
          obtain ⟨r2, hr2, h⟩ := bd_some h
          have hFc := va_free (wc := [(ax, .inr (1, [.ref axj])), (axj, .inl (cy, 6, .inl fxj))]) hD hS hA [0, 1] rfl
          refine va_calli (va_runV (As := [.int l3]) (rest := []) ⟨hx, hb, hml, hown, hts⟩ (c_X1_twoColoured l dC dI cy ax axj H.size fxj l3 r2 hr2) (cwV 1 hts gX1_passing_X1_twoColoured rfl rfl rfl (by decide +kernel) ⟨Nat.le_of_ble_eq_true rfl, Nat.le_of_ble_eq_true rfl⟩) ⟨PW_fb, va_recv hK hP (ci := 1) (q0 := 0) rfl rfl, PW_pre (hP.sub (ws' := [(ax, .inr (1, [.ref axj])), (axj, .inl (cy, 6, .inl fxj))]) [0, 1] rfl) hK (hD.sub [0, 1] (by decide) rfl) hN⟩ rfl rfl hl.1 rfl (lv_room (Nat.le_of_ble_eq_true rfl)) dX1_passing_20 ⟨Nat.zero_le _, Nat.zero_le _⟩) hS (fun q _ h => hFc q h) hFc (fun rz u t H locs ht hvm hw hB hz1 hk1 hS => ?_)
          obtain ⟨hP, hD⟩ := jn (wr := []) (w1 := [(ax, .inr (1, [.ref axj])), (axj, .inl (cy, 6, .inl fxj))]) (ws' := [(ax, .inr (1, [.ref axj])), (axj, .inl (cy, 6, .inl fxj))]) hP hD [0, 1] [] rfl rfl (by decide) (by decide) hk1 hFc hB ht [0, 1] rfl (by decide) rfl
          obtain ⟨hw, br2⟩ := hw
          replace hw := hw.symm
          subst hw
          clear hFc hB hk1 hz1 hvm
          refine lv_if_eq (tgt := 29) hx hb dX1_passing_23 (by decide) (fun c3 => ?_) (fun c3 => ?_)
          · rw [if_pos c3] at h
            refine lv_iinc (v := l3 + (1 : Int32)) (lv' := [(3, .int (l3 + (1 : Int32))), (0, .ref ax), (1, .int l1), (2, .int l2)]) hx hb dX1_passing_29 hl (k := 3) rfl rfl (by decide) rfl (fun ls hl => ?_)
            refine lv_goto (tgt := 4) hx hb dX1_passing_32 (by decide) ?_
            exact ih l1 l2 (l3 + (1 : Int32)) rs H locs ls h (lv_sub hl [1, 2, 3, 0] rfl) hP hD hS K
          · rw [if_neg c3] at h
            refine lv_iinc (v := l2 + (1 : Int32)) (lv' := [(2, .int (l2 + (1 : Int32))), (0, .ref ax), (1, .int l1), (3, .int l3)]) hx hb dX1_passing_26 hl (k := 2) rfl rfl (by decide) rfl (fun ls hl => ?_)
            refine lv_iinc (v := l3 + (1 : Int32)) (lv' := [(3, .int (l3 + (1 : Int32))), (2, .int (l2 + (1 : Int32))), (0, .ref ax), (1, .int l1)]) hx hb dX1_passing_29 hl (k := 3) rfl rfl (by decide) rfl (fun ls hl => ?_)
            refine lv_goto (tgt := 4) hx hb dX1_passing_32 (by decide) ?_
            exact ih l1 (l2 + (1 : Int32)) (l3 + (1 : Int32)) rs H locs ls h (lv_sub hl [2, 3, 1, 0] rfl) hP hD hS K
  obtain ⟨q7, hq7, h⟩ := bd_some h
  refine L4_5 FU p0 (0 : Int32) (0 : Int32) q7 H locs ls hq7 (lv_sub hl [2, 3, 1, 0] rfl) hP hD hS (fun H locs ls hl hP hD hS => ?_)
  refine lv_iload_n hx hb dX1_passing_35 rfl (lv_at hl 2 rfl) ?_
  have h0 := Option.some.inj h
  subst h0
  exact W.iret hx hb hr (fun t ht hW => ⟨⟨_, (), rfl, rfl, QW_mk hP hK hD ht hW⟩, hS.F ht⟩) hS.2.2 dX1_passing_36
end
