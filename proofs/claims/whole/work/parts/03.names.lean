-- ===== PART A: goes FIRST, ahead of the names: the tables' words, and 'selects' of the private methods out of them =====
/-- a private method of a class that the tables say can be made, by its rows of tables_1 -/
def lw_okq (q : MethodName × Nat) : Prop := (q.1.cls ≠ "java/lang/invoke/MethodHandle" ∧ q.1.cls ≠ "java/lang/invoke/VarHandle") ∧ Cond.instantiable q.1.cls q.2 ∈ tables_1 ∧ Cond.privateMethod q.1 ∈ tables_1 ∧ Cond.instanceMethod q.1 ∈ tables_1
theorem lw_p0 : lw_okq (⟨"WordEach$Judge", "forgetLines", "()V"⟩, 4) := ⟨⟨by decide +kernel, by decide +kernel⟩, List.mem_of_getElem? (i := 229) (by decide +kernel), List.mem_of_getElem? (i := 237) (by decide +kernel), List.mem_of_getElem? (i := 238) (by decide +kernel)⟩
theorem lw_p1 : lw_okq (⟨"WordEach$Tape", "signAt", "(I)I"⟩, 7) := ⟨⟨by decide +kernel, by decide +kernel⟩, List.mem_of_getElem? (i := 29) (by decide +kernel), List.mem_of_getElem? (i := 476) (by decide +kernel), List.mem_of_getElem? (i := 477) (by decide +kernel)⟩
theorem lw_p2 : lw_okq (⟨"WordEach$CourtReader", "readStatement", "()V"⟩, 2) := ⟨⟨by decide +kernel, by decide +kernel⟩, List.mem_of_getElem? (i := 68) (by decide +kernel), List.mem_of_getElem? (i := 484) (by decide +kernel), List.mem_of_getElem? (i := 485) (by decide +kernel)⟩
theorem lw_p3 : lw_okq (⟨"WordEach$CourtReader", "readWord", "(I)V"⟩, 2) := ⟨⟨by decide +kernel, by decide +kernel⟩, List.mem_of_getElem? (i := 68) (by decide +kernel), List.mem_of_getElem? (i := 541) (by decide +kernel), List.mem_of_getElem? (i := 542) (by decide +kernel)⟩
theorem lw_p4 : lw_okq (⟨"WordEach$CourtReader", "begins", "(II)Z"⟩, 2) := ⟨⟨by decide +kernel, by decide +kernel⟩, List.mem_of_getElem? (i := 68) (by decide +kernel), List.mem_of_getElem? (i := 545) (by decide +kernel), List.mem_of_getElem? (i := 546) (by decide +kernel)⟩
theorem lw_p5 : lw_okq (⟨"WordEach$CourtReader", "takeNewSpelling", "()I"⟩, 2) := ⟨⟨by decide +kernel, by decide +kernel⟩, List.mem_of_getElem? (i := 68) (by decide +kernel), List.mem_of_getElem? (i := 554) (by decide +kernel), List.mem_of_getElem? (i := 555) (by decide +kernel)⟩
theorem lw_p6 : lw_okq (⟨"WordEach$CourtReader", "readLine", "()V"⟩, 2) := ⟨⟨by decide +kernel, by decide +kernel⟩, List.mem_of_getElem? (i := 68) (by decide +kernel), List.mem_of_getElem? (i := 573) (by decide +kernel), List.mem_of_getElem? (i := 574) (by decide +kernel)⟩
theorem lw_p7 : lw_okq (⟨"WordEach$CourtReader", "readFact", "()V"⟩, 2) := ⟨⟨by decide +kernel, by decide +kernel⟩, List.mem_of_getElem? (i := 68) (by decide +kernel), List.mem_of_getElem? (i := 581) (by decide +kernel), List.mem_of_getElem? (i := 582) (by decide +kernel)⟩
theorem lw_p8 : lw_okq (⟨"WordEach$CourtReader", "takeWord", "(I)I"⟩, 2) := ⟨⟨by decide +kernel, by decide +kernel⟩, List.mem_of_getElem? (i := 68) (by decide +kernel), List.mem_of_getElem? (i := 585) (by decide +kernel), List.mem_of_getElem? (i := 586) (by decide +kernel)⟩
theorem lw_p9 : lw_okq (⟨"WordEach$CourtReader", "readWitness", "()V"⟩, 2) := ⟨⟨by decide +kernel, by decide +kernel⟩, List.mem_of_getElem? (i := 68) (by decide +kernel), List.mem_of_getElem? (i := 590) (by decide +kernel), List.mem_of_getElem? (i := 591) (by decide +kernel)⟩
theorem lw_p10 : lw_okq (⟨"WordEach$CourtReader", "takeOwn", "(I)V"⟩, 2) := ⟨⟨by decide +kernel, by decide +kernel⟩, List.mem_of_getElem? (i := 68) (by decide +kernel), List.mem_of_getElem? (i := 594) (by decide +kernel), List.mem_of_getElem? (i := 595) (by decide +kernel)⟩
theorem lw_p11 : lw_okq (⟨"WordEach$CourtReader", "readAccused", "()V"⟩, 2) := ⟨⟨by decide +kernel, by decide +kernel⟩, List.mem_of_getElem? (i := 68) (by decide +kernel), List.mem_of_getElem? (i := 609) (by decide +kernel), List.mem_of_getElem? (i := 610) (by decide +kernel)⟩
theorem lw_p12 : lw_okq (⟨"WordEach$CourtReader", "readCase", "()V"⟩, 2) := ⟨⟨by decide +kernel, by decide +kernel⟩, List.mem_of_getElem? (i := 68) (by decide +kernel), List.mem_of_getElem? (i := 613) (by decide +kernel), List.mem_of_getElem? (i := 614) (by decide +kernel)⟩
theorem lw_p13 : lw_okq (⟨"WordEach", "putInForce", "(I)V"⟩, 11) := ⟨⟨by decide +kernel, by decide +kernel⟩, List.mem_of_getElem? (i := 21) (by decide +kernel), List.mem_of_getElem? (i := 625) (by decide +kernel), List.mem_of_getElem? (i := 626) (by decide +kernel)⟩
theorem lw_p14 : lw_okq (⟨"WordEach$Judge", "hearSlot", "(III)I"⟩, 4) := ⟨⟨by decide +kernel, by decide +kernel⟩, List.mem_of_getElem? (i := 229) (by decide +kernel), List.mem_of_getElem? (i := 737) (by decide +kernel), List.mem_of_getElem? (i := 738) (by decide +kernel)⟩
theorem lw_p15 : lw_okq (⟨"WordEach$Judge", "wordIn", "(III)I"⟩, 4) := ⟨⟨by decide +kernel, by decide +kernel⟩, List.mem_of_getElem? (i := 229) (by decide +kernel), List.mem_of_getElem? (i := 749) (by decide +kernel), List.mem_of_getElem? (i := 750) (by decide +kernel)⟩
def lw_privs_1 : List (MethodName × Nat) := [(⟨"WordEach$Judge", "forgetLines", "()V"⟩, 4), (⟨"WordEach$Tape", "signAt", "(I)I"⟩, 7), (⟨"WordEach$CourtReader", "readStatement", "()V"⟩, 2), (⟨"WordEach$CourtReader", "readWord", "(I)V"⟩, 2), (⟨"WordEach$CourtReader", "begins", "(II)Z"⟩, 2), (⟨"WordEach$CourtReader", "takeNewSpelling", "()I"⟩, 2), (⟨"WordEach$CourtReader", "readLine", "()V"⟩, 2), (⟨"WordEach$CourtReader", "readFact", "()V"⟩, 2), (⟨"WordEach$CourtReader", "takeWord", "(I)I"⟩, 2), (⟨"WordEach$CourtReader", "readWitness", "()V"⟩, 2), (⟨"WordEach$CourtReader", "takeOwn", "(I)V"⟩, 2), (⟨"WordEach$CourtReader", "readAccused", "()V"⟩, 2), (⟨"WordEach$CourtReader", "readCase", "()V"⟩, 2), (⟨"WordEach", "putInForce", "(I)V"⟩, 11), (⟨"WordEach$Judge", "hearSlot", "(III)I"⟩, 4), (⟨"WordEach$Judge", "wordIn", "(III)I"⟩, 4)]
theorem lw_r1 : ∀ q ∈ lw_privs_1, lw_okq q := List.forall_mem_cons.mpr ⟨lw_p0, List.forall_mem_cons.mpr ⟨lw_p1, List.forall_mem_cons.mpr ⟨lw_p2, List.forall_mem_cons.mpr ⟨lw_p3, List.forall_mem_cons.mpr ⟨lw_p4, List.forall_mem_cons.mpr ⟨lw_p5, List.forall_mem_cons.mpr ⟨lw_p6, List.forall_mem_cons.mpr ⟨lw_p7, List.forall_mem_cons.mpr ⟨lw_p8, List.forall_mem_cons.mpr ⟨lw_p9, List.forall_mem_cons.mpr ⟨lw_p10, List.forall_mem_cons.mpr ⟨lw_p11, List.forall_mem_cons.mpr ⟨lw_p12, List.forall_mem_cons.mpr ⟨lw_p13, List.forall_mem_cons.mpr ⟨lw_p14, List.forall_mem_cons.mpr ⟨lw_p15, fun _ h => absurd h List.not_mem_nil⟩⟩⟩⟩⟩⟩⟩⟩⟩⟩⟩⟩⟩⟩⟩⟩
theorem lw_p16 : lw_okq (⟨"WordEach$Judge", "binds", "(I)Z"⟩, 4) := ⟨⟨by decide +kernel, by decide +kernel⟩, List.mem_of_getElem? (i := 229) (by decide +kernel), List.mem_of_getElem? (i := 757) (by decide +kernel), List.mem_of_getElem? (i := 758) (by decide +kernel)⟩
theorem lw_p17 : lw_okq (⟨"WordEach$Judge", "toldOf", "(III)I"⟩, 4) := ⟨⟨by decide +kernel, by decide +kernel⟩, List.mem_of_getElem? (i := 229) (by decide +kernel), List.mem_of_getElem? (i := 770) (by decide +kernel), List.mem_of_getElem? (i := 771) (by decide +kernel)⟩
theorem lw_p18 : lw_okq (⟨"WordEach", "stateSpoken", "()I"⟩, 11) := ⟨⟨by decide +kernel, by decide +kernel⟩, List.mem_of_getElem? (i := 21) (by decide +kernel), List.mem_of_getElem? (i := 778) (by decide +kernel), List.mem_of_getElem? (i := 779) (by decide +kernel)⟩
theorem lw_p19 : lw_okq (⟨"WordEach$Planner", "fewest", "()I"⟩, 8) := ⟨⟨by decide +kernel, by decide +kernel⟩, List.mem_of_getElem? (i := 289) (by decide +kernel), List.mem_of_getElem? (i := 818) (by decide +kernel), List.mem_of_getElem? (i := 819) (by decide +kernel)⟩
theorem lw_p20 : lw_okq (⟨"WordEach$Planner", "seek", "(III)Z"⟩, 8) := ⟨⟨by decide +kernel, by decide +kernel⟩, List.mem_of_getElem? (i := 289) (by decide +kernel), List.mem_of_getElem? (i := 823) (by decide +kernel), List.mem_of_getElem? (i := 824) (by decide +kernel)⟩
theorem lw_p21 : lw_okq (⟨"WordEach$Planner", "seekSaying", "(III)Z"⟩, 8) := ⟨⟨by decide +kernel, by decide +kernel⟩, List.mem_of_getElem? (i := 289) (by decide +kernel), List.mem_of_getElem? (i := 832) (by decide +kernel), List.mem_of_getElem? (i := 833) (by decide +kernel)⟩
theorem lw_p22 : lw_okq (⟨"WordEach", "rulingWith", "(II)I"⟩, 11) := ⟨⟨by decide +kernel, by decide +kernel⟩, List.mem_of_getElem? (i := 21) (by decide +kernel), List.mem_of_getElem? (i := 841) (by decide +kernel), List.mem_of_getElem? (i := 842) (by decide +kernel)⟩
theorem lw_p23 : lw_okq (⟨"WordEach$Contest", "outcome", "(III)I"⟩, 4) := ⟨⟨by decide +kernel, by decide +kernel⟩, List.mem_of_getElem? (i := 321) (by decide +kernel), List.mem_of_getElem? (i := 877) (by decide +kernel), List.mem_of_getElem? (i := 878) (by decide +kernel)⟩
theorem lw_p24 : lw_okq (⟨"WordEach$Contest", "winsBy", "(IIII)Z"⟩, 4) := ⟨⟨by decide +kernel, by decide +kernel⟩, List.mem_of_getElem? (i := 321) (by decide +kernel), List.mem_of_getElem? (i := 882) (by decide +kernel), List.mem_of_getElem? (i := 883) (by decide +kernel)⟩
theorem lw_p25 : lw_okq (⟨"WordEach", "ruleCases", "()V"⟩, 11) := ⟨⟨by decide +kernel, by decide +kernel⟩, List.mem_of_getElem? (i := 21) (by decide +kernel), List.mem_of_getElem? (i := 895) (by decide +kernel), List.mem_of_getElem? (i := 896) (by decide +kernel)⟩
theorem lw_p26 : lw_okq (⟨"WordEach$Seats", "isAhead", "(III)Z"⟩, 3) := ⟨⟨by decide +kernel, by decide +kernel⟩, List.mem_of_getElem? (i := 342) (by decide +kernel), List.mem_of_getElem? (i := 914) (by decide +kernel), List.mem_of_getElem? (i := 915) (by decide +kernel)⟩
theorem lw_p27 : lw_okq (⟨"WordEach$Seats", "draw", "(I)I"⟩, 3) := ⟨⟨by decide +kernel, by decide +kernel⟩, List.mem_of_getElem? (i := 342) (by decide +kernel), List.mem_of_getElem? (i := 934) (by decide +kernel), List.mem_of_getElem? (i := 935) (by decide +kernel)⟩
theorem lw_p28 : lw_okq (⟨"WordEach$Chance", "countWays", "()V"⟩, 7) := ⟨⟨by decide +kernel, by decide +kernel⟩, List.mem_of_getElem? (i := 360) (by decide +kernel), List.mem_of_getElem? (i := 953) (by decide +kernel), List.mem_of_getElem? (i := 954) (by decide +kernel)⟩
theorem lw_p29 : lw_okq (⟨"WordEach$Chance", "walk", "(II)V"⟩, 7) := ⟨⟨by decide +kernel, by decide +kernel⟩, List.mem_of_getElem? (i := 360) (by decide +kernel), List.mem_of_getElem? (i := 958) (by decide +kernel), List.mem_of_getElem? (i := 959) (by decide +kernel)⟩
theorem lw_p30 : lw_okq (⟨"WordEach$Chance", "tally", "(I)V"⟩, 7) := ⟨⟨by decide +kernel, by decide +kernel⟩, List.mem_of_getElem? (i := 360) (by decide +kernel), List.mem_of_getElem? (i := 963) (by decide +kernel), List.mem_of_getElem? (i := 964) (by decide +kernel)⟩
theorem lw_p31 : lw_okq (⟨"WordEach$Chance", "walkAway", "(IIII)V"⟩, 7) := ⟨⟨by decide +kernel, by decide +kernel⟩, List.mem_of_getElem? (i := 360) (by decide +kernel), List.mem_of_getElem? (i := 992) (by decide +kernel), List.mem_of_getElem? (i := 993) (by decide +kernel)⟩
def lw_privs_2 : List (MethodName × Nat) := [(⟨"WordEach$Judge", "binds", "(I)Z"⟩, 4), (⟨"WordEach$Judge", "toldOf", "(III)I"⟩, 4), (⟨"WordEach", "stateSpoken", "()I"⟩, 11), (⟨"WordEach$Planner", "fewest", "()I"⟩, 8), (⟨"WordEach$Planner", "seek", "(III)Z"⟩, 8), (⟨"WordEach$Planner", "seekSaying", "(III)Z"⟩, 8), (⟨"WordEach", "rulingWith", "(II)I"⟩, 11), (⟨"WordEach$Contest", "outcome", "(III)I"⟩, 4), (⟨"WordEach$Contest", "winsBy", "(IIII)Z"⟩, 4), (⟨"WordEach", "ruleCases", "()V"⟩, 11), (⟨"WordEach$Seats", "isAhead", "(III)Z"⟩, 3), (⟨"WordEach$Seats", "draw", "(I)I"⟩, 3), (⟨"WordEach$Chance", "countWays", "()V"⟩, 7), (⟨"WordEach$Chance", "walk", "(II)V"⟩, 7), (⟨"WordEach$Chance", "tally", "(I)V"⟩, 7), (⟨"WordEach$Chance", "walkAway", "(IIII)V"⟩, 7)]
theorem lw_r2 : ∀ q ∈ lw_privs_2, lw_okq q := List.forall_mem_cons.mpr ⟨lw_p16, List.forall_mem_cons.mpr ⟨lw_p17, List.forall_mem_cons.mpr ⟨lw_p18, List.forall_mem_cons.mpr ⟨lw_p19, List.forall_mem_cons.mpr ⟨lw_p20, List.forall_mem_cons.mpr ⟨lw_p21, List.forall_mem_cons.mpr ⟨lw_p22, List.forall_mem_cons.mpr ⟨lw_p23, List.forall_mem_cons.mpr ⟨lw_p24, List.forall_mem_cons.mpr ⟨lw_p25, List.forall_mem_cons.mpr ⟨lw_p26, List.forall_mem_cons.mpr ⟨lw_p27, List.forall_mem_cons.mpr ⟨lw_p28, List.forall_mem_cons.mpr ⟨lw_p29, List.forall_mem_cons.mpr ⟨lw_p30, List.forall_mem_cons.mpr ⟨lw_p31, fun _ h => absurd h List.not_mem_nil⟩⟩⟩⟩⟩⟩⟩⟩⟩⟩⟩⟩⟩⟩⟩⟩
theorem lw_p32 : lw_okq (⟨"WordEach$Question", "readWhole", "()I"⟩, 6) := ⟨⟨by decide +kernel, by decide +kernel⟩, List.mem_of_getElem? (i := 389) (by decide +kernel), List.mem_of_getElem? (i := 1007) (by decide +kernel), List.mem_of_getElem? (i := 1008) (by decide +kernel)⟩
theorem lw_p33 : lw_okq (⟨"WordEach$Question", "readTest", "()I"⟩, 6) := ⟨⟨by decide +kernel, by decide +kernel⟩, List.mem_of_getElem? (i := 389) (by decide +kernel), List.mem_of_getElem? (i := 1013) (by decide +kernel), List.mem_of_getElem? (i := 1014) (by decide +kernel)⟩
theorem lw_p34 : lw_okq (⟨"WordEach$Question", "readBoth", "()I"⟩, 6) := ⟨⟨by decide +kernel, by decide +kernel⟩, List.mem_of_getElem? (i := 389) (by decide +kernel), List.mem_of_getElem? (i := 1017) (by decide +kernel), List.mem_of_getElem? (i := 1018) (by decide +kernel)⟩
theorem lw_p35 : lw_okq (⟨"WordEach$Question", "readFact", "()I"⟩, 6) := ⟨⟨by decide +kernel, by decide +kernel⟩, List.mem_of_getElem? (i := 389) (by decide +kernel), List.mem_of_getElem? (i := 1021) (by decide +kernel), List.mem_of_getElem? (i := 1022) (by decide +kernel)⟩
theorem lw_p36 : lw_okq (⟨"WordEach$Question", "readOpened", "(Z)I"⟩, 6) := ⟨⟨by decide +kernel, by decide +kernel⟩, List.mem_of_getElem? (i := 389) (by decide +kernel), List.mem_of_getElem? (i := 1025) (by decide +kernel), List.mem_of_getElem? (i := 1026) (by decide +kernel)⟩
theorem lw_p37 : lw_okq (⟨"WordEach$Question", "opens", "()Z"⟩, 6) := ⟨⟨by decide +kernel, by decide +kernel⟩, List.mem_of_getElem? (i := 389) (by decide +kernel), List.mem_of_getElem? (i := 1029) (by decide +kernel), List.mem_of_getElem? (i := 1030) (by decide +kernel)⟩
theorem lw_p38 : lw_okq (⟨"WordEach$Question", "readSum", "()I"⟩, 6) := ⟨⟨by decide +kernel, by decide +kernel⟩, List.mem_of_getElem? (i := 389) (by decide +kernel), List.mem_of_getElem? (i := 1034) (by decide +kernel), List.mem_of_getElem? (i := 1035) (by decide +kernel)⟩
theorem lw_p39 : lw_okq (⟨"WordEach$Question", "readProduct", "()I"⟩, 6) := ⟨⟨by decide +kernel, by decide +kernel⟩, List.mem_of_getElem? (i := 389) (by decide +kernel), List.mem_of_getElem? (i := 1038) (by decide +kernel), List.mem_of_getElem? (i := 1039) (by decide +kernel)⟩
theorem lw_p40 : lw_okq (⟨"WordEach$Question", "readPart", "()I"⟩, 6) := ⟨⟨by decide +kernel, by decide +kernel⟩, List.mem_of_getElem? (i := 389) (by decide +kernel), List.mem_of_getElem? (i := 1042) (by decide +kernel), List.mem_of_getElem? (i := 1043) (by decide +kernel)⟩
theorem lw_p41 : lw_okq (⟨"WordEach$Question", "readBracket", "(I)I"⟩, 6) := ⟨⟨by decide +kernel, by decide +kernel⟩, List.mem_of_getElem? (i := 389) (by decide +kernel), List.mem_of_getElem? (i := 1047) (by decide +kernel), List.mem_of_getElem? (i := 1048) (by decide +kernel)⟩
theorem lw_p42 : lw_okq (⟨"WordEach$Question", "readPartOf", "(I)I"⟩, 6) := ⟨⟨by decide +kernel, by decide +kernel⟩, List.mem_of_getElem? (i := 389) (by decide +kernel), List.mem_of_getElem? (i := 1057) (by decide +kernel), List.mem_of_getElem? (i := 1058) (by decide +kernel)⟩
theorem lw_p43 : lw_okq (⟨"WordEach$Question", "wordAt", "(I)I"⟩, 6) := ⟨⟨by decide +kernel, by decide +kernel⟩, List.mem_of_getElem? (i := 389) (by decide +kernel), List.mem_of_getElem? (i := 1061) (by decide +kernel), List.mem_of_getElem? (i := 1062) (by decide +kernel)⟩
theorem lw_p44 : lw_okq (⟨"WordEach$Question", "wordsOfCase", "()I"⟩, 6) := ⟨⟨by decide +kernel, by decide +kernel⟩, List.mem_of_getElem? (i := 389) (by decide +kernel), List.mem_of_getElem? (i := 1065) (by decide +kernel), List.mem_of_getElem? (i := 1066) (by decide +kernel)⟩
theorem lw_p45 : lw_okq (⟨"WordEach$Question", "timesHeard", "(I)I"⟩, 6) := ⟨⟨by decide +kernel, by decide +kernel⟩, List.mem_of_getElem? (i := 389) (by decide +kernel), List.mem_of_getElem? (i := 1069) (by decide +kernel), List.mem_of_getElem? (i := 1070) (by decide +kernel)⟩
theorem lw_p46 : lw_okq (⟨"WordEach$Question", "simplePart", "(I)I"⟩, 6) := ⟨⟨by decide +kernel, by decide +kernel⟩, List.mem_of_getElem? (i := 389) (by decide +kernel), List.mem_of_getElem? (i := 1074) (by decide +kernel), List.mem_of_getElem? (i := 1075) (by decide +kernel)⟩
theorem lw_p47 : lw_okq (⟨"WordEach$Question", "tellTest", "(II)J"⟩, 6) := ⟨⟨by decide +kernel, by decide +kernel⟩, List.mem_of_getElem? (i := 389) (by decide +kernel), List.mem_of_getElem? (i := 1094) (by decide +kernel), List.mem_of_getElem? (i := 1095) (by decide +kernel)⟩
def lw_privs_3 : List (MethodName × Nat) := [(⟨"WordEach$Question", "readWhole", "()I"⟩, 6), (⟨"WordEach$Question", "readTest", "()I"⟩, 6), (⟨"WordEach$Question", "readBoth", "()I"⟩, 6), (⟨"WordEach$Question", "readFact", "()I"⟩, 6), (⟨"WordEach$Question", "readOpened", "(Z)I"⟩, 6), (⟨"WordEach$Question", "opens", "()Z"⟩, 6), (⟨"WordEach$Question", "readSum", "()I"⟩, 6), (⟨"WordEach$Question", "readProduct", "()I"⟩, 6), (⟨"WordEach$Question", "readPart", "()I"⟩, 6), (⟨"WordEach$Question", "readBracket", "(I)I"⟩, 6), (⟨"WordEach$Question", "readPartOf", "(I)I"⟩, 6), (⟨"WordEach$Question", "wordAt", "(I)I"⟩, 6), (⟨"WordEach$Question", "wordsOfCase", "()I"⟩, 6), (⟨"WordEach$Question", "timesHeard", "(I)I"⟩, 6), (⟨"WordEach$Question", "simplePart", "(I)I"⟩, 6), (⟨"WordEach$Question", "tellTest", "(II)J"⟩, 6)]
theorem lw_r3 : ∀ q ∈ lw_privs_3, lw_okq q := List.forall_mem_cons.mpr ⟨lw_p32, List.forall_mem_cons.mpr ⟨lw_p33, List.forall_mem_cons.mpr ⟨lw_p34, List.forall_mem_cons.mpr ⟨lw_p35, List.forall_mem_cons.mpr ⟨lw_p36, List.forall_mem_cons.mpr ⟨lw_p37, List.forall_mem_cons.mpr ⟨lw_p38, List.forall_mem_cons.mpr ⟨lw_p39, List.forall_mem_cons.mpr ⟨lw_p40, List.forall_mem_cons.mpr ⟨lw_p41, List.forall_mem_cons.mpr ⟨lw_p42, List.forall_mem_cons.mpr ⟨lw_p43, List.forall_mem_cons.mpr ⟨lw_p44, List.forall_mem_cons.mpr ⟨lw_p45, List.forall_mem_cons.mpr ⟨lw_p46, List.forall_mem_cons.mpr ⟨lw_p47, fun _ h => absurd h List.not_mem_nil⟩⟩⟩⟩⟩⟩⟩⟩⟩⟩⟩⟩⟩⟩⟩⟩
theorem lw_p48 : lw_okq (⟨"WordEach$Question", "tellSum", "(II)J"⟩, 6) := ⟨⟨by decide +kernel, by decide +kernel⟩, List.mem_of_getElem? (i := 389) (by decide +kernel), List.mem_of_getElem? (i := 1098) (by decide +kernel), List.mem_of_getElem? (i := 1099) (by decide +kernel)⟩
theorem lw_p49 : lw_okq (⟨"WordEach$Row", "addOctet", "(I)V"⟩, 5) := ⟨⟨by decide +kernel, by decide +kernel⟩, List.mem_of_getElem? (i := 262) (by decide +kernel), List.mem_of_getElem? (i := 1110) (by decide +kernel), List.mem_of_getElem? (i := 1111) (by decide +kernel)⟩
theorem lw_p50 : lw_okq (⟨"WordEachModel", "look", "()I"⟩, 89) := ⟨⟨by decide +kernel, by decide +kernel⟩, List.mem_of_getElem? (i := 1145) (by decide +kernel), List.mem_of_getElem? (i := 1433) (by decide +kernel), List.mem_of_getElem? (i := 1434) (by decide +kernel)⟩
theorem lw_p51 : lw_okq (⟨"WordEachModel", "statementTold", "()V"⟩, 89) := ⟨⟨by decide +kernel, by decide +kernel⟩, List.mem_of_getElem? (i := 1145) (by decide +kernel), List.mem_of_getElem? (i := 1437) (by decide +kernel), List.mem_of_getElem? (i := 1438) (by decide +kernel)⟩
theorem lw_p52 : lw_okq (⟨"WordEachModel", "fail", "(II)V"⟩, 89) := ⟨⟨by decide +kernel, by decide +kernel⟩, List.mem_of_getElem? (i := 1145) (by decide +kernel), List.mem_of_getElem? (i := 1441) (by decide +kernel), List.mem_of_getElem? (i := 1442) (by decide +kernel)⟩
theorem lw_p53 : lw_okq (⟨"WordEachModel", "takes", "([C)Z"⟩, 89) := ⟨⟨by decide +kernel, by decide +kernel⟩, List.mem_of_getElem? (i := 1145) (by decide +kernel), List.mem_of_getElem? (i := 1445) (by decide +kernel), List.mem_of_getElem? (i := 1446) (by decide +kernel)⟩
theorem lw_p54 : lw_okq (⟨"WordEachModel", "isHere", "([C)Z"⟩, 89) := ⟨⟨by decide +kernel, by decide +kernel⟩, List.mem_of_getElem? (i := 1145) (by decide +kernel), List.mem_of_getElem? (i := 1449) (by decide +kernel), List.mem_of_getElem? (i := 1450) (by decide +kernel)⟩
theorem lw_p55 : lw_okq (⟨"WordEachModel", "newWord", "(II)V"⟩, 89) := ⟨⟨by decide +kernel, by decide +kernel⟩, List.mem_of_getElem? (i := 1145) (by decide +kernel), List.mem_of_getElem? (i := 1456) (by decide +kernel), List.mem_of_getElem? (i := 1457) (by decide +kernel)⟩
theorem lw_p56 : lw_okq (⟨"WordEachModel", "isFull", "(III)Z"⟩, 89) := ⟨⟨by decide +kernel, by decide +kernel⟩, List.mem_of_getElem? (i := 1145) (by decide +kernel), List.mem_of_getElem? (i := 1460) (by decide +kernel), List.mem_of_getElem? (i := 1461) (by decide +kernel)⟩
theorem lw_p57 : lw_okq (⟨"WordEachModel", "newSpelt", "()J"⟩, 89) := ⟨⟨by decide +kernel, by decide +kernel⟩, List.mem_of_getElem? (i := 1145) (by decide +kernel), List.mem_of_getElem? (i := 1464) (by decide +kernel), List.mem_of_getElem? (i := 1465) (by decide +kernel)⟩
theorem lw_p58 : lw_okq (⟨"WordEachModel", "spelt", "()J"⟩, 89) := ⟨⟨by decide +kernel, by decide +kernel⟩, List.mem_of_getElem? (i := 1145) (by decide +kernel), List.mem_of_getElem? (i := 1468) (by decide +kernel), List.mem_of_getElem? (i := 1469) (by decide +kernel)⟩
theorem lw_p59 : lw_okq (⟨"WordEachModel", "isOwnHere", "()Z"⟩, 89) := ⟨⟨by decide +kernel, by decide +kernel⟩, List.mem_of_getElem? (i := 1145) (by decide +kernel), List.mem_of_getElem? (i := 1472) (by decide +kernel), List.mem_of_getElem? (i := 1473) (by decide +kernel)⟩
theorem lw_p60 : lw_okq (⟨"WordEachModel", "wordOf", "(J)I"⟩, 89) := ⟨⟨by decide +kernel, by decide +kernel⟩, List.mem_of_getElem? (i := 1145) (by decide +kernel), List.mem_of_getElem? (i := 1478) (by decide +kernel), List.mem_of_getElem? (i := 1479) (by decide +kernel)⟩
theorem lw_p61 : lw_okq (⟨"WordEachModel", "isWitness", "(J)Z"⟩, 89) := ⟨⟨by decide +kernel, by decide +kernel⟩, List.mem_of_getElem? (i := 1145) (by decide +kernel), List.mem_of_getElem? (i := 1482) (by decide +kernel), List.mem_of_getElem? (i := 1483) (by decide +kernel)⟩
theorem lw_p62 : lw_okq (⟨"WordEachModel", "newLine", "(I)V"⟩, 89) := ⟨⟨by decide +kernel, by decide +kernel⟩, List.mem_of_getElem? (i := 1145) (by decide +kernel), List.mem_of_getElem? (i := 1486) (by decide +kernel), List.mem_of_getElem? (i := 1487) (by decide +kernel)⟩
theorem lw_p63 : lw_okq (⟨"WordEachModel", "slotTold", "()I"⟩, 89) := ⟨⟨by decide +kernel, by decide +kernel⟩, List.mem_of_getElem? (i := 1145) (by decide +kernel), List.mem_of_getElem? (i := 1490) (by decide +kernel), List.mem_of_getElem? (i := 1491) (by decide +kernel)⟩
def lw_privs_4 : List (MethodName × Nat) := [(⟨"WordEach$Question", "tellSum", "(II)J"⟩, 6), (⟨"WordEach$Row", "addOctet", "(I)V"⟩, 5), (⟨"WordEachModel", "look", "()I"⟩, 89), (⟨"WordEachModel", "statementTold", "()V"⟩, 89), (⟨"WordEachModel", "fail", "(II)V"⟩, 89), (⟨"WordEachModel", "takes", "([C)Z"⟩, 89), (⟨"WordEachModel", "isHere", "([C)Z"⟩, 89), (⟨"WordEachModel", "newWord", "(II)V"⟩, 89), (⟨"WordEachModel", "isFull", "(III)Z"⟩, 89), (⟨"WordEachModel", "newSpelt", "()J"⟩, 89), (⟨"WordEachModel", "spelt", "()J"⟩, 89), (⟨"WordEachModel", "isOwnHere", "()Z"⟩, 89), (⟨"WordEachModel", "wordOf", "(J)I"⟩, 89), (⟨"WordEachModel", "isWitness", "(J)Z"⟩, 89), (⟨"WordEachModel", "newLine", "(I)V"⟩, 89), (⟨"WordEachModel", "slotTold", "()I"⟩, 89)]
theorem lw_r4 : ∀ q ∈ lw_privs_4, lw_okq q := List.forall_mem_cons.mpr ⟨lw_p48, List.forall_mem_cons.mpr ⟨lw_p49, List.forall_mem_cons.mpr ⟨lw_p50, List.forall_mem_cons.mpr ⟨lw_p51, List.forall_mem_cons.mpr ⟨lw_p52, List.forall_mem_cons.mpr ⟨lw_p53, List.forall_mem_cons.mpr ⟨lw_p54, List.forall_mem_cons.mpr ⟨lw_p55, List.forall_mem_cons.mpr ⟨lw_p56, List.forall_mem_cons.mpr ⟨lw_p57, List.forall_mem_cons.mpr ⟨lw_p58, List.forall_mem_cons.mpr ⟨lw_p59, List.forall_mem_cons.mpr ⟨lw_p60, List.forall_mem_cons.mpr ⟨lw_p61, List.forall_mem_cons.mpr ⟨lw_p62, List.forall_mem_cons.mpr ⟨lw_p63, fun _ h => absurd h List.not_mem_nil⟩⟩⟩⟩⟩⟩⟩⟩⟩⟩⟩⟩⟩⟩⟩⟩
theorem lw_p64 : lw_okq (⟨"WordEachModel", "asks", "([C)V"⟩, 89) := ⟨⟨by decide +kernel, by decide +kernel⟩, List.mem_of_getElem? (i := 1145) (by decide +kernel), List.mem_of_getElem? (i := 1494) (by decide +kernel), List.mem_of_getElem? (i := 1495) (by decide +kernel)⟩
theorem lw_p65 : lw_okq (⟨"WordEachModel", "newFact", "(I)V"⟩, 89) := ⟨⟨by decide +kernel, by decide +kernel⟩, List.mem_of_getElem? (i := 1145) (by decide +kernel), List.mem_of_getElem? (i := 1498) (by decide +kernel), List.mem_of_getElem? (i := 1499) (by decide +kernel)⟩
theorem lw_p66 : lw_okq (⟨"WordEachModel", "wordTold", "(I)I"⟩, 89) := ⟨⟨by decide +kernel, by decide +kernel⟩, List.mem_of_getElem? (i := 1145) (by decide +kernel), List.mem_of_getElem? (i := 1502) (by decide +kernel), List.mem_of_getElem? (i := 1503) (by decide +kernel)⟩
theorem lw_p67 : lw_okq (⟨"WordEachModel", "newWitness", "(I)V"⟩, 89) := ⟨⟨by decide +kernel, by decide +kernel⟩, List.mem_of_getElem? (i := 1145) (by decide +kernel), List.mem_of_getElem? (i := 1506) (by decide +kernel), List.mem_of_getElem? (i := 1507) (by decide +kernel)⟩
theorem lw_p68 : lw_okq (⟨"WordEachModel", "number", "(II)I"⟩, 89) := ⟨⟨by decide +kernel, by decide +kernel⟩, List.mem_of_getElem? (i := 1145) (by decide +kernel), List.mem_of_getElem? (i := 1510) (by decide +kernel), List.mem_of_getElem? (i := 1511) (by decide +kernel)⟩
theorem lw_p69 : lw_okq (⟨"WordEachModel", "accusedTold", "()V"⟩, 89) := ⟨⟨by decide +kernel, by decide +kernel⟩, List.mem_of_getElem? (i := 1145) (by decide +kernel), List.mem_of_getElem? (i := 1520) (by decide +kernel), List.mem_of_getElem? (i := 1521) (by decide +kernel)⟩
theorem lw_p70 : lw_okq (⟨"WordEachModel", "newCase", "(I)V"⟩, 89) := ⟨⟨by decide +kernel, by decide +kernel⟩, List.mem_of_getElem? (i := 1145) (by decide +kernel), List.mem_of_getElem? (i := 1524) (by decide +kernel), List.mem_of_getElem? (i := 1525) (by decide +kernel)⟩
theorem lw_p71 : lw_okq (⟨"WordEachModel", "asksSign", "(I)V"⟩, 89) := ⟨⟨by decide +kernel, by decide +kernel⟩, List.mem_of_getElem? (i := 1145) (by decide +kernel), List.mem_of_getElem? (i := 1528) (by decide +kernel), List.mem_of_getElem? (i := 1529) (by decide +kernel)⟩
theorem lw_p72 : lw_okq (⟨"WordEachModel", "takesSign", "(I)Z"⟩, 89) := ⟨⟨by decide +kernel, by decide +kernel⟩, List.mem_of_getElem? (i := 1145) (by decide +kernel), List.mem_of_getElem? (i := 1532) (by decide +kernel), List.mem_of_getElem? (i := 1533) (by decide +kernel)⟩
theorem lw_p73 : lw_okq (⟨"WordEachModel", "stands", "()V"⟩, 89) := ⟨⟨by decide +kernel, by decide +kernel⟩, List.mem_of_getElem? (i := 1145) (by decide +kernel), List.mem_of_getElem? (i := 1536) (by decide +kernel), List.mem_of_getElem? (i := 1537) (by decide +kernel)⟩
theorem lw_p74 : lw_okq (⟨"WordEachModel", "lineMany", "()I"⟩, 89) := ⟨⟨by decide +kernel, by decide +kernel⟩, List.mem_of_getElem? (i := 1145) (by decide +kernel), List.mem_of_getElem? (i := 1540) (by decide +kernel), List.mem_of_getElem? (i := 1541) (by decide +kernel)⟩
theorem lw_p75 : lw_okq (⟨"WordEachModel", "accusedName", "()I"⟩, 89) := ⟨⟨by decide +kernel, by decide +kernel⟩, List.mem_of_getElem? (i := 1145) (by decide +kernel), List.mem_of_getElem? (i := 1552) (by decide +kernel), List.mem_of_getElem? (i := 1553) (by decide +kernel)⟩
theorem lw_p76 : lw_okq (⟨"WordEachModel", "isWord", "(I)Z"⟩, 89) := ⟨⟨by decide +kernel, by decide +kernel⟩, List.mem_of_getElem? (i := 1145) (by decide +kernel), List.mem_of_getElem? (i := 1560) (by decide +kernel), List.mem_of_getElem? (i := 1561) (by decide +kernel)⟩
theorem lw_p77 : lw_okq (⟨"WordEachModel", "wordMany", "()I"⟩, 89) := ⟨⟨by decide +kernel, by decide +kernel⟩, List.mem_of_getElem? (i := 1145) (by decide +kernel), List.mem_of_getElem? (i := 1564) (by decide +kernel), List.mem_of_getElem? (i := 1565) (by decide +kernel)⟩
theorem lw_p78 : lw_okq (⟨"WordEachModel", "kindOf", "(I)I"⟩, 89) := ⟨⟨by decide +kernel, by decide +kernel⟩, List.mem_of_getElem? (i := 1145) (by decide +kernel), List.mem_of_getElem? (i := 1568) (by decide +kernel), List.mem_of_getElem? (i := 1569) (by decide +kernel)⟩
theorem lw_p79 : lw_okq (⟨"WordEachModel", "witnessMany", "()I"⟩, 89) := ⟨⟨by decide +kernel, by decide +kernel⟩, List.mem_of_getElem? (i := 1145) (by decide +kernel), List.mem_of_getElem? (i := 1572) (by decide +kernel), List.mem_of_getElem? (i := 1573) (by decide +kernel)⟩
def lw_privs_5 : List (MethodName × Nat) := [(⟨"WordEachModel", "asks", "([C)V"⟩, 89), (⟨"WordEachModel", "newFact", "(I)V"⟩, 89), (⟨"WordEachModel", "wordTold", "(I)I"⟩, 89), (⟨"WordEachModel", "newWitness", "(I)V"⟩, 89), (⟨"WordEachModel", "number", "(II)I"⟩, 89), (⟨"WordEachModel", "accusedTold", "()V"⟩, 89), (⟨"WordEachModel", "newCase", "(I)V"⟩, 89), (⟨"WordEachModel", "asksSign", "(I)V"⟩, 89), (⟨"WordEachModel", "takesSign", "(I)Z"⟩, 89), (⟨"WordEachModel", "stands", "()V"⟩, 89), (⟨"WordEachModel", "lineMany", "()I"⟩, 89), (⟨"WordEachModel", "accusedName", "()I"⟩, 89), (⟨"WordEachModel", "isWord", "(I)Z"⟩, 89), (⟨"WordEachModel", "wordMany", "()I"⟩, 89), (⟨"WordEachModel", "kindOf", "(I)I"⟩, 89), (⟨"WordEachModel", "witnessMany", "()I"⟩, 89)]
theorem lw_r5 : ∀ q ∈ lw_privs_5, lw_okq q := List.forall_mem_cons.mpr ⟨lw_p64, List.forall_mem_cons.mpr ⟨lw_p65, List.forall_mem_cons.mpr ⟨lw_p66, List.forall_mem_cons.mpr ⟨lw_p67, List.forall_mem_cons.mpr ⟨lw_p68, List.forall_mem_cons.mpr ⟨lw_p69, List.forall_mem_cons.mpr ⟨lw_p70, List.forall_mem_cons.mpr ⟨lw_p71, List.forall_mem_cons.mpr ⟨lw_p72, List.forall_mem_cons.mpr ⟨lw_p73, List.forall_mem_cons.mpr ⟨lw_p74, List.forall_mem_cons.mpr ⟨lw_p75, List.forall_mem_cons.mpr ⟨lw_p76, List.forall_mem_cons.mpr ⟨lw_p77, List.forall_mem_cons.mpr ⟨lw_p78, List.forall_mem_cons.mpr ⟨lw_p79, fun _ h => absurd h List.not_mem_nil⟩⟩⟩⟩⟩⟩⟩⟩⟩⟩⟩⟩⟩⟩⟩⟩
theorem lw_p80 : lw_okq (⟨"WordEachModel", "says", "(II)Z"⟩, 89) := ⟨⟨by decide +kernel, by decide +kernel⟩, List.mem_of_getElem? (i := 1145) (by decide +kernel), List.mem_of_getElem? (i := 1576) (by decide +kernel), List.mem_of_getElem? (i := 1577) (by decide +kernel)⟩
theorem lw_p81 : lw_okq (⟨"WordEachModel", "saysMany", "(I)I"⟩, 89) := ⟨⟨by decide +kernel, by decide +kernel⟩, List.mem_of_getElem? (i := 1145) (by decide +kernel), List.mem_of_getElem? (i := 1580) (by decide +kernel), List.mem_of_getElem? (i := 1581) (by decide +kernel)⟩
theorem lw_p82 : lw_okq (⟨"WordEachModel", "saysOf", "(II)I"⟩, 89) := ⟨⟨by decide +kernel, by decide +kernel⟩, List.mem_of_getElem? (i := 1145) (by decide +kernel), List.mem_of_getElem? (i := 1584) (by decide +kernel), List.mem_of_getElem? (i := 1585) (by decide +kernel)⟩
theorem lw_p83 : lw_okq (⟨"WordEachModel", "isBench", "(I)Z"⟩, 89) := ⟨⟨by decide +kernel, by decide +kernel⟩, List.mem_of_getElem? (i := 1145) (by decide +kernel), List.mem_of_getElem? (i := 1597) (by decide +kernel), List.mem_of_getElem? (i := 1598) (by decide +kernel)⟩
theorem lw_p84 : lw_okq (⟨"WordEachModel", "spokeAt", "(I)I"⟩, 89) := ⟨⟨by decide +kernel, by decide +kernel⟩, List.mem_of_getElem? (i := 1145) (by decide +kernel), List.mem_of_getElem? (i := 1602) (by decide +kernel), List.mem_of_getElem? (i := 1603) (by decide +kernel)⟩
theorem lw_p85 : lw_okq (⟨"WordEachModel", "adds", "(II)V"⟩, 89) := ⟨⟨by decide +kernel, by decide +kernel⟩, List.mem_of_getElem? (i := 1145) (by decide +kernel), List.mem_of_getElem? (i := 1620) (by decide +kernel), List.mem_of_getElem? (i := 1621) (by decide +kernel)⟩
theorem lw_p86 : lw_okq (⟨"WordEachModel", "readsRow", "()Z"⟩, 89) := ⟨⟨by decide +kernel, by decide +kernel⟩, List.mem_of_getElem? (i := 1145) (by decide +kernel), List.mem_of_getElem? (i := 1640) (by decide +kernel), List.mem_of_getElem? (i := 1641) (by decide +kernel)⟩
theorem lw_p87 : lw_okq (⟨"WordEachModel", "triesRow", "(I)V"⟩, 89) := ⟨⟨by decide +kernel, by decide +kernel⟩, List.mem_of_getElem? (i := 1145) (by decide +kernel), List.mem_of_getElem? (i := 1644) (by decide +kernel), List.mem_of_getElem? (i := 1645) (by decide +kernel)⟩
theorem lw_p88 : lw_okq (⟨"WordEachModel", "tries", "(I)V"⟩, 89) := ⟨⟨by decide +kernel, by decide +kernel⟩, List.mem_of_getElem? (i := 1145) (by decide +kernel), List.mem_of_getElem? (i := 1648) (by decide +kernel), List.mem_of_getElem? (i := 1649) (by decide +kernel)⟩
theorem lw_p89 : lw_okq (⟨"WordEachModel", "reads", "()Z"⟩, 89) := ⟨⟨by decide +kernel, by decide +kernel⟩, List.mem_of_getElem? (i := 1145) (by decide +kernel), List.mem_of_getElem? (i := 1652) (by decide +kernel), List.mem_of_getElem? (i := 1653) (by decide +kernel)⟩
theorem lw_p90 : lw_okq (⟨"WordEachModel", "clauseFrom", "(II)I"⟩, 89) := ⟨⟨by decide +kernel, by decide +kernel⟩, List.mem_of_getElem? (i := 1145) (by decide +kernel), List.mem_of_getElem? (i := 1656) (by decide +kernel), List.mem_of_getElem? (i := 1657) (by decide +kernel)⟩
theorem lw_p91 : lw_okq (⟨"WordEachModel", "fits", "(II)I"⟩, 89) := ⟨⟨by decide +kernel, by decide +kernel⟩, List.mem_of_getElem? (i := 1145) (by decide +kernel), List.mem_of_getElem? (i := 1660) (by decide +kernel), List.mem_of_getElem? (i := 1661) (by decide +kernel)⟩
theorem lw_p92 : lw_okq (⟨"WordEachModel", "isBinding", "(I)Z"⟩, 89) := ⟨⟨by decide +kernel, by decide +kernel⟩, List.mem_of_getElem? (i := 1145) (by decide +kernel), List.mem_of_getElem? (i := 1664) (by decide +kernel), List.mem_of_getElem? (i := 1665) (by decide +kernel)⟩
theorem lw_p93 : lw_okq (⟨"WordEachModel", "isAllSo", "(I)Z"⟩, 89) := ⟨⟨by decide +kernel, by decide +kernel⟩, List.mem_of_getElem? (i := 1145) (by decide +kernel), List.mem_of_getElem? (i := 1677) (by decide +kernel), List.mem_of_getElem? (i := 1678) (by decide +kernel)⟩
theorem lw_p94 : lw_okq (⟨"WordEachModel", "isSo", "(II)Z"⟩, 89) := ⟨⟨by decide +kernel, by decide +kernel⟩, List.mem_of_getElem? (i := 1145) (by decide +kernel), List.mem_of_getElem? (i := 1681) (by decide +kernel), List.mem_of_getElem? (i := 1682) (by decide +kernel)⟩
theorem lw_p95 : lw_okq (⟨"WordEachModel", "isFact", "(III)Z"⟩, 89) := ⟨⟨by decide +kernel, by decide +kernel⟩, List.mem_of_getElem? (i := 1145) (by decide +kernel), List.mem_of_getElem? (i := 1685) (by decide +kernel), List.mem_of_getElem? (i := 1686) (by decide +kernel)⟩
def lw_privs_6 : List (MethodName × Nat) := [(⟨"WordEachModel", "says", "(II)Z"⟩, 89), (⟨"WordEachModel", "saysMany", "(I)I"⟩, 89), (⟨"WordEachModel", "saysOf", "(II)I"⟩, 89), (⟨"WordEachModel", "isBench", "(I)Z"⟩, 89), (⟨"WordEachModel", "spokeAt", "(I)I"⟩, 89), (⟨"WordEachModel", "adds", "(II)V"⟩, 89), (⟨"WordEachModel", "readsRow", "()Z"⟩, 89), (⟨"WordEachModel", "triesRow", "(I)V"⟩, 89), (⟨"WordEachModel", "tries", "(I)V"⟩, 89), (⟨"WordEachModel", "reads", "()Z"⟩, 89), (⟨"WordEachModel", "clauseFrom", "(II)I"⟩, 89), (⟨"WordEachModel", "fits", "(II)I"⟩, 89), (⟨"WordEachModel", "isBinding", "(I)Z"⟩, 89), (⟨"WordEachModel", "isAllSo", "(I)Z"⟩, 89), (⟨"WordEachModel", "isSo", "(II)Z"⟩, 89), (⟨"WordEachModel", "isFact", "(III)Z"⟩, 89)]
theorem lw_r6 : ∀ q ∈ lw_privs_6, lw_okq q := List.forall_mem_cons.mpr ⟨lw_p80, List.forall_mem_cons.mpr ⟨lw_p81, List.forall_mem_cons.mpr ⟨lw_p82, List.forall_mem_cons.mpr ⟨lw_p83, List.forall_mem_cons.mpr ⟨lw_p84, List.forall_mem_cons.mpr ⟨lw_p85, List.forall_mem_cons.mpr ⟨lw_p86, List.forall_mem_cons.mpr ⟨lw_p87, List.forall_mem_cons.mpr ⟨lw_p88, List.forall_mem_cons.mpr ⟨lw_p89, List.forall_mem_cons.mpr ⟨lw_p90, List.forall_mem_cons.mpr ⟨lw_p91, List.forall_mem_cons.mpr ⟨lw_p92, List.forall_mem_cons.mpr ⟨lw_p93, List.forall_mem_cons.mpr ⟨lw_p94, List.forall_mem_cons.mpr ⟨lw_p95, fun _ h => absurd h List.not_mem_nil⟩⟩⟩⟩⟩⟩⟩⟩⟩⟩⟩⟩⟩⟩⟩⟩
theorem lw_p96 : lw_okq (⟨"WordEachModel", "rulesRow", "()I"⟩, 89) := ⟨⟨by decide +kernel, by decide +kernel⟩, List.mem_of_getElem? (i := 1145) (by decide +kernel), List.mem_of_getElem? (i := 1693) (by decide +kernel), List.mem_of_getElem? (i := 1694) (by decide +kernel)⟩
theorem lw_p97 : lw_okq (⟨"WordEachModel", "rules", "()I"⟩, 89) := ⟨⟨by decide +kernel, by decide +kernel⟩, List.mem_of_getElem? (i := 1145) (by decide +kernel), List.mem_of_getElem? (i := 1697) (by decide +kernel), List.mem_of_getElem? (i := 1698) (by decide +kernel)⟩
theorem lw_p98 : lw_okq (⟨"WordEachModel", "truth", "()I"⟩, 89) := ⟨⟨by decide +kernel, by decide +kernel⟩, List.mem_of_getElem? (i := 1145) (by decide +kernel), List.mem_of_getElem? (i := 1701) (by decide +kernel), List.mem_of_getElem? (i := 1702) (by decide +kernel)⟩
theorem lw_p99 : lw_okq (⟨"WordEachModel", "caseMany", "()I"⟩, 89) := ⟨⟨by decide +kernel, by decide +kernel⟩, List.mem_of_getElem? (i := 1145) (by decide +kernel), List.mem_of_getElem? (i := 1709) (by decide +kernel), List.mem_of_getElem? (i := 1710) (by decide +kernel)⟩
theorem lw_p100 : lw_okq (⟨"WordEachModel", "rulesCase", "(I)I"⟩, 89) := ⟨⟨by decide +kernel, by decide +kernel⟩, List.mem_of_getElem? (i := 1145) (by decide +kernel), List.mem_of_getElem? (i := 1713) (by decide +kernel), List.mem_of_getElem? (i := 1714) (by decide +kernel)⟩
theorem lw_p101 : lw_okq (⟨"WordEachModel", "triesCase", "(II)V"⟩, 89) := ⟨⟨by decide +kernel, by decide +kernel⟩, List.mem_of_getElem? (i := 1145) (by decide +kernel), List.mem_of_getElem? (i := 1717) (by decide +kernel), List.mem_of_getElem? (i := 1718) (by decide +kernel)⟩
theorem lw_p102 : lw_okq (⟨"WordEachModel", "isFound", "(IIII)Z"⟩, 89) := ⟨⟨by decide +kernel, by decide +kernel⟩, List.mem_of_getElem? (i := 1145) (by decide +kernel), List.mem_of_getElem? (i := 1726) (by decide +kernel), List.mem_of_getElem? (i := 1727) (by decide +kernel)⟩
theorem lw_p103 : lw_okq (⟨"WordEachModel", "canChoose", "(II)Z"⟩, 89) := ⟨⟨by decide +kernel, by decide +kernel⟩, List.mem_of_getElem? (i := 1145) (by decide +kernel), List.mem_of_getElem? (i := 1730) (by decide +kernel), List.mem_of_getElem? (i := 1731) (by decide +kernel)⟩
theorem lw_p104 : lw_okq (⟨"WordEachModel", "sideOf", "(I)I"⟩, 89) := ⟨⟨by decide +kernel, by decide +kernel⟩, List.mem_of_getElem? (i := 1145) (by decide +kernel), List.mem_of_getElem? (i := 1734) (by decide +kernel), List.mem_of_getElem? (i := 1735) (by decide +kernel)⟩
theorem lw_p105 : lw_okq (⟨"WordEachModel", "isPlan", "(III)Z"⟩, 89) := ⟨⟨by decide +kernel, by decide +kernel⟩, List.mem_of_getElem? (i := 1145) (by decide +kernel), List.mem_of_getElem? (i := 1738) (by decide +kernel), List.mem_of_getElem? (i := 1739) (by decide +kernel)⟩
theorem lw_p106 : lw_okq (⟨"WordEachModel", "triesChoices", "(I)V"⟩, 89) := ⟨⟨by decide +kernel, by decide +kernel⟩, List.mem_of_getElem? (i := 1145) (by decide +kernel), List.mem_of_getElem? (i := 1742) (by decide +kernel), List.mem_of_getElem? (i := 1743) (by decide +kernel)⟩
theorem lw_p107 : lw_okq (⟨"WordEachModel", "isStandingPlan", "(II)Z"⟩, 89) := ⟨⟨by decide +kernel, by decide +kernel⟩, List.mem_of_getElem? (i := 1145) (by decide +kernel), List.mem_of_getElem? (i := 1746) (by decide +kernel), List.mem_of_getElem? (i := 1747) (by decide +kernel)⟩
theorem lw_p108 : lw_okq (⟨"WordEachModel", "takesOut", "(I)V"⟩, 89) := ⟨⟨by decide +kernel, by decide +kernel⟩, List.mem_of_getElem? (i := 1145) (by decide +kernel), List.mem_of_getElem? (i := 1750) (by decide +kernel), List.mem_of_getElem? (i := 1751) (by decide +kernel)⟩
theorem lw_p109 : lw_okq (⟨"WordEachModel", "isFirm", "(II)Z"⟩, 89) := ⟨⟨by decide +kernel, by decide +kernel⟩, List.mem_of_getElem? (i := 1145) (by decide +kernel), List.mem_of_getElem? (i := 1754) (by decide +kernel), List.mem_of_getElem? (i := 1755) (by decide +kernel)⟩
theorem lw_p110 : lw_okq (⟨"WordEachModel", "putsIn", "(II)V"⟩, 89) := ⟨⟨by decide +kernel, by decide +kernel⟩, List.mem_of_getElem? (i := 1145) (by decide +kernel), List.mem_of_getElem? (i := 1758) (by decide +kernel), List.mem_of_getElem? (i := 1759) (by decide +kernel)⟩
theorem lw_p111 : lw_okq (⟨"WordEachModel", "undoes", "(III)Z"⟩, 89) := ⟨⟨by decide +kernel, by decide +kernel⟩, List.mem_of_getElem? (i := 1145) (by decide +kernel), List.mem_of_getElem? (i := 1766) (by decide +kernel), List.mem_of_getElem? (i := 1767) (by decide +kernel)⟩
def lw_privs_7 : List (MethodName × Nat) := [(⟨"WordEachModel", "rulesRow", "()I"⟩, 89), (⟨"WordEachModel", "rules", "()I"⟩, 89), (⟨"WordEachModel", "truth", "()I"⟩, 89), (⟨"WordEachModel", "caseMany", "()I"⟩, 89), (⟨"WordEachModel", "rulesCase", "(I)I"⟩, 89), (⟨"WordEachModel", "triesCase", "(II)V"⟩, 89), (⟨"WordEachModel", "isFound", "(IIII)Z"⟩, 89), (⟨"WordEachModel", "canChoose", "(II)Z"⟩, 89), (⟨"WordEachModel", "sideOf", "(I)I"⟩, 89), (⟨"WordEachModel", "isPlan", "(III)Z"⟩, 89), (⟨"WordEachModel", "triesChoices", "(I)V"⟩, 89), (⟨"WordEachModel", "isStandingPlan", "(II)Z"⟩, 89), (⟨"WordEachModel", "takesOut", "(I)V"⟩, 89), (⟨"WordEachModel", "isFirm", "(II)Z"⟩, 89), (⟨"WordEachModel", "putsIn", "(II)V"⟩, 89), (⟨"WordEachModel", "undoes", "(III)Z"⟩, 89)]
theorem lw_r7 : ∀ q ∈ lw_privs_7, lw_okq q := List.forall_mem_cons.mpr ⟨lw_p96, List.forall_mem_cons.mpr ⟨lw_p97, List.forall_mem_cons.mpr ⟨lw_p98, List.forall_mem_cons.mpr ⟨lw_p99, List.forall_mem_cons.mpr ⟨lw_p100, List.forall_mem_cons.mpr ⟨lw_p101, List.forall_mem_cons.mpr ⟨lw_p102, List.forall_mem_cons.mpr ⟨lw_p103, List.forall_mem_cons.mpr ⟨lw_p104, List.forall_mem_cons.mpr ⟨lw_p105, List.forall_mem_cons.mpr ⟨lw_p106, List.forall_mem_cons.mpr ⟨lw_p107, List.forall_mem_cons.mpr ⟨lw_p108, List.forall_mem_cons.mpr ⟨lw_p109, List.forall_mem_cons.mpr ⟨lw_p110, List.forall_mem_cons.mpr ⟨lw_p111, fun _ h => absurd h List.not_mem_nil⟩⟩⟩⟩⟩⟩⟩⟩⟩⟩⟩⟩⟩⟩⟩⟩
theorem lw_p112 : lw_okq (⟨"WordEachModel", "games", "(I)I"⟩, 89) := ⟨⟨by decide +kernel, by decide +kernel⟩, List.mem_of_getElem? (i := 1145) (by decide +kernel), List.mem_of_getElem? (i := 1787) (by decide +kernel), List.mem_of_getElem? (i := 1788) (by decide +kernel)⟩
theorem lw_p113 : lw_okq (⟨"WordEachModel", "opens", "(I)V"⟩, 89) := ⟨⟨by decide +kernel, by decide +kernel⟩, List.mem_of_getElem? (i := 1145) (by decide +kernel), List.mem_of_getElem? (i := 1791) (by decide +kernel), List.mem_of_getElem? (i := 1792) (by decide +kernel)⟩
theorem lw_p114 : lw_okq (⟨"WordEachModel", "canMove", "(I)Z"⟩, 89) := ⟨⟨by decide +kernel, by decide +kernel⟩, List.mem_of_getElem? (i := 1145) (by decide +kernel), List.mem_of_getElem? (i := 1795) (by decide +kernel), List.mem_of_getElem? (i := 1796) (by decide +kernel)⟩
theorem lw_p115 : lw_okq (⟨"WordEachModel", "weighs", "(II)V"⟩, 89) := ⟨⟨by decide +kernel, by decide +kernel⟩, List.mem_of_getElem? (i := 1145) (by decide +kernel), List.mem_of_getElem? (i := 1799) (by decide +kernel), List.mem_of_getElem? (i := 1800) (by decide +kernel)⟩
theorem lw_p116 : lw_okq (⟨"WordEachModel", "orders", "(I)V"⟩, 89) := ⟨⟨by decide +kernel, by decide +kernel⟩, List.mem_of_getElem? (i := 1145) (by decide +kernel), List.mem_of_getElem? (i := 1820) (by decide +kernel), List.mem_of_getElem? (i := 1821) (by decide +kernel)⟩
theorem lw_p117 : lw_okq (⟨"WordEachModel", "isAhead", "(III)Z"⟩, 89) := ⟨⟨by decide +kernel, by decide +kernel⟩, List.mem_of_getElem? (i := 1145) (by decide +kernel), List.mem_of_getElem? (i := 1824) (by decide +kernel), List.mem_of_getElem? (i := 1825) (by decide +kernel)⟩
theorem lw_p118 : lw_okq (⟨"WordEachModel", "rulesOrder", "()I"⟩, 89) := ⟨⟨by decide +kernel, by decide +kernel⟩, List.mem_of_getElem? (i := 1145) (by decide +kernel), List.mem_of_getElem? (i := 1828) (by decide +kernel), List.mem_of_getElem? (i := 1829) (by decide +kernel)⟩
theorem lw_p119 : lw_okq (⟨"WordEachModel", "draws", "()V"⟩, 89) := ⟨⟨by decide +kernel, by decide +kernel⟩, List.mem_of_getElem? (i := 1145) (by decide +kernel), List.mem_of_getElem? (i := 1841) (by decide +kernel), List.mem_of_getElem? (i := 1842) (by decide +kernel)⟩
theorem lw_p120 : lw_okq (⟨"WordEachModel", "drawOf", "(I)I"⟩, 89) := ⟨⟨by decide +kernel, by decide +kernel⟩, List.mem_of_getElem? (i := 1145) (by decide +kernel), List.mem_of_getElem? (i := 1845) (by decide +kernel), List.mem_of_getElem? (i := 1846) (by decide +kernel)⟩
theorem lw_p121 : lw_okq (⟨"WordEachModel", "waysAll", "()I"⟩, 89) := ⟨⟨by decide +kernel, by decide +kernel⟩, List.mem_of_getElem? (i := 1145) (by decide +kernel), List.mem_of_getElem? (i := 1857) (by decide +kernel), List.mem_of_getElem? (i := 1858) (by decide +kernel)⟩
theorem lw_p122 : lw_okq (⟨"WordEachModel", "waysAt", "(I)V"⟩, 89) := ⟨⟨by decide +kernel, by decide +kernel⟩, List.mem_of_getElem? (i := 1145) (by decide +kernel), List.mem_of_getElem? (i := 1861) (by decide +kernel), List.mem_of_getElem? (i := 1862) (by decide +kernel)⟩
theorem lw_p123 : lw_okq (⟨"WordEachModel", "rulesWay", "(I)I"⟩, 89) := ⟨⟨by decide +kernel, by decide +kernel⟩, List.mem_of_getElem? (i := 1145) (by decide +kernel), List.mem_of_getElem? (i := 1865) (by decide +kernel), List.mem_of_getElem? (i := 1866) (by decide +kernel)⟩
theorem lw_p124 : lw_okq (⟨"WordEachModel", "qKind", "()I"⟩, 89) := ⟨⟨by decide +kernel, by decide +kernel⟩, List.mem_of_getElem? (i := 1145) (by decide +kernel), List.mem_of_getElem? (i := 1881) (by decide +kernel), List.mem_of_getElem? (i := 1882) (by decide +kernel)⟩
theorem lw_p125 : lw_okq (⟨"WordEachModel", "qTest", "()V"⟩, 89) := ⟨⟨by decide +kernel, by decide +kernel⟩, List.mem_of_getElem? (i := 1145) (by decide +kernel), List.mem_of_getElem? (i := 1885) (by decide +kernel), List.mem_of_getElem? (i := 1886) (by decide +kernel)⟩
theorem lw_p126 : lw_okq (⟨"WordEachModel", "qOpens", "(II)V"⟩, 89) := ⟨⟨by decide +kernel, by decide +kernel⟩, List.mem_of_getElem? (i := 1145) (by decide +kernel), List.mem_of_getElem? (i := 1889) (by decide +kernel), List.mem_of_getElem? (i := 1890) (by decide +kernel)⟩
theorem lw_p127 : lw_okq (⟨"WordEachModel", "qFact", "()V"⟩, 89) := ⟨⟨by decide +kernel, by decide +kernel⟩, List.mem_of_getElem? (i := 1145) (by decide +kernel), List.mem_of_getElem? (i := 1893) (by decide +kernel), List.mem_of_getElem? (i := 1894) (by decide +kernel)⟩
def lw_privs_8 : List (MethodName × Nat) := [(⟨"WordEachModel", "games", "(I)I"⟩, 89), (⟨"WordEachModel", "opens", "(I)V"⟩, 89), (⟨"WordEachModel", "canMove", "(I)Z"⟩, 89), (⟨"WordEachModel", "weighs", "(II)V"⟩, 89), (⟨"WordEachModel", "orders", "(I)V"⟩, 89), (⟨"WordEachModel", "isAhead", "(III)Z"⟩, 89), (⟨"WordEachModel", "rulesOrder", "()I"⟩, 89), (⟨"WordEachModel", "draws", "()V"⟩, 89), (⟨"WordEachModel", "drawOf", "(I)I"⟩, 89), (⟨"WordEachModel", "waysAll", "()I"⟩, 89), (⟨"WordEachModel", "waysAt", "(I)V"⟩, 89), (⟨"WordEachModel", "rulesWay", "(I)I"⟩, 89), (⟨"WordEachModel", "qKind", "()I"⟩, 89), (⟨"WordEachModel", "qTest", "()V"⟩, 89), (⟨"WordEachModel", "qOpens", "(II)V"⟩, 89), (⟨"WordEachModel", "qFact", "()V"⟩, 89)]
theorem lw_r8 : ∀ q ∈ lw_privs_8, lw_okq q := List.forall_mem_cons.mpr ⟨lw_p112, List.forall_mem_cons.mpr ⟨lw_p113, List.forall_mem_cons.mpr ⟨lw_p114, List.forall_mem_cons.mpr ⟨lw_p115, List.forall_mem_cons.mpr ⟨lw_p116, List.forall_mem_cons.mpr ⟨lw_p117, List.forall_mem_cons.mpr ⟨lw_p118, List.forall_mem_cons.mpr ⟨lw_p119, List.forall_mem_cons.mpr ⟨lw_p120, List.forall_mem_cons.mpr ⟨lw_p121, List.forall_mem_cons.mpr ⟨lw_p122, List.forall_mem_cons.mpr ⟨lw_p123, List.forall_mem_cons.mpr ⟨lw_p124, List.forall_mem_cons.mpr ⟨lw_p125, List.forall_mem_cons.mpr ⟨lw_p126, List.forall_mem_cons.mpr ⟨lw_p127, fun _ h => absurd h List.not_mem_nil⟩⟩⟩⟩⟩⟩⟩⟩⟩⟩⟩⟩⟩⟩⟩⟩
theorem lw_p128 : lw_okq (⟨"WordEachModel", "qCode", "(I)V"⟩, 89) := ⟨⟨by decide +kernel, by decide +kernel⟩, List.mem_of_getElem? (i := 1145) (by decide +kernel), List.mem_of_getElem? (i := 1897) (by decide +kernel), List.mem_of_getElem? (i := 1898) (by decide +kernel)⟩
theorem lw_p129 : lw_okq (⟨"WordEachModel", "qSums", "()V"⟩, 89) := ⟨⟨by decide +kernel, by decide +kernel⟩, List.mem_of_getElem? (i := 1145) (by decide +kernel), List.mem_of_getElem? (i := 1901) (by decide +kernel), List.mem_of_getElem? (i := 1902) (by decide +kernel)⟩
theorem lw_p130 : lw_okq (⟨"WordEachModel", "qPartTold", "()V"⟩, 89) := ⟨⟨by decide +kernel, by decide +kernel⟩, List.mem_of_getElem? (i := 1145) (by decide +kernel), List.mem_of_getElem? (i := 1905) (by decide +kernel), List.mem_of_getElem? (i := 1906) (by decide +kernel)⟩
theorem lw_p131 : lw_okq (⟨"WordEachModel", "qWordOf", "(II)I"⟩, 89) := ⟨⟨by decide +kernel, by decide +kernel⟩, List.mem_of_getElem? (i := 1145) (by decide +kernel), List.mem_of_getElem? (i := 1909) (by decide +kernel), List.mem_of_getElem? (i := 1910) (by decide +kernel)⟩
theorem lw_p132 : lw_okq (⟨"WordEachModel", "qWordHere", "()I"⟩, 89) := ⟨⟨by decide +kernel, by decide +kernel⟩, List.mem_of_getElem? (i := 1145) (by decide +kernel), List.mem_of_getElem? (i := 1913) (by decide +kernel), List.mem_of_getElem? (i := 1914) (by decide +kernel)⟩
theorem lw_p133 : lw_okq (⟨"WordEachModel", "qAsksWord", "(I)V"⟩, 89) := ⟨⟨by decide +kernel, by decide +kernel⟩, List.mem_of_getElem? (i := 1145) (by decide +kernel), List.mem_of_getElem? (i := 1917) (by decide +kernel), List.mem_of_getElem? (i := 1918) (by decide +kernel)⟩
theorem lw_p134 : lw_okq (⟨"WordEachModel", "qEndsPart", "()V"⟩, 89) := ⟨⟨by decide +kernel, by decide +kernel⟩, List.mem_of_getElem? (i := 1145) (by decide +kernel), List.mem_of_getElem? (i := 1921) (by decide +kernel), List.mem_of_getElem? (i := 1922) (by decide +kernel)⟩
theorem lw_p135 : lw_okq (⟨"WordEachModel", "qDrops", "()V"⟩, 89) := ⟨⟨by decide +kernel, by decide +kernel⟩, List.mem_of_getElem? (i := 1145) (by decide +kernel), List.mem_of_getElem? (i := 1925) (by decide +kernel), List.mem_of_getElem? (i := 1926) (by decide +kernel)⟩
theorem lw_p136 : lw_okq (⟨"WordEachModel", "qGoesOn", "()Z"⟩, 89) := ⟨⟨by decide +kernel, by decide +kernel⟩, List.mem_of_getElem? (i := 1145) (by decide +kernel), List.mem_of_getElem? (i := 1929) (by decide +kernel), List.mem_of_getElem? (i := 1930) (by decide +kernel)⟩
theorem lw_p137 : lw_okq (⟨"WordEachModel", "qBracket", "()I"⟩, 89) := ⟨⟨by decide +kernel, by decide +kernel⟩, List.mem_of_getElem? (i := 1145) (by decide +kernel), List.mem_of_getElem? (i := 1933) (by decide +kernel), List.mem_of_getElem? (i := 1934) (by decide +kernel)⟩
theorem lw_p138 : lw_okq (⟨"WordEachModel", "qDropsToBracket", "()V"⟩, 89) := ⟨⟨by decide +kernel, by decide +kernel⟩, List.mem_of_getElem? (i := 1145) (by decide +kernel), List.mem_of_getElem? (i := 1940) (by decide +kernel), List.mem_of_getElem? (i := 1941) (by decide +kernel)⟩
theorem lw_p139 : lw_okq (⟨"WordEachModel", "qIsOn", "(I)Z"⟩, 89) := ⟨⟨by decide +kernel, by decide +kernel⟩, List.mem_of_getElem? (i := 1145) (by decide +kernel), List.mem_of_getElem? (i := 1944) (by decide +kernel), List.mem_of_getElem? (i := 1945) (by decide +kernel)⟩
theorem lw_p140 : lw_okq (⟨"WordEachModel", "qDropsNots", "()V"⟩, 89) := ⟨⟨by decide +kernel, by decide +kernel⟩, List.mem_of_getElem? (i := 1145) (by decide +kernel), List.mem_of_getElem? (i := 1948) (by decide +kernel), List.mem_of_getElem? (i := 1949) (by decide +kernel)⟩
theorem lw_p141 : lw_okq (⟨"WordEachModel", "qGoesOnTest", "()Z"⟩, 89) := ⟨⟨by decide +kernel, by decide +kernel⟩, List.mem_of_getElem? (i := 1145) (by decide +kernel), List.mem_of_getElem? (i := 1952) (by decide +kernel), List.mem_of_getElem? (i := 1953) (by decide +kernel)⟩
theorem lw_p142 : lw_okq (⟨"WordEachModel", "qHasSquare", "()Z"⟩, 89) := ⟨⟨by decide +kernel, by decide +kernel⟩, List.mem_of_getElem? (i := 1145) (by decide +kernel), List.mem_of_getElem? (i := 1956) (by decide +kernel), List.mem_of_getElem? (i := 1957) (by decide +kernel)⟩
theorem lw_p143 : lw_okq (⟨"WordEachModel", "qTold", "(I)J"⟩, 89) := ⟨⟨by decide +kernel, by decide +kernel⟩, List.mem_of_getElem? (i := 1145) (by decide +kernel), List.mem_of_getElem? (i := 1961) (by decide +kernel), List.mem_of_getElem? (i := 1962) (by decide +kernel)⟩
def lw_privs_9 : List (MethodName × Nat) := [(⟨"WordEachModel", "qCode", "(I)V"⟩, 89), (⟨"WordEachModel", "qSums", "()V"⟩, 89), (⟨"WordEachModel", "qPartTold", "()V"⟩, 89), (⟨"WordEachModel", "qWordOf", "(II)I"⟩, 89), (⟨"WordEachModel", "qWordHere", "()I"⟩, 89), (⟨"WordEachModel", "qAsksWord", "(I)V"⟩, 89), (⟨"WordEachModel", "qEndsPart", "()V"⟩, 89), (⟨"WordEachModel", "qDrops", "()V"⟩, 89), (⟨"WordEachModel", "qGoesOn", "()Z"⟩, 89), (⟨"WordEachModel", "qBracket", "()I"⟩, 89), (⟨"WordEachModel", "qDropsToBracket", "()V"⟩, 89), (⟨"WordEachModel", "qIsOn", "(I)Z"⟩, 89), (⟨"WordEachModel", "qDropsNots", "()V"⟩, 89), (⟨"WordEachModel", "qGoesOnTest", "()Z"⟩, 89), (⟨"WordEachModel", "qHasSquare", "()Z"⟩, 89), (⟨"WordEachModel", "qTold", "(I)J"⟩, 89)]
theorem lw_r9 : ∀ q ∈ lw_privs_9, lw_okq q := List.forall_mem_cons.mpr ⟨lw_p128, List.forall_mem_cons.mpr ⟨lw_p129, List.forall_mem_cons.mpr ⟨lw_p130, List.forall_mem_cons.mpr ⟨lw_p131, List.forall_mem_cons.mpr ⟨lw_p132, List.forall_mem_cons.mpr ⟨lw_p133, List.forall_mem_cons.mpr ⟨lw_p134, List.forall_mem_cons.mpr ⟨lw_p135, List.forall_mem_cons.mpr ⟨lw_p136, List.forall_mem_cons.mpr ⟨lw_p137, List.forall_mem_cons.mpr ⟨lw_p138, List.forall_mem_cons.mpr ⟨lw_p139, List.forall_mem_cons.mpr ⟨lw_p140, List.forall_mem_cons.mpr ⟨lw_p141, List.forall_mem_cons.mpr ⟨lw_p142, List.forall_mem_cons.mpr ⟨lw_p143, fun _ h => absurd h List.not_mem_nil⟩⟩⟩⟩⟩⟩⟩⟩⟩⟩⟩⟩⟩⟩⟩⟩
theorem lw_p144 : lw_okq (⟨"WordEachModel", "qPuts", "(J)V"⟩, 89) := ⟨⟨by decide +kernel, by decide +kernel⟩, List.mem_of_getElem? (i := 1145) (by decide +kernel), List.mem_of_getElem? (i := 1965) (by decide +kernel), List.mem_of_getElem? (i := 1966) (by decide +kernel)⟩
theorem lw_p145 : lw_okq (⟨"WordEachModel", "qOf", "(IJI)J"⟩, 89) := ⟨⟨by decide +kernel, by decide +kernel⟩, List.mem_of_getElem? (i := 1145) (by decide +kernel), List.mem_of_getElem? (i := 1969) (by decide +kernel), List.mem_of_getElem? (i := 1970) (by decide +kernel)⟩
theorem lw_p146 : lw_okq (⟨"WordEachModel", "qHas", "(JI)J"⟩, 89) := ⟨⟨by decide +kernel, by decide +kernel⟩, List.mem_of_getElem? (i := 1145) (by decide +kernel), List.mem_of_getElem? (i := 1974) (by decide +kernel), List.mem_of_getElem? (i := 1975) (by decide +kernel)⟩
theorem lw_p147 : lw_okq (⟨"WordEachModel", "qPartOf", "(II)J"⟩, 89) := ⟨⟨by decide +kernel, by decide +kernel⟩, List.mem_of_getElem? (i := 1145) (by decide +kernel), List.mem_of_getElem? (i := 1983) (by decide +kernel), List.mem_of_getElem? (i := 1984) (by decide +kernel)⟩
theorem lw_p148 : lw_okq (⟨"WordEachModel", "qJoins", "(I)V"⟩, 89) := ⟨⟨by decide +kernel, by decide +kernel⟩, List.mem_of_getElem? (i := 1145) (by decide +kernel), List.mem_of_getElem? (i := 1987) (by decide +kernel), List.mem_of_getElem? (i := 1988) (by decide +kernel)⟩
theorem lw_p149 : lw_okq (⟨"WordEachModel", "qTakes", "(IJI)V"⟩, 89) := ⟨⟨by decide +kernel, by decide +kernel⟩, List.mem_of_getElem? (i := 1145) (by decide +kernel), List.mem_of_getElem? (i := 1994) (by decide +kernel), List.mem_of_getElem? (i := 1995) (by decide +kernel)⟩
theorem lw_p150 : lw_okq (⟨"WordEachModel", "isTold", "(I)Z"⟩, 89) := ⟨⟨by decide +kernel, by decide +kernel⟩, List.mem_of_getElem? (i := 1145) (by decide +kernel), List.mem_of_getElem? (i := 2013) (by decide +kernel), List.mem_of_getElem? (i := 2014) (by decide +kernel)⟩
def lw_privs_10 : List (MethodName × Nat) := [(⟨"WordEachModel", "qPuts", "(J)V"⟩, 89), (⟨"WordEachModel", "qOf", "(IJI)J"⟩, 89), (⟨"WordEachModel", "qHas", "(JI)J"⟩, 89), (⟨"WordEachModel", "qPartOf", "(II)J"⟩, 89), (⟨"WordEachModel", "qJoins", "(I)V"⟩, 89), (⟨"WordEachModel", "qTakes", "(IJI)V"⟩, 89), (⟨"WordEachModel", "isTold", "(I)Z"⟩, 89)]
theorem lw_r10 : ∀ q ∈ lw_privs_10, lw_okq q := List.forall_mem_cons.mpr ⟨lw_p144, List.forall_mem_cons.mpr ⟨lw_p145, List.forall_mem_cons.mpr ⟨lw_p146, List.forall_mem_cons.mpr ⟨lw_p147, List.forall_mem_cons.mpr ⟨lw_p148, List.forall_mem_cons.mpr ⟨lw_p149, List.forall_mem_cons.mpr ⟨lw_p150, fun _ h => absurd h List.not_mem_nil⟩⟩⟩⟩⟩⟩⟩
def lw_privs : List (MethodName × Nat) := lw_privs_1 ++ (lw_privs_2 ++ (lw_privs_3 ++ (lw_privs_4 ++ (lw_privs_5 ++ (lw_privs_6 ++ (lw_privs_7 ++ (lw_privs_8 ++ (lw_privs_9 ++ (lw_privs_10)))))))))
def lw_tbl : List Cond := k2_sels lw_privs ++ tables_1
theorem lw_privs_ok : ∀ q ∈ lw_privs, lw_okq q := by
  show ∀ q ∈ lw_privs_1 ++ (lw_privs_2 ++ (lw_privs_3 ++ (lw_privs_4 ++ (lw_privs_5 ++ (lw_privs_6 ++ (lw_privs_7 ++ (lw_privs_8 ++ (lw_privs_9 ++ (lw_privs_10))))))))), lw_okq q
  exact List.forall_mem_append.mpr ⟨lw_r1, List.forall_mem_append.mpr ⟨lw_r2, List.forall_mem_append.mpr ⟨lw_r3, List.forall_mem_append.mpr ⟨lw_r4, List.forall_mem_append.mpr ⟨lw_r5, List.forall_mem_append.mpr ⟨lw_r6, List.forall_mem_append.mpr ⟨lw_r7, List.forall_mem_append.mpr ⟨lw_r8, List.forall_mem_append.mpr ⟨lw_r9, lw_r10⟩⟩⟩⟩⟩⟩⟩⟩⟩
/-! classes, links, methods -/
def am_Rs : List String := ["WordEach$Chance", "WordEach$Contest", "WordEach$Court", "WordEach$CourtReader", "WordEach$Judge", "WordEach$Planner", "WordEach$Question", "WordEach$Row", "WordEach$Seats", "WordEach$Tape", "WordEach$Witness", "WordEach", "WordEachModel", "java/lang/Math", "java/lang/Integer"]
def am_R (k : Nat) : String := match am_nth am_Rs k with
  | some t => t
  | none => ""
def am_T0 : u_T := fun k => match k with
  | 0 => ("WordEach$Chance", "judge", "LWordEach$Judge;", true)
  | 1 => ("WordEach$Chance", "ways", "[I", true)
  | 2 => ("WordEach$Chance", "saying", "[[I", true)
  | 3 => ("WordEach$Chance", "hanging", "[[I", true)
  | 4 => ("WordEach$Chance", "chosen", "[I", true)
  | 5 => ("WordEach$Chance", "isAwayCounted", "[Z", true)
  | _ => ("WordEach$Chance", "isCounted", "Z", false)
def am_ty0 : Nat → FieldType := fun k => match k with
  | 0 => .object "WordEach$Judge"
  | 1 => .array (.int)
  | 2 => .array (.array (.int))
  | 3 => .array (.array (.int))
  | 4 => .array (.int)
  | 5 => .array (.boolean)
  | _ => .boolean
theorem am_nm0 : ∀ a, a < 7 → ∀ b, b < 7 → a ≠ b → (am_T0 a).2.1 ≠ (am_T0 b).2.1 := by decide +kernel
theorem am_tk0 : ∀ k, k < 7 → parseFieldDescriptor (am_T0 k).2.2.1 = some (am_ty0 k) := by decide +kernel
def am_T1 : u_T := fun k => match k with
  | 0 => ("WordEach$Contest", "judge", "LWordEach$Judge;", true)
  | 1 => ("WordEach$Contest", "turns", "I", false)
  | 2 => ("WordEach$Contest", "firstWitness", "I", false)
  | _ => ("WordEach$Contest", "firstWord", "I", false)
def am_ty1 : Nat → FieldType := fun k => match k with
  | 0 => .object "WordEach$Judge"
  | 1 => .int
  | 2 => .int
  | _ => .int
theorem am_nm1 : ∀ a, a < 4 → ∀ b, b < 4 → a ≠ b → (am_T1 a).2.1 ≠ (am_T1 b).2.1 := by decide +kernel
theorem am_tk1 : ∀ k, k < 4 → parseFieldDescriptor (am_T1 k).2.2.1 = some (am_ty1 k) := by decide +kernel
def am_T2 : u_T := fun k => match k with
  | 0 => ("WordEach$Court", "spellings", "[I", true)
  | 1 => ("WordEach$Court", "kinds", "[I", true)
  | 2 => ("WordEach$Court", "slots", "[[I", true)
  | 3 => ("WordEach$Court", "slotCounts", "[I", true)
  | 4 => ("WordEach$Court", "slotPlaces", "[[I", true)
  | 5 => ("WordEach$Court", "factWords", "[[I", true)
  | 6 => ("WordEach$Court", "bench", "[LWordEach$Witness;", true)
  | 7 => ("WordEach$Court", "caseWords", "[[I", true)
  | 8 => ("WordEach$Court", "caseSizes", "[I", true)
  | 9 => ("WordEach$Court", "words", "I", false)
  | 10 => ("WordEach$Court", "lines", "I", false)
  | 11 => ("WordEach$Court", "facts", "I", false)
  | 12 => ("WordEach$Court", "witnesses", "I", false)
  | 13 => ("WordEach$Court", "cases", "I", false)
  | 14 => ("WordEach$Court", "accused", "I", false)
  | _ => ("WordEach$Court", "accusedDeed", "I", false)
def am_ty2 : Nat → FieldType := fun k => match k with
  | 0 => .array (.int)
  | 1 => .array (.int)
  | 2 => .array (.array (.int))
  | 3 => .array (.int)
  | 4 => .array (.array (.int))
  | 5 => .array (.array (.int))
  | 6 => .array (.object "WordEach$Witness")
  | 7 => .array (.array (.int))
  | 8 => .array (.int)
  | 9 => .int
  | 10 => .int
  | 11 => .int
  | 12 => .int
  | 13 => .int
  | 14 => .int
  | _ => .int
theorem am_nm2 : ∀ a, a < 16 → ∀ b, b < 16 → a ≠ b → (am_T2 a).2.1 ≠ (am_T2 b).2.1 := by decide +kernel
theorem am_tk2 : ∀ k, k < 16 → parseFieldDescriptor (am_T2 k).2.2.1 = some (am_ty2 k) := by decide +kernel
def am_T3 : u_T := fun k => match k with
  | 0 => ("WordEach$CourtReader", "tape", "LWordEach$Tape;", true)
  | _ => ("WordEach$CourtReader", "draft", "LWordEach$Court;", false)
def am_ty3 : Nat → FieldType := fun k => match k with
  | 0 => .object "WordEach$Tape"
  | _ => .object "WordEach$Court"
theorem am_nm3 : ∀ a, a < 2 → ∀ b, b < 2 → a ≠ b → (am_T3 a).2.1 ≠ (am_T3 b).2.1 := by decide +kernel
theorem am_tk3 : ∀ k, k < 2 → parseFieldDescriptor (am_T3 k).2.2.1 = some (am_ty3 k) := by decide +kernel
def am_T4 : u_T := fun k => match k with
  | 0 => ("WordEach$Judge", "fitting", "[I", true)
  | 1 => ("WordEach$Judge", "begun", "[Z", true)
  | 2 => ("WordEach$Judge", "court", "LWordEach$Court;", false)
  | _ => ("WordEach$Judge", "inForce", "I", false)
def am_ty4 : Nat → FieldType := fun k => match k with
  | 0 => .array (.int)
  | 1 => .array (.boolean)
  | 2 => .object "WordEach$Court"
  | _ => .int
theorem am_nm4 : ∀ a, a < 4 → ∀ b, b < 4 → a ≠ b → (am_T4 a).2.1 ≠ (am_T4 b).2.1 := by decide +kernel
theorem am_tk4 : ∀ k, k < 4 → parseFieldDescriptor (am_T4 k).2.2.1 = some (am_ty4 k) := by decide +kernel
def am_T5 : u_T := fun k => match k with
  | 0 => ("WordEach$Planner", "judge", "LWordEach$Judge;", true)
  | 1 => ("WordEach$Planner", "sizes", "[I", true)
  | 2 => ("WordEach$Planner", "witnesses", "[[I", true)
  | 3 => ("WordEach$Planner", "sayings", "[[I", true)
  | 4 => ("WordEach$Planner", "plan", "I", false)
  | 5 => ("WordEach$Planner", "size", "I", false)
  | 6 => ("WordEach$Planner", "ruling", "I", false)
  | _ => ("WordEach$Planner", "side", "I", false)
def am_ty5 : Nat → FieldType := fun k => match k with
  | 0 => .object "WordEach$Judge"
  | 1 => .array (.int)
  | 2 => .array (.array (.int))
  | 3 => .array (.array (.int))
  | 4 => .int
  | 5 => .int
  | 6 => .int
  | _ => .int
theorem am_nm5 : ∀ a, a < 8 → ∀ b, b < 8 → a ≠ b → (am_T5 a).2.1 ≠ (am_T5 b).2.1 := by decide +kernel
theorem am_tk5 : ∀ k, k < 8 → parseFieldDescriptor (am_T5 k).2.2.1 = some (am_ty5 k) := by decide +kernel
def am_T6 : u_T := fun k => match k with
  | 0 => ("WordEach$Question", "tape", "LWordEach$Tape;", true)
  | 1 => ("WordEach$Question", "judge", "LWordEach$Judge;", true)
  | 2 => ("WordEach$Question", "values", "[I", true)
  | 3 => ("WordEach$Question", "number", "I", false)
  | 4 => ("WordEach$Question", "ruled", "I", false)
  | _ => ("WordEach$Question", "open", "I", false)
def am_ty6 : Nat → FieldType := fun k => match k with
  | 0 => .object "WordEach$Tape"
  | 1 => .object "WordEach$Judge"
  | 2 => .array (.int)
  | 3 => .int
  | 4 => .int
  | _ => .int
theorem am_nm6 : ∀ a, a < 6 → ∀ b, b < 6 → a ≠ b → (am_T6 a).2.1 ≠ (am_T6 b).2.1 := by decide +kernel
theorem am_tk6 : ∀ k, k < 6 → parseFieldDescriptor (am_T6 k).2.2.1 = some (am_ty6 k) := by decide +kernel
def am_T7 : u_T := fun k => match k with
  | 0 => ("WordEach$Row", "words", "[I", true)
  | 1 => ("WordEach$Row", "speakers", "[I", true)
  | 2 => ("WordEach$Row", "octets", "[I", true)
  | 3 => ("WordEach$Row", "size", "I", false)
  | _ => ("WordEach$Row", "octetCount", "I", false)
def am_ty7 : Nat → FieldType := fun k => match k with
  | 0 => .array (.int)
  | 1 => .array (.int)
  | 2 => .array (.int)
  | 3 => .int
  | _ => .int
theorem am_nm7 : ∀ a, a < 5 → ∀ b, b < 5 → a ≠ b → (am_T7 a).2.1 ≠ (am_T7 b).2.1 := by decide +kernel
theorem am_tk7 : ∀ k, k < 5 → parseFieldDescriptor (am_T7 k).2.2.1 = some (am_ty7 k) := by decide +kernel
def am_T8 : u_T := fun k => match k with
  | 0 => ("WordEach$Seats", "judge", "LWordEach$Judge;", true)
  | 1 => ("WordEach$Seats", "ordered", "[I", true)
  | _ => ("WordEach$Seats", "seed", "I", false)
def am_ty8 : Nat → FieldType := fun k => match k with
  | 0 => .object "WordEach$Judge"
  | 1 => .array (.int)
  | _ => .int
theorem am_nm8 : ∀ a, a < 3 → ∀ b, b < 3 → a ≠ b → (am_T8 a).2.1 ≠ (am_T8 b).2.1 := by decide +kernel
theorem am_tk8 : ∀ k, k < 3 → parseFieldDescriptor (am_T8 k).2.2.1 = some (am_ty8 k) := by decide +kernel
def am_T9 : u_T := fun k => match k with
  | 0 => ("WordEach$Tape", "bytes", "[B", true)
  | 1 => ("WordEach$Tape", "size", "I", false)
  | 2 => ("WordEach$Tape", "at", "I", false)
  | 3 => ("WordEach$Tape", "length", "I", false)
  | 4 => ("WordEach$Tape", "sign", "I", false)
  | 5 => ("WordEach$Tape", "fault", "I", false)
  | _ => ("WordEach$Tape", "faultAt", "I", false)
def am_ty9 : Nat → FieldType := fun k => match k with
  | 0 => .array (.byte)
  | 1 => .int
  | 2 => .int
  | 3 => .int
  | 4 => .int
  | 5 => .int
  | _ => .int
theorem am_nm9 : ∀ a, a < 7 → ∀ b, b < 7 → a ≠ b → (am_T9 a).2.1 ≠ (am_T9 b).2.1 := by decide +kernel
theorem am_tk9 : ∀ k, k < 7 → parseFieldDescriptor (am_T9 k).2.2.1 = some (am_ty9 k) := by decide +kernel
def am_T10 : u_T := fun k => match k with
  | 0 => ("WordEach$Witness", "words", "[I", true)
  | 1 => ("WordEach$Witness", "count", "I", false)
  | 2 => ("WordEach$Witness", "spelling", "I", false)
  | 3 => ("WordEach$Witness", "age", "I", false)
  | _ => ("WordEach$Witness", "side", "I", false)
def am_ty10 : Nat → FieldType := fun k => match k with
  | 0 => .array (.int)
  | 1 => .int
  | 2 => .int
  | 3 => .int
  | _ => .int
theorem am_nm10 : ∀ a, a < 5 → ∀ b, b < 5 → a ≠ b → (am_T10 a).2.1 ≠ (am_T10 b).2.1 := by decide +kernel
theorem am_tk10 : ∀ k, k < 5 → parseFieldDescriptor (am_T10 k).2.2.1 = some (am_ty10 k) := by decide +kernel
def am_T11 : u_T := fun k => match k with
  | 0 => ("WordEach", "tape", "LWordEach$Tape;", true)
  | 1 => ("WordEach", "reader", "LWordEach$CourtReader;", true)
  | 2 => ("WordEach", "judge", "LWordEach$Judge;", true)
  | 3 => ("WordEach", "spoken", "LWordEach$Row;", true)
  | 4 => ("WordEach", "planner", "LWordEach$Planner;", true)
  | 5 => ("WordEach", "contest", "LWordEach$Contest;", true)
  | 6 => ("WordEach", "seats", "LWordEach$Seats;", true)
  | 7 => ("WordEach", "chance", "LWordEach$Chance;", true)
  | 8 => ("WordEach", "question", "LWordEach$Question;", true)
  | 9 => ("WordEach", "refused", "[I", true)
  | _ => ("WordEach", "rulings", "[I", true)
def am_ty11 : Nat → FieldType := fun k => match k with
  | 0 => .object "WordEach$Tape"
  | 1 => .object "WordEach$CourtReader"
  | 2 => .object "WordEach$Judge"
  | 3 => .object "WordEach$Row"
  | 4 => .object "WordEach$Planner"
  | 5 => .object "WordEach$Contest"
  | 6 => .object "WordEach$Seats"
  | 7 => .object "WordEach$Chance"
  | 8 => .object "WordEach$Question"
  | 9 => .array (.int)
  | _ => .array (.int)
theorem am_nm11 : ∀ a, a < 11 → ∀ b, b < 11 → a ≠ b → (am_T11 a).2.1 ≠ (am_T11 b).2.1 := by decide +kernel
theorem am_tk11 : ∀ k, k < 11 → parseFieldDescriptor (am_T11 k).2.2.1 = some (am_ty11 k) := by decide +kernel
def am_T12 : u_T := fun k => match k with
  | 0 => ("WordEachModel", "tape", "[I", true)
  | 1 => ("WordEachModel", "taped", "I", false)
  | 2 => ("WordEachModel", "at", "I", false)
  | 3 => ("WordEachModel", "end", "I", false)
  | 4 => ("WordEachModel", "ended", "I", false)
  | 5 => ("WordEachModel", "bad", "I", false)
  | 6 => ("WordEachModel", "badPlace", "I", false)
  | 7 => ("WordEachModel", "fault", "I", false)
  | 8 => ("WordEachModel", "faultPlace", "I", false)
  | 9 => ("WordEachModel", "refused", "[I", true)
  | 10 => ("WordEachModel", "nameWord", "[C", true)
  | 11 => ("WordEachModel", "deedWord", "[C", true)
  | 12 => ("WordEachModel", "turnWord", "[C", true)
  | 13 => ("WordEachModel", "bothWord", "[C", true)
  | 14 => ("WordEachModel", "eitherWord", "[C", true)
  | 15 => ("WordEachModel", "emptyWord", "[C", true)
  | 16 => ("WordEachModel", "lineWord", "[C", true)
  | 17 => ("WordEachModel", "whoWord", "[C", true)
  | 18 => ("WordEachModel", "didWord", "[C", true)
  | 19 => ("WordEachModel", "whomWord", "[C", true)
  | 20 => ("WordEachModel", "factWord", "[C", true)
  | 21 => ("WordEachModel", "witnessWord", "[C", true)
  | 22 => ("WordEachModel", "ageWord", "[C", true)
  | 23 => ("WordEachModel", "sideWord", "[C", true)
  | 24 => ("WordEachModel", "saysWord", "[C", true)
  | 25 => ("WordEachModel", "accusedWord", "[C", true)
  | 26 => ("WordEachModel", "caseWord", "[C", true)
  | 27 => ("WordEachModel", "wordPlace", "I", false)
  | 28 => ("WordEachModel", "many", "[I", true)
  | 29 => ("WordEachModel", "words", "[J", true)
  | 30 => ("WordEachModel", "wordKind", "[I", true)
  | 31 => ("WordEachModel", "witnessNames", "[J", true)
  | 32 => ("WordEachModel", "slots", "[I", true)
  | 33 => ("WordEachModel", "facts", "[I", true)
  | 34 => ("WordEachModel", "witnesses", "[I", true)
  | 35 => ("WordEachModel", "cases", "[I", true)
  | 36 => ("WordEachModel", "accused", "[I", true)
  | 37 => ("WordEachModel", "statements", "I", false)
  | 38 => ("WordEachModel", "isStanding", "Z", false)
  | 39 => ("WordEachModel", "inForce", "I", false)
  | 40 => ("WordEachModel", "rowWord", "[I", true)
  | 41 => ("WordEachModel", "rowWho", "[I", true)
  | 42 => ("WordEachModel", "rowMany", "I", false)
  | 43 => ("WordEachModel", "tried", "[I", true)
  | 44 => ("WordEachModel", "triedMany", "I", false)
  | 45 => ("WordEachModel", "plain", "[I", true)
  | 46 => ("WordEachModel", "plainAt", "[I", true)
  | 47 => ("WordEachModel", "plainMany", "I", false)
  | 48 => ("WordEachModel", "noSense", "I", false)
  | 49 => ("WordEachModel", "clause", "[I", true)
  | 50 => ("WordEachModel", "clauses", "I", false)
  | 51 => ("WordEachModel", "filled", "[I", true)
  | 52 => ("WordEachModel", "choice", "[I", true)
  | 53 => ("WordEachModel", "move", "[I", true)
  | 54 => ("WordEachModel", "bestMove", "[I", true)
  | 55 => ("WordEachModel", "bestWorth", "[I", true)
  | 56 => ("WordEachModel", "ordered", "[I", true)
  | 57 => ("WordEachModel", "seeded", "J", false)
  | 58 => ("WordEachModel", "chosen", "[I", true)
  | 59 => ("WordEachModel", "firstAsked", "[C", true)
  | 60 => ("WordEachModel", "lastAsked", "[C", true)
  | 61 => ("WordEachModel", "oftenAsked", "[C", true)
  | 62 => ("WordEachModel", "totalAsked", "[C", true)
  | 63 => ("WordEachModel", "mostAsked", "[C", true)
  | 64 => ("WordEachModel", "leastAsked", "[C", true)
  | 65 => ("WordEachModel", "notAsked", "[C", true)
  | 66 => ("WordEachModel", "andAsked", "[C", true)
  | 67 => ("WordEachModel", "orAsked", "[C", true)
  | 68 => ("WordEachModel", "allAsked", "[C", true)
  | 69 => ("WordEachModel", "minAsked", "[C", true)
  | 70 => ("WordEachModel", "maxAsked", "[C", true)
  | 71 => ("WordEachModel", "numberAsked", "[C", true)
  | 72 => ("WordEachModel", "wordsAsked", "[C", true)
  | 73 => ("WordEachModel", "rulingAsked", "[C", true)
  | 74 => ("WordEachModel", "fairAsked", "[C", true)
  | 75 => ("WordEachModel", "atAsked", "[C", true)
  | 76 => ("WordEachModel", "hasAsked", "[C", true)
  | 77 => ("WordEachModel", "qCodes", "[I", true)
  | 78 => ("WordEachModel", "qCoded", "I", false)
  | 79 => ("WordEachModel", "qWait", "[I", true)
  | 80 => ("WordEachModel", "qWaits", "I", false)
  | 81 => ("WordEachModel", "qOpened", "I", false)
  | 82 => ("WordEachModel", "qBase", "I", false)
  | 83 => ("WordEachModel", "qPile", "[J", true)
  | 84 => ("WordEachModel", "qPiled", "I", false)
  | 85 => ("WordEachModel", "qAnswer", "J", false)
  | 86 => ("WordEachModel", "qIsNew", "Z", false)
  | 87 => ("WordEachModel", "octet", "[I", true)
  | _ => ("WordEachModel", "octets", "I", false)
def am_ty12 : Nat → FieldType := fun k => match k with
  | 0 => .array (.int)
  | 1 => .int
  | 2 => .int
  | 3 => .int
  | 4 => .int
  | 5 => .int
  | 6 => .int
  | 7 => .int
  | 8 => .int
  | 9 => .array (.int)
  | 10 => .array (.char)
  | 11 => .array (.char)
  | 12 => .array (.char)
  | 13 => .array (.char)
  | 14 => .array (.char)
  | 15 => .array (.char)
  | 16 => .array (.char)
  | 17 => .array (.char)
  | 18 => .array (.char)
  | 19 => .array (.char)
  | 20 => .array (.char)
  | 21 => .array (.char)
  | 22 => .array (.char)
  | 23 => .array (.char)
  | 24 => .array (.char)
  | 25 => .array (.char)
  | 26 => .array (.char)
  | 27 => .int
  | 28 => .array (.int)
  | 29 => .array (.long)
  | 30 => .array (.int)
  | 31 => .array (.long)
  | 32 => .array (.int)
  | 33 => .array (.int)
  | 34 => .array (.int)
  | 35 => .array (.int)
  | 36 => .array (.int)
  | 37 => .int
  | 38 => .boolean
  | 39 => .int
  | 40 => .array (.int)
  | 41 => .array (.int)
  | 42 => .int
  | 43 => .array (.int)
  | 44 => .int
  | 45 => .array (.int)
  | 46 => .array (.int)
  | 47 => .int
  | 48 => .int
  | 49 => .array (.int)
  | 50 => .int
  | 51 => .array (.int)
  | 52 => .array (.int)
  | 53 => .array (.int)
  | 54 => .array (.int)
  | 55 => .array (.int)
  | 56 => .array (.int)
  | 57 => .long
  | 58 => .array (.int)
  | 59 => .array (.char)
  | 60 => .array (.char)
  | 61 => .array (.char)
  | 62 => .array (.char)
  | 63 => .array (.char)
  | 64 => .array (.char)
  | 65 => .array (.char)
  | 66 => .array (.char)
  | 67 => .array (.char)
  | 68 => .array (.char)
  | 69 => .array (.char)
  | 70 => .array (.char)
  | 71 => .array (.char)
  | 72 => .array (.char)
  | 73 => .array (.char)
  | 74 => .array (.char)
  | 75 => .array (.char)
  | 76 => .array (.char)
  | 77 => .array (.int)
  | 78 => .int
  | 79 => .array (.int)
  | 80 => .int
  | 81 => .int
  | 82 => .int
  | 83 => .array (.long)
  | 84 => .int
  | 85 => .long
  | 86 => .boolean
  | 87 => .array (.int)
  | _ => .int
theorem am_nm12 : ∀ a, a < 89 → ∀ b, b < 89 → a ≠ b → (am_T12 a).2.1 ≠ (am_T12 b).2.1 := by decide +kernel
theorem am_tk12 : ∀ k, k < 89 → parseFieldDescriptor (am_T12 k).2.2.1 = some (am_ty12 k) := by decide +kernel
abbrev classes : List vw_C := [("WordEach$Chance", am_T0, 7), ("WordEach$Contest", am_T1, 4), ("WordEach$Court", am_T2, 16), ("WordEach$CourtReader", am_T3, 2), ("WordEach$Judge", am_T4, 4), ("WordEach$Planner", am_T5, 8), ("WordEach$Question", am_T6, 6), ("WordEach$Row", am_T7, 5), ("WordEach$Seats", am_T8, 3), ("WordEach$Tape", am_T9, 7), ("WordEach$Witness", am_T10, 5), ("WordEach", am_T11, 11), ("WordEachModel", am_T12, 89)]
def am_T (k : Nat) : u_T := match am_nth classes k with
  | some t => t.2.1
  | none => am_T0
def am_N (k : Nat) : Nat := match am_nth classes k with
  | some t => t.2.2
  | none => 0
def am_fty (C s : Nat) : Nat := match (am_T C s).2.2.1 with
  | "I" => 0
  | "Z" => 3
  | "J" => 1
  | _ => 2
theorem goodIn_sub2 (ws : List Cond) (ps : List Nat) (hp : ws.map some = ps.map (fun i => tables_1[i]?)) : ∀ x ∈ ws, x ∈ tables_1 := by
  intro x hx
  have h1 : some x ∈ ws.map some := List.mem_map.mpr ⟨x, hx, rfl⟩
  rw [hp] at h1
  obtain ⟨i, -, hi⟩ := List.mem_map.mp h1
  exact List.mem_of_getElem? hi
theorem am_in0 : ∀ x ∈ u_ws "WordEach$Chance" am_T0 7, x ∈ lw_tbl := fun x h => List.mem_append_right _ ((goodIn_sub2 (u_ws "WordEach$Chance" am_T0 7) [373, 375, 377, 379, 381, 383, 385] (by decide +kernel)) x h)
theorem am_in1 : ∀ x ∈ u_ws "WordEach$Contest" am_T1 4, x ∈ lw_tbl := fun x h => List.mem_append_right _ ((goodIn_sub2 (u_ws "WordEach$Contest" am_T1 4) [332, 334, 336, 338] (by decide +kernel)) x h)
theorem am_in2 : ∀ x ∈ u_ws "WordEach$Court" am_T2 16, x ∈ lw_tbl := fun x h => List.mem_append_right _ ((goodIn_sub2 (u_ws "WordEach$Court" am_T2 16) [187, 189, 191, 193, 195, 197, 199, 201, 203, 205, 207, 209, 211, 213, 215, 217] (by decide +kernel)) x h)
theorem am_in3 : ∀ x ∈ u_ws "WordEach$CourtReader" am_T3 2, x ∈ lw_tbl := fun x h => List.mem_append_right _ ((goodIn_sub2 (u_ws "WordEach$CourtReader" am_T3 2) [223, 225] (by decide +kernel)) x h)
theorem am_in4 : ∀ x ∈ u_ws "WordEach$Judge" am_T4 4, x ∈ lw_tbl := fun x h => List.mem_append_right _ ((goodIn_sub2 (u_ws "WordEach$Judge" am_T4 4) [251, 253, 255, 257] (by decide +kernel)) x h)
theorem am_in5 : ∀ x ∈ u_ws "WordEach$Planner" am_T5 8, x ∈ lw_tbl := fun x h => List.mem_append_right _ ((goodIn_sub2 (u_ws "WordEach$Planner" am_T5 8) [303, 305, 307, 309, 311, 313, 315, 317] (by decide +kernel)) x h)
theorem am_in6 : ∀ x ∈ u_ws "WordEach$Question" am_T6 6, x ∈ lw_tbl := fun x h => List.mem_append_right _ ((goodIn_sub2 (u_ws "WordEach$Question" am_T6 6) [400, 402, 404, 406, 408, 410] (by decide +kernel)) x h)
theorem am_in7 : ∀ x ∈ u_ws "WordEach$Row" am_T7 5, x ∈ lw_tbl := fun x h => List.mem_append_right _ ((goodIn_sub2 (u_ws "WordEach$Row" am_T7 5) [277, 279, 281, 283, 285] (by decide +kernel)) x h)
theorem am_in8 : ∀ x ∈ u_ws "WordEach$Seats" am_T8 3, x ∈ lw_tbl := fun x h => List.mem_append_right _ ((goodIn_sub2 (u_ws "WordEach$Seats" am_T8 3) [352, 354, 356] (by decide +kernel)) x h)
theorem am_in9 : ∀ x ∈ u_ws "WordEach$Tape" am_T9 7, x ∈ lw_tbl := fun x h => List.mem_append_right _ ((goodIn_sub2 (u_ws "WordEach$Tape" am_T9 7) [51, 53, 55, 57, 59, 61, 63] (by decide +kernel)) x h)
theorem am_in10 : ∀ x ∈ u_ws "WordEach$Witness" am_T10 5, x ∈ lw_tbl := fun x h => List.mem_append_right _ ((goodIn_sub2 (u_ws "WordEach$Witness" am_T10 5) [112, 114, 116, 118, 120] (by decide +kernel)) x h)
theorem am_in11 : ∀ x ∈ u_ws "WordEach" am_T11 11, x ∈ lw_tbl := fun x h => List.mem_append_right _ ((goodIn_sub2 (u_ws "WordEach" am_T11 11) [424, 426, 428, 430, 432, 434, 436, 438, 440, 442, 444] (by decide +kernel)) x h)
theorem am_in12 : ∀ x ∈ u_ws "WordEachModel" am_T12 89, x ∈ lw_tbl := fun x h => List.mem_append_right _ ((goodIn_sub2 (u_ws "WordEachModel" am_T12 89) [1239, 1241, 1243, 1245, 1247, 1249, 1251, 1253, 1255, 1257, 1259, 1261, 1263, 1265, 1267, 1269, 1271, 1273, 1275, 1277, 1279, 1281, 1283, 1285, 1287, 1289, 1291, 1293, 1295, 1297, 1299, 1301, 1303, 1305, 1307, 1309, 1311, 1313, 1315, 1317, 1319, 1321, 1323, 1325, 1327, 1329, 1331, 1333, 1335, 1337, 1339, 1341, 1343, 1345, 1347, 1349, 1351, 1353, 1355, 1357, 1359, 1361, 1363, 1365, 1367, 1369, 1371, 1373, 1375, 1377, 1379, 1381, 1383, 1385, 1387, 1389, 1391, 1393, 1395, 1397, 1399, 1401, 1403, 1405, 1407, 1409, 1411, 1413, 1415] (by decide +kernel)) x h)
/-- own class, entry, class, slot, place in the tables -/
def am_fls : List (Nat × Nat × Nat × Nat × Nat) := [(0, 9, 0, 1, 367), (0, 17, 0, 2, 368), (0, 20, 0, 3, 369), (0, 23, 0, 4, 370), (0, 26, 0, 5, 371), (0, 30, 0, 0, 366), (0, 34, 0, 6, 372), (0, 38, 4, 2, 245), (0, 44, 2, 12, 170), (0, 50, 2, 6, 142), (0, 54, 10, 1, 96), (0, 83, 10, 0, 92), (1, 9, 1, 0, 326), (1, 15, 1, 1, 327), (1, 19, 1, 2, 328), (1, 22, 1, 3, 330), (1, 35, 4, 2, 246), (1, 39, 2, 12, 171), (1, 44, 2, 6, 143), (1, 48, 10, 4, 108), (1, 57, 10, 1, 97), (1, 60, 10, 0, 89), (2, 9, 2, 0, 124), (2, 15, 2, 1, 127), (2, 20, 2, 2, 131), (2, 23, 2, 3, 134), (2, 26, 2, 4, 136), (2, 29, 2, 5, 138), (2, 34, 2, 6, 140), (2, 38, 2, 7, 148), (2, 41, 2, 8, 153), (2, 44, 2, 14, 179), (2, 48, 2, 15, 183), (2, 52, 2, 9, 158), (2, 55, 2, 10, 161), (2, 58, 2, 11, 165), (2, 61, 2, 12, 169), (2, 64, 2, 13, 175), (2, 71, 10, 1, 98), (2, 74, 10, 2, 102), (3, 12, 3, 1, 221), (3, 18, 3, 0, 220), (3, 30, 9, 4, 42), (3, 41, 9, 5, 46), (3, 44, 9, 2, 38), (3, 79, 2, 9, 159), (3, 90, 2, 0, 125), (3, 94, 2, 1, 129), (3, 97, 2, 10, 163), (3, 100, 2, 2, 132), (3, 107, 2, 11, 167), (3, 114, 2, 5, 139), (3, 117, 2, 12, 174), (3, 120, 2, 6, 146), (3, 124, 10, 2, 103), (3, 135, 10, 3, 106), (3, 138, 10, 4, 111), (3, 141, 10, 1, 101), (3, 147, 10, 0, 94), (3, 149, 2, 14, 181), (3, 152, 2, 15, 185), (3, 155, 2, 13, 178), (3, 158, 2, 7, 149), (3, 161, 2, 8, 154), (4, 11, 4, 0, 240), (4, 15, 4, 1, 241), (4, 22, 4, 2, 242), (4, 29, 4, 3, 249), (4, 33, 2, 10, 162), (4, 44, 2, 1, 128), (4, 62, 2, 4, 137), (4, 73, 2, 14, 182), (4, 76, 2, 15, 186), (4, 83, 2, 7, 150), (4, 86, 2, 8, 155), (5, 11, 5, 1, 296), (5, 17, 5, 2, 297), (5, 20, 5, 3, 298), (5, 23, 5, 0, 295), (5, 27, 5, 6, 301), (5, 31, 5, 7, 302), (5, 34, 5, 4, 299), (5, 41, 5, 5, 300), (5, 58, 4, 2, 248), (5, 62, 2, 12, 172), (5, 66, 2, 6, 144), (5, 70, 10, 4, 109), (5, 76, 10, 1, 99), (5, 79, 10, 0, 91), (6, 9, 6, 2, 396), (6, 15, 6, 0, 394), (6, 19, 6, 1, 395), (6, 34, 6, 3, 397), (6, 38, 6, 4, 398), (6, 45, 9, 5, 45), (6, 50, 4, 2, 244), (6, 56, 2, 13, 176), (6, 81, 6, 5, 399), (6, 84, 9, 2, 40), (6, 100, 9, 4, 44), (6, 168, 2, 8, 156), (6, 171, 2, 7, 151), (7, 9, 7, 0, 267), (7, 15, 7, 1, 269), (7, 18, 7, 2, 271), (7, 21, 7, 3, 273), (7, 25, 7, 4, 275), (7, 42, 9, 1, 37), (7, 57, 2, 6, 147), (8, 9, 8, 1, 348), (8, 15, 8, 2, 350), (8, 19, 8, 0, 347), (8, 23, 4, 2, 243), (8, 29, 2, 12, 168), (8, 38, 2, 6, 141), (8, 42, 10, 3, 105), (8, 62, 10, 0, 90), (9, 9, 9, 0, 34), (9, 15, 9, 6, 49), (9, 19, 9, 1, 36), (9, 22, 9, 2, 39), (9, 25, 9, 3, 41), (9, 28, 9, 4, 43), (9, 31, 9, 5, 47), (10, 9, 10, 0, 88), (10, 15, 10, 1, 95), (11, 10, 11, 0, 413), (11, 21, 11, 1, 414), (11, 28, 11, 2, 415), (11, 35, 11, 3, 416), (11, 44, 11, 4, 417), (11, 51, 11, 5, 418), (11, 58, 11, 6, 419), (11, 65, 11, 7, 420), (11, 74, 11, 8, 421), (11, 78, 11, 9, 422), (11, 82, 11, 10, 423), (11, 85, 9, 1, 35), (11, 97, 4, 2, 247), (11, 101, 3, 1, 222), (11, 104, 7, 3, 274), (11, 113, 9, 5, 48), (11, 116, 9, 6, 50), (11, 119, 2, 9, 160), (11, 122, 2, 10, 164), (11, 125, 2, 11, 166), (11, 128, 2, 12, 173), (11, 131, 2, 13, 177), (11, 134, 4, 3, 250), (11, 137, 2, 14, 180), (11, 140, 2, 15, 184), (11, 143, 2, 1, 130), (11, 150, 7, 0, 268), (11, 156, 2, 0, 126), (11, 167, 2, 6, 145), (11, 171, 10, 3, 107), (11, 176, 10, 4, 110), (11, 179, 10, 1, 100), (11, 185, 10, 0, 93), (11, 186, 10, 2, 104), (11, 192, 2, 3, 135), (11, 195, 2, 2, 133), (11, 199, 7, 1, 270), (11, 239, 2, 7, 152), (11, 242, 2, 8, 157), (11, 266, 1, 2, 329), (11, 269, 1, 3, 331), (11, 287, 8, 1, 349), (11, 293, 8, 2, 351), (11, 318, 7, 4, 276), (11, 321, 7, 2, 272), (12, 7, 12, 0, 1150), (12, 13, 12, 8, 1158), (12, 17, 12, 9, 1159), (12, 20, 12, 10, 1160), (12, 24, 12, 11, 1161), (12, 27, 12, 12, 1162), (12, 30, 12, 13, 1163), (12, 33, 12, 14, 1164), (12, 36, 12, 15, 1165), (12, 39, 12, 16, 1166), (12, 42, 12, 17, 1167), (12, 45, 12, 18, 1168), (12, 48, 12, 19, 1169), (12, 51, 12, 20, 1170), (12, 54, 12, 21, 1171), (12, 57, 12, 22, 1172), (12, 60, 12, 23, 1173), (12, 63, 12, 24, 1174), (12, 66, 12, 25, 1175), (12, 69, 12, 26, 1176), (12, 72, 12, 28, 1178), (12, 75, 12, 29, 1179), (12, 79, 12, 30, 1180), (12, 82, 12, 31, 1181), (12, 85, 12, 32, 1182), (12, 88, 12, 33, 1183), (12, 91, 12, 34, 1184), (12, 94, 12, 35, 1185), (12, 97, 12, 36, 1186), (12, 100, 12, 40, 1190), (12, 103, 12, 41, 1191), (12, 106, 12, 43, 1193), (12, 109, 12, 45, 1195), (12, 112, 12, 46, 1196), (12, 115, 12, 49, 1199), (12, 118, 12, 51, 1201), (12, 121, 12, 52, 1202), (12, 124, 12, 53, 1203), (12, 127, 12, 54, 1204), (12, 130, 12, 55, 1205), (12, 133, 12, 56, 1206), (12, 136, 12, 57, 1207), (12, 140, 12, 58, 1208), (12, 143, 12, 59, 1209), (12, 146, 12, 60, 1210), (12, 149, 12, 61, 1211), (12, 152, 12, 62, 1212), (12, 155, 12, 63, 1213), (12, 158, 12, 64, 1214), (12, 161, 12, 65, 1215), (12, 164, 12, 66, 1216), (12, 167, 12, 67, 1217), (12, 170, 12, 68, 1218), (12, 173, 12, 69, 1219), (12, 176, 12, 70, 1220), (12, 179, 12, 71, 1221), (12, 182, 12, 72, 1222), (12, 185, 12, 73, 1223), (12, 188, 12, 74, 1224), (12, 191, 12, 75, 1225), (12, 194, 12, 76, 1226), (12, 197, 12, 77, 1227), (12, 200, 12, 79, 1229), (12, 203, 12, 83, 1233), (12, 206, 12, 87, 1237), (12, 209, 12, 1, 1151), (12, 212, 12, 5, 1155), (12, 215, 12, 6, 1156), (12, 218, 12, 2, 1152), (12, 221, 12, 3, 1153), (12, 232, 12, 4, 1154), (12, 260, 12, 27, 1177), (12, 301, 12, 37, 1187), (12, 329, 12, 7, 1157), (12, 338, 12, 39, 1189), (12, 341, 12, 42, 1192), (12, 344, 12, 38, 1188), (12, 354, 12, 44, 1194), (12, 360, 12, 47, 1197), (12, 372, 12, 50, 1200), (12, 375, 12, 48, 1198), (12, 541, 12, 78, 1228), (12, 544, 12, 81, 1231), (12, 547, 12, 80, 1230), (12, 553, 12, 82, 1232), (12, 611, 12, 84, 1234), (12, 643, 12, 85, 1235), (12, 646, 12, 86, 1236), (12, 669, 12, 88, 1238)]
theorem am_fl_ok : (am_fls.all fun e => decide (tables_1[e.2.2.2.2]? = some (Cond.fieldLink (am_R e.1) e.2.1 (am_R e.2.2.1) (am_T e.2.2.1 e.2.2.2.1).2.1 (am_T e.2.2.1 e.2.2.2.1).2.2.1))) = true := by decide +kernel
def am_cis : List (Nat × Nat × Int32 × Nat) := [(0, 66, 32768, 956), (4, 50, 524288, 735), (4, 58, 32768, 727), (5, 46, 32768, 821), (8, 61, 32768, 921), (11, 338, 32768, 844), (14, 265, 1431655765, 849), (14, 266, 858993459, 850), (14, 267, 252645135, 851)]
theorem am_ci_ok : (am_cis.all fun e => decide (tables_1[e.2.2.2]? = some (Cond.constant (am_R e.1) e.2.1 e.2.2.1))) = true := by decide +kernel
def am_cls : List (Nat × Nat × Int64 × Nat) := [(6, 48, -1000000000000000, 1092), (6, 134, -1000000, 1081), (6, 136, 1000000, 1082), (8, 55, 1103515245, 937), (8, 57, 12345, 938), (8, 59, 2147483647, 939), (12, 263, 27, 1475), (12, 265, 97, 1476), (12, 409, 10, 1587), (12, 411, 15, 1588), (12, 420, 2, 1600), (12, 425, 20, 1605), (12, 427, 25, 1606), (12, 438, 5, 1671), (12, 482, -1, 1724), (12, 500, 3, 1785), (12, 505, 7, 1806), (12, 516, 1103515245, 1848), (12, 518, 12345, 1849), (12, 520, 2147483648, 1850), (12, 522, 64, 1851), (12, 527, 200, 1839), (12, 607, 1000000, 1980), (12, 609, -1000000, 1981), (12, 626, 99, 1972), (12, 655, -1000000000000000, 1959)]
theorem am_cl_ok : (am_cls.all fun e => decide (tables_1[e.2.2.2]? = some (Cond.constantLong (am_R e.1) e.2.1 e.2.2.1))) = true := by decide +kernel
/-- Strings: own class, entry, which text, place -/
def am_srs : List (Nat × Nat × Nat × Nat) := [(3, 51, 0, 487), (6, 28, 1, 1004), (9, 54, 0, 561)]
def am_texts : List String := ["name deed turn both either empty line who did whom fact witness age side says accused case", "first last often total most least or and not all number words ruling fair at has min max"]
def am_Ys : List (List (MethodName)) := [[⟨"WordEach$Chance", "forget", "()V"⟩, ⟨"WordEach$Chance", "waysTo", "(I)I"⟩, ⟨"WordEach$Chance", "countWays", "()V"⟩, ⟨"WordEach$Chance", "walk", "(II)V"⟩, ⟨"WordEach$Chance", "tally", "(I)V"⟩, ⟨"WordEach$Chance", "allWays", "()I"⟩, ⟨"WordEach$Chance", "waysSaying", "(III)I"⟩, ⟨"WordEach$Chance", "waysHanging", "(II)I"⟩, ⟨"WordEach$Chance", "walkAway", "(IIII)V"⟩, ⟨"WordEach$Contest", "play", "(III)I"⟩, ⟨"WordEach$Contest", "outcome", "(III)I"⟩, ⟨"WordEach$Contest", "winsBy", "(IIII)Z"⟩, ⟨"WordEach$Court", "adjourn", "()V"⟩, ⟨"WordEach$Court", "isGiven", "(I)Z"⟩, ⟨"WordEach$Court", "wordSpelled", "(I)I"⟩, ⟨"WordEach$Court", "addLine", "(I)V"⟩, ⟨"WordEach$Court", "allLines", "()I"⟩, ⟨"WordEach$Court", "patternOf", "(I)I"⟩], [⟨"WordEach$Court", "speakersOf", "(I)I"⟩, ⟨"WordEach$Court", "hasWitness", "(I)Z"⟩, ⟨"WordEach$Court", "hasLine", "(I)Z"⟩, ⟨"WordEach$Court", "hasSaying", "(II)Z"⟩, ⟨"WordEach$Court", "isFact", "(III)Z"⟩, ⟨"WordEach$Court", "truth", "()I"⟩, ⟨"WordEach$CourtReader", "readAll", "()I"⟩, ⟨"WordEach$CourtReader", "readStatement", "()V"⟩, ⟨"WordEach$CourtReader", "readWord", "(I)V"⟩, ⟨"WordEach$CourtReader", "begins", "(II)Z"⟩, ⟨"WordEach$CourtReader", "takeNewSpelling", "()I"⟩, ⟨"WordEach$CourtReader", "readLine", "()V"⟩, ⟨"WordEach$CourtReader", "readFact", "()V"⟩, ⟨"WordEach$CourtReader", "takeWord", "(I)I"⟩, ⟨"WordEach$CourtReader", "readWitness", "()V"⟩, ⟨"WordEach$CourtReader", "takeOwn", "(I)V"⟩, ⟨"WordEach$CourtReader", "readAccused", "()V"⟩, ⟨"WordEach$CourtReader", "readCase", "()V"⟩], [⟨"WordEach$Judge", "forgetLines", "()V"⟩, ⟨"WordEach$Judge", "obey", "(I)V"⟩, ⟨"WordEach$Judge", "isInForce", "(I)Z"⟩, ⟨"WordEach$Judge", "senselessFrom", "([II)I"⟩, ⟨"WordEach$Judge", "hear", "(II)I"⟩, ⟨"WordEach$Judge", "patternIn", "(I)I"⟩, ⟨"WordEach$Judge", "hearSlot", "(III)I"⟩, ⟨"WordEach$Judge", "meaning", "(I)I"⟩, ⟨"WordEach$Judge", "lineOf", "(I)I"⟩, ⟨"WordEach$Judge", "wordIn", "(III)I"⟩, ⟨"WordEach$Judge", "binds", "(I)Z"⟩, ⟨"WordEach$Judge", "clauseTold", "([IIII)I"⟩, ⟨"WordEach$Judge", "toldOf", "(III)I"⟩, ⟨"WordEach$Judge", "hearRow", "([III)I"⟩, ⟨"WordEach$Judge", "rule", "(I)I"⟩, ⟨"WordEach$Judge", "ruleCase", "(I)I"⟩, ⟨"WordEach$Judge", "wordsMissing", "(I)I"⟩, ⟨"WordEach$Planner", "forget", "()V"⟩], [⟨"WordEach$Planner", "tell", "(III)I"⟩, ⟨"WordEach$Planner", "fewest", "()I"⟩, ⟨"WordEach$Planner", "seek", "(III)Z"⟩, ⟨"WordEach$Planner", "seekSaying", "(III)Z"⟩, ⟨"WordEach$Question", "answer", "([I)J"⟩, ⟨"WordEach$Question", "readWhole", "()I"⟩, ⟨"WordEach$Question", "readTest", "()I"⟩, ⟨"WordEach$Question", "readBoth", "()I"⟩, ⟨"WordEach$Question", "readFact", "()I"⟩, ⟨"WordEach$Question", "readOpened", "(Z)I"⟩, ⟨"WordEach$Question", "opens", "()Z"⟩, ⟨"WordEach$Question", "readSum", "()I"⟩, ⟨"WordEach$Question", "readProduct", "()I"⟩, ⟨"WordEach$Question", "readPart", "()I"⟩, ⟨"WordEach$Question", "readBracket", "(I)I"⟩, ⟨"WordEach$Question", "readPartOf", "(I)I"⟩, ⟨"WordEach$Question", "wordAt", "(I)I"⟩, ⟨"WordEach$Question", "wordsOfCase", "()I"⟩], [⟨"WordEach$Question", "timesHeard", "(I)I"⟩, ⟨"WordEach$Question", "simplePart", "(I)I"⟩, ⟨"WordEach$Question", "held", "(J)I"⟩, ⟨"WordEach$Question", "tellTest", "(II)J"⟩, ⟨"WordEach$Question", "tellSum", "(II)J"⟩, ⟨"WordEach$Row", "placeOf", "(I)I"⟩, ⟨"WordEach$Row", "add", "(II)V"⟩, ⟨"WordEach$Row", "speakerBits", "()I"⟩, ⟨"WordEach$Row", "write", "(I)V"⟩, ⟨"WordEach$Row", "addOctet", "(I)V"⟩, ⟨"WordEach$Row", "isImage", "(LWordEach$Tape;LWordEach$Court;)Z"⟩, ⟨"WordEach$Row", "areSaid", "(LWordEach$Tape;LWordEach$Court;I)Z"⟩, ⟨"WordEach$Row", "readFrom", "(LWordEach$Tape;)V"⟩, ⟨"WordEach$Seats", "arrange", "(I)V"⟩, ⟨"WordEach$Seats", "isAhead", "(III)Z"⟩, ⟨"WordEach$Seats", "ruleInOrder", "()I"⟩, ⟨"WordEach$Seats", "drawLot", "()V"⟩, ⟨"WordEach$Seats", "draw", "(I)I"⟩], [⟨"WordEach$Tape", "put", "(I)V"⟩, ⟨"WordEach$Tape", "rewind", "()V"⟩, ⟨"WordEach$Tape", "advance", "()V"⟩, ⟨"WordEach$Tape", "signAt", "(I)I"⟩, ⟨"WordEach$Tape", "listed", "(Ljava/lang/String;)I"⟩, ⟨"WordEach$Tape", "fail", "(II)V"⟩, ⟨"WordEach$Tape", "spelled", "()I"⟩, ⟨"WordEach$Tape", "takeNumber", "(I)I"⟩, ⟨"WordEach$Tape", "take", "(I)Z"⟩, ⟨"WordEach$Tape", "byteAt", "(I)I"⟩, ⟨"WordEach$Witness", "maySay", "(I)Z"⟩, ⟨"WordEach", "feed", "(IIIII)I"⟩, ⟨"WordEach", "end", "(I)Z"⟩, ⟨"WordEach", "text", "()I"⟩, ⟨"WordEach", "timesIn", "([III)I"⟩, ⟨"WordEach", "putInForce", "(I)V"⟩, ⟨"WordEach", "fault", "(I)I"⟩, ⟨"WordEach", "court", "(I)I"⟩], [⟨"WordEach", "word", "(II)I"⟩, ⟨"WordEach", "letterOf", "(III)I"⟩, ⟨"WordEach", "bench", "(II)I"⟩, ⟨"WordEach", "grammar", "(II)I"⟩, ⟨"WordEach", "row", "(IZ)I"⟩, ⟨"WordEach", "say", "(II)I"⟩, ⟨"WordEach", "back", "()Z"⟩, ⟨"WordEach", "clear", "()I"⟩, ⟨"WordEach", "line", "(IZ)Z"⟩, ⟨"WordEach", "sense", "()I"⟩, ⟨"WordEach", "means", "(II)I"⟩, ⟨"WordEach", "exact", "(I)I"⟩, ⟨"WordEach", "stateSpoken", "()I"⟩, ⟨"WordEach", "ruling", "(I)I"⟩, ⟨"WordEach", "instance", "(II)I"⟩, ⟨"WordEach", "plan", "(IIII)I"⟩, ⟨"WordEach", "all", "(I)I"⟩, ⟨"WordEach", "rulingWith", "(II)I"⟩], [⟨"WordEach", "one", "(I)I"⟩, ⟨"WordEach", "ill", "(I)I"⟩, ⟨"WordEach", "between", "(II)I"⟩, ⟨"WordEach", "game", "(II)I"⟩, ⟨"WordEach", "place", "(I)I"⟩, ⟨"WordEach", "turned", "(I)I"⟩, ⟨"WordEach", "ruleCases", "()V"⟩, ⟨"WordEach", "cases", "(I)I"⟩, ⟨"WordEach", "isRuling", "(I)Z"⟩, ⟨"WordEach", "order", "(II)I"⟩, ⟨"WordEach", "lots", "(I)I"⟩, ⟨"WordEach", "seed", "(I)Z"⟩, ⟨"WordEach", "odds", "(I)I"⟩, ⟨"WordEach", "thousandths", "(II)I"⟩, ⟨"WordEach", "parts", "(III)I"⟩, ⟨"WordEach", "inn", "(II)I"⟩, ⟨"WordEach", "ask", "()J"⟩, ⟨"WordEach", "image", "()I"⟩], [⟨"WordEach", "octet", "(I)I"⟩, ⟨"WordEach", "restore", "()Z"⟩, ⟨"WordEach", "status", "(I)I"⟩, ⟨"WordEachModel", "feed", "(IIIII)I"⟩, ⟨"WordEachModel", "end", "(I)Z"⟩, ⟨"WordEachModel", "text", "()I"⟩, ⟨"WordEachModel", "look", "()I"⟩, ⟨"WordEachModel", "statementTold", "()V"⟩, ⟨"WordEachModel", "fail", "(II)V"⟩, ⟨"WordEachModel", "takes", "([C)Z"⟩, ⟨"WordEachModel", "isHere", "([C)Z"⟩, ⟨"WordEachModel", "isLetter", "(I)Z"⟩, ⟨"WordEachModel", "newWord", "(II)V"⟩, ⟨"WordEachModel", "isFull", "(III)Z"⟩, ⟨"WordEachModel", "newSpelt", "()J"⟩, ⟨"WordEachModel", "spelt", "()J"⟩, ⟨"WordEachModel", "isOwnHere", "()Z"⟩, ⟨"WordEachModel", "wordOf", "(J)I"⟩], [⟨"WordEachModel", "isWitness", "(J)Z"⟩, ⟨"WordEachModel", "newLine", "(I)V"⟩, ⟨"WordEachModel", "slotTold", "()I"⟩, ⟨"WordEachModel", "asks", "([C)V"⟩, ⟨"WordEachModel", "newFact", "(I)V"⟩, ⟨"WordEachModel", "wordTold", "(I)I"⟩, ⟨"WordEachModel", "newWitness", "(I)V"⟩, ⟨"WordEachModel", "number", "(II)I"⟩, ⟨"WordEachModel", "isDigit", "(I)Z"⟩, ⟨"WordEachModel", "isIn", "(JJJ)Z"⟩, ⟨"WordEachModel", "accusedTold", "()V"⟩, ⟨"WordEachModel", "newCase", "(I)V"⟩, ⟨"WordEachModel", "asksSign", "(I)V"⟩, ⟨"WordEachModel", "takesSign", "(I)Z"⟩, ⟨"WordEachModel", "stands", "()V"⟩, ⟨"WordEachModel", "lineMany", "()I"⟩, ⟨"WordEachModel", "fault", "(I)I"⟩, ⟨"WordEachModel", "court", "(I)I"⟩], [⟨"WordEachModel", "accusedName", "()I"⟩, ⟨"WordEachModel", "word", "(II)I"⟩, ⟨"WordEachModel", "isWord", "(I)Z"⟩, ⟨"WordEachModel", "wordMany", "()I"⟩, ⟨"WordEachModel", "kindOf", "(I)I"⟩, ⟨"WordEachModel", "witnessMany", "()I"⟩, ⟨"WordEachModel", "says", "(II)Z"⟩, ⟨"WordEachModel", "saysMany", "(I)I"⟩, ⟨"WordEachModel", "saysOf", "(II)I"⟩, ⟨"WordEachModel", "letterOf", "(JI)I"⟩, ⟨"WordEachModel", "bench", "(II)I"⟩, ⟨"WordEachModel", "isBench", "(I)Z"⟩, ⟨"WordEachModel", "spokeAt", "(I)I"⟩, ⟨"WordEachModel", "grammar", "(II)I"⟩, ⟨"WordEachModel", "row", "(IZ)I"⟩, ⟨"WordEachModel", "say", "(II)I"⟩, ⟨"WordEachModel", "adds", "(II)V"⟩, ⟨"WordEachModel", "back", "()Z"⟩], [⟨"WordEachModel", "clear", "()I"⟩, ⟨"WordEachModel", "line", "(IZ)Z"⟩, ⟨"WordEachModel", "sense", "()I"⟩, ⟨"WordEachModel", "readsRow", "()Z"⟩, ⟨"WordEachModel", "triesRow", "(I)V"⟩, ⟨"WordEachModel", "tries", "(I)V"⟩, ⟨"WordEachModel", "reads", "()Z"⟩, ⟨"WordEachModel", "clauseFrom", "(II)I"⟩, ⟨"WordEachModel", "fits", "(II)I"⟩, ⟨"WordEachModel", "isBinding", "(I)Z"⟩, ⟨"WordEachModel", "means", "(II)I"⟩, ⟨"WordEachModel", "exact", "(I)I"⟩, ⟨"WordEachModel", "isAllSo", "(I)Z"⟩, ⟨"WordEachModel", "isSo", "(II)Z"⟩, ⟨"WordEachModel", "isFact", "(III)Z"⟩, ⟨"WordEachModel", "ruling", "(I)I"⟩, ⟨"WordEachModel", "rulesRow", "()I"⟩, ⟨"WordEachModel", "rules", "()I"⟩], [⟨"WordEachModel", "truth", "()I"⟩, ⟨"WordEachModel", "instance", "(II)I"⟩, ⟨"WordEachModel", "caseMany", "()I"⟩, ⟨"WordEachModel", "rulesCase", "(I)I"⟩, ⟨"WordEachModel", "triesCase", "(II)V"⟩, ⟨"WordEachModel", "plan", "(IIII)I"⟩, ⟨"WordEachModel", "isFound", "(IIII)Z"⟩, ⟨"WordEachModel", "canChoose", "(II)Z"⟩, ⟨"WordEachModel", "sideOf", "(I)I"⟩, ⟨"WordEachModel", "isPlan", "(III)Z"⟩, ⟨"WordEachModel", "triesChoices", "(I)V"⟩, ⟨"WordEachModel", "isStandingPlan", "(II)Z"⟩, ⟨"WordEachModel", "takesOut", "(I)V"⟩, ⟨"WordEachModel", "isFirm", "(II)Z"⟩, ⟨"WordEachModel", "putsIn", "(II)V"⟩, ⟨"WordEachModel", "all", "(I)I"⟩, ⟨"WordEachModel", "undoes", "(III)Z"⟩, ⟨"WordEachModel", "one", "(I)I"⟩], [⟨"WordEachModel", "ill", "(I)I"⟩, ⟨"WordEachModel", "between", "(II)I"⟩, ⟨"WordEachModel", "game", "(II)I"⟩, ⟨"WordEachModel", "games", "(I)I"⟩, ⟨"WordEachModel", "opens", "(I)V"⟩, ⟨"WordEachModel", "canMove", "(I)Z"⟩, ⟨"WordEachModel", "weighs", "(II)V"⟩, ⟨"WordEachModel", "place", "(I)I"⟩, ⟨"WordEachModel", "turned", "(I)I"⟩, ⟨"WordEachModel", "cases", "(I)I"⟩, ⟨"WordEachModel", "order", "(II)I"⟩, ⟨"WordEachModel", "orders", "(I)V"⟩, ⟨"WordEachModel", "isAhead", "(III)Z"⟩, ⟨"WordEachModel", "rulesOrder", "()I"⟩, ⟨"WordEachModel", "seed", "(I)Z"⟩, ⟨"WordEachModel", "lots", "(I)I"⟩, ⟨"WordEachModel", "draws", "()V"⟩, ⟨"WordEachModel", "drawOf", "(I)I"⟩], [⟨"WordEachModel", "odds", "(I)I"⟩, ⟨"WordEachModel", "waysAll", "()I"⟩, ⟨"WordEachModel", "waysAt", "(I)V"⟩, ⟨"WordEachModel", "rulesWay", "(I)I"⟩, ⟨"WordEachModel", "parts", "(III)I"⟩, ⟨"WordEachModel", "inn", "(II)I"⟩, ⟨"WordEachModel", "ask", "()J"⟩, ⟨"WordEachModel", "qKind", "()I"⟩, ⟨"WordEachModel", "qTest", "()V"⟩, ⟨"WordEachModel", "qOpens", "(II)V"⟩, ⟨"WordEachModel", "qFact", "()V"⟩, ⟨"WordEachModel", "qCode", "(I)V"⟩, ⟨"WordEachModel", "qSums", "()V"⟩, ⟨"WordEachModel", "qPartTold", "()V"⟩, ⟨"WordEachModel", "qWordOf", "(II)I"⟩, ⟨"WordEachModel", "qWordHere", "()I"⟩, ⟨"WordEachModel", "qAsksWord", "(I)V"⟩, ⟨"WordEachModel", "qEndsPart", "()V"⟩], [⟨"WordEachModel", "qDrops", "()V"⟩, ⟨"WordEachModel", "qGoesOn", "()Z"⟩, ⟨"WordEachModel", "qBracket", "()I"⟩, ⟨"WordEachModel", "qIsBracket", "(I)Z"⟩, ⟨"WordEachModel", "qDropsToBracket", "()V"⟩, ⟨"WordEachModel", "qIsOn", "(I)Z"⟩, ⟨"WordEachModel", "qDropsNots", "()V"⟩, ⟨"WordEachModel", "qGoesOnTest", "()Z"⟩, ⟨"WordEachModel", "qHasSquare", "()Z"⟩, ⟨"WordEachModel", "qTold", "(I)J"⟩, ⟨"WordEachModel", "qPuts", "(J)V"⟩, ⟨"WordEachModel", "qOf", "(IJI)J"⟩, ⟨"WordEachModel", "qHas", "(JI)J"⟩, ⟨"WordEachModel", "qClip", "(J)J"⟩, ⟨"WordEachModel", "qPartOf", "(II)J"⟩, ⟨"WordEachModel", "qJoins", "(I)V"⟩, ⟨"WordEachModel", "qFloor", "(JJ)J"⟩, ⟨"WordEachModel", "qTakes", "(IJI)V"⟩], [⟨"WordEachModel", "image", "()I"⟩, ⟨"WordEachModel", "checked", "([II)I"⟩, ⟨"WordEachModel", "octet", "(I)I"⟩, ⟨"WordEachModel", "restore", "()Z"⟩, ⟨"WordEachModel", "isTold", "(I)Z"⟩, ⟨"WordEachModel", "status", "(I)I"⟩, ⟨"java/lang/Math", "min", "(II)I"⟩, ⟨"java/lang/Math", "max", "(II)I"⟩, ⟨"java/lang/Math", "min", "(JJ)J"⟩, ⟨"java/lang/Math", "max", "(JJ)J"⟩, ⟨"java/lang/Math", "floorDiv", "(II)I"⟩, ⟨"java/lang/Integer", "bitCount", "(I)I"⟩]]
def am_Y (m : Nat) : MethodName := match am_nth am_Ys (m / 18) with
  | none => ⟨"", "", ""⟩
  | some g => match am_nth g (m % 18) with
    | none => ⟨"", "", ""⟩
    | some c => c
/-- own class, entry, method, place -/
def am_mls : List (Nat × Nat × Nat × Nat) := [(0, 59, 2, 952), (0, 62, 5, 967), (0, 67, 8, 991), (0, 71, 3, 957), (0, 75, 50, 961), (0, 79, 4, 962), (0, 86, 40, 966), (1, 25, 10, 876), (1, 29, 50, 880), (1, 53, 11, 881), (1, 64, 40, 885), (2, 67, 19, 701), (2, 77, 14, 568), (2, 81, 100, 664), (2, 84, 22, 798), (3, 22, 91, 467), (3, 27, 12, 479), (3, 34, 25, 483), (3, 37, 98, 616), (3, 47, 95, 548), (3, 53, 94, 488), (3, 57, 26, 540), (3, 61, 29, 572), (3, 64, 30, 580), (3, 67, 32, 589), (3, 70, 34, 608), (3, 73, 35, 612), (3, 76, 92, 552), (3, 82, 27, 544), (3, 86, 28, 553), (3, 104, 15, 576), (3, 110, 31, 584), (3, 129, 33, 593), (3, 132, 97, 597), (3, 144, 100, 601), (3, 164, 96, 557), (3, 167, 13, 564), (3, 170, 14, 588), (4, 26, 36, 236), (4, 36, 38, 632), (4, 40, 17, 636), (4, 47, 41, 732), (4, 51, 42, 736), (4, 55, 43, 740), (4, 59, 44, 744), (4, 66, 45, 748), (4, 69, 22, 752), (4, 79, 40, 728), (4, 89, 49, 807), (4, 93, 50, 808), (4, 96, 46, 756), (4, 99, 48, 769), (5, 37, 55, 817), (5, 47, 56, 822), (5, 51, 50, 826), (5, 55, 52, 827), (5, 73, 57, 831), (5, 82, 40, 835), (6, 23, 91, 1003), (6, 30, 94, 1005), (6, 41, 59, 1006), (6, 61, 75, 1093), (6, 65, 76, 1097), (6, 72, 295, 1053), (6, 78, 294, 1050), (6, 87, 95, 1010), (6, 91, 92, 1011), (6, 94, 60, 1012), (6, 97, 65, 1033), (6, 103, 61, 1016), (6, 106, 62, 1020), (6, 109, 63, 1024), (6, 113, 98, 1032), (6, 117, 64, 1028), (6, 121, 66, 1037), (6, 124, 74, 1078), (6, 128, 67, 1041), (6, 131, 298, 1089), (6, 138, 296, 1083), (6, 141, 297, 1086), (6, 143, 97, 1045), (6, 147, 68, 1046), (6, 150, 69, 1056), (6, 153, 73, 1073), (6, 156, 70, 1060), (6, 159, 72, 1068), (6, 162, 71, 1064), (6, 165, 23, 1077), (7, 28, 81, 1109), (7, 32, 99, 1124), (7, 38, 78, 1138), (7, 43, 16, 1128), (7, 49, 83, 1129), (7, 53, 19, 1132), (7, 61, 100, 1133), (8, 34, 86, 913), (8, 47, 85, 932), (8, 51, 89, 933), (8, 65, 40, 922), (8, 69, 50, 923), (9, 34, 92, 471), (9, 37, 93, 475), (9, 41, 95, 563), (9, 56, 94, 562), (11, 89, 90, 451), (11, 93, 24, 463), (11, 105, 16, 620), (11, 110, 105, 624), (11, 146, 18, 660), (11, 152, 104, 665), (11, 159, 109, 666), (11, 163, 19, 673), (11, 182, 77, 677), (11, 189, 20, 685), (11, 202, 21, 697), (11, 206, 78, 702), (11, 210, 38, 718), (11, 213, 39, 723), (11, 217, 117, 764), (11, 220, 47, 765), (11, 224, 120, 777), (11, 227, 43, 785), (11, 230, 50, 790), (11, 233, 23, 794), (11, 236, 51, 803), (11, 245, 54, 813), (11, 248, 125, 840), (11, 252, 299, 846), (11, 257, 49, 781), (11, 260, 79, 868), (11, 263, 9, 872), (11, 272, 132, 894), (11, 275, 37, 628), (11, 278, 134, 902), (11, 281, 85, 909), (11, 284, 87, 917), (11, 290, 88, 928), (11, 296, 1, 948), (11, 299, 5, 971), (11, 302, 139, 972), (11, 305, 6, 979), (11, 308, 7, 987), (11, 311, 58, 999), (11, 315, 80, 1105), (11, 324, 82, 1121), (11, 328, 84, 1134), (11, 331, 99, 1139), (11, 334, 53, 640), (11, 337, 0, 644), (11, 339, 40, 845), (12, 224, 150, 1432), (12, 228, 155, 1452), (12, 235, 154, 1448), (12, 239, 153, 1444), (12, 242, 152, 1440), (12, 246, 175, 1531), (12, 249, 170, 1513), (12, 252, 171, 1516), (12, 256, 160, 1471), (12, 267, 159, 1467), (12, 271, 161, 1477), (12, 275, 162, 1481), (12, 279, 157, 1459), (12, 283, 158, 1463), (12, 286, 165, 1493), (12, 290, 164, 1489), (12, 293, 167, 1501), (12, 297, 169, 1509), (12, 304, 156, 1455), (12, 307, 163, 1485), (12, 311, 166, 1497), (12, 314, 168, 1505), (12, 317, 172, 1519), (12, 320, 173, 1523), (12, 323, 174, 1527), (12, 326, 151, 1436), (12, 332, 176, 1535), (12, 335, 177, 1539), (12, 348, 183, 1563), (12, 351, 185, 1571), (12, 357, 203, 1647), (12, 363, 184, 1567), (12, 366, 207, 1663), (12, 369, 206, 1659), (12, 378, 205, 1655), (12, 381, 180, 1551), (12, 384, 212, 1684), (12, 387, 211, 1680), (12, 391, 204, 1651), (12, 394, 210, 1676), (12, 397, 187, 1579), (12, 400, 188, 1583), (12, 403, 182, 1559), (12, 406, 186, 1575), (12, 413, 189, 1589), (12, 417, 191, 1596), (12, 422, 192, 1601), (12, 429, 196, 1619), (12, 432, 202, 1643), (12, 435, 201, 1639), (12, 440, 215, 1696), (12, 443, 214, 1692), (12, 446, 216, 1700), (12, 449, 220, 1716), (12, 452, 218, 1708), (12, 455, 219, 1712), (12, 458, 224, 1733), (12, 461, 226, 1741), (12, 464, 228, 1749), (12, 467, 230, 1757), (12, 470, 227, 1745), (12, 473, 229, 1753), (12, 476, 223, 1729), (12, 479, 225, 1737), (12, 484, 222, 1725), (12, 488, 232, 1765), (12, 491, 238, 1790), (12, 494, 239, 1794), (12, 497, 240, 1798), (12, 502, 237, 1786), (12, 507, 246, 1823), (12, 510, 245, 1819), (12, 513, 247, 1827), (12, 524, 251, 1844), (12, 529, 250, 1840), (12, 532, 253, 1856), (12, 535, 254, 1860), (12, 538, 255, 1864), (12, 550, 263, 1896), (12, 556, 273, 1936), (12, 559, 270, 1924), (12, 562, 267, 1912), (12, 565, 266, 1908), (12, 568, 261, 1888), (12, 571, 268, 1916), (12, 574, 269, 1920), (12, 577, 272, 1932), (12, 580, 274, 1939), (12, 583, 275, 1943), (12, 586, 265, 1904), (12, 589, 271, 1928), (12, 592, 264, 1900), (12, 595, 262, 1892), (12, 598, 276, 1947), (12, 601, 277, 1951), (12, 604, 278, 1955), (12, 614, 283, 1977), (12, 618, 280, 1964), (12, 622, 286, 1990), (12, 628, 282, 1973), (12, 632, 281, 1968), (12, 636, 284, 1982), (12, 640, 285, 1986), (12, 649, 259, 1880), (12, 652, 260, 1884), (12, 657, 279, 1960), (12, 661, 287, 1993), (12, 665, 289, 2001), (12, 672, 292, 2012)]
theorem am_ml_ok : (am_mls.all fun e => decide (tables_1[e.2.2.2]? = some (Cond.methodLink (am_R e.1) e.2.1 (am_Y e.2.2.1)))) = true := by decide +kernel
/-- nest mates: own class, entry, method, place -/
def am_nls : List (Nat × Nat × Nat × Nat) := [(6, 68, 104, 1072), (10, 19, 104, 605)]
theorem am_nl_ok : (am_nls.all fun e => decide (tables_1[e.2.2.2]? = some (Cond.methodLinkNest (am_R e.1) e.2.1 (am_Y e.2.2.1) "WordEach"))) = true := by decide +kernel
/-- static?, parameters, places: code, static or instance, selects (in lw_tbl), initialized -/
def am_Ps : List (List (Bool × Nat × Nat × Nat × Nat × Nat)) := [[(false, 0, 647, 645, 797, 11), (false, 1, 951, 949, 1101, 11), (false, 0, 955, 954, 28, 11), (false, 2, 960, 959, 29, 11), (false, 1, 965, 964, 30, 11), (false, 0, 970, 968, 1120, 11), (false, 3, 982, 980, 1132, 11), (false, 2, 990, 988, 1140, 11), (false, 4, 994, 993, 31, 11), (false, 3, 875, 873, 1025, 9), (false, 3, 879, 878, 23, 9), (false, 4, 884, 883, 24, 9), (false, 0, 482, 480, 632, 4), (false, 1, 567, 565, 717, 4), (false, 1, 571, 569, 721, 4), (false, 1, 579, 577, 729, 4), (false, 0, 623, 621, 773, 4), (false, 1, 639, 637, 789, 4)], [(false, 1, 663, 661, 813, 4), (false, 1, 676, 674, 826, 4), (false, 1, 688, 686, 838, 4), (false, 2, 700, 698, 850, 4), (false, 3, 755, 753, 905, 4), (false, 0, 797, 795, 947, 4), (false, 0, 466, 464, 616, 3), (false, 0, 486, 485, 2, 3), (false, 1, 543, 542, 3, 3), (false, 2, 547, 546, 4, 3), (false, 0, 556, 555, 5, 3), (false, 0, 575, 574, 6, 3), (false, 0, 583, 582, 7, 3), (false, 1, 587, 586, 8, 3), (false, 0, 592, 591, 9, 3), (false, 1, 596, 595, 10, 3), (false, 0, 611, 610, 11, 3), (false, 0, 615, 614, 12, 3)], [(false, 0, 239, 238, 0, 6), (false, 1, 631, 629, 781, 6), (false, 1, 635, 633, 785, 6), (false, 2, 726, 724, 876, 6), (false, 2, 731, 729, 881, 6), (true, 1, 734, 733, 0, 6), (false, 3, 739, 738, 14, 6), (false, 1, 743, 741, 893, 6), (false, 1, 747, 745, 897, 6), (false, 3, 751, 750, 15, 6), (false, 1, 759, 758, 16, 6), (false, 4, 768, 766, 918, 6), (false, 3, 772, 771, 17, 6), (false, 3, 784, 782, 934, 6), (false, 1, 793, 791, 943, 6), (false, 1, 806, 804, 956, 6), (false, 1, 830, 828, 980, 6), (false, 0, 643, 641, 793, 8)], [(false, 3, 816, 814, 966, 8), (false, 0, 820, 819, 19, 8), (false, 3, 825, 824, 20, 8), (false, 3, 834, 833, 21, 8), (false, 1, 1002, 1000, 1152, 12), (false, 0, 1009, 1008, 32, 12), (false, 0, 1015, 1014, 33, 12), (false, 0, 1019, 1018, 34, 12), (false, 0, 1023, 1022, 35, 12), (false, 1, 1027, 1026, 36, 12), (false, 0, 1031, 1030, 37, 12), (false, 0, 1036, 1035, 38, 12), (false, 0, 1040, 1039, 39, 12), (false, 0, 1044, 1043, 40, 12), (false, 1, 1049, 1048, 41, 12), (false, 1, 1059, 1058, 42, 12), (false, 1, 1063, 1062, 43, 12), (false, 0, 1067, 1066, 44, 12)], [(false, 1, 1071, 1070, 45, 12), (false, 1, 1076, 1075, 46, 12), (true, 1, 1080, 1079, 0, 12), (false, 2, 1096, 1095, 47, 12), (false, 2, 1100, 1099, 48, 12), (false, 1, 680, 678, 830, 7), (false, 2, 705, 703, 855, 7), (false, 0, 871, 869, 1021, 7), (false, 1, 1108, 1106, 1258, 7), (false, 1, 1112, 1111, 49, 7), (true, 2, 1123, 1122, 0, 7), (true, 3, 1131, 1130, 0, 7), (false, 1, 1137, 1135, 1287, 7), (false, 1, 912, 910, 1062, 10), (false, 3, 916, 915, 26, 10), (false, 0, 920, 918, 1070, 10), (false, 0, 931, 929, 1081, 10), (false, 1, 936, 935, 27, 10)], [(false, 1, 454, 452, 604, 2), (false, 0, 470, 468, 620, 2), (false, 0, 474, 472, 624, 2), (false, 1, 478, 477, 1, 2), (false, 1, 491, 489, 641, 2), (false, 2, 551, 549, 701, 2), (false, 0, 560, 558, 710, 2), (false, 1, 600, 598, 750, 2), (false, 1, 619, 617, 769, 2), (false, 1, 1127, 1125, 1277, 2), (false, 1, 604, 602, 754, 5), (false, 5, 450, 448, 600, 1), (false, 1, 458, 456, 608, 1), (false, 0, 462, 460, 612, 1), (true, 3, 607, 606, 0, 1), (false, 1, 627, 626, 13, 1), (false, 1, 651, 649, 801, 1), (false, 1, 655, 653, 805, 1)], [(false, 2, 659, 657, 809, 1), (true, 3, 668, 667, 0, 1), (false, 2, 672, 670, 822, 1), (false, 2, 684, 682, 834, 1), (false, 2, 692, 690, 842, 1), (false, 2, 696, 694, 846, 1), (false, 0, 709, 707, 859, 1), (false, 0, 713, 711, 863, 1), (false, 2, 717, 715, 867, 1), (false, 0, 722, 720, 872, 1), (false, 2, 763, 761, 913, 1), (false, 1, 776, 774, 926, 1), (false, 0, 780, 779, 18, 1), (false, 1, 789, 787, 939, 1), (false, 2, 802, 800, 952, 1), (false, 4, 812, 810, 962, 1), (false, 1, 839, 837, 989, 1), (false, 2, 843, 842, 22, 1)], [(false, 1, 855, 853, 1005, 1), (false, 1, 859, 857, 1009, 1), (false, 2, 863, 861, 1013, 1), (false, 2, 867, 865, 1017, 1), (false, 1, 889, 887, 1039, 1), (false, 1, 893, 891, 1043, 1), (false, 0, 897, 896, 25, 1), (false, 1, 901, 899, 1051, 1), (true, 1, 904, 903, 0, 1), (false, 2, 908, 906, 1058, 1), (false, 1, 927, 925, 1077, 1), (false, 1, 943, 941, 1093, 1), (false, 1, 947, 945, 1097, 1), (true, 2, 974, 973, 0, 1), (false, 3, 978, 976, 1128, 1), (false, 2, 986, 984, 1136, 1), (false, 0, 998, 996, 1148, 1), (false, 0, 1104, 1102, 1254, 1)], [(false, 1, 1116, 1114, 1266, 1), (false, 0, 1120, 1118, 1270, 1), (false, 1, 1143, 1141, 1293, 1), (false, 5, 1423, 1421, 1573, 13), (false, 1, 1427, 1425, 1577, 13), (false, 0, 1431, 1429, 1581, 13), (false, 0, 1435, 1434, 50, 13), (false, 0, 1439, 1438, 51, 13), (false, 2, 1443, 1442, 52, 13), (false, 1, 1447, 1446, 53, 13), (false, 1, 1451, 1450, 54, 13), (true, 1, 1454, 1453, 0, 13), (false, 2, 1458, 1457, 55, 13), (false, 3, 1462, 1461, 56, 13), (false, 0, 1466, 1465, 57, 13), (false, 0, 1470, 1469, 58, 13), (false, 0, 1474, 1473, 59, 13), (false, 1, 1480, 1479, 60, 13)], [(false, 1, 1484, 1483, 61, 13), (false, 1, 1488, 1487, 62, 13), (false, 0, 1492, 1491, 63, 13), (false, 1, 1496, 1495, 64, 13), (false, 1, 1500, 1499, 65, 13), (false, 1, 1504, 1503, 66, 13), (false, 1, 1508, 1507, 67, 13), (false, 2, 1512, 1511, 68, 13), (true, 1, 1515, 1514, 0, 13), (true, 3, 1518, 1517, 0, 13), (false, 0, 1522, 1521, 69, 13), (false, 1, 1526, 1525, 70, 13), (false, 1, 1530, 1529, 71, 13), (false, 1, 1534, 1533, 72, 13), (false, 0, 1538, 1537, 73, 13), (false, 0, 1542, 1541, 74, 13), (false, 1, 1546, 1544, 1696, 13), (false, 1, 1550, 1548, 1700, 13)], [(false, 0, 1554, 1553, 75, 13), (false, 2, 1558, 1556, 1708, 13), (false, 1, 1562, 1561, 76, 13), (false, 0, 1566, 1565, 77, 13), (false, 1, 1570, 1569, 78, 13), (false, 0, 1574, 1573, 79, 13), (false, 2, 1578, 1577, 80, 13), (false, 1, 1582, 1581, 81, 13), (false, 2, 1586, 1585, 82, 13), (true, 2, 1591, 1590, 0, 13), (false, 2, 1595, 1593, 1745, 13), (false, 1, 1599, 1598, 83, 13), (false, 1, 1604, 1603, 84, 13), (false, 2, 1610, 1608, 1760, 13), (false, 2, 1614, 1612, 1764, 13), (false, 2, 1618, 1616, 1768, 13), (false, 2, 1622, 1621, 85, 13), (false, 0, 1626, 1624, 1776, 13)], [(false, 0, 1630, 1628, 1780, 13), (false, 2, 1634, 1632, 1784, 13), (false, 0, 1638, 1636, 1788, 13), (false, 0, 1642, 1641, 86, 13), (false, 1, 1646, 1645, 87, 13), (false, 1, 1650, 1649, 88, 13), (false, 0, 1654, 1653, 89, 13), (false, 2, 1658, 1657, 90, 13), (false, 2, 1662, 1661, 91, 13), (false, 1, 1666, 1665, 92, 13), (false, 2, 1670, 1668, 1820, 13), (false, 1, 1675, 1673, 1825, 13), (false, 1, 1679, 1678, 93, 13), (false, 2, 1683, 1682, 94, 13), (false, 3, 1687, 1686, 95, 13), (false, 1, 1691, 1689, 1841, 13), (false, 0, 1695, 1694, 96, 13), (false, 0, 1699, 1698, 97, 13)], [(false, 0, 1703, 1702, 98, 13), (false, 2, 1707, 1705, 1857, 13), (false, 0, 1711, 1710, 99, 13), (false, 1, 1715, 1714, 100, 13), (false, 2, 1719, 1718, 101, 13), (false, 4, 1723, 1721, 1873, 13), (false, 4, 1728, 1727, 102, 13), (false, 2, 1732, 1731, 103, 13), (false, 1, 1736, 1735, 104, 13), (false, 3, 1740, 1739, 105, 13), (false, 1, 1744, 1743, 106, 13), (false, 2, 1748, 1747, 107, 13), (false, 1, 1752, 1751, 108, 13), (false, 2, 1756, 1755, 109, 13), (false, 2, 1760, 1759, 110, 13), (false, 1, 1764, 1762, 1914, 13), (false, 3, 1768, 1767, 111, 13), (false, 1, 1772, 1770, 1922, 13)], [(false, 1, 1776, 1774, 1926, 13), (false, 2, 1780, 1778, 1930, 13), (false, 2, 1784, 1782, 1934, 13), (false, 1, 1789, 1788, 112, 13), (false, 1, 1793, 1792, 113, 13), (false, 1, 1797, 1796, 114, 13), (false, 2, 1801, 1800, 115, 13), (false, 1, 1805, 1803, 1955, 13), (false, 1, 1810, 1808, 1960, 13), (false, 1, 1814, 1812, 1964, 13), (false, 2, 1818, 1816, 1968, 13), (false, 1, 1822, 1821, 116, 13), (false, 3, 1826, 1825, 117, 13), (false, 0, 1830, 1829, 118, 13), (false, 1, 1834, 1832, 1984, 13), (false, 1, 1838, 1836, 1988, 13), (false, 0, 1843, 1842, 119, 13), (false, 1, 1847, 1846, 120, 13)], [(false, 1, 1855, 1853, 2005, 13), (false, 0, 1859, 1858, 121, 13), (false, 1, 1863, 1862, 122, 13), (false, 1, 1867, 1866, 123, 13), (false, 3, 1871, 1869, 2021, 13), (false, 2, 1875, 1873, 2025, 13), (false, 0, 1879, 1877, 2029, 13), (false, 0, 1883, 1882, 124, 13), (false, 0, 1887, 1886, 125, 13), (false, 2, 1891, 1890, 126, 13), (false, 0, 1895, 1894, 127, 13), (false, 1, 1899, 1898, 128, 13), (false, 0, 1903, 1902, 129, 13), (false, 0, 1907, 1906, 130, 13), (false, 2, 1911, 1910, 131, 13), (false, 0, 1915, 1914, 132, 13), (false, 1, 1919, 1918, 133, 13), (false, 0, 1923, 1922, 134, 13)], [(false, 0, 1927, 1926, 135, 13), (false, 0, 1931, 1930, 136, 13), (false, 0, 1935, 1934, 137, 13), (true, 1, 1938, 1937, 0, 13), (false, 0, 1942, 1941, 138, 13), (false, 1, 1946, 1945, 139, 13), (false, 0, 1950, 1949, 140, 13), (false, 0, 1954, 1953, 141, 13), (false, 0, 1958, 1957, 142, 13), (false, 1, 1963, 1962, 143, 13), (false, 1, 1967, 1966, 144, 13), (false, 3, 1971, 1970, 145, 13), (false, 2, 1976, 1975, 146, 13), (true, 1, 1979, 1978, 0, 13), (false, 2, 1985, 1984, 147, 13), (false, 1, 1989, 1988, 148, 13), (true, 2, 1992, 1991, 0, 13), (false, 3, 1996, 1995, 149, 13)], [(false, 0, 2000, 1998, 2150, 13), (true, 2, 2003, 2002, 0, 13), (false, 1, 2007, 2005, 2157, 13), (false, 0, 2011, 2009, 2161, 13), (false, 1, 2015, 2014, 150, 13), (false, 1, 2019, 2017, 2169, 13), (true, 2, 1052, 1051, 0, 19), (true, 2, 1055, 1054, 0, 19), (true, 2, 1085, 1084, 0, 19), (true, 2, 1088, 1087, 0, 19), (true, 2, 1091, 1090, 0, 19), (true, 1, 848, 847, 0, 18)]]
def am_P (m : Nat) : Bool × Nat × Nat × Nat × Nat × Nat := match am_nth am_Ps (m / 18) with
  | none => (false, 0, 0, 0, 0, 0)
  | some g => match am_nth g (m % 18) with
    | none => (false, 0, 0, 0, 0, 0)
    | some c => c
def am_Bs : List (List (ByteArray)) := [[prog_2_method_2_code, prog_2_method_4_code, prog_2_method_7_code, prog_2_method_8_code, prog_2_method_9_code, prog_2_method_3_code, prog_2_method_5_code, prog_2_method_6_code, prog_2_method_10_code, prog_3_method_2_code, prog_3_method_3_code, prog_3_method_4_code, prog_4_method_2_code, prog_4_method_8_code, prog_4_method_7_code, prog_4_method_12_code, prog_4_method_6_code, prog_4_method_13_code], [prog_4_method_9_code, prog_4_method_4_code, prog_4_method_3_code, prog_4_method_5_code, prog_4_method_10_code, prog_4_method_11_code, prog_5_method_2_code, prog_5_method_3_code, prog_5_method_5_code, prog_5_method_4_code, prog_5_method_12_code, prog_5_method_6_code, prog_5_method_7_code, prog_5_method_13_code, prog_5_method_8_code, prog_5_method_11_code, prog_5_method_9_code, prog_5_method_10_code], [prog_6_method_2_code, prog_6_method_4_code, prog_6_method_3_code, prog_6_method_16_code, prog_6_method_5_code, prog_6_method_7_code, prog_6_method_6_code, prog_6_method_11_code, prog_6_method_8_code, prog_6_method_10_code, prog_6_method_15_code, prog_6_method_17_code, prog_6_method_18_code, prog_6_method_13_code, prog_6_method_12_code, prog_6_method_14_code, prog_6_method_9_code, prog_7_method_2_code], [prog_7_method_3_code, prog_7_method_4_code, prog_7_method_5_code, prog_7_method_6_code, prog_8_method_2_code, prog_8_method_5_code, prog_8_method_6_code, prog_8_method_7_code, prog_8_method_8_code, prog_8_method_9_code, prog_8_method_16_code, prog_8_method_10_code, prog_8_method_11_code, prog_8_method_13_code, prog_8_method_15_code, prog_8_method_14_code, prog_8_method_19_code, prog_8_method_18_code], [prog_8_method_20_code, prog_8_method_17_code, prog_8_method_12_code, prog_8_method_3_code, prog_8_method_4_code, prog_9_method_3_code, prog_9_method_2_code, prog_9_method_4_code, prog_9_method_5_code, prog_9_method_6_code, prog_9_method_8_code, prog_9_method_9_code, prog_9_method_7_code, prog_10_method_2_code, prog_10_method_3_code, prog_10_method_6_code, prog_10_method_4_code, prog_10_method_5_code], [prog_11_method_2_code, prog_11_method_4_code, prog_11_method_6_code, prog_11_method_7_code, prog_11_method_9_code, prog_11_method_5_code, prog_11_method_10_code, prog_11_method_11_code, prog_11_method_8_code, prog_11_method_3_code, prog_12_method_2_code, prog_1_method_2_code, prog_1_method_3_code, prog_1_method_4_code, prog_1_method_47_code, prog_1_method_40_code, prog_1_method_5_code, prog_1_method_6_code], [prog_1_method_7_code, prog_1_method_46_code, prog_1_method_8_code, prog_1_method_9_code, prog_1_method_10_code, prog_1_method_11_code, prog_1_method_12_code, prog_1_method_13_code, prog_1_method_14_code, prog_1_method_15_code, prog_1_method_16_code, prog_1_method_17_code, prog_1_method_41_code, prog_1_method_18_code, prog_1_method_19_code, prog_1_method_20_code, prog_1_method_21_code, prog_1_method_42_code], [prog_1_method_22_code, prog_1_method_23_code, prog_1_method_24_code, prog_1_method_25_code, prog_1_method_26_code, prog_1_method_27_code, prog_1_method_43_code, prog_1_method_28_code, prog_1_method_44_code, prog_1_method_29_code, prog_1_method_30_code, prog_1_method_31_code, prog_1_method_32_code, prog_1_method_45_code, prog_1_method_33_code, prog_1_method_34_code, prog_1_method_35_code, prog_1_method_36_code], [prog_1_method_37_code, prog_1_method_38_code, prog_1_method_39_code, prog_14_method_3_code, prog_14_method_4_code, prog_14_method_30_code, prog_14_method_8_code, prog_14_method_29_code, prog_14_method_5_code, prog_14_method_10_code, prog_14_method_9_code, prog_14_method_6_code, prog_14_method_22_code, prog_14_method_17_code, prog_14_method_20_code, prog_14_method_16_code, prog_14_method_15_code, prog_14_method_18_code], [prog_14_method_19_code, prog_14_method_24_code, prog_14_method_23_code, prog_14_method_11_code, prog_14_method_25_code, prog_14_method_21_code, prog_14_method_26_code, prog_14_method_14_code, prog_14_method_7_code, prog_14_method_2_code, prog_14_method_28_code, prog_14_method_27_code, prog_14_method_13_code, prog_14_method_12_code, prog_14_method_31_code, prog_14_method_34_code, prog_14_method_32_code, prog_14_method_58_code], [prog_14_method_43_code, prog_14_method_61_code, prog_14_method_38_code, prog_14_method_33_code, prog_14_method_37_code, prog_14_method_35_code, prog_14_method_60_code, prog_14_method_40_code, prog_14_method_41_code, prog_14_method_59_code, prog_14_method_63_code, prog_14_method_39_code, prog_14_method_62_code, prog_14_method_64_code, prog_14_method_65_code, prog_14_method_67_code, prog_14_method_66_code, prog_14_method_68_code], [prog_14_method_69_code, prog_14_method_70_code, prog_14_method_72_code, prog_14_method_71_code, prog_14_method_45_code, prog_14_method_44_code, prog_14_method_52_code, prog_14_method_51_code, prog_14_method_50_code, prog_14_method_49_code, prog_14_method_73_code, prog_14_method_74_code, prog_14_method_55_code, prog_14_method_54_code, prog_14_method_53_code, prog_14_method_76_code, prog_14_method_75_code, prog_14_method_56_code], [prog_14_method_57_code, prog_14_method_78_code, prog_14_method_36_code, prog_14_method_77_code, prog_14_method_46_code, prog_14_method_85_code, prog_14_method_84_code, prog_14_method_79_code, prog_14_method_42_code, prog_14_method_83_code, prog_14_method_80_code, prog_14_method_81_code, prog_14_method_48_code, prog_14_method_82_code, prog_14_method_47_code, prog_14_method_87_code, prog_14_method_86_code, prog_14_method_88_code], [prog_14_method_89_code, prog_14_method_90_code, prog_14_method_95_code, prog_14_method_94_code, prog_14_method_93_code, prog_14_method_91_code, prog_14_method_92_code, prog_14_method_96_code, prog_14_method_97_code, prog_14_method_98_code, prog_14_method_102_code, prog_14_method_100_code, prog_14_method_99_code, prog_14_method_101_code, prog_14_method_103_code, prog_14_method_106_code, prog_14_method_105_code, prog_14_method_104_code], [prog_14_method_110_code, prog_14_method_107_code, prog_14_method_108_code, prog_14_method_109_code, prog_14_method_111_code, prog_14_method_112_code, prog_14_method_141_code, prog_14_method_139_code, prog_14_method_130_code, prog_14_method_114_code, prog_14_method_127_code, prog_14_method_113_code, prog_14_method_126_code, prog_14_method_124_code, prog_14_method_121_code, prog_14_method_120_code, prog_14_method_122_code, prog_14_method_123_code], [prog_14_method_116_code, prog_14_method_125_code, prog_14_method_118_code, prog_14_method_117_code, prog_14_method_119_code, prog_14_method_115_code, prog_14_method_129_code, prog_14_method_131_code, prog_14_method_128_code, prog_14_method_138_code, prog_14_method_134_code, prog_14_method_137_code, prog_14_method_142_code, prog_14_method_132_code, prog_14_method_136_code, prog_14_method_135_code, prog_14_method_133_code, prog_14_method_140_code], [prog_14_method_144_code, prog_14_method_143_code, prog_14_method_145_code, prog_14_method_147_code, prog_14_method_146_code, prog_14_method_148_code, prog_16_method_69_code, prog_16_method_65_code, prog_16_method_70_code, prog_16_method_66_code, prog_16_method_47_code, prog_15_method_49_code]]
def am_B (m : Nat) : ByteArray := match am_nth am_Bs (m / 18) with
  | none => code
  | some g => match am_nth g (m % 18) with
    | none => code
    | some c => c
def am_ret (m : Nat) : Option FieldType := match (am_head m).2.2 with
  | 0 => none
  | 1 => some .int
  | 2 => some .boolean
  | _ => some .long
