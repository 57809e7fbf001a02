-- ===== PART A: goes FIRST, ahead of the names: the tables' words, and 'selects' of the private methods out of them =====
/-- a private method of a class that the tables say can be made, by its rows of tables_1 -/
def lw_okq (q : MethodName × Nat) : Prop := (q.1.cls ≠ "java/lang/invoke/MethodHandle" ∧ q.1.cls ≠ "java/lang/invoke/VarHandle") ∧ Cond.instantiable q.1.cls q.2 ∈ tables_1 ∧ Cond.privateMethod q.1 ∈ tables_1 ∧ Cond.instanceMethod q.1 ∈ tables_1
theorem lw_p0 : lw_okq (⟨"PageLevels", "shelfAt", "(I)LPageLevels$Shelf;"⟩, 8) := ⟨⟨by decide +kernel, by decide +kernel⟩, List.mem_of_getElem? (i := 14) (by decide +kernel), List.mem_of_getElem? (i := 295) (by decide +kernel), List.mem_of_getElem? (i := 296) (by decide +kernel)⟩
theorem lw_p1 : lw_okq (⟨"PageLevels", "refuse", "(I)I"⟩, 8) := ⟨⟨by decide +kernel, by decide +kernel⟩, List.mem_of_getElem? (i := 14) (by decide +kernel), List.mem_of_getElem? (i := 302) (by decide +kernel), List.mem_of_getElem? (i := 303) (by decide +kernel)⟩
theorem lw_p2 : lw_okq (⟨"PageLevels$Shelf", "lowestBits", "(J)J"⟩, 4) := ⟨⟨by decide +kernel, by decide +kernel⟩, List.mem_of_getElem? (i := 243) (by decide +kernel), List.mem_of_getElem? (i := 339) (by decide +kernel), List.mem_of_getElem? (i := 340) (by decide +kernel)⟩
theorem lw_p3 : lw_okq (⟨"PageLevels$Level", "goesAhead", "(II)Z"⟩, 19) := ⟨⟨by decide +kernel, by decide +kernel⟩, List.mem_of_getElem? (i := 66) (by decide +kernel), List.mem_of_getElem? (i := 400) (by decide +kernel), List.mem_of_getElem? (i := 401) (by decide +kernel)⟩
theorem lw_p4 : lw_okq (⟨"PageLevels$Level", "greatestOf", "([I)I"⟩, 19) := ⟨⟨by decide +kernel, by decide +kernel⟩, List.mem_of_getElem? (i := 66) (by decide +kernel), List.mem_of_getElem? (i := 404) (by decide +kernel), List.mem_of_getElem? (i := 405) (by decide +kernel)⟩
theorem lw_p5 : lw_okq (⟨"PageLevels$Level", "leastOf", "([I)I"⟩, 19) := ⟨⟨by decide +kernel, by decide +kernel⟩, List.mem_of_getElem? (i := 66) (by decide +kernel), List.mem_of_getElem? (i := 411) (by decide +kernel), List.mem_of_getElem? (i := 412) (by decide +kernel)⟩
theorem lw_p6 : lw_okq (⟨"PageLevels$Tape", "readPart", "(I)Z"⟩, 8) := ⟨⟨by decide +kernel, by decide +kernel⟩, List.mem_of_getElem? (i := 209) (by decide +kernel), List.mem_of_getElem? (i := 440) (by decide +kernel), List.mem_of_getElem? (i := 441) (by decide +kernel)⟩
theorem lw_p7 : lw_okq (⟨"PageLevels$Tape", "byteHere", "()I"⟩, 8) := ⟨⟨by decide +kernel, by decide +kernel⟩, List.mem_of_getElem? (i := 209) (by decide +kernel), List.mem_of_getElem? (i := 444) (by decide +kernel), List.mem_of_getElem? (i := 445) (by decide +kernel)⟩
theorem lw_p8 : lw_okq (⟨"PageLevels$Tape", "readNumber", "(II)Z"⟩, 8) := ⟨⟨by decide +kernel, by decide +kernel⟩, List.mem_of_getElem? (i := 209) (by decide +kernel), List.mem_of_getElem? (i := 451) (by decide +kernel), List.mem_of_getElem? (i := 452) (by decide +kernel)⟩
theorem lw_p9 : lw_okq (⟨"PageLevels$Tape", "readValue", "()Z"⟩, 8) := ⟨⟨by decide +kernel, by decide +kernel⟩, List.mem_of_getElem? (i := 209) (by decide +kernel), List.mem_of_getElem? (i := 455) (by decide +kernel), List.mem_of_getElem? (i := 456) (by decide +kernel)⟩
theorem lw_p10 : lw_okq (⟨"PageLevels", "doPart", "(I)I"⟩, 8) := ⟨⟨by decide +kernel, by decide +kernel⟩, List.mem_of_getElem? (i := 14) (by decide +kernel), List.mem_of_getElem? (i := 459) (by decide +kernel), List.mem_of_getElem? (i := 460) (by decide +kernel)⟩
theorem lw_p11 : lw_okq (⟨"PageLevels$Store", "lookFor", "(I)I"⟩, 18) := ⟨⟨by decide +kernel, by decide +kernel⟩, List.mem_of_getElem? (i := 22) (by decide +kernel), List.mem_of_getElem? (i := 475) (by decide +kernel), List.mem_of_getElem? (i := 476) (by decide +kernel)⟩
theorem lw_p12 : lw_okq (⟨"PageLevels$Store", "leaveToComeNear", "(I)Z"⟩, 18) := ⟨⟨by decide +kernel, by decide +kernel⟩, List.mem_of_getElem? (i := 22) (by decide +kernel), List.mem_of_getElem? (i := 499) (by decide +kernel), List.mem_of_getElem? (i := 500) (by decide +kernel)⟩
theorem lw_p13 : lw_okq (⟨"PageLevels$Store", "farthestToHold", "()I"⟩, 18) := ⟨⟨by decide +kernel, by decide +kernel⟩, List.mem_of_getElem? (i := 22) (by decide +kernel), List.mem_of_getElem? (i := 511) (by decide +kernel), List.mem_of_getElem? (i := 512) (by decide +kernel)⟩
theorem lw_p14 : lw_okq (⟨"PageLevels$Store", "victimOf", "(LPageLevels$Level;)I"⟩, 18) := ⟨⟨by decide +kernel, by decide +kernel⟩, List.mem_of_getElem? (i := 22) (by decide +kernel), List.mem_of_getElem? (i := 525) (by decide +kernel), List.mem_of_getElem? (i := 526) (by decide +kernel)⟩
theorem lw_p15 : lw_okq (⟨"PageLevels$Level", "slotBehind", "(I)I"⟩, 19) := ⟨⟨by decide +kernel, by decide +kernel⟩, List.mem_of_getElem? (i := 66) (by decide +kernel), List.mem_of_getElem? (i := 533) (by decide +kernel), List.mem_of_getElem? (i := 534) (by decide +kernel)⟩
def lw_privs_1 : List (MethodName × Nat) := [(⟨"PageLevels", "shelfAt", "(I)LPageLevels$Shelf;"⟩, 8), (⟨"PageLevels", "refuse", "(I)I"⟩, 8), (⟨"PageLevels$Shelf", "lowestBits", "(J)J"⟩, 4), (⟨"PageLevels$Level", "goesAhead", "(II)Z"⟩, 19), (⟨"PageLevels$Level", "greatestOf", "([I)I"⟩, 19), (⟨"PageLevels$Level", "leastOf", "([I)I"⟩, 19), (⟨"PageLevels$Tape", "readPart", "(I)Z"⟩, 8), (⟨"PageLevels$Tape", "byteHere", "()I"⟩, 8), (⟨"PageLevels$Tape", "readNumber", "(II)Z"⟩, 8), (⟨"PageLevels$Tape", "readValue", "()Z"⟩, 8), (⟨"PageLevels", "doPart", "(I)I"⟩, 8), (⟨"PageLevels$Store", "lookFor", "(I)I"⟩, 18), (⟨"PageLevels$Store", "leaveToComeNear", "(I)Z"⟩, 18), (⟨"PageLevels$Store", "farthestToHold", "()I"⟩, 18), (⟨"PageLevels$Store", "victimOf", "(LPageLevels$Level;)I"⟩, 18), (⟨"PageLevels$Level", "slotBehind", "(I)I"⟩, 19)]
theorem lw_r1 : ∀ q ∈ lw_privs_1, lw_okq q := List.forall_mem_cons.mpr ⟨lw_p0, List.forall_mem_cons.mpr ⟨lw_p1, List.forall_mem_cons.mpr ⟨lw_p2, List.forall_mem_cons.mpr ⟨lw_p3, List.forall_mem_cons.mpr ⟨lw_p4, List.forall_mem_cons.mpr ⟨lw_p5, List.forall_mem_cons.mpr ⟨lw_p6, List.forall_mem_cons.mpr ⟨lw_p7, List.forall_mem_cons.mpr ⟨lw_p8, List.forall_mem_cons.mpr ⟨lw_p9, List.forall_mem_cons.mpr ⟨lw_p10, List.forall_mem_cons.mpr ⟨lw_p11, List.forall_mem_cons.mpr ⟨lw_p12, List.forall_mem_cons.mpr ⟨lw_p13, List.forall_mem_cons.mpr ⟨lw_p14, List.forall_mem_cons.mpr ⟨lw_p15, fun _ h => absurd h List.not_mem_nil⟩⟩⟩⟩⟩⟩⟩⟩⟩⟩⟩⟩⟩⟩⟩⟩
theorem lw_p16 : lw_okq (⟨"PageLevels$Store", "flushVictim", "(II)V"⟩, 18) := ⟨⟨by decide +kernel, by decide +kernel⟩, List.mem_of_getElem? (i := 22) (by decide +kernel), List.mem_of_getElem? (i := 544) (by decide +kernel), List.mem_of_getElem? (i := 545) (by decide +kernel)⟩
theorem lw_p17 : lw_okq (⟨"PageLevels$Store", "nearestDirty", "(III)LPageLevels$Level;"⟩, 18) := ⟨⟨by decide +kernel, by decide +kernel⟩, List.mem_of_getElem? (i := 22) (by decide +kernel), List.mem_of_getElem? (i := 548) (by decide +kernel), List.mem_of_getElem? (i := 549) (by decide +kernel)⟩
theorem lw_p18 : lw_okq (⟨"PageLevels$Store", "flush", "(III)V"⟩, 18) := ⟨⟨by decide +kernel, by decide +kernel⟩, List.mem_of_getElem? (i := 22) (by decide +kernel), List.mem_of_getElem? (i := 552) (by decide +kernel), List.mem_of_getElem? (i := 553) (by decide +kernel)⟩
theorem lw_p19 : lw_okq (⟨"PageLevels$Store", "putInMemory", "(II)V"⟩, 18) := ⟨⟨by decide +kernel, by decide +kernel⟩, List.mem_of_getElem? (i := 22) (by decide +kernel), List.mem_of_getElem? (i := 560) (by decide +kernel), List.mem_of_getElem? (i := 561) (by decide +kernel)⟩
theorem lw_p20 : lw_okq (⟨"PageLevels$Store", "putValue", "(II)V"⟩, 18) := ⟨⟨by decide +kernel, by decide +kernel⟩, List.mem_of_getElem? (i := 22) (by decide +kernel), List.mem_of_getElem? (i := 576) (by decide +kernel), List.mem_of_getElem? (i := 577) (by decide +kernel)⟩
theorem lw_p21 : lw_okq (⟨"PageLevels$Store", "runOn", "(I)I"⟩, 18) := ⟨⟨by decide +kernel, by decide +kernel⟩, List.mem_of_getElem? (i := 22) (by decide +kernel), List.mem_of_getElem? (i := 580) (by decide +kernel), List.mem_of_getElem? (i := 581) (by decide +kernel)⟩
theorem lw_p22 : lw_okq (⟨"PageLevels", "forgetRules", "()V"⟩, 8) := ⟨⟨by decide +kernel, by decide +kernel⟩, List.mem_of_getElem? (i := 14) (by decide +kernel), List.mem_of_getElem? (i := 627) (by decide +kernel), List.mem_of_getElem? (i := 628) (by decide +kernel)⟩
theorem lw_p23 : lw_okq (⟨"PageLevels$Store", "nearestWith", "(I)LPageLevels$Level;"⟩, 18) := ⟨⟨by decide +kernel, by decide +kernel⟩, List.mem_of_getElem? (i := 22) (by decide +kernel), List.mem_of_getElem? (i := 718) (by decide +kernel), List.mem_of_getElem? (i := 719) (by decide +kernel)⟩
theorem lw_p24 : lw_okq (⟨"PageLevels", "hear", "(IIZ)I"⟩, 8) := ⟨⟨by decide +kernel, by decide +kernel⟩, List.mem_of_getElem? (i := 14) (by decide +kernel), List.mem_of_getElem? (i := 762) (by decide +kernel), List.mem_of_getElem? (i := 763) (by decide +kernel)⟩
theorem lw_p25 : lw_okq (⟨"PageLevels", "listen", "(III)I"⟩, 8) := ⟨⟨by decide +kernel, by decide +kernel⟩, List.mem_of_getElem? (i := 14) (by decide +kernel), List.mem_of_getElem? (i := 766) (by decide +kernel), List.mem_of_getElem? (i := 767) (by decide +kernel)⟩
theorem lw_p26 : lw_okq (⟨"PageLevels", "toldAt", "(I)I"⟩, 8) := ⟨⟨by decide +kernel, by decide +kernel⟩, List.mem_of_getElem? (i := 14) (by decide +kernel), List.mem_of_getElem? (i := 771) (by decide +kernel), List.mem_of_getElem? (i := 772) (by decide +kernel)⟩
theorem lw_p27 : lw_okq (⟨"PageLevels", "thinkSweptOut", "()V"⟩, 8) := ⟨⟨by decide +kernel, by decide +kernel⟩, List.mem_of_getElem? (i := 14) (by decide +kernel), List.mem_of_getElem? (i := 779) (by decide +kernel), List.mem_of_getElem? (i := 780) (by decide +kernel)⟩
theorem lw_p28 : lw_okq (⟨"PageLevels", "costInThought", "(I)I"⟩, 8) := ⟨⟨by decide +kernel, by decide +kernel⟩, List.mem_of_getElem? (i := 14) (by decide +kernel), List.mem_of_getElem? (i := 783) (by decide +kernel), List.mem_of_getElem? (i := 784) (by decide +kernel)⟩
theorem lw_p29 : lw_okq (⟨"PageLevels", "hitsByForesight", "(II)I"⟩, 8) := ⟨⟨by decide +kernel, by decide +kernel⟩, List.mem_of_getElem? (i := 14) (by decide +kernel), List.mem_of_getElem? (i := 799) (by decide +kernel), List.mem_of_getElem? (i := 800) (by decide +kernel)⟩
theorem lw_p30 : lw_okq (⟨"PageLevels", "toldLatest", "(JII)I"⟩, 8) := ⟨⟨by decide +kernel, by decide +kernel⟩, List.mem_of_getElem? (i := 14) (by decide +kernel), List.mem_of_getElem? (i := 803) (by decide +kernel), List.mem_of_getElem? (i := 804) (by decide +kernel)⟩
theorem lw_p31 : lw_okq (⟨"PageLevels", "reuseOf", "(I)I"⟩, 8) := ⟨⟨by decide +kernel, by decide +kernel⟩, List.mem_of_getElem? (i := 14) (by decide +kernel), List.mem_of_getElem? (i := 811) (by decide +kernel), List.mem_of_getElem? (i := 812) (by decide +kernel)⟩
def lw_privs_2 : List (MethodName × Nat) := [(⟨"PageLevels$Store", "flushVictim", "(II)V"⟩, 18), (⟨"PageLevels$Store", "nearestDirty", "(III)LPageLevels$Level;"⟩, 18), (⟨"PageLevels$Store", "flush", "(III)V"⟩, 18), (⟨"PageLevels$Store", "putInMemory", "(II)V"⟩, 18), (⟨"PageLevels$Store", "putValue", "(II)V"⟩, 18), (⟨"PageLevels$Store", "runOn", "(I)I"⟩, 18), (⟨"PageLevels", "forgetRules", "()V"⟩, 8), (⟨"PageLevels$Store", "nearestWith", "(I)LPageLevels$Level;"⟩, 18), (⟨"PageLevels", "hear", "(IIZ)I"⟩, 8), (⟨"PageLevels", "listen", "(III)I"⟩, 8), (⟨"PageLevels", "toldAt", "(I)I"⟩, 8), (⟨"PageLevels", "thinkSweptOut", "()V"⟩, 8), (⟨"PageLevels", "costInThought", "(I)I"⟩, 8), (⟨"PageLevels", "hitsByForesight", "(II)I"⟩, 8), (⟨"PageLevels", "toldLatest", "(JII)I"⟩, 8), (⟨"PageLevels", "reuseOf", "(I)I"⟩, 8)]
theorem lw_r2 : ∀ q ∈ lw_privs_2, lw_okq q := List.forall_mem_cons.mpr ⟨lw_p16, List.forall_mem_cons.mpr ⟨lw_p17, List.forall_mem_cons.mpr ⟨lw_p18, List.forall_mem_cons.mpr ⟨lw_p19, List.forall_mem_cons.mpr ⟨lw_p20, List.forall_mem_cons.mpr ⟨lw_p21, List.forall_mem_cons.mpr ⟨lw_p22, List.forall_mem_cons.mpr ⟨lw_p23, List.forall_mem_cons.mpr ⟨lw_p24, List.forall_mem_cons.mpr ⟨lw_p25, List.forall_mem_cons.mpr ⟨lw_p26, List.forall_mem_cons.mpr ⟨lw_p27, List.forall_mem_cons.mpr ⟨lw_p28, List.forall_mem_cons.mpr ⟨lw_p29, List.forall_mem_cons.mpr ⟨lw_p30, List.forall_mem_cons.mpr ⟨lw_p31, fun _ h => absurd h List.not_mem_nil⟩⟩⟩⟩⟩⟩⟩⟩⟩⟩⟩⟩⟩⟩⟩⟩
theorem lw_p32 : lw_okq (⟨"PageLevels", "pagesTold", "(II)J"⟩, 8) := ⟨⟨by decide +kernel, by decide +kernel⟩, List.mem_of_getElem? (i := 14) (by decide +kernel), List.mem_of_getElem? (i := 815) (by decide +kernel), List.mem_of_getElem? (i := 816) (by decide +kernel)⟩
theorem lw_p33 : lw_okq (⟨"PageLevels", "greatestReuse", "(I)I"⟩, 8) := ⟨⟨by decide +kernel, by decide +kernel⟩, List.mem_of_getElem? (i := 14) (by decide +kernel), List.mem_of_getElem? (i := 823) (by decide +kernel), List.mem_of_getElem? (i := 824) (by decide +kernel)⟩
theorem lw_p34 : lw_okq (⟨"PageLevels", "oftenestTold", "(I)I"⟩, 8) := ⟨⟨by decide +kernel, by decide +kernel⟩, List.mem_of_getElem? (i := 14) (by decide +kernel), List.mem_of_getElem? (i := 828) (by decide +kernel), List.mem_of_getElem? (i := 829) (by decide +kernel)⟩
theorem lw_p35 : lw_okq (⟨"PageLevels", "fullShelves", "()I"⟩, 8) := ⟨⟨by decide +kernel, by decide +kernel⟩, List.mem_of_getElem? (i := 14) (by decide +kernel), List.mem_of_getElem? (i := 879) (by decide +kernel), List.mem_of_getElem? (i := 880) (by decide +kernel)⟩
theorem lw_p36 : lw_okq (⟨"PageLevelsModel", "refuses", "(I)I"⟩, 20) := ⟨⟨by decide +kernel, by decide +kernel⟩, List.mem_of_getElem? (i := 884) (by decide +kernel), List.mem_of_getElem? (i := 962) (by decide +kernel), List.mem_of_getElem? (i := 963) (by decide +kernel)⟩
theorem lw_p37 : lw_okq (⟨"PageLevelsModel", "sweepsOut", "()V"⟩, 20) := ⟨⟨by decide +kernel, by decide +kernel⟩, List.mem_of_getElem? (i := 884) (by decide +kernel), List.mem_of_getElem? (i := 966) (by decide +kernel), List.mem_of_getElem? (i := 967) (by decide +kernel)⟩
theorem lw_p38 : lw_okq (⟨"PageLevelsModel", "sweeps", "(I)I"⟩, 20) := ⟨⟨by decide +kernel, by decide +kernel⟩, List.mem_of_getElem? (i := 884) (by decide +kernel), List.mem_of_getElem? (i := 970) (by decide +kernel), List.mem_of_getElem? (i := 971) (by decide +kernel)⟩
theorem lw_p39 : lw_okq (⟨"PageLevelsModel", "of", "(II)I"⟩, 20) := ⟨⟨by decide +kernel, by decide +kernel⟩, List.mem_of_getElem? (i := 884) (by decide +kernel), List.mem_of_getElem? (i := 974) (by decide +kernel), List.mem_of_getElem? (i := 975) (by decide +kernel)⟩
theorem lw_p40 : lw_okq (⟨"PageLevelsModel", "note", "(III)I"⟩, 20) := ⟨⟨by decide +kernel, by decide +kernel⟩, List.mem_of_getElem? (i := 884) (by decide +kernel), List.mem_of_getElem? (i := 981) (by decide +kernel), List.mem_of_getElem? (i := 982) (by decide +kernel)⟩
theorem lw_p41 : lw_okq (⟨"PageLevelsModel", "flushes", "(III)V"⟩, 20) := ⟨⟨by decide +kernel, by decide +kernel⟩, List.mem_of_getElem? (i := 884) (by decide +kernel), List.mem_of_getElem? (i := 988) (by decide +kernel), List.mem_of_getElem? (i := 989) (by decide +kernel)⟩
theorem lw_p42 : lw_okq (⟨"PageLevelsModel", "found", "(II)I"⟩, 20) := ⟨⟨by decide +kernel, by decide +kernel⟩, List.mem_of_getElem? (i := 884) (by decide +kernel), List.mem_of_getElem? (i := 992) (by decide +kernel), List.mem_of_getElem? (i := 993) (by decide +kernel)⟩
theorem lw_p43 : lw_okq (⟨"PageLevelsModel", "empties", "(II)V"⟩, 20) := ⟨⟨by decide +kernel, by decide +kernel⟩, List.mem_of_getElem? (i := 884) (by decide +kernel), List.mem_of_getElem? (i := 996) (by decide +kernel), List.mem_of_getElem? (i := 997) (by decide +kernel)⟩
theorem lw_p44 : lw_okq (⟨"PageLevelsModel", "reads", "(I)I"⟩, 20) := ⟨⟨by decide +kernel, by decide +kernel⟩, List.mem_of_getElem? (i := 884) (by decide +kernel), List.mem_of_getElem? (i := 1022) (by decide +kernel), List.mem_of_getElem? (i := 1023) (by decide +kernel)⟩
theorem lw_p45 : lw_okq (⟨"PageLevelsModel", "looks", "(I)I"⟩, 20) := ⟨⟨by decide +kernel, by decide +kernel⟩, List.mem_of_getElem? (i := 884) (by decide +kernel), List.mem_of_getElem? (i := 1026) (by decide +kernel), List.mem_of_getElem? (i := 1027) (by decide +kernel)⟩
theorem lw_p46 : lw_okq (⟨"PageLevelsModel", "places", "(IIII)V"⟩, 20) := ⟨⟨by decide +kernel, by decide +kernel⟩, List.mem_of_getElem? (i := 884) (by decide +kernel), List.mem_of_getElem? (i := 1030) (by decide +kernel), List.mem_of_getElem? (i := 1031) (by decide +kernel)⟩
theorem lw_p47 : lw_okq (⟨"PageLevelsModel", "victim", "(I)I"⟩, 20) := ⟨⟨by decide +kernel, by decide +kernel⟩, List.mem_of_getElem? (i := 884) (by decide +kernel), List.mem_of_getElem? (i := 1034) (by decide +kernel), List.mem_of_getElem? (i := 1035) (by decide +kernel)⟩
def lw_privs_3 : List (MethodName × Nat) := [(⟨"PageLevels", "pagesTold", "(II)J"⟩, 8), (⟨"PageLevels", "greatestReuse", "(I)I"⟩, 8), (⟨"PageLevels", "oftenestTold", "(I)I"⟩, 8), (⟨"PageLevels", "fullShelves", "()I"⟩, 8), (⟨"PageLevelsModel", "refuses", "(I)I"⟩, 20), (⟨"PageLevelsModel", "sweepsOut", "()V"⟩, 20), (⟨"PageLevelsModel", "sweeps", "(I)I"⟩, 20), (⟨"PageLevelsModel", "of", "(II)I"⟩, 20), (⟨"PageLevelsModel", "note", "(III)I"⟩, 20), (⟨"PageLevelsModel", "flushes", "(III)V"⟩, 20), (⟨"PageLevelsModel", "found", "(II)I"⟩, 20), (⟨"PageLevelsModel", "empties", "(II)V"⟩, 20), (⟨"PageLevelsModel", "reads", "(I)I"⟩, 20), (⟨"PageLevelsModel", "looks", "(I)I"⟩, 20), (⟨"PageLevelsModel", "places", "(IIII)V"⟩, 20), (⟨"PageLevelsModel", "victim", "(I)I"⟩, 20)]
theorem lw_r3 : ∀ q ∈ lw_privs_3, lw_okq q := List.forall_mem_cons.mpr ⟨lw_p32, List.forall_mem_cons.mpr ⟨lw_p33, List.forall_mem_cons.mpr ⟨lw_p34, List.forall_mem_cons.mpr ⟨lw_p35, List.forall_mem_cons.mpr ⟨lw_p36, List.forall_mem_cons.mpr ⟨lw_p37, List.forall_mem_cons.mpr ⟨lw_p38, List.forall_mem_cons.mpr ⟨lw_p39, List.forall_mem_cons.mpr ⟨lw_p40, List.forall_mem_cons.mpr ⟨lw_p41, List.forall_mem_cons.mpr ⟨lw_p42, List.forall_mem_cons.mpr ⟨lw_p43, List.forall_mem_cons.mpr ⟨lw_p44, List.forall_mem_cons.mpr ⟨lw_p45, List.forall_mem_cons.mpr ⟨lw_p46, List.forall_mem_cons.mpr ⟨lw_p47, fun _ h => absurd h List.not_mem_nil⟩⟩⟩⟩⟩⟩⟩⟩⟩⟩⟩⟩⟩⟩⟩⟩
theorem lw_p48 : lw_okq (⟨"PageLevelsModel", "noted", "(I)I"⟩, 20) := ⟨⟨by decide +kernel, by decide +kernel⟩, List.mem_of_getElem? (i := 884) (by decide +kernel), List.mem_of_getElem? (i := 1038) (by decide +kernel), List.mem_of_getElem? (i := 1039) (by decide +kernel)⟩
theorem lw_p49 : lw_okq (⟨"PageLevelsModel", "draw", "(I)I"⟩, 20) := ⟨⟨by decide +kernel, by decide +kernel⟩, List.mem_of_getElem? (i := 884) (by decide +kernel), List.mem_of_getElem? (i := 1042) (by decide +kernel), List.mem_of_getElem? (i := 1043) (by decide +kernel)⟩
theorem lw_p50 : lw_okq (⟨"PageLevelsModel", "goesOut", "(II)V"⟩, 20) := ⟨⟨by decide +kernel, by decide +kernel⟩, List.mem_of_getElem? (i := 884) (by decide +kernel), List.mem_of_getElem? (i := 1047) (by decide +kernel), List.mem_of_getElem? (i := 1048) (by decide +kernel)⟩
theorem lw_p51 : lw_okq (⟨"PageLevelsModel", "follows", "(II)V"⟩, 20) := ⟨⟨by decide +kernel, by decide +kernel⟩, List.mem_of_getElem? (i := 884) (by decide +kernel), List.mem_of_getElem? (i := 1051) (by decide +kernel), List.mem_of_getElem? (i := 1052) (by decide +kernel)⟩
theorem lw_p52 : lw_okq (⟨"PageLevelsModel", "isAnywhere", "(I)Z"⟩, 20) := ⟨⟨by decide +kernel, by decide +kernel⟩, List.mem_of_getElem? (i := 884) (by decide +kernel), List.mem_of_getElem? (i := 1055) (by decide +kernel), List.mem_of_getElem? (i := 1056) (by decide +kernel)⟩
theorem lw_p53 : lw_okq (⟨"PageLevelsModel", "writes", "(II)I"⟩, 20) := ⟨⟨by decide +kernel, by decide +kernel⟩, List.mem_of_getElem? (i := 884) (by decide +kernel), List.mem_of_getElem? (i := 1064) (by decide +kernel), List.mem_of_getElem? (i := 1065) (by decide +kernel)⟩
theorem lw_p54 : lw_okq (⟨"PageLevelsModel", "isLevel", "(I)Z"⟩, 20) := ⟨⟨by decide +kernel, by decide +kernel⟩, List.mem_of_getElem? (i := 884) (by decide +kernel), List.mem_of_getElem? (i := 1072) (by decide +kernel), List.mem_of_getElem? (i := 1073) (by decide +kernel)⟩
theorem lw_p55 : lw_okq (⟨"PageLevelsModel", "manyPages", "()I"⟩, 20) := ⟨⟨by decide +kernel, by decide +kernel⟩, List.mem_of_getElem? (i := 884) (by decide +kernel), List.mem_of_getElem? (i := 1080) (by decide +kernel), List.mem_of_getElem? (i := 1081) (by decide +kernel)⟩
theorem lw_p56 : lw_okq (⟨"PageLevelsModel", "parts", "(Z)I"⟩, 20) := ⟨⟨by decide +kernel, by decide +kernel⟩, List.mem_of_getElem? (i := 884) (by decide +kernel), List.mem_of_getElem? (i := 1097) (by decide +kernel), List.mem_of_getElem? (i := 1098) (by decide +kernel)⟩
theorem lw_p57 : lw_okq (⟨"PageLevelsModel", "part", "(Z)I"⟩, 20) := ⟨⟨by decide +kernel, by decide +kernel⟩, List.mem_of_getElem? (i := 884) (by decide +kernel), List.mem_of_getElem? (i := 1101) (by decide +kernel), List.mem_of_getElem? (i := 1102) (by decide +kernel)⟩
theorem lw_p58 : lw_okq (⟨"PageLevelsModel", "peek", "()I"⟩, 20) := ⟨⟨by decide +kernel, by decide +kernel⟩, List.mem_of_getElem? (i := 884) (by decide +kernel), List.mem_of_getElem? (i := 1105) (by decide +kernel), List.mem_of_getElem? (i := 1106) (by decide +kernel)⟩
theorem lw_p59 : lw_okq (⟨"PageLevelsModel", "wrong", "(I)V"⟩, 20) := ⟨⟨by decide +kernel, by decide +kernel⟩, List.mem_of_getElem? (i := 884) (by decide +kernel), List.mem_of_getElem? (i := 1109) (by decide +kernel), List.mem_of_getElem? (i := 1110) (by decide +kernel)⟩
theorem lw_p60 : lw_okq (⟨"PageLevelsModel", "number", "(II)I"⟩, 20) := ⟨⟨by decide +kernel, by decide +kernel⟩, List.mem_of_getElem? (i := 884) (by decide +kernel), List.mem_of_getElem? (i := 1113) (by decide +kernel), List.mem_of_getElem? (i := 1114) (by decide +kernel)⟩
theorem lw_p61 : lw_okq (⟨"PageLevelsModel", "amiss", "(I)I"⟩, 20) := ⟨⟨by decide +kernel, by decide +kernel⟩, List.mem_of_getElem? (i := 884) (by decide +kernel), List.mem_of_getElem? (i := 1133) (by decide +kernel), List.mem_of_getElem? (i := 1134) (by decide +kernel)⟩
theorem lw_p62 : lw_okq (⟨"PageLevelsModel", "extreme", "(III)I"⟩, 20) := ⟨⟨by decide +kernel, by decide +kernel⟩, List.mem_of_getElem? (i := 884) (by decide +kernel), List.mem_of_getElem? (i := 1160) (by decide +kernel), List.mem_of_getElem? (i := 1161) (by decide +kernel)⟩
theorem lw_p63 : lw_okq (⟨"PageLevelsModel", "isDiffering", "(II)Z"⟩, 20) := ⟨⟨by decide +kernel, by decide +kernel⟩, List.mem_of_getElem? (i := 884) (by decide +kernel), List.mem_of_getElem? (i := 1191) (by decide +kernel), List.mem_of_getElem? (i := 1192) (by decide +kernel)⟩
def lw_privs_4 : List (MethodName × Nat) := [(⟨"PageLevelsModel", "noted", "(I)I"⟩, 20), (⟨"PageLevelsModel", "draw", "(I)I"⟩, 20), (⟨"PageLevelsModel", "goesOut", "(II)V"⟩, 20), (⟨"PageLevelsModel", "follows", "(II)V"⟩, 20), (⟨"PageLevelsModel", "isAnywhere", "(I)Z"⟩, 20), (⟨"PageLevelsModel", "writes", "(II)I"⟩, 20), (⟨"PageLevelsModel", "isLevel", "(I)Z"⟩, 20), (⟨"PageLevelsModel", "manyPages", "()I"⟩, 20), (⟨"PageLevelsModel", "parts", "(Z)I"⟩, 20), (⟨"PageLevelsModel", "part", "(Z)I"⟩, 20), (⟨"PageLevelsModel", "peek", "()I"⟩, 20), (⟨"PageLevelsModel", "wrong", "(I)V"⟩, 20), (⟨"PageLevelsModel", "number", "(II)I"⟩, 20), (⟨"PageLevelsModel", "amiss", "(I)I"⟩, 20), (⟨"PageLevelsModel", "extreme", "(III)I"⟩, 20), (⟨"PageLevelsModel", "isDiffering", "(II)Z"⟩, 20)]
theorem lw_r4 : ∀ q ∈ lw_privs_4, lw_okq q := List.forall_mem_cons.mpr ⟨lw_p48, List.forall_mem_cons.mpr ⟨lw_p49, List.forall_mem_cons.mpr ⟨lw_p50, List.forall_mem_cons.mpr ⟨lw_p51, List.forall_mem_cons.mpr ⟨lw_p52, List.forall_mem_cons.mpr ⟨lw_p53, List.forall_mem_cons.mpr ⟨lw_p54, List.forall_mem_cons.mpr ⟨lw_p55, List.forall_mem_cons.mpr ⟨lw_p56, List.forall_mem_cons.mpr ⟨lw_p57, List.forall_mem_cons.mpr ⟨lw_p58, List.forall_mem_cons.mpr ⟨lw_p59, List.forall_mem_cons.mpr ⟨lw_p60, List.forall_mem_cons.mpr ⟨lw_p61, List.forall_mem_cons.mpr ⟨lw_p62, List.forall_mem_cons.mpr ⟨lw_p63, fun _ h => absurd h List.not_mem_nil⟩⟩⟩⟩⟩⟩⟩⟩⟩⟩⟩⟩⟩⟩⟩⟩
theorem lw_p64 : lw_okq (⟨"PageLevelsModel", "in", "(I)I"⟩, 20) := ⟨⟨by decide +kernel, by decide +kernel⟩, List.mem_of_getElem? (i := 884) (by decide +kernel), List.mem_of_getElem? (i := 1195) (by decide +kernel), List.mem_of_getElem? (i := 1196) (by decide +kernel)⟩
theorem lw_p65 : lw_okq (⟨"PageLevelsModel", "flushedAll", "()I"⟩, 20) := ⟨⟨by decide +kernel, by decide +kernel⟩, List.mem_of_getElem? (i := 884) (by decide +kernel), List.mem_of_getElem? (i := 1210) (by decide +kernel), List.mem_of_getElem? (i := 1211) (by decide +kernel)⟩
theorem lw_p66 : lw_okq (⟨"PageLevelsModel", "wrongRow", "(III)I"⟩, 20) := ⟨⟨by decide +kernel, by decide +kernel⟩, List.mem_of_getElem? (i := 884) (by decide +kernel), List.mem_of_getElem? (i := 1218) (by decide +kernel), List.mem_of_getElem? (i := 1219) (by decide +kernel)⟩
theorem lw_p67 : lw_okq (⟨"PageLevelsModel", "readsRow", "(II)V"⟩, 20) := ⟨⟨by decide +kernel, by decide +kernel⟩, List.mem_of_getElem? (i := 884) (by decide +kernel), List.mem_of_getElem? (i := 1222) (by decide +kernel), List.mem_of_getElem? (i := 1223) (by decide +kernel)⟩
theorem lw_p68 : lw_okq (⟨"PageLevelsModel", "costWith", "(IIII)I"⟩, 20) := ⟨⟨by decide +kernel, by decide +kernel⟩, List.mem_of_getElem? (i := 884) (by decide +kernel), List.mem_of_getElem? (i := 1231) (by decide +kernel), List.mem_of_getElem? (i := 1232) (by decide +kernel)⟩
theorem lw_p69 : lw_okq (⟨"PageLevelsModel", "nextRead", "(IIII)I"⟩, 20) := ⟨⟨by decide +kernel, by decide +kernel⟩, List.mem_of_getElem? (i := 884) (by decide +kernel), List.mem_of_getElem? (i := 1247) (by decide +kernel), List.mem_of_getElem? (i := 1248) (by decide +kernel)⟩
theorem lw_p70 : lw_okq (⟨"PageLevelsModel", "reused", "(II)I"⟩, 20) := ⟨⟨by decide +kernel, by decide +kernel⟩, List.mem_of_getElem? (i := 884) (by decide +kernel), List.mem_of_getElem? (i := 1255) (by decide +kernel), List.mem_of_getElem? (i := 1256) (by decide +kernel)⟩
theorem lw_p71 : lw_okq (⟨"PageLevelsModel", "unlike", "(III)I"⟩, 20) := ⟨⟨by decide +kernel, by decide +kernel⟩, List.mem_of_getElem? (i := 884) (by decide +kernel), List.mem_of_getElem? (i := 1259) (by decide +kernel), List.mem_of_getElem? (i := 1260) (by decide +kernel)⟩
def lw_privs_5 : List (MethodName × Nat) := [(⟨"PageLevelsModel", "in", "(I)I"⟩, 20), (⟨"PageLevelsModel", "flushedAll", "()I"⟩, 20), (⟨"PageLevelsModel", "wrongRow", "(III)I"⟩, 20), (⟨"PageLevelsModel", "readsRow", "(II)V"⟩, 20), (⟨"PageLevelsModel", "costWith", "(IIII)I"⟩, 20), (⟨"PageLevelsModel", "nextRead", "(IIII)I"⟩, 20), (⟨"PageLevelsModel", "reused", "(II)I"⟩, 20), (⟨"PageLevelsModel", "unlike", "(III)I"⟩, 20)]
theorem lw_r5 : ∀ q ∈ lw_privs_5, lw_okq q := List.forall_mem_cons.mpr ⟨lw_p64, List.forall_mem_cons.mpr ⟨lw_p65, List.forall_mem_cons.mpr ⟨lw_p66, List.forall_mem_cons.mpr ⟨lw_p67, List.forall_mem_cons.mpr ⟨lw_p68, List.forall_mem_cons.mpr ⟨lw_p69, List.forall_mem_cons.mpr ⟨lw_p70, List.forall_mem_cons.mpr ⟨lw_p71, fun _ h => absurd h List.not_mem_nil⟩⟩⟩⟩⟩⟩⟩⟩
def lw_privs : List (MethodName × Nat) := lw_privs_1 ++ (lw_privs_2 ++ (lw_privs_3 ++ (lw_privs_4 ++ (lw_privs_5))))
def lw_tbl : List Cond := k2_sels lw_privs ++ tables_1
theorem lw_privs_ok : ∀ q ∈ lw_privs, lw_okq q := by
  show ∀ q ∈ lw_privs_1 ++ (lw_privs_2 ++ (lw_privs_3 ++ (lw_privs_4 ++ (lw_privs_5)))), lw_okq q
  exact List.forall_mem_append.mpr ⟨lw_r1, List.forall_mem_append.mpr ⟨lw_r2, List.forall_mem_append.mpr ⟨lw_r3, List.forall_mem_append.mpr ⟨lw_r4, lw_r5⟩⟩⟩⟩
-- ===== end of PART A; then your names; then what follows =====
/-! ===== BEGIN words of one list among another's, by their places ===== -/
theorem goodIn_r {big : List Cond} (ws : List Cond) (ps : List Nat) (hp : ws = ps.filterMap (fun i => big[i]?)) (h : ws.all goodWord = true) : GoodIn big ws := by
  intro w hw
  have h1 := List.all_eq_true.mp h w hw
  rw [hp] at hw
  obtain ⟨i, -, hi⟩ := List.mem_filterMap.mp hw
  have hm : w ∈ big := by first | exact List.mem_of_getElem? hi | exact List.getElem?_mem hi
  exact ⟨hm, good_of_word h1⟩
theorem goodIn_app {big a b : List Cond} (ha : GoodIn big a) (hb : GoodIn big b) : GoodIn big (a ++ b) := fun w h => (List.mem_append.mp h).elim (ha w) (hb w)
theorem goodIn_ca {big a b : List Cond} {c : Cond} (ha : GoodIn big (c :: a)) (hb : GoodIn big b) : GoodIn big (c :: (a ++ b)) := fun w h => (List.mem_cons.mp h).elim (fun e => ha w (List.mem_cons.mpr (Or.inl e))) (fun h => (List.mem_append.mp h).elim (fun h => ha w (List.mem_cons.mpr (Or.inr h))) (hb w))
theorem goodIn_sub {big ws : List Cond} (hm : ∀ w ∈ ws, w ∈ big) (h : ws.all goodWord = true) : GoodIn big ws := fun w hw => ⟨hm w hw, good_of_word (List.all_eq_true.mp h w hw)⟩
/-! ===== END ===== -/

/-! ===== BEGIN printed: names, fields, word lists, decode rows ===== -/
def RX0 : String := "PageLevels$Draws"
def TX0 : u_T := fun k => match k with
  | 0 => ("PageLevels$Draws", "seed", "I", false)
  | _ => ("PageLevels$Draws", "dayPage", "I", false)
def tyX0 : Nat → FieldType := fun k => match k with
  | 0 => .int
  | _ => .int
abbrev wsX00 : List Cond := u_ws RX0 TX0 2
theorem nmX0 : ∀ a, a < 2 → ∀ b, b < 2 → a ≠ b → (TX0 a).2.1 ≠ (TX0 b).2.1 := by decide +kernel
theorem tyX0_ok : ∀ k, k < 2 → parseFieldDescriptor (TX0 k).2.2.1 = some (tyX0 k) := by decide +kernel
abbrev cX0_init : ByteArray := prog_2_method_1_code
def yX0_init : MethodName := ⟨RX0, "<init>", "()V"⟩
abbrev cX0_takeFrom : ByteArray := prog_2_method_2_code
def yX0_takeFrom : MethodName := ⟨RX0, "takeFrom", "(LPageLevels$Draws;)V"⟩
abbrev cX0_drawBelow : ByteArray := prog_2_method_3_code
def yX0_drawBelow : MethodName := ⟨RX0, "drawBelow", "(I)I"⟩
abbrev cX0_drawPage : ByteArray := prog_2_method_4_code
def yX0_drawPage : MethodName := ⟨RX0, "drawPage", "()I"⟩
def RX1 : String := "PageLevels$History"
def TX1 : u_T := fun k => match k with
  | 0 => ("PageLevels$History", "pages", "[I", true)
  | 1 => ("PageLevels$History", "written", "[I", true)
  | 2 => ("PageLevels$History", "costs", "[I", true)
  | 3 => ("PageLevels$History", "levels", "[I", true)
  | _ => ("PageLevels$History", "times", "[I", true)
def tyX1 : Nat → FieldType := fun k => match k with
  | 0 => .array .int
  | 1 => .array .int
  | 2 => .array .int
  | 3 => .array .int
  | _ => .array .int
abbrev wsX10 : List Cond := u_ws RX1 TX1 5
theorem nmX1 : ∀ a, a < 5 → ∀ b, b < 5 → a ≠ b → (TX1 a).2.1 ≠ (TX1 b).2.1 := by decide +kernel
theorem tyX1_ok : ∀ k, k < 5 → parseFieldDescriptor (TX1 k).2.2.1 = some (tyX1 k) := by decide +kernel
abbrev cX1_init : ByteArray := prog_3_method_1_code
def yX1_init : MethodName := ⟨RX1, "<init>", "()V"⟩
abbrev cX1_takeFrom : ByteArray := prog_3_method_2_code
def yX1_takeFrom : MethodName := ⟨RX1, "takeFrom", "(LPageLevels$History;)V"⟩
abbrev cX1_note : ByteArray := prog_3_method_3_code
def yX1_note : MethodName := ⟨RX1, "note", "(IIZII)V"⟩
abbrev cX1_tells : ByteArray := prog_3_method_4_code
def yX1_tells : MethodName := ⟨RX1, "tells", "(II)I"⟩
abbrev cX1_timesOf : ByteArray := prog_3_method_5_code
def yX1_timesOf : MethodName := ⟨RX1, "timesOf", "(I)I"⟩
def RX2 : String := "PageLevels$Level"
def TX2 : u_T := fun k => match k with
  | 0 => ("PageLevels$Level", "size", "I", false)
  | 1 => ("PageLevels$Level", "cost", "I", false)
  | 2 => ("PageLevels$Level", "kind", "I", false)
  | 3 => ("PageLevels$Level", "hand", "I", false)
  | 4 => ("PageLevels$Level", "drawn", "I", false)
  | 5 => ("PageLevels$Level", "hits", "I", false)
  | 6 => ("PageLevels$Level", "misses", "I", false)
  | 7 => ("PageLevels$Level", "placed", "I", false)
  | 8 => ("PageLevels$Level", "flushed", "I", false)
  | 9 => ("PageLevels$Level", "out", "I", false)
  | 10 => ("PageLevels$Level", "held", "I", false)
  | 11 => ("PageLevels$Level", "pages", "[I", true)
  | 12 => ("PageLevels$Level", "values", "[I", true)
  | 13 => ("PageLevels$Level", "dirty", "[Z", true)
  | 14 => ("PageLevels$Level", "since", "[I", true)
  | 15 => ("PageLevels$Level", "last", "[I", true)
  | 16 => ("PageLevels$Level", "times", "[I", true)
  | 17 => ("PageLevels$Level", "used", "[Z", true)
  | _ => ("PageLevels$Level", "slots", "[I", true)
def tyX2 : Nat → FieldType := fun k => match k with
  | 0 => .int
  | 1 => .int
  | 2 => .int
  | 3 => .int
  | 4 => .int
  | 5 => .int
  | 6 => .int
  | 7 => .int
  | 8 => .int
  | 9 => .int
  | 10 => .int
  | 11 => .array .int
  | 12 => .array .int
  | 13 => .array .boolean
  | 14 => .array .int
  | 15 => .array .int
  | 16 => .array .int
  | 17 => .array .boolean
  | _ => .array .int
abbrev wsX20 : List Cond := u_ws RX2 TX2 19
theorem nmX2 : ∀ a, a < 19 → ∀ b, b < 19 → a ≠ b → (TX2 a).2.1 ≠ (TX2 b).2.1 := by decide +kernel
theorem tyX2_ok : ∀ k, k < 19 → parseFieldDescriptor (TX2 k).2.2.1 = some (tyX2 k) := by decide +kernel
abbrev cX2_init : ByteArray := prog_4_method_1_code
def yX2_init : MethodName := ⟨RX2, "<init>", "()V"⟩
abbrev cX2_begin : ByteArray := prog_4_method_2_code
def yX2_begin : MethodName := ⟨RX2, "begin", "(III)V"⟩
abbrev cX2_holdNothing : ByteArray := prog_4_method_3_code
def yX2_holdNothing : MethodName := ⟨RX2, "holdNothing", "()V"⟩
abbrev cX2_takeFrom : ByteArray := prog_4_method_4_code
def yX2_takeFrom : MethodName := ⟨RX2, "takeFrom", "(LPageLevels$Level;)V"⟩
abbrev cX2_isSlot : ByteArray := prog_4_method_5_code
def yX2_isSlot : MethodName := ⟨RX2, "isSlot", "(I)Z"⟩
abbrev cX2_slotOf : ByteArray := prog_4_method_6_code
def yX2_slotOf : MethodName := ⟨RX2, "slotOf", "(I)I"⟩
abbrev cX2_pageIn : ByteArray := prog_4_method_7_code
def yX2_pageIn : MethodName := ⟨RX2, "pageIn", "(I)I"⟩
abbrev cX2_valueIn : ByteArray := prog_4_method_8_code
def yX2_valueIn : MethodName := ⟨RX2, "valueIn", "(I)I"⟩
abbrev cX2_isDirty : ByteArray := prog_4_method_9_code
def yX2_isDirty : MethodName := ⟨RX2, "isDirty", "(I)Z"⟩
abbrev cX2_change : ByteArray := prog_4_method_10_code
def yX2_change : MethodName := ⟨RX2, "change", "(IIZ)V"⟩
abbrev cX2_freeSlot : ByteArray := prog_4_method_11_code
def yX2_freeSlot : MethodName := ⟨RX2, "freeSlot", "()I"⟩
abbrev cX2_hold : ByteArray := prog_4_method_12_code
def yX2_hold : MethodName := ⟨RX2, "hold", "(IIII)V"⟩
abbrev cX2_release : ByteArray := prog_4_method_13_code
def yX2_release : MethodName := ⟨RX2, "release", "(I)Z"⟩
abbrev cX2_letOut : ByteArray := prog_4_method_14_code
def yX2_letOut : MethodName := ⟨RX2, "letOut", "(I)V"⟩
abbrev cX2_touch : ByteArray := prog_4_method_15_code
def yX2_touch : MethodName := ⟨RX2, "touch", "(II)V"⟩
abbrev cX2_notedVictim : ByteArray := prog_4_method_16_code
def yX2_notedVictim : MethodName := ⟨RX2, "notedVictim", "()I"⟩
abbrev cX2_goesAhead : ByteArray := prog_4_method_17_code
def yX2_goesAhead : MethodName := ⟨RX2, "goesAhead", "(II)Z"⟩
abbrev cX2_clockVictim : ByteArray := prog_4_method_18_code
def yX2_clockVictim : MethodName := ⟨RX2, "clockVictim", "()I"⟩
abbrev cX2_slotBehind : ByteArray := prog_4_method_19_code
def yX2_slotBehind : MethodName := ⟨RX2, "slotBehind", "(I)I"⟩
abbrev cX2_saysAs : ByteArray := prog_4_method_20_code
def yX2_saysAs : MethodName := ⟨RX2, "saysAs", "(I)I"⟩
abbrev cX2_greatestOf : ByteArray := prog_4_method_21_code
def yX2_greatestOf : MethodName := ⟨RX2, "greatestOf", "([I)I"⟩
abbrev cX2_leastOf : ByteArray := prog_4_method_22_code
def yX2_leastOf : MethodName := ⟨RX2, "leastOf", "([I)I"⟩
abbrev cX2_dirtyOnes : ByteArray := prog_4_method_23_code
def yX2_dirtyOnes : MethodName := ⟨RX2, "dirtyOnes", "()I"⟩
abbrev cX2_tells : ByteArray := prog_4_method_24_code
def yX2_tells : MethodName := ⟨RX2, "tells", "(I)I"⟩
abbrev cX2_tellsSlot : ByteArray := prog_4_method_25_code
def yX2_tellsSlot : MethodName := ⟨RX2, "tellsSlot", "(II)I"⟩
def RX3 : String := "PageLevels$Shelf"
def TX3 : u_T := fun k => match k with
  | 0 => ("PageLevels$Shelf", "sort", "I", false)
  | 1 => ("PageLevels$Shelf", "shownLevel", "I", false)
  | 2 => ("PageLevels$Shelf", "length", "I", false)
  | _ => ("PageLevels$Shelf", "elements", "[J", true)
def tyX3 : Nat → FieldType := fun k => match k with
  | 0 => .int
  | 1 => .int
  | 2 => .int
  | _ => .array .long
abbrev wsX30 : List Cond := u_ws RX3 TX3 4
theorem nmX3 : ∀ a, a < 4 → ∀ b, b < 4 → a ≠ b → (TX3 a).2.1 ≠ (TX3 b).2.1 := by decide +kernel
theorem tyX3_ok : ∀ k, k < 4 → parseFieldDescriptor (TX3 k).2.2.1 = some (tyX3 k) := by decide +kernel
abbrev cX3_init : ByteArray := prog_5_method_1_code
def yX3_init : MethodName := ⟨RX3, "<init>", "()V"⟩
abbrev cX3_isRow : ByteArray := prog_5_method_2_code
def yX3_isRow : MethodName := ⟨RX3, "isRow", "()Z"⟩
abbrev cX3_isRule : ByteArray := prog_5_method_3_code
def yX3_isRule : MethodName := ⟨RX3, "isRule", "()Z"⟩
abbrev cX3_holdNothing : ByteArray := prog_5_method_4_code
def yX3_holdNothing : MethodName := ⟨RX3, "holdNothing", "()V"⟩
abbrev cX3_holdRule : ByteArray := prog_5_method_5_code
def yX3_holdRule : MethodName := ⟨RX3, "holdRule", "(I)V"⟩
abbrev cX3_holdRow : ByteArray := prog_5_method_6_code
def yX3_holdRow : MethodName := ⟨RX3, "holdRow", "(II)V"⟩
abbrev cX3_hasElement : ByteArray := prog_5_method_7_code
def yX3_hasElement : MethodName := ⟨RX3, "hasElement", "(I)Z"⟩
abbrev cX3_hasElements : ByteArray := prog_5_method_8_code
def yX3_hasElements : MethodName := ⟨RX3, "hasElements", "(II)Z"⟩
abbrev cX3_elementAt : ByteArray := prog_5_method_9_code
def yX3_elementAt : MethodName := ⟨RX3, "elementAt", "(I)J"⟩
abbrev cX3_putElement : ByteArray := prog_5_method_10_code
def yX3_putElement : MethodName := ⟨RX3, "putElement", "(IJ)V"⟩
abbrev cX3_lowestBits : ByteArray := prog_5_method_11_code
def yX3_lowestBits : MethodName := ⟨RX3, "lowestBits", "(J)J"⟩
def RX4 : String := "PageLevels$Store"
def TX4 : u_T := fun k => match k with
  | 0 => ("PageLevels$Store", "levels", "[LPageLevels$Level;", true)
  | 1 => ("PageLevels$Store", "count", "I", false)
  | 2 => ("PageLevels$Store", "memory", "[I", true)
  | 3 => ("PageLevels$Store", "memoryCost", "I", false)
  | 4 => ("PageLevels$Store", "mode", "I", false)
  | 5 => ("PageLevels$Store", "writes", "I", false)
  | 6 => ("PageLevels$Store", "ahead", "I", false)
  | 7 => ("PageLevels$Store", "turn", "I", false)
  | 8 => ("PageLevels$Store", "run", "I", false)
  | 9 => ("PageLevels$Store", "runPage", "I", false)
  | 10 => ("PageLevels$Store", "fetched", "I", false)
  | 11 => ("PageLevels$Store", "toMemory", "I", false)
  | 12 => ("PageLevels$Store", "allCost", "I", false)
  | 13 => ("PageLevels$Store", "placedInAll", "I", false)
  | 14 => ("PageLevels$Store", "draws", "LPageLevels$Draws;", true)
  | 15 => ("PageLevels$Store", "history", "LPageLevels$History;", true)
  | 16 => ("PageLevels$Store", "from", "I", false)
  | _ => ("PageLevels$Store", "got", "I", false)
def tyX4 : Nat → FieldType := fun k => match k with
  | 0 => .array (.object "PageLevels$Level")
  | 1 => .int
  | 2 => .array .int
  | 3 => .int
  | 4 => .int
  | 5 => .int
  | 6 => .int
  | 7 => .int
  | 8 => .int
  | 9 => .int
  | 10 => .int
  | 11 => .int
  | 12 => .int
  | 13 => .int
  | 14 => .object "PageLevels$Draws"
  | 15 => .object "PageLevels$History"
  | 16 => .int
  | _ => .int
abbrev wsX40 : List Cond := u_ws RX4 TX4 18
theorem nmX4 : ∀ a, a < 18 → ∀ b, b < 18 → a ≠ b → (TX4 a).2.1 ≠ (TX4 b).2.1 := by decide +kernel
theorem tyX4_ok : ∀ k, k < 18 → parseFieldDescriptor (TX4 k).2.2.1 = some (tyX4 k) := by decide +kernel
abbrev cX4_init : ByteArray := prog_6_method_1_code
def yX4_init : MethodName := ⟨RX4, "<init>", "()V"⟩
abbrev cX4_takeFrom : ByteArray := prog_6_method_2_code
def yX4_takeFrom : MethodName := ⟨RX4, "takeFrom", "(LPageLevels$Store;)V"⟩
abbrev cX4_levelAt : ByteArray := prog_6_method_3_code
def yX4_levelAt : MethodName := ⟨RX4, "levelAt", "(I)LPageLevels$Level;"⟩
abbrev cX4_inMemory : ByteArray := prog_6_method_4_code
def yX4_inMemory : MethodName := ⟨RX4, "inMemory", "(I)I"⟩
abbrev cX4_putInMemory : ByteArray := prog_6_method_5_code
def yX4_putInMemory : MethodName := ⟨RX4, "putInMemory", "(II)V"⟩
abbrev cX4_access : ByteArray := prog_6_method_6_code
def yX4_access : MethodName := ⟨RX4, "access", "(IZI)I"⟩
abbrev cX4_lookFor : ByteArray := prog_6_method_7_code
def yX4_lookFor : MethodName := ⟨RX4, "lookFor", "(I)I"⟩
abbrev cX4_leaveToComeNear : ByteArray := prog_6_method_8_code
def yX4_leaveToComeNear : MethodName := ⟨RX4, "leaveToComeNear", "(I)Z"⟩
abbrev cX4_farthestToHold : ByteArray := prog_6_method_9_code
def yX4_farthestToHold : MethodName := ⟨RX4, "farthestToHold", "()I"⟩
abbrev cX4_putValue : ByteArray := prog_6_method_10_code
def yX4_putValue : MethodName := ⟨RX4, "putValue", "(II)V"⟩
abbrev cX4_runOn : ByteArray := prog_6_method_11_code
def yX4_runOn : MethodName := ⟨RX4, "runOn", "(I)I"⟩
abbrev cX4_placeInto : ByteArray := prog_6_method_12_code
def yX4_placeInto : MethodName := ⟨RX4, "placeInto", "(LPageLevels$Store;IIIZ)V"⟩
abbrev cX4_victimOf : ByteArray := prog_6_method_13_code
def yX4_victimOf : MethodName := ⟨RX4, "victimOf", "(LPageLevels$Level;)I"⟩
abbrev cX4_flushVictim : ByteArray := prog_6_method_14_code
def yX4_flushVictim : MethodName := ⟨RX4, "flushVictim", "(II)V"⟩
abbrev cX4_nearestDirty : ByteArray := prog_6_method_15_code
def yX4_nearestDirty : MethodName := ⟨RX4, "nearestDirty", "(III)LPageLevels$Level;"⟩
abbrev cX4_flush : ByteArray := prog_6_method_16_code
def yX4_flush : MethodName := ⟨RX4, "flush", "(III)V"⟩
abbrev cX4_sweepLevel : ByteArray := prog_6_method_17_code
def yX4_sweepLevel : MethodName := ⟨RX4, "sweepLevel", "(I)I"⟩
abbrev cX4_sweepOut : ByteArray := prog_6_method_18_code
def yX4_sweepOut : MethodName := ⟨RX4, "sweepOut", "()V"⟩
abbrev cX4_levelsWith : ByteArray := prog_6_method_19_code
def yX4_levelsWith : MethodName := ⟨RX4, "levelsWith", "(I)I"⟩
abbrev cX4_pagesIn : ByteArray := prog_6_method_20_code
def yX4_pagesIn : MethodName := ⟨RX4, "pagesIn", "(I)J"⟩
abbrev cX4_flushedInAll : ByteArray := prog_6_method_21_code
def yX4_flushedInAll : MethodName := ⟨RX4, "flushedInAll", "()I"⟩
abbrev cX4_differs : ByteArray := prog_6_method_22_code
def yX4_differs : MethodName := ⟨RX4, "differs", "(II)Z"⟩
abbrev cX4_nearestWith : ByteArray := prog_6_method_23_code
def yX4_nearestWith : MethodName := ⟨RX4, "nearestWith", "(I)LPageLevels$Level;"⟩
abbrev cX4_keepsMode : ByteArray := prog_6_method_24_code
def yX4_keepsMode : MethodName := ⟨RX4, "keepsMode", "()Z"⟩
def RX5 : String := "PageLevels$Tape"
def TX5 : u_T := fun k => match k with
  | 0 => ("PageLevels$Tape", "size", "I", false)
  | 1 => ("PageLevels$Tape", "parts", "I", false)
  | 2 => ("PageLevels$Tape", "bytes", "[I", true)
  | 3 => ("PageLevels$Tape", "letters", "[I", true)
  | 4 => ("PageLevels$Tape", "numbers", "[I", true)
  | 5 => ("PageLevels$Tape", "values", "[I", true)
  | 6 => ("PageLevels$Tape", "at", "I", false)
  | _ => ("PageLevels$Tape", "number", "I", false)
def tyX5 : Nat → FieldType := fun k => match k with
  | 0 => .int
  | 1 => .int
  | 2 => .array .int
  | 3 => .array .int
  | 4 => .array .int
  | 5 => .array .int
  | 6 => .int
  | _ => .int
abbrev wsX50 : List Cond := u_ws RX5 TX5 8
theorem nmX5 : ∀ a, a < 8 → ∀ b, b < 8 → a ≠ b → (TX5 a).2.1 ≠ (TX5 b).2.1 := by decide +kernel
theorem tyX5_ok : ∀ k, k < 8 → parseFieldDescriptor (TX5 k).2.2.1 = some (tyX5 k) := by decide +kernel
abbrev cX5_init : ByteArray := prog_7_method_1_code
def yX5_init : MethodName := ⟨RX5, "<init>", "()V"⟩
abbrev cX5_isFull : ByteArray := prog_7_method_2_code
def yX5_isFull : MethodName := ⟨RX5, "isFull", "()Z"⟩
abbrev cX5_append : ByteArray := prog_7_method_3_code
def yX5_append : MethodName := ⟨RX5, "append", "(I)V"⟩
abbrev cX5_letterOf : ByteArray := prog_7_method_4_code
def yX5_letterOf : MethodName := ⟨RX5, "letterOf", "(I)I"⟩
abbrev cX5_numberOf : ByteArray := prog_7_method_5_code
def yX5_numberOf : MethodName := ⟨RX5, "numberOf", "(I)I"⟩
abbrev cX5_valueOf : ByteArray := prog_7_method_6_code
def yX5_valueOf : MethodName := ⟨RX5, "valueOf", "(I)I"⟩
abbrev cX5_findFault : ByteArray := prog_7_method_7_code
def yX5_findFault : MethodName := ⟨RX5, "findFault", "(I)I"⟩
abbrev cX5_byteHere : ByteArray := prog_7_method_8_code
def yX5_byteHere : MethodName := ⟨RX5, "byteHere", "()I"⟩
abbrev cX5_readPart : ByteArray := prog_7_method_9_code
def yX5_readPart : MethodName := ⟨RX5, "readPart", "(I)Z"⟩
abbrev cX5_mostBehind : ByteArray := prog_7_method_10_code
def yX5_mostBehind : MethodName := ⟨RX5, "mostBehind", "(II)I"⟩
abbrev cX5_readValue : ByteArray := prog_7_method_11_code
def yX5_readValue : MethodName := ⟨RX5, "readValue", "()Z"⟩
abbrev cX5_readNumber : ByteArray := prog_7_method_12_code
def yX5_readNumber : MethodName := ⟨RX5, "readNumber", "(II)Z"⟩
def RX6 : String := "PageLevels"
def TX6 : u_T := fun k => match k with
  | 0 => ("PageLevels", "now", "LPageLevels$Store;", true)
  | 1 => ("PageLevels", "thought", "LPageLevels$Store;", true)
  | 2 => ("PageLevels", "imaged", "LPageLevels$Store;", true)
  | 3 => ("PageLevels", "hasImage", "Z", false)
  | 4 => ("PageLevels", "tape", "LPageLevels$Tape;", true)
  | 5 => ("PageLevels", "shelves", "[LPageLevels$Shelf;", true)
  | 6 => ("PageLevels", "refusals", "[I", true)
  | _ => ("PageLevels", "told", "[I", true)
def tyX6 : Nat → FieldType := fun k => match k with
  | 0 => .object "PageLevels$Store"
  | 1 => .object "PageLevels$Store"
  | 2 => .object "PageLevels$Store"
  | 3 => .boolean
  | 4 => .object "PageLevels$Tape"
  | 5 => .array (.object "PageLevels$Shelf")
  | 6 => .array .int
  | _ => .array .int
abbrev wsX60 : List Cond := u_ws RX6 TX6 8
theorem nmX6 : ∀ a, a < 8 → ∀ b, b < 8 → a ≠ b → (TX6 a).2.1 ≠ (TX6 b).2.1 := by decide +kernel
theorem tyX6_ok : ∀ k, k < 8 → parseFieldDescriptor (TX6 k).2.2.1 = some (tyX6 k) := by decide +kernel
abbrev cX6_init : ByteArray := prog_1_method_1_code
def yX6_init : MethodName := ⟨RX6, "<init>", "()V"⟩
abbrev cX6_row : ByteArray := prog_1_method_2_code
def yX6_row : MethodName := ⟨RX6, "row", "(III)I"⟩
abbrev cX6_set : ByteArray := prog_1_method_3_code
def yX6_set : MethodName := ⟨RX6, "set", "(IIJ)I"⟩
abbrev cX6_copy : ByteArray := prog_1_method_4_code
def yX6_copy : MethodName := ⟨RX6, "copy", "(IIIII)I"⟩
abbrev cX6_element : ByteArray := prog_1_method_5_code
def yX6_element : MethodName := ⟨RX6, "element", "(II)J"⟩
abbrev cX6_holds : ByteArray := prog_1_method_6_code
def yX6_holds : MethodName := ⟨RX6, "holds", "(I)I"⟩
abbrev cX6_show : ByteArray := prog_1_method_7_code
def yX6_show : MethodName := ⟨RX6, "show", "(II)I"⟩
abbrev cX6_says : ByteArray := prog_1_method_8_code
def yX6_says : MethodName := ⟨RX6, "says", "(II)I"⟩
abbrev cX6_feed : ByteArray := prog_1_method_9_code
def yX6_feed : MethodName := ⟨RX6, "feed", "(I)I"⟩
abbrev cX6_wipe : ByteArray := prog_1_method_10_code
def yX6_wipe : MethodName := ⟨RX6, "wipe", "()I"⟩
abbrev cX6_traffic : ByteArray := prog_1_method_11_code
def yX6_traffic : MethodName := ⟨RX6, "traffic", "()I"⟩
abbrev cX6_doPart : ByteArray := prog_1_method_12_code
def yX6_doPart : MethodName := ⟨RX6, "doPart", "(I)I"⟩
abbrev cX6_level : ByteArray := prog_1_method_13_code
def yX6_level : MethodName := ⟨RX6, "level", "(III)I"⟩
abbrev cX6_drop : ByteArray := prog_1_method_14_code
def yX6_drop : MethodName := ⟨RX6, "drop", "()I"⟩
abbrev cX6_forgetRules : ByteArray := prog_1_method_15_code
def yX6_forgetRules : MethodName := ⟨RX6, "forgetRules", "()V"⟩
abbrev cX6_mode : ByteArray := prog_1_method_16_code
def yX6_mode : MethodName := ⟨RX6, "mode", "(II)I"⟩
abbrev cX6_tell : ByteArray := prog_1_method_17_code
def yX6_tell : MethodName := ⟨RX6, "tell", "(II)I"⟩
abbrev cX6_read : ByteArray := prog_1_method_18_code
def yX6_read : MethodName := ⟨RX6, "read", "(I)I"⟩
abbrev cX6_write : ByteArray := prog_1_method_19_code
def yX6_write : MethodName := ⟨RX6, "write", "(II)I"⟩
abbrev cX6_sweep : ByteArray := prog_1_method_20_code
def yX6_sweep : MethodName := ⟨RX6, "sweep", "(I)I"⟩
abbrev cX6_clear : ByteArray := prog_1_method_21_code
def yX6_clear : MethodName := ⟨RX6, "clear", "()I"⟩
abbrev cX6_levelOf : ByteArray := prog_1_method_22_code
def yX6_levelOf : MethodName := ⟨RX6, "levelOf", "(II)I"⟩
abbrev cX6_slot : ByteArray := prog_1_method_23_code
def yX6_slot : MethodName := ⟨RX6, "slot", "(III)I"⟩
abbrev cX6_value : ByteArray := prog_1_method_24_code
def yX6_value : MethodName := ⟨RX6, "value", "(II)I"⟩
abbrev cX6_where : ByteArray := prog_1_method_25_code
def yX6_where : MethodName := ⟨RX6, "where", "(I)I"⟩
abbrev cX6_pages : ByteArray := prog_1_method_26_code
def yX6_pages : MethodName := ⟨RX6, "pages", "(I)J"⟩
abbrev cX6_differ : ByteArray := prog_1_method_27_code
def yX6_differ : MethodName := ⟨RX6, "differ", "(I)J"⟩
abbrev cX6_kept : ByteArray := prog_1_method_28_code
def yX6_kept : MethodName := ⟨RX6, "kept", "()I"⟩
abbrev cX6_would : ByteArray := prog_1_method_29_code
def yX6_would : MethodName := ⟨RX6, "would", "(II)I"⟩
abbrev cX6_plan : ByteArray := prog_1_method_30_code
def yX6_plan : MethodName := ⟨RX6, "plan", "(III)I"⟩
abbrev cX6_rule : ByteArray := prog_1_method_31_code
def yX6_rule : MethodName := ⟨RX6, "rule", "(III)I"⟩
abbrev cX6_size : ByteArray := prog_1_method_32_code
def yX6_size : MethodName := ⟨RX6, "size", "(IIII)I"⟩
abbrev cX6_modes : ByteArray := prog_1_method_33_code
def yX6_modes : MethodName := ⟨RX6, "modes", "(II)I"⟩
abbrev cX6_foresight : ByteArray := prog_1_method_34_code
def yX6_foresight : MethodName := ⟨RX6, "foresight", "(III)I"⟩
abbrev cX6_reuse : ByteArray := prog_1_method_35_code
def yX6_reuse : MethodName := ⟨RX6, "reuse", "(III)I"⟩
abbrev cX6_rowOf : ByteArray := prog_1_method_36_code
def yX6_rowOf : MethodName := ⟨RX6, "rowOf", "(III)I"⟩
abbrev cX6_judge : ByteArray := prog_1_method_37_code
def yX6_judge : MethodName := ⟨RX6, "judge", "(II)I"⟩
abbrev cX6_past : ByteArray := prog_1_method_38_code
def yX6_past : MethodName := ⟨RX6, "past", "(II)I"⟩
abbrev cX6_often : ByteArray := prog_1_method_39_code
def yX6_often : MethodName := ⟨RX6, "often", "(I)I"⟩
abbrev cX6_days : ByteArray := prog_1_method_40_code
def yX6_days : MethodName := ⟨RX6, "days", "(I)I"⟩
abbrev cX6_seed : ByteArray := prog_1_method_41_code
def yX6_seed : MethodName := ⟨RX6, "seed", "(I)I"⟩
abbrev cX6_image : ByteArray := prog_1_method_42_code
def yX6_image : MethodName := ⟨RX6, "image", "()I"⟩
abbrev cX6_back : ByteArray := prog_1_method_43_code
def yX6_back : MethodName := ⟨RX6, "back", "()I"⟩
abbrev cX6_status : ByteArray := prog_1_method_44_code
def yX6_status : MethodName := ⟨RX6, "status", "(I)I"⟩
abbrev cX6_isWithin : ByteArray := prog_1_method_45_code
def yX6_isWithin : MethodName := ⟨RX6, "isWithin", "(III)Z"⟩
abbrev cX6_isPage : ByteArray := prog_1_method_46_code
def yX6_isPage : MethodName := ⟨RX6, "isPage", "(I)Z"⟩
abbrev cX6_isUnder : ByteArray := prog_1_method_47_code
def yX6_isUnder : MethodName := ⟨RX6, "isUnder", "(II)Z"⟩
abbrev cX6_refuse : ByteArray := prog_1_method_48_code
def yX6_refuse : MethodName := ⟨RX6, "refuse", "(I)I"⟩
abbrev cX6_shelfAt : ByteArray := prog_1_method_49_code
def yX6_shelfAt : MethodName := ⟨RX6, "shelfAt", "(I)LPageLevels$Shelf;"⟩
abbrev cX6_fullShelves : ByteArray := prog_1_method_50_code
def yX6_fullShelves : MethodName := ⟨RX6, "fullShelves", "()I"⟩
abbrev cX6_rowRefusal : ByteArray := prog_1_method_51_code
def yX6_rowRefusal : MethodName := ⟨RX6, "rowRefusal", "(LPageLevels$Shelf;)I"⟩
abbrev cX6_hear : ByteArray := prog_1_method_52_code
def yX6_hear : MethodName := ⟨RX6, "hear", "(IIZ)I"⟩
abbrev cX6_listen : ByteArray := prog_1_method_53_code
def yX6_listen : MethodName := ⟨RX6, "listen", "(III)I"⟩
abbrev cX6_toldAt : ByteArray := prog_1_method_54_code
def yX6_toldAt : MethodName := ⟨RX6, "toldAt", "(I)I"⟩
abbrev cX6_thinkSweptOut : ByteArray := prog_1_method_55_code
def yX6_thinkSweptOut : MethodName := ⟨RX6, "thinkSweptOut", "()V"⟩
abbrev cX6_costInThought : ByteArray := prog_1_method_56_code
def yX6_costInThought : MethodName := ⟨RX6, "costInThought", "(I)I"⟩
abbrev cX6_pagesTold : ByteArray := prog_1_method_57_code
def yX6_pagesTold : MethodName := ⟨RX6, "pagesTold", "(II)J"⟩
abbrev cX6_reuseOf : ByteArray := prog_1_method_58_code
def yX6_reuseOf : MethodName := ⟨RX6, "reuseOf", "(I)I"⟩
abbrev cX6_greatestReuse : ByteArray := prog_1_method_59_code
def yX6_greatestReuse : MethodName := ⟨RX6, "greatestReuse", "(I)I"⟩
abbrev cX6_oftenestTold : ByteArray := prog_1_method_60_code
def yX6_oftenestTold : MethodName := ⟨RX6, "oftenestTold", "(I)I"⟩
abbrev cX6_hitsByForesight : ByteArray := prog_1_method_61_code
def yX6_hitsByForesight : MethodName := ⟨RX6, "hitsByForesight", "(II)I"⟩
abbrev cX6_toldLatest : ByteArray := prog_1_method_62_code
def yX6_toldLatest : MethodName := ⟨RX6, "toldLatest", "(JII)I"⟩
def RX7 : String := "PageLevelsModel"
def TX7 : u_T := fun k => match k with
  | 0 => ("PageLevelsModel", "now", "[I", true)
  | 1 => ("PageLevelsModel", "then", "[I", true)
  | 2 => ("PageLevelsModel", "ahead", "[I", true)
  | 3 => ("PageLevelsModel", "kept", "Z", false)
  | 4 => ("PageLevelsModel", "refused", "[I", true)
  | 5 => ("PageLevelsModel", "cost", "I", false)
  | 6 => ("PageLevelsModel", "had", "I", false)
  | 7 => ("PageLevelsModel", "tape", "[I", true)
  | 8 => ("PageLevelsModel", "length", "I", false)
  | 9 => ("PageLevelsModel", "place", "I", false)
  | 10 => ("PageLevelsModel", "fault", "I", false)
  | 11 => ("PageLevelsModel", "holding", "[I", true)
  | 12 => ("PageLevelsModel", "sizes", "[I", true)
  | 13 => ("PageLevelsModel", "items", "[J", true)
  | 14 => ("PageLevelsModel", "moved", "[J", true)
  | 15 => ("PageLevelsModel", "were", "[Z", true)
  | 16 => ("PageLevelsModel", "toldCost", "I", false)
  | 17 => ("PageLevelsModel", "toldHits", "I", false)
  | 18 => ("PageLevelsModel", "toldFar", "I", false)
  | _ => ("PageLevelsModel", "held", "[I", true)
def tyX7 : Nat → FieldType := fun k => match k with
  | 0 => .array .int
  | 1 => .array .int
  | 2 => .array .int
  | 3 => .boolean
  | 4 => .array .int
  | 5 => .int
  | 6 => .int
  | 7 => .array .int
  | 8 => .int
  | 9 => .int
  | 10 => .int
  | 11 => .array .int
  | 12 => .array .int
  | 13 => .array .long
  | 14 => .array .long
  | 15 => .array .boolean
  | 16 => .int
  | 17 => .int
  | 18 => .int
  | _ => .array .int
abbrev wsX70 : List Cond := u_ws RX7 TX7 20
theorem nmX7 : ∀ a, a < 20 → ∀ b, b < 20 → a ≠ b → (TX7 a).2.1 ≠ (TX7 b).2.1 := by decide +kernel
theorem tyX7_ok : ∀ k, k < 20 → parseFieldDescriptor (TX7 k).2.2.1 = some (tyX7 k) := by decide +kernel
abbrev cX7_init : ByteArray := prog_9_method_1_code
def yX7_init : MethodName := ⟨RX7, "<init>", "()V"⟩
abbrev cX7_isIn : ByteArray := prog_9_method_2_code
def yX7_isIn : MethodName := ⟨RX7, "isIn", "(JJJ)Z"⟩
abbrev cX7_pours : ByteArray := prog_9_method_3_code
def yX7_pours : MethodName := ⟨RX7, "pours", "([I[I)V"⟩
abbrev cX7_refuses : ByteArray := prog_9_method_4_code
def yX7_refuses : MethodName := ⟨RX7, "refuses", "(I)I"⟩
abbrev cX7_isPage : ByteArray := prog_9_method_5_code
def yX7_isPage : MethodName := ⟨RX7, "isPage", "(J)Z"⟩
abbrev cX7_isLevel : ByteArray := prog_9_method_6_code
def yX7_isLevel : MethodName := ⟨RX7, "isLevel", "(I)Z"⟩
abbrev cX7_at : ByteArray := prog_9_method_7_code
def yX7_at : MethodName := ⟨RX7, "at", "(II)I"⟩
abbrev cX7_slotAt : ByteArray := prog_9_method_8_code
def yX7_slotAt : MethodName := ⟨RX7, "slotAt", "(III)I"⟩
abbrev cX7_of : ByteArray := prog_9_method_9_code
def yX7_of : MethodName := ⟨RX7, "of", "(II)I"⟩
abbrev cX7_note : ByteArray := prog_9_method_10_code
def yX7_note : MethodName := ⟨RX7, "note", "(III)I"⟩
abbrev cX7_found : ByteArray := prog_9_method_11_code
def yX7_found : MethodName := ⟨RX7, "found", "(II)I"⟩
abbrev cX7_draw : ByteArray := prog_9_method_12_code
def yX7_draw : MethodName := ⟨RX7, "draw", "(I)I"⟩
abbrev cX7_noted : ByteArray := prog_9_method_13_code
def yX7_noted : MethodName := ⟨RX7, "noted", "(I)I"⟩
abbrev cX7_victim : ByteArray := prog_9_method_14_code
def yX7_victim : MethodName := ⟨RX7, "victim", "(I)I"⟩
abbrev cX7_flushes : ByteArray := prog_9_method_15_code
def yX7_flushes : MethodName := ⟨RX7, "flushes", "(III)V"⟩
abbrev cX7_empties : ByteArray := prog_9_method_16_code
def yX7_empties : MethodName := ⟨RX7, "empties", "(II)V"⟩
abbrev cX7_goesOut : ByteArray := prog_9_method_17_code
def yX7_goesOut : MethodName := ⟨RX7, "goesOut", "(II)V"⟩
abbrev cX7_places : ByteArray := prog_9_method_18_code
def yX7_places : MethodName := ⟨RX7, "places", "(IIII)V"⟩
abbrev cX7_looks : ByteArray := prog_9_method_19_code
def yX7_looks : MethodName := ⟨RX7, "looks", "(I)I"⟩
abbrev cX7_isAnywhere : ByteArray := prog_9_method_20_code
def yX7_isAnywhere : MethodName := ⟨RX7, "isAnywhere", "(I)Z"⟩
abbrev cX7_follows : ByteArray := prog_9_method_21_code
def yX7_follows : MethodName := ⟨RX7, "follows", "(II)V"⟩
abbrev cX7_reads : ByteArray := prog_9_method_22_code
def yX7_reads : MethodName := ⟨RX7, "reads", "(I)I"⟩
abbrev cX7_writes : ByteArray := prog_9_method_23_code
def yX7_writes : MethodName := ⟨RX7, "writes", "(II)I"⟩
abbrev cX7_sweeps : ByteArray := prog_9_method_24_code
def yX7_sweeps : MethodName := ⟨RX7, "sweeps", "(I)I"⟩
abbrev cX7_sweepsOut : ByteArray := prog_9_method_25_code
def yX7_sweepsOut : MethodName := ⟨RX7, "sweepsOut", "()V"⟩
abbrev cX7_level : ByteArray := prog_9_method_26_code
def yX7_level : MethodName := ⟨RX7, "level", "(III)I"⟩
abbrev cX7_drop : ByteArray := prog_9_method_27_code
def yX7_drop : MethodName := ⟨RX7, "drop", "()I"⟩
abbrev cX7_mode : ByteArray := prog_9_method_28_code
def yX7_mode : MethodName := ⟨RX7, "mode", "(II)I"⟩
abbrev cX7_tell : ByteArray := prog_9_method_29_code
def yX7_tell : MethodName := ⟨RX7, "tell", "(II)I"⟩
abbrev cX7_read : ByteArray := prog_9_method_30_code
def yX7_read : MethodName := ⟨RX7, "read", "(I)I"⟩
abbrev cX7_write : ByteArray := prog_9_method_31_code
def yX7_write : MethodName := ⟨RX7, "write", "(II)I"⟩
abbrev cX7_sweep : ByteArray := prog_9_method_32_code
def yX7_sweep : MethodName := ⟨RX7, "sweep", "(I)I"⟩
abbrev cX7_manyPages : ByteArray := prog_9_method_33_code
def yX7_manyPages : MethodName := ⟨RX7, "manyPages", "()I"⟩
abbrev cX7_clear : ByteArray := prog_9_method_34_code
def yX7_clear : MethodName := ⟨RX7, "clear", "()I"⟩
abbrev cX7_feed : ByteArray := prog_9_method_35_code
def yX7_feed : MethodName := ⟨RX7, "feed", "(I)I"⟩
abbrev cX7_wipe : ByteArray := prog_9_method_36_code
def yX7_wipe : MethodName := ⟨RX7, "wipe", "()I"⟩
abbrev cX7_peek : ByteArray := prog_9_method_37_code
def yX7_peek : MethodName := ⟨RX7, "peek", "()I"⟩
abbrev cX7_wrong : ByteArray := prog_9_method_38_code
def yX7_wrong : MethodName := ⟨RX7, "wrong", "(I)V"⟩
abbrev cX7_number : ByteArray := prog_9_method_39_code
def yX7_number : MethodName := ⟨RX7, "number", "(II)I"⟩
abbrev cX7_part : ByteArray := prog_9_method_40_code
def yX7_part : MethodName := ⟨RX7, "part", "(Z)I"⟩
abbrev cX7_parts : ByteArray := prog_9_method_41_code
def yX7_parts : MethodName := ⟨RX7, "parts", "(Z)I"⟩
abbrev cX7_traffic : ByteArray := prog_9_method_42_code
def yX7_traffic : MethodName := ⟨RX7, "traffic", "()I"⟩
abbrev cX7_isShelf : ByteArray := prog_9_method_43_code
def yX7_isShelf : MethodName := ⟨RX7, "isShelf", "(I)Z"⟩
abbrev cX7_row : ByteArray := prog_9_method_44_code
def yX7_row : MethodName := ⟨RX7, "row", "(III)I"⟩
abbrev cX7_amiss : ByteArray := prog_9_method_45_code
def yX7_amiss : MethodName := ⟨RX7, "amiss", "(I)I"⟩
abbrev cX7_set : ByteArray := prog_9_method_46_code
def yX7_set : MethodName := ⟨RX7, "set", "(IIJ)I"⟩
abbrev cX7_copy : ByteArray := prog_9_method_47_code
def yX7_copy : MethodName := ⟨RX7, "copy", "(IIIII)I"⟩
abbrev cX7_element : ByteArray := prog_9_method_48_code
def yX7_element : MethodName := ⟨RX7, "element", "(II)J"⟩
abbrev cX7_holds : ByteArray := prog_9_method_49_code
def yX7_holds : MethodName := ⟨RX7, "holds", "(I)I"⟩
abbrev cX7_show : ByteArray := prog_9_method_50_code
def yX7_show : MethodName := ⟨RX7, "show", "(II)I"⟩
abbrev cX7_isUnder : ByteArray := prog_9_method_51_code
def yX7_isUnder : MethodName := ⟨RX7, "isUnder", "(II)Z"⟩
abbrev cX7_extreme : ByteArray := prog_9_method_52_code
def yX7_extreme : MethodName := ⟨RX7, "extreme", "(III)I"⟩
abbrev cX7_says : ByteArray := prog_9_method_53_code
def yX7_says : MethodName := ⟨RX7, "says", "(II)I"⟩
abbrev cX7_levelOf : ByteArray := prog_9_method_54_code
def yX7_levelOf : MethodName := ⟨RX7, "levelOf", "(II)I"⟩
abbrev cX7_slot : ByteArray := prog_9_method_55_code
def yX7_slot : MethodName := ⟨RX7, "slot", "(III)I"⟩
abbrev cX7_value : ByteArray := prog_9_method_56_code
def yX7_value : MethodName := ⟨RX7, "value", "(II)I"⟩
abbrev cX7_where : ByteArray := prog_9_method_57_code
def yX7_where : MethodName := ⟨RX7, "where", "(I)I"⟩
abbrev cX7_pages : ByteArray := prog_9_method_58_code
def yX7_pages : MethodName := ⟨RX7, "pages", "(I)J"⟩
abbrev cX7_in : ByteArray := prog_9_method_59_code
def yX7_in : MethodName := ⟨RX7, "in", "(I)I"⟩
abbrev cX7_isDiffering : ByteArray := prog_9_method_60_code
def yX7_isDiffering : MethodName := ⟨RX7, "isDiffering", "(II)Z"⟩
abbrev cX7_differ : ByteArray := prog_9_method_61_code
def yX7_differ : MethodName := ⟨RX7, "differ", "(I)J"⟩
abbrev cX7_kept : ByteArray := prog_9_method_62_code
def yX7_kept : MethodName := ⟨RX7, "kept", "()I"⟩
abbrev cX7_flushedAll : ByteArray := prog_9_method_63_code
def yX7_flushedAll : MethodName := ⟨RX7, "flushedAll", "()I"⟩
abbrev cX7_would : ByteArray := prog_9_method_64_code
def yX7_would : MethodName := ⟨RX7, "would", "(II)I"⟩
abbrev cX7_wrongRow : ByteArray := prog_9_method_65_code
def yX7_wrongRow : MethodName := ⟨RX7, "wrongRow", "(III)I"⟩
abbrev cX7_readsRow : ByteArray := prog_9_method_66_code
def yX7_readsRow : MethodName := ⟨RX7, "readsRow", "(II)V"⟩
abbrev cX7_plan : ByteArray := prog_9_method_67_code
def yX7_plan : MethodName := ⟨RX7, "plan", "(III)I"⟩
abbrev cX7_costWith : ByteArray := prog_9_method_68_code
def yX7_costWith : MethodName := ⟨RX7, "costWith", "(IIII)I"⟩
abbrev cX7_rule : ByteArray := prog_9_method_69_code
def yX7_rule : MethodName := ⟨RX7, "rule", "(III)I"⟩
abbrev cX7_size : ByteArray := prog_9_method_70_code
def yX7_size : MethodName := ⟨RX7, "size", "(IIII)I"⟩
abbrev cX7_modes : ByteArray := prog_9_method_71_code
def yX7_modes : MethodName := ⟨RX7, "modes", "(II)I"⟩
abbrev cX7_nextRead : ByteArray := prog_9_method_72_code
def yX7_nextRead : MethodName := ⟨RX7, "nextRead", "(IIII)I"⟩
abbrev cX7_foresight : ByteArray := prog_9_method_73_code
def yX7_foresight : MethodName := ⟨RX7, "foresight", "(III)I"⟩
abbrev cX7_reused : ByteArray := prog_9_method_74_code
def yX7_reused : MethodName := ⟨RX7, "reused", "(II)I"⟩
abbrev cX7_unlike : ByteArray := prog_9_method_75_code
def yX7_unlike : MethodName := ⟨RX7, "unlike", "(III)I"⟩
abbrev cX7_reuse : ByteArray := prog_9_method_76_code
def yX7_reuse : MethodName := ⟨RX7, "reuse", "(III)I"⟩
abbrev cX7_rowOf : ByteArray := prog_9_method_77_code
def yX7_rowOf : MethodName := ⟨RX7, "rowOf", "(III)I"⟩
abbrev cX7_judge : ByteArray := prog_9_method_78_code
def yX7_judge : MethodName := ⟨RX7, "judge", "(II)I"⟩
abbrev cX7_past : ByteArray := prog_9_method_79_code
def yX7_past : MethodName := ⟨RX7, "past", "(II)I"⟩
abbrev cX7_often : ByteArray := prog_9_method_80_code
def yX7_often : MethodName := ⟨RX7, "often", "(I)I"⟩
abbrev cX7_days : ByteArray := prog_9_method_81_code
def yX7_days : MethodName := ⟨RX7, "days", "(I)I"⟩
abbrev cX7_seed : ByteArray := prog_9_method_82_code
def yX7_seed : MethodName := ⟨RX7, "seed", "(I)I"⟩
abbrev cX7_image : ByteArray := prog_9_method_83_code
def yX7_image : MethodName := ⟨RX7, "image", "()I"⟩
abbrev cX7_back : ByteArray := prog_9_method_84_code
def yX7_back : MethodName := ⟨RX7, "back", "()I"⟩
abbrev cX7_status : ByteArray := prog_9_method_85_code
def yX7_status : MethodName := ⟨RX7, "status", "(I)I"⟩
def RJ6 : String := "java/lang/Integer"
def TJ6 : u_T := fun k => match k with
  | _ => ("", "", "", false)
def tyJ6 : Nat → FieldType := fun k => match k with
  | _ => .int
abbrev wsJ60 : List Cond := u_ws RJ6 TJ6 0
theorem nmJ6 : ∀ a, a < 0 → ∀ b, b < 0 → a ≠ b → (TJ6 a).2.1 ≠ (TJ6 b).2.1 := by decide +kernel
theorem tyJ6_ok : ∀ k, k < 0 → parseFieldDescriptor (TJ6 k).2.2.1 = some (tyJ6 k) := by decide +kernel
abbrev cJ6_bitCount_0f7a4 : ByteArray := prog_10_method_49_code
def yJ6_bitCount_0f7a4 : MethodName := ⟨RJ6, "bitCount", "(I)I"⟩
def RJ13 : String := "java/lang/Long"
def TJ13 : u_T := fun k => match k with
  | _ => ("", "", "", false)
def tyJ13 : Nat → FieldType := fun k => match k with
  | _ => .int
abbrev wsJ130 : List Cond := u_ws RJ13 TJ13 0
theorem nmJ13 : ∀ a, a < 0 → ∀ b, b < 0 → a ≠ b → (TJ13 a).2.1 ≠ (TJ13 b).2.1 := by decide +kernel
theorem tyJ13_ok : ∀ k, k < 0 → parseFieldDescriptor (TJ13 k).2.2.1 = some (tyJ13 k) := by decide +kernel
abbrev cJ13_bitCount_95d88 : ByteArray := prog_11_method_50_code
def yJ13_bitCount_95d88 : MethodName := ⟨RJ13, "bitCount", "(J)I"⟩
def RJ9 : String := "java/lang/Math"
def TJ9 : u_T := fun k => match k with
  | _ => ("", "", "", false)
def tyJ9 : Nat → FieldType := fun k => match k with
  | _ => .int
abbrev wsJ90 : List Cond := u_ws RJ9 TJ9 0
theorem nmJ9 : ∀ a, a < 0 → ∀ b, b < 0 → a ≠ b → (TJ9 a).2.1 ≠ (TJ9 b).2.1 := by decide +kernel
theorem tyJ9_ok : ∀ k, k < 0 → parseFieldDescriptor (TJ9 k).2.2.1 = some (tyJ9 k) := by decide +kernel
abbrev cJ9_floorMod_7cf53 : ByteArray := prog_12_method_50_code
def yJ9_floorMod_7cf53 : MethodName := ⟨RJ9, "floorMod", "(II)I"⟩
abbrev cJ9_max_7cf53 : ByteArray := prog_12_method_65_code
def yJ9_max_7cf53 : MethodName := ⟨RJ9, "max", "(II)I"⟩
abbrev cJ9_min_7cf53 : ByteArray := prog_12_method_69_code
def yJ9_min_7cf53 : MethodName := ⟨RJ9, "min", "(II)I"⟩
def RJ10 : String := "java/lang/System"
def TJ10 : u_T := fun k => match k with
  | _ => ("", "", "", false)
def tyJ10 : Nat → FieldType := fun k => match k with
  | _ => .int
abbrev wsJ100 : List Cond := u_ws RJ10 TJ10 0
theorem nmJ10 : ∀ a, a < 0 → ∀ b, b < 0 → a ≠ b → (TJ10 a).2.1 ≠ (TJ10 b).2.1 := by decide +kernel
theorem tyJ10_ok : ∀ k, k < 0 → parseFieldDescriptor (TJ10 k).2.2.1 = some (tyJ10 k) := by decide +kernel
def RL : String := "PageLevelsLaw"
abbrev cL_law : ByteArray := code
def yL_law : MethodName := ⟨RL, "law", "([I)Z"⟩
abbrev vwCl : List vw_C := [(RX0, TX0, 2), (RX1, TX1, 5), (RX2, TX2, 19), (RX3, TX3, 4), (RX4, TX4, 18), (RX5, TX5, 8), (RX6, TX6, 8), (RX7, TX7, 20)]
/-- the tables' words that are kept in every state: one list for all methods -/
def wsU : List Cond := lw_tbl.filter goodWord
theorem wsU_good : GoodIn wsU wsU := fun w hw => ⟨hw, good_of_word (List.mem_filter.mp hw).2⟩
theorem jm {w : Cond} (i : Nat) (h : lw_tbl[i]? = some w) (hg : goodWord w = true) : w ∈ wsU := List.mem_filter.mpr ⟨List.mem_of_getElem? h, hg⟩
