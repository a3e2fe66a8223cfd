section
-- ===== PART A: goes FIRST, ahead of the names: the tables' words, and 'selects' of the private methods out of them =====
/-- a private method of a class that the tables say can be made, by its rows of tables_1 -/
def lw_okq (q : MethodName × Nat) : Prop := (q.1.cls ≠ "java/lang/invoke/MethodHandle" ∧ q.1.cls ≠ "java/lang/invoke/VarHandle") ∧ Cond.instantiable q.1.cls q.2 ∈ tables_1 ∧ Cond.privateMethod q.1 ∈ tables_1 ∧ Cond.instanceMethod q.1 ∈ tables_1
theorem lw_p0 : lw_okq (⟨"Cardmeld", "sharesKey", "(II)Z"⟩, 15) := ⟨⟨by decide +kernel, by decide +kernel⟩, List.mem_of_getElem? (i := 20) (by decide +kernel), List.mem_of_getElem? (i := 205) (by decide +kernel), List.mem_of_getElem? (i := 206) (by decide +kernel)⟩
theorem lw_p1 : lw_okq (⟨"Cardmeld", "sharesNumber", "(III)Z"⟩, 15) := ⟨⟨by decide +kernel, by decide +kernel⟩, List.mem_of_getElem? (i := 20) (by decide +kernel), List.mem_of_getElem? (i := 209) (by decide +kernel), List.mem_of_getElem? (i := 210) (by decide +kernel)⟩
theorem lw_p2 : lw_okq (⟨"Cardmeld", "scoreOf", "(II)I"⟩, 15) := ⟨⟨by decide +kernel, by decide +kernel⟩, List.mem_of_getElem? (i := 20) (by decide +kernel), List.mem_of_getElem? (i := 233) (by decide +kernel), List.mem_of_getElem? (i := 234) (by decide +kernel)⟩
theorem lw_p3 : lw_okq (⟨"Cardmeld", "fieldScore", "(LCardmeld$Card;LCardmeld$Card;I)I"⟩, 15) := ⟨⟨by decide +kernel, by decide +kernel⟩, List.mem_of_getElem? (i := 20) (by decide +kernel), List.mem_of_getElem? (i := 237) (by decide +kernel), List.mem_of_getElem? (i := 238) (by decide +kernel)⟩
theorem lw_p4 : lw_okq (⟨"Cardmeld", "canBeMerged", "(II)Z"⟩, 15) := ⟨⟨by decide +kernel, by decide +kernel⟩, List.mem_of_getElem? (i := 20) (by decide +kernel), List.mem_of_getElem? (i := 244) (by decide +kernel), List.mem_of_getElem? (i := 245) (by decide +kernel)⟩
theorem lw_p5 : lw_okq (⟨"Cardmeld", "allCards", "()I"⟩, 15) := ⟨⟨by decide +kernel, by decide +kernel⟩, List.mem_of_getElem? (i := 20) (by decide +kernel), List.mem_of_getElem? (i := 264) (by decide +kernel), List.mem_of_getElem? (i := 265) (by decide +kernel)⟩
theorem lw_p6 : lw_okq (⟨"Cardmeld", "personsWith", "(I)I"⟩, 15) := ⟨⟨by decide +kernel, by decide +kernel⟩, List.mem_of_getElem? (i := 20) (by decide +kernel), List.mem_of_getElem? (i := 268) (by decide +kernel), List.mem_of_getElem? (i := 269) (by decide +kernel)⟩
theorem lw_p7 : lw_okq (⟨"Cardmeld", "matches", "(Z)I"⟩, 15) := ⟨⟨by decide +kernel, by decide +kernel⟩, List.mem_of_getElem? (i := 20) (by decide +kernel), List.mem_of_getElem? (i := 291) (by decide +kernel), List.mem_of_getElem? (i := 292) (by decide +kernel)⟩
theorem lw_p8 : lw_okq (⟨"Cardmeld", "requireRank", "(I)V"⟩, 15) := ⟨⟨by decide +kernel, by decide +kernel⟩, List.mem_of_getElem? (i := 20) (by decide +kernel), List.mem_of_getElem? (i := 305) (by decide +kernel), List.mem_of_getElem? (i := 306) (by decide +kernel)⟩
theorem lw_p9 : lw_okq (⟨"java/lang/Throwable", "fillInStackTrace", "(I)Ljava/lang/Throwable;"⟩, 6) := ⟨⟨by decide +kernel, by decide +kernel⟩, List.mem_of_getElem? (i := 349) (by decide +kernel), List.mem_of_getElem? (i := 347) (by decide +kernel), List.mem_of_getElem? (i := 348) (by decide +kernel)⟩
theorem lw_p10 : lw_okq (⟨"Cardmeld", "requireSource", "(I)V"⟩, 15) := ⟨⟨by decide +kernel, by decide +kernel⟩, List.mem_of_getElem? (i := 20) (by decide +kernel), List.mem_of_getElem? (i := 403) (by decide +kernel), List.mem_of_getElem? (i := 404) (by decide +kernel)⟩
theorem lw_p11 : lw_okq (⟨"Cardmeld", "requireCard", "(I)V"⟩, 15) := ⟨⟨by decide +kernel, by decide +kernel⟩, List.mem_of_getElem? (i := 20) (by decide +kernel), List.mem_of_getElem? (i := 438) (by decide +kernel), List.mem_of_getElem? (i := 439) (by decide +kernel)⟩
theorem lw_p12 : lw_okq (⟨"Cardmeld", "requireLetter", "(C)V"⟩, 15) := ⟨⟨by decide +kernel, by decide +kernel⟩, List.mem_of_getElem? (i := 20) (by decide +kernel), List.mem_of_getElem? (i := 443) (by decide +kernel), List.mem_of_getElem? (i := 444) (by decide +kernel)⟩
theorem lw_p13 : lw_okq (⟨"Cardmeld", "appendTo", "(LCardmeld$Name;C)I"⟩, 15) := ⟨⟨by decide +kernel, by decide +kernel⟩, List.mem_of_getElem? (i := 20) (by decide +kernel), List.mem_of_getElem? (i := 448) (by decide +kernel), List.mem_of_getElem? (i := 449) (by decide +kernel)⟩
theorem lw_p14 : lw_okq (⟨"Cardmeld$Name", "extendSound", "(C)V"⟩, 4) := ⟨⟨by decide +kernel, by decide +kernel⟩, List.mem_of_getElem? (i := 72) (by decide +kernel), List.mem_of_getElem? (i := 460) (by decide +kernel), List.mem_of_getElem? (i := 461) (by decide +kernel)⟩
theorem lw_p15 : lw_okq (⟨"Cardmeld", "requireNumberField", "(I)V"⟩, 15) := ⟨⟨by decide +kernel, by decide +kernel⟩, List.mem_of_getElem? (i := 20) (by decide +kernel), List.mem_of_getElem? (i := 478) (by decide +kernel), List.mem_of_getElem? (i := 479) (by decide +kernel)⟩
def lw_privs_1 : List (MethodName × Nat) := [(⟨"Cardmeld", "sharesKey", "(II)Z"⟩, 15), (⟨"Cardmeld", "sharesNumber", "(III)Z"⟩, 15), (⟨"Cardmeld", "scoreOf", "(II)I"⟩, 15), (⟨"Cardmeld", "fieldScore", "(LCardmeld$Card;LCardmeld$Card;I)I"⟩, 15), (⟨"Cardmeld", "canBeMerged", "(II)Z"⟩, 15), (⟨"Cardmeld", "allCards", "()I"⟩, 15), (⟨"Cardmeld", "personsWith", "(I)I"⟩, 15), (⟨"Cardmeld", "matches", "(Z)I"⟩, 15), (⟨"Cardmeld", "requireRank", "(I)V"⟩, 15), (⟨"java/lang/Throwable", "fillInStackTrace", "(I)Ljava/lang/Throwable;"⟩, 6), (⟨"Cardmeld", "requireSource", "(I)V"⟩, 15), (⟨"Cardmeld", "requireCard", "(I)V"⟩, 15), (⟨"Cardmeld", "requireLetter", "(C)V"⟩, 15), (⟨"Cardmeld", "appendTo", "(LCardmeld$Name;C)I"⟩, 15), (⟨"Cardmeld$Name", "extendSound", "(C)V"⟩, 4), (⟨"Cardmeld", "requireNumberField", "(I)V"⟩, 15)]
theorem lw_r1 : ∀ q ∈ lw_privs_1, lw_okq q := List.forall_mem_cons.mpr ⟨lw_p0, List.forall_mem_cons.mpr ⟨lw_p1, List.forall_mem_cons.mpr ⟨lw_p2, List.forall_mem_cons.mpr ⟨lw_p3, List.forall_mem_cons.mpr ⟨lw_p4, List.forall_mem_cons.mpr ⟨lw_p5, List.forall_mem_cons.mpr ⟨lw_p6, List.forall_mem_cons.mpr ⟨lw_p7, List.forall_mem_cons.mpr ⟨lw_p8, List.forall_mem_cons.mpr ⟨lw_p9, List.forall_mem_cons.mpr ⟨lw_p10, List.forall_mem_cons.mpr ⟨lw_p11, List.forall_mem_cons.mpr ⟨lw_p12, List.forall_mem_cons.mpr ⟨lw_p13, List.forall_mem_cons.mpr ⟨lw_p14, List.forall_mem_cons.mpr ⟨lw_p15, fun _ h => absurd h List.not_mem_nil⟩⟩⟩⟩⟩⟩⟩⟩⟩⟩⟩⟩⟩⟩⟩⟩
theorem lw_p16 : lw_okq (⟨"Cardmeld", "requireField", "(I)V"⟩, 15) := ⟨⟨by decide +kernel, by decide +kernel⟩, List.mem_of_getElem? (i := 20) (by decide +kernel), List.mem_of_getElem? (i := 537) (by decide +kernel), List.mem_of_getElem? (i := 538) (by decide +kernel)⟩
theorem lw_p17 : lw_okq (⟨"Cardmeld", "requireWeight", "(I)V"⟩, 15) := ⟨⟨by decide +kernel, by decide +kernel⟩, List.mem_of_getElem? (i := 20) (by decide +kernel), List.mem_of_getElem? (i := 542) (by decide +kernel), List.mem_of_getElem? (i := 543) (by decide +kernel)⟩
theorem lw_p18 : lw_okq (⟨"Cardmeld", "requireCards", "(II)V"⟩, 15) := ⟨⟨by decide +kernel, by decide +kernel⟩, List.mem_of_getElem? (i := 20) (by decide +kernel), List.mem_of_getElem? (i := 562) (by decide +kernel), List.mem_of_getElem? (i := 563) (by decide +kernel)⟩
theorem lw_p19 : lw_okq (⟨"Cardmeld", "requireTwo", "(II)V"⟩, 15) := ⟨⟨by decide +kernel, by decide +kernel⟩, List.mem_of_getElem? (i := 20) (by decide +kernel), List.mem_of_getElem? (i := 566) (by decide +kernel), List.mem_of_getElem? (i := 567) (by decide +kernel)⟩
theorem lw_p20 : lw_okq (⟨"Cardmeld", "findBestByKeys", "()V"⟩, 15) := ⟨⟨by decide +kernel, by decide +kernel⟩, List.mem_of_getElem? (i := 20) (by decide +kernel), List.mem_of_getElem? (i := 578) (by decide +kernel), List.mem_of_getElem? (i := 579) (by decide +kernel)⟩
theorem lw_p21 : lw_okq (⟨"Cardmeld", "gatherMates", "()V"⟩, 15) := ⟨⟨by decide +kernel, by decide +kernel⟩, List.mem_of_getElem? (i := 20) (by decide +kernel), List.mem_of_getElem? (i := 586) (by decide +kernel), List.mem_of_getElem? (i := 587) (by decide +kernel)⟩
theorem lw_p22 : lw_okq (⟨"Cardmeld$Buckets", "placeOf", "(I)I"⟩, 3) := ⟨⟨by decide +kernel, by decide +kernel⟩, List.mem_of_getElem? (i := 116) (by decide +kernel), List.mem_of_getElem? (i := 603) (by decide +kernel), List.mem_of_getElem? (i := 604) (by decide +kernel)⟩
theorem lw_p23 : lw_okq (⟨"Cardmeld", "offer", "(II)V"⟩, 15) := ⟨⟨by decide +kernel, by decide +kernel⟩, List.mem_of_getElem? (i := 20) (by decide +kernel), List.mem_of_getElem? (i := 611) (by decide +kernel), List.mem_of_getElem? (i := 612) (by decide +kernel)⟩
theorem lw_p24 : lw_okq (⟨"Cardmeld", "requireBest", "()V"⟩, 15) := ⟨⟨by decide +kernel, by decide +kernel⟩, List.mem_of_getElem? (i := 20) (by decide +kernel), List.mem_of_getElem? (i := 623) (by decide +kernel), List.mem_of_getElem? (i := 624) (by decide +kernel)⟩
theorem lw_p25 : lw_okq (⟨"Cardmeld", "findBestByPairs", "()V"⟩, 15) := ⟨⟨by decide +kernel, by decide +kernel⟩, List.mem_of_getElem? (i := 20) (by decide +kernel), List.mem_of_getElem? (i := 636) (by decide +kernel), List.mem_of_getElem? (i := 637) (by decide +kernel)⟩
theorem lw_p26 : lw_okq (⟨"Cardmeld", "isOnePerson", "(II)Z"⟩, 15) := ⟨⟨by decide +kernel, by decide +kernel⟩, List.mem_of_getElem? (i := 20) (by decide +kernel), List.mem_of_getElem? (i := 662) (by decide +kernel), List.mem_of_getElem? (i := 663) (by decide +kernel)⟩
theorem lw_p27 : lw_okq (⟨"Cardmeld", "barsBetween", "(II)I"⟩, 15) := ⟨⟨by decide +kernel, by decide +kernel⟩, List.mem_of_getElem? (i := 20) (by decide +kernel), List.mem_of_getElem? (i := 710) (by decide +kernel), List.mem_of_getElem? (i := 711) (by decide +kernel)⟩
theorem lw_p28 : lw_okq (⟨"Cardmeld", "requireBars", "(I)V"⟩, 15) := ⟨⟨by decide +kernel, by decide +kernel⟩, List.mem_of_getElem? (i := 20) (by decide +kernel), List.mem_of_getElem? (i := 721) (by decide +kernel), List.mem_of_getElem? (i := 722) (by decide +kernel)⟩
theorem lw_p29 : lw_okq (⟨"Cardmeld", "requireMerge", "(I)V"⟩, 15) := ⟨⟨by decide +kernel, by decide +kernel⟩, List.mem_of_getElem? (i := 20) (by decide +kernel), List.mem_of_getElem? (i := 770) (by decide +kernel), List.mem_of_getElem? (i := 771) (by decide +kernel)⟩
theorem lw_p30 : lw_okq (⟨"Cardmeld", "highestRanked", "(II)I"⟩, 15) := ⟨⟨by decide +kernel, by decide +kernel⟩, List.mem_of_getElem? (i := 20) (by decide +kernel), List.mem_of_getElem? (i := 836) (by decide +kernel), List.mem_of_getElem? (i := 837) (by decide +kernel)⟩
theorem lw_p31 : lw_okq (⟨"Cardmeld", "disagree", "(II)Z"⟩, 15) := ⟨⟨by decide +kernel, by decide +kernel⟩, List.mem_of_getElem? (i := 20) (by decide +kernel), List.mem_of_getElem? (i := 848) (by decide +kernel), List.mem_of_getElem? (i := 849) (by decide +kernel)⟩
def lw_privs_2 : List (MethodName × Nat) := [(⟨"Cardmeld", "requireField", "(I)V"⟩, 15), (⟨"Cardmeld", "requireWeight", "(I)V"⟩, 15), (⟨"Cardmeld", "requireCards", "(II)V"⟩, 15), (⟨"Cardmeld", "requireTwo", "(II)V"⟩, 15), (⟨"Cardmeld", "findBestByKeys", "()V"⟩, 15), (⟨"Cardmeld", "gatherMates", "()V"⟩, 15), (⟨"Cardmeld$Buckets", "placeOf", "(I)I"⟩, 3), (⟨"Cardmeld", "offer", "(II)V"⟩, 15), (⟨"Cardmeld", "requireBest", "()V"⟩, 15), (⟨"Cardmeld", "findBestByPairs", "()V"⟩, 15), (⟨"Cardmeld", "isOnePerson", "(II)Z"⟩, 15), (⟨"Cardmeld", "barsBetween", "(II)I"⟩, 15), (⟨"Cardmeld", "requireBars", "(I)V"⟩, 15), (⟨"Cardmeld", "requireMerge", "(I)V"⟩, 15), (⟨"Cardmeld", "highestRanked", "(II)I"⟩, 15), (⟨"Cardmeld", "disagree", "(II)Z"⟩, 15)]
theorem lw_r2 : ∀ q ∈ lw_privs_2, lw_okq q := List.forall_mem_cons.mpr ⟨lw_p16, List.forall_mem_cons.mpr ⟨lw_p17, List.forall_mem_cons.mpr ⟨lw_p18, List.forall_mem_cons.mpr ⟨lw_p19, List.forall_mem_cons.mpr ⟨lw_p20, List.forall_mem_cons.mpr ⟨lw_p21, List.forall_mem_cons.mpr ⟨lw_p22, List.forall_mem_cons.mpr ⟨lw_p23, List.forall_mem_cons.mpr ⟨lw_p24, List.forall_mem_cons.mpr ⟨lw_p25, List.forall_mem_cons.mpr ⟨lw_p26, List.forall_mem_cons.mpr ⟨lw_p27, List.forall_mem_cons.mpr ⟨lw_p28, List.forall_mem_cons.mpr ⟨lw_p29, List.forall_mem_cons.mpr ⟨lw_p30, List.forall_mem_cons.mpr ⟨lw_p31, fun _ h => absurd h List.not_mem_nil⟩⟩⟩⟩⟩⟩⟩⟩⟩⟩⟩⟩⟩⟩⟩⟩
theorem lw_p32 : lw_okq (⟨"Cardmeld", "requireGroup", "(I)V"⟩, 15) := ⟨⟨by decide +kernel, by decide +kernel⟩, List.mem_of_getElem? (i := 20) (by decide +kernel), List.mem_of_getElem? (i := 859) (by decide +kernel), List.mem_of_getElem? (i := 860) (by decide +kernel)⟩
theorem lw_p33 : lw_okq (⟨"CardmeldModel", "fail", "(I)I"⟩, 25) := ⟨⟨by decide +kernel, by decide +kernel⟩, List.mem_of_getElem? (i := 910) (by decide +kernel), List.mem_of_getElem? (i := 1003) (by decide +kernel), List.mem_of_getElem? (i := 1004) (by decide +kernel)⟩
theorem lw_p34 : lw_okq (⟨"CardmeldModel", "noCard", "(I)Z"⟩, 25) := ⟨⟨by decide +kernel, by decide +kernel⟩, List.mem_of_getElem? (i := 910) (by decide +kernel), List.mem_of_getElem? (i := 1023) (by decide +kernel), List.mem_of_getElem? (i := 1024) (by decide +kernel)⟩
theorem lw_p35 : lw_okq (⟨"CardmeldModel", "sounds", "(II[I)I"⟩, 25) := ⟨⟨by decide +kernel, by decide +kernel⟩, List.mem_of_getElem? (i := 910) (by decide +kernel), List.mem_of_getElem? (i := 1050) (by decide +kernel), List.mem_of_getElem? (i := 1051) (by decide +kernel)⟩
theorem lw_p36 : lw_okq (⟨"CardmeldModel", "noCards", "(II)Z"⟩, 25) := ⟨⟨by decide +kernel, by decide +kernel⟩, List.mem_of_getElem? (i := 910) (by decide +kernel), List.mem_of_getElem? (i := 1073) (by decide +kernel), List.mem_of_getElem? (i := 1074) (by decide +kernel)⟩
theorem lw_p37 : lw_okq (⟨"CardmeldModel", "scoreOf", "(II)I"⟩, 25) := ⟨⟨by decide +kernel, by decide +kernel⟩, List.mem_of_getElem? (i := 910) (by decide +kernel), List.mem_of_getElem? (i := 1077) (by decide +kernel), List.mem_of_getElem? (i := 1078) (by decide +kernel)⟩
theorem lw_p38 : lw_okq (⟨"CardmeldModel", "has", "(II)Z"⟩, 25) := ⟨⟨by decide +kernel, by decide +kernel⟩, List.mem_of_getElem? (i := 910) (by decide +kernel), List.mem_of_getElem? (i := 1081) (by decide +kernel), List.mem_of_getElem? (i := 1082) (by decide +kernel)⟩
theorem lw_p39 : lw_okq (⟨"CardmeldModel", "isSame", "(III)Z"⟩, 25) := ⟨⟨by decide +kernel, by decide +kernel⟩, List.mem_of_getElem? (i := 910) (by decide +kernel), List.mem_of_getElem? (i := 1085) (by decide +kernel), List.mem_of_getElem? (i := 1086) (by decide +kernel)⟩
theorem lw_p40 : lw_okq (⟨"CardmeldModel", "isSameSound", "(IIII)Z"⟩, 25) := ⟨⟨by decide +kernel, by decide +kernel⟩, List.mem_of_getElem? (i := 910) (by decide +kernel), List.mem_of_getElem? (i := 1089) (by decide +kernel), List.mem_of_getElem? (i := 1090) (by decide +kernel)⟩
theorem lw_p41 : lw_okq (⟨"CardmeldModel", "gather", "()V"⟩, 25) := ⟨⟨by decide +kernel, by decide +kernel⟩, List.mem_of_getElem? (i := 910) (by decide +kernel), List.mem_of_getElem? (i := 1097) (by decide +kernel), List.mem_of_getElem? (i := 1098) (by decide +kernel)⟩
theorem lw_p42 : lw_okq (⟨"CardmeldModel", "areCandidates", "(II)Z"⟩, 25) := ⟨⟨by decide +kernel, by decide +kernel⟩, List.mem_of_getElem? (i := 910) (by decide +kernel), List.mem_of_getElem? (i := 1101) (by decide +kernel), List.mem_of_getElem? (i := 1102) (by decide +kernel)⟩
theorem lw_p43 : lw_okq (⟨"CardmeldModel", "isBarred", "(II)Z"⟩, 25) := ⟨⟨by decide +kernel, by decide +kernel⟩, List.mem_of_getElem? (i := 910) (by decide +kernel), List.mem_of_getElem? (i := 1105) (by decide +kernel), List.mem_of_getElem? (i := 1106) (by decide +kernel)⟩
theorem lw_p44 : lw_okq (⟨"CardmeldModel", "isPair", "(II)Z"⟩, 25) := ⟨⟨by decide +kernel, by decide +kernel⟩, List.mem_of_getElem? (i := 910) (by decide +kernel), List.mem_of_getElem? (i := 1109) (by decide +kernel), List.mem_of_getElem? (i := 1110) (by decide +kernel)⟩
theorem lw_p45 : lw_okq (⟨"CardmeldModel", "noBest", "()Z"⟩, 25) := ⟨⟨by decide +kernel, by decide +kernel⟩, List.mem_of_getElem? (i := 910) (by decide +kernel), List.mem_of_getElem? (i := 1117) (by decide +kernel), List.mem_of_getElem? (i := 1118) (by decide +kernel)⟩
theorem lw_p46 : lw_okq (⟨"CardmeldModel", "noBar", "(II)Z"⟩, 25) := ⟨⟨by decide +kernel, by decide +kernel⟩, List.mem_of_getElem? (i := 910) (by decide +kernel), List.mem_of_getElem? (i := 1150) (by decide +kernel), List.mem_of_getElem? (i := 1151) (by decide +kernel)⟩
theorem lw_p47 : lw_okq (⟨"CardmeldModel", "makes", "(II)I"⟩, 25) := ⟨⟨by decide +kernel, by decide +kernel⟩, List.mem_of_getElem? (i := 910) (by decide +kernel), List.mem_of_getElem? (i := 1162) (by decide +kernel), List.mem_of_getElem? (i := 1163) (by decide +kernel)⟩
def lw_privs_3 : List (MethodName × Nat) := [(⟨"Cardmeld", "requireGroup", "(I)V"⟩, 15), (⟨"CardmeldModel", "fail", "(I)I"⟩, 25), (⟨"CardmeldModel", "noCard", "(I)Z"⟩, 25), (⟨"CardmeldModel", "sounds", "(II[I)I"⟩, 25), (⟨"CardmeldModel", "noCards", "(II)Z"⟩, 25), (⟨"CardmeldModel", "scoreOf", "(II)I"⟩, 25), (⟨"CardmeldModel", "has", "(II)Z"⟩, 25), (⟨"CardmeldModel", "isSame", "(III)Z"⟩, 25), (⟨"CardmeldModel", "isSameSound", "(IIII)Z"⟩, 25), (⟨"CardmeldModel", "gather", "()V"⟩, 25), (⟨"CardmeldModel", "areCandidates", "(II)Z"⟩, 25), (⟨"CardmeldModel", "isBarred", "(II)Z"⟩, 25), (⟨"CardmeldModel", "isPair", "(II)Z"⟩, 25), (⟨"CardmeldModel", "noBest", "()Z"⟩, 25), (⟨"CardmeldModel", "noBar", "(II)Z"⟩, 25), (⟨"CardmeldModel", "makes", "(II)I"⟩, 25)]
theorem lw_r3 : ∀ q ∈ lw_privs_3, lw_okq q := List.forall_mem_cons.mpr ⟨lw_p32, List.forall_mem_cons.mpr ⟨lw_p33, List.forall_mem_cons.mpr ⟨lw_p34, List.forall_mem_cons.mpr ⟨lw_p35, List.forall_mem_cons.mpr ⟨lw_p36, List.forall_mem_cons.mpr ⟨lw_p37, List.forall_mem_cons.mpr ⟨lw_p38, List.forall_mem_cons.mpr ⟨lw_p39, List.forall_mem_cons.mpr ⟨lw_p40, List.forall_mem_cons.mpr ⟨lw_p41, List.forall_mem_cons.mpr ⟨lw_p42, List.forall_mem_cons.mpr ⟨lw_p43, List.forall_mem_cons.mpr ⟨lw_p44, List.forall_mem_cons.mpr ⟨lw_p45, List.forall_mem_cons.mpr ⟨lw_p46, List.forall_mem_cons.mpr ⟨lw_p47, fun _ h => absurd h List.not_mem_nil⟩⟩⟩⟩⟩⟩⟩⟩⟩⟩⟩⟩⟩⟩⟩⟩
theorem lw_p48 : lw_okq (⟨"CardmeldModel", "noMerge", "(I)Z"⟩, 25) := ⟨⟨by decide +kernel, by decide +kernel⟩, List.mem_of_getElem? (i := 910) (by decide +kernel), List.mem_of_getElem? (i := 1174) (by decide +kernel), List.mem_of_getElem? (i := 1175) (by decide +kernel)⟩
theorem lw_p49 : lw_okq (⟨"CardmeldModel", "sizeOf", "(I)I"⟩, 25) := ⟨⟨by decide +kernel, by decide +kernel⟩, List.mem_of_getElem? (i := 910) (by decide +kernel), List.mem_of_getElem? (i := 1204) (by decide +kernel), List.mem_of_getElem? (i := 1205) (by decide +kernel)⟩
theorem lw_p50 : lw_okq (⟨"CardmeldModel", "isDisputed", "(II)Z"⟩, 25) := ⟨⟨by decide +kernel, by decide +kernel⟩, List.mem_of_getElem? (i := 910) (by decide +kernel), List.mem_of_getElem? (i := 1216) (by decide +kernel), List.mem_of_getElem? (i := 1217) (by decide +kernel)⟩
theorem lw_p51 : lw_okq (⟨"CardmeldModel", "noGroup", "(II)Z"⟩, 25) := ⟨⟨by decide +kernel, by decide +kernel⟩, List.mem_of_getElem? (i := 910) (by decide +kernel), List.mem_of_getElem? (i := 1224) (by decide +kernel), List.mem_of_getElem? (i := 1225) (by decide +kernel)⟩
theorem lw_p52 : lw_okq (⟨"CardmeldModel", "cardsIn", "(I)I"⟩, 25) := ⟨⟨by decide +kernel, by decide +kernel⟩, List.mem_of_getElem? (i := 910) (by decide +kernel), List.mem_of_getElem? (i := 1228) (by decide +kernel), List.mem_of_getElem? (i := 1229) (by decide +kernel)⟩
theorem lw_p53 : lw_okq (⟨"CardmeldModel", "hasCard", "(II)Z"⟩, 25) := ⟨⟨by decide +kernel, by decide +kernel⟩, List.mem_of_getElem? (i := 910) (by decide +kernel), List.mem_of_getElem? (i := 1240) (by decide +kernel), List.mem_of_getElem? (i := 1241) (by decide +kernel)⟩
theorem lw_p54 : lw_okq (⟨"CardmeldModel", "finds", "(ZI)I"⟩, 25) := ⟨⟨by decide +kernel, by decide +kernel⟩, List.mem_of_getElem? (i := 910) (by decide +kernel), List.mem_of_getElem? (i := 1260) (by decide +kernel), List.mem_of_getElem? (i := 1261) (by decide +kernel)⟩
theorem lw_p55 : lw_okq (⟨"CardmeldModel", "isFound", "(IZ)Z"⟩, 25) := ⟨⟨by decide +kernel, by decide +kernel⟩, List.mem_of_getElem? (i := 910) (by decide +kernel), List.mem_of_getElem? (i := 1264) (by decide +kernel), List.mem_of_getElem? (i := 1265) (by decide +kernel)⟩
def lw_privs_4 : List (MethodName × Nat) := [(⟨"CardmeldModel", "noMerge", "(I)Z"⟩, 25), (⟨"CardmeldModel", "sizeOf", "(I)I"⟩, 25), (⟨"CardmeldModel", "isDisputed", "(II)Z"⟩, 25), (⟨"CardmeldModel", "noGroup", "(II)Z"⟩, 25), (⟨"CardmeldModel", "cardsIn", "(I)I"⟩, 25), (⟨"CardmeldModel", "hasCard", "(II)Z"⟩, 25), (⟨"CardmeldModel", "finds", "(ZI)I"⟩, 25), (⟨"CardmeldModel", "isFound", "(IZ)Z"⟩, 25)]
theorem lw_r4 : ∀ q ∈ lw_privs_4, lw_okq q := List.forall_mem_cons.mpr ⟨lw_p48, List.forall_mem_cons.mpr ⟨lw_p49, List.forall_mem_cons.mpr ⟨lw_p50, List.forall_mem_cons.mpr ⟨lw_p51, List.forall_mem_cons.mpr ⟨lw_p52, List.forall_mem_cons.mpr ⟨lw_p53, List.forall_mem_cons.mpr ⟨lw_p54, List.forall_mem_cons.mpr ⟨lw_p55, fun _ h => absurd h List.not_mem_nil⟩⟩⟩⟩⟩⟩⟩⟩
def lw_privs : List (MethodName × Nat) := lw_privs_1 ++ (lw_privs_2 ++ (lw_privs_3 ++ (lw_privs_4)))
def lw_tbl : List Cond := k2_sels lw_privs ++ tables_1
theorem lw_privs_ok : ∀ q ∈ lw_privs, lw_okq q := by
  show ∀ q ∈ lw_privs_1 ++ (lw_privs_2 ++ (lw_privs_3 ++ (lw_privs_4))), lw_okq q
  exact List.forall_mem_append.mpr ⟨lw_r1, List.forall_mem_append.mpr ⟨lw_r2, List.forall_mem_append.mpr ⟨lw_r3, lw_r4⟩⟩⟩
/-- the streams that the claim lets the run draw from -/
abbrev lw_cs : List Choice := [Jvm.Choice.named "NaN.bits"]
theorem lw_bits : nanBits ∈ lw_cs := by first | decide | exact List.mem_cons_self | simp [lw_cs, nanBits]
end
section
/-! ===== BEGIN words of one list among another's, by their places ===== -/
theorem goodIn_r {big : List Cond} (ws : List Cond) (ps : List Nat) (hp : ws = ps.filterMap (fun i => big[i]?)) (h : ws.all goodWord = true) : GoodIn big ws := by
  intro w hw
  have h1 := List.all_eq_true.mp h w hw
  rw [hp] at hw
  obtain ⟨i, -, hi⟩ := List.mem_filterMap.mp hw
  have hm : w ∈ big := by first | exact List.mem_of_getElem? hi | exact List.getElem?_mem hi
  exact ⟨hm, good_of_word h1⟩
theorem goodIn_app {big a b : List Cond} (ha : GoodIn big a) (hb : GoodIn big b) : GoodIn big (a ++ b) := fun w h => (List.mem_append.mp h).elim (ha w) (hb w)
theorem goodIn_ca {big a b : List Cond} {c : Cond} (ha : GoodIn big (c :: a)) (hb : GoodIn big b) : GoodIn big (c :: (a ++ b)) := fun w h => (List.mem_cons.mp h).elim (fun e => ha w (List.mem_cons.mpr (Or.inl e))) (fun h => (List.mem_append.mp h).elim (fun h => ha w (List.mem_cons.mpr (Or.inr h))) (hb w))
theorem goodIn_sub {big ws : List Cond} (hm : ∀ w ∈ ws, w ∈ big) (h : ws.all goodWord = true) : GoodIn big ws := fun w hw => ⟨hm w hw, good_of_word (List.all_eq_true.mp h w hw)⟩
/-! ===== END ===== -/

/-! ===== BEGIN exceptions that leave a method, and their catching by the caller (launches without stack traces) ===== -/
section VXA
/-! The laws vx_back, vx_callV, vx_callS, vx_callSW, vx_throw0, vx_throwS follow proofs of the library, with one case more: JvmDerived/Free/Laws.lean (Back.of_free), Shelf42/LK1.lean (callV, callS), Shelf/KitTraced.lean (throwNew0V, throwNewS). -/
/-- where a method has thrown q: the class by its name, the cell, what was written, the world -/
def vx_T (XC : String → State → State → Prop) (st : State) (q : Addr) (t : State) (mc ms : Nat) (free : Addr → Prop) : Prop :=
  ∃ (E : String) (ce : Cell) (L : List Loc), XC E st t ∧ t.heap[q]? = some ce ∧ ce.vm = .none ∧ st.vm.findClass E = some ce.cls ∧ st.WarmedH t.vm ∧ st.sameButNew ({ t with vm := st.vm } : State) L mc ms ∧ ∀ z ∈ L, free z.base
def vx_Q (Qc : Array Value → State → Outcome → State → Prop) (XC : String → State → State → Prop) (mc ms : Nat) (free : Addr → Prop) : Array Value → State → Outcome → State → Prop := fun a st o t =>
  (Qc a st o t ∧ ∃ L, FrameEnd st o t L mc ms ∧ ∀ q ∈ L, free q.base) ∨ ∃ q, o = .threw q ∧ vx_T XC st q t mc ms free
/-- a callee that returns or throws -/
def vx_Met (l : Launch) (y : MethodName) (ws : List Cond) (rm : Room) (Pc : Array Value → State → Prop) (Qc : Array Value → State → Outcome → State → Prop) (XC : String → State → State → Prop) (mc ms : Nat) (free : Addr → Prop) : Prop :=
  MetFree l y (headSpec ws rm) Pc (fun _ _ _ _ _ => True) (vx_Q Qc XC mc ms free)
def vx_Post (XC : String → State → State → Prop) (mc ms : Nat) (free : Addr → Prop) : Pt → Array Value → Addr → Pt → Prop := fun A a q B =>
  ∃ (g : JFrame) (mk : MethodId) (t : State) (L : List Loc) (E : String) (ce : Cell), B.U.heap = t.heap ∧ B.U.vm = t.vm ∧ XC E (A.U.calling g mk a) t ∧ t.heap[q]? = some ce ∧ ce.vm = .none ∧ A.U.vm.findClass E = some ce.cls ∧ B.locs = A.locs ++ L ∧ (∀ z ∈ L, free z.base) ∧ B.cells = A.cells + mc ∧ B.slots = A.slots + ms
def vx_Back (l : Launch) (R : Room) (p : Program) (e : Env) (below : List Frame) (s : State) (sargs : Array Value) (y : MethodName) (len W9 : Nat)
    (Pre : Pt → Array Value → Prop) (Post : Pt → Array Value → Option Value → Pt → Prop) (PostX : Pt → Array Value → Addr → Pt → Prop) : Prop :=
  ∀ (m : MethodId) (meth : Method) (c : Code) (A : Pt) (g : JFrame) (ig : Instr) (mk : MethodId) (a : Array Value),
    Stand p l e R s m sargs below meth c A.U A.locs A.cells A.slots → g.method = m → g.locals.size = c.maxLocals → decode c.code g.pc = .ok (ig, len) →
    2 * g.monitorRoom + (g.stack.map fun v => v.category).sum ≤ W9 → A.U.methodNamed? y = some mk → Pre A a →
    (∃ (v : Option Value) (B : Pt), Stand p l e R s m sargs below meth c B.U B.locs B.cells B.slots ∧ Post A a v B ∧
      Steps p.tables e below (doInvoke e (A.U.setTop g) [] mk a).1 (B.U.setTop { g with pc := g.pc + len, stack := v.toList ++ g.stack })) ∨
    (∃ (q : Addr) (B : Pt), Stand p l e R s m sargs below meth c B.U B.locs B.cells B.slots ∧ PostX A a q B ∧
      Steps p.tables e below (doInvoke e (A.U.setTop g) [] mk a).1 ((B.U.setTop g).pushFrame (.throwing q)))
section Payer
variable {l : Launch} {R : Room} {p : Program} {e : Env} {below : List Frame} {s : State} {sargs : Array Value} {y : MethodName} {len W9 : Nat}
theorem vx_back {ws : List Cond} {rm : Room} {Pc : Array Value → State → Prop} {Qc : Array Value → State → Outcome → State → Prop} {XC : String → State → State → Prop} {mc ms : Nat} {free : Addr → Prop} {bytes : ByteArray} {maxL : Nat} {ret : Option FieldType}
    (hM : vx_Met l y ws rm Pc Qc XC mc ms free) (hblind : FrameBlind Pc) (hrc : rm.cells = mc) (hrs : rm.slots = ms)
    (hframes : rm.frames + 1 ≤ R.frames) (hlocals : W9 + (maxL + 11) + rm.locals ≤ R.locals)
    (hws : ∀ w ∈ ws, ∀ a' U, s.WarmedH U.vm → w.before a' U = true) (hcode : Cond.code y bytes maxL ret ∈ ws) (hinit : ∀ a' U, s.WarmedH U.vm → (Cond.initialized y.cls).before a' U = true) :
    vx_Back l R p e below s sargs y len W9 (PreOf R mc ms Pc) (PostOf Qc mc ms free) (vx_Post XC mc ms free) := by
  intro m meth c A g ig mk a X hg hsize hdg hW hn hp
  have h1 : (headSpec ws rm).pre.before a A.U = true := atoms_intro fun w hw => hws w hw _ _ X.warmed
  have h2 : (Cond.code y bytes maxL ret).before a A.U = true := hws _ hcode _ _ X.warmed
  have h3 : (Cond.initialized y.cls).before a A.U = true := hinit _ _ X.warmed
  have h4 : A.cells + (headSpec ws rm).room.cells ≤ R.cells := by rw [show (headSpec ws rm).room.cells = mc from hrc]; exact hp.1
  have h5 : A.slots + (headSpec ws rm).room.slots ≤ R.slots := by rw [show (headSpec ws rm).room.slots = ms from hrs]; exact hp.2.1
  have hPc : Pc a (A.U.calling g mk a) := hblind _ _ _ _ hp.2.2
  obtain ⟨U, Ls, c0, s0⟩ := A
  dsimp only [Pt.U, Pt.locs, Pt.cells, Pt.slots] at h1 h2 h3 h4 h5 X hn hPc ⊢
  obtain ⟨methY, cY, hmY, hcY, -, hlY, -, -, -, -⟩ := Cond.code_spec hn h2
  obtain ⟨kY, hkY, -⟩ := className_of_methodNamed hn
  have hinitY : kY.init = .initialized := Cond.initialized_spec (findClass_of_methodNamed hn) hkY h3
  have h : At U g.method c below := by rw [hg]; exact X.here
  have hlocals9 : W9 + (maxL + 11) + (headSpec ws rm).room.locals ≤ R.locals := hlocals
  have happ : (headSpec ws rm).appliesLoose y e.platform (U.calling g mk a) = true :=
    Spec.appliesLoose_calling (g := g) h hdg hn hkY hinitY
      (X.room_calling (g := g) (R' := (headSpec ws rm).room) hsize hmY hcY hframes (by rw [hlY]; omega) h4 h5) h1
  obtain ⟨mid, hmid⟩ := h.above
  have hfr : (U.setTop g).frames = (.java g :: mid) ++ below := by rw [State.frames_setTop' g h.top, hmid]; rfl
  obtain ⟨o, s₂, hsteps, -, hend, hq⟩ := Steps.callFree hM p X.admits X.cas X.clock (acts := []) hfr happ hPc trivial
  have hq' : vx_Q Qc XC mc ms free a (U.calling g mk a) o s₂ := hq
  rw [State.frames_setTop' g h.top] at hend
  obtain ⟨g₀, hg0⟩ := Option.isSome_iff_exists.mp h.top
  obtain ⟨r, hr⟩ := State.topJava?_eq_some.mp hg0
  have hr' : (({ U with heap := s₂.heap, slotsUsed := s₂.slotsUsed } : State).setVm s₂.vm).frames = .java g₀ :: r := hr
  rcases hq' with ⟨hqc, L, hfe, hL⟩ | ⟨q, rfl, E, ce, L, hx, hce, hcv, hcl, hW₂, hsm, hL⟩
  · obtain ⟨⟨v, rfl⟩, hW₂, e2, q2, q3, q4, q5, q6⟩ := id hfe
    have e3 : s₂ = ({ (U.calling g mk a).setFrames s₂.frames with heap := s₂.heap, slotsUsed := s₂.slotsUsed } : State).setVm s₂.vm := by
      have : s₂ = ({ s₂ with vm := (U.calling g mk a).vm } : State).setVm s₂.vm := rfl
      rw [e2] at this
      exact this
    obtain ⟨c₂, i₂, len₂, hc₂, hd₂, hf₂⟩ := hend
    have hW' : U.WarmedH s₂.vm := hW₂
    have hcc : c₂ = c := by
      have h1 : s₂.code? g.method = U.code? g.method := by
        rw [State.code?_eq, State.code?_eq, hW'.alike.method?]
      exact Option.some.inj (hc₂.symm.trans (h1.trans h.code))
    subst hcc
    have hlen : len₂ = len := by rw [hdg] at hd₂; cases hd₂; rfl
    subst hlen
    have hs₂ : s₂ = (({ U with heap := s₂.heap, slotsUsed := s₂.slotsUsed } : State).setVm s₂.vm).setTop { g with pc := g.pc + len₂, stack := v.toList ++ g.stack } := by
      refine e3.trans ?_
      rw [hf₂, State.calling_eq h.top, State.setFrames_setFrames, State.setTop_of_frames _ hr', hr]
      rfl
    have hsame : U.sameButNew ({ U with heap := s₂.heap, slotsUsed := s₂.slotsUsed } : State) L mc ms := by
      refine ⟨?_, q2, q3, q4, q5, q6⟩
      obtain ⟨t, ht, -⟩ := State.frames_cons hr
      show ({ U with heap := s₂.heap, slotsUsed := s₂.slotsUsed } : State) = { U.setFrames U.frames with heap := s₂.heap, slotsUsed := s₂.slotsUsed }
      rw [State.setFrames_self ht]
    subst hg
    refine Or.inl ⟨v, ⟨(({ U with heap := s₂.heap, slotsUsed := s₂.slotsUsed } : State).setVm s₂.vm), Ls ++ L, c0 + mc, s0 + ms⟩,
      ⟨X.admits, X.cas, X.clock, X.frames, X.room, X.hears, X.method, X.code, (X.here.setHeapUsed s₂.heap s₂.slotsUsed).setVm hW'.alike, X.tail, State.WarmedH.trans X.warmed hW', X.limits, X.bytes, X.same.trans (hsame.setVm s.vm)⟩,
      ⟨g, mk, s₂, L, rfl, rfl, hqc, rfl, hL, rfl, rfl⟩, ?_⟩
    show Steps p.tables e below _ ((({ U with heap := s₂.heap, slotsUsed := s₂.slotsUsed } : State).setVm s₂.vm).setTop { g with pc := g.pc + len₂, stack := v.toList ++ g.stack })
    rw [← hs₂]
    exact hsteps
  · obtain ⟨e2, q2, q3, q4, q5, q6⟩ := id hsm
    have e3 : s₂ = ({ (U.calling g mk a).setFrames s₂.frames with heap := s₂.heap, slotsUsed := s₂.slotsUsed } : State).setVm s₂.vm := by
      have : s₂ = ({ s₂ with vm := (U.calling g mk a).vm } : State).setVm s₂.vm := rfl
      rw [e2] at this
      exact this
    have hf₂ : s₂.frames = .throwing q :: .java g :: U.frames.tail := hend
    have hW' : U.WarmedH s₂.vm := hW₂
    have hs₂ : s₂ = ((({ U with heap := s₂.heap, slotsUsed := s₂.slotsUsed } : State).setVm s₂.vm).setTop g).pushFrame (.throwing q) := by
      refine e3.trans ?_
      rw [hf₂, State.calling_eq h.top, State.setFrames_setFrames, State.pushFrame, State.frames_setTop _ hr', State.setTop_of_frames _ hr', State.setFrames_setFrames, hr]
      rfl
    have hsame : U.sameButNew ({ U with heap := s₂.heap, slotsUsed := s₂.slotsUsed } : State) L mc ms := by
      refine ⟨?_, q2, q3, q4, q5, q6⟩
      obtain ⟨t, ht, -⟩ := State.frames_cons hr
      show ({ U with heap := s₂.heap, slotsUsed := s₂.slotsUsed } : State) = { U.setFrames U.frames with heap := s₂.heap, slotsUsed := s₂.slotsUsed }
      rw [State.setFrames_self ht]
    subst hg
    refine Or.inr ⟨q, ⟨(({ U with heap := s₂.heap, slotsUsed := s₂.slotsUsed } : State).setVm s₂.vm), Ls ++ L, c0 + mc, s0 + ms⟩,
      ⟨X.admits, X.cas, X.clock, X.frames, X.room, X.hears, X.method, X.code, (X.here.setHeapUsed s₂.heap s₂.slotsUsed).setVm hW'.alike, X.tail, State.WarmedH.trans X.warmed hW', X.limits, X.bytes, X.same.trans (hsame.setVm s.vm)⟩,
      ⟨g, mk, s₂, L, E, ce, rfl, rfl, hx, hce, hcv, hcl, rfl, hL, rfl, rfl⟩, ?_⟩
    show Steps p.tables e below _ (((({ U with heap := s₂.heap, slotsUsed := s₂.slotsUsed } : State).setVm s₂.vm).setTop g).pushFrame (.throwing q))
    rw [← hs₂]
    exact hsteps
end Payer
section Calls
variable {p : Program} {l : Launch} {e : Env} {R : Room} {s : State} {m : MethodId} {args : Array Value} {below : List Frame} {meth : Method} {c : Code} {T : State} {locs : List Loc} {cells slots : Nat}
theorem vx_callV (X : Stand p l e R s m args below meth c T locs cells slots) (hexec : p.tables.exec = Jvm.exec) {own C : String} {index : Nat} {y : MethodName} {bytes : ByteArray} {maxL : Nat} {ret : Option FieldType}
    (hown : s.vm.findClass own = some m.cls) (hlink : (Cond.methodLink own index y).before args s = true) (hinst : (Cond.instanceMethod y).before args s = true) (hsel : (Cond.selects C y y).before args s = true)
    (hcode : (Cond.code y bytes maxL ret).before args s = true) (hy : y.cls ≠ "java/lang/invoke/MethodHandle" ∧ y.cls ≠ "java/lang/invoke/VarHandle")
    {W9 : Nat} {Pre : Pt → Array Value → Prop} {Post : Pt → Array Value → Option Value → Pt → Prop} {PostX : Pt → Array Value → Addr → Pt → Prop} (hK : vx_Back l R p e below s args y 3 W9 Pre Post PostX)
    {b : Addr} {cellB : Cell} (hcell : T.heap[b]? = some cellB) (hobj : cellB.vm.isStatics = false) (hcls : s.vm.findClass C = some cellB.cls)
    {g : JFrame} (hg : g.method = m) (hsize : g.locals.size = c.maxLocals) {argsL rest : List Value} (hlen : ∀ sig, parseMethodDescriptor y.desc = some sig → argsL.length = sig.parameters.length)
    (hstack : g.stack = argsL.reverse ++ .ref b :: rest) (hW : 2 * g.monitorRoom + (rest.map fun v => v.category).sum ≤ W9) (hdg : decode c.code g.pc = .ok (.invokevirtual index, 3))
    (hpre : ∀ vm₁, s.WarmedH vm₁ → Pre ⟨T.setVm vm₁, locs, cells, slots⟩ (Value.ref b :: argsL).toArray) :
    (∃ (v : Option Value) (vm₁ : Vm) (B : Pt), s.WarmedH vm₁ ∧ Stand p l e R s m args below meth c B.U B.locs B.cells B.slots ∧ Post ⟨T.setVm vm₁, locs, cells, slots⟩ (Value.ref b :: argsL).toArray v B ∧
      ∀ target, Steps p.tables e below (B.U.setTop { g with pc := g.pc + 3, stack := v.toList ++ rest }) target → Steps p.tables e below (T.setTop g) target) ∨
    (∃ (q : Addr) (vm₁ : Vm) (B : Pt), s.WarmedH vm₁ ∧ Stand p l e R s m args below meth c B.U B.locs B.cells B.slots ∧ PostX ⟨T.setVm vm₁, locs, cells, slots⟩ (Value.ref b :: argsL).toArray q B ∧
      Steps p.tables e below (T.setTop g) ((B.U.setTop { g with stack := rest }).pushFrame (.throwing q))) := by
  obtain ⟨mk, methM, hnamed, hmethM, hstM, habM⟩ := Cond.instanceMethod_spec hinst
  obtain ⟨methM', cM, hmethM', -, -, -, -, -, -, hsigM⟩ := Cond.code_spec hnamed hcode
  cases hmethM.symm.trans hmethM'
  obtain ⟨c2, r2, m2, q1, q2, q3, q4, kP, hkP, hkPi⟩ := Cond.selects_spec hsel
  cases hcls.symm.trans q1
  cases (State.methodFound?_of_named hnamed hy).symm.trans q2
  cases hnamed.symm.trans q3
  have hselP : selectMethod e.platform s.vm cellB.cls mk = .method mk := by rw [Launch.admits_selectMethod X.admits]; exact q4
  obtain ⟨vm₁, X₁, hstep₁⟩ := X.invokevirtual hexec hown hlink hnamed hmethM hstM hkP hkPi hy (a := b) (cell := cellB) hcell
    (fun z h => by rw [h] at hobj; cases hobj) hselP hmethM habM hkP hkPi (g := g) hg (argsL := argsL) (rest := rest) (hlen _ hsigM) hstack hdg
  rcases hK m meth c ⟨T.setVm vm₁, locs, cells, slots⟩ { g with stack := rest } (.invokevirtual index) mk (Value.ref b :: argsL).toArray X₁ hg hsize hdg hW (X₁.named hnamed) (hpre vm₁ X₁.warmed) with ⟨v, B, X', hpost, hsteps⟩ | ⟨q, B, X', hpost, hsteps⟩
  · exact Or.inl ⟨v, vm₁, B, X₁.warmed, X', hpost, fun target h => hstep₁ _ fun acts => by rw [doInvoke_state]; exact hsteps.trans h⟩
  · exact Or.inr ⟨q, vm₁, B, X₁.warmed, X', hpost, hstep₁ _ fun acts => by rw [doInvoke_state]; exact hsteps⟩
theorem vx_callS (X : Stand p l e R s m args below meth c T locs cells slots) (hexec : p.tables.exec = Jvm.exec) {own : String} {index : Nat} {y : MethodName} {bytes : ByteArray} {maxL : Nat} {ret : Option FieldType}
    (hown : s.vm.findClass own = some m.cls) (hlink : (Cond.methodLink own index y).before args s = true) (hstat : (Cond.static y).before args s = true) (hinit : (Cond.initialized y.cls).before args s = true)
    (hcode : (Cond.code y bytes maxL ret).before args s = true) (hy : y.cls ≠ "java/lang/invoke/MethodHandle" ∧ y.cls ≠ "java/lang/invoke/VarHandle")
    {W9 : Nat} {Pre : Pt → Array Value → Prop} {Post : Pt → Array Value → Option Value → Pt → Prop} {PostX : Pt → Array Value → Addr → Pt → Prop} (hK : vx_Back l R p e below s args y 3 W9 Pre Post PostX)
    {g : JFrame} (hg : g.method = m) (hsize : g.locals.size = c.maxLocals) {argsL rest : List Value} (hlen : ∀ sig, parseMethodDescriptor y.desc = some sig → argsL.length = sig.parameters.length)
    (hstack : g.stack = argsL.reverse ++ rest) (hW : 2 * g.monitorRoom + (rest.map fun v => v.category).sum ≤ W9) (hdg : decode c.code g.pc = .ok (.invokestatic index, 3))
    (hpre : ∀ vm₁, s.WarmedH vm₁ → Pre ⟨T.setVm vm₁, locs, cells, slots⟩ argsL.toArray) :
    (∃ (v : Option Value) (vm₁ : Vm) (B : Pt), s.WarmedH vm₁ ∧ Stand p l e R s m args below meth c B.U B.locs B.cells B.slots ∧ Post ⟨T.setVm vm₁, locs, cells, slots⟩ argsL.toArray v B ∧
      ∀ target, Steps p.tables e below (B.U.setTop { g with pc := g.pc + 3, stack := v.toList ++ rest }) target → Steps p.tables e below (T.setTop g) target) ∨
    (∃ (q : Addr) (vm₁ : Vm) (B : Pt), s.WarmedH vm₁ ∧ Stand p l e R s m args below meth c B.U B.locs B.cells B.slots ∧ PostX ⟨T.setVm vm₁, locs, cells, slots⟩ argsL.toArray q B ∧
      Steps p.tables e below (T.setTop g) ((B.U.setTop { g with stack := rest }).pushFrame (.throwing q))) := by
  obtain ⟨mk, hnamed⟩ := Cond.code_named hcode
  obtain ⟨methM, cM, hmethM, -, -, -, -, -, -, hsigM⟩ := Cond.code_spec hnamed hcode
  have hstatic : methM.isStatic = true := Cond.static_spec hnamed hmethM hstat
  obtain ⟨kP, hkP, -⟩ := className_of_methodNamed hnamed
  have hinitP : kP.init = .initialized := Cond.initialized_spec (findClass_of_methodNamed hnamed) hkP hinit
  obtain ⟨vm₁, X₁, hstep₁⟩ := X.invokestatic hexec hown hlink hnamed hmethM hstatic hkP hinitP hy (g := g) hg (argsL := argsL) (rest := rest) (hlen _ hsigM) hstack hdg
  rcases hK m meth c ⟨T.setVm vm₁, locs, cells, slots⟩ { g with stack := rest } (.invokestatic index) mk argsL.toArray X₁ hg hsize hdg hW (X₁.named hnamed) (hpre vm₁ X₁.warmed) with ⟨v, B, X', hpost, hsteps⟩ | ⟨q, B, X', hpost, hsteps⟩
  · exact Or.inl ⟨v, vm₁, B, X₁.warmed, X', hpost, fun target h => hstep₁ _ fun acts => by rw [doInvoke_state]; exact hsteps.trans h⟩
  · exact Or.inr ⟨q, vm₁, B, X₁.warmed, X', hpost, hstep₁ _ fun acts => by rw [doInvoke_state]; exact hsteps⟩
end Calls
theorem vx_cls {s : State} {T : State} {vm₁ : Vm} {E : String} {k : ClassId} (hW : s.WarmedH vm₁) (h : (T.setVm vm₁).vm.findClass E = some k) : s.vm.findClass E = some k := by
  have h1 : vm₁.findClass E = some k := h
  rw [hW.alike.findClass] at h1
  exact h1
/-- the method's frame g, with q thrown over it -/
def vx_W (p : Program) (l : Launch) (e : Env) (R : Room) (s : State) (m : MethodId) (args : Array Value) (below : List Frame) (meth : Method) (c : Code) (H : Heap) (locs : List Loc) (cells slots : Nat) (Q : State → Prop) (g : JFrame) (q : Addr) : Prop :=
  ∀ T : State, T.heap = H → Stand p l e R s m args below meth c T locs cells slots → ∃ t, Steps p.tables e below ((T.setTop g).pushFrame (.throwing q)) t ∧ Q t
def vx_Run (p : Program) (l : Launch) (e : Env) (R : Room) (s : State) (m : MethodId) (args : Array Value) (below : List Frame) (meth : Method) (c : Code) (H : Heap) (locs : List Loc) (cells slots mc ms : Nat) (g : JFrame) (rest : List Value) (Qa : State → Outcome → State → Prop) (XC : String → State → State → Prop) (free : Addr → Prop) : Prop :=
  ∀ T : State, T.heap = H → Stand p l e R s m args below meth c T locs cells slots →
    (∃ (v : Option Value) (st₀ t T' : State) (L : List Loc), st₀.heap = H ∧ Stand p l e R s m args below meth c T' (locs ++ L) (cells + mc) (slots + ms) ∧ (∀ q ∈ L, free q.base) ∧ T'.heap = t.heap ∧ T'.vm = t.vm ∧ Qa st₀ (.returned v) t ∧
      Goes p e below T g T' { g with pc := g.pc + 3, stack := v.toList ++ rest }) ∨
    (∃ (q : Addr) (st₀ t T' : State) (L : List Loc) (E : String) (ce : Cell), st₀.heap = H ∧ Stand p l e R s m args below meth c T' (locs ++ L) (cells + mc) (slots + ms) ∧ (∀ z ∈ L, free z.base) ∧ T'.heap = t.heap ∧ T'.vm = t.vm ∧ XC E st₀ t ∧ t.heap[q]? = some ce ∧ ce.vm = .none ∧ s.vm.findClass E = some ce.cls ∧
      Steps p.tables e below (T.setTop g) ((T'.setTop { g with stack := rest }).pushFrame (.throwing q)))
def vx_X {S : Type} (px : S → Prop) (B : String → S → State → Prop) (A : Nat → Prop) : String → State → State → Prop := fun E st t => ∃ u : S, px u ∧ B E u t ∧ va_F A st t
section Runs
variable {p : Program} {l : Launch} {e : Env} {R : Room} {s : State} {m : MethodId} {args : Array Value} {below : List Frame} {meth : Method} {c : Code} {H : Heap} {locs : List Loc} {cells slots : Nat}
variable {y : MethodName} {bytes cc : ByteArray} {maxL nL mc ms n index : Nat} {ret : Option FieldType} {ws : List Cond} {rm : Room} {Pc : Array Value → State → Prop} {Qc : Array Value → State → Outcome → State → Prop} {XC : String → State → State → Prop} {free : Addr → Prop} {Ts : List Cond} {own C : String} {b : Addr} {As rest : List Value} {g : JFrame}
theorem vx_callBack (cb : CallB R s args own index y bytes maxL ret ws rm mc ms n) (hM : vx_Met l y ws rm Pc Qc XC mc ms free) (hbl : FrameBlind Pc) : vx_Back l R p e below s args y 3 8 (PreOf R mc ms Pc) (PostOf Qc mc ms free) (vx_Post XC mc ms free) := by
  obtain ⟨hrc, hrs, hfr, hlo, hws, hcw, -, hini, -⟩ := cb
  exact vx_back (bytes := bytes) (maxL := maxL) (ret := ret) hM hbl hrc hrs hfr hlo hws hcw (fun a' U hW => word_at hW (Or.inl (by first | rfl | simp [Cond.onTables, Cond.keeps, Cond.steady])) hini)
theorem vx_runV (S : CallFix p m c cc nL s args Ts own) (hM : vx_Met l y ws rm Pc Qc XC mc ms free) (cw : CallW R s args own C index y bytes maxL ret ws rm mc ms n) (hp : PreV s H C b Pc As)
    (hg : g.method = m) (hn : As.length = n) (hsize : g.locals.size = nL) (hstack : g.stack = As.reverse ++ .ref b :: rest) (hW : 2 * g.monitorRoom + (rest.map fun v => v.category).sum ≤ 8) (hdg : decode cc g.pc = .ok (.invokevirtual index, 3)) (hf : cells + mc ≤ R.cells ∧ slots + ms ≤ R.slots) :
    vx_Run p l e R s m args below meth c H locs cells slots mc ms g rest (Qc (Value.ref b :: As).toArray) XC free := by
  have hK : vx_Back l R p e below s args y 3 8 (PreOf R mc ms Pc) (PostOf Qc mc ms free) (vx_Post XC mc ms free) := vx_callBack cw.1 hM hp.1
  obtain ⟨⟨-, -, -, -, -, -, hcode, -, hy, hlen, hl⟩, hin, hse⟩ := cw
  obtain ⟨hx, hb, hml, ho, -⟩ := S
  obtain ⟨-, ⟨cellB, hcB, hoB, hclB⟩, hPc⟩ := hp
  intro T hT X
  rcases vx_callV X hx (C := C) (bytes := bytes) (maxL := maxL) (ret := ret) ho hl hin hse hcode hy hK (by rw [hT]; exact hcB) hoB hclB hg (hsize.trans hml.symm) (argsL := As) (rest := rest) (fun sig h => hn.trans (hlen sig h)) hstack hW (by rw [hb]; exact hdg)
    (fun vm₁ hW₁ => ⟨hf.1, hf.2, hPc (T.setVm vm₁) hT hW₁⟩) with ⟨v, vm₁, ⟨U', l2, c2, s2⟩, hW₁, X', ⟨g', mk, t, L, e1, e2, hq, h1, hL, h2, h3⟩, st⟩ | ⟨q, vm₁, ⟨U', l2, c2, s2⟩, hW₁, X', ⟨g', mk, t, L, E, ce, e1, e2, hq, hce, hcv, hcl, h1, hL, h2, h3⟩, st⟩
  · dsimp only [Pt.U, Pt.locs, Pt.cells, Pt.slots] at X' e1 e2 h1 h2 h3 st
    subst h1; subst h2; subst h3
    exact Or.inl ⟨v, (T.setVm vm₁).calling g' mk (Value.ref b :: As).toArray, t, U', L, hT, X', hL, e1, e2, hq, st⟩
  · dsimp only [Pt.U, Pt.locs, Pt.cells, Pt.slots] at X' e1 e2 h1 h2 h3 st hcl
    subst h1; subst h2; subst h3
    exact Or.inr ⟨q, (T.setVm vm₁).calling g' mk (Value.ref b :: As).toArray, t, U', L, E, ce, hT, X', hL, e1, e2, hq, hce, hcv, vx_cls hW₁ hcl, st⟩
theorem vx_runS (S : CallFix p m c cc nL s args Ts own) (hM : vx_Met l y ws rm Pc Qc XC mc ms free) (cw : CallB R s args own index y bytes maxL ret ws rm mc ms n ∧ (Cond.static y).before args s = true) (hp : PreS s H Pc As)
    (hg : g.method = m) (hn : As.length = n) (hsize : g.locals.size = nL) (hstack : g.stack = As.reverse ++ rest) (hW : 2 * g.monitorRoom + (rest.map fun v => v.category).sum ≤ 8) (hdg : decode cc g.pc = .ok (.invokestatic index, 3)) (hf : cells + mc ≤ R.cells ∧ slots + ms ≤ R.slots) :
    vx_Run p l e R s m args below meth c H locs cells slots mc ms g rest (Qc As.toArray) XC free := by
  have hK : vx_Back l R p e below s args y 3 8 (PreOf R mc ms Pc) (PostOf Qc mc ms free) (vx_Post XC mc ms free) := vx_callBack cw.1 hM hp.1
  obtain ⟨⟨-, -, -, -, -, -, hcode, hini, hy, hlen, hl⟩, hstt⟩ := cw
  obtain ⟨hx, hb, hml, ho, -⟩ := S
  intro T hT X
  rcases vx_callS X hx (bytes := bytes) (maxL := maxL) (ret := ret) ho hl hstt hini hcode hy hK hg (hsize.trans hml.symm) (argsL := As) (rest := rest) (fun sig h => hn.trans (hlen sig h)) hstack hW (by rw [hb]; exact hdg)
    (fun vm₁ hW₁ => ⟨hf.1, hf.2, hp.2 (T.setVm vm₁) hT hW₁⟩) with ⟨v, vm₁, ⟨U', l2, c2, s2⟩, hW₁, X', ⟨g', mk, t, L, e1, e2, hq, h1, hL, h2, h3⟩, st⟩ | ⟨q, vm₁, ⟨U', l2, c2, s2⟩, hW₁, X', ⟨g', mk, t, L, E, ce, e1, e2, hq, hce, hcv, hcl, h1, hL, h2, h3⟩, st⟩
  · dsimp only [Pt.U, Pt.locs, Pt.cells, Pt.slots] at X' e1 e2 h1 h2 h3 st
    subst h1; subst h2; subst h3
    exact Or.inl ⟨v, (T.setVm vm₁).calling g' mk As.toArray, t, U', L, hT, X', hL, e1, e2, hq, st⟩
  · dsimp only [Pt.U, Pt.locs, Pt.cells, Pt.slots] at X' e1 e2 h1 h2 h3 st hcl
    subst h1; subst h2; subst h3
    exact Or.inr ⟨q, (T.setVm vm₁).calling g' mk As.toArray, t, U', L, E, ce, hT, X', hL, e1, e2, hq, hce, hcv, vx_cls hW₁ hcl, st⟩
end Runs
section Rows
variable {p : Program} {l : Launch} {e : Env} {R : Room} {s : State} {m : MethodId} {args : Array Value} {below : List Frame} {meth : Method} {c : Code} {H : Heap} {locs : List Loc} {cells slots : Nat} {Q : State → Prop}
variable {mc ms : Nat} {free : Addr → Prop} {A0 A1 : Nat → Prop} {H0 : Heap} {a : Array Value} {pc : Nat} {ls : Array Slot} {st0 rest : List Value}
theorem vx_keep {st₀ t T' : State} {L : List Loc} (h0 : st₀.heap = H) (e1 : T'.heap = t.heap) (hS : va_S A0 H0 H locs) (hA : ∀ q, q < H.size → A1 q → A0 q) (hf : ∀ q, free q → A0 q) (hL : ∀ q ∈ L, free q.base) (hF : va_F A1 st₀ t) :
    H.size ≤ T'.heap.size ∧ (∀ q : Nat, q < H.size → ¬ A1 q → T'.heap[q]? = H[q]?) ∧ va_S A0 H0 T'.heap (locs ++ L) := by
  obtain ⟨hz, hk⟩ := hF
  rw [h0] at hz hk
  exact ⟨by rw [e1]; exact hz, fun q h1 h2 => by rw [e1]; exact hk q h1 h2,
    ⟨Nat.le_trans hS.1 (by rw [e1]; exact hz), fun q h1 h2 => by rw [e1, hk q (Nat.lt_of_lt_of_le h1 hS.1) (fun z => h2 (hA q (Nat.lt_of_lt_of_le h1 hS.1) z))]; exact hS.2.1 q h1 h2, fun q hq => by
      rcases List.mem_append.mp hq with h | h
      · exact hS.2.2 q h
      · exact hf _ (hL q h)⟩⟩
theorem vx_calli {S SX : Type} {post : Int32 → S → Prop} {px : SX → Prop} {B : S → State → Prop} {BX : String → SX → State → Prop} {AX : Nat → Prop} (hr : vx_Run p l e R s m args below meth c H locs cells slots mc ms (F0 m pc ls st0) rest (va_Qi post B A1 a) (vx_X px BX AX) free) (hS : va_S A0 H0 H locs) (hA : ∀ q, q < H.size → A1 q → A0 q) (hf : ∀ q, free q → A0 q) (hAX : ∀ q, q < H.size → AX q → A0 q)
    (kx : ∀ (E : String) (ce : Cell) (q9 : Addr) (u : SX) (t : State) (H1 : Heap) (locs1 : List Loc), t.heap = H1 → s.vm.Alike t.vm → px u → BX E u t → H.size ≤ H1.size → (∀ q : Nat, q < H.size → ¬ AX q → H1[q]? = H[q]?) → va_S A0 H0 H1 locs1 → H1[q9]? = some ce → ce.vm = .none → s.vm.findClass E = some ce.cls → vx_W p l e R s m args below meth c H1 locs1 (cells + mc) (slots + ms) Q (F0 m pc ls rest) q9)
    (kk : ∀ (r : Int32) (u : S) (t : State) (H1 : Heap) (locs1 : List Loc), t.heap = H1 → s.vm.Alike t.vm → post r u → B u t → H.size ≤ H1.size → (∀ q : Nat, q < H.size → ¬ A1 q → H1[q]? = H[q]?) → va_S A0 H0 H1 locs1 → W p l e R s m args below meth c H1 locs1 (cells + mc) (slots + ms) Q (F0 m (pc + 3) ls (.int r :: rest))) : W p l e R s m args below meth c H locs cells slots Q (F0 m pc ls st0) := by
  intro T hT X
  rcases hr T hT X with ⟨v, st₀, t, T', L, h0, X', hL, e1, e2, ⟨⟨r, u, hv, hp, hb⟩, hF⟩, st⟩ | ⟨q, st₀, t, T', L, E, ce, h0, X', hL, e1, e2, ⟨u, hp, hb, hF⟩, hce, hcv, hcl, st⟩
  · cases hv
    obtain ⟨k1, k2, k3⟩ := vx_keep h0 e1 hS hA hf hL hF
    obtain ⟨t2, a1, b1⟩ := kk r u t T'.heap (locs ++ L) e1.symm (by rw [← e2]; exact X'.warmed.alike) hp hb k1 k2 k3 T' rfl X'
    exact ⟨t2, st t2 a1, b1⟩
  · obtain ⟨k1, k2, k3⟩ := vx_keep h0 e1 hS hAX hf hL hF
    obtain ⟨t2, a1, b1⟩ := kx E ce q u t T'.heap (locs ++ L) e1.symm (by rw [← e2]; exact X'.warmed.alike) hp hb k1 k2 k3 (by rw [e1]; exact hce) hcv hcl T' rfl X'
    exact ⟨t2, st.trans a1, b1⟩
theorem vx_calll {S SX : Type} {post : Int64 → S → Prop} {px : SX → Prop} {B : S → State → Prop} {BX : String → SX → State → Prop} {AX : Nat → Prop} (hr : vx_Run p l e R s m args below meth c H locs cells slots mc ms (F0 m pc ls st0) rest (va_Ql post B A1 a) (vx_X px BX AX) free) (hS : va_S A0 H0 H locs) (hA : ∀ q, q < H.size → A1 q → A0 q) (hf : ∀ q, free q → A0 q) (hAX : ∀ q, q < H.size → AX q → A0 q)
    (kx : ∀ (E : String) (ce : Cell) (q9 : Addr) (u : SX) (t : State) (H1 : Heap) (locs1 : List Loc), t.heap = H1 → s.vm.Alike t.vm → px u → BX E u t → H.size ≤ H1.size → (∀ q : Nat, q < H.size → ¬ AX q → H1[q]? = H[q]?) → va_S A0 H0 H1 locs1 → H1[q9]? = some ce → ce.vm = .none → s.vm.findClass E = some ce.cls → vx_W p l e R s m args below meth c H1 locs1 (cells + mc) (slots + ms) Q (F0 m pc ls rest) q9)
    (kk : ∀ (r : Int64) (u : S) (t : State) (H1 : Heap) (locs1 : List Loc), t.heap = H1 → s.vm.Alike t.vm → post r u → B u t → H.size ≤ H1.size → (∀ q : Nat, q < H.size → ¬ A1 q → H1[q]? = H[q]?) → va_S A0 H0 H1 locs1 → W p l e R s m args below meth c H1 locs1 (cells + mc) (slots + ms) Q (F0 m (pc + 3) ls (.long r :: rest))) : W p l e R s m args below meth c H locs cells slots Q (F0 m pc ls st0) := by
  intro T hT X
  rcases hr T hT X with ⟨v, st₀, t, T', L, h0, X', hL, e1, e2, ⟨⟨r, u, hv, hp, hb⟩, hF⟩, st⟩ | ⟨q, st₀, t, T', L, E, ce, h0, X', hL, e1, e2, ⟨u, hp, hb, hF⟩, hce, hcv, hcl, st⟩
  · cases hv
    obtain ⟨k1, k2, k3⟩ := vx_keep h0 e1 hS hA hf hL hF
    obtain ⟨t2, a1, b1⟩ := kk r u t T'.heap (locs ++ L) e1.symm (by rw [← e2]; exact X'.warmed.alike) hp hb k1 k2 k3 T' rfl X'
    exact ⟨t2, st t2 a1, b1⟩
  · obtain ⟨k1, k2, k3⟩ := vx_keep h0 e1 hS hAX hf hL hF
    obtain ⟨t2, a1, b1⟩ := kx E ce q u t T'.heap (locs ++ L) e1.symm (by rw [← e2]; exact X'.warmed.alike) hp hb k1 k2 k3 (by rw [e1]; exact hce) hcv hcl T' rfl X'
    exact ⟨t2, st.trans a1, b1⟩
theorem vx_callf {S SX : Type} {post : UInt32 → S → Prop} {px : SX → Prop} {B : S → State → Prop} {BX : String → SX → State → Prop} {AX : Nat → Prop} (hr : vx_Run p l e R s m args below meth c H locs cells slots mc ms (F0 m pc ls st0) rest (va_Qf post B A1 a) (vx_X px BX AX) free) (hS : va_S A0 H0 H locs) (hA : ∀ q, q < H.size → A1 q → A0 q) (hf : ∀ q, free q → A0 q) (hAX : ∀ q, q < H.size → AX q → A0 q)
    (kx : ∀ (E : String) (ce : Cell) (q9 : Addr) (u : SX) (t : State) (H1 : Heap) (locs1 : List Loc), t.heap = H1 → s.vm.Alike t.vm → px u → BX E u t → H.size ≤ H1.size → (∀ q : Nat, q < H.size → ¬ AX q → H1[q]? = H[q]?) → va_S A0 H0 H1 locs1 → H1[q9]? = some ce → ce.vm = .none → s.vm.findClass E = some ce.cls → vx_W p l e R s m args below meth c H1 locs1 (cells + mc) (slots + ms) Q (F0 m pc ls rest) q9)
    (kk : ∀ (r : UInt32) (u : S) (t : State) (H1 : Heap) (locs1 : List Loc), t.heap = H1 → s.vm.Alike t.vm → post r u → B u t → H.size ≤ H1.size → (∀ q : Nat, q < H.size → ¬ A1 q → H1[q]? = H[q]?) → va_S A0 H0 H1 locs1 → W p l e R s m args below meth c H1 locs1 (cells + mc) (slots + ms) Q (F0 m (pc + 3) ls (.float r :: rest))) : W p l e R s m args below meth c H locs cells slots Q (F0 m pc ls st0) := by
  intro T hT X
  rcases hr T hT X with ⟨v, st₀, t, T', L, h0, X', hL, e1, e2, ⟨⟨r, u, hv, hp, hb⟩, hF⟩, st⟩ | ⟨q, st₀, t, T', L, E, ce, h0, X', hL, e1, e2, ⟨u, hp, hb, hF⟩, hce, hcv, hcl, st⟩
  · cases hv
    obtain ⟨k1, k2, k3⟩ := vx_keep h0 e1 hS hA hf hL hF
    obtain ⟨t2, a1, b1⟩ := kk r u t T'.heap (locs ++ L) e1.symm (by rw [← e2]; exact X'.warmed.alike) hp hb k1 k2 k3 T' rfl X'
    exact ⟨t2, st t2 a1, b1⟩
  · obtain ⟨k1, k2, k3⟩ := vx_keep h0 e1 hS hAX hf hL hF
    obtain ⟨t2, a1, b1⟩ := kx E ce q u t T'.heap (locs ++ L) e1.symm (by rw [← e2]; exact X'.warmed.alike) hp hb k1 k2 k3 (by rw [e1]; exact hce) hcv hcl T' rfl X'
    exact ⟨t2, st.trans a1, b1⟩
theorem vx_calld {S SX : Type} {post : UInt64 → S → Prop} {px : SX → Prop} {B : S → State → Prop} {BX : String → SX → State → Prop} {AX : Nat → Prop} (hr : vx_Run p l e R s m args below meth c H locs cells slots mc ms (F0 m pc ls st0) rest (va_Qd post B A1 a) (vx_X px BX AX) free) (hS : va_S A0 H0 H locs) (hA : ∀ q, q < H.size → A1 q → A0 q) (hf : ∀ q, free q → A0 q) (hAX : ∀ q, q < H.size → AX q → A0 q)
    (kx : ∀ (E : String) (ce : Cell) (q9 : Addr) (u : SX) (t : State) (H1 : Heap) (locs1 : List Loc), t.heap = H1 → s.vm.Alike t.vm → px u → BX E u t → H.size ≤ H1.size → (∀ q : Nat, q < H.size → ¬ AX q → H1[q]? = H[q]?) → va_S A0 H0 H1 locs1 → H1[q9]? = some ce → ce.vm = .none → s.vm.findClass E = some ce.cls → vx_W p l e R s m args below meth c H1 locs1 (cells + mc) (slots + ms) Q (F0 m pc ls rest) q9)
    (kk : ∀ (r : UInt64) (u : S) (t : State) (H1 : Heap) (locs1 : List Loc), t.heap = H1 → s.vm.Alike t.vm → post r u → B u t → H.size ≤ H1.size → (∀ q : Nat, q < H.size → ¬ A1 q → H1[q]? = H[q]?) → va_S A0 H0 H1 locs1 → W p l e R s m args below meth c H1 locs1 (cells + mc) (slots + ms) Q (F0 m (pc + 3) ls (.double r :: rest))) : W p l e R s m args below meth c H locs cells slots Q (F0 m pc ls st0) := by
  intro T hT X
  rcases hr T hT X with ⟨v, st₀, t, T', L, h0, X', hL, e1, e2, ⟨⟨r, u, hv, hp, hb⟩, hF⟩, st⟩ | ⟨q, st₀, t, T', L, E, ce, h0, X', hL, e1, e2, ⟨u, hp, hb, hF⟩, hce, hcv, hcl, st⟩
  · cases hv
    obtain ⟨k1, k2, k3⟩ := vx_keep h0 e1 hS hA hf hL hF
    obtain ⟨t2, a1, b1⟩ := kk r u t T'.heap (locs ++ L) e1.symm (by rw [← e2]; exact X'.warmed.alike) hp hb k1 k2 k3 T' rfl X'
    exact ⟨t2, st t2 a1, b1⟩
  · obtain ⟨k1, k2, k3⟩ := vx_keep h0 e1 hS hAX hf hL hF
    obtain ⟨t2, a1, b1⟩ := kx E ce q u t T'.heap (locs ++ L) e1.symm (by rw [← e2]; exact X'.warmed.alike) hp hb k1 k2 k3 (by rw [e1]; exact hce) hcv hcl T' rfl X'
    exact ⟨t2, st.trans a1, b1⟩
theorem vx_callv {S SX : Type} {post : S → Prop} {px : SX → Prop} {B : S → State → Prop} {BX : String → SX → State → Prop} {AX : Nat → Prop} (hr : vx_Run p l e R s m args below meth c H locs cells slots mc ms (F0 m pc ls st0) rest (va_Qv post B A1 a) (vx_X px BX AX) free) (hS : va_S A0 H0 H locs) (hA : ∀ q, q < H.size → A1 q → A0 q) (hf : ∀ q, free q → A0 q) (hAX : ∀ q, q < H.size → AX q → A0 q)
    (kx : ∀ (E : String) (ce : Cell) (q9 : Addr) (u : SX) (t : State) (H1 : Heap) (locs1 : List Loc), t.heap = H1 → s.vm.Alike t.vm → px u → BX E u t → H.size ≤ H1.size → (∀ q : Nat, q < H.size → ¬ AX q → H1[q]? = H[q]?) → va_S A0 H0 H1 locs1 → H1[q9]? = some ce → ce.vm = .none → s.vm.findClass E = some ce.cls → vx_W p l e R s m args below meth c H1 locs1 (cells + mc) (slots + ms) Q (F0 m pc ls rest) q9)
    (kk : ∀ (u : S) (t : State) (H1 : Heap) (locs1 : List Loc), t.heap = H1 → s.vm.Alike t.vm → post u → B u t → H.size ≤ H1.size → (∀ q : Nat, q < H.size → ¬ A1 q → H1[q]? = H[q]?) → va_S A0 H0 H1 locs1 → W p l e R s m args below meth c H1 locs1 (cells + mc) (slots + ms) Q (F0 m (pc + 3) ls (rest))) : W p l e R s m args below meth c H locs cells slots Q (F0 m pc ls st0) := by
  intro T hT X
  rcases hr T hT X with ⟨v, st₀, t, T', L, h0, X', hL, e1, e2, ⟨⟨u, hv, hp, hb⟩, hF⟩, st⟩ | ⟨q, st₀, t, T', L, E, ce, h0, X', hL, e1, e2, ⟨u, hp, hb, hF⟩, hce, hcv, hcl, st⟩
  · cases hv
    obtain ⟨k1, k2, k3⟩ := vx_keep h0 e1 hS hA hf hL hF
    obtain ⟨t2, a1, b1⟩ := kk u t T'.heap (locs ++ L) e1.symm (by rw [← e2]; exact X'.warmed.alike) hp hb k1 k2 k3 T' rfl X'
    exact ⟨t2, st t2 a1, b1⟩
  · obtain ⟨k1, k2, k3⟩ := vx_keep h0 e1 hS hAX hf hL hF
    obtain ⟨t2, a1, b1⟩ := kx E ce q u t T'.heap (locs ++ L) e1.symm (by rw [← e2]; exact X'.warmed.alike) hp hb k1 k2 k3 (by rw [e1]; exact hce) hcv hcl T' rfl X'
    exact ⟨t2, st.trans a1, b1⟩
/-- caught by the row x of this method's table; the rows ahead don't take it -/
theorem vx_catch {own name : String} {E : String} {ce : Cell} {q : Addr} (hown : s.vm.findClass own = some m.cls) (pre : List ExceptionTableEntry) (x : ExceptionTableEntry) (suf : List ExceptionTableEntry) (hsplit : c.exceptionTable.toList = pre ++ x :: suf)
    (hpass : ∀ z ∈ pre, covers z pc = false ∨ (z.catchType ≠ 0 ∧ ∃ nm : String, (Cond.classLink own z.catchType nm).before args s = true ∧ va_Nc E nm s)) (hx : covers x pc = true) (h0 : x.catchType ≠ 0)
    (hlink : (Cond.classLink own x.catchType name).before args s = true) (hcast : (Cond.castable E name).before args s = true) (hcell : H[q]? = some ce) (hv : ce.vm = .none) (hcl : s.vm.findClass E = some ce.cls)
    (kk : W p l e R s m args below meth c H locs cells slots Q (F0 m x.handlerPc ls [.ref q])) : vx_W p l e R s m args below meth c H locs cells slots Q (F0 m pc ls rest) q := by
  intro T hT X
  have hpl : e.platform.magicAccessors = ({} : Platform).magicAccessors := by rw [X.admits.platform]
  obtain ⟨c3, c4, hc3, hc4, hasg⟩ := Cond.castable_spec hcast
  cases Option.some.inj (hc3.symm.trans hcl)
  obtain ⟨c5, hc5, hcl5⟩ := Cond.classLink_spec hown hlink e.platform hpl
  cases Option.some.inj (hc4.symm.trans hc5)
  obtain ⟨vm', X', st⟩ := X.thenCaughtThrough q (g := F0 m pc ls rest) rfl (Steps.refl _) (by rw [hT]; exact hcell) (by rw [hv]; rfl) (by obtain ⟨k9, h9, -⟩ := Vm.findClass_spec hcl; exact ⟨k9, h9⟩) pre x suf hsplit
    (fun z hz => by
      rcases hpass z hz with h | ⟨hz0, nm, hl1, hn1⟩
      · exact Or.inl h
      · obtain ⟨c6, hc6, hcl6⟩ := Cond.classLink_spec hown hl1 e.platform hpl
        obtain ⟨a8, b8, h1, h2, h3⟩ := hn1
        cases Option.some.inj (h1.symm.trans hcl)
        cases Option.some.inj (h2.symm.trans hc6)
        exact Or.inr ⟨hz0, _, hcl6, h3⟩) hx (Or.inr ⟨h0, c4, hcl5, hasg⟩)
  obtain ⟨t, a1, b1⟩ := kk (T.setVm vm') hT X'
  exact ⟨t, st.trans a1, b1⟩
end Rows
section Ends
variable {p : Program} {l : Launch} {e : Env} {R : Room} {s : State} {m : MethodId} {args : Array Value} {below : List Frame} {meth : Method} {c : Code} {H : Heap} {locs : List Loc} {cells slots : Nat} {Q : State → Prop}
variable {mc ms : Nat} {free : Addr → Prop} {A0 A1 : Nat → Prop} {H0 : Heap} {a : Array Value} {ls : Array Slot} {st0 rest : List Value}
variable {Qc : Array Value → State → Outcome → State → Prop} {XC : String → State → State → Prop}
/-- what a body that may throw owes at its end -/
def vx_MQ (below : List Frame) (Qc : Array Value → State → Outcome → State → Prop) (XC : String → State → State → Prop) (a : Array Value) (s : State) (mc ms : Nat) (free : Addr → Prop) : State → Prop := fun t =>
  ∃ o, t.status = .running ∧ Ended t below o ∧ vx_Q Qc XC mc ms free a s o t
theorem vx_ret {g : JFrame} {mc ms : Nat} (k : W p l e R s m args below meth c H locs cells slots (MQ below Qc args s mc ms free) g) : W p l e R s m args below meth c H locs cells slots (vx_MQ below Qc XC args s mc ms free) g := by
  intro T hT X
  obtain ⟨t, a1, o, b1, b2, b3, b4⟩ := k T hT X
  exact ⟨t, a1, o, b1, b2, Or.inl ⟨b3, b4⟩⟩
/-- not caught here: it goes on to the caller -/
theorem vx_widen {g : JFrame} {q : Addr} {k n : Nat} (h1 : cells ≤ k) (h2 : slots ≤ n) (kk : vx_W p l e R s m args below meth c H locs k n Q g q) : vx_W p l e R s m args below meth c H locs cells slots Q g q := fun T hT X => kk T hT (stand_widen X h1 h2)
theorem vx_out {pc : Nat} {E : String} {ce : Cell} {q : Addr} {mc ms : Nat} (hout : ∀ x ∈ c.exceptionTable.toList, covers x pc = false) (hlocks : meth.locks = false) (hcell : H[q]? = some ce) (hv : ce.vm = .none) (hcl : s.vm.findClass E = some ce.cls)
    (hx : ∀ t : State, t.heap = H → s.vm.Alike t.vm → XC E s t) (hf : ∀ z ∈ locs, free z.base) (hc : cells ≤ mc) (hs : slots ≤ ms) :
    vx_W p l e R s m args below meth c H locs cells slots (vx_MQ below Qc XC args s mc ms free) (F0 m pc ls rest) q := by
  intro T hT X
  obtain ⟨st1, hrun, hend, hW, hsm⟩ := X.leaveThrown q (g := F0 m pc ls rest) rfl rfl rfl hout hlocks
  have hcell9 : (T.setFrames (.throwing q :: below)).heap[q]? = some ce := by
    show T.heap[q]? = some ce
    rw [hT]; exact hcell
  exact ⟨_, st1, .threw q, hrun, hend, Or.inr ⟨q, rfl, E, ce, locs, hx _ hT hW.alike, hcell9, hv, hcl, hW, hsm.mono hc hs, hf⟩⟩
theorem vx_frame {U : State} {k n : Nat} (h : s.sameButNew ({ U with vm := s.vm } : State) locs k n) : s.heap.size ≤ U.heap.size ∧ ∀ q : Nat, q < s.heap.size → (∀ z ∈ locs, z.base ≠ q) → U.heap[q]? = s.heap[q]? := by
  obtain ⟨-, h2, -, -, -, h6⟩ := h
  refine ⟨h2, fun q hq hz => ?_⟩
  obtain ⟨c9, e1, e2, e3, e4⟩ := h6 q _ (Array.getElem?_eq_getElem hq)
  have hs : c9.slots = (s.heap[q]).slots := Array.ext_getElem? fun i => e4 i fun hm => hz _ hm rfl
  have h9 : c9 = s.heap[q] := by
    rw [hs] at e2
    exact e2
  have e5 : U.heap[q]? = some c9 := e1
  rw [e5, h9, Array.getElem?_eq_getElem hq]
/-- the words of a throw but the four that speak of the heap -/
def vx_no (w : Cond) : Bool := decide (w ≠ .isRef (.static Bundle.tN "UNASSIGNED_STACK" Bundle.steD)) && decide (w ≠ .isRef (.static Bundle.tN "SUPPRESSED_SENTINEL" Bundle.listD)) && decide (w ≠ .laysStatic Bundle.tN "UNASSIGNED_STACK" Bundle.steD) && decide (w ≠ .laysStatic Bundle.tN "SUPPRESSED_SENTINEL" Bundle.listD)
def vx_at0 (own : String) (ic : Nat) (X : String) (names : List String) : List Cond := (Bundle.ownAtoms0 own ic X names).filter vx_no
def vx_atS (own : String) (ic : Nat) (X : String) (names : List String) : List Cond := (Bundle.ownAtoms own ic X names).filter vx_no
/-- a word that the tables alone decide, or a good one -/
def vx_ot (w : Cond) : Bool := w.onTables || goodWord w
theorem vx_ot_at {args a' : Array Value} {s U : State} {w : Cond} (hW : s.WarmedH U.vm) (hvm : s.vm = U.vm) (hg : vx_ot w = true) (h : w.before args s = true) : w.before a' U = true := by
  simp only [vx_ot, Bool.or_eq_true] at hg
  rcases hg with hg | hg
  · exact va_tabs hg hvm h
  · exact word_at hW (good_of_word hg) h
/-- a list's words: the good ones out of the method's own list, the others by premises of their own -/
theorem vx_hat {args : Array Value} {s : State} {L B : List Cond} (h1 : ∀ w ∈ L.filter goodWord, w.before args s = true) (h2 : ∀ w ∈ L.filter (fun w => !goodWord w), w ∈ B) (h3 : ∀ w ∈ B, w.before args s = true) : ∀ w ∈ L, w.before args s = true := by
  intro w hw
  by_cases g : goodWord w = true
  · exact h1 w (List.mem_filter.mpr ⟨hw, g⟩)
  · refine h3 w (h2 w (List.mem_filter.mpr ⟨hw, ?_⟩))
    show (!goodWord w) = true
    cases hgw : goodWord w
    · rfl
    · exact absurd hgw g
theorem vx_c {args : Array Value} {s : State} {w : Cond} {B : List Cond} (h : w.before args s = true) (t : ∀ w ∈ B, w.before args s = true) : ∀ w' ∈ w :: B, w'.before args s = true := fun w' h' => (List.mem_cons.mp h').elim (fun e => by rw [e]; exact h) (t w')
theorem vx_n {args : Array Value} {s : State} : ∀ w ∈ ([] : List Cond), w.before args s = true := fun _ h => nomatch h
theorem vx_own {args : Array Value} {s : State} {L : List Cond} (h1 : ∀ w ∈ L.filter vx_no, w.before args s = true)
    (hU : (Cond.isRef (.static Bundle.tN "UNASSIGNED_STACK" Bundle.steD)).before args s = true) (hN : (Cond.isRef (.static Bundle.tN "SUPPRESSED_SENTINEL" Bundle.listD)).before args s = true)
    (lU : (Cond.laysStatic Bundle.tN "UNASSIGNED_STACK" Bundle.steD).before args s = true) (lN : (Cond.laysStatic Bundle.tN "SUPPRESSED_SENTINEL" Bundle.listD).before args s = true) : ∀ w ∈ L, w.before args s = true := by
  intro w hw
  by_cases e1 : w = .isRef (.static Bundle.tN "UNASSIGNED_STACK" Bundle.steD)
  · rw [e1]; exact hU
  · by_cases e2 : w = .isRef (.static Bundle.tN "SUPPRESSED_SENTINEL" Bundle.listD)
    · rw [e2]; exact hN
    · by_cases e3 : w = .laysStatic Bundle.tN "UNASSIGNED_STACK" Bundle.steD
      · rw [e3]; exact lU
      · by_cases e4 : w = .laysStatic Bundle.tN "SUPPRESSED_SENTINEL" Bundle.listD
        · rw [e4]; exact lN
        · exact h1 w (List.mem_filter.mpr ⟨hw, by unfold vx_no; rw [decide_eq_true e1, decide_eq_true e2, decide_eq_true e3, decide_eq_true e4]; rfl⟩)
/-- where a static field lies, its class's statics cell in H -/
def vx_L (C n d : String) (A : Nat → Prop) (U : State) (H : Heap) : Prop := ∃ (c : ClassId) (k : Class) (i : Nat) (f : Field) (a : Nat) (cell : Cell), U.vm.findClass C = some c ∧ U.fieldFound? C n d = some (c, k, i, f) ∧ f.isStatic = true ∧ k.statics = some a ∧ H[a]? = some cell ∧ cell.vm.isStatics = true ∧ cell.cls = c ∧ f.slot < cell.slots.size ∧ k.staticTypes[f.slot]? = some f.type ∧ ¬ A a
theorem vx_L.moved {C n d : String} {A : Nat → Prop} {u U : State} {H : Heap} (hvm : u.vm.Alike U.vm) (h : vx_L C n d A u H) : vx_L C n d A U H := by
  obtain ⟨c, k, i, f, a, cell, h1, h2, h3, h4, h5, h6, h7, h8, h9, h10⟩ := h
  obtain ⟨k', hi', he⟩ := State.fieldFound?_setVm hvm h2
  exact ⟨c, k', i, f, a, cell, by rw [hvm.findClass]; exact h1, hi', h3, by rw [he]; exact h4, h5, h6, h7, h8, by rw [he]; exact h9, h10⟩
theorem vx_L.kept {C n d : String} {A : Nat → Prop} {U : State} {H H1 : Heap} (h : vx_L C n d A U H) (hq : ∀ a : Nat, a < H.size → ¬ A a → H1[a]? = H[a]?) : vx_L C n d A U H1 := by
  obtain ⟨c, k, i, f, a, cell, h1, h2, h3, h4, h5, h6, h7, h8, h9, h10⟩ := h
  exact ⟨c, k, i, f, a, cell, h1, h2, h3, h4, by rw [hq a (Array.getElem?_eq_some_iff.mp h5).1 h10]; exact h5, h6, h7, h8, h9, h10⟩
theorem vx_L.narrow {C n d : String} {A B : Nat → Prop} {U : State} {H : Heap} (h : vx_L C n d A U H) (hAB : ∀ q, B q → A q) : vx_L C n d B U H := by
  obtain ⟨c, k, i, f, a, cell, h1, h2, h3, h4, h5, h6, h7, h8, h9, h10⟩ := h
  exact ⟨c, k, i, f, a, cell, h1, h2, h3, h4, h5, h6, h7, h8, h9, fun z => h10 (hAB _ z)⟩
theorem vx_L.word {C n d : String} {A : Nat → Prop} {s : State} {args : Array Value} (h : vx_L C n d A s s.heap) : (Cond.laysStatic C n d).before args s = true := by
  obtain ⟨c, k, i, f, a, cell, h1, h2, h3, h4, h5, h6, h7, h8, h9, -⟩ := h
  show (Cond.laysStatic C n d).holds args s none s [] = true
  exact Cond.laysStatic_of h1 h2 h3 h4 h5 h6 h7 h8 h9
/-- .. and what it holds: null or some reference -/
def vx_Zq (C n d : String) (A : Nat → Prop) (U : State) (H : Heap) : Prop := va_Zq C n d A U H ∧ vx_L C n d A U H
theorem vx_Zq.moved {C n d : String} {A : Nat → Prop} {u U : State} {H : Heap} (hvm : u.vm.Alike U.vm) (h : vx_Zq C n d A u H) : vx_Zq C n d A U H := ⟨va_Zq.moved hvm h.1, vx_L.moved hvm h.2⟩
theorem vx_Zq.kept {C n d : String} {A : Nat → Prop} {U : State} {H H1 : Heap} (h : vx_Zq C n d A U H) (hq : ∀ a : Nat, a < H.size → ¬ A a → H1[a]? = H[a]?) : vx_Zq C n d A U H1 := ⟨va_Zq.kept h.1 hq, vx_L.kept h.2 hq⟩
theorem vx_Zq.narrow {C n d : String} {A B : Nat → Prop} {U : State} {H : Heap} (h : vx_Zq C n d A U H) (hAB : ∀ q, B q → A q) : vx_Zq C n d B U H := ⟨va_Zq.narrow h.1 hAB, vx_L.narrow h.2 hAB⟩
theorem vx_Zqof {args : Array Value} {s : State} {C n d : String} {A : Nat → Prop} (hl : (Cond.laysStatic C n d).before args s = true) (hini : (Cond.initialized C).before args s = true) (h : (Cond.isRef (.static C n d)).before args s = true) (hA : ∀ a : Nat, a < s.heap.size → ¬ A a) : vx_Zq C n d A s s.heap := by
  refine ⟨va_Zqof hl hini h hA, ?_⟩
  obtain ⟨c, k, i, f, a, cell, h1, h2, h3, h4, h5, h6, h7, h8, h9⟩ := Cond.laysStatic_spec hl
  exact ⟨c, k, i, f, a, cell, h1, h2, h3, h4, h5, h6, h7, h8, h9, hA a (Array.getElem?_eq_some_iff.mp h5).1⟩
theorem vx_isRef {C n d : String} {v : Value} {A : Nat → Prop} {s : State} {args : Array Value} (h : va_Z C n d v A s s.heap) (hv : v.isRef = true) : (Cond.isRef (.static C n d)).before args s = true := by
  obtain ⟨cf, kf, fi, f, a, cell, h1, h2, h3, h4, h5, h6, h7, -⟩ := h
  have he : (Term.static C n d).eval args s none [] s = some v := by
    simp [Term.eval, State.fieldNamed?, h1, h2, h4, h5, h6, h7]
  simp only [Cond.before, Cond.holds, Cond.value, he]
  cases v <;> simp_all [Value.isRef]
theorem vx_isRefq {C n d : String} {A : Nat → Prop} {s : State} {args : Array Value} (h : va_Zq C n d A s s.heap) : (Cond.isRef (.static C n d)).before args s = true := by
  rcases h with h | ⟨t, h⟩
  · exact vx_isRef h rfl
  · exact vx_isRef h rfl
/-- the same frame, seen from here: as if the method were called anew in this heap -/
theorem vx_rebase {T : State} (X : Stand p l e R s m args below meth c T locs cells slots) {R' : Room} (hf : R'.frames ≤ R.frames) (hl : R'.locals ≤ R.locals) (hc : cells + R'.cells ≤ R.cells) (hs : slots + R'.slots ≤ R.slots) :
    Stand p l e R' ((T.setVm s.vm).setFrames (.invoking m args :: below)) m args below meth c T [] 0 0 := by
  have htop : (T.setVm s.vm).topJava?.isSome := X.here.top
  have hF : ((T.setVm s.vm).setFrames (.invoking m args :: below)).frames = .invoking m args :: below := State.frames_setFrames _ (State.cur_lt_of_top htop)
  obtain ⟨g₀, hg0⟩ := Option.isSome_iff_exists.mp htop
  obtain ⟨r, hr⟩ := State.topJava?_eq_some.mp hg0
  have hl9 : e.platform.stackLimits (T.setVm s.vm).me = e.platform.stackLimits s.me := X.limits
  have hb9 : (T.setVm s.vm).me.stackBytes = s.me.stackBytes := X.bytes
  refine ⟨X.admits, X.cas, X.clock, hF, ?_, X.hears, X.method, X.code, X.here, X.tail, X.warmed, ?_, ?_, ?_⟩
  · have h := X.room
    have hU : ((T.setVm s.vm).setFrames (.invoking m args :: below)).localsInUse = s.localsInUse := by
      rw [State.localsInUse_invoking hF (meth := meth) (c := c) X.method X.code, State.localsInUse_invoking X.frames X.method X.code]
    simp only [State.hasRoom, Bool.and_eq_true, decide_eq_true_eq] at h ⊢
    obtain ⟨⟨⟨⟨h1, h2, h3, h4, h5, h6⟩, h7⟩, h8⟩, h9⟩ := h
    rw [X.frames, List.length_cons] at h2 h3
    have q1 := X.heapSize
    have q2 := X.used
    simp only [hF, hU, List.length_cons, State.stackLimits_setFrames, State.stackBytes_setFrames, hl9, hb9]
    refine ⟨⟨⟨⟨by omega, by omega, by omega, by omega, by omega, h6⟩, ?_⟩, ?_⟩, X.book⟩
    · show T.heap.size + R'.cells ≤ e.platform.maxCells
      omega
    · show T.slotsUsed + R'.slots ≤ e.platform.maxSlots
      omega
  · rw [State.stackLimits_setFrames]; rfl
  · rw [State.stackBytes_setFrames]; rfl
  · refine ⟨?_, Nat.le_refl _, Nat.le_refl _, ?_, ?_, fun a c9 h9 => ⟨c9, h9, rfl, rfl, fun _ _ => rfl⟩⟩
    · obtain ⟨t, ht, -⟩ := State.frames_cons hr
      show T.setVm s.vm = { ((T.setVm s.vm).setFrames (.invoking m args :: below)).setFrames (T.setVm s.vm).frames with heap := T.heap, slotsUsed := T.slotsUsed }
      rw [State.setFrames_setFrames, State.setFrames_self ht]
      rfl
    · show T.slotsUsed = T.slotsUsed + ((T.heap.toList.drop T.heap.size).map (·.slots.size)).sum
      rw [List.drop_eq_nil_of_le (Nat.le_of_eq Array.length_toList)]
      rfl
    · show ((T.heap.toList.drop T.heap.size).map (·.slots.size)).sum ≤ 0
      rw [List.drop_eq_nil_of_le (Nat.le_of_eq Array.length_toList)]
      exact Nat.le_refl _
/-- 'throw new E()': new; dup; invokespecial; athrow -/
theorem vx_throw0 {cc : ByteArray} {pc : Nat} (hexec : p.tables.exec = Jvm.exec) (hb : c.code = cc) (hl : l.stackTraces = false) {own cls : String} {names : List String} {ik ic mc ms : Nat} {A : Nat → Prop}
    (hown : s.vm.findClass own = some m.cls) (hcls : Bundle.fit cls = true) (hnames : ∀ n ∈ names, Bundle.fit n = true)
    (hk : (Cond.classLink own ik cls).before args s = true) (hini : (Cond.initialized cls).before args s = true) (hat : ∀ w ∈ vx_at0 own ic cls names, w.before args s = true)
    (hgood : ∀ w ∈ Cond.classLink own ik cls :: Cond.initialized cls :: vx_at0 own ic cls names, vx_ot w = true)
    (hU : vx_Zq Bundle.tN "UNASSIGNED_STACK" Bundle.steD A s s.heap) (hN : vx_Zq Bundle.tN "SUPPRESSED_SENTINEL" Bundle.listD A s s.heap) (hS : va_S A s.heap H locs) (hsize : ls.size = c.maxLocals)
    (d0 : decode cc pc = .ok (.new ik, 3)) (d3 : decode cc (pc + 3) = .ok (.dup, 1)) (d4 : decode cc (pc + 4) = .ok (.invokespecial ic, 3)) (d7 : decode cc (pc + 7) = .ok (.athrow, 1))
    (hout : ∀ x ∈ c.exceptionTable.toList, covers x (pc + 7) = false)
    (hRframes : names.length + 3 < R.frames) (hRlocals : (rest.map fun v => v.category).sum + (13 * (names.length + 1) + 42) ≤ R.locals) (hRcells : cells + 1 ≤ R.cells) (hRslots : slots + 6 ≤ R.slots) (hlocks : meth.locks = false)
    (hx : ∀ t : State, s.vm.Alike t.vm → H.size ≤ t.heap.size → (∀ q : Nat, q < H.size → t.heap[q]? = H[q]?) → XC cls s t)
    (hf : ∀ z ∈ locs, free z.base) (hc : cells + 1 ≤ mc) (hs : slots + 6 ≤ ms) :
    W p l e R s m args below meth c H locs cells slots (vx_MQ below Qc XC args s mc ms free) (F0 m pc ls rest) := by
  intro T hT X
  have htr : e.platform.stackTraces = false := (show e.platform.stackTraces = l.stackTraces by rw [X.admits.platform]).trans hl
  have Y := vx_rebase X (R' := { frames := R.frames, locals := R.locals, cells := 1, slots := 6 }) (Nat.le_refl _) (Nat.le_refl _) hRcells hRslots
  obtain ⟨s', hA⟩ : ∃ z, z = (T.setVm s.vm).setFrames (.invoking m args :: below) := ⟨_, rfl⟩
  rw [← hA] at Y
  have hvm : s'.vm = s.vm := by rw [hA]; rfl
  have hhp : s'.heap = H := by rw [hA]; exact hT
  have hW0 : s.WarmedH s'.vm := by rw [hvm]; exact State.WarmedH.refl s
  have hat' : ∀ w ∈ vx_at0 own ic cls names, w.before args s' = true := fun w hw => vx_ot_at hW0 hvm.symm (hgood w (List.mem_cons_of_mem _ (List.mem_cons_of_mem _ hw))) (hat w hw)
  have hk' : (Cond.classLink own ik cls).before args s' = true := vx_ot_at hW0 hvm.symm (hgood _ List.mem_cons_self) hk
  have hini' : (Cond.initialized cls).before args s' = true := vx_ot_at hW0 hvm.symm (hgood _ (List.mem_cons_of_mem _ List.mem_cons_self)) hini
  have hU' : vx_Zq Bundle.tN "UNASSIGNED_STACK" Bundle.steD A s' s'.heap := by rw [hhp]; exact vx_Zq.moved hW0.alike (hU.kept hS.2.1)
  have hN' : vx_Zq Bundle.tN "SUPPRESSED_SENTINEL" Bundle.listD A s' s'.heap := by rw [hhp]; exact vx_Zq.moved hW0.alike (hN.kept hS.2.1)
  have h : ∀ w ∈ Bundle.ownAtoms0 own ic cls names, w.before args s' = true := vx_own hat' (vx_isRefq hU'.1) (vx_isRefq hN'.1) hU'.2.word hN'.2.word
  have hown' : s'.vm.findClass own = some m.cls := by rw [hvm]; exact hown
  have hins : (Cond.instantiable cls 6).before args s' = true := h _ (by simp [Bundle.ownAtoms0])
  obtain ⟨vm₁, cX, kX, hfX, hkX, -, -, X₁, st1⟩ := Y.newCold hexec (own := own) (C := cls) (index := ik) (n := 6) hown' hk' hins hini'
    (g := F0 m pc ls rest) rfl (by rw [hb]; exact d0) (Nat.le_refl _) (Nat.le_refl _)
  generalize hT1 : (T.setVm vm₁).pushCell { cls := cX, slots := kX.instanceTypes.map defaultValue, vm := .none } = T1 at X₁ st1
  have hcat : (Value.ref T.heap.size).category = 1 := rfl
  have hcellA : T1.heap[T.heap.size]? = some (freshCell cX kX) := by rw [← hT1]; exact State.heap_pushCell_size _ _
  have d3' : decode c.code (pc + 3) = .ok (.dup, 1) := by rw [hb]; exact d3
  obtain ⟨U, hsteps, hrun, hend, hW, hsame, ce, hce, hO⟩ := X₁.ctorThrow0 hexec htr (own := own) (cls := cls) (names := names) (ic := ic) hown' hcls hnames h (fun x hx => nomatch hx) hfX hkX hcellA (by rw [hhp, hT]; exact Nat.le_refl _)
    (g := { method := m, pc := pc + 4, locals := ls, stack := .ref T.heap.size :: .ref T.heap.size :: rest, locked := none }) rfl hsize rfl rfl (rest := rest) rfl
    (by rw [hb]; exact d4) (by rw [hb]; exact d7) hout hRframes (by simp only [List.map_cons, List.sum_cons, hcat]; omega) hlocks
  obtain ⟨f1, f2⟩ := vx_frame hsame
  rw [hhp] at f1 f2
  have hWs : s.WarmedH U.vm := State.WarmedH.trans hW0 hW
  have hcl : s.vm.findClass cls = some ce.cls := by
    have h9 := hO.cls
    rw [hvm] at h9
    exact h9
  have hall : s.sameButNew ({ U with vm := s.vm } : State) locs mc ms := by
    subst hA
    obtain ⟨e1, e2⟩ := hsame
    rw [State.setFrames_setFrames] at e1
    have h2 : (T.setVm s.vm).sameButNew ({ U with vm := s.vm } : State) [] (0 + 1) (0 + 6) := ⟨e1, e2⟩
    have h3 := X.same.trans h2
    rw [List.append_nil] at h3
    exact h3.mono hc hs
  refine ⟨U, ?_, .threw T.heap.size, hrun, hend, Or.inr ⟨T.heap.size, rfl, cls, ce, locs, hx U hWs.alike f1 (fun q hq => f2 q hq (fun z hz => nomatch hz)), hce, hO.vm, hcl, hWs, hall, hf⟩⟩
  refine st1 _ ?_
  show Steps p.tables e below (T1.setTop { method := m, pc := pc + 3, locals := ls, stack := .ref T.heap.size :: rest, locked := none }) _
  jvm_step X₁.here [X₁.here.top, hexec, d3', Value.category]
  exact hsteps
/-- 'throw new E("text")': new; dup; ldc; invokespecial; athrow -/
theorem vx_throwS {cc : ByteArray} {pc : Nat} (hexec : p.tables.exec = Jvm.exec) (hb : c.code = cc) (hl : l.stackTraces = false) {own cls text : String} {names : List String} {ik is ic mc ms sa : Nat} {A : Nat → Prop}
    (hown : s.vm.findClass own = some m.cls) (hcls : Bundle.fit cls = true) (hnames : ∀ n ∈ names, Bundle.fit n = true)
    (hk : (Cond.classLink own ik cls).before args s = true) (hini : (Cond.initialized cls).before args s = true) (hstr : vk_R own is text sa s) (hat : ∀ w ∈ vx_atS own ic cls names, w.before args s = true)
    (hgood : ∀ w ∈ Cond.classLink own ik cls :: Cond.initialized cls :: vx_atS own ic cls names, vx_ot w = true)
    (hU : vx_Zq Bundle.tN "UNASSIGNED_STACK" Bundle.steD A s s.heap) (hN : vx_Zq Bundle.tN "SUPPRESSED_SENTINEL" Bundle.listD A s s.heap) (hS : va_S A s.heap H locs) (hsize : ls.size = c.maxLocals)
    (d0 : decode cc pc = .ok (.new ik, 3)) (d3 : decode cc (pc + 3) = .ok (.dup, 1)) (d4 : decode cc (pc + 4) = .ok (.ldc is, 2)) (d6 : decode cc (pc + 6) = .ok (.invokespecial ic, 3)) (d9 : decode cc (pc + 9) = .ok (.athrow, 1))
    (hout : ∀ x ∈ c.exceptionTable.toList, covers x (pc + 9) = false)
    (hRframes : names.length + 3 < R.frames) (hRlocals : (rest.map fun v => v.category).sum + (13 * (names.length + 1) + 43) ≤ R.locals) (hRcells : cells + 1 ≤ R.cells) (hRslots : slots + 6 ≤ R.slots) (hlocks : meth.locks = false)
    (hx : ∀ t : State, s.vm.Alike t.vm → H.size ≤ t.heap.size → (∀ q : Nat, q < H.size → t.heap[q]? = H[q]?) → XC cls s t)
    (hf : ∀ z ∈ locs, free z.base) (hc : cells + 1 ≤ mc) (hs : slots + 6 ≤ ms) :
    W p l e R s m args below meth c H locs cells slots (vx_MQ below Qc XC args s mc ms free) (F0 m pc ls rest) := by
  intro T hT X
  have htr : e.platform.stackTraces = false := (show e.platform.stackTraces = l.stackTraces by rw [X.admits.platform]).trans hl
  have Y := vx_rebase X (R' := { frames := R.frames, locals := R.locals, cells := 1, slots := 6 }) (Nat.le_refl _) (Nat.le_refl _) hRcells hRslots
  obtain ⟨s', hA⟩ : ∃ z, z = (T.setVm s.vm).setFrames (.invoking m args :: below) := ⟨_, rfl⟩
  rw [← hA] at Y
  have hvm : s'.vm = s.vm := by rw [hA]; rfl
  have hhp : s'.heap = H := by rw [hA]; exact hT
  have hW0 : s.WarmedH s'.vm := by rw [hvm]; exact State.WarmedH.refl s
  have hat' : ∀ w ∈ vx_atS own ic cls names, w.before args s' = true := fun w hw => vx_ot_at hW0 hvm.symm (hgood w (List.mem_cons_of_mem _ (List.mem_cons_of_mem _ hw))) (hat w hw)
  have hk' : (Cond.classLink own ik cls).before args s' = true := vx_ot_at hW0 hvm.symm (hgood _ List.mem_cons_self) hk
  have hini' : (Cond.initialized cls).before args s' = true := vx_ot_at hW0 hvm.symm (hgood _ (List.mem_cons_of_mem _ List.mem_cons_self)) hini
  have hU' : vx_Zq Bundle.tN "UNASSIGNED_STACK" Bundle.steD A s' s'.heap := by rw [hhp]; exact vx_Zq.moved hW0.alike (hU.kept hS.2.1)
  have hN' : vx_Zq Bundle.tN "SUPPRESSED_SENTINEL" Bundle.listD A s' s'.heap := by rw [hhp]; exact vx_Zq.moved hW0.alike (hN.kept hS.2.1)
  have h : ∀ w ∈ Bundle.ownAtoms own ic cls names, w.before args s' = true := vx_own hat' (vx_isRefq hU'.1) (vx_isRefq hN'.1) hU'.2.word hN'.2.word
  have hown' : s'.vm.findClass own = some m.cls := by rw [hvm]; exact hown
  have hins : (Cond.instantiable cls 6).before args s' = true := h _ (by simp [Bundle.ownAtoms])
  obtain ⟨vm₁, cX, kX, hfX, hkX, -, -, X₁, st1⟩ := Y.newCold hexec (own := own) (C := cls) (index := ik) (n := 6) hown' hk' hins hini'
    (g := F0 m pc ls rest) rfl (by rw [hb]; exact d0) (Nat.le_refl _) (Nat.le_refl _)
  generalize hT1 : (T.setVm vm₁).pushCell { cls := cX, slots := kX.instanceTypes.map defaultValue, vm := .none } = T1 at X₁ st1
  have hcat : (Value.ref T.heap.size).category = 1 := rfl
  have hcellA : T1.heap[T.heap.size]? = some (freshCell cX kX) := by rw [← hT1]; exact State.heap_pushCell_size _ _
  have d3' : decode c.code (pc + 3) = .ok (.dup, 1) := by rw [hb]; exact d3
  have d4' : decode c.code (pc + 4) = .ok (.ldc is, 2) := by rw [hb]; exact d4
  have hstr' : vk_R own is text sa s' := vk_R.warm hW0 hstr
  obtain ⟨U, hsteps, hrun, hend, hW, hsame, ce, hce, hO⟩ := X₁.ctorThrowS hexec htr (own := own) (cls := cls) (names := names) (ic := ic) hown' hcls hnames h (fun x hx => nomatch hx) hfX hkX hcellA (by rw [hhp, hT]; exact Nat.le_refl _) (msg := .ref sa) rfl
    (g := { method := m, pc := pc + 6, locals := ls, stack := .ref sa :: .ref T.heap.size :: .ref T.heap.size :: rest, locked := none }) rfl hsize rfl rfl (rest := rest) rfl
    (by rw [hb]; exact d6) (by rw [hb]; exact d9) hout hRframes (by simp only [List.map_cons, List.sum_cons, hcat]; omega) hlocks
  obtain ⟨f1, f2⟩ := vx_frame hsame
  rw [hhp] at f1 f2
  have hWs : s.WarmedH U.vm := State.WarmedH.trans hW0 hW
  have hcl : s.vm.findClass cls = some ce.cls := by
    have h9 := hO.cls
    rw [hvm] at h9
    exact h9
  have hall : s.sameButNew ({ U with vm := s.vm } : State) locs mc ms := by
    subst hA
    obtain ⟨e1, e2⟩ := hsame
    rw [State.setFrames_setFrames] at e1
    have h2 : (T.setVm s.vm).sameButNew ({ U with vm := s.vm } : State) [] (0 + 1) (0 + 6) := ⟨e1, e2⟩
    have h3 := X.same.trans h2
    rw [List.append_nil] at h3
    exact h3.mono hc hs
  refine ⟨U, ?_, .threw T.heap.size, hrun, hend, Or.inr ⟨T.heap.size, rfl, cls, ce, locs, hx U hWs.alike f1 (fun q hq => f2 q hq (fun z hz => nomatch hz)), hce, hO.vm, hcl, hWs, hall, hf⟩⟩
  refine st1 _ ?_
  show Steps p.tables e below (T1.setTop { method := m, pc := pc + 3, locals := ls, stack := .ref T.heap.size :: rest, locked := none }) _
  jvm_step X₁.here [X₁.here.top, hexec, d3', Value.category]
  exact X₁.ldcString hexec (own := own) (text := text) (index := is) (a := sa) hown' hstr'.1 hstr'.2
    (g := { method := m, pc := pc + 4, locals := ls, stack := .ref T.heap.size :: .ref T.heap.size :: rest, locked := none }) rfl d4' _ hsteps
/-- 'throw new E("text")', the text by a wide index -/
theorem vx_throwSW {cc : ByteArray} {pc : Nat} (hexec : p.tables.exec = Jvm.exec) (hb : c.code = cc) (hl : l.stackTraces = false) {own cls text : String} {names : List String} {ik is ic mc ms sa : Nat} {A : Nat → Prop}
    (hown : s.vm.findClass own = some m.cls) (hcls : Bundle.fit cls = true) (hnames : ∀ n ∈ names, Bundle.fit n = true)
    (hk : (Cond.classLink own ik cls).before args s = true) (hini : (Cond.initialized cls).before args s = true) (hstr : vk_R own is text sa s) (hat : ∀ w ∈ vx_atS own ic cls names, w.before args s = true)
    (hgood : ∀ w ∈ Cond.classLink own ik cls :: Cond.initialized cls :: vx_atS own ic cls names, vx_ot w = true)
    (hU : vx_Zq Bundle.tN "UNASSIGNED_STACK" Bundle.steD A s s.heap) (hN : vx_Zq Bundle.tN "SUPPRESSED_SENTINEL" Bundle.listD A s s.heap) (hS : va_S A s.heap H locs) (hsize : ls.size = c.maxLocals)
    (d0 : decode cc pc = .ok (.new ik, 3)) (d3 : decode cc (pc + 3) = .ok (.dup, 1)) (d4 : decode cc (pc + 4) = .ok (.ldc_w is, 3)) (d7 : decode cc (pc + 7) = .ok (.invokespecial ic, 3)) (d10 : decode cc (pc + 10) = .ok (.athrow, 1))
    (hout : ∀ x ∈ c.exceptionTable.toList, covers x (pc + 10) = false)
    (hRframes : names.length + 3 < R.frames) (hRlocals : (rest.map fun v => v.category).sum + (13 * (names.length + 1) + 43) ≤ R.locals) (hRcells : cells + 1 ≤ R.cells) (hRslots : slots + 6 ≤ R.slots) (hlocks : meth.locks = false)
    (hx : ∀ t : State, s.vm.Alike t.vm → H.size ≤ t.heap.size → (∀ q : Nat, q < H.size → t.heap[q]? = H[q]?) → XC cls s t)
    (hf : ∀ z ∈ locs, free z.base) (hc : cells + 1 ≤ mc) (hs : slots + 6 ≤ ms) :
    W p l e R s m args below meth c H locs cells slots (vx_MQ below Qc XC args s mc ms free) (F0 m pc ls rest) := by
  intro T hT X
  have htr : e.platform.stackTraces = false := (show e.platform.stackTraces = l.stackTraces by rw [X.admits.platform]).trans hl
  have Y := vx_rebase X (R' := { frames := R.frames, locals := R.locals, cells := 1, slots := 6 }) (Nat.le_refl _) (Nat.le_refl _) hRcells hRslots
  obtain ⟨s', hA⟩ : ∃ z, z = (T.setVm s.vm).setFrames (.invoking m args :: below) := ⟨_, rfl⟩
  rw [← hA] at Y
  have hvm : s'.vm = s.vm := by rw [hA]; rfl
  have hhp : s'.heap = H := by rw [hA]; exact hT
  have hW0 : s.WarmedH s'.vm := by rw [hvm]; exact State.WarmedH.refl s
  have hat' : ∀ w ∈ vx_atS own ic cls names, w.before args s' = true := fun w hw => vx_ot_at hW0 hvm.symm (hgood w (List.mem_cons_of_mem _ (List.mem_cons_of_mem _ hw))) (hat w hw)
  have hk' : (Cond.classLink own ik cls).before args s' = true := vx_ot_at hW0 hvm.symm (hgood _ List.mem_cons_self) hk
  have hini' : (Cond.initialized cls).before args s' = true := vx_ot_at hW0 hvm.symm (hgood _ (List.mem_cons_of_mem _ List.mem_cons_self)) hini
  have hU' : vx_Zq Bundle.tN "UNASSIGNED_STACK" Bundle.steD A s' s'.heap := by rw [hhp]; exact vx_Zq.moved hW0.alike (hU.kept hS.2.1)
  have hN' : vx_Zq Bundle.tN "SUPPRESSED_SENTINEL" Bundle.listD A s' s'.heap := by rw [hhp]; exact vx_Zq.moved hW0.alike (hN.kept hS.2.1)
  have h : ∀ w ∈ Bundle.ownAtoms own ic cls names, w.before args s' = true := vx_own hat' (vx_isRefq hU'.1) (vx_isRefq hN'.1) hU'.2.word hN'.2.word
  have hown' : s'.vm.findClass own = some m.cls := by rw [hvm]; exact hown
  have hins : (Cond.instantiable cls 6).before args s' = true := h _ (by simp [Bundle.ownAtoms])
  obtain ⟨vm₁, cX, kX, hfX, hkX, -, -, X₁, st1⟩ := Y.newCold hexec (own := own) (C := cls) (index := ik) (n := 6) hown' hk' hins hini'
    (g := F0 m pc ls rest) rfl (by rw [hb]; exact d0) (Nat.le_refl _) (Nat.le_refl _)
  generalize hT1 : (T.setVm vm₁).pushCell { cls := cX, slots := kX.instanceTypes.map defaultValue, vm := .none } = T1 at X₁ st1
  have hcat : (Value.ref T.heap.size).category = 1 := rfl
  have hcellA : T1.heap[T.heap.size]? = some (freshCell cX kX) := by rw [← hT1]; exact State.heap_pushCell_size _ _
  have d3' : decode c.code (pc + 3) = .ok (.dup, 1) := by rw [hb]; exact d3
  have d4' : decode c.code (pc + 4) = .ok (.ldc_w is, 3) := by rw [hb]; exact d4
  have hstr' : vk_R own is text sa s' := vk_R.warm hW0 hstr
  obtain ⟨U, hsteps, hrun, hend, hW, hsame, ce, hce, hO⟩ := X₁.ctorThrowS hexec htr (own := own) (cls := cls) (names := names) (ic := ic) hown' hcls hnames h (fun x hx => nomatch hx) hfX hkX hcellA (by rw [hhp, hT]; exact Nat.le_refl _) (msg := .ref sa) rfl
    (g := { method := m, pc := pc + 7, locals := ls, stack := .ref sa :: .ref T.heap.size :: .ref T.heap.size :: rest, locked := none }) rfl hsize rfl rfl (rest := rest) rfl
    (by rw [hb]; exact d7) (by rw [hb]; exact d10) hout hRframes (by simp only [List.map_cons, List.sum_cons, hcat]; omega) hlocks
  obtain ⟨f1, f2⟩ := vx_frame hsame
  rw [hhp] at f1 f2
  have hWs : s.WarmedH U.vm := State.WarmedH.trans hW0 hW
  have hcl : s.vm.findClass cls = some ce.cls := by
    have h9 := hO.cls
    rw [hvm] at h9
    exact h9
  have hall : s.sameButNew ({ U with vm := s.vm } : State) locs mc ms := by
    subst hA
    obtain ⟨e1, e2⟩ := hsame
    rw [State.setFrames_setFrames] at e1
    have h2 : (T.setVm s.vm).sameButNew ({ U with vm := s.vm } : State) [] (0 + 1) (0 + 6) := ⟨e1, e2⟩
    have h3 := X.same.trans h2
    rw [List.append_nil] at h3
    exact h3.mono hc hs
  refine ⟨U, ?_, .threw T.heap.size, hrun, hend, Or.inr ⟨T.heap.size, rfl, cls, ce, locs, hx U hWs.alike f1 (fun q hq => f2 q hq (fun z hz => nomatch hz)), hce, hO.vm, hcl, hWs, hall, hf⟩⟩
  refine st1 _ ?_
  show Steps p.tables e below (T1.setTop { method := m, pc := pc + 3, locals := ls, stack := .ref T.heap.size :: rest, locked := none }) _
  jvm_step X₁.here [X₁.here.top, hexec, d3', Value.category]
  exact X₁.ldcStringW hexec (own := own) (text := text) (index := is) (a := sa) hown' hstr'.1 hstr'.2
    (g := { method := m, pc := pc + 4, locals := ls, stack := .ref T.heap.size :: .ref T.heap.size :: rest, locked := none }) rfl d4' _ hsteps
end Ends
section Bodies
variable {l : Launch}
theorem vx_ofW {y : MethodName} {ws ws' : List Cond} {rm : Room} {Pc : Array Value → State → Prop} {Qc : Array Value → State → Outcome → State → Prop} {XC : String → State → State → Prop} {mc ms : Nat} {free : Addr → Prop} {cc : ByteArray} {maxL : Nat} {ret : Option FieldType}
    (hy : plainName y.cls = true) (hw : ws = Cond.code y cc maxL ret :: ws')
    (body : ∀ p e s m args below meth c s₁, BodyLoose p l y (headSpec ws rm) cc maxL ret e s m args below meth c s₁ → c.maxLocals = maxL → (∀ x ∈ c.exceptionTable.toList, False) → Pc args s →
      W p l e (headSpec ws rm).room s m args below meth c s.heap [] 0 0 (vx_MQ below Qc XC args s mc ms free) (entryFrame m args maxL)) : vx_Met l y ws rm Pc Qc XC mc ms free := by
  refine MetFree.of_bodyS (code := cc) (maxLocals := maxL) (ret := ret) hy ?_ ?_
  · intro args s m h hn
    obtain ⟨meth, c, h1, h2, h3, h4, h5, h6, -, -⟩ := Cond.code_spec hn (atoms_spec (ws := ws) h _ (by rw [hw]; exact List.mem_cons_self))
    exact ⟨meth, c, h1, h2, h3, h4, h5, h6⟩
  · intro p e s m args below meth c s₁ B hml hP _
    have hh0 : s₁.heap = s.heap := by rw [B.state]; rfl
    have ht : ∀ x ∈ c.exceptionTable.toList, False := by
      obtain ⟨meth9, c9, h1, h2, -, -, -, -, h7, -⟩ := Cond.code_spec B.named (atoms_spec (ws := ws) B.pre _ (by rw [hw]; exact List.mem_cons_self))
      cases Option.some.inj (h1.symm.trans B.method)
      cases Option.some.inj (h2.symm.trans (Stand.of_body B).code)
      intro x hx
      rw [Array.isEmpty_iff.mp h7] at hx
      cases hx
    obtain ⟨t, a1, o, b1, b2, b3⟩ := body p e s m args below meth c s₁ B hml ht hP s₁ hh0 (Stand.of_body B)
    exact ⟨t, o, a1, b1, b2, b3⟩
/-- the table of a body with handlers -/
theorem vx_table {p : Program} {x y : MethodName} {S : Spec} {cc bytes : ByteArray} {maxL maxL' : Nat} {ret ret' : Option FieldType} {e : Env} {s s₁ : State} {m : MethodId} {args : Array Value} {below : List Frame} {meth : Method} {c : Code} {hh : List (Nat × Nat × Nat × Nat)}
    (B : BodyLoose p l y S cc maxL ret e s m args below meth c s₁) (h : (Cond.codeWith y bytes maxL' ret' hh).before args s = true) : c.exceptionTable.toList = tableOf hh := by
  obtain ⟨m9, meth9, c9, hn9, h1, h2, -, -, h6, -⟩ := Cond.codeWith_spec h
  cases Option.some.inj (hn9.symm.trans B.named)
  cases Option.some.inj (h1.symm.trans B.method)
  cases Option.some.inj (h2.symm.trans (Stand.of_body B).code)
  rw [← h6, table_eq]
end Bodies
end VXA
/-! ===== END ===== -/
/-! ===== BEGIN a static call of a method with an exception table ===== -/
section VXS
variable {p : Program} {l : Launch} {e : Env} {R : Room} {s : State} {m : MethodId} {args : Array Value} {below : List Frame} {meth : Method} {c : Code} {T : State} {H : Heap} {locs : List Loc} {cells slots : Nat}
abbrev vx_CSW (R : Room) (s : State) (args : Array Value) (own : String) (index : Nat) (y : MethodName) (bytes : ByteArray) (maxL : Nat) (ret : Option FieldType) (hh : List (Nat × Nat × Nat × Nat)) (ws : List Cond) (rm : Room) (mc ms n : Nat) : Prop :=
  (rm.cells = mc ∧ rm.slots = ms ∧ rm.frames + 1 ≤ R.frames ∧ 8 + (maxL + 11) + rm.locals ≤ R.locals ∧ (∀ w ∈ ws, ∀ (a' : Array Value) (U : State), s.WarmedH U.vm → w.before a' U = true) ∧ Cond.codeWith y bytes maxL ret hh ∈ ws) ∧
  (Cond.codeWith y bytes maxL ret hh).before args s = true ∧ (Cond.initialized y.cls).before args s = true ∧ (y.cls ≠ "java/lang/invoke/MethodHandle" ∧ y.cls ≠ "java/lang/invoke/VarHandle") ∧
  (∀ sig, parseMethodDescriptor y.desc = some sig → n = sig.parameters.length) ∧ (Cond.methodLink own index y).before args s = true ∧ (Cond.static y).before args s = true
theorem vx_cwSW {own : String} {index maxL mc ms : Nat} {y : MethodName} {bytes : ByteArray} {ret : Option FieldType} {hh : List (Nat × Nat × Nat × Nat)} {Ts ws ws' : List Cond} {rm : Room} (n : Nat) (ht : ∀ w ∈ Ts, w.before args s = true) (hT : GoodIn Ts (va_wsS own index y ws)) (hw : ws = Cond.codeWith y bytes maxL ret hh :: ws') (hrc : rm.cells = mc) (hrs : rm.slots = ms)
    (hd : y.cls ≠ "java/lang/invoke/MethodHandle" ∧ y.cls ≠ "java/lang/invoke/VarHandle" ∧ (parseMethodDescriptor y.desc).map (fun d => d.parameters.length) = some n) (hR : rm.frames + 1 ≤ R.frames ∧ 8 + (maxL + 11) + rm.locals ≤ R.locals) :
    vx_CSW R s args own index y bytes maxL ret hh ws rm mc ms n := by
  have ok : ∀ w ∈ va_wsS own index y ws, w.before args s = true := fun w h => ht w (hT w h).1
  have hG : GoodIn Ts ws := fun w h => hT w (by unfold va_wsS; exact List.mem_append_right _ h)
  have hc : Cond.codeWith y bytes maxL ret hh ∈ ws := by rw [hw]; exact List.mem_cons_self
  refine ⟨⟨hrc, hrs, hR.1, hR.2, pay_in ht hG, hc⟩, ht _ (hG _ hc).1, ok _ (by simp [va_wsS]), ⟨hd.1, hd.2.1⟩, fun sig h => ?_, ok _ (by simp [va_wsS]), ok _ (by simp [va_wsS])⟩
  have h2 := hd.2.2
  rw [h] at h2
  exact (Option.some.inj h2).symm
theorem vx_callSW (X : Stand p l e R s m args below meth c T locs cells slots) (hexec : p.tables.exec = Jvm.exec) {own : String} {index : Nat} {y : MethodName} {bytes : ByteArray} {maxL : Nat} {ret : Option FieldType} {hh : List (Nat × Nat × Nat × Nat)}
    (hown : s.vm.findClass own = some m.cls) (hlink : (Cond.methodLink own index y).before args s = true) (hstat : (Cond.static y).before args s = true) (hinit : (Cond.initialized y.cls).before args s = true)
    (hcode : (Cond.codeWith y bytes maxL ret hh).before args s = true) (hy : y.cls ≠ "java/lang/invoke/MethodHandle" ∧ y.cls ≠ "java/lang/invoke/VarHandle")
    {W9 : Nat} {Pre : Pt → Array Value → Prop} {Post : Pt → Array Value → Option Value → Pt → Prop} (hK : Back l R p e below s args y 3 W9 Pre Post)
    {g : JFrame} (hg : g.method = m) (hsize : g.locals.size = c.maxLocals) {argsL rest : List Value} (hlen : ∀ sig, parseMethodDescriptor y.desc = some sig → argsL.length = sig.parameters.length)
    (hstack : g.stack = argsL.reverse ++ rest) (hW : 2 * g.monitorRoom + (rest.map fun v => v.category).sum ≤ W9) (hdg : decode c.code g.pc = .ok (.invokestatic index, 3))
    (hpre : ∀ vm₁, s.WarmedH vm₁ → Pre ⟨T.setVm vm₁, locs, cells, slots⟩ argsL.toArray) :
    ∃ (v : Option Value) (vm₁ : Vm) (B : Pt), s.WarmedH vm₁ ∧ Stand p l e R s m args below meth c B.U B.locs B.cells B.slots ∧ Post ⟨T.setVm vm₁, locs, cells, slots⟩ argsL.toArray v B ∧
      ∀ target, Steps p.tables e below (B.U.setTop { g with pc := g.pc + 3, stack := v.toList ++ rest }) target → Steps p.tables e below (T.setTop g) target := by
  obtain ⟨mk, methM, cM, hnamed, hmethM, -, -, -, -, -, -, hsigM⟩ := Cond.codeWith_spec hcode
  have hstatic : methM.isStatic = true := Cond.static_spec hnamed hmethM hstat
  obtain ⟨kP, hkP, -⟩ := className_of_methodNamed hnamed
  have hinitP : kP.init = .initialized := Cond.initialized_spec (findClass_of_methodNamed hnamed) hkP hinit
  obtain ⟨vm₁, X₁, hstep₁⟩ := X.invokestatic hexec hown hlink hnamed hmethM hstatic hkP hinitP hy (g := g) hg (argsL := argsL) (rest := rest) (hlen _ hsigM) hstack hdg
  obtain ⟨v, B, X', hpost, hsteps⟩ := hK m meth c ⟨T.setVm vm₁, locs, cells, slots⟩ { g with stack := rest } (.invokestatic index) mk argsL.toArray X₁ hg hsize hdg hW (X₁.named hnamed) (hpre vm₁ X₁.warmed)
  exact ⟨v, vm₁, B, X₁.warmed, X', hpost, fun target h => hstep₁ _ fun acts => by rw [doInvoke_state]; exact hsteps.trans h⟩
theorem vx_runSW {y : MethodName} {bytes cc : ByteArray} {maxL nL mc ms n index : Nat} {ret : Option FieldType} {hh : List (Nat × Nat × Nat × Nat)} {ws : List Cond} {rm : Room} {Pc : Array Value → State → Prop} {Qc : Array Value → State → Outcome → State → Prop} {free : Addr → Prop} {Ts : List Cond} {own : String} {As rest : List Value} {g : JFrame}
    (S : CallFix p m c cc nL s args Ts own) (hM : Met l y ws rm Pc Qc mc ms free) (cw : vx_CSW R s args own index y bytes maxL ret hh ws rm mc ms n) (hp : PreS s H Pc As)
    (hg : g.method = m) (hn : As.length = n) (hsize : g.locals.size = nL) (hstack : g.stack = As.reverse ++ rest) (hW : 2 * g.monitorRoom + (rest.map fun v => v.category).sum ≤ 8) (hdg : decode cc g.pc = .ok (.invokestatic index, 3)) (hf : cells + mc ≤ R.cells ∧ slots + ms ≤ R.slots) :
    va_Run p l e R s m args below meth c H locs cells slots mc ms g rest (Qc As.toArray) (free) := by
  obtain ⟨⟨hrc, hrs, hfr, hlo, hws, hcw⟩, hcode, hini, hy, hlen, hl, hstt⟩ := cw
  have hK : Back l R p e below s args y 3 8 (PreOf R mc ms Pc) (PostOf Qc mc ms free) := va_backW (hh := hh) (bytes := bytes) (maxL := maxL) (ret := ret) hM hp.1 hrc hrs hfr hlo hws hcw (fun a' U hW => word_at hW (Or.inl (by first | rfl | simp [Cond.onTables, Cond.keeps, Cond.steady])) hini)
  obtain ⟨hx, hb, hml, ho, -⟩ := S
  intro T hT X
  obtain ⟨v, vm₁, ⟨U', l2, c2, s2⟩, hW₁, X', ⟨g', mk, t, L, e1, e2, hq, h1, hL, h2, h3⟩, st⟩ := vx_callSW X hx (hh := hh) (bytes := bytes) (maxL := maxL) (ret := ret) ho hl hstt hini hcode hy hK hg (hsize.trans hml.symm) (argsL := As) (rest := rest) (fun sig h => hn.trans (hlen sig h)) hstack hW (by rw [hb]; exact hdg)
    (fun vm₁ hW₁ => ⟨hf.1, hf.2, hp.2 (T.setVm vm₁) hT hW₁⟩)
  dsimp only [Pt.U, Pt.locs, Pt.cells, Pt.slots] at X' e1 e2 h1 h2 h3 st
  subst h1; subst h2; subst h3
  exact ⟨v, (T.setVm vm₁).calling g' mk As.toArray, t, U', L, hT, X', hL, e1, e2, hq, st⟩
/-- not caught here, past rows that name other classes: it goes on to the caller -/
theorem vx_outP {p : Program} {l : Launch} {e : Env} {R : Room} {s : State} {m : MethodId} {args : Array Value} {below : List Frame} {meth : Method} {c : Code} {H : Heap} {locs : List Loc} {cells slots : Nat} {free : Addr → Prop} {ls : Array Slot} {rest : List Value} {Qc : Array Value → State → Outcome → State → Prop} {XC : String → State → State → Prop}
    {pc : Nat} {own E : String} {ce : Cell} {q : Addr} {mc ms : Nat} (hown : s.vm.findClass own = some m.cls) (hlocks : meth.locks = false)
    (hpass : ∀ z ∈ c.exceptionTable.toList, covers z pc = false ∨ (z.catchType ≠ 0 ∧ ∃ nm : String, (Cond.classLink own z.catchType nm).before args s = true ∧ va_Nc E nm s)) (hcell : H[q]? = some ce) (hv : ce.vm = .none) (hcl : s.vm.findClass E = some ce.cls)
    (hx : ∀ t : State, t.heap = H → s.vm.Alike t.vm → XC E s t) (hf : ∀ z ∈ locs, free z.base) (hc : cells ≤ mc) (hs : slots ≤ ms) :
    vx_W p l e R s m args below meth c H locs cells slots (vx_MQ below Qc XC args s mc ms free) (F0 m pc ls rest) q := by
  intro T hT X
  have hpl : e.platform.magicAccessors = ({} : Platform).magicAccessors := by rw [X.admits.platform]
  obtain ⟨vm', hW', X', st⟩ := X.outThrough hlocks q (g := F0 m pc ls rest) rfl rfl rfl (cell := ce) (by rw [hT]; exact hcell) (by rw [hv]; rfl)
    (by obtain ⟨k9, h9, -⟩ := Vm.findClass_spec hcl; exact ⟨k9, h9⟩) (fun z hz => by
      rcases hpass z hz with h | ⟨hz0, nm, hl1, hn1⟩
      · exact Or.inl h
      · obtain ⟨c6, hc6, hcl6⟩ := Cond.classLink_spec hown hl1 e.platform hpl
        obtain ⟨a8, b8, h1, h2, h3⟩ := hn1
        cases Option.some.inj (h1.symm.trans hcl)
        cases Option.some.inj (h2.symm.trans hc6)
        exact Or.inr ⟨hz0, _, hcl6, h3⟩)
  obtain ⟨g₀, hfr⟩ := X'.frames_eq
  have hcell9 : ((T.setVm vm').setFrames (.throwing q :: below)).heap[q]? = some ce := by
    show T.heap[q]? = some ce
    rw [hT]; exact hcell
  have hend : Ended ((T.setVm vm').setFrames (.throwing q :: below)) below (.threw q) := State.frames_setFrames _ (State.cur_lt_of_frames hfr)
  refine ⟨(T.setVm vm').setFrames (.throwing q :: below), ?_, .threw q, X'.here.running, hend, Or.inr ⟨q, rfl, E, ce, locs, hx _ hT (X'.ends _).1.alike, hcell9, hv, hcl, (X'.ends _).1, (X'.ends _).2.mono hc hs, hf⟩⟩
  rw [X.pushThrowing_eq]
  exact st
/-- a thing of a world lies in the heap -/
theorem vx_lt {D : va_G} {cl : List vw_C} {ws : va_W} {H1 : Heap} (h : va_P D cl ws H1) {k : Nat} {q : Nat × va_E} (hk : ws[k]? = some q) : q.1 < H1.size := (h k q hk).lt
end VXS
/-! ===== END ===== -/
/-! ===== BEGIN methods with a table of their own: called by a name, returning or throwing ===== -/
section VXH
/-! vx_backW, vx_callVX, vx_callSX, vx_callVW, vx_runVW, vx_runVX, vx_runSX, vx_ofWH follow the same proofs as their sisters above (Free/Laws.lean, Shelf42/LK1.lean); vx_outP calls Shelf42/NT130.lean (outThrough). -/
section
variable {l : Launch} {R : Room} {p : Program} {e : Env} {below : List Frame} {s : State} {sargs : Array Value} {y : MethodName} {len W9 : Nat}
theorem vx_backW {ws : List Cond} {rm : Room} {Pc : Array Value → State → Prop} {Qc : Array Value → State → Outcome → State → Prop} {XC : String → State → State → Prop} {mc ms : Nat} {free : Addr → Prop} {bytes : ByteArray} {maxL : Nat} {ret : Option FieldType} {hh : List (Nat × Nat × Nat × Nat)}
    (hM : vx_Met l y ws rm Pc Qc XC mc ms free) (hblind : FrameBlind Pc) (hrc : rm.cells = mc) (hrs : rm.slots = ms)
    (hframes : rm.frames + 1 ≤ R.frames) (hlocals : W9 + (maxL + 11) + rm.locals ≤ R.locals)
    (hws : ∀ w ∈ ws, ∀ a' U, s.WarmedH U.vm → w.before a' U = true) (hcode : Cond.codeWith y bytes maxL ret hh ∈ ws) (hinit : ∀ a' U, s.WarmedH U.vm → (Cond.initialized y.cls).before a' U = true) :
    vx_Back l R p e below s sargs y len W9 (PreOf R mc ms Pc) (PostOf Qc mc ms free) (vx_Post XC mc ms free) := by
  intro m meth c A g ig mk a X hg hsize hdg hW hn hp
  have h1 : (headSpec ws rm).pre.before a A.U = true := atoms_intro fun w hw => hws w hw _ _ X.warmed
  have h2 : (Cond.codeWith y bytes maxL ret hh).before a A.U = true := hws _ hcode _ _ X.warmed
  have h3 : (Cond.initialized y.cls).before a A.U = true := hinit _ _ X.warmed
  have h4 : A.cells + (headSpec ws rm).room.cells ≤ R.cells := by rw [show (headSpec ws rm).room.cells = mc from hrc]; exact hp.1
  have h5 : A.slots + (headSpec ws rm).room.slots ≤ R.slots := by rw [show (headSpec ws rm).room.slots = ms from hrs]; exact hp.2.1
  have hPc : Pc a (A.U.calling g mk a) := hblind _ _ _ _ hp.2.2
  obtain ⟨U, Ls, c0, s0⟩ := A
  dsimp only [Pt.U, Pt.locs, Pt.cells, Pt.slots] at h1 h2 h3 h4 h5 X hn hPc ⊢
  obtain ⟨m9, methY, cY, hn9, hmY, hcY, -, hlY, -⟩ := Cond.codeWith_spec h2
  cases Option.some.inj (hn9.symm.trans hn)
  obtain ⟨kY, hkY, -⟩ := className_of_methodNamed hn
  have hinitY : kY.init = .initialized := Cond.initialized_spec (findClass_of_methodNamed hn) hkY h3
  have h : At U g.method c below := by rw [hg]; exact X.here
  have hlocals9 : W9 + (maxL + 11) + (headSpec ws rm).room.locals ≤ R.locals := hlocals
  have happ : (headSpec ws rm).appliesLoose y e.platform (U.calling g mk a) = true :=
    Spec.appliesLoose_calling (g := g) h hdg hn hkY hinitY
      (X.room_calling (g := g) (R' := (headSpec ws rm).room) hsize hmY hcY hframes (by rw [hlY]; omega) h4 h5) h1
  obtain ⟨mid, hmid⟩ := h.above
  have hfr : (U.setTop g).frames = (.java g :: mid) ++ below := by rw [State.frames_setTop' g h.top, hmid]; rfl
  obtain ⟨o, s₂, hsteps, -, hend, hq⟩ := Steps.callFree hM p X.admits X.cas X.clock (acts := []) hfr happ hPc trivial
  have hq' : vx_Q Qc XC mc ms free a (U.calling g mk a) o s₂ := hq
  rw [State.frames_setTop' g h.top] at hend
  obtain ⟨g₀, hg0⟩ := Option.isSome_iff_exists.mp h.top
  obtain ⟨r, hr⟩ := State.topJava?_eq_some.mp hg0
  have hr' : (({ U with heap := s₂.heap, slotsUsed := s₂.slotsUsed } : State).setVm s₂.vm).frames = .java g₀ :: r := hr
  rcases hq' with ⟨hqc, L, hfe, hL⟩ | ⟨q, rfl, E, ce, L, hx, hce, hcv, hcl, hW₂, hsm, hL⟩
  · obtain ⟨⟨v, rfl⟩, hW₂, e2, q2, q3, q4, q5, q6⟩ := id hfe
    have e3 : s₂ = ({ (U.calling g mk a).setFrames s₂.frames with heap := s₂.heap, slotsUsed := s₂.slotsUsed } : State).setVm s₂.vm := by
      have : s₂ = ({ s₂ with vm := (U.calling g mk a).vm } : State).setVm s₂.vm := rfl
      rw [e2] at this
      exact this
    obtain ⟨c₂, i₂, len₂, hc₂, hd₂, hf₂⟩ := hend
    have hW' : U.WarmedH s₂.vm := hW₂
    have hcc : c₂ = c := by
      have h1 : s₂.code? g.method = U.code? g.method := by
        rw [State.code?_eq, State.code?_eq, hW'.alike.method?]
      exact Option.some.inj (hc₂.symm.trans (h1.trans h.code))
    subst hcc
    have hlen : len₂ = len := by rw [hdg] at hd₂; cases hd₂; rfl
    subst hlen
    have hs₂ : s₂ = (({ U with heap := s₂.heap, slotsUsed := s₂.slotsUsed } : State).setVm s₂.vm).setTop { g with pc := g.pc + len₂, stack := v.toList ++ g.stack } := by
      refine e3.trans ?_
      rw [hf₂, State.calling_eq h.top, State.setFrames_setFrames, State.setTop_of_frames _ hr', hr]
      rfl
    have hsame : U.sameButNew ({ U with heap := s₂.heap, slotsUsed := s₂.slotsUsed } : State) L mc ms := by
      refine ⟨?_, q2, q3, q4, q5, q6⟩
      obtain ⟨t, ht, -⟩ := State.frames_cons hr
      show ({ U with heap := s₂.heap, slotsUsed := s₂.slotsUsed } : State) = { U.setFrames U.frames with heap := s₂.heap, slotsUsed := s₂.slotsUsed }
      rw [State.setFrames_self ht]
    subst hg
    refine Or.inl ⟨v, ⟨(({ U with heap := s₂.heap, slotsUsed := s₂.slotsUsed } : State).setVm s₂.vm), Ls ++ L, c0 + mc, s0 + ms⟩,
      ⟨X.admits, X.cas, X.clock, X.frames, X.room, X.hears, X.method, X.code, (X.here.setHeapUsed s₂.heap s₂.slotsUsed).setVm hW'.alike, X.tail, State.WarmedH.trans X.warmed hW', X.limits, X.bytes, X.same.trans (hsame.setVm s.vm)⟩,
      ⟨g, mk, s₂, L, rfl, rfl, hqc, rfl, hL, rfl, rfl⟩, ?_⟩
    show Steps p.tables e below _ ((({ U with heap := s₂.heap, slotsUsed := s₂.slotsUsed } : State).setVm s₂.vm).setTop { g with pc := g.pc + len₂, stack := v.toList ++ g.stack })
    rw [← hs₂]
    exact hsteps
  · obtain ⟨e2, q2, q3, q4, q5, q6⟩ := id hsm
    have e3 : s₂ = ({ (U.calling g mk a).setFrames s₂.frames with heap := s₂.heap, slotsUsed := s₂.slotsUsed } : State).setVm s₂.vm := by
      have : s₂ = ({ s₂ with vm := (U.calling g mk a).vm } : State).setVm s₂.vm := rfl
      rw [e2] at this
      exact this
    have hf₂ : s₂.frames = .throwing q :: .java g :: U.frames.tail := hend
    have hW' : U.WarmedH s₂.vm := hW₂
    have hs₂ : s₂ = ((({ U with heap := s₂.heap, slotsUsed := s₂.slotsUsed } : State).setVm s₂.vm).setTop g).pushFrame (.throwing q) := by
      refine e3.trans ?_
      rw [hf₂, State.calling_eq h.top, State.setFrames_setFrames, State.pushFrame, State.frames_setTop _ hr', State.setTop_of_frames _ hr', State.setFrames_setFrames, hr]
      rfl
    have hsame : U.sameButNew ({ U with heap := s₂.heap, slotsUsed := s₂.slotsUsed } : State) L mc ms := by
      refine ⟨?_, q2, q3, q4, q5, q6⟩
      obtain ⟨t, ht, -⟩ := State.frames_cons hr
      show ({ U with heap := s₂.heap, slotsUsed := s₂.slotsUsed } : State) = { U.setFrames U.frames with heap := s₂.heap, slotsUsed := s₂.slotsUsed }
      rw [State.setFrames_self ht]
    subst hg
    refine Or.inr ⟨q, ⟨(({ U with heap := s₂.heap, slotsUsed := s₂.slotsUsed } : State).setVm s₂.vm), Ls ++ L, c0 + mc, s0 + ms⟩,
      ⟨X.admits, X.cas, X.clock, X.frames, X.room, X.hears, X.method, X.code, (X.here.setHeapUsed s₂.heap s₂.slotsUsed).setVm hW'.alike, X.tail, State.WarmedH.trans X.warmed hW', X.limits, X.bytes, X.same.trans (hsame.setVm s.vm)⟩,
      ⟨g, mk, s₂, L, E, ce, rfl, rfl, hx, hce, hcv, hcl, rfl, hL, rfl, rfl⟩, ?_⟩
    show Steps p.tables e below _ (((({ U with heap := s₂.heap, slotsUsed := s₂.slotsUsed } : State).setVm s₂.vm).setTop g).pushFrame (.throwing q))
    rw [← hs₂]
    exact hsteps
end
variable {p : Program} {l : Launch} {e : Env} {R : Room} {s : State} {m : MethodId} {args : Array Value} {below : List Frame} {meth : Method} {c : Code} {T : State} {H : Heap} {locs : List Loc} {cells slots : Nat}
theorem vx_callVX (X : Stand p l e R s m args below meth c T locs cells slots) (hexec : p.tables.exec = Jvm.exec) {own C : String} {index : Nat} {y : MethodName} {bytes : ByteArray} {maxL : Nat} {ret : Option FieldType} {hh : List (Nat × Nat × Nat × Nat)}
    (hown : s.vm.findClass own = some m.cls) (hlink : (Cond.methodLink own index y).before args s = true) (hinst : (Cond.instanceMethod y).before args s = true) (hsel : (Cond.selects C y y).before args s = true)
    (hcode : (Cond.codeWith y bytes maxL ret hh).before args s = true) (hy : y.cls ≠ "java/lang/invoke/MethodHandle" ∧ y.cls ≠ "java/lang/invoke/VarHandle")
    {W9 : Nat} {Pre : Pt → Array Value → Prop} {Post : Pt → Array Value → Option Value → Pt → Prop} {PostX : Pt → Array Value → Addr → Pt → Prop} (hK : vx_Back l R p e below s args y 3 W9 Pre Post PostX)
    {b : Addr} {cellB : Cell} (hcell : T.heap[b]? = some cellB) (hobj : cellB.vm.isStatics = false) (hcls : s.vm.findClass C = some cellB.cls)
    {g : JFrame} (hg : g.method = m) (hsize : g.locals.size = c.maxLocals) {argsL rest : List Value} (hlen : ∀ sig, parseMethodDescriptor y.desc = some sig → argsL.length = sig.parameters.length)
    (hstack : g.stack = argsL.reverse ++ .ref b :: rest) (hW : 2 * g.monitorRoom + (rest.map fun v => v.category).sum ≤ W9) (hdg : decode c.code g.pc = .ok (.invokevirtual index, 3))
    (hpre : ∀ vm₁, s.WarmedH vm₁ → Pre ⟨T.setVm vm₁, locs, cells, slots⟩ (Value.ref b :: argsL).toArray) :
    (∃ (v : Option Value) (vm₁ : Vm) (B : Pt), s.WarmedH vm₁ ∧ Stand p l e R s m args below meth c B.U B.locs B.cells B.slots ∧ Post ⟨T.setVm vm₁, locs, cells, slots⟩ (Value.ref b :: argsL).toArray v B ∧
      ∀ target, Steps p.tables e below (B.U.setTop { g with pc := g.pc + 3, stack := v.toList ++ rest }) target → Steps p.tables e below (T.setTop g) target) ∨
    (∃ (q : Addr) (vm₁ : Vm) (B : Pt), s.WarmedH vm₁ ∧ Stand p l e R s m args below meth c B.U B.locs B.cells B.slots ∧ PostX ⟨T.setVm vm₁, locs, cells, slots⟩ (Value.ref b :: argsL).toArray q B ∧
      Steps p.tables e below (T.setTop g) ((B.U.setTop { g with stack := rest }).pushFrame (.throwing q))) := by
  obtain ⟨mk, methM, hnamed, hmethM, hstM, habM⟩ := Cond.instanceMethod_spec hinst
  obtain ⟨m8, methM', cM, hn8, hmethM', -, -, -, -, -, -, hsigM⟩ := Cond.codeWith_spec hcode
  cases Option.some.inj (hn8.symm.trans hnamed)
  cases hmethM.symm.trans hmethM'
  obtain ⟨c2, r2, m2, q1, q2, q3, q4, kP, hkP, hkPi⟩ := Cond.selects_spec hsel
  cases hcls.symm.trans q1
  cases (State.methodFound?_of_named hnamed hy).symm.trans q2
  cases hnamed.symm.trans q3
  have hselP : selectMethod e.platform s.vm cellB.cls mk = .method mk := by rw [Launch.admits_selectMethod X.admits]; exact q4
  obtain ⟨vm₁, X₁, hstep₁⟩ := X.invokevirtual hexec hown hlink hnamed hmethM hstM hkP hkPi hy (a := b) (cell := cellB) hcell
    (fun z h => by rw [h] at hobj; cases hobj) hselP hmethM habM hkP hkPi (g := g) hg (argsL := argsL) (rest := rest) (hlen _ hsigM) hstack hdg
  rcases hK m meth c ⟨T.setVm vm₁, locs, cells, slots⟩ { g with stack := rest } (.invokevirtual index) mk (Value.ref b :: argsL).toArray X₁ hg hsize hdg hW (X₁.named hnamed) (hpre vm₁ X₁.warmed) with ⟨v, B, X', hpost, hsteps⟩ | ⟨q, B, X', hpost, hsteps⟩
  · exact Or.inl ⟨v, vm₁, B, X₁.warmed, X', hpost, fun target h => hstep₁ _ fun acts => by rw [doInvoke_state]; exact hsteps.trans h⟩
  · exact Or.inr ⟨q, vm₁, B, X₁.warmed, X', hpost, hstep₁ _ fun acts => by rw [doInvoke_state]; exact hsteps⟩
theorem vx_callSX (X : Stand p l e R s m args below meth c T locs cells slots) (hexec : p.tables.exec = Jvm.exec) {own : String} {index : Nat} {y : MethodName} {bytes : ByteArray} {maxL : Nat} {ret : Option FieldType} {hh : List (Nat × Nat × Nat × Nat)}
    (hown : s.vm.findClass own = some m.cls) (hlink : (Cond.methodLink own index y).before args s = true) (hstat : (Cond.static y).before args s = true) (hinit : (Cond.initialized y.cls).before args s = true)
    (hcode : (Cond.codeWith y bytes maxL ret hh).before args s = true) (hy : y.cls ≠ "java/lang/invoke/MethodHandle" ∧ y.cls ≠ "java/lang/invoke/VarHandle")
    {W9 : Nat} {Pre : Pt → Array Value → Prop} {Post : Pt → Array Value → Option Value → Pt → Prop} {PostX : Pt → Array Value → Addr → Pt → Prop} (hK : vx_Back l R p e below s args y 3 W9 Pre Post PostX)
    {g : JFrame} (hg : g.method = m) (hsize : g.locals.size = c.maxLocals) {argsL rest : List Value} (hlen : ∀ sig, parseMethodDescriptor y.desc = some sig → argsL.length = sig.parameters.length)
    (hstack : g.stack = argsL.reverse ++ rest) (hW : 2 * g.monitorRoom + (rest.map fun v => v.category).sum ≤ W9) (hdg : decode c.code g.pc = .ok (.invokestatic index, 3))
    (hpre : ∀ vm₁, s.WarmedH vm₁ → Pre ⟨T.setVm vm₁, locs, cells, slots⟩ argsL.toArray) :
    (∃ (v : Option Value) (vm₁ : Vm) (B : Pt), s.WarmedH vm₁ ∧ Stand p l e R s m args below meth c B.U B.locs B.cells B.slots ∧ Post ⟨T.setVm vm₁, locs, cells, slots⟩ argsL.toArray v B ∧
      ∀ target, Steps p.tables e below (B.U.setTop { g with pc := g.pc + 3, stack := v.toList ++ rest }) target → Steps p.tables e below (T.setTop g) target) ∨
    (∃ (q : Addr) (vm₁ : Vm) (B : Pt), s.WarmedH vm₁ ∧ Stand p l e R s m args below meth c B.U B.locs B.cells B.slots ∧ PostX ⟨T.setVm vm₁, locs, cells, slots⟩ argsL.toArray q B ∧
      Steps p.tables e below (T.setTop g) ((B.U.setTop { g with stack := rest }).pushFrame (.throwing q))) := by
  obtain ⟨mk, methM, cM, hnamed, hmethM, -, -, -, -, -, -, hsigM⟩ := Cond.codeWith_spec hcode
  have hstatic : methM.isStatic = true := Cond.static_spec hnamed hmethM hstat
  obtain ⟨kP, hkP, -⟩ := className_of_methodNamed hnamed
  have hinitP : kP.init = .initialized := Cond.initialized_spec (findClass_of_methodNamed hnamed) hkP hinit
  obtain ⟨vm₁, X₁, hstep₁⟩ := X.invokestatic hexec hown hlink hnamed hmethM hstatic hkP hinitP hy (g := g) hg (argsL := argsL) (rest := rest) (hlen _ hsigM) hstack hdg
  rcases hK m meth c ⟨T.setVm vm₁, locs, cells, slots⟩ { g with stack := rest } (.invokestatic index) mk argsL.toArray X₁ hg hsize hdg hW (X₁.named hnamed) (hpre vm₁ X₁.warmed) with ⟨v, B, X', hpost, hsteps⟩ | ⟨q, B, X', hpost, hsteps⟩
  · exact Or.inl ⟨v, vm₁, B, X₁.warmed, X', hpost, fun target h => hstep₁ _ fun acts => by rw [doInvoke_state]; exact hsteps.trans h⟩
  · exact Or.inr ⟨q, vm₁, B, X₁.warmed, X', hpost, hstep₁ _ fun acts => by rw [doInvoke_state]; exact hsteps⟩
theorem vx_callVW (X : Stand p l e R s m args below meth c T locs cells slots) (hexec : p.tables.exec = Jvm.exec) {own C : String} {index : Nat} {y : MethodName} {bytes : ByteArray} {maxL : Nat} {ret : Option FieldType} {hh : List (Nat × Nat × Nat × Nat)}
    (hown : s.vm.findClass own = some m.cls) (hlink : (Cond.methodLink own index y).before args s = true) (hinst : (Cond.instanceMethod y).before args s = true) (hsel : (Cond.selects C y y).before args s = true)
    (hcode : (Cond.codeWith y bytes maxL ret hh).before args s = true) (hy : y.cls ≠ "java/lang/invoke/MethodHandle" ∧ y.cls ≠ "java/lang/invoke/VarHandle")
    {W9 : Nat} {Pre : Pt → Array Value → Prop} {Post : Pt → Array Value → Option Value → Pt → Prop} (hK : Back l R p e below s args y 3 W9 Pre Post)
    {b : Addr} {cellB : Cell} (hcell : T.heap[b]? = some cellB) (hobj : cellB.vm.isStatics = false) (hcls : s.vm.findClass C = some cellB.cls)
    {g : JFrame} (hg : g.method = m) (hsize : g.locals.size = c.maxLocals) {argsL rest : List Value} (hlen : ∀ sig, parseMethodDescriptor y.desc = some sig → argsL.length = sig.parameters.length)
    (hstack : g.stack = argsL.reverse ++ .ref b :: rest) (hW : 2 * g.monitorRoom + (rest.map fun v => v.category).sum ≤ W9) (hdg : decode c.code g.pc = .ok (.invokevirtual index, 3))
    (hpre : ∀ vm₁, s.WarmedH vm₁ → Pre ⟨T.setVm vm₁, locs, cells, slots⟩ (Value.ref b :: argsL).toArray) :
    ∃ (v : Option Value) (vm₁ : Vm) (B : Pt), s.WarmedH vm₁ ∧ Stand p l e R s m args below meth c B.U B.locs B.cells B.slots ∧ Post ⟨T.setVm vm₁, locs, cells, slots⟩ (Value.ref b :: argsL).toArray v B ∧
      ∀ target, Steps p.tables e below (B.U.setTop { g with pc := g.pc + 3, stack := v.toList ++ rest }) target → Steps p.tables e below (T.setTop g) target := by
  obtain ⟨mk, methM, hnamed, hmethM, hstM, habM⟩ := Cond.instanceMethod_spec hinst
  obtain ⟨m8, methM', cM, hn8, hmethM', -, -, -, -, -, -, hsigM⟩ := Cond.codeWith_spec hcode
  cases Option.some.inj (hn8.symm.trans hnamed)
  cases hmethM.symm.trans hmethM'
  obtain ⟨c2, r2, m2, q1, q2, q3, q4, kP, hkP, hkPi⟩ := Cond.selects_spec hsel
  cases hcls.symm.trans q1
  cases (State.methodFound?_of_named hnamed hy).symm.trans q2
  cases hnamed.symm.trans q3
  have hselP : selectMethod e.platform s.vm cellB.cls mk = .method mk := by rw [Launch.admits_selectMethod X.admits]; exact q4
  obtain ⟨vm₁, X₁, hstep₁⟩ := X.invokevirtual hexec hown hlink hnamed hmethM hstM hkP hkPi hy (a := b) (cell := cellB) hcell
    (fun z h => by rw [h] at hobj; cases hobj) hselP hmethM habM hkP hkPi (g := g) hg (argsL := argsL) (rest := rest) (hlen _ hsigM) hstack hdg
  obtain ⟨v, B, X', hpost, hsteps⟩ := hK m meth c ⟨T.setVm vm₁, locs, cells, slots⟩ { g with stack := rest } (.invokevirtual index) mk (Value.ref b :: argsL).toArray X₁ hg hsize hdg hW (X₁.named hnamed) (hpre vm₁ X₁.warmed)
  exact ⟨v, vm₁, B, X₁.warmed, X', hpost, fun target h => hstep₁ _ fun acts => by rw [doInvoke_state]; exact hsteps.trans h⟩
abbrev vx_CVW (R : Room) (s : State) (args : Array Value) (own C : String) (index : Nat) (y : MethodName) (bytes : ByteArray) (maxL : Nat) (ret : Option FieldType) (hh : List (Nat × Nat × Nat × Nat)) (ws : List Cond) (rm : Room) (mc ms n : Nat) : Prop :=
  (rm.cells = mc ∧ rm.slots = ms ∧ rm.frames + 1 ≤ R.frames ∧ 8 + (maxL + 11) + rm.locals ≤ R.locals ∧ (∀ w ∈ ws, ∀ (a' : Array Value) (U : State), s.WarmedH U.vm → w.before a' U = true) ∧ Cond.codeWith y bytes maxL ret hh ∈ ws) ∧
  (Cond.codeWith y bytes maxL ret hh).before args s = true ∧ (Cond.initialized y.cls).before args s = true ∧ (y.cls ≠ "java/lang/invoke/MethodHandle" ∧ y.cls ≠ "java/lang/invoke/VarHandle") ∧
  (∀ sig, parseMethodDescriptor y.desc = some sig → n = sig.parameters.length) ∧ (Cond.methodLink own index y).before args s = true ∧ (Cond.instanceMethod y).before args s = true ∧ (Cond.selects C y y).before args s = true
theorem vx_cwVW {own C : String} {index maxL mc ms : Nat} {y : MethodName} {bytes : ByteArray} {ret : Option FieldType} {hh : List (Nat × Nat × Nat × Nat)} {Ts ws ws' : List Cond} {rm : Room} (n : Nat) (ht : ∀ w ∈ Ts, w.before args s = true) (hT : GoodIn Ts (wsV own index C y ws)) (hw : ws = Cond.codeWith y bytes maxL ret hh :: ws') (hrc : rm.cells = mc) (hrs : rm.slots = ms)
    (hd : y.cls = C ∧ y.cls ≠ "java/lang/invoke/MethodHandle" ∧ y.cls ≠ "java/lang/invoke/VarHandle" ∧ (parseMethodDescriptor y.desc).map (fun d => d.parameters.length) = some n) (hR : rm.frames + 1 ≤ R.frames ∧ 8 + (maxL + 11) + rm.locals ≤ R.locals) :
    vx_CVW R s args own C index y bytes maxL ret hh ws rm mc ms n := by
  obtain ⟨hC, hd⟩ := hd
  subst hC
  have ok : ∀ w ∈ wsV own index y.cls y ws, w.before args s = true := fun w h => ht w (hT w h).1
  have hG : GoodIn Ts ws := fun w h => hT w (by unfold wsV; exact List.mem_append_right _ h)
  have hc : Cond.codeWith y bytes maxL ret hh ∈ ws := by rw [hw]; exact List.mem_cons_self
  refine ⟨⟨hrc, hrs, hR.1, hR.2, pay_in ht hG, hc⟩, ht _ (hG _ hc).1, ok _ (by simp [wsV]), ⟨hd.1, hd.2.1⟩, fun sig h => ?_, ok _ (by simp [wsV]), ok _ (by simp [wsV]), ok _ (by simp [wsV])⟩
  have h2 := hd.2.2
  rw [h] at h2
  exact (Option.some.inj h2).symm
theorem vx_runVW {y : MethodName} {bytes cc : ByteArray} {maxL nL mc ms n index : Nat} {ret : Option FieldType} {hh : List (Nat × Nat × Nat × Nat)} {ws : List Cond} {rm : Room} {Pc : Array Value → State → Prop} {Qc : Array Value → State → Outcome → State → Prop} {free : Addr → Prop} {Ts : List Cond} {own C : String} {b : Addr} {As rest : List Value} {g : JFrame}
    (S : CallFix p m c cc nL s args Ts own) (hM : Met l y ws rm Pc Qc mc ms free) (cw : vx_CVW R s args own C index y bytes maxL ret hh ws rm mc ms n) (hp : PreV s H C b Pc As)
    (hg : g.method = m) (hn : As.length = n) (hsize : g.locals.size = nL) (hstack : g.stack = As.reverse ++ .ref b :: rest) (hW : 2 * g.monitorRoom + (rest.map fun v => v.category).sum ≤ 8) (hdg : decode cc g.pc = .ok (.invokevirtual index, 3)) (hf : cells + mc ≤ R.cells ∧ slots + ms ≤ R.slots) :
    va_Run p l e R s m args below meth c H locs cells slots mc ms g rest (Qc (Value.ref b :: As).toArray) free := by
  obtain ⟨⟨hrc, hrs, hfr, hlo, hws, hcw⟩, hcode, hini, hy, hlen, hl, hin, hse⟩ := cw
  have hK : Back l R p e below s args y 3 8 (PreOf R mc ms Pc) (PostOf Qc mc ms free) := va_backW (hh := hh) (bytes := bytes) (maxL := maxL) (ret := ret) hM hp.1 hrc hrs hfr hlo hws hcw (fun a' U hW => word_at hW (Or.inl (by first | rfl | simp [Cond.onTables, Cond.keeps, Cond.steady])) hini)
  obtain ⟨hx, hb, hml, ho, -⟩ := S
  obtain ⟨-, ⟨cellB, hcB, hoB, hclB⟩, hPc⟩ := hp
  intro T hT X
  obtain ⟨v, vm₁, ⟨U', l2, c2, s2⟩, hW₁, X', ⟨g', mk, t, L, e1, e2, hq, h1, hL, h2, h3⟩, st⟩ := vx_callVW X hx (C := C) (hh := hh) (bytes := bytes) (maxL := maxL) (ret := ret) ho hl hin hse hcode hy hK (by rw [hT]; exact hcB) hoB hclB hg (hsize.trans hml.symm) (argsL := As) (rest := rest) (fun sig h => hn.trans (hlen sig h)) hstack hW (by rw [hb]; exact hdg)
    (fun vm₁ hW₁ => ⟨hf.1, hf.2, hPc (T.setVm vm₁) hT hW₁⟩)
  dsimp only [Pt.U, Pt.locs, Pt.cells, Pt.slots] at X' e1 e2 h1 h2 h3 st
  subst h1; subst h2; subst h3
  exact ⟨v, (T.setVm vm₁).calling g' mk (Value.ref b :: As).toArray, t, U', L, hT, X', hL, e1, e2, hq, st⟩
section
variable {y : MethodName} {bytes cc : ByteArray} {maxL nL mc ms n index : Nat} {ret : Option FieldType} {ws : List Cond} {rm : Room} {Pc : Array Value → State → Prop} {Qc : Array Value → State → Outcome → State → Prop} {XC : String → State → State → Prop} {free : Addr → Prop} {Ts : List Cond} {own C : String} {b : Addr} {As rest : List Value} {g : JFrame}
theorem vx_runVX {hh : List (Nat × Nat × Nat × Nat)} (S : CallFix p m c cc nL s args Ts own) (hM : vx_Met l y ws rm Pc Qc XC mc ms free) (cw : vx_CVW R s args own C index y bytes maxL ret hh ws rm mc ms n) (hp : PreV s H C b Pc As)
    (hg : g.method = m) (hn : As.length = n) (hsize : g.locals.size = nL) (hstack : g.stack = As.reverse ++ .ref b :: rest) (hW : 2 * g.monitorRoom + (rest.map fun v => v.category).sum ≤ 8) (hdg : decode cc g.pc = .ok (.invokevirtual index, 3)) (hf : cells + mc ≤ R.cells ∧ slots + ms ≤ R.slots) :
    vx_Run p l e R s m args below meth c H locs cells slots mc ms g rest (Qc (Value.ref b :: As).toArray) XC free := by
  obtain ⟨⟨hrc, hrs, hfr, hlo, hws, hcw⟩, hcode, hini, hy, hlen, hl, hin, hse⟩ := cw
  have hK : vx_Back l R p e below s args y 3 8 (PreOf R mc ms Pc) (PostOf Qc mc ms free) (vx_Post XC mc ms free) := vx_backW (hh := hh) (bytes := bytes) (maxL := maxL) (ret := ret) hM hp.1 hrc hrs hfr hlo hws hcw (fun a' U hW => word_at hW (Or.inl (by first | rfl | simp [Cond.onTables, Cond.keeps, Cond.steady])) hini)
  obtain ⟨hx, hb, hml, ho, -⟩ := S
  obtain ⟨-, ⟨cellB, hcB, hoB, hclB⟩, hPc⟩ := hp
  intro T hT X
  rcases vx_callVX X hx (C := C) (hh := hh) (bytes := bytes) (maxL := maxL) (ret := ret) ho hl hin hse hcode hy hK (by rw [hT]; exact hcB) hoB hclB hg (hsize.trans hml.symm) (argsL := As) (rest := rest) (fun sig h => hn.trans (hlen sig h)) hstack hW (by rw [hb]; exact hdg)
    (fun vm₁ hW₁ => ⟨hf.1, hf.2, hPc (T.setVm vm₁) hT hW₁⟩) with ⟨v, vm₁, ⟨U', l2, c2, s2⟩, hW₁, X', ⟨g', mk, t, L, e1, e2, hq, h1, hL, h2, h3⟩, st⟩ | ⟨q, vm₁, ⟨U', l2, c2, s2⟩, hW₁, X', ⟨g', mk, t, L, E, ce, e1, e2, hq, hce, hcv, hcl, h1, hL, h2, h3⟩, st⟩
  · dsimp only [Pt.U, Pt.locs, Pt.cells, Pt.slots] at X' e1 e2 h1 h2 h3 st
    subst h1; subst h2; subst h3
    exact Or.inl ⟨v, (T.setVm vm₁).calling g' mk (Value.ref b :: As).toArray, t, U', L, hT, X', hL, e1, e2, hq, st⟩
  · dsimp only [Pt.U, Pt.locs, Pt.cells, Pt.slots] at X' e1 e2 h1 h2 h3 st hcl
    subst h1; subst h2; subst h3
    exact Or.inr ⟨q, (T.setVm vm₁).calling g' mk (Value.ref b :: As).toArray, t, U', L, E, ce, hT, X', hL, e1, e2, hq, hce, hcv, vx_cls hW₁ hcl, st⟩
theorem vx_runSX {hh : List (Nat × Nat × Nat × Nat)} (S : CallFix p m c cc nL s args Ts own) (hM : vx_Met l y ws rm Pc Qc XC mc ms free) (cw : vx_CSW R s args own index y bytes maxL ret hh ws rm mc ms n) (hp : PreS s H Pc As)
    (hg : g.method = m) (hn : As.length = n) (hsize : g.locals.size = nL) (hstack : g.stack = As.reverse ++ rest) (hW : 2 * g.monitorRoom + (rest.map fun v => v.category).sum ≤ 8) (hdg : decode cc g.pc = .ok (.invokestatic index, 3)) (hf : cells + mc ≤ R.cells ∧ slots + ms ≤ R.slots) :
    vx_Run p l e R s m args below meth c H locs cells slots mc ms g rest (Qc As.toArray) XC free := by
  obtain ⟨⟨hrc, hrs, hfr, hlo, hws, hcw⟩, hcode, hini, hy, hlen, hl, hstt⟩ := cw
  have hK : vx_Back l R p e below s args y 3 8 (PreOf R mc ms Pc) (PostOf Qc mc ms free) (vx_Post XC mc ms free) := vx_backW (hh := hh) (bytes := bytes) (maxL := maxL) (ret := ret) hM hp.1 hrc hrs hfr hlo hws hcw (fun a' U hW => word_at hW (Or.inl (by first | rfl | simp [Cond.onTables, Cond.keeps, Cond.steady])) hini)
  obtain ⟨hx, hb, hml, ho, -⟩ := S
  intro T hT X
  rcases vx_callSX X hx (hh := hh) (bytes := bytes) (maxL := maxL) (ret := ret) ho hl hstt hini hcode hy hK hg (hsize.trans hml.symm) (argsL := As) (rest := rest) (fun sig h => hn.trans (hlen sig h)) hstack hW (by rw [hb]; exact hdg)
    (fun vm₁ hW₁ => ⟨hf.1, hf.2, hp.2 (T.setVm vm₁) hT hW₁⟩) with ⟨v, vm₁, ⟨U', l2, c2, s2⟩, hW₁, X', ⟨g', mk, t, L, e1, e2, hq, h1, hL, h2, h3⟩, st⟩ | ⟨q, vm₁, ⟨U', l2, c2, s2⟩, hW₁, X', ⟨g', mk, t, L, E, ce, e1, e2, hq, hce, hcv, hcl, h1, hL, h2, h3⟩, st⟩
  · dsimp only [Pt.U, Pt.locs, Pt.cells, Pt.slots] at X' e1 e2 h1 h2 h3 st
    subst h1; subst h2; subst h3
    exact Or.inl ⟨v, (T.setVm vm₁).calling g' mk As.toArray, t, U', L, hT, X', hL, e1, e2, hq, st⟩
  · dsimp only [Pt.U, Pt.locs, Pt.cells, Pt.slots] at X' e1 e2 h1 h2 h3 st hcl
    subst h1; subst h2; subst h3
    exact Or.inr ⟨q, (T.setVm vm₁).calling g' mk As.toArray, t, U', L, E, ce, hT, X', hL, e1, e2, hq, hce, hcv, vx_cls hW₁ hcl, st⟩
end
end VXH
theorem vx_ofWH {l : Launch} {y : MethodName} {ws ws' : List Cond} {rm : Room} {Pc : Array Value → State → Prop} {Qc : Array Value → State → Outcome → State → Prop} {XC : String → State → State → Prop} {mc ms : Nat} {free : Addr → Prop} {cc : ByteArray} {maxL : Nat} {ret : Option FieldType} {hh : List (Nat × Nat × Nat × Nat)}
    (hy : plainName y.cls = true) (hw : ws = Cond.codeWith y cc maxL ret hh :: ws')
    (body : ∀ p e s m args below meth c s₁, BodyLoose p l y (headSpec ws rm) cc maxL ret e s m args below meth c s₁ → c.maxLocals = maxL → Pc args s →
      W p l e (headSpec ws rm).room s m args below meth c s.heap [] 0 0 (vx_MQ below Qc XC args s mc ms free) (entryFrame m args maxL)) : vx_Met l y ws rm Pc Qc XC mc ms free := by
  refine MetFree.of_bodyS (code := cc) (maxLocals := maxL) (ret := ret) hy ?_ ?_
  · intro args s m h hn
    obtain ⟨m9, meth, c, hn9, h1, h2, h3, h4, -, h5, h6, -⟩ := Cond.codeWith_spec (atoms_spec (ws := ws) h _ (by rw [hw]; exact List.mem_cons_self))
    cases hn.symm.trans hn9
    exact ⟨meth, c, h1, h2, h3, h4, h5, h6⟩
  · intro p e s m args below meth c s₁ B hml hP _
    have hh0 : s₁.heap = s.heap := by rw [B.state]; rfl
    obtain ⟨t, a1, o, b1, b2, b3⟩ := body p e s m args below meth c s₁ B hml hP s₁ hh0 (Stand.of_body B)
    exact ⟨t, o, a1, b1, b2, b3⟩
/-! ===== END ===== -/
end
section
def RX0 : String := "Cardmeld$Best"
def TX0 : u_T := fun k => match k with
  | 0 => ("Cardmeld$Best", "one", "I", false)
  | 1 => ("Cardmeld$Best", "other", "I", false)
  | _ => ("Cardmeld$Best", "points", "I", false)
def tyX0 : Nat → FieldType := fun k => match k with
  | 0 => .int
  | 1 => .int
  | _ => .int
abbrev wsX00 : List Cond := u_ws RX0 TX0 3
theorem nmX0 : ∀ a, a < 3 → ∀ b, b < 3 → a ≠ b → (TX0 a).2.1 ≠ (TX0 b).2.1 := by decide +kernel
theorem tyX0_ok : ∀ k, k < 3 → parseFieldDescriptor (TX0 k).2.2.1 = some (tyX0 k) := by decide +kernel
abbrev cX0_init : ByteArray := prog_2_method_1_code
def yX0_init : MethodName := ⟨RX0, "<init>", "()V"⟩
abbrev cX0_forget : ByteArray := prog_2_method_2_code
def yX0_forget : MethodName := ⟨RX0, "forget", "()V"⟩
abbrev cX0_isMissing : ByteArray := prog_2_method_3_code
def yX0_isMissing : MethodName := ⟨RX0, "isMissing", "()Z"⟩
abbrev cX0_consider : ByteArray := prog_2_method_4_code
def yX0_consider : MethodName := ⟨RX0, "consider", "(III)V"⟩
def RX1 : String := "Cardmeld$Buckets"
def TX1 : u_T := fun k => match k with
  | 0 => ("Cardmeld$Buckets", "keys", "[I", true)
  | 1 => ("Cardmeld$Buckets", "holders", "[I", true)
  | _ => ("Cardmeld$Buckets", "count", "I", false)
def tyX1 : Nat → FieldType := fun k => match k with
  | 0 => .array .int
  | 1 => .array .int
  | _ => .int
abbrev wsX10 : List Cond := u_ws RX1 TX1 3
theorem nmX1 : ∀ a, a < 3 → ∀ b, b < 3 → a ≠ b → (TX1 a).2.1 ≠ (TX1 b).2.1 := by decide +kernel
theorem tyX1_ok : ∀ k, k < 3 → parseFieldDescriptor (TX1 k).2.2.1 = some (tyX1 k) := by decide +kernel
abbrev cX1_init : ByteArray := prog_3_method_1_code
def yX1_init : MethodName := ⟨RX1, "<init>", "()V"⟩
abbrev cX1_empty : ByteArray := prog_3_method_2_code
def yX1_empty : MethodName := ⟨RX1, "empty", "()V"⟩
abbrev cX1_put : ByteArray := prog_3_method_3_code
def yX1_put : MethodName := ⟨RX1, "put", "(II)V"⟩
abbrev cX1_holdersOf : ByteArray := prog_3_method_4_code
def yX1_holdersOf : MethodName := ⟨RX1, "holdersOf", "(I)I"⟩
abbrev cX1_placeOf : ByteArray := prog_3_method_5_code
def yX1_placeOf : MethodName := ⟨RX1, "placeOf", "(I)I"⟩
def RX2 : String := "Cardmeld$Card"
def TX2 : u_T := fun k => match k with
  | 0 => ("Cardmeld$Card", "source", "I", false)
  | 1 => ("Cardmeld$Card", "name", "LCardmeld$Name;", true)
  | _ => ("Cardmeld$Card", "numbers", "[I", true)
def tyX2 : Nat → FieldType := fun k => match k with
  | 0 => .int
  | 1 => .object "Cardmeld$Name"
  | _ => .array .int
abbrev wsX20 : List Cond := u_ws RX2 TX2 3
theorem nmX2 : ∀ a, a < 3 → ∀ b, b < 3 → a ≠ b → (TX2 a).2.1 ≠ (TX2 b).2.1 := by decide +kernel
theorem tyX2_ok : ∀ k, k < 3 → parseFieldDescriptor (TX2 k).2.2.1 = some (tyX2 k) := by decide +kernel
abbrev cX2_init : ByteArray := prog_4_method_1_code
def yX2_init : MethodName := ⟨RX2, "<init>", "()V"⟩
abbrev cX2_has : ByteArray := prog_4_method_2_code
def yX2_has : MethodName := ⟨RX2, "has", "(I)Z"⟩
abbrev cX2_agrees : ByteArray := prog_4_method_3_code
def yX2_agrees : MethodName := ⟨RX2, "agrees", "(LCardmeld$Card;I)Z"⟩
abbrev cX2_key : ByteArray := prog_4_method_4_code
def yX2_key : MethodName := ⟨RX2, "key", "(I)I"⟩
def RX3 : String := "Cardmeld$Merges"
def TX3 : u_T := fun k => match k with
  | 0 => ("Cardmeld$Merges", "ones", "[I", true)
  | 1 => ("Cardmeld$Merges", "others", "[I", true)
  | 2 => ("Cardmeld$Merges", "standing", "[Z", true)
  | 3 => ("Cardmeld$Merges", "count", "I", false)
  | 4 => ("Cardmeld$Merges", "links", "LCardmeld$Relation;", true)
  | _ => ("Cardmeld$Merges", "labels", "[I", true)
def tyX3 : Nat → FieldType := fun k => match k with
  | 0 => .array .int
  | 1 => .array .int
  | 2 => .array .boolean
  | 3 => .int
  | 4 => .object "Cardmeld$Relation"
  | _ => .array .int
abbrev wsX30 : List Cond := u_ws RX3 TX3 6
theorem nmX3 : ∀ a, a < 6 → ∀ b, b < 6 → a ≠ b → (TX3 a).2.1 ≠ (TX3 b).2.1 := by decide +kernel
theorem tyX3_ok : ∀ k, k < 6 → parseFieldDescriptor (TX3 k).2.2.1 = some (tyX3 k) := by decide +kernel
abbrev cX3_init : ByteArray := prog_5_method_1_code
def yX3_init : MethodName := ⟨RX3, "<init>", "()V"⟩
abbrev cX3_isFull : ByteArray := prog_5_method_2_code
def yX3_isFull : MethodName := ⟨RX3, "isFull", "()Z"⟩
abbrev cX3_make : ByteArray := prog_5_method_3_code
def yX3_make : MethodName := ⟨RX3, "make", "(II)I"⟩
abbrev cX3_takeBack : ByteArray := prog_5_method_4_code
def yX3_takeBack : MethodName := ⟨RX3, "takeBack", "(I)V"⟩
abbrev cX3_joinedWith : ByteArray := prog_5_method_5_code
def yX3_joinedWith : MethodName := ⟨RX3, "joinedWith", "(I)I"⟩
abbrev cX3_distance : ByteArray := prog_5_method_6_code
def yX3_distance : MethodName := ⟨RX3, "distance", "(II)I"⟩
abbrev cX3_labelByRounds : ByteArray := prog_5_method_7_code
def yX3_labelByRounds : MethodName := ⟨RX3, "labelByRounds", "()V"⟩
def RX4 : String := "Cardmeld$Name"
def TX4 : u_T := fun k => match k with
  | 0 => ("Cardmeld$Name", "letters", "[C", true)
  | 1 => ("Cardmeld$Name", "length", "I", false)
  | 2 => ("Cardmeld$Name", "sound", "[C", true)
  | _ => ("Cardmeld$Name", "soundLength", "I", false)
def tyX4 : Nat → FieldType := fun k => match k with
  | 0 => .array .char
  | 1 => .int
  | 2 => .array .char
  | _ => .int
abbrev wsX40 : List Cond := u_ws RX4 TX4 4
theorem nmX4 : ∀ a, a < 4 → ∀ b, b < 4 → a ≠ b → (TX4 a).2.1 ≠ (TX4 b).2.1 := by decide +kernel
theorem tyX4_ok : ∀ k, k < 4 → parseFieldDescriptor (TX4 k).2.2.1 = some (tyX4 k) := by decide +kernel
abbrev cX4_init : ByteArray := prog_6_method_1_code
def yX4_init : MethodName := ⟨RX4, "<init>", "()V"⟩
abbrev cX4_append : ByteArray := prog_6_method_2_code
def yX4_append : MethodName := ⟨RX4, "append", "(C)V"⟩
abbrev cX4_extendSound : ByteArray := prog_6_method_3_code
def yX4_extendSound : MethodName := ⟨RX4, "extendSound", "(C)V"⟩
abbrev cX4_empty : ByteArray := prog_6_method_4_code
def yX4_empty : MethodName := ⟨RX4, "empty", "()I"⟩
abbrev cX4_beginsWith : ByteArray := prog_6_method_5_code
def yX4_beginsWith : MethodName := ⟨RX4, "beginsWith", "(LCardmeld$Name;)Z"⟩
abbrev cX4_soundsLike : ByteArray := prog_6_method_6_code
def yX4_soundsLike : MethodName := ⟨RX4, "soundsLike", "(LCardmeld$Name;)Z"⟩
abbrev cX4_soundKey : ByteArray := prog_6_method_7_code
def yX4_soundKey : MethodName := ⟨RX4, "soundKey", "()I"⟩
abbrev cX4_digitOf : ByteArray := prog_6_method_8_code
def yX4_digitOf : MethodName := ⟨RX4, "digitOf", "(C)C"⟩
def RX5 : String := "Cardmeld$Relation"
def TX5 : u_T := fun k => match k with
  | _ => ("Cardmeld$Relation", "partners", "[I", true)
def tyX5 : Nat → FieldType := fun k => match k with
  | _ => .array .int
abbrev wsX50 : List Cond := u_ws RX5 TX5 1
theorem nmX5 : ∀ a, a < 1 → ∀ b, b < 1 → a ≠ b → (TX5 a).2.1 ≠ (TX5 b).2.1 := by decide +kernel
theorem tyX5_ok : ∀ k, k < 1 → parseFieldDescriptor (TX5 k).2.2.1 = some (tyX5 k) := by decide +kernel
abbrev cX5_init : ByteArray := prog_7_method_1_code
def yX5_init : MethodName := ⟨RX5, "<init>", "()V"⟩
abbrev cX5_tie : ByteArray := prog_7_method_2_code
def yX5_tie : MethodName := ⟨RX5, "tie", "(II)V"⟩
abbrev cX5_cut : ByteArray := prog_7_method_3_code
def yX5_cut : MethodName := ⟨RX5, "cut", "(II)V"⟩
abbrev cX5_holds : ByteArray := prog_7_method_4_code
def yX5_holds : MethodName := ⟨RX5, "holds", "(II)Z"⟩
abbrev cX5_partnersOfAll : ByteArray := prog_7_method_5_code
def yX5_partnersOfAll : MethodName := ⟨RX5, "partnersOfAll", "(I)I"⟩
def RX6 : String := "Cardmeld"
def TX6 : u_T := fun k => match k with
  | 0 => ("Cardmeld", "ranks", "[I", true)
  | 1 => ("Cardmeld", "sourceCount", "I", false)
  | 2 => ("Cardmeld", "book", "[LCardmeld$Card;", true)
  | 3 => ("Cardmeld", "cardCount", "I", false)
  | 4 => ("Cardmeld", "sameWeights", "[I", true)
  | 5 => ("Cardmeld", "anotherWeights", "[I", true)
  | 6 => ("Cardmeld", "threshold", "I", false)
  | 7 => ("Cardmeld", "forbidden", "LCardmeld$Relation;", true)
  | 8 => ("Cardmeld", "forbiddenPairs", "I", false)
  | 9 => ("Cardmeld", "merges", "LCardmeld$Merges;", true)
  | 10 => ("Cardmeld", "groups", "[I", true)
  | 11 => ("Cardmeld", "query", "LCardmeld$Name;", true)
  | 12 => ("Cardmeld", "best", "LCardmeld$Best;", true)
  | 13 => ("Cardmeld", "buckets", "LCardmeld$Buckets;", true)
  | _ => ("Cardmeld", "mates", "[I", true)
def tyX6 : Nat → FieldType := fun k => match k with
  | 0 => .array .int
  | 1 => .int
  | 2 => .array (.object "Cardmeld$Card")
  | 3 => .int
  | 4 => .array .int
  | 5 => .array .int
  | 6 => .int
  | 7 => .object "Cardmeld$Relation"
  | 8 => .int
  | 9 => .object "Cardmeld$Merges"
  | 10 => .array .int
  | 11 => .object "Cardmeld$Name"
  | 12 => .object "Cardmeld$Best"
  | 13 => .object "Cardmeld$Buckets"
  | _ => .array .int
abbrev wsX60 : List Cond := u_ws RX6 TX6 15
theorem nmX6 : ∀ a, a < 15 → ∀ b, b < 15 → a ≠ b → (TX6 a).2.1 ≠ (TX6 b).2.1 := by decide +kernel
theorem tyX6_ok : ∀ k, k < 15 → parseFieldDescriptor (TX6 k).2.2.1 = some (tyX6 k) := by decide +kernel
abbrev cX6_init : ByteArray := prog_1_method_1_code
def yX6_init : MethodName := ⟨RX6, "<init>", "()V"⟩
abbrev cX6_addSource : ByteArray := prog_1_method_2_code
def yX6_addSource : MethodName := ⟨RX6, "addSource", "(I)I"⟩
abbrev cX6_setRank : ByteArray := prog_1_method_3_code
def yX6_setRank : MethodName := ⟨RX6, "setRank", "(II)I"⟩
abbrev cX6_addCard : ByteArray := prog_1_method_4_code
def yX6_addCard : MethodName := ⟨RX6, "addCard", "(I)I"⟩
abbrev cX6_cards : ByteArray := prog_1_method_5_code
def yX6_cards : MethodName := ⟨RX6, "cards", "()I"⟩
abbrev cX6_letter : ByteArray := prog_1_method_6_code
def yX6_letter : MethodName := ⟨RX6, "letter", "(IC)I"⟩
abbrev cX6_clearName : ByteArray := prog_1_method_7_code
def yX6_clearName : MethodName := ⟨RX6, "clearName", "(I)I"⟩
abbrev cX6_setNumber : ByteArray := prog_1_method_8_code
def yX6_setNumber : MethodName := ⟨RX6, "setNumber", "(III)I"⟩
abbrev cX6_nameLength : ByteArray := prog_1_method_9_code
def yX6_nameLength : MethodName := ⟨RX6, "nameLength", "(I)I"⟩
abbrev cX6_nameAt : ByteArray := prog_1_method_10_code
def yX6_nameAt : MethodName := ⟨RX6, "nameAt", "(II)C"⟩
abbrev cX6_soundAt : ByteArray := prog_1_method_11_code
def yX6_soundAt : MethodName := ⟨RX6, "soundAt", "(II)C"⟩
abbrev cX6_number : ByteArray := prog_1_method_12_code
def yX6_number : MethodName := ⟨RX6, "number", "(II)I"⟩
abbrev cX6_setWeights : ByteArray := prog_1_method_13_code
def yX6_setWeights : MethodName := ⟨RX6, "setWeights", "(III)I"⟩
abbrev cX6_setThreshold : ByteArray := prog_1_method_14_code
def yX6_setThreshold : MethodName := ⟨RX6, "setThreshold", "(I)I"⟩
abbrev cX6_score : ByteArray := prog_1_method_15_code
def yX6_score : MethodName := ⟨RX6, "score", "(II)I"⟩
abbrev cX6_candidates : ByteArray := prog_1_method_16_code
def yX6_candidates : MethodName := ⟨RX6, "candidates", "()I"⟩
abbrev cX6_bestScore : ByteArray := prog_1_method_17_code
def yX6_bestScore : MethodName := ⟨RX6, "bestScore", "()I"⟩
abbrev cX6_bestScoreByPairs : ByteArray := prog_1_method_18_code
def yX6_bestScoreByPairs : MethodName := ⟨RX6, "bestScoreByPairs", "()I"⟩
abbrev cX6_bestOne : ByteArray := prog_1_method_19_code
def yX6_bestOne : MethodName := ⟨RX6, "bestOne", "()I"⟩
abbrev cX6_bestOther : ByteArray := prog_1_method_20_code
def yX6_bestOther : MethodName := ⟨RX6, "bestOther", "()I"⟩
abbrev cX6_forbid : ByteArray := prog_1_method_21_code
def yX6_forbid : MethodName := ⟨RX6, "forbid", "(II)I"⟩
abbrev cX6_allow : ByteArray := prog_1_method_22_code
def yX6_allow : MethodName := ⟨RX6, "allow", "(II)I"⟩
abbrev cX6_why : ByteArray := prog_1_method_23_code
def yX6_why : MethodName := ⟨RX6, "why", "(II)C"⟩
abbrev cX6_barOne : ByteArray := prog_1_method_24_code
def yX6_barOne : MethodName := ⟨RX6, "barOne", "(II)I"⟩
abbrev cX6_barOther : ByteArray := prog_1_method_25_code
def yX6_barOther : MethodName := ⟨RX6, "barOther", "(II)I"⟩
abbrev cX6_merge : ByteArray := prog_1_method_26_code
def yX6_merge : MethodName := ⟨RX6, "merge", "(II)I"⟩
abbrev cX6_mergeBest : ByteArray := prog_1_method_27_code
def yX6_mergeBest : MethodName := ⟨RX6, "mergeBest", "()I"⟩
abbrev cX6_undo : ByteArray := prog_1_method_28_code
def yX6_undo : MethodName := ⟨RX6, "undo", "(I)I"⟩
abbrev cX6_stands : ByteArray := prog_1_method_29_code
def yX6_stands : MethodName := ⟨RX6, "stands", "(I)Z"⟩
abbrev cX6_steps : ByteArray := prog_1_method_30_code
def yX6_steps : MethodName := ⟨RX6, "steps", "(II)I"⟩
abbrev cX6_person : ByteArray := prog_1_method_31_code
def yX6_person : MethodName := ⟨RX6, "person", "(I)I"⟩
abbrev cX6_personByRounds : ByteArray := prog_1_method_32_code
def yX6_personByRounds : MethodName := ⟨RX6, "personByRounds", "(I)I"⟩
abbrev cX6_persons : ByteArray := prog_1_method_33_code
def yX6_persons : MethodName := ⟨RX6, "persons", "()I"⟩
abbrev cX6_size : ByteArray := prog_1_method_34_code
def yX6_size : MethodName := ⟨RX6, "size", "(I)I"⟩
abbrev cX6_fieldFrom : ByteArray := prog_1_method_35_code
def yX6_fieldFrom : MethodName := ⟨RX6, "fieldFrom", "(II)I"⟩
abbrev cX6_conflicts : ByteArray := prog_1_method_36_code
def yX6_conflicts : MethodName := ⟨RX6, "conflicts", "(I)I"⟩
abbrev cX6_join : ByteArray := prog_1_method_37_code
def yX6_join : MethodName := ⟨RX6, "join", "(II)I"⟩
abbrev cX6_leave : ByteArray := prog_1_method_38_code
def yX6_leave : MethodName := ⟨RX6, "leave", "(II)I"⟩
abbrev cX6_isIn : ByteArray := prog_1_method_39_code
def yX6_isIn : MethodName := ⟨RX6, "isIn", "(II)Z"⟩
abbrev cX6_personsIn : ByteArray := prog_1_method_40_code
def yX6_personsIn : MethodName := ⟨RX6, "personsIn", "(I)I"⟩
abbrev cX6_type : ByteArray := prog_1_method_41_code
def yX6_type : MethodName := ⟨RX6, "type", "(C)I"⟩
abbrev cX6_clearQuery : ByteArray := prog_1_method_42_code
def yX6_clearQuery : MethodName := ⟨RX6, "clearQuery", "()I"⟩
abbrev cX6_found : ByteArray := prog_1_method_43_code
def yX6_found : MethodName := ⟨RX6, "found", "(Z)I"⟩
abbrev cX6_foundAt : ByteArray := prog_1_method_44_code
def yX6_foundAt : MethodName := ⟨RX6, "foundAt", "(ZI)I"⟩
abbrev cX6_mergedShare : ByteArray := prog_1_method_45_code
def yX6_mergedShare : MethodName := ⟨RX6, "mergedShare", "()F"⟩
abbrev cX6_requireRank : ByteArray := prog_1_method_46_code
def yX6_requireRank : MethodName := ⟨RX6, "requireRank", "(I)V"⟩
abbrev cX6_requireSource : ByteArray := prog_1_method_47_code
def yX6_requireSource : MethodName := ⟨RX6, "requireSource", "(I)V"⟩
abbrev cX6_requireCard : ByteArray := prog_1_method_48_code
def yX6_requireCard : MethodName := ⟨RX6, "requireCard", "(I)V"⟩
abbrev cX6_requireCards : ByteArray := prog_1_method_49_code
def yX6_requireCards : MethodName := ⟨RX6, "requireCards", "(II)V"⟩
abbrev cX6_requireTwo : ByteArray := prog_1_method_50_code
def yX6_requireTwo : MethodName := ⟨RX6, "requireTwo", "(II)V"⟩
abbrev cX6_requireLetter : ByteArray := prog_1_method_51_code
def yX6_requireLetter : MethodName := ⟨RX6, "requireLetter", "(C)V"⟩
abbrev cX6_requireField : ByteArray := prog_1_method_52_code
def yX6_requireField : MethodName := ⟨RX6, "requireField", "(I)V"⟩
abbrev cX6_requireNumberField : ByteArray := prog_1_method_53_code
def yX6_requireNumberField : MethodName := ⟨RX6, "requireNumberField", "(I)V"⟩
abbrev cX6_requireWeight : ByteArray := prog_1_method_54_code
def yX6_requireWeight : MethodName := ⟨RX6, "requireWeight", "(I)V"⟩
abbrev cX6_requireMerge : ByteArray := prog_1_method_55_code
def yX6_requireMerge : MethodName := ⟨RX6, "requireMerge", "(I)V"⟩
abbrev cX6_requireGroup : ByteArray := prog_1_method_56_code
def yX6_requireGroup : MethodName := ⟨RX6, "requireGroup", "(I)V"⟩
abbrev cX6_requireBest : ByteArray := prog_1_method_57_code
def yX6_requireBest : MethodName := ⟨RX6, "requireBest", "()V"⟩
abbrev cX6_requireBars : ByteArray := prog_1_method_58_code
def yX6_requireBars : MethodName := ⟨RX6, "requireBars", "(I)V"⟩
abbrev cX6_appendTo : ByteArray := prog_1_method_59_code
def yX6_appendTo : MethodName := ⟨RX6, "appendTo", "(LCardmeld$Name;C)I"⟩
abbrev cX6_scoreOf : ByteArray := prog_1_method_60_code
def yX6_scoreOf : MethodName := ⟨RX6, "scoreOf", "(II)I"⟩
abbrev cX6_fieldScore : ByteArray := prog_1_method_61_code
def yX6_fieldScore : MethodName := ⟨RX6, "fieldScore", "(LCardmeld$Card;LCardmeld$Card;I)I"⟩
abbrev cX6_sharesKey : ByteArray := prog_1_method_62_code
def yX6_sharesKey : MethodName := ⟨RX6, "sharesKey", "(II)Z"⟩
abbrev cX6_sharesNumber : ByteArray := prog_1_method_63_code
def yX6_sharesNumber : MethodName := ⟨RX6, "sharesNumber", "(III)Z"⟩
abbrev cX6_canBeMerged : ByteArray := prog_1_method_64_code
def yX6_canBeMerged : MethodName := ⟨RX6, "canBeMerged", "(II)Z"⟩
abbrev cX6_findBestByPairs : ByteArray := prog_1_method_65_code
def yX6_findBestByPairs : MethodName := ⟨RX6, "findBestByPairs", "()V"⟩
abbrev cX6_findBestByKeys : ByteArray := prog_1_method_66_code
def yX6_findBestByKeys : MethodName := ⟨RX6, "findBestByKeys", "()V"⟩
abbrev cX6_offer : ByteArray := prog_1_method_67_code
def yX6_offer : MethodName := ⟨RX6, "offer", "(II)V"⟩
abbrev cX6_gatherMates : ByteArray := prog_1_method_68_code
def yX6_gatherMates : MethodName := ⟨RX6, "gatherMates", "()V"⟩
abbrev cX6_allCards : ByteArray := prog_1_method_69_code
def yX6_allCards : MethodName := ⟨RX6, "allCards", "()I"⟩
abbrev cX6_isOnePerson : ByteArray := prog_1_method_70_code
def yX6_isOnePerson : MethodName := ⟨RX6, "isOnePerson", "(II)Z"⟩
abbrev cX6_barsBetween : ByteArray := prog_1_method_71_code
def yX6_barsBetween : MethodName := ⟨RX6, "barsBetween", "(II)I"⟩
abbrev cX6_personsWith : ByteArray := prog_1_method_72_code
def yX6_personsWith : MethodName := ⟨RX6, "personsWith", "(I)I"⟩
abbrev cX6_highestRanked : ByteArray := prog_1_method_73_code
def yX6_highestRanked : MethodName := ⟨RX6, "highestRanked", "(II)I"⟩
abbrev cX6_disagree : ByteArray := prog_1_method_74_code
def yX6_disagree : MethodName := ⟨RX6, "disagree", "(II)Z"⟩
abbrev cX6_matches : ByteArray := prog_1_method_75_code
def yX6_matches : MethodName := ⟨RX6, "matches", "(Z)I"⟩
abbrev cX6_contains : ByteArray := prog_1_method_76_code
def yX6_contains : MethodName := ⟨RX6, "contains", "(II)Z"⟩
abbrev cX6_lowestOf : ByteArray := prog_1_method_77_code
def yX6_lowestOf : MethodName := ⟨RX6, "lowestOf", "(I)I"⟩
def RX7 : String := "CardmeldModel"
def TX7 : u_T := fun k => match k with
  | 0 => ("CardmeldModel", "thrown", "I", false)
  | 1 => ("CardmeldModel", "sources", "I", false)
  | 2 => ("CardmeldModel", "cards", "I", false)
  | 3 => ("CardmeldModel", "merges", "I", false)
  | 4 => ("CardmeldModel", "pairs", "I", false)
  | 5 => ("CardmeldModel", "threshold", "I", false)
  | 6 => ("CardmeldModel", "typed", "I", false)
  | 7 => ("CardmeldModel", "one", "I", false)
  | 8 => ("CardmeldModel", "other", "I", false)
  | 9 => ("CardmeldModel", "rank", "[I", true)
  | 10 => ("CardmeldModel", "source", "[I", true)
  | 11 => ("CardmeldModel", "lengths", "[I", true)
  | 12 => ("CardmeldModel", "numbers", "[I", true)
  | 13 => ("CardmeldModel", "same", "[I", true)
  | 14 => ("CardmeldModel", "another", "[I", true)
  | 15 => ("CardmeldModel", "mergeOne", "[I", true)
  | 16 => ("CardmeldModel", "mergeOther", "[I", true)
  | 17 => ("CardmeldModel", "of", "[I", true)
  | 18 => ("CardmeldModel", "far", "[I", true)
  | 19 => ("CardmeldModel", "sound", "[I", true)
  | 20 => ("CardmeldModel", "sound2", "[I", true)
  | 21 => ("CardmeldModel", "names", "[C", true)
  | 22 => ("CardmeldModel", "isStanding", "[Z", true)
  | 23 => ("CardmeldModel", "isForbidden", "[Z", true)
  | _ => ("CardmeldModel", "isIn", "[Z", true)
def tyX7 : Nat → FieldType := fun k => match k with
  | 0 => .int
  | 1 => .int
  | 2 => .int
  | 3 => .int
  | 4 => .int
  | 5 => .int
  | 6 => .int
  | 7 => .int
  | 8 => .int
  | 9 => .array .int
  | 10 => .array .int
  | 11 => .array .int
  | 12 => .array .int
  | 13 => .array .int
  | 14 => .array .int
  | 15 => .array .int
  | 16 => .array .int
  | 17 => .array .int
  | 18 => .array .int
  | 19 => .array .int
  | 20 => .array .int
  | 21 => .array .char
  | 22 => .array .boolean
  | 23 => .array .boolean
  | _ => .array .boolean
abbrev wsX70 : List Cond := u_ws RX7 TX7 25
theorem nmX7 : ∀ a, a < 25 → ∀ b, b < 25 → a ≠ b → (TX7 a).2.1 ≠ (TX7 b).2.1 := by decide +kernel
theorem tyX7_ok : ∀ k, k < 25 → parseFieldDescriptor (TX7 k).2.2.1 = some (tyX7 k) := by decide +kernel
abbrev cX7_init : ByteArray := prog_9_method_1_code
def yX7_init : MethodName := ⟨RX7, "<init>", "()V"⟩
abbrev cX7_thrown : ByteArray := prog_9_method_2_code
def yX7_thrown : MethodName := ⟨RX7, "thrown", "()I"⟩
abbrev cX7_fail : ByteArray := prog_9_method_3_code
def yX7_fail : MethodName := ⟨RX7, "fail", "(I)I"⟩
abbrev cX7_isWithin : ByteArray := prog_9_method_4_code
def yX7_isWithin : MethodName := ⟨RX7, "isWithin", "(III)Z"⟩
abbrev cX7_noCard : ByteArray := prog_9_method_5_code
def yX7_noCard : MethodName := ⟨RX7, "noCard", "(I)Z"⟩
abbrev cX7_noCards : ByteArray := prog_9_method_6_code
def yX7_noCards : MethodName := ⟨RX7, "noCards", "(II)Z"⟩
abbrev cX7_addSource : ByteArray := prog_9_method_7_code
def yX7_addSource : MethodName := ⟨RX7, "addSource", "(I)I"⟩
abbrev cX7_setRank : ByteArray := prog_9_method_8_code
def yX7_setRank : MethodName := ⟨RX7, "setRank", "(II)I"⟩
abbrev cX7_addCard : ByteArray := prog_9_method_9_code
def yX7_addCard : MethodName := ⟨RX7, "addCard", "(I)I"⟩
abbrev cX7_cards : ByteArray := prog_9_method_10_code
def yX7_cards : MethodName := ⟨RX7, "cards", "()I"⟩
abbrev cX7_isLetter : ByteArray := prog_9_method_11_code
def yX7_isLetter : MethodName := ⟨RX7, "isLetter", "(C)Z"⟩
abbrev cX7_letter : ByteArray := prog_9_method_12_code
def yX7_letter : MethodName := ⟨RX7, "letter", "(IC)I"⟩
abbrev cX7_clearName : ByteArray := prog_9_method_13_code
def yX7_clearName : MethodName := ⟨RX7, "clearName", "(I)I"⟩
abbrev cX7_setNumber : ByteArray := prog_9_method_14_code
def yX7_setNumber : MethodName := ⟨RX7, "setNumber", "(III)I"⟩
abbrev cX7_nameLength : ByteArray := prog_9_method_15_code
def yX7_nameLength : MethodName := ⟨RX7, "nameLength", "(I)I"⟩
abbrev cX7_nameAt : ByteArray := prog_9_method_16_code
def yX7_nameAt : MethodName := ⟨RX7, "nameAt", "(II)C"⟩
abbrev cX7_digit : ByteArray := prog_9_method_17_code
def yX7_digit : MethodName := ⟨RX7, "digit", "(C)I"⟩
abbrev cX7_sounds : ByteArray := prog_9_method_18_code
def yX7_sounds : MethodName := ⟨RX7, "sounds", "(II[I)I"⟩
abbrev cX7_isSameSound : ByteArray := prog_9_method_19_code
def yX7_isSameSound : MethodName := ⟨RX7, "isSameSound", "(IIII)Z"⟩
abbrev cX7_soundAt : ByteArray := prog_9_method_20_code
def yX7_soundAt : MethodName := ⟨RX7, "soundAt", "(II)C"⟩
abbrev cX7_number : ByteArray := prog_9_method_21_code
def yX7_number : MethodName := ⟨RX7, "number", "(II)I"⟩
abbrev cX7_setWeights : ByteArray := prog_9_method_22_code
def yX7_setWeights : MethodName := ⟨RX7, "setWeights", "(III)I"⟩
abbrev cX7_setThreshold : ByteArray := prog_9_method_23_code
def yX7_setThreshold : MethodName := ⟨RX7, "setThreshold", "(I)I"⟩
abbrev cX7_has : ByteArray := prog_9_method_24_code
def yX7_has : MethodName := ⟨RX7, "has", "(II)Z"⟩
abbrev cX7_isSame : ByteArray := prog_9_method_25_code
def yX7_isSame : MethodName := ⟨RX7, "isSame", "(III)Z"⟩
abbrev cX7_scoreOf : ByteArray := prog_9_method_26_code
def yX7_scoreOf : MethodName := ⟨RX7, "scoreOf", "(II)I"⟩
abbrev cX7_score : ByteArray := prog_9_method_27_code
def yX7_score : MethodName := ⟨RX7, "score", "(II)I"⟩
abbrev cX7_gather : ByteArray := prog_9_method_28_code
def yX7_gather : MethodName := ⟨RX7, "gather", "()V"⟩
abbrev cX7_isPair : ByteArray := prog_9_method_29_code
def yX7_isPair : MethodName := ⟨RX7, "isPair", "(II)Z"⟩
abbrev cX7_isBarred : ByteArray := prog_9_method_30_code
def yX7_isBarred : MethodName := ⟨RX7, "isBarred", "(II)Z"⟩
abbrev cX7_areCandidates : ByteArray := prog_9_method_31_code
def yX7_areCandidates : MethodName := ⟨RX7, "areCandidates", "(II)Z"⟩
abbrev cX7_candidates : ByteArray := prog_9_method_32_code
def yX7_candidates : MethodName := ⟨RX7, "candidates", "()I"⟩
abbrev cX7_noBest : ByteArray := prog_9_method_33_code
def yX7_noBest : MethodName := ⟨RX7, "noBest", "()Z"⟩
abbrev cX7_bestScore : ByteArray := prog_9_method_34_code
def yX7_bestScore : MethodName := ⟨RX7, "bestScore", "()I"⟩
abbrev cX7_bestScoreByPairs : ByteArray := prog_9_method_35_code
def yX7_bestScoreByPairs : MethodName := ⟨RX7, "bestScoreByPairs", "()I"⟩
abbrev cX7_bestOne : ByteArray := prog_9_method_36_code
def yX7_bestOne : MethodName := ⟨RX7, "bestOne", "()I"⟩
abbrev cX7_bestOther : ByteArray := prog_9_method_37_code
def yX7_bestOther : MethodName := ⟨RX7, "bestOther", "()I"⟩
abbrev cX7_forbid : ByteArray := prog_9_method_38_code
def yX7_forbid : MethodName := ⟨RX7, "forbid", "(II)I"⟩
abbrev cX7_allow : ByteArray := prog_9_method_39_code
def yX7_allow : MethodName := ⟨RX7, "allow", "(II)I"⟩
abbrev cX7_why : ByteArray := prog_9_method_40_code
def yX7_why : MethodName := ⟨RX7, "why", "(II)C"⟩
abbrev cX7_noBar : ByteArray := prog_9_method_41_code
def yX7_noBar : MethodName := ⟨RX7, "noBar", "(II)Z"⟩
abbrev cX7_barOne : ByteArray := prog_9_method_42_code
def yX7_barOne : MethodName := ⟨RX7, "barOne", "(II)I"⟩
abbrev cX7_barOther : ByteArray := prog_9_method_43_code
def yX7_barOther : MethodName := ⟨RX7, "barOther", "(II)I"⟩
abbrev cX7_makes : ByteArray := prog_9_method_44_code
def yX7_makes : MethodName := ⟨RX7, "makes", "(II)I"⟩
abbrev cX7_merge : ByteArray := prog_9_method_45_code
def yX7_merge : MethodName := ⟨RX7, "merge", "(II)I"⟩
abbrev cX7_mergeBest : ByteArray := prog_9_method_46_code
def yX7_mergeBest : MethodName := ⟨RX7, "mergeBest", "()I"⟩
abbrev cX7_noMerge : ByteArray := prog_9_method_47_code
def yX7_noMerge : MethodName := ⟨RX7, "noMerge", "(I)Z"⟩
abbrev cX7_undo : ByteArray := prog_9_method_48_code
def yX7_undo : MethodName := ⟨RX7, "undo", "(I)I"⟩
abbrev cX7_stands : ByteArray := prog_9_method_49_code
def yX7_stands : MethodName := ⟨RX7, "stands", "(I)Z"⟩
abbrev cX7_steps : ByteArray := prog_9_method_50_code
def yX7_steps : MethodName := ⟨RX7, "steps", "(II)I"⟩
abbrev cX7_person : ByteArray := prog_9_method_51_code
def yX7_person : MethodName := ⟨RX7, "person", "(I)I"⟩
abbrev cX7_personByRounds : ByteArray := prog_9_method_52_code
def yX7_personByRounds : MethodName := ⟨RX7, "personByRounds", "(I)I"⟩
abbrev cX7_persons : ByteArray := prog_9_method_53_code
def yX7_persons : MethodName := ⟨RX7, "persons", "()I"⟩
abbrev cX7_sizeOf : ByteArray := prog_9_method_54_code
def yX7_sizeOf : MethodName := ⟨RX7, "sizeOf", "(I)I"⟩
abbrev cX7_size : ByteArray := prog_9_method_55_code
def yX7_size : MethodName := ⟨RX7, "size", "(I)I"⟩
abbrev cX7_fieldFrom : ByteArray := prog_9_method_56_code
def yX7_fieldFrom : MethodName := ⟨RX7, "fieldFrom", "(II)I"⟩
abbrev cX7_conflicts : ByteArray := prog_9_method_57_code
def yX7_conflicts : MethodName := ⟨RX7, "conflicts", "(I)I"⟩
abbrev cX7_isDisputed : ByteArray := prog_9_method_58_code
def yX7_isDisputed : MethodName := ⟨RX7, "isDisputed", "(II)Z"⟩
abbrev cX7_noGroup : ByteArray := prog_9_method_59_code
def yX7_noGroup : MethodName := ⟨RX7, "noGroup", "(II)Z"⟩
abbrev cX7_cardsIn : ByteArray := prog_9_method_60_code
def yX7_cardsIn : MethodName := ⟨RX7, "cardsIn", "(I)I"⟩
abbrev cX7_join : ByteArray := prog_9_method_61_code
def yX7_join : MethodName := ⟨RX7, "join", "(II)I"⟩
abbrev cX7_leave : ByteArray := prog_9_method_62_code
def yX7_leave : MethodName := ⟨RX7, "leave", "(II)I"⟩
abbrev cX7_hasCard : ByteArray := prog_9_method_63_code
def yX7_hasCard : MethodName := ⟨RX7, "hasCard", "(II)Z"⟩
abbrev cX7_isIn : ByteArray := prog_9_method_64_code
def yX7_isIn : MethodName := ⟨RX7, "isIn", "(II)Z"⟩
abbrev cX7_personsIn : ByteArray := prog_9_method_65_code
def yX7_personsIn : MethodName := ⟨RX7, "personsIn", "(I)I"⟩
abbrev cX7_type : ByteArray := prog_9_method_66_code
def yX7_type : MethodName := ⟨RX7, "type", "(C)I"⟩
abbrev cX7_clearQuery : ByteArray := prog_9_method_67_code
def yX7_clearQuery : MethodName := ⟨RX7, "clearQuery", "()I"⟩
abbrev cX7_isFound : ByteArray := prog_9_method_68_code
def yX7_isFound : MethodName := ⟨RX7, "isFound", "(IZ)Z"⟩
abbrev cX7_finds : ByteArray := prog_9_method_69_code
def yX7_finds : MethodName := ⟨RX7, "finds", "(ZI)I"⟩
abbrev cX7_found : ByteArray := prog_9_method_70_code
def yX7_found : MethodName := ⟨RX7, "found", "(Z)I"⟩
abbrev cX7_foundAt : ByteArray := prog_9_method_71_code
def yX7_foundAt : MethodName := ⟨RX7, "foundAt", "(ZI)I"⟩
abbrev cX7_mergedShare : ByteArray := prog_9_method_72_code
def yX7_mergedShare : MethodName := ⟨RX7, "mergedShare", "()F"⟩
def RJx145de : String := "java/io/Serializable"
def TJx145de : u_T := fun k => match k with
  | _ => ("", "", "", false)
def tyJx145de : Nat → FieldType := fun k => match k with
  | _ => .int
abbrev wsJx145de0 : List Cond := u_ws RJx145de TJx145de 0
theorem nmJx145de : ∀ a, a < 0 → ∀ b, b < 0 → a ≠ b → (TJx145de a).2.1 ≠ (TJx145de b).2.1 := by decide +kernel
theorem tyJx145de_ok : ∀ k, k < 0 → parseFieldDescriptor (TJx145de k).2.2.1 = some (tyJx145de k) := by decide +kernel
def RJ6 : String := "java/lang/Integer"
def TJ6 : u_T := fun k => match k with
  | _ => ("", "", "", false)
def tyJ6 : Nat → FieldType := fun k => match k with
  | _ => .int
abbrev wsJ60 : List Cond := u_ws RJ6 TJ6 0
theorem nmJ6 : ∀ a, a < 0 → ∀ b, b < 0 → a ≠ b → (TJ6 a).2.1 ≠ (TJ6 b).2.1 := by decide +kernel
theorem tyJ6_ok : ∀ k, k < 0 → parseFieldDescriptor (TJ6 k).2.2.1 = some (tyJ6 k) := by decide +kernel
abbrev cJ6_bitCount_0f7a4 : ByteArray := prog_15_method_49_code
def yJ6_bitCount_0f7a4 : MethodName := ⟨RJ6, "bitCount", "(I)I"⟩
def RJ9 : String := "java/lang/Math"
def TJ9 : u_T := fun k => match k with
  | _ => ("", "", "", false)
def tyJ9 : Nat → FieldType := fun k => match k with
  | _ => .int
abbrev wsJ90 : List Cond := u_ws RJ9 TJ9 0
theorem nmJ9 : ∀ a, a < 0 → ∀ b, b < 0 → a ≠ b → (TJ9 a).2.1 ≠ (TJ9 b).2.1 := by decide +kernel
theorem tyJ9_ok : ∀ k, k < 0 → parseFieldDescriptor (TJ9 k).2.2.1 = some (tyJ9 k) := by decide +kernel
abbrev cJ9_floorDiv_7cf53 : ByteArray := prog_16_method_47_code
def yJ9_floorDiv_7cf53 : MethodName := ⟨RJ9, "floorDiv", "(II)I"⟩
abbrev cJ9_min_7cf53 : ByteArray := prog_16_method_69_code
def yJ9_min_7cf53 : MethodName := ⟨RJ9, "min", "(II)I"⟩
def RJ0 : String := "java/lang/String"
def TJ0 : u_T := fun k => match k with
  | _ => ("", "", "", false)
def tyJ0 : Nat → FieldType := fun k => match k with
  | _ => .int
abbrev wsJ00 : List Cond := u_ws RJ0 TJ0 0
theorem nmJ0 : ∀ a, a < 0 → ∀ b, b < 0 → a ≠ b → (TJ0 a).2.1 ≠ (TJ0 b).2.1 := by decide +kernel
theorem tyJ0_ok : ∀ k, k < 0 → parseFieldDescriptor (TJ0 k).2.2.1 = some (tyJ0 k) := by decide +kernel
def RL : String := "CardmeldLaw"
abbrev cL_addSource : ByteArray := method_3_code
def yL_addSource : MethodName := ⟨RL, "addSource", "(LCardmeld;I[J)I"⟩
abbrev cL_setRank : ByteArray := method_4_code
def yL_setRank : MethodName := ⟨RL, "setRank", "(LCardmeld;II[J)I"⟩
abbrev cL_addCard : ByteArray := method_5_code
def yL_addCard : MethodName := ⟨RL, "addCard", "(LCardmeld;I[J)I"⟩
abbrev cL_letter : ByteArray := method_6_code
def yL_letter : MethodName := ⟨RL, "letter", "(LCardmeld;IC[J)I"⟩
abbrev cL_clearName : ByteArray := method_7_code
def yL_clearName : MethodName := ⟨RL, "clearName", "(LCardmeld;I[J)I"⟩
abbrev cL_setNumber : ByteArray := method_8_code
def yL_setNumber : MethodName := ⟨RL, "setNumber", "(LCardmeld;III[J)I"⟩
abbrev cL_nameLength : ByteArray := method_9_code
def yL_nameLength : MethodName := ⟨RL, "nameLength", "(LCardmeld;I[J)I"⟩
abbrev cL_nameAt : ByteArray := method_10_code
def yL_nameAt : MethodName := ⟨RL, "nameAt", "(LCardmeld;II[J)I"⟩
abbrev cL_soundAt : ByteArray := method_11_code
def yL_soundAt : MethodName := ⟨RL, "soundAt", "(LCardmeld;II[J)I"⟩
abbrev cL_number : ByteArray := method_12_code
def yL_number : MethodName := ⟨RL, "number", "(LCardmeld;II[J)I"⟩
abbrev cL_setWeights : ByteArray := method_13_code
def yL_setWeights : MethodName := ⟨RL, "setWeights", "(LCardmeld;III[J)I"⟩
abbrev cL_setThreshold : ByteArray := method_14_code
def yL_setThreshold : MethodName := ⟨RL, "setThreshold", "(LCardmeld;I[J)I"⟩
abbrev cL_score : ByteArray := method_15_code
def yL_score : MethodName := ⟨RL, "score", "(LCardmeld;II[J)I"⟩
abbrev cL_bestScore : ByteArray := method_16_code
def yL_bestScore : MethodName := ⟨RL, "bestScore", "(LCardmeld;[J)I"⟩
abbrev cL_bestScoreByPairs : ByteArray := method_17_code
def yL_bestScoreByPairs : MethodName := ⟨RL, "bestScoreByPairs", "(LCardmeld;[J)I"⟩
abbrev cL_bestOne : ByteArray := method_18_code
def yL_bestOne : MethodName := ⟨RL, "bestOne", "(LCardmeld;[J)I"⟩
abbrev cL_bestOther : ByteArray := method_19_code
def yL_bestOther : MethodName := ⟨RL, "bestOther", "(LCardmeld;[J)I"⟩
abbrev cL_forbid : ByteArray := method_20_code
def yL_forbid : MethodName := ⟨RL, "forbid", "(LCardmeld;II[J)I"⟩
abbrev cL_allow : ByteArray := method_21_code
def yL_allow : MethodName := ⟨RL, "allow", "(LCardmeld;II[J)I"⟩
abbrev cL_why : ByteArray := method_22_code
def yL_why : MethodName := ⟨RL, "why", "(LCardmeld;II[J)I"⟩
abbrev cL_barOne : ByteArray := method_23_code
def yL_barOne : MethodName := ⟨RL, "barOne", "(LCardmeld;II[J)I"⟩
abbrev cL_barOther : ByteArray := method_24_code
def yL_barOther : MethodName := ⟨RL, "barOther", "(LCardmeld;II[J)I"⟩
abbrev cL_merge : ByteArray := method_25_code
def yL_merge : MethodName := ⟨RL, "merge", "(LCardmeld;II[J)I"⟩
abbrev cL_mergeBest : ByteArray := method_26_code
def yL_mergeBest : MethodName := ⟨RL, "mergeBest", "(LCardmeld;[J)I"⟩
abbrev cL_undo : ByteArray := method_27_code
def yL_undo : MethodName := ⟨RL, "undo", "(LCardmeld;I[J)I"⟩
abbrev cL_stands : ByteArray := method_28_code
def yL_stands : MethodName := ⟨RL, "stands", "(LCardmeld;I[J)I"⟩
abbrev cL_steps : ByteArray := method_29_code
def yL_steps : MethodName := ⟨RL, "steps", "(LCardmeld;II[J)I"⟩
abbrev cL_person : ByteArray := method_30_code
def yL_person : MethodName := ⟨RL, "person", "(LCardmeld;I[J)I"⟩
abbrev cL_personByRounds : ByteArray := method_31_code
def yL_personByRounds : MethodName := ⟨RL, "personByRounds", "(LCardmeld;I[J)I"⟩
abbrev cL_size : ByteArray := method_32_code
def yL_size : MethodName := ⟨RL, "size", "(LCardmeld;I[J)I"⟩
abbrev cL_fieldFrom : ByteArray := method_33_code
def yL_fieldFrom : MethodName := ⟨RL, "fieldFrom", "(LCardmeld;II[J)I"⟩
abbrev cL_conflicts : ByteArray := method_34_code
def yL_conflicts : MethodName := ⟨RL, "conflicts", "(LCardmeld;I[J)I"⟩
abbrev cL_join : ByteArray := method_35_code
def yL_join : MethodName := ⟨RL, "join", "(LCardmeld;II[J)I"⟩
abbrev cL_leave : ByteArray := method_36_code
def yL_leave : MethodName := ⟨RL, "leave", "(LCardmeld;II[J)I"⟩
abbrev cL_isIn : ByteArray := method_37_code
def yL_isIn : MethodName := ⟨RL, "isIn", "(LCardmeld;II[J)I"⟩
abbrev cL_personsIn : ByteArray := method_38_code
def yL_personsIn : MethodName := ⟨RL, "personsIn", "(LCardmeld;I[J)I"⟩
abbrev cL_type : ByteArray := method_39_code
def yL_type : MethodName := ⟨RL, "type", "(LCardmeld;C[J)I"⟩
abbrev cL_foundAt : ByteArray := method_40_code
def yL_foundAt : MethodName := ⟨RL, "foundAt", "(LCardmeld;ZI[J)I"⟩
abbrev cL_mergedShare : ByteArray := method_41_code
def yL_mergedShare : MethodName := ⟨RL, "mergedShare", "(LCardmeld;[D)I"⟩
abbrev cL_law : ByteArray := code
def yL_law : MethodName := ⟨RL, "law", "([I)Z"⟩
abbrev vwCl : List vw_C := [(RX0, TX0, 3), (RX1, TX1, 3), (RX2, TX2, 3), (RX3, TX3, 6), (RX4, TX4, 4), (RX5, TX5, 1), (RX6, TX6, 15), (RX7, TX7, 25)]
def gStr : List (Nat × String) := [(302, "the rank is not between 1 and 9"), (80, "there are 4 sources"), (306, "no such source"), (91, "there are 16 cards"), (309, "no such card"), (313, "not a letter from 'a' to 'z'"), (335, "there are 10 letters"), (317, "the field is not between 1 and 3"), (119, "the number is not between -1 and 999"), (130, "no such letter"), (140, "no such sign of the sound"), (315, "the field is not between 0 and 3"), (319, "the weight is not between -9 and 9"), (151, "the threshold is not between -40 and 40"), (311, "both cards are the same"), (331, "there are no candidates"), (194, "the cards are one person"), (203, "the cards are forbidden, or there are 12 pairs"), (208, "the cards are not forbidden"), (333, "the persons are not barred from one another"), (229, "the persons are barred from one another"), (235, "the cards are one person, or there are 30 merges"), (240, "there are 30 merges"), (324, "no such merge"), (249, "the merge does not stand"), (268, "the cards are not one person"), (279, "no card of the person has the field"), (326, "no such group"), (290, "the card is in the group"), (292, "the card is not in the group"), (298, "no such rank"), (300, "there is no card")]
end
section
section NYB
variable {p : Program} {l : Launch} {e : Env} {R : Room} {s : State} {m : MethodId} {args : Array Value} {below : List Frame} {meth : Method} {c : Code} {H : Heap} {locs : List Loc} {cells slots : Nat}
theorem vx_back9 {T S : State} {R' : Room} {k n : Nat} (X : Stand p l e R s m args below meth c T locs cells slots) (Y : Stand p l e R' ((T.setVm s.vm).setFrames (.invoking m args :: below)) m args below meth c T [] 0 0) (Z : Stand p l e R' ((T.setVm s.vm).setFrames (.invoking m args :: below)) m args below meth c S [] k n) :
    Stand p l e R s m args below meth c S locs (cells + k) (slots + n) := by
  have hW0 : s.WarmedH ((T.setVm s.vm).setFrames (.invoking m args :: below)).vm := State.WarmedH.refl s
  refine { admits := X.admits, cas := X.cas, clock := X.clock, frames := X.frames, room := X.room, hears := X.hears, method := X.method, code := X.code, here := Z.here, tail := Z.tail, warmed := State.WarmedH.trans hW0 Z.warmed, limits := Z.limits.trans (Y.limits.symm.trans X.limits), bytes := Z.bytes.trans (Y.bytes.symm.trans X.bytes), same := ?_ }
  obtain ⟨e1, e2⟩ := Z.same
  rw [State.setFrames_setFrames] at e1
  have h2 : (T.setVm s.vm).sameButNew (S.setVm s.vm) [] k n := ⟨e1, e2⟩
  have h3 := X.same.trans h2
  rw [List.append_nil] at h3
  exact h3
end NYB
/-! ===== BEGIN a private method of a nest mate that may throw (follows va_callVN, va_callSN, va_runVN, va_runSN) ===== -/
section
variable {p : Program} {l : Launch} {e : Env} {R : Room} {s : State} {m : MethodId} {args : Array Value} {below : List Frame} {meth : Method} {c : Code} {H : Heap} {locs : List Loc} {cells slots : Nat}
variable {T : State}
theorem vx_callVN (X : Stand p l e R s m args below meth c T locs cells slots) (hexec : p.tables.exec = Jvm.exec) {own C : String} {index : Nat} {host : String} {y : MethodName} {bytes : ByteArray} {maxL : Nat} {ret : Option FieldType}
    (hown : s.vm.findClass own = some m.cls) (hlink : (Cond.methodLinkNest own index y host).before args s = true) (hinst : (Cond.instanceMethod y).before args s = true) (hsel : (Cond.selects C y y).before args s = true)
    (hcode : (Cond.code y bytes maxL ret).before args s = true) (hy : y.cls ≠ "java/lang/invoke/MethodHandle" ∧ y.cls ≠ "java/lang/invoke/VarHandle")
    {W : Nat} {Pre : Pt → Array Value → Prop} {Post : Pt → Array Value → Option Value → Pt → Prop} {PostX : Pt → Array Value → Addr → Pt → Prop} (hK : vx_Back l R p e below s args y 3 W Pre Post PostX)
    {b : Addr} {cellB : Cell} (hcell : T.heap[b]? = some cellB) (hobj : cellB.vm.isStatics = false) (hcls : s.vm.findClass C = some cellB.cls)
    {g : JFrame} (hg : g.method = m) (hsize : g.locals.size = c.maxLocals) {argsL rest : List Value} (hlen : ∀ sig, parseMethodDescriptor y.desc = some sig → argsL.length = sig.parameters.length)
    (hstack : g.stack = argsL.reverse ++ .ref b :: rest) (hW : 2 * g.monitorRoom + (rest.map fun v => v.category).sum ≤ W) (hdg : decode c.code g.pc = .ok (.invokevirtual index, 3))
    (hpre : ∀ vm₁, s.WarmedH vm₁ → Pre ⟨T.setVm vm₁, locs, cells, slots⟩ (Value.ref b :: argsL).toArray) :
    (∃ (v : Option Value) (vm₁ : Vm) (B : Pt), s.WarmedH vm₁ ∧ Stand p l e R s m args below meth c B.U B.locs B.cells B.slots ∧ Post ⟨T.setVm vm₁, locs, cells, slots⟩ (Value.ref b :: argsL).toArray v B ∧
      ∀ target, Steps p.tables e below (B.U.setTop { g with pc := g.pc + 3, stack := v.toList ++ rest }) target → Steps p.tables e below (T.setTop g) target) ∨
    (∃ (q : Addr) (vm₁ : Vm) (B : Pt), s.WarmedH vm₁ ∧ Stand p l e R s m args below meth c B.U B.locs B.cells B.slots ∧ PostX ⟨T.setVm vm₁, locs, cells, slots⟩ (Value.ref b :: argsL).toArray q B ∧
      Steps p.tables e below (T.setTop g) ((B.U.setTop { g with stack := rest }).pushFrame (.throwing q))) := by
  obtain ⟨mk, methM, hnamed, hmethM, hstM, habM⟩ := Cond.instanceMethod_spec hinst
  obtain ⟨methM', cM, hmethM', -, -, -, -, -, -, hsigM⟩ := Cond.code_spec hnamed hcode
  cases hmethM.symm.trans hmethM'
  obtain ⟨c2, r2, m2, q1, q2, q3, q4, kP, hkP, hkPi⟩ := Cond.selects_spec hsel
  cases hcls.symm.trans q1
  cases (State.methodFound?_of_named hnamed hy).symm.trans q2
  cases hnamed.symm.trans q3
  have hselP : selectMethod e.platform s.vm cellB.cls mk = .method mk := by rw [Launch.admits_selectMethod X.admits]; exact q4
  obtain ⟨vm₁, X₁, hstep₁⟩ := X.invokevirtualNest hexec hown hlink hnamed hmethM hstM hkP hkPi hy (a := b) (cell := cellB) hcell
    (fun z h => by rw [h] at hobj; cases hobj) hselP hmethM habM hkP hkPi (g := g) hg (argsL := argsL) (rest := rest) (hlen _ hsigM) hstack hdg
  rcases hK m meth c ⟨T.setVm vm₁, locs, cells, slots⟩ { g with stack := rest } (.invokevirtual index) mk (Value.ref b :: argsL).toArray X₁ hg hsize hdg hW (X₁.named hnamed) (hpre vm₁ X₁.warmed) with ⟨v, B, X', hpost, hsteps⟩ | ⟨q, B, X', hpost, hsteps⟩
  · exact Or.inl ⟨v, vm₁, B, X₁.warmed, X', hpost, fun target h => hstep₁ _ fun acts => by rw [doInvoke_state]; exact hsteps.trans h⟩
  · exact Or.inr ⟨q, vm₁, B, X₁.warmed, X', hpost, hstep₁ _ fun acts => by rw [doInvoke_state]; exact hsteps⟩
theorem vx_callSN (X : Stand p l e R s m args below meth c T locs cells slots) (hexec : p.tables.exec = Jvm.exec) {own : String} {index : Nat} {host : String} {y : MethodName} {bytes : ByteArray} {maxL : Nat} {ret : Option FieldType}
    (hown : s.vm.findClass own = some m.cls) (hlink : (Cond.methodLinkNest own index y host).before args s = true) (hstat : (Cond.static y).before args s = true) (hinit : (Cond.initialized y.cls).before args s = true)
    (hcode : (Cond.code y bytes maxL ret).before args s = true) (hy : y.cls ≠ "java/lang/invoke/MethodHandle" ∧ y.cls ≠ "java/lang/invoke/VarHandle")
    {W : Nat} {Pre : Pt → Array Value → Prop} {Post : Pt → Array Value → Option Value → Pt → Prop} {PostX : Pt → Array Value → Addr → Pt → Prop} (hK : vx_Back l R p e below s args y 3 W Pre Post PostX)
    {g : JFrame} (hg : g.method = m) (hsize : g.locals.size = c.maxLocals) {argsL rest : List Value} (hlen : ∀ sig, parseMethodDescriptor y.desc = some sig → argsL.length = sig.parameters.length)
    (hstack : g.stack = argsL.reverse ++ rest) (hW : 2 * g.monitorRoom + (rest.map fun v => v.category).sum ≤ W) (hdg : decode c.code g.pc = .ok (.invokestatic index, 3))
    (hpre : ∀ vm₁, s.WarmedH vm₁ → Pre ⟨T.setVm vm₁, locs, cells, slots⟩ argsL.toArray) :
    (∃ (v : Option Value) (vm₁ : Vm) (B : Pt), s.WarmedH vm₁ ∧ Stand p l e R s m args below meth c B.U B.locs B.cells B.slots ∧ Post ⟨T.setVm vm₁, locs, cells, slots⟩ argsL.toArray v B ∧
      ∀ target, Steps p.tables e below (B.U.setTop { g with pc := g.pc + 3, stack := v.toList ++ rest }) target → Steps p.tables e below (T.setTop g) target) ∨
    (∃ (q : Addr) (vm₁ : Vm) (B : Pt), s.WarmedH vm₁ ∧ Stand p l e R s m args below meth c B.U B.locs B.cells B.slots ∧ PostX ⟨T.setVm vm₁, locs, cells, slots⟩ argsL.toArray q B ∧
      Steps p.tables e below (T.setTop g) ((B.U.setTop { g with stack := rest }).pushFrame (.throwing q))) := by
  obtain ⟨mk, hnamed⟩ := Cond.code_named hcode
  obtain ⟨methM, cM, hmethM, -, -, -, -, -, -, hsigM⟩ := Cond.code_spec hnamed hcode
  have hstatic : methM.isStatic = true := Cond.static_spec hnamed hmethM hstat
  obtain ⟨kP, hkP, -⟩ := className_of_methodNamed hnamed
  have hinitP : kP.init = .initialized := Cond.initialized_spec (findClass_of_methodNamed hnamed) hkP hinit
  obtain ⟨vm₁, X₁, hstep₁⟩ := X.invokestaticNest hexec hown hlink hnamed hmethM hstatic hkP hinitP hy (g := g) hg (argsL := argsL) (rest := rest) (hlen _ hsigM) hstack hdg
  rcases hK m meth c ⟨T.setVm vm₁, locs, cells, slots⟩ { g with stack := rest } (.invokestatic index) mk argsL.toArray X₁ hg hsize hdg hW (X₁.named hnamed) (hpre vm₁ X₁.warmed) with ⟨v, B, X', hpost, hsteps⟩ | ⟨q, B, X', hpost, hsteps⟩
  · exact Or.inl ⟨v, vm₁, B, X₁.warmed, X', hpost, fun target h => hstep₁ _ fun acts => by rw [doInvoke_state]; exact hsteps.trans h⟩
  · exact Or.inr ⟨q, vm₁, B, X₁.warmed, X', hpost, hstep₁ _ fun acts => by rw [doInvoke_state]; exact hsteps⟩
theorem vx_runVN {y : MethodName} {bytes cc : ByteArray} {maxL nL mc ms n index : Nat} {ret : Option FieldType} {ws : List Cond} {rm : Room} {Pc : Array Value → State → Prop} {Qc : Array Value → State → Outcome → State → Prop} {XC : String → State → State → Prop} {free : Addr → Prop} {Ts : List Cond} {own C host : String} {b : Addr} {As rest : List Value} {g : JFrame}
    (S : CallFix p m c cc nL s args Ts own) (hM : vx_Met l y ws rm Pc Qc XC mc ms free) (cw : va_CN R s args own index y host bytes maxL ret ws rm mc ms n ∧ (Cond.instanceMethod y).before args s = true ∧ (Cond.selects C y y).before args s = true) (hp : PreV s H C b Pc As)
    (hg : g.method = m) (hn : As.length = n) (hsize : g.locals.size = nL) (hstack : g.stack = As.reverse ++ .ref b :: rest) (hW : 2 * g.monitorRoom + (rest.map fun v => v.category).sum ≤ 8) (hdg : decode cc g.pc = .ok (.invokevirtual index, 3)) (hf : cells + mc ≤ R.cells ∧ slots + ms ≤ R.slots) :
    vx_Run p l e R s m args below meth c H locs cells slots mc ms g rest (Qc (Value.ref b :: As).toArray) XC free := by
  obtain ⟨⟨⟨hrc, hrs, hfr, hlo, hws, hcw⟩, hcode, hini, hy, hlen, hl⟩, hx1, hx2⟩ := cw
  have hK : vx_Back l R p e below s args y 3 8 (PreOf R mc ms Pc) (PostOf Qc mc ms free) (vx_Post XC mc ms free) := vx_back (bytes := bytes) (maxL := maxL) (ret := ret) hM hp.1 hrc hrs hfr hlo hws hcw (fun a' U hW => word_at hW (Or.inl (by first | rfl | simp [Cond.onTables, Cond.keeps, Cond.steady])) hini)
  obtain ⟨hx, hb, hml, ho, -⟩ := S
  obtain ⟨-, ⟨cellB, hcB, hoB, hclB⟩, hPc⟩ := hp
  intro T hT X
  rcases vx_callVN X hx (C := C) (bytes := bytes) (maxL := maxL) (ret := ret) ho hl hx1 hx2 hcode hy hK (by rw [hT]; exact hcB) hoB hclB hg (hsize.trans hml.symm) (argsL := As) (rest := rest) (fun sig h => hn.trans (hlen sig h)) hstack hW (by rw [hb]; exact hdg)
    (fun vm₁ hW₁ => ⟨hf.1, hf.2, hPc (T.setVm vm₁) hT hW₁⟩) with ⟨v, vm₁, ⟨U', l2, c2, s2⟩, hW₁, X', ⟨g', mk, t, L, e1, e2, hq, h1, hL, h2, h3⟩, st⟩ | ⟨q, vm₁, ⟨U', l2, c2, s2⟩, hW₁, X', ⟨g', mk, t, L, E, ce, e1, e2, hq, hce, hcv, hcl, h1, hL, h2, h3⟩, st⟩
  · dsimp only [Pt.U, Pt.locs, Pt.cells, Pt.slots] at X' e1 e2 h1 h2 h3 st
    subst h1; subst h2; subst h3
    exact Or.inl ⟨v, (T.setVm vm₁).calling g' mk (Value.ref b :: As).toArray, t, U', L, hT, X', hL, e1, e2, hq, st⟩
  · dsimp only [Pt.U, Pt.locs, Pt.cells, Pt.slots] at X' e1 e2 h1 h2 h3 st hcl
    subst h1; subst h2; subst h3
    exact Or.inr ⟨q, (T.setVm vm₁).calling g' mk (Value.ref b :: As).toArray, t, U', L, E, ce, hT, X', hL, e1, e2, hq, hce, hcv, vx_cls hW₁ hcl, st⟩
theorem vx_runSN {y : MethodName} {bytes cc : ByteArray} {maxL nL mc ms n index : Nat} {ret : Option FieldType} {ws : List Cond} {rm : Room} {Pc : Array Value → State → Prop} {Qc : Array Value → State → Outcome → State → Prop} {XC : String → State → State → Prop} {free : Addr → Prop} {Ts : List Cond} {own host : String} {As rest : List Value} {g : JFrame}
    (S : CallFix p m c cc nL s args Ts own) (hM : vx_Met l y ws rm Pc Qc XC mc ms free) (cw : va_CN R s args own index y host bytes maxL ret ws rm mc ms n ∧ (Cond.static y).before args s = true ∧ True) (hp : PreS s H Pc As)
    (hg : g.method = m) (hn : As.length = n) (hsize : g.locals.size = nL) (hstack : g.stack = As.reverse ++ rest) (hW : 2 * g.monitorRoom + (rest.map fun v => v.category).sum ≤ 8) (hdg : decode cc g.pc = .ok (.invokestatic index, 3)) (hf : cells + mc ≤ R.cells ∧ slots + ms ≤ R.slots) :
    vx_Run p l e R s m args below meth c H locs cells slots mc ms g rest (Qc As.toArray) XC free := by
  obtain ⟨⟨⟨hrc, hrs, hfr, hlo, hws, hcw⟩, hcode, hini, hy, hlen, hl⟩, hx1, hx2⟩ := cw
  have hK : vx_Back l R p e below s args y 3 8 (PreOf R mc ms Pc) (PostOf Qc mc ms free) (vx_Post XC mc ms free) := vx_back (bytes := bytes) (maxL := maxL) (ret := ret) hM hp.1 hrc hrs hfr hlo hws hcw (fun a' U hW => word_at hW (Or.inl (by first | rfl | simp [Cond.onTables, Cond.keeps, Cond.steady])) hini)
  obtain ⟨hx, hb, hml, ho, -⟩ := S
  have hPc := hp.2
  intro T hT X
  rcases vx_callSN X hx (bytes := bytes) (maxL := maxL) (ret := ret) ho hl hx1 hini hcode hy hK hg (hsize.trans hml.symm) (argsL := As) (rest := rest) (fun sig h => hn.trans (hlen sig h)) hstack hW (by rw [hb]; exact hdg)
    (fun vm₁ hW₁ => ⟨hf.1, hf.2, hPc (T.setVm vm₁) hT hW₁⟩) with ⟨v, vm₁, ⟨U', l2, c2, s2⟩, hW₁, X', ⟨g', mk, t, L, e1, e2, hq, h1, hL, h2, h3⟩, st⟩ | ⟨q, vm₁, ⟨U', l2, c2, s2⟩, hW₁, X', ⟨g', mk, t, L, E, ce, e1, e2, hq, hce, hcv, hcl, h1, hL, h2, h3⟩, st⟩
  · dsimp only [Pt.U, Pt.locs, Pt.cells, Pt.slots] at X' e1 e2 h1 h2 h3 st
    subst h1; subst h2; subst h3
    exact Or.inl ⟨v, (T.setVm vm₁).calling g' mk As.toArray, t, U', L, hT, X', hL, e1, e2, hq, st⟩
  · dsimp only [Pt.U, Pt.locs, Pt.cells, Pt.slots] at X' e1 e2 h1 h2 h3 st hcl
    subst h1; subst h2; subst h3
    exact Or.inr ⟨q, (T.setVm vm₁).calling g' mk As.toArray, t, U', L, E, ce, hT, X', hL, e1, e2, hq, hce, hcv, vx_cls hW₁ hcl, st⟩
end
/-! ===== END ===== -/
def ny_X : String := "java/util/NoSuchElementException"
def ny_R : String := "java/lang/RuntimeException"
def ny_b : ByteArray := ⟨#[0x2a, 0x2b, 0xb7, 0x00, 0x0d, 0xb1]⟩
theorem ny_b0 : decode ny_b 0 = .ok (.aload_n 0, 1) := by decide +kernel
theorem ny_b1 : decode ny_b 1 = .ok (.aload_n 1, 1) := by decide +kernel
theorem ny_b2 : decode ny_b 2 = .ok (.invokespecial 13, 3) := by decide +kernel
theorem ny_b5 : decode ny_b 5 = .ok (.return_, 1) := by decide +kernel
/-- the words of a throw of NoSuchElementException, whose constructor's link has another place -/
def ny_atoms (own : String) (ic : Nat) (X : String) (names : List String) : List Cond :=
  Bundle.throwableAtoms ++ Bundle.throwableSAtoms ++ (Bundle.passSAtoms X ny_R 13 ny_b ++ Bundle.chainSAtoms ny_R names) ++
  [.methodLink own ic (Bundle.initS X), .instantiable X 6, .castable X X, .selects X Bundle.tFill0 Bundle.tFill0, .selects X Bundle.tFill Bundle.tFill,
   .lays X Bundle.tN "cause" "Ljava/lang/Throwable;", .lays X Bundle.tN "stackTrace" Bundle.steD, .lays X Bundle.tN "suppressedExceptions" Bundle.listD, .lays X Bundle.tN "detailMessage" "Ljava/lang/String;",
   .isRef (.static Bundle.tN "UNASSIGNED_STACK" Bundle.steD), .isRef (.static Bundle.tN "SUPPRESSED_SENTINEL" Bundle.listD),
   .fieldLink Bundle.tN 198 Bundle.tN "backtrace" "Ljava/lang/Object;", .lays Bundle.tN Bundle.tN "backtrace" "Ljava/lang/Object;", .lays X Bundle.tN "backtrace" "Ljava/lang/Object;"]
def ny_at (own : String) (ic : Nat) (X : String) (names : List String) : List Cond := (ny_atoms own ic X names).filter vx_no
theorem ny_chain {args : Array Value} {s : State} {pl : Platform} (hpl : pl.magicAccessors = ({} : Platform).magicAccessors) {top : MethodId} (htop : s.methodNamed? (Bundle.initS Bundle.tN) = some top)
    (names : List String) (X : String) (hX : Bundle.fit X = true) (hn : ∀ n ∈ names, Bundle.fit n = true) (h : ∀ c ∈ Bundle.passSAtoms X ny_R 13 ny_b ++ Bundle.chainSAtoms ny_R names, c.before args s = true) :
      ∃ (P1 : PassC) (Ps : List PassC), Ps.length = names.length + 1 ∧ P1.LinksS pl s ∧ (∀ P, P ∈ Ps → P.LinksS pl s) ∧ s.methodNamed? (Bundle.initS X) = some P1.m ∧
        P1.sup = firstOf top (Ps.map (·.toPassT)) ∧ PassesOn top (Ps.map (·.toPassT)) := by
  obtain ⟨P, L, hm, hs⟩ := PassC.ofS_atoms (args := args) (s := s) hpl (X := X) (Y := ny_R) (Bundle.fit_spec hX).1 (by decide) ny_b0 ny_b1 ny_b2 ny_b5 (fun c hc => h c (List.mem_append_left _ hc))
  obtain ⟨P', Ps, hlen, L', hL, hm', hsup, hpass⟩ := Bundle.chainS (args := args) hpl htop names ny_R (by decide) hn (fun c hc => h c (List.mem_append_right _ hc))
  refine ⟨P, P' :: Ps, by simp [hlen], L, ?_, hm, Option.some.inj (hs.symm.trans hm'), hsup, hpass⟩
  intro Q hQ
  rcases List.mem_cons.mp hQ with rfl | hQ
  · exact L'
  · exact hL Q hQ
section NYC
variable {p : Program} {l : Launch} {e : Env} {R : Room} {s : State} {m₀ : MethodId} {args : Array Value} {below : List Frame} {meth : Method} {c : Code} {W : State} {locs : List Loc} {cells slots : Nat}
set_option maxHeartbeats 1000000 in
theorem ny_ctorMadeS (X : Stand p l e R s m₀ args below meth c W locs cells slots) (hexec : p.tables.exec = Jvm.exec) (htr : e.platform.stackTraces = false) {own cls : String} {names : List String} {ic : Nat}
    (hown : s.vm.findClass own = some m₀.cls) (hcls : Bundle.fit cls = true) (hnames : ∀ n ∈ names, Bundle.fit n = true)
    (h : ∀ a ∈ ny_atoms own ic cls names, a.before args s = true)
    (hlocs : ∀ x ∈ locs, ∀ cell, s.heap[x.base]? = some cell → cell.vm.isStatics = false)
    {a : Addr} {cX : ClassId} {kX : Class} (hfoundX : s.vm.findClass cls = some cX) (hkX : s.vm.classes[cX]? = some kX) (hcell : W.heap[a]? = some (freshCell cX kX)) (hnew : s.heap.size ≤ a)
    {msg : Value} (hmsg : msg.isRef = true)
    {g : JFrame} (hg : g.method = m₀) (hsize : g.locals.size = c.maxLocals) {rest : List Value} (hstack : g.stack = msg :: .ref a :: .ref a :: rest)
    (hd6 : decode c.code g.pc = .ok (.invokespecial ic, 3))
    (hRframes : names.length + 4 < R.frames) (hRlocals : 2 * g.monitorRoom + ((Value.ref a :: rest).map fun v => v.category).sum + (13 * (names.length + 2) + 42) ≤ R.locals) :
    ∃ (V : State) (ce : Cell) (L : List Loc), Stand p l e R s m₀ args below meth c (V.setCell a ce) (locs ++ L) cells slots ∧ (∀ y ∈ L, y.base = a) ∧ a < V.heap.size ∧ ce.cls = cX ∧ ce.vm = .none ∧
      ∀ target, Steps p.tables e below ((V.setCell a ce).setTop { g with stack := .ref a :: rest, pc := g.pc + 3 }) target → Steps p.tables e below (W.setTop g) target := by
  have howns : e.platform.frameOwnsMonitors = true := by rw [X.admits.platform]
  have hfin : e.platform.finalization = false := by rw [X.admits.platform]
  have hpl : e.platform.magicAccessors = ({} : Platform).magicAccessors := by rw [X.admits.platform]
  have a' : ∀ x, x ∈ ny_atoms own ic cls names → x.holds args s none s [] = true := fun x hx => h x hx
  obtain ⟨T, Z0, L, -, Y⟩ := ThrowableC.of_atoms (args := args) howns hfin hpl (fun x hx => h x (by simp [ny_atoms, hx]))
  obtain ⟨Z, M, LZ, LM, hnZ⟩ := Init0T.ofS_atoms (args := args) hpl L Y (fun x hx => h x (by simp [ny_atoms, hx]))
  obtain ⟨P1, Ps, hlen, L1, hL, hP1m, hlink1, hlink⟩ := ny_chain (args := args) hpl hnZ names cls hcls hnames (fun x hx => h x (by rcases List.mem_append.mp hx with hx | hx <;> simp [ny_atoms, hx]))
  have hfound : s.vm.findClass cls = some P1.m.cls := findClass_of_methodNamed hP1m
  cases Option.some.inj (hfoundX.symm.trans hfound)
  obtain ⟨c1, kX', hc1, hk, hord, -, -, hn6⟩ := Cond.instantiable_spec (a' (.instantiable cls 6) (by simp [ny_atoms]))
  cases Option.some.inj (hc1.symm.trans hfound)
  cases Option.some.inj (hkX.symm.trans hk)
  have hsel0 : selectMethod e.platform s.vm P1.m.cls T.fill0 = .method T.fill0 := by
    obtain ⟨c2, r2, m2, q1, q2, q3, q4, -⟩ := Cond.selects_spec (a' (.selects cls Bundle.tFill0 Bundle.tFill0) (by simp [ny_atoms]))
    cases Option.some.inj (q1.symm.trans hfound)
    cases Option.some.inj (q2.symm.trans (State.methodFound?_of_named Y.fill0 (by decide)))
    cases Option.some.inj (q3.symm.trans Y.fill0)
    rw [Launch.admits_selectMethod X.admits]; exact q4
  have hselF : selectMethod e.platform s.vm P1.m.cls T.fill = .method T.fill := by
    obtain ⟨c2, r2, m2, q1, q2, q3, q4, -⟩ := Cond.selects_spec (a' (.selects cls Bundle.tFill Bundle.tFill) (by simp [ny_atoms]))
    cases Option.some.inj (q1.symm.trans hfound)
    cases Option.some.inj (q2.symm.trans (State.methodFound?_of_named Y.fill (by decide)))
    cases Option.some.inj (q3.symm.trans Y.fill)
    rw [Launch.admits_selectMethod X.admits]; exact q4
  obtain ⟨cellS0, hcS0, hiss⟩ := Y.statics
  obtain ⟨u0, hu0⟩ := Cond.staticRefV Y.unassigned L.unassignedStatic L.statics hcS0 hiss (a' (.isRef (.static Bundle.tN "UNASSIGNED_STACK" Bundle.steD)) (by simp [ny_atoms]))
  obtain ⟨sen, hsen⟩ := Cond.staticRefV Y.sentinel L.sentinelStatic L.statics hcS0 hiss (a' (.isRef (.static Bundle.tN "SUPPRESSED_SENTINEL" Bundle.listD)) (by simp [ny_atoms]))
  obtain ⟨ci198, i198, fB, hk198, hg198, ha198, hsB, -, hnB, htB, hffB⟩ := Cond.ownField (t := .object "java/lang/Object") Y.found L.cls (by decide +kernel) (a' (.fieldLink Bundle.tN 198 Bundle.tN "backtrace" "Ljava/lang/Object;") (by simp [ny_atoms])) (a' (.lays Bundle.tN Bundle.tN "backtrace" "Ljava/lang/Object;") (by simp [ny_atoms])) e.platform hpl
  obtain ⟨cellS, hcS', heS, -, hkeep⟩ := X.same.2.2.2.2.2 T.aS cellS0 hcS0
  have hcellS : W.heap[T.aS]? = some cellS := hcS'
  have hout' : ∀ i, (⟨T.aS, i⟩ : Loc) ∉ locs := fun i hmem => by
    have := hlocs _ hmem cellS0 hcS0
    rw [hiss] at this; cases this
  have hknownS : cellS.vm ≠ .unknown := by
    rw [heS]; intro hu
    rw [show cellS0.vm = .unknown from hu] at hiss
    cases hiss
  have hneS : T.aS ≠ a := Nat.ne_of_lt (Nat.lt_of_lt_of_le (Array.getElem?_eq_some_iff.mp hcS0).1 hnew)
  obtain ⟨iM, hffM⟩ := Y.msg
  obtain ⟨tyC, dC, hdC, hdnC⟩ := Cond.laysAt hfound hk Y.cause (a' (.lays cls Bundle.tN "cause" "Ljava/lang/Throwable;") (by simp [ny_atoms]))
  obtain ⟨tyS, dS, hdS, hdnS⟩ := Cond.laysAt hfound hk Y.stack (a' (.lays cls Bundle.tN "stackTrace" Bundle.steD) (by simp [ny_atoms]))
  obtain ⟨tyP, dP, hdP, hdnP⟩ := Cond.laysAt hfound hk Y.supp (a' (.lays cls Bundle.tN "suppressedExceptions" Bundle.listD) (by simp [ny_atoms]))
  obtain ⟨tyM, dM, hdM, hdnM⟩ := Cond.laysAt hfound hk hffM (a' (.lays cls Bundle.tN "detailMessage" "Ljava/lang/String;") (by simp [ny_atoms]))
  obtain ⟨tyB, dB, hdB, hdnB⟩ := Cond.laysAt hfound hk hffB (a' (.lays cls Bundle.tN "backtrace" "Ljava/lang/Object;") (by simp [ny_atoms]))
  have bC := Cond.laysApart hdB hdC hdnB hdnC (by rw [hnB, Y.causeName]; decide)
  have bS := Cond.laysApart hdB hdS hdnB hdnS (by rw [hnB, Y.stackName]; decide)
  have bP := Cond.laysApart hdB hdP hdnB hdnP (by rw [hnB, Y.suppName]; decide)
  have hskip : SkipFacts T e.platform s (fun u => u) u0 ((preparedCellV T.toThrowableT (freshCell P1.m.cls kX) a u0 sen).withEntry W.cur) :=
    ⟨{ ci198 := ci198, i198 := i198, fBack := fB }, ⟨hk198, hg198, ha198, hsB⟩, by
      have := fresh_default (c := P1.m.cls) tyB
      rw [htB] at this
      simpa [preparedCellV, Cell.setSlot, Cell.withEntry, Array.getElem?_setIfInBounds, bC, bS, bP, bC.symm, bS.symm, bP.symm, defaultValue] using this, fun _ _ => rfl⟩
  obtain ⟨tm, methC, cdC, kC, vm₁, hnC, -, -, -, -, -, -, -, hW₁, st1⟩ := Steps.initColdS (tb := p.tables) (e := e) (below := below) (s := s) (U := W) X.here hexec X.warmed hpl hown (t := Bundle.initS cls) rfl rfl (Bundle.fit_spec hcls).2
    (a' (.methodLink own ic (Bundle.initS cls)) (by simp [ny_atoms])) (h (.instanceMethod (Bundle.initS cls)) (by simp [ny_atoms, Bundle.passSAtoms])) (bytes := ny_b) (maxL := 2) (h (.code (Bundle.initS cls) ny_b 2 none) (by simp [ny_atoms, Bundle.passSAtoms]))
    (f := g) hg (a := a) (msg := msg) (rest := .ref a :: rest) hstack hd6
  cases Option.some.inj (hnC.symm.trans hP1m)
  have X₁ := X.noted hW₁
  obtain ⟨vm₂, X₂, st2⟩ := X₁.ctorMessageOffV hexec (g := { g with stack := .ref a :: rest }) hg hsize T L Z LZ M LM (P1 :: Ps)
    (fun P hP => by rcases List.mem_cons.mp hP with rfl | hP; exact L1; exact hL P hP) ⟨hlink1, hlink⟩ (u0 := u0) (sen := sen) (self := a) hmsg (cell := freshCell P1.m.cls kX) (cellS := cellS)
    hcell (fun _ => by simp) (by simp) rfl rfl hsel0 hselF hcellS hneS hknownS (by rw [hkeep _ (hout' _)]; exact hu0) (by rw [hkeep _ (hout' _)]; exact hsen)
    (Takes.of_laid hk hord tyC (by rw [Y.causeType]; rfl)) (Takes.of_laid hk hord tyS (by rw [Y.stackType]; exact fits_refV_array _ u0)) (Takes.of_laid hk hord tyP (by rw [Y.suppType]; exact fits_refV_object _ sen))
    (Takes.of_laid hk hord tyM (by rw [Y.msgType]; exact fits_refV_object _ ⟨msg, hmsg⟩)) Y.objLocals hskip htr [] hd6
    (by simp only [List.length_cons, hlen]; omega) (by simp only [List.length_cons, hlen]; exact hRlocals)
  have hlt : a < ((W.setVm vm₁).setVm vm₂).heap.size := (Array.getElem?_eq_some_iff.mp hcell).1
  refine ⟨(W.setVm vm₁).setVm vm₂, _, _, X₂, fun y hy => ?_, hlt, rfl, rfl, fun target hwalk => st1 _ (fun acts => ?_)⟩
  · simp only [List.mem_cons, List.not_mem_nil, or_false] at hy
    rcases hy with rfl | rfl | rfl | rfl | rfl <;> rfl
  · rw [doInvoke_state]
    exact st2 _ hwalk
end NYC
section NYD
variable {p : Program} {l : Launch} {e : Env} {R : Room} {s : State} {m : MethodId} {args : Array Value} {below : List Frame} {meth : Method} {c : Code} {H : Heap} {locs : List Loc} {cells slots : Nat} {Q : State → Prop}
variable {ls : Array Slot} {rest : List Value} {D : va_G} {cl : List vw_C} {tys : List (ClassId × FieldType)} {ws : va_W}
theorem ny_own {own X : String} {ic : Nat} {names : List String} {args : Array Value} {s : State} (h1 : ∀ w ∈ ny_at own ic X names, w.before args s = true) (hU : (Cond.isRef (.static Bundle.tN "UNASSIGNED_STACK" Bundle.steD)).before args s = true) (hN : (Cond.isRef (.static Bundle.tN "SUPPRESSED_SENTINEL" Bundle.listD)).before args s = true) (lU : (Cond.laysStatic Bundle.tN "UNASSIGNED_STACK" Bundle.steD).before args s = true) (lN : (Cond.laysStatic Bundle.tN "SUPPRESSED_SENTINEL" Bundle.listD).before args s = true) : ∀ w ∈ ny_atoms own ic X names, w.before args s = true := vx_own h1 hU hN lU lN
set_option maxHeartbeats 1000000 in
theorem ny_makeS {cc : ByteArray} {pc : Nat} (hexec : p.tables.exec = Jvm.exec) (hb : c.code = cc) (hl : l.stackTraces = false) {own cls text : String} {names : List String} {ik is ic sa : Nat} {A : Nat → Prop}
    (hown : s.vm.findClass own = some m.cls) (hcls : Bundle.fit cls = true) (hnames : ∀ n ∈ names, Bundle.fit n = true)
    (hk : (Cond.classLink own ik cls).before args s = true) (hini : (Cond.initialized cls).before args s = true) (hstr : vk_R own is text sa s) (hat : ∀ w ∈ ny_at own ic cls names, w.before args s = true)
    (hgood : ∀ w ∈ Cond.classLink own ik cls :: Cond.initialized cls :: ny_at own ic cls names, vx_ot w = true)
    (hU : vx_Zq Bundle.tN "UNASSIGNED_STACK" Bundle.steD A s s.heap) (hN : vx_Zq Bundle.tN "SUPPRESSED_SENTINEL" Bundle.listD A s s.heap) (hS : va_S A s.heap H locs) (hsize : ls.size = c.maxLocals)
    (d0 : decode cc pc = .ok (.new ik, 3)) (d3 : decode cc (pc + 3) = .ok (.dup, 1)) (d4 : decode cc (pc + 4) = .ok (.ldc is, 2)) (d6 : decode cc (pc + 6) = .ok (.invokespecial ic, 3))
    (hRframes : names.length + 4 < R.frames) (hRlocals : (rest.map fun v => v.category).sum + (13 * (names.length + 2) + 43) ≤ R.locals) (hRcells : cells + 1 ≤ R.cells) (hRslots : slots + 6 ≤ R.slots)
    (kk : ∀ (q : Nat) (ce : Cell) (H1 : Heap), H.size ≤ H1.size → (∀ x : Nat, x < H.size → H1[x]? = H[x]?) → H1[q]? = some ce → ce.vm = .none → s.vm.findClass cls = some ce.cls → W p l e R s m args below meth c H1 locs (cells + 1) (slots + 6) Q (F0 m (pc + 9) ls (.ref q :: rest))) :
    W p l e R s m args below meth c H locs cells slots Q (F0 m pc ls rest) := by
  intro T hT X
  subst hT
  have htr : e.platform.stackTraces = false := (show e.platform.stackTraces = l.stackTraces by rw [X.admits.platform]).trans hl
  have Y := vx_rebase X (R' := { frames := R.frames, locals := R.locals, cells := 1, slots := 6 }) (Nat.le_refl _) (Nat.le_refl _) hRcells hRslots
  obtain ⟨s', hA'⟩ : ∃ z, z = (T.setVm s.vm).setFrames (.invoking m args :: below) := ⟨_, rfl⟩
  rw [← hA'] at Y
  have hvm : s'.vm = s.vm := by rw [hA']; rfl
  have hhp : s'.heap = T.heap := by rw [hA']; rfl
  have hW0 : s.WarmedH s'.vm := by rw [hvm]; exact State.WarmedH.refl s
  have hat' : ∀ w ∈ ny_at own ic cls names, w.before args s' = true := fun w hw => vx_ot_at hW0 hvm.symm (hgood w (List.mem_cons_of_mem _ (List.mem_cons_of_mem _ hw))) (hat w hw)
  have hk' : (Cond.classLink own ik cls).before args s' = true := vx_ot_at hW0 hvm.symm (hgood _ List.mem_cons_self) hk
  have hini' : (Cond.initialized cls).before args s' = true := vx_ot_at hW0 hvm.symm (hgood _ (List.mem_cons_of_mem _ List.mem_cons_self)) hini
  have hU' : vx_Zq Bundle.tN "UNASSIGNED_STACK" Bundle.steD A s' s'.heap := by rw [hhp]; exact vx_Zq.moved hW0.alike (hU.kept hS.2.1)
  have hN' : vx_Zq Bundle.tN "SUPPRESSED_SENTINEL" Bundle.listD A s' s'.heap := by rw [hhp]; exact vx_Zq.moved hW0.alike (hN.kept hS.2.1)
  have h : ∀ w ∈ ny_atoms own ic cls names, w.before args s' = true := ny_own hat' (vx_isRefq hU'.1) (vx_isRefq hN'.1) hU'.2.word hN'.2.word
  have hown' : s'.vm.findClass own = some m.cls := by rw [hvm]; exact hown
  have hins : (Cond.instantiable cls 6).before args s' = true := h _ (by simp [ny_atoms])
  obtain ⟨vm₁, cX, kX, hfX, hkX, -, -, X₁, st1⟩ := Y.newCold hexec (own := own) (C := cls) (index := ik) (n := 6) hown' hk' hins hini'
    (g := F0 m pc ls rest) rfl (by rw [hb]; exact d0) (Nat.le_refl _) (Nat.le_refl _)
  generalize hT1 : (T.setVm vm₁).pushCell { cls := cX, slots := kX.instanceTypes.map defaultValue, vm := .none } = T1 at X₁ st1
  have hcat : (Value.ref T.heap.size).category = 1 := rfl
  have hcellA : T1.heap[T.heap.size]? = some (freshCell cX kX) := by rw [← hT1]; exact State.heap_pushCell_size _ _
  have d3' : decode c.code (pc + 3) = .ok (.dup, 1) := by rw [hb]; exact d3
  have d4' : decode c.code (pc + 4) = .ok (.ldc is, 2) := by rw [hb]; exact d4
  have hstr' : vk_R own is text sa s' := vk_R.warm hW0 hstr
  obtain ⟨V, ce, L, Z, hL, hlt, hcl9, hvm9, st⟩ := ny_ctorMadeS X₁ hexec htr (own := own) (cls := cls) (names := names) (ic := ic) hown' hcls hnames h (fun x hx => nomatch hx) hfX hkX hcellA (by rw [hhp]; exact Nat.le_refl _) (msg := .ref sa) rfl
    (g := { method := m, pc := pc + 6, locals := ls, stack := .ref sa :: .ref T.heap.size :: .ref T.heap.size :: rest, locked := none }) rfl hsize (rest := rest) rfl
    (by rw [hb]; exact d6) hRframes (by simp only [List.map_cons, List.sum_cons, hcat]; omega)
  have Z0 := Stand.forget (locs := []) Z (fun y hy => by rw [hL y hy, hhp]; exact Nat.le_refl _)
  obtain ⟨f1, f2⟩ := vx_frame Z0.same
  rw [hhp] at f1 f2
  have hcid : s.vm.findClass cls = some ce.cls := by
    rw [hcl9, ← hvm]
    exact hfX
  have hh : (V.setCell T.heap.size ce).heap[T.heap.size]? = some ce := heapAt_setCell_self (s := V) ce hlt
  subst hA'
  have X5 := vx_back9 X Y Z0
  have X6 : Stand p l e R s m args below meth c (V.setCell T.heap.size ce) locs (cells + 1) (slots + 6) := { X5 with same := X5.same.mono (by omega) (by omega) }
  obtain ⟨t, a1, b1⟩ := kk T.heap.size ce (V.setCell T.heap.size ce).heap f1 (fun x hx => f2 x hx (fun z hz => nomatch hz)) hh hvm9 hcid _ rfl X6
  refine ⟨t, st1 _ ?_, b1⟩
  show Steps p.tables e below (T1.setTop { method := m, pc := pc + 3, locals := ls, stack := .ref T.heap.size :: rest, locked := none }) _
  jvm_step X₁.here [X₁.here.top, hexec, d3', Value.category]
  exact X₁.ldcString hexec (own := own) (text := text) (index := is) (a := sa) hown' hstr'.1 hstr'.2
    (g := { method := m, pc := pc + 4, locals := ls, stack := .ref T.heap.size :: .ref T.heap.size :: rest, locked := none }) rfl d4' _ (st _ a1)
set_option maxHeartbeats 1000000 in
theorem ny_makeSW {cc : ByteArray} {pc : Nat} (hexec : p.tables.exec = Jvm.exec) (hb : c.code = cc) (hl : l.stackTraces = false) {own cls text : String} {names : List String} {ik is ic sa : Nat} {A : Nat → Prop}
    (hown : s.vm.findClass own = some m.cls) (hcls : Bundle.fit cls = true) (hnames : ∀ n ∈ names, Bundle.fit n = true)
    (hk : (Cond.classLink own ik cls).before args s = true) (hini : (Cond.initialized cls).before args s = true) (hstr : vk_R own is text sa s) (hat : ∀ w ∈ ny_at own ic cls names, w.before args s = true)
    (hgood : ∀ w ∈ Cond.classLink own ik cls :: Cond.initialized cls :: ny_at own ic cls names, vx_ot w = true)
    (hU : vx_Zq Bundle.tN "UNASSIGNED_STACK" Bundle.steD A s s.heap) (hN : vx_Zq Bundle.tN "SUPPRESSED_SENTINEL" Bundle.listD A s s.heap) (hS : va_S A s.heap H locs) (hsize : ls.size = c.maxLocals)
    (d0 : decode cc pc = .ok (.new ik, 3)) (d3 : decode cc (pc + 3) = .ok (.dup, 1)) (d4 : decode cc (pc + 4) = .ok (.ldc_w is, 3)) (d6 : decode cc (pc + 7) = .ok (.invokespecial ic, 3))
    (hRframes : names.length + 4 < R.frames) (hRlocals : (rest.map fun v => v.category).sum + (13 * (names.length + 2) + 43) ≤ R.locals) (hRcells : cells + 1 ≤ R.cells) (hRslots : slots + 6 ≤ R.slots)
    (kk : ∀ (q : Nat) (ce : Cell) (H1 : Heap), H.size ≤ H1.size → (∀ x : Nat, x < H.size → H1[x]? = H[x]?) → H1[q]? = some ce → ce.vm = .none → s.vm.findClass cls = some ce.cls → W p l e R s m args below meth c H1 locs (cells + 1) (slots + 6) Q (F0 m (pc + 10) ls (.ref q :: rest))) :
    W p l e R s m args below meth c H locs cells slots Q (F0 m pc ls rest) := by
  intro T hT X
  subst hT
  have htr : e.platform.stackTraces = false := (show e.platform.stackTraces = l.stackTraces by rw [X.admits.platform]).trans hl
  have Y := vx_rebase X (R' := { frames := R.frames, locals := R.locals, cells := 1, slots := 6 }) (Nat.le_refl _) (Nat.le_refl _) hRcells hRslots
  obtain ⟨s', hA'⟩ : ∃ z, z = (T.setVm s.vm).setFrames (.invoking m args :: below) := ⟨_, rfl⟩
  rw [← hA'] at Y
  have hvm : s'.vm = s.vm := by rw [hA']; rfl
  have hhp : s'.heap = T.heap := by rw [hA']; rfl
  have hW0 : s.WarmedH s'.vm := by rw [hvm]; exact State.WarmedH.refl s
  have hat' : ∀ w ∈ ny_at own ic cls names, w.before args s' = true := fun w hw => vx_ot_at hW0 hvm.symm (hgood w (List.mem_cons_of_mem _ (List.mem_cons_of_mem _ hw))) (hat w hw)
  have hk' : (Cond.classLink own ik cls).before args s' = true := vx_ot_at hW0 hvm.symm (hgood _ List.mem_cons_self) hk
  have hini' : (Cond.initialized cls).before args s' = true := vx_ot_at hW0 hvm.symm (hgood _ (List.mem_cons_of_mem _ List.mem_cons_self)) hini
  have hU' : vx_Zq Bundle.tN "UNASSIGNED_STACK" Bundle.steD A s' s'.heap := by rw [hhp]; exact vx_Zq.moved hW0.alike (hU.kept hS.2.1)
  have hN' : vx_Zq Bundle.tN "SUPPRESSED_SENTINEL" Bundle.listD A s' s'.heap := by rw [hhp]; exact vx_Zq.moved hW0.alike (hN.kept hS.2.1)
  have h : ∀ w ∈ ny_atoms own ic cls names, w.before args s' = true := ny_own hat' (vx_isRefq hU'.1) (vx_isRefq hN'.1) hU'.2.word hN'.2.word
  have hown' : s'.vm.findClass own = some m.cls := by rw [hvm]; exact hown
  have hins : (Cond.instantiable cls 6).before args s' = true := h _ (by simp [ny_atoms])
  obtain ⟨vm₁, cX, kX, hfX, hkX, -, -, X₁, st1⟩ := Y.newCold hexec (own := own) (C := cls) (index := ik) (n := 6) hown' hk' hins hini'
    (g := F0 m pc ls rest) rfl (by rw [hb]; exact d0) (Nat.le_refl _) (Nat.le_refl _)
  generalize hT1 : (T.setVm vm₁).pushCell { cls := cX, slots := kX.instanceTypes.map defaultValue, vm := .none } = T1 at X₁ st1
  have hcat : (Value.ref T.heap.size).category = 1 := rfl
  have hcellA : T1.heap[T.heap.size]? = some (freshCell cX kX) := by rw [← hT1]; exact State.heap_pushCell_size _ _
  have d3' : decode c.code (pc + 3) = .ok (.dup, 1) := by rw [hb]; exact d3
  have d4' : decode c.code (pc + 4) = .ok (.ldc_w is, 3) := by rw [hb]; exact d4
  have hstr' : vk_R own is text sa s' := vk_R.warm hW0 hstr
  obtain ⟨V, ce, L, Z, hL, hlt, hcl9, hvm9, st⟩ := ny_ctorMadeS X₁ hexec htr (own := own) (cls := cls) (names := names) (ic := ic) hown' hcls hnames h (fun x hx => nomatch hx) hfX hkX hcellA (by rw [hhp]; exact Nat.le_refl _) (msg := .ref sa) rfl
    (g := { method := m, pc := pc + 7, locals := ls, stack := .ref sa :: .ref T.heap.size :: .ref T.heap.size :: rest, locked := none }) rfl hsize (rest := rest) rfl
    (by rw [hb]; exact d6) hRframes (by simp only [List.map_cons, List.sum_cons, hcat]; omega)
  have Z0 := Stand.forget (locs := []) Z (fun y hy => by rw [hL y hy, hhp]; exact Nat.le_refl _)
  obtain ⟨f1, f2⟩ := vx_frame Z0.same
  rw [hhp] at f1 f2
  have hcid : s.vm.findClass cls = some ce.cls := by
    rw [hcl9, ← hvm]
    exact hfX
  have hh : (V.setCell T.heap.size ce).heap[T.heap.size]? = some ce := heapAt_setCell_self (s := V) ce hlt
  subst hA'
  have X5 := vx_back9 X Y Z0
  have X6 : Stand p l e R s m args below meth c (V.setCell T.heap.size ce) locs (cells + 1) (slots + 6) := { X5 with same := X5.same.mono (by omega) (by omega) }
  obtain ⟨t, a1, b1⟩ := kk T.heap.size ce (V.setCell T.heap.size ce).heap f1 (fun x hx => f2 x hx (fun z hz => nomatch hz)) hh hvm9 hcid _ rfl X6
  refine ⟨t, st1 _ ?_, b1⟩
  show Steps p.tables e below (T1.setTop { method := m, pc := pc + 3, locals := ls, stack := .ref T.heap.size :: rest, locked := none }) _
  jvm_step X₁.here [X₁.here.top, hexec, d3', Value.category]
  exact X₁.ldcStringW hexec (own := own) (text := text) (index := is) (a := sa) hown' hstr'.1 hstr'.2
    (g := { method := m, pc := pc + 4, locals := ls, stack := .ref T.heap.size :: .ref T.heap.size :: rest, locked := none }) rfl d4' _ (st _ a1)
theorem vx_athrow {cc : ByteArray} {pc : Nat} (hexec : p.tables.exec = Jvm.exec) (hb : c.code = cc) {q : Addr} (hdg : decode cc pc = .ok (.athrow, 1)) (k : vx_W p l e R s m args below meth c H locs cells slots Q (F0 m pc ls rest) q) : W p l e R s m args below meth c H locs cells slots Q (F0 m pc ls (.ref q :: rest)) := by
  intro T hT X
  obtain ⟨t, st, hq⟩ := k T hT X
  refine ⟨t, ?_, hq⟩
  have hdg' : decode c.code pc = .ok (.athrow, 1) := by rw [hb]; exact hdg
  jvm_step X.here [X.here.top, hexec, hdg', athrow.wp_sem]
  exact st
end NYD
end
section
/-! ONE WORLD OF FIXED SHAPE: objects and rows by kind and instance; what changes are ints by kind, instance and place -/
abbrev gMem : Type := Nat → Nat → Nat → Int32
def gw (v : gMem) (k i j : Nat) (x : Int32) : gMem := fun k' i' j' => if k' = k ∧ i' = i ∧ j' = j then x else v k' i' j'
/-- the layout: classes and slots, addresses, the classes of arrays (0 char, 1 int, 2 boolean, 3 cards, 4 long, 5 double) -/
abbrev gL : Type := va_G × (Nat → Nat → Nat) × (Nat → ClassId)
def gty : Nat → Nat := fun k => match k with
  | 11 => 3 | 19 => 2 | 21 => 0 | 22 => 0 | 42 => 0 | 43 => 2 | 44 => 2 | 45 => 2 | _ => 1
def glen : Nat → Nat := fun k => match k with
  | 10 => 4 | 12 => 4 | 13 => 4 | 14 => 4 | 15 => 16 | 16 => 16 | 17 => 30 | 18 => 30 | 19 => 30 | 20 => 16 | 21 => 10 | 22 => 4 | 23 => 4 | 24 => 16 | 25 => 16
  | 30 => 4 | 31 => 16 | 32 => 16 | 33 => 64 | 34 => 4 | 35 => 4 | 36 => 30 | 37 => 30 | 38 => 16 | 39 => 16 | 40 => 4 | 42 => 176 | 43 => 30 | 44 => 256 | 45 => 64 | _ => 0
def gcont (L : gL) (f : Nat → Int32) (k i : Nat) : va_E := match k with
  | 0 => .inr (0, [.int (f 0), .int (f 1), .int (f 2)])
  | 1 => .inr (1, [.ref (L.2.1 24 0), .ref (L.2.1 25 0), .int (f 2)])
  | 2 => .inr (2, [.int (f 0), .ref (L.2.1 4 i), .ref (L.2.1 23 i)])
  | 3 => .inr (3, [.ref (L.2.1 17 0), .ref (L.2.1 18 0), .ref (L.2.1 19 0), .int (f 3), .ref (L.2.1 5 1), .ref (L.2.1 20 0)])
  | 4 => .inr (4, [.ref (L.2.1 21 i), .int (f 1), .ref (L.2.1 22 i), .int (f 3)])
  | 5 => .inr (5, [.ref (L.2.1 16 i)])
  | 6 => .inr (6, [.ref (L.2.1 10 0), .int (f 1), .ref (L.2.1 11 0), .int (f 3), .ref (L.2.1 12 0), .ref (L.2.1 13 0), .int (f 6), .ref (L.2.1 5 0), .int (f 8), .ref (L.2.1 3 0), .ref (L.2.1 14 0), .ref (L.2.1 4 16), .ref (L.2.1 0 0), .ref (L.2.1 1 0), .ref (L.2.1 15 0)])
  | 7 => .inr (7, [.int (f 0), .int (f 1), .int (f 2), .int (f 3), .int (f 4), .int (f 5), .int (f 6), .int (f 7), .int (f 8), .ref (L.2.1 30 0), .ref (L.2.1 31 0), .ref (L.2.1 32 0), .ref (L.2.1 33 0), .ref (L.2.1 34 0), .ref (L.2.1 35 0), .ref (L.2.1 36 0), .ref (L.2.1 37 0), .ref (L.2.1 38 0), .ref (L.2.1 39 0), .ref (L.2.1 40 0), .ref (L.2.1 40 1), .ref (L.2.1 42 0), .ref (L.2.1 43 0), .ref (L.2.1 44 0), .ref (L.2.1 45 0)])
  | 11 => .inl (L.2.2 3, 16, .inr (.inr (.inr (.inr (fun j => some (L.2.1 2 j))))))
  | 50 => .inl (L.2.2 4, 1, .inr (.inl (fun j => (f j).toInt64)))
  | 51 => .inl (L.2.2 5, 1, .inr (.inr (.inr (.inl (fun j => FP.f2d (f j).toUInt32)))))
  | k => .inl (L.2.2 (gty k), glen k, .inl f)
def groles : List (Nat × Nat) := [(0, 0), (1, 0), (3, 0), (5, 0), (5, 1), (6, 0), (7, 0), (10, 0), (11, 0), (12, 0), (13, 0), (14, 0), (15, 0), (16, 0), (16, 1), (17, 0), (18, 0), (19, 0), (20, 0), (24, 0), (25, 0), (30, 0), (31, 0), (32, 0), (33, 0), (34, 0), (35, 0), (36, 0), (37, 0), (38, 0), (39, 0), (40, 0), (40, 1), (42, 0), (43, 0), (44, 0), (45, 0), (50, 0), (51, 0)] ++ ((List.range 16).map (fun i => (2, i)) ++ ((List.range 17).map (fun i => (4, i)) ++ ((List.range 17).map (fun i => (21, i)) ++ ((List.range 17).map (fun i => (22, i)) ++ (List.range 16).map (fun i => (23, i))))))
def gok (k i : Nat) : Prop := (k, i) ∈ groles
theorem gok_2 {i : Nat} (h : i < 16) : gok 2 i := by simp [gok, groles, h]
theorem gok_4 {i : Nat} (h : i < 17) : gok 4 i := by simp [gok, groles, h]
theorem gok_21 {i : Nat} (h : i < 17) : gok 21 i := by simp [gok, groles, h]
theorem gok_22 {i : Nat} (h : i < 17) : gok 22 i := by simp [gok, groles, h]
theorem gok_23 {i : Nat} (h : i < 16) : gok 23 i := by simp [gok, groles, h]
theorem gok_16 {i : Nat} (h : i < 2) : gok 16 i := by
  rcases (show i = 0 ∨ i = 1 by omega) with rfl | rfl <;> simp [gok, groles]
theorem gok_5 {i : Nat} (h : i < 2) : gok 5 i := by
  rcases (show i = 0 ∨ i = 1 by omega) with rfl | rfl <;> simp [gok, groles]
theorem gok_40 {i : Nat} (h : i < 2) : gok 40 i := by
  rcases (show i = 0 ∨ i = 1 by omega) with rfl | rfl <;> simp [gok, groles]
theorem gok_0 : gok 0 0 := by simp [gok, groles]
theorem gok_1 : gok 1 0 := by simp [gok, groles]
theorem gok_3 : gok 3 0 := by simp [gok, groles]
theorem gok_6 : gok 6 0 := by simp [gok, groles]
theorem gok_7 : gok 7 0 := by simp [gok, groles]
theorem gok_10 : gok 10 0 := by simp [gok, groles]
theorem gok_11 : gok 11 0 := by simp [gok, groles]
theorem gok_12 : gok 12 0 := by simp [gok, groles]
theorem gok_13 : gok 13 0 := by simp [gok, groles]
theorem gok_14 : gok 14 0 := by simp [gok, groles]
theorem gok_15 : gok 15 0 := by simp [gok, groles]
theorem gok_17 : gok 17 0 := by simp [gok, groles]
theorem gok_18 : gok 18 0 := by simp [gok, groles]
theorem gok_19 : gok 19 0 := by simp [gok, groles]
theorem gok_20 : gok 20 0 := by simp [gok, groles]
theorem gok_24 : gok 24 0 := by simp [gok, groles]
theorem gok_25 : gok 25 0 := by simp [gok, groles]
theorem gok_30 : gok 30 0 := by simp [gok, groles]
theorem gok_31 : gok 31 0 := by simp [gok, groles]
theorem gok_32 : gok 32 0 := by simp [gok, groles]
theorem gok_33 : gok 33 0 := by simp [gok, groles]
theorem gok_34 : gok 34 0 := by simp [gok, groles]
theorem gok_35 : gok 35 0 := by simp [gok, groles]
theorem gok_36 : gok 36 0 := by simp [gok, groles]
theorem gok_37 : gok 37 0 := by simp [gok, groles]
theorem gok_38 : gok 38 0 := by simp [gok, groles]
theorem gok_39 : gok 39 0 := by simp [gok, groles]
theorem gok_42 : gok 42 0 := by simp [gok, groles]
theorem gok_43 : gok 43 0 := by simp [gok, groles]
theorem gok_44 : gok 44 0 := by simp [gok, groles]
theorem gok_45 : gok 45 0 := by simp [gok, groles]
theorem gok_50 : gok 50 0 := by simp [gok, groles]
theorem gok_51 : gok 51 0 := by simp [gok, groles]
theorem groles_nd : va_nd (groles.map (fun r => r.1 * 100 + r.2)) = true := by decide +kernel
theorem groles_inj {n n' : Nat} {r : Nat × Nat} (h : groles[n]? = some r) (h' : groles[n']? = some r) : n = n' := by
  refine va_nd_inj _ groles_nd n n' (r.1 * 100 + r.2) ?_ ?_
  · rw [List.getElem?_map, h]; rfl
  · rw [List.getElem?_map, h']; rfl
def gW (L : gL) (v : gMem) : va_W := groles.map (fun r => (L.2.1 r.1 r.2, gcont L (v r.1 r.2) r.1 r.2))
theorem gW_at (L : gL) (v : gMem) {k i : Nat} (h : gok k i) : ∃ p : Nat, groles[p]? = some (k, i) ∧ (gW L v)[p]? = some (L.2.1 k i, gcont L (v k i) k i) := by
  obtain ⟨p, hp⟩ := List.getElem?_of_mem h
  exact ⟨p, hp, by rw [gW, List.getElem?_map, hp]; rfl⟩
theorem gW_set {L : gL} {v v' : gMem} {p k i : Nat} {e : va_E} (hp : groles[p]? = some (k, i)) (he : gcont L (v' k i) k i = e) (ho : ∀ k' i', ¬ (k' = k ∧ i' = i) → v' k' i' = v k' i') : (gW L v).set p (L.2.1 k i, e) = gW L v' := by
  have hl : p < (gW L v).length := by
    have h1 := (List.getElem?_eq_some_iff.mp hp).1
    simpa [gW] using h1
  apply List.ext_getElem?
  intro n
  by_cases hn : n = p
  · subst hn
    rw [List.getElem?_set_self hl, gW, List.getElem?_map, hp, ← he]
    rfl
  · rw [List.getElem?_set_ne (Ne.symm hn), gW, gW, List.getElem?_map, List.getElem?_map]
    cases hr : groles[n]? with
    | none => rfl
    | some r =>
      have hne : ¬ (r.1 = k ∧ r.2 = i) := by
        rintro ⟨h1, h2⟩
        refine hn (groles_inj (r := r) hr ?_)
        rw [hp, ← h1, ← h2]
      simp only [Option.map_some, ho r.1 r.2 hne]
theorem gw_row (v : gMem) (k i j : Nat) (x : Int32) : gw v k i j x k i = fun j' => if j' = j then x else v k i j' := by
  funext j'
  simp [gw]
theorem gw_off (v : gMem) (k i j : Nat) (x : Int32) : ∀ k' i', ¬ (k' = k ∧ i' = i) → gw v k i j x k' i' = v k' i' := by
  intro k' i' h
  funext j'
  simp only [gw]
  rw [if_neg]
  rintro ⟨h1, h2, -⟩
  exact h ⟨h1, h2⟩
theorem gw_upd (v : gMem) (k i j : Nat) (x : Int32) : gw v k i j x k i = upd (v k i) j x := by
  rw [gw_row]; rfl
def gDist (L : gL) : Prop := ∀ r ∈ groles, ∀ r' ∈ groles, L.2.1 r.1 r.2 = L.2.1 r'.1 r'.2 → r = r'
def gA (L : gL) (sz : Nat) : Nat → Prop := fun q => (∃ r ∈ groles, q = L.2.1 r.1 r.2) ∨ sz ≤ q
theorem gW_D {L : gL} (hd : gDist L) (sz : Nat) (v : gMem) : va_D (gA L sz) (gW L v) := by
  have key : ∀ (n : Nat) (q : Nat × va_E), (gW L v)[n]? = some q → ∃ r, groles[n]? = some r ∧ q.1 = L.2.1 r.1 r.2 := by
    intro n q h
    rw [gW, List.getElem?_map] at h
    cases hr : groles[n]? with
    | none => rw [hr] at h; cases h
    | some r => rw [hr] at h; cases h; exact ⟨r, rfl, rfl⟩
  refine ⟨fun i j p q hi hj he => ?_, fun n q hq => ?_⟩
  · obtain ⟨r, h1, h2⟩ := key i p hi
    obtain ⟨r', h3, h4⟩ := key j q hj
    have := hd r (List.mem_of_getElem? h1) r' (List.mem_of_getElem? h3) (by rw [← h2, ← h4, he])
    subst this
    exact groles_inj h1 h3
  · obtain ⟨r, h1, h2⟩ := key n q hq
    exact Or.inl ⟨r, List.mem_of_getElem? h1, h2⟩
def gtys (L : gL) : List (ClassId × FieldType) := [(L.2.2 0, .char), (L.2.2 1, .int), (L.2.2 2, .boolean), (L.2.2 3, .object "Cardmeld$Card"), (L.2.2 4, .long), (L.2.2 5, .double)]
/-! the tables' words that stay as the tables warm -/
def gtw : Cond → Bool := fun w => match w with
  | .fieldLinkNest .. => true
  | .methodLinkNest .. => true
  | .castable .. => true
  | w => w.onTables && w.keeps
theorem gtw_tab {w : Cond} (h : gtw w = true) : w.onTables = true := by
  cases w <;> simp_all [gtw, Cond.onTables]
theorem gtw_move {w : Cond} (h : gtw w = true) {args a' : Array Value} {s U : State} (hW : s.WarmedH U.vm) (hw : w.before args s = true) : w.before a' U = true := by
  have hn : va_Nw w s := va_Nw.of (gtw_tab h) hw
  have hg : w.onTables = true ∧ w.keeps = true → w.before a' U = true := fun h2 => word_at hW (Or.inl (by simp [h2.1, h2.2])) hw
  cases w with
  | fieldLinkNest => exact va_Nw.use rfl (va_Nw.warmF hW hn)
  | methodLinkNest => exact va_Nw.use rfl (va_Nw.warmM hW hn)
  | castable => exact va_Nw.use rfl (va_Nw.warmC hW hn)
  | _ => exact hg (by simpa only [gtw, Bool.and_eq_true] using h)
def gTbl : List Cond := lw_tbl.filter gtw
theorem gTbl_gtw {w : Cond} (h : w ∈ gTbl) : gtw w = true := (List.mem_filter.mp h).2
theorem gTbl_of {w : Cond} (h : w ∈ tables_1) (h2 : gtw w = true) : w ∈ gTbl := List.mem_filter.mpr ⟨List.mem_append_right _ h, h2⟩
theorem gTbl_sel {w : Cond} (h : w ∈ k2_sels lw_privs) (h2 : gtw w = true) : w ∈ gTbl := List.mem_filter.mpr ⟨List.mem_append_left _ h, h2⟩
/-- what a method is given of the tables and statics -/
def gEnv (L : gL) (sz : Nat) (U : State) (H : Heap) : Prop := va_K L.1 vwCl (gtys L) U ∧ (∀ w ∈ gTbl, w.before #[] U = true) ∧ (∀ t ∈ gStr, ∃ sa, vk_R RX6 t.1 t.2 sa U) ∧ vx_Zq Bundle.tN "UNASSIGNED_STACK" Bundle.steD (gA L sz) U H ∧ vx_Zq Bundle.tN "SUPPRESSED_SENTINEL" Bundle.listD (gA L sz) U H
theorem gEnv_move {L : gL} {sz : Nat} {s U : State} {H H1 : Heap} (hW : s.WarmedH U.vm) (hq : ∀ a : Nat, a < H.size → ¬ gA L sz a → H1[a]? = H[a]?) (hz : sz ≤ H1.size) (h : gEnv L sz s H) : gEnv L H1.size U H1 := by
  obtain ⟨h1, h2, h3, h4, h5⟩ := h
  have nar : ∀ q, gA L H1.size q → gA L sz q := fun q h => h.elim Or.inl (fun h => Or.inr (Nat.le_trans hz h))
  refine ⟨va_K.moved hW.alike h1, fun w hw => gtw_move (gTbl_gtw hw) hW (h2 w hw), fun t ht => ?_, (vx_Zq.moved hW.alike (h4.kept hq)).narrow nar, (vx_Zq.moved hW.alike (h5.kept hq)).narrow nar⟩
  obtain ⟨sa, hsa⟩ := h3 t ht
  exact ⟨sa, vk_R.warm hW hsa⟩
def gPc (L : gL) (sz : Nat) (As : List Value) (v : gMem) : Array Value → State → Prop := va_Pc As (fun U => U.heap.size = sz ∧ va_P L.1 vwCl (gW L v) U.heap ∧ gEnv L sz U U.heap)
theorem gPc_blind (L : gL) (sz : Nat) (As : List Value) (v : gMem) : FrameBlind (gPc L sz As v) := by
  rintro a U g mk ⟨h1, h2, h3, h4⟩
  refine ⟨h1, h2, h3, ?_⟩
  have hz : sz = U.heap.size := h2.symm
  subst hz
  exact gEnv_move (s := U) (U := U.calling g mk a) (State.WarmedH.refl U) (fun _ _ _ => rfl) (Nat.le_refl _) h4
abbrev gB (L : gL) (v : gMem) (t : State) : Prop := va_P L.1 vwCl (gW L v) t.heap
abbrev gQi (L : gL) (sz : Nat) (Q : Int32 → gMem → Prop) : Array Value → State → Outcome → State → Prop := va_Qi Q (gB L) (gA L sz)
abbrev gQf (L : gL) (sz : Nat) (Q : UInt32 → gMem → Prop) : Array Value → State → Outcome → State → Prop := va_Qf Q (gB L) (gA L sz)
abbrev gQv (L : gL) (sz : Nat) (Q : gMem → Prop) : Array Value → State → Outcome → State → Prop := va_Qv Q (gB L) (gA L sz)
abbrev gXC (L : gL) (sz : Nat) (X : String → gMem → Prop) : String → State → State → Prop := vx_X (S := gMem) (fun _ => True) (fun E v t => X E v ∧ gB L v t) (gA L sz)
/-- what holds all through a method -/
def gC (p : Program) (l : Launch) (s : State) (m : MethodId) (args : Array Value) (meth : Method) (c : Code) (cc : ByteArray) (nL : Nat) (own : String) (L : gL) (sz : Nat) : Prop :=
  p.tables.exec = Jvm.exec ∧ c.code = cc ∧ c.maxLocals = nL ∧ s.vm.findClass own = some m.cls ∧ (∀ w ∈ gTbl, w.before args s = true) ∧ meth.locks = false ∧ l.stackTraces = false ∧ gDist L ∧ s.heap.size = sz ∧ gEnv L sz s s.heap
/-- at pc, with these locals, stack and contents, in any heap that holds them, the machine comes to Q -/
def gS (p : Program) (l : Launch) (e : Env) (R : Room) (s : State) (m : MethodId) (args : Array Value) (below : List Frame) (meth : Method) (c : Code) (nL : Nat) (L : gL) (sz : Nat) (Q : State → Prop) (ce sl pc : Nat) (lv : List (Nat × Value)) (st : List Value) (v : gMem) : Prop :=
  ∀ (H : Heap) (locs : List Loc) (ls : Array Slot), va_P L.1 vwCl (gW L v) H → va_S (gA L sz) s.heap H locs → lv_has ls nL lv → W p l e R s m args below meth c H locs ce sl Q (F0 m pc ls st)
section GR
variable {p : Program} {l : Launch} {e : Env} {R : Room} {s : State} {m : MethodId} {args : Array Value} {below : List Frame} {meth : Method} {c : Code} {cc : ByteArray} {nL : Nat} {own : String} {L : gL} {sz : Nat} {Q : State → Prop} {ce sl pc : Nat} {lv : List (Nat × Value)} {st : List Value} {v : gMem}
theorem g_iconst (C : gC p l s m args meth c cc nL own L sz) {n : Int} (x : Int32) (hv : Int32.ofInt n = x) (hd : decode cc pc = .ok (.iconst n, 1)) (kk : gS p l e R s m args below meth c nL L sz Q ce sl (pc + 1) lv (.int x :: st) v) : gS p l e R s m args below meth c nL L sz Q ce sl pc lv st v := fun H locs ls hP hS hl => lv_iconst C.1 C.2.1 hd hv (kk H locs ls hP hS hl)
theorem g_bipush (C : gC p l s m args meth c cc nL own L sz) {n : Int} (x : Int32) (hv : (Int8.ofInt n).toInt32 = x) (hd : decode cc pc = .ok (.bipush n, 2)) (kk : gS p l e R s m args below meth c nL L sz Q ce sl (pc + 2) lv (.int x :: st) v) : gS p l e R s m args below meth c nL L sz Q ce sl pc lv st v := fun H locs ls hP hS hl => lv_bipush C.1 C.2.1 hd hv (kk H locs ls hP hS hl)
theorem g_sipush (C : gC p l s m args meth c cc nL own L sz) {n : Int} (x : Int32) (hv : (Int16.ofInt n).toInt32 = x) (hd : decode cc pc = .ok (.sipush n, 3)) (kk : gS p l e R s m args below meth c nL L sz Q ce sl (pc + 3) lv (.int x :: st) v) : gS p l e R s m args below meth c nL L sz Q ce sl pc lv st v := fun H locs ls hP hS hl => lv_sipush C.1 C.2.1 hd hv (kk H locs ls hP hS hl)
theorem g_ldc (C : gC p l s m args meth c cc nL own L sz) {index : Nat} (x : Int32) (hq : Jvm.Cond.constant own index x ∈ gTbl) (hd : decode cc pc = .ok (.ldc index, 2)) (kk : gS p l e R s m args below meth c nL L sz Q ce sl (pc + 2) lv (.int x :: st) v) : gS p l e R s m args below meth c nL L sz Q ce sl pc lv st v := fun H locs ls hP hS hl => lv_ldc C.1 C.2.1 C.2.2.2.1 (C.2.2.2.2.1 _ hq) hd (kk H locs ls hP hS hl)
theorem g_iload_n (C : gC p l s m args meth c cc nL own L sz) {k : Fin 4} (i : Nat) (hi : (k : Nat) = i) (q : Nat) {x : Int32} (hq : lv[q]? = some (i, .int x)) (hd : decode cc pc = .ok (.iload_n k, 1)) (kk : gS p l e R s m args below meth c nL L sz Q ce sl (pc + 1) lv (.int x :: st) v) : gS p l e R s m args below meth c nL L sz Q ce sl pc lv st v := fun H locs ls hP hS hl => lv_iload_n C.1 C.2.1 hd hi (lv_at hl q hq) (kk H locs ls hP hS hl)
theorem g_iload (C : gC p l s m args meth c cc nL own L sz) {i : Nat} (q : Nat) {x : Int32} (hq : lv[q]? = some (i, .int x)) (hd : decode cc pc = .ok (.iload i, 2)) (kk : gS p l e R s m args below meth c nL L sz Q ce sl (pc + 2) lv (.int x :: st) v) : gS p l e R s m args below meth c nL L sz Q ce sl pc lv st v := fun H locs ls hP hS hl => lv_iload C.1 C.2.1 hd (lv_at hl q hq) (kk H locs ls hP hS hl)
theorem g_aload_n (C : gC p l s m args meth c cc nL own L sz) {k : Fin 4} (i : Nat) (hi : (k : Nat) = i) (q : Nat) {x : Nat} (hq : lv[q]? = some (i, .ref x)) (hd : decode cc pc = .ok (.aload_n k, 1)) (kk : gS p l e R s m args below meth c nL L sz Q ce sl (pc + 1) lv (.ref x :: st) v) : gS p l e R s m args below meth c nL L sz Q ce sl pc lv st v := fun H locs ls hP hS hl => lv_aload_n C.1 C.2.1 hd hi (lv_at hl q hq) (kk H locs ls hP hS hl)
theorem g_aload (C : gC p l s m args meth c cc nL own L sz) {i : Nat} (q : Nat) {x : Nat} (hq : lv[q]? = some (i, .ref x)) (hd : decode cc pc = .ok (.aload i, 2)) (kk : gS p l e R s m args below meth c nL L sz Q ce sl (pc + 2) lv (.ref x :: st) v) : gS p l e R s m args below meth c nL L sz Q ce sl pc lv st v := fun H locs ls hP hS hl => lv_aload C.1 C.2.1 hd (lv_at hl q hq) (kk H locs ls hP hS hl)
theorem g_istore_n (C : gC p l s m args meth c cc nL own L sz) {k : Fin 4} (i : Nat) (hi : (k : Nat) = i) {x : Int32} (lv' : List (Nat × Value)) (hn : i < nL) (hf : (i, Value.int x) :: lv.filter (fun q => !(q.1 == i) && !(q.1 + 1 == i && q.2.category == 2)) = lv') (hd : decode cc pc = .ok (.istore_n k, 1)) (kk : gS p l e R s m args below meth c nL L sz Q ce sl (pc + 1) lv' st v) : gS p l e R s m args below meth c nL L sz Q ce sl pc lv (.int x :: st) v := fun H locs ls hP hS hl => lv_istore_n C.1 C.2.1 hd hi hl hn hf (fun ls hl => kk H locs ls hP hS hl)
theorem g_istore (C : gC p l s m args meth c cc nL own L sz) {i : Nat} {x : Int32} (lv' : List (Nat × Value)) (hn : i < nL) (hf : (i, Value.int x) :: lv.filter (fun q => !(q.1 == i) && !(q.1 + 1 == i && q.2.category == 2)) = lv') (hd : decode cc pc = .ok (.istore i, 2)) (kk : gS p l e R s m args below meth c nL L sz Q ce sl (pc + 2) lv' st v) : gS p l e R s m args below meth c nL L sz Q ce sl pc lv (.int x :: st) v := fun H locs ls hP hS hl => lv_istore C.1 C.2.1 hd hl hn hf (fun ls hl => kk H locs ls hP hS hl)
theorem g_astore_n (C : gC p l s m args meth c cc nL own L sz) {k : Fin 4} (i : Nat) (hi : (k : Nat) = i) {x : Nat} (lv' : List (Nat × Value)) (hn : i < nL) (hf : (i, Value.ref x) :: lv.filter (fun q => !(q.1 == i) && !(q.1 + 1 == i && q.2.category == 2)) = lv') (hd : decode cc pc = .ok (.astore_n k, 1)) (kk : gS p l e R s m args below meth c nL L sz Q ce sl (pc + 1) lv' st v) : gS p l e R s m args below meth c nL L sz Q ce sl pc lv (.ref x :: st) v := fun H locs ls hP hS hl => lv_astore_n C.1 C.2.1 hd hi hl hn hf (fun ls hl => kk H locs ls hP hS hl)
theorem g_astore (C : gC p l s m args meth c cc nL own L sz) {i : Nat} {x : Nat} (lv' : List (Nat × Value)) (hn : i < nL) (hf : (i, Value.ref x) :: lv.filter (fun q => !(q.1 == i) && !(q.1 + 1 == i && q.2.category == 2)) = lv') (hd : decode cc pc = .ok (.astore i, 2)) (kk : gS p l e R s m args below meth c nL L sz Q ce sl (pc + 2) lv' st v) : gS p l e R s m args below meth c nL L sz Q ce sl pc lv (.ref x :: st) v := fun H locs ls hP hS hl => lv_astore C.1 C.2.1 hd hl hn hf (fun ls hl => kk H locs ls hP hS hl)
theorem g_iinc (C : gC p l s m args meth c cc nL own L sz) {i k : Nat} {n : Int} {x : Int32} (y : Int32) (lv' : List (Nat × Value)) (hk : lv[k]? = some (i, .int x)) (hv : x + Int32.ofInt n = y) (hn : i < nL) (hf : (i, Value.int y) :: lv.filter (fun q => !(q.1 == i) && !(q.1 + 1 == i && q.2.category == 2)) = lv') (hd : decode cc pc = .ok (.iinc i n, 3)) (kk : gS p l e R s m args below meth c nL L sz Q ce sl (pc + 3) lv' st v) : gS p l e R s m args below meth c nL L sz Q ce sl pc lv st v := fun H locs ls hP hS hl => lv_iinc C.1 C.2.1 hd hl hk hv hn hf (fun ls hl => kk H locs ls hP hS hl)
theorem g_iadd (C : gC p l s m args meth c cc nL own L sz) {x y : Int32} (hd : decode cc pc = .ok (.iadd, 1)) (kk : gS p l e R s m args below meth c nL L sz Q ce sl (pc + 1) lv (.int (x + y) :: st) v) : gS p l e R s m args below meth c nL L sz Q ce sl pc lv (.int y :: .int x :: st) v := fun H locs ls hP hS hl => lv_iadd C.1 C.2.1 hd (kk H locs ls hP hS hl)
theorem g_isub (C : gC p l s m args meth c cc nL own L sz) {x y : Int32} (hd : decode cc pc = .ok (.isub, 1)) (kk : gS p l e R s m args below meth c nL L sz Q ce sl (pc + 1) lv (.int (x - y) :: st) v) : gS p l e R s m args below meth c nL L sz Q ce sl pc lv (.int y :: .int x :: st) v := fun H locs ls hP hS hl => lv_isub C.1 C.2.1 hd (kk H locs ls hP hS hl)
theorem g_imul (C : gC p l s m args meth c cc nL own L sz) {x y : Int32} (hd : decode cc pc = .ok (.imul, 1)) (kk : gS p l e R s m args below meth c nL L sz Q ce sl (pc + 1) lv (.int (x * y) :: st) v) : gS p l e R s m args below meth c nL L sz Q ce sl pc lv (.int y :: .int x :: st) v := fun H locs ls hP hS hl => lv_imul C.1 C.2.1 hd (kk H locs ls hP hS hl)
theorem g_iand (C : gC p l s m args meth c cc nL own L sz) {x y : Int32} (hd : decode cc pc = .ok (.iand, 1)) (kk : gS p l e R s m args below meth c nL L sz Q ce sl (pc + 1) lv (.int (x &&& y) :: st) v) : gS p l e R s m args below meth c nL L sz Q ce sl pc lv (.int y :: .int x :: st) v := fun H locs ls hP hS hl => lv_iand C.1 C.2.1 hd (kk H locs ls hP hS hl)
theorem g_ior (C : gC p l s m args meth c cc nL own L sz) {x y : Int32} (hd : decode cc pc = .ok (.ior, 1)) (kk : gS p l e R s m args below meth c nL L sz Q ce sl (pc + 1) lv (.int (x ||| y) :: st) v) : gS p l e R s m args below meth c nL L sz Q ce sl pc lv (.int y :: .int x :: st) v := fun H locs ls hP hS hl => lv_ior C.1 C.2.1 hd (kk H locs ls hP hS hl)
theorem g_ixor (C : gC p l s m args meth c cc nL own L sz) {x y : Int32} (hd : decode cc pc = .ok (.ixor, 1)) (kk : gS p l e R s m args below meth c nL L sz Q ce sl (pc + 1) lv (.int (x ^^^ y) :: st) v) : gS p l e R s m args below meth c nL L sz Q ce sl pc lv (.int y :: .int x :: st) v := fun H locs ls hP hS hl => lv_ixor C.1 C.2.1 hd (kk H locs ls hP hS hl)
theorem g_ishl (C : gC p l s m args meth c cc nL own L sz) {x y : Int32} (hd : decode cc pc = .ok (.ishl, 1)) (kk : gS p l e R s m args below meth c nL L sz Q ce sl (pc + 1) lv (.int (x <<< (y &&& 31)) :: st) v) : gS p l e R s m args below meth c nL L sz Q ce sl pc lv (.int y :: .int x :: st) v := fun H locs ls hP hS hl => lv_ishl C.1 C.2.1 hd (kk H locs ls hP hS hl)
theorem g_ishr (C : gC p l s m args meth c cc nL own L sz) {x y : Int32} (hd : decode cc pc = .ok (.ishr, 1)) (kk : gS p l e R s m args below meth c nL L sz Q ce sl (pc + 1) lv (.int (x >>> (y &&& 31)) :: st) v) : gS p l e R s m args below meth c nL L sz Q ce sl pc lv (.int y :: .int x :: st) v := fun H locs ls hP hS hl => lv_ishr C.1 C.2.1 hd (kk H locs ls hP hS hl)
theorem g_iushr (C : gC p l s m args meth c cc nL own L sz) {x y : Int32} (hd : decode cc pc = .ok (.iushr, 1)) (kk : gS p l e R s m args below meth c nL L sz Q ce sl (pc + 1) lv (.int (x.toUInt32 >>> (y.toUInt32 &&& Int32.toUInt32 31)).toInt32 :: st) v) : gS p l e R s m args below meth c nL L sz Q ce sl pc lv (.int y :: .int x :: st) v := fun H locs ls hP hS hl => lv_iushr C.1 C.2.1 hd rfl (kk H locs ls hP hS hl)
theorem g_idiv (C : gC p l s m args meth c cc nL own L sz) {x y : Int32} (hy : ¬ y = 0) (hd : decode cc pc = .ok (.idiv, 1)) (kk : gS p l e R s m args below meth c nL L sz Q ce sl (pc + 1) lv (.int (x / y) :: st) v) : gS p l e R s m args below meth c nL L sz Q ce sl pc lv (.int y :: .int x :: st) v := fun H locs ls hP hS hl => lv_idiv C.1 C.2.1 hd hy (kk H locs ls hP hS hl)
theorem g_ineg (C : gC p l s m args meth c cc nL own L sz) {x : Int32} (hd : decode cc pc = .ok (.ineg, 1)) (kk : gS p l e R s m args below meth c nL L sz Q ce sl (pc + 1) lv (.int (-x) :: st) v) : gS p l e R s m args below meth c nL L sz Q ce sl pc lv (.int x :: st) v := fun H locs ls hP hS hl => lv_ineg C.1 C.2.1 hd (kk H locs ls hP hS hl)
theorem g_i2c (C : gC p l s m args meth c cc nL own L sz) {x : Int32} (hd : decode cc pc = .ok (.i2c, 1)) (kk : gS p l e R s m args below meth c nL L sz Q ce sl (pc + 1) lv (.int (x.toUInt32 % 65536).toInt32 :: st) v) : gS p l e R s m args below meth c nL L sz Q ce sl pc lv (.int x :: st) v := fun H locs ls hP hS hl => lv_i2c C.1 C.2.1 hd rfl (kk H locs ls hP hS hl)
theorem g_i2l (C : gC p l s m args meth c cc nL own L sz) {x : Int32} (hd : decode cc pc = .ok (.i2l, 1)) (kk : gS p l e R s m args below meth c nL L sz Q ce sl (pc + 1) lv (.long x.toInt64 :: st) v) : gS p l e R s m args below meth c nL L sz Q ce sl pc lv (.int x :: st) v := fun H locs ls hP hS hl => lv_i2l C.1 C.2.1 hd rfl (kk H locs ls hP hS hl)
theorem g_i2f (C : gC p l s m args meth c cc nL own L sz) {x : Int32} (hd : decode cc pc = .ok (.i2f, 1)) (kk : gS p l e R s m args below meth c nL L sz Q ce sl (pc + 1) lv (.float (FP.i2f x) :: st) v) : gS p l e R s m args below meth c nL L sz Q ce sl pc lv (.int x :: st) v := fun H locs ls hP hS hl => lv_i2f C.1 C.2.1 hd (kk H locs ls hP hS hl)
theorem g_fdiv (C : gC p l s m args meth c cc nL own L sz) {x y : UInt32} (hn : vf_n32 (FP.fdiv x y)) (hd : decode cc pc = .ok (.fdiv, 1)) (kk : gS p l e R s m args below meth c nL L sz Q ce sl (pc + 1) lv (.float (FP.fdiv x y) :: st) v) : gS p l e R s m args below meth c nL L sz Q ce sl pc lv (.float y :: .float x :: st) v := fun H locs ls hP hS hl => lv_fdiv C.1 C.2.1 hd hn (kk H locs ls hP hS hl)
theorem g_f2d (C : gC p l s m args meth c cc nL own L sz) {x : UInt32} (hn : vf_n64 (FP.f2d x)) (hd : decode cc pc = .ok (.f2d, 1)) (kk : gS p l e R s m args below meth c nL L sz Q ce sl (pc + 1) lv (.double (FP.f2d x) :: st) v) : gS p l e R s m args below meth c nL L sz Q ce sl pc lv (.float x :: st) v := fun H locs ls hP hS hl => lv_f2d C.1 C.2.1 hd hn (kk H locs ls hP hS hl)
theorem g_dup (C : gC p l s m args meth c cc nL own L sz) {a : Value} (ha : a.category = 1) (hd : decode cc pc = .ok (.dup, 1)) (kk : gS p l e R s m args below meth c nL L sz Q ce sl (pc + 1) lv (a :: a :: st) v) : gS p l e R s m args below meth c nL L sz Q ce sl pc lv (a :: st) v := fun H locs ls hP hS hl => lv_dup C.1 C.2.1 hd ha (kk H locs ls hP hS hl)
theorem g_dup2 (C : gC p l s m args meth c cc nL own L sz) {a b : Value} (ha : a.category = 1) (hb : b.category = 1) (hd : decode cc pc = .ok (.dup2, 1)) (kk : gS p l e R s m args below meth c nL L sz Q ce sl (pc + 1) lv (a :: b :: a :: b :: st) v) : gS p l e R s m args below meth c nL L sz Q ce sl pc lv (a :: b :: st) v := fun H locs ls hP hS hl => lv_dup2_11 C.1 C.2.1 hd ha hb (kk H locs ls hP hS hl)
theorem g_dup_x1 (C : gC p l s m args meth c cc nL own L sz) {a b : Value} (ha : a.category = 1) (hb : b.category = 1) (hd : decode cc pc = .ok (.dup_x1, 1)) (kk : gS p l e R s m args below meth c nL L sz Q ce sl (pc + 1) lv (a :: b :: a :: st) v) : gS p l e R s m args below meth c nL L sz Q ce sl pc lv (a :: b :: st) v := fun H locs ls hP hS hl => lv_dup_x1 C.1 C.2.1 hd ha hb (kk H locs ls hP hS hl)
theorem g_dup_x2 (C : gC p l s m args meth c cc nL own L sz) {a b d : Value} (ha : a.category = 1) (hb : b.category = 1) (hc : d.category = 1) (hd : decode cc pc = .ok (.dup_x2, 1)) (kk : gS p l e R s m args below meth c nL L sz Q ce sl (pc + 1) lv (a :: b :: d :: a :: st) v) : gS p l e R s m args below meth c nL L sz Q ce sl pc lv (a :: b :: d :: st) v := fun H locs ls hP hS hl => lv_dup_x2 C.1 C.2.1 hd ha hb hc (kk H locs ls hP hS hl)
theorem g_goto (C : gC p l s m args meth c cc nL own L sz) {off : Int} (tgt : Nat) (ht : (pc : Int) + off = (tgt : Int)) (hd : decode cc pc = .ok (.goto off, 3)) (kk : gS p l e R s m args below meth c nL L sz Q ce sl tgt lv st v) : gS p l e R s m args below meth c nL L sz Q ce sl pc lv st v := fun H locs ls hP hS hl => lv_goto C.1 C.2.1 hd ht (kk H locs ls hP hS hl)
theorem g_if_eq (C : gC p l s m args meth c cc nL own L sz) {x : Int32} {off : Int} (tgt : Nat) (ht : (pc : Int) + off = (tgt : Int)) (hd : decode cc pc = .ok (.ifCond .eq off, 3)) (kt : x = 0 → gS p l e R s m args below meth c nL L sz Q ce sl tgt lv st v) (kf : ¬ x = 0 → gS p l e R s m args below meth c nL L sz Q ce sl (pc + 3) lv st v) : gS p l e R s m args below meth c nL L sz Q ce sl pc lv (.int x :: st) v := fun H locs ls hP hS hl => lv_if_eq C.1 C.2.1 hd ht (fun h => kt h H locs ls hP hS hl) (fun h => kf h H locs ls hP hS hl)
theorem g_if_ne (C : gC p l s m args meth c cc nL own L sz) {x : Int32} {off : Int} (tgt : Nat) (ht : (pc : Int) + off = (tgt : Int)) (hd : decode cc pc = .ok (.ifCond .ne off, 3)) (kt : ¬ x = 0 → gS p l e R s m args below meth c nL L sz Q ce sl tgt lv st v) (kf : x = 0 → gS p l e R s m args below meth c nL L sz Q ce sl (pc + 3) lv st v) : gS p l e R s m args below meth c nL L sz Q ce sl pc lv (.int x :: st) v := fun H locs ls hP hS hl => lv_if_ne C.1 C.2.1 hd ht (fun h => kt h H locs ls hP hS hl) (fun h => kf h H locs ls hP hS hl)
theorem g_if_lt (C : gC p l s m args meth c cc nL own L sz) {x : Int32} {off : Int} (tgt : Nat) (ht : (pc : Int) + off = (tgt : Int)) (hd : decode cc pc = .ok (.ifCond .lt off, 3)) (kt : x < 0 → gS p l e R s m args below meth c nL L sz Q ce sl tgt lv st v) (kf : ¬ x < 0 → gS p l e R s m args below meth c nL L sz Q ce sl (pc + 3) lv st v) : gS p l e R s m args below meth c nL L sz Q ce sl pc lv (.int x :: st) v := fun H locs ls hP hS hl => lv_if_lt C.1 C.2.1 hd ht (fun h => kt h H locs ls hP hS hl) (fun h => kf h H locs ls hP hS hl)
theorem g_if_ge (C : gC p l s m args meth c cc nL own L sz) {x : Int32} {off : Int} (tgt : Nat) (ht : (pc : Int) + off = (tgt : Int)) (hd : decode cc pc = .ok (.ifCond .ge off, 3)) (kt : 0 ≤ x → gS p l e R s m args below meth c nL L sz Q ce sl tgt lv st v) (kf : ¬ 0 ≤ x → gS p l e R s m args below meth c nL L sz Q ce sl (pc + 3) lv st v) : gS p l e R s m args below meth c nL L sz Q ce sl pc lv (.int x :: st) v := fun H locs ls hP hS hl => lv_if_ge C.1 C.2.1 hd ht (fun h => kt h H locs ls hP hS hl) (fun h => kf h H locs ls hP hS hl)
theorem g_if_gt (C : gC p l s m args meth c cc nL own L sz) {x : Int32} {off : Int} (tgt : Nat) (ht : (pc : Int) + off = (tgt : Int)) (hd : decode cc pc = .ok (.ifCond .gt off, 3)) (kt : 0 < x → gS p l e R s m args below meth c nL L sz Q ce sl tgt lv st v) (kf : ¬ 0 < x → gS p l e R s m args below meth c nL L sz Q ce sl (pc + 3) lv st v) : gS p l e R s m args below meth c nL L sz Q ce sl pc lv (.int x :: st) v := fun H locs ls hP hS hl => lv_if_gt C.1 C.2.1 hd ht (fun h => kt h H locs ls hP hS hl) (fun h => kf h H locs ls hP hS hl)
theorem g_if_le (C : gC p l s m args meth c cc nL own L sz) {x : Int32} {off : Int} (tgt : Nat) (ht : (pc : Int) + off = (tgt : Int)) (hd : decode cc pc = .ok (.ifCond .le off, 3)) (kt : x ≤ 0 → gS p l e R s m args below meth c nL L sz Q ce sl tgt lv st v) (kf : ¬ x ≤ 0 → gS p l e R s m args below meth c nL L sz Q ce sl (pc + 3) lv st v) : gS p l e R s m args below meth c nL L sz Q ce sl pc lv (.int x :: st) v := fun H locs ls hP hS hl => lv_if_le C.1 C.2.1 hd ht (fun h => kt h H locs ls hP hS hl) (fun h => kf h H locs ls hP hS hl)
theorem g_icmp_eq (C : gC p l s m args meth c cc nL own L sz) {x y : Int32} {off : Int} (tgt : Nat) (ht : (pc : Int) + off = (tgt : Int)) (hd : decode cc pc = .ok (.if_icmp .eq off, 3)) (kt : x = y → gS p l e R s m args below meth c nL L sz Q ce sl tgt lv st v) (kf : ¬ x = y → gS p l e R s m args below meth c nL L sz Q ce sl (pc + 3) lv st v) : gS p l e R s m args below meth c nL L sz Q ce sl pc lv (.int y :: .int x :: st) v := fun H locs ls hP hS hl => lv_icmp_eq C.1 C.2.1 hd ht (fun h => kt h H locs ls hP hS hl) (fun h => kf h H locs ls hP hS hl)
theorem g_icmp_ne (C : gC p l s m args meth c cc nL own L sz) {x y : Int32} {off : Int} (tgt : Nat) (ht : (pc : Int) + off = (tgt : Int)) (hd : decode cc pc = .ok (.if_icmp .ne off, 3)) (kt : ¬ x = y → gS p l e R s m args below meth c nL L sz Q ce sl tgt lv st v) (kf : x = y → gS p l e R s m args below meth c nL L sz Q ce sl (pc + 3) lv st v) : gS p l e R s m args below meth c nL L sz Q ce sl pc lv (.int y :: .int x :: st) v := fun H locs ls hP hS hl => lv_icmp_ne C.1 C.2.1 hd ht (fun h => kt h H locs ls hP hS hl) (fun h => kf h H locs ls hP hS hl)
theorem g_icmp_lt (C : gC p l s m args meth c cc nL own L sz) {x y : Int32} {off : Int} (tgt : Nat) (ht : (pc : Int) + off = (tgt : Int)) (hd : decode cc pc = .ok (.if_icmp .lt off, 3)) (kt : x < y → gS p l e R s m args below meth c nL L sz Q ce sl tgt lv st v) (kf : ¬ x < y → gS p l e R s m args below meth c nL L sz Q ce sl (pc + 3) lv st v) : gS p l e R s m args below meth c nL L sz Q ce sl pc lv (.int y :: .int x :: st) v := fun H locs ls hP hS hl => lv_icmp_lt C.1 C.2.1 hd ht (fun h => kt h H locs ls hP hS hl) (fun h => kf h H locs ls hP hS hl)
theorem g_icmp_ge (C : gC p l s m args meth c cc nL own L sz) {x y : Int32} {off : Int} (tgt : Nat) (ht : (pc : Int) + off = (tgt : Int)) (hd : decode cc pc = .ok (.if_icmp .ge off, 3)) (kt : y ≤ x → gS p l e R s m args below meth c nL L sz Q ce sl tgt lv st v) (kf : ¬ y ≤ x → gS p l e R s m args below meth c nL L sz Q ce sl (pc + 3) lv st v) : gS p l e R s m args below meth c nL L sz Q ce sl pc lv (.int y :: .int x :: st) v := fun H locs ls hP hS hl => lv_icmp_ge C.1 C.2.1 hd ht (fun h => kt h H locs ls hP hS hl) (fun h => kf h H locs ls hP hS hl)
theorem g_icmp_gt (C : gC p l s m args meth c cc nL own L sz) {x y : Int32} {off : Int} (tgt : Nat) (ht : (pc : Int) + off = (tgt : Int)) (hd : decode cc pc = .ok (.if_icmp .gt off, 3)) (kt : y < x → gS p l e R s m args below meth c nL L sz Q ce sl tgt lv st v) (kf : ¬ y < x → gS p l e R s m args below meth c nL L sz Q ce sl (pc + 3) lv st v) : gS p l e R s m args below meth c nL L sz Q ce sl pc lv (.int y :: .int x :: st) v := fun H locs ls hP hS hl => lv_icmp_gt C.1 C.2.1 hd ht (fun h => kt h H locs ls hP hS hl) (fun h => kf h H locs ls hP hS hl)
theorem g_icmp_le (C : gC p l s m args meth c cc nL own L sz) {x y : Int32} {off : Int} (tgt : Nat) (ht : (pc : Int) + off = (tgt : Int)) (hd : decode cc pc = .ok (.if_icmp .le off, 3)) (kt : x ≤ y → gS p l e R s m args below meth c nL L sz Q ce sl tgt lv st v) (kf : ¬ x ≤ y → gS p l e R s m args below meth c nL L sz Q ce sl (pc + 3) lv st v) : gS p l e R s m args below meth c nL L sz Q ce sl pc lv (.int y :: .int x :: st) v := fun H locs ls hP hS hl => lv_icmp_le C.1 C.2.1 hd ht (fun h => kt h H locs ls hP hS hl) (fun h => kf h H locs ls hP hS hl)
theorem g_sub (lv' : List (Nat × Value)) (ks : List Nat) (h : lv_pick lv ks = lv') (kk : gS p l e R s m args below meth c nL L sz Q ce sl pc lv' st v) : gS p l e R s m args below meth c nL L sz Q ce sl pc lv st v := fun H locs ls hP hS hl => kk H locs ls hP hS (lv_sub hl ks h)
theorem g_widen (ce' sl' : Nat) (h1 : ce ≤ ce') (h2 : sl ≤ sl') (kk : gS p l e R s m args below meth c nL L sz Q ce' sl' pc lv st v) : gS p l e R s m args below meth c nL L sz Q ce sl pc lv st v := fun H locs ls hP hS hl => W.widen h1 h2 (kk H locs ls hP hS hl)
theorem g_switch (C : gC p l s m args meth c cc nL own L sz) {dflt lo hi : Int} {offs : Array Int} {len : Nat} {x : Int32} (hd : decode cc pc = .ok (.tableswitch dflt lo hi offs, len)) (ko : (x.toInt < lo ∨ hi < x.toInt) → ∃ tgt : Nat, (pc : Int) + dflt = (tgt : Int) ∧ gS p l e R s m args below meth c nL L sz Q ce sl tgt lv st v) (ki : ¬ x.toInt < lo → ¬ hi < x.toInt → ∃ (off : Int) (tgt : Nat), offs[(x.toInt - lo).toNat]? = some off ∧ (pc : Int) + off = (tgt : Int) ∧ gS p l e R s m args below meth c nL L sz Q ce sl tgt lv st v) : gS p l e R s m args below meth c nL L sz Q ce sl pc lv (.int x :: st) v := fun H locs ls hP hS hl => by
  by_cases h1 : x.toInt < lo
  · obtain ⟨tgt, ht, kk⟩ := ko (Or.inl h1)
    exact lv_tableOut C.1 C.2.1 hd (Or.inl h1) ht (kk H locs ls hP hS hl)
  · by_cases h2 : hi < x.toInt
    · obtain ⟨tgt, ht, kk⟩ := ko (Or.inr h2)
      exact lv_tableOut C.1 C.2.1 hd (Or.inr h2) ht (kk H locs ls hP hS hl)
    · obtain ⟨off, tgt, ho, ht, kk⟩ := ki h1 h2
      exact lv_tableIn C.1 C.2.1 hd h1 h2 ho ht (kk H locs ls hP hS hl)
theorem g_get (C : gC p l s m args meth c cc nL own L sz) {k i : Nat} (hk : gok k i) {ci : Nat} {fs : List Value} (hf : gcont L (v k i) k i = .inr (ci, fs)) {Cn : String} {T : u_T} {N : Nat} (hc : vwCl[ci]? = some (Cn, T, N)) (hin : ∀ w ∈ u_ws Cn T N, w ∈ gTbl) (j : Nat) (hj : j < N) {idx : Nat} (hq : Cond.fieldLink own idx (T j).1 (T j).2.1 (T j).2.2.1 ∈ gTbl) {x : Value} (hx : fs[j]? = some x) (hd : decode cc pc = .ok (.getfield idx, 3)) (kk : gS p l e R s m args below meth c nL L sz Q ce sl (pc + 3) lv (x :: st) v) : gS p l e R s m args below meth c nL L sz Q ce sl pc lv (.ref (L.2.1 k i) :: st) v := fun H locs ls hP hS hl => by
  obtain ⟨q, hq0, hq1⟩ := gW_at L v hk
  rw [hf] at hq1
  exact va_get C.1 C.2.1 C.2.2.2.2.1 hin C.2.2.2.1 C.2.2.2.2.2.2.2.2.2.1 hP q hq1 hc j hj (C.2.2.2.2.1 _ hq) (fun _ h9 => h9) hx hd (kk H locs ls hP hS hl)
theorem g_getN (C : gC p l s m args meth c cc nL own L sz) {host : String} {k i : Nat} (hk : gok k i) {ci : Nat} {fs : List Value} (hf : gcont L (v k i) k i = .inr (ci, fs)) {Cn : String} {T : u_T} {N : Nat} (hc : vwCl[ci]? = some (Cn, T, N)) (hin : ∀ w ∈ u_ws Cn T N, w ∈ gTbl) (j : Nat) (hj : j < N) {idx : Nat} (hq : Cond.fieldLinkNest own idx (T j).1 (T j).2.1 (T j).2.2.1 host ∈ gTbl) {x : Value} (hx : fs[j]? = some x) (hd : decode cc pc = .ok (.getfield idx, 3)) (kk : gS p l e R s m args below meth c nL L sz Q ce sl (pc + 3) lv (x :: st) v) : gS p l e R s m args below meth c nL L sz Q ce sl pc lv (.ref (L.2.1 k i) :: st) v := fun H locs ls hP hS hl => by
  obtain ⟨q, hq0, hq1⟩ := gW_at L v hk
  rw [hf] at hq1
  exact va_getN C.1 C.2.1 C.2.2.2.2.1 hin C.2.2.2.1 C.2.2.2.2.2.2.2.2.2.1 hP q hq1 hc j hj (C.2.2.2.2.1 _ hq) (fun _ h9 => h9) hx hd (kk H locs ls hP hS hl)
theorem g_put (C : gC p l s m args meth c cc nL own L sz) {k i : Nat} (hk : gok k i) {ci : Nat} {fs : List Value} (hf : gcont L (v k i) k i = .inr (ci, fs)) {Cn : String} {T : u_T} {N : Nat} (hc : vwCl[ci]? = some (Cn, T, N)) (hin : ∀ w ∈ u_ws Cn T N, w ∈ gTbl) (ty0 : Nat → FieldType) (hty : ∀ k, k < N → parseFieldDescriptor (T k).2.2.1 = some (ty0 k)) (hnm : ∀ a, a < N → ∀ b, b < N → a ≠ b → (T a).2.1 ≠ (T b).2.1) (j : Nat) (hj : j < N) {idx : Nat} (hq : Cond.fieldLink own idx (T j).1 (T j).2.1 (T j).2.2.1 ∈ gTbl) (hfin : (T j).2.2.2 = false) {x : Int32} (htj : parseFieldDescriptor (T j).2.2.1 = some .int) (hl0 : j < fs.length) (hfs : gcont L (gw v k i j x k i) k i = .inr (ci, fs.set j (.int x))) (hd : decode cc pc = .ok (.putfield idx, 3)) (kk : gS p l e R s m args below meth c nL L sz Q ce sl (pc + 3) lv st (gw v k i j x)) : gS p l e R s m args below meth c nL L sz Q ce sl pc lv (.int x :: .ref (L.2.1 k i) :: st) v := fun H locs ls hP hS hl => by
  obtain ⟨q, hq0, hq1⟩ := gW_at L v hk
  rw [hf] at hq1
  refine va_put C.1 C.2.1 C.2.2.2.2.1 hin ty0 hty hnm C.2.2.2.1 C.2.2.2.2.2.2.2.2.2.1 hP (gW_D C.2.2.2.2.2.2.2.1 sz v) hS q hq1 hc j hj (C.2.2.2.2.1 _ hq) (fun _ h9 => h9) hfin htj rfl rfl hl0 hd (fun H1 locs1 hP1 _ hS1 => ?_)
  rw [gW_set hq0 hfs (gw_off v k i j x)] at hP1
  exact kk H1 locs1 ls hP1 hS1 hl
theorem g_putN (C : gC p l s m args meth c cc nL own L sz) {host : String} {k i : Nat} (hk : gok k i) {ci : Nat} {fs : List Value} (hf : gcont L (v k i) k i = .inr (ci, fs)) {Cn : String} {T : u_T} {N : Nat} (hc : vwCl[ci]? = some (Cn, T, N)) (hin : ∀ w ∈ u_ws Cn T N, w ∈ gTbl) (ty0 : Nat → FieldType) (hty : ∀ k, k < N → parseFieldDescriptor (T k).2.2.1 = some (ty0 k)) (hnm : ∀ a, a < N → ∀ b, b < N → a ≠ b → (T a).2.1 ≠ (T b).2.1) (j : Nat) (hj : j < N) {idx : Nat} (hq : Cond.fieldLinkNest own idx (T j).1 (T j).2.1 (T j).2.2.1 host ∈ gTbl) (hfin : (T j).2.2.2 = false) {x : Int32} (htj : parseFieldDescriptor (T j).2.2.1 = some .int) (hl0 : j < fs.length) (hfs : gcont L (gw v k i j x k i) k i = .inr (ci, fs.set j (.int x))) (hd : decode cc pc = .ok (.putfield idx, 3)) (kk : gS p l e R s m args below meth c nL L sz Q ce sl (pc + 3) lv st (gw v k i j x)) : gS p l e R s m args below meth c nL L sz Q ce sl pc lv (.int x :: .ref (L.2.1 k i) :: st) v := fun H locs ls hP hS hl => by
  obtain ⟨q, hq0, hq1⟩ := gW_at L v hk
  rw [hf] at hq1
  refine va_putN C.1 C.2.1 C.2.2.2.2.1 hin ty0 hty hnm C.2.2.2.1 C.2.2.2.2.2.2.2.2.2.1 hP (gW_D C.2.2.2.2.2.2.2.1 sz v) hS q hq1 hc j hj (C.2.2.2.2.1 _ hq) (fun _ h9 => h9) hfin htj rfl rfl hl0 hd (fun H1 locs1 hP1 _ hS1 => ?_)
  rw [gW_set hq0 hfs (gw_off v k i j x)] at hP1
  exact kk H1 locs1 ls hP1 hS1 hl
theorem g_iald (C : gC p l s m args meth c cc nL own L sz) {k i : Nat} (hk : gok k i) {n : Nat} (hf : gcont L (v k i) k i = .inl (L.2.2 1, n, .inl (v k i))) {x : Int32} (hin : vp_in x n) (hd : decode cc pc = .ok (.iaload, 1)) (kk : gS p l e R s m args below meth c nL L sz Q ce sl (pc + 1) lv (.int (v k i x.toNatClampNeg) :: st) v) : gS p l e R s m args below meth c nL L sz Q ce sl pc lv (.int x :: .ref (L.2.1 k i) :: st) v := fun H locs ls hP hS hl => by
  obtain ⟨q, hq0, hq1⟩ := gW_at L v hk
  rw [hf] at hq1
  exact va_iald C.1 C.2.1 C.2.2.2.2.2.2.2.2.2.1 hP q 1 hq1 rfl hin hd (kk H locs ls hP hS hl)
theorem g_cald (C : gC p l s m args meth c cc nL own L sz) {k i : Nat} (hk : gok k i) {n : Nat} (hf : gcont L (v k i) k i = .inl (L.2.2 0, n, .inl (v k i))) {x : Int32} (hin : vp_in x n) (hd : decode cc pc = .ok (.caload, 1)) (kk : gS p l e R s m args below meth c nL L sz Q ce sl (pc + 1) lv (.int (v k i x.toNatClampNeg) :: st) v) : gS p l e R s m args below meth c nL L sz Q ce sl pc lv (.int x :: .ref (L.2.1 k i) :: st) v := fun H locs ls hP hS hl => by
  obtain ⟨q, hq0, hq1⟩ := gW_at L v hk
  rw [hf] at hq1
  exact va_cald C.1 C.2.1 C.2.2.2.2.2.2.2.2.2.1 hP q 0 hq1 rfl hin hd (kk H locs ls hP hS hl)
theorem g_zald (C : gC p l s m args meth c cc nL own L sz) {k i : Nat} (hk : gok k i) {n : Nat} (hf : gcont L (v k i) k i = .inl (L.2.2 2, n, .inl (v k i))) {x : Int32} (hin : vp_in x n) (hd : decode cc pc = .ok (.baload, 1)) (kk : gS p l e R s m args below meth c nL L sz Q ce sl (pc + 1) lv (.int (v k i x.toNatClampNeg) :: st) v) : gS p l e R s m args below meth c nL L sz Q ce sl pc lv (.int x :: .ref (L.2.1 k i) :: st) v := fun H locs ls hP hS hl => by
  obtain ⟨q, hq0, hq1⟩ := gW_at L v hk
  rw [hf] at hq1
  exact va_zald C.1 C.2.1 C.2.2.2.2.2.2.2.2.2.1 hP q 2 hq1 rfl hin hd (kk H locs ls hP hS hl)
theorem g_iast (C : gC p l s m args meth c cc nL own L sz) {k i : Nat} (hk : gok k i) {n : Nat} (hf : ∀ f, gcont L f k i = .inl (L.2.2 1, n, .inl f)) {x y : Int32} (hin : vp_in x n) (hd : decode cc pc = .ok (.iastore, 1)) (kk : gS p l e R s m args below meth c nL L sz Q ce sl (pc + 1) lv st (gw v k i x.toNatClampNeg (y))) : gS p l e R s m args below meth c nL L sz Q ce sl pc lv (.int y :: .int x :: .ref (L.2.1 k i) :: st) v := fun H locs ls hP hS hl => by
  obtain ⟨q, hq0, hq1⟩ := gW_at L v hk
  rw [hf] at hq1
  refine va_iast C.1 C.2.1 C.2.2.2.2.2.2.2.2.2.1 hP (gW_D C.2.2.2.2.2.2.2.1 sz v) hS q 1 hq1 rfl hin hd (fun H1 locs1 hP1 _ hS1 => ?_)
  rw [gW_set (v' := gw v k i x.toNatClampNeg (y)) hq0 (by rw [hf, gw_upd]) (gw_off v k i _ _)] at hP1
  exact kk H1 locs1 ls hP1 hS1 hl
theorem g_cast (C : gC p l s m args meth c cc nL own L sz) {k i : Nat} (hk : gok k i) {n : Nat} (hf : ∀ f, gcont L f k i = .inl (L.2.2 0, n, .inl f)) {x y : Int32} (hin : vp_in x n) (hd : decode cc pc = .ok (.castore, 1)) (kk : gS p l e R s m args below meth c nL L sz Q ce sl (pc + 1) lv st (gw v k i x.toNatClampNeg (vp_nar .char y))) : gS p l e R s m args below meth c nL L sz Q ce sl pc lv (.int y :: .int x :: .ref (L.2.1 k i) :: st) v := fun H locs ls hP hS hl => by
  obtain ⟨q, hq0, hq1⟩ := gW_at L v hk
  rw [hf] at hq1
  refine va_cast C.1 C.2.1 C.2.2.2.2.2.2.2.2.2.1 hP (gW_D C.2.2.2.2.2.2.2.1 sz v) hS q 0 hq1 rfl hin hd (fun H1 locs1 hP1 _ hS1 => ?_)
  rw [gW_set (v' := gw v k i x.toNatClampNeg (vp_nar .char y)) hq0 (by rw [hf, gw_upd]) (gw_off v k i _ _)] at hP1
  exact kk H1 locs1 ls hP1 hS1 hl
theorem g_zast (C : gC p l s m args meth c cc nL own L sz) {k i : Nat} (hk : gok k i) {n : Nat} (hf : ∀ f, gcont L f k i = .inl (L.2.2 2, n, .inl f)) {x y : Int32} (hin : vp_in x n) (hd : decode cc pc = .ok (.bastore, 1)) (kk : gS p l e R s m args below meth c nL L sz Q ce sl (pc + 1) lv st (gw v k i x.toNatClampNeg (vp_nar .boolean y))) : gS p l e R s m args below meth c nL L sz Q ce sl pc lv (.int y :: .int x :: .ref (L.2.1 k i) :: st) v := fun H locs ls hP hS hl => by
  obtain ⟨q, hq0, hq1⟩ := gW_at L v hk
  rw [hf] at hq1
  refine va_zast C.1 C.2.1 C.2.2.2.2.2.2.2.2.2.1 hP (gW_D C.2.2.2.2.2.2.2.1 sz v) hS q 2 hq1 rfl hin hd (fun H1 locs1 hP1 _ hS1 => ?_)
  rw [gW_set (v' := gw v k i x.toNatClampNeg (vp_nar .boolean y)) hq0 (by rw [hf, gw_upd]) (gw_off v k i _ _)] at hP1
  exact kk H1 locs1 ls hP1 hS1 hl
theorem g_book (C : gC p l s m args meth c cc nL own L sz) {x : Int32} (hin : vp_in x 16) (hd : decode cc pc = .ok (.aaload, 1)) (kk : gS p l e R s m args below meth c nL L sz Q ce sl (pc + 1) lv (.ref (L.2.1 2 x.toNatClampNeg) :: st) v) : gS p l e R s m args below meth c nL L sz Q ce sl pc lv (.int x :: .ref (L.2.1 11 0) :: st) v := fun H locs ls hP hS hl => by
  obtain ⟨q, hq0, hq1⟩ := gW_at L v gok_11
  exact va_aldq C.1 C.2.1 C.2.2.2.2.2.2.2.2.2.1 hP q 3 hq1 rfl hin hd (kk H locs ls hP hS hl)
theorem vp_lt {x : Int32} {n : Nat} (h : vp_in x n) : x.toNatClampNeg < n := Nat.not_le.mp fun q => h (Or.inr q)
end GR
section GE
variable {p : Program} {l : Launch} {e : Env} {R : Room} {s : State} {m : MethodId} {args : Array Value} {below : List Frame} {meth : Method} {c : Code} {cc : ByteArray} {nL : Nat} {own : String} {L : gL} {sz : Nat} {ce sl pc mc ms : Nat} {lv : List (Nat × Value)} {st : List Value} {v : gMem} {X : String → gMem → Prop}
theorem g_iret (C : gC p l s m args meth c cc nL own L sz) {Qn : Int32 → gMem → Prop} {x : Int32} {ty : FieldType} (hr : meth.sig.returnType = some ty) (hn : narrow ty (.int x) = .int x) (h1 : ce ≤ mc) (h2 : sl ≤ ms) (hq : Qn x v) (hd : decode cc pc = .ok (.ireturn, 1)) : gS p l e R s m args below meth c nL L sz (vx_MQ below (gQi L sz Qn) (gXC L sz X) args s mc ms (gA L sz)) ce sl pc lv [.int x] v := fun H locs ls hP hS hl =>
  W.widen h1 h2 (vx_ret (W.zret C.1 C.2.1 hr hn (fun t ht hW => ⟨⟨x, v, rfl, hq, by show va_P _ _ _ t.heap; rw [ht]; exact hP⟩, hS.F ht⟩) hS.2.2 hd C.2.2.2.2.2.1))
theorem g_fret (C : gC p l s m args meth c cc nL own L sz) {Qn : UInt32 → gMem → Prop} {x : UInt32} (hr : meth.sig.returnType = some .float) (h1 : ce ≤ mc) (h2 : sl ≤ ms) (hq : Qn x v) (hd : decode cc pc = .ok (.freturn, 1)) : gS p l e R s m args below meth c nL L sz (vx_MQ below (gQf L sz Qn) (gXC L sz X) args s mc ms (gA L sz)) ce sl pc lv [.float x] v := fun H locs ls hP hS hl =>
  W.widen h1 h2 (vx_ret (W.fret C.1 C.2.1 hr (fun t ht hW => ⟨⟨x, v, rfl, hq, by show va_P _ _ _ t.heap; rw [ht]; exact hP⟩, hS.F ht⟩) hS.2.2 hd C.2.2.2.2.2.1))
theorem g_vret (C : gC p l s m args meth c cc nL own L sz) {Qn : gMem → Prop} (hr : meth.sig.returnType = none) (h1 : ce ≤ mc) (h2 : sl ≤ ms) (hq : Qn v) (hd : decode cc pc = .ok (.return_, 1)) : gS p l e R s m args below meth c nL L sz (vx_MQ below (gQv L sz Qn) (gXC L sz X) args s mc ms (gA L sz)) ce sl pc lv [] v := fun H locs ls hP hS hl =>
  W.widen h1 h2 (vx_ret (W.vret C.1 C.2.1 hr (fun t ht hW => ⟨⟨v, rfl, hq, by show va_P _ _ _ t.heap; rw [ht]; exact hP⟩, hS.F ht⟩) hS.2.2 hd C.2.2.2.2.2.1))
theorem g_throwS (C : gC p l s m args meth c cc nL own L sz) {Qc : Array Value → State → Outcome → State → Prop} (hno : ∀ x ∈ c.exceptionTable.toList, False) {cls text : String} {ik is ic : Nat} (hown6 : own = RX6) (hcls : Bundle.fit cls = true) (hk : Cond.classLink own ik cls ∈ gTbl) (hini : Cond.initialized cls ∈ gTbl) (hstr : (is, text) ∈ gStr) (hat : ∀ w ∈ vx_atS own ic cls ["java/lang/RuntimeException", "java/lang/Exception"], w ∈ gTbl)
    (d0 : decode cc pc = .ok (.new ik, 3)) (d3 : decode cc (pc + 3) = .ok (.dup, 1)) (d4 : decode cc (pc + 4) = .ok (.ldc is, 2)) (d6 : decode cc (pc + 6) = .ok (.invokespecial ic, 3)) (d9 : decode cc (pc + 9) = .ok (.athrow, 1))
    (hR1 : 5 < R.frames) (hR2 : (st.map fun v => v.category).sum + 82 ≤ R.locals) (hR3 : ce + 1 ≤ R.cells ∧ sl + 6 ≤ R.slots) (h1 : ce + 1 ≤ mc) (h2 : sl + 6 ≤ ms) (hq : X cls v) : gS p l e R s m args below meth c nL L sz (vx_MQ below Qc (gXC L sz X) args s mc ms (gA L sz)) ce sl pc lv st v := fun H locs ls hP hS hl => by
  subst hown6
  obtain ⟨sa, hsa⟩ := C.2.2.2.2.2.2.2.2.2.2.2.1 (is, text) hstr
  have hot : ∀ w ∈ gTbl, vx_ot w = true := fun w hw => by
    have := gtw_tab (gTbl_gtw hw)
    simp [vx_ot, this]
  have hz : s.heap.size = sz := C.2.2.2.2.2.2.2.2.1
  have hU := C.2.2.2.2.2.2.2.2.2.2.2.2.1
  have hN := C.2.2.2.2.2.2.2.2.2.2.2.2.2
  refine vx_throwS C.1 C.2.1 C.2.2.2.2.2.2.1 C.2.2.2.1 hcls (by decide) (C.2.2.2.2.1 _ hk) (C.2.2.2.2.1 _ hini) hsa (fun w hw => C.2.2.2.2.1 w (hat w hw)) ?_ hU hN hS (hl.1.trans C.2.2.1.symm) d0 d3 d4 d6 d9 (fun x hx => (hno x hx).elim) hR1 hR2 hR3.1 hR3.2 C.2.2.2.2.2.1 ?_ hS.2.2 h1 h2
  · intro w hw
    rcases List.mem_cons.mp hw with rfl | hw
    · exact hot _ hk
    · rcases List.mem_cons.mp hw with rfl | hw
      · exact hot _ hini
      · exact hot _ (hat w hw)
  · intro t ht hsz hkeep
    refine ⟨v, trivial, ⟨hq, ?_⟩, ?_⟩
    · exact hP.kept (fun n q hn => hkeep q.1 (hP n q hn).lt)
    · exact ⟨Nat.le_trans hS.1 hsz, fun q h1 h2 => (hkeep q (Nat.lt_of_lt_of_le h1 hS.1)).trans (hS.2.1 q h1 h2)⟩
theorem g_throwSW (C : gC p l s m args meth c cc nL own L sz) {Qc : Array Value → State → Outcome → State → Prop} (hno : ∀ x ∈ c.exceptionTable.toList, False) {cls text : String} {ik is ic : Nat} (hown6 : own = RX6) (hcls : Bundle.fit cls = true) (hk : Cond.classLink own ik cls ∈ gTbl) (hini : Cond.initialized cls ∈ gTbl) (hstr : (is, text) ∈ gStr) (hat : ∀ w ∈ vx_atS own ic cls ["java/lang/RuntimeException", "java/lang/Exception"], w ∈ gTbl)
    (d0 : decode cc pc = .ok (.new ik, 3)) (d3 : decode cc (pc + 3) = .ok (.dup, 1)) (d4 : decode cc (pc + 4) = .ok (.ldc_w is, 3)) (d6 : decode cc (pc + 7) = .ok (.invokespecial ic, 3)) (d9 : decode cc (pc + 10) = .ok (.athrow, 1))
    (hR1 : 5 < R.frames) (hR2 : (st.map fun v => v.category).sum + 82 ≤ R.locals) (hR3 : ce + 1 ≤ R.cells ∧ sl + 6 ≤ R.slots) (h1 : ce + 1 ≤ mc) (h2 : sl + 6 ≤ ms) (hq : X cls v) : gS p l e R s m args below meth c nL L sz (vx_MQ below Qc (gXC L sz X) args s mc ms (gA L sz)) ce sl pc lv st v := fun H locs ls hP hS hl => by
  subst hown6
  obtain ⟨sa, hsa⟩ := C.2.2.2.2.2.2.2.2.2.2.2.1 (is, text) hstr
  have hot : ∀ w ∈ gTbl, vx_ot w = true := fun w hw => by
    have := gtw_tab (gTbl_gtw hw)
    simp [vx_ot, this]
  have hz : s.heap.size = sz := C.2.2.2.2.2.2.2.2.1
  have hU := C.2.2.2.2.2.2.2.2.2.2.2.2.1
  have hN := C.2.2.2.2.2.2.2.2.2.2.2.2.2
  refine vx_throwSW C.1 C.2.1 C.2.2.2.2.2.2.1 C.2.2.2.1 hcls (by decide) (C.2.2.2.2.1 _ hk) (C.2.2.2.2.1 _ hini) hsa (fun w hw => C.2.2.2.2.1 w (hat w hw)) ?_ hU hN hS (hl.1.trans C.2.2.1.symm) d0 d3 d4 d6 d9 (fun x hx => (hno x hx).elim) hR1 hR2 hR3.1 hR3.2 C.2.2.2.2.2.1 ?_ hS.2.2 h1 h2
  · intro w hw
    rcases List.mem_cons.mp hw with rfl | hw
    · exact hot _ hk
    · rcases List.mem_cons.mp hw with rfl | hw
      · exact hot _ hini
      · exact hot _ (hat w hw)
  · intro t ht hsz hkeep
    refine ⟨v, trivial, ⟨hq, ?_⟩, ?_⟩
    · exact hP.kept (fun n q hn => hkeep q.1 (hP n q hn).lt)
    · exact ⟨Nat.le_trans hS.1 hsz, fun q h1 h2 => (hkeep q (Nat.lt_of_lt_of_le h1 hS.1)).trans (hS.2.1 q h1 h2)⟩
theorem g_throwN (C : gC p l s m args meth c cc nL own L sz) {Qc : Array Value → State → Outcome → State → Prop} (hno : ∀ x ∈ c.exceptionTable.toList, False) {cls text : String} {ik is ic : Nat} (hown6 : own = RX6) (hcls : Bundle.fit cls = true) (hk : Cond.classLink own ik cls ∈ gTbl) (hini : Cond.initialized cls ∈ gTbl) (hstr : (is, text) ∈ gStr) (hat : ∀ w ∈ ny_at own ic cls ["java/lang/Exception"], w ∈ gTbl)
    (d0 : decode cc pc = .ok (.new ik, 3)) (d3 : decode cc (pc + 3) = .ok (.dup, 1)) (d4 : decode cc (pc + 4) = .ok (.ldc is, 2)) (d6 : decode cc (pc + 6) = .ok (.invokespecial ic, 3)) (d9 : decode cc (pc + 9) = .ok (.athrow, 1))
    (hR1 : 5 < R.frames) (hR2 : (st.map fun v => v.category).sum + 82 ≤ R.locals) (hR3 : ce + 1 ≤ R.cells ∧ sl + 6 ≤ R.slots) (h1 : ce + 1 ≤ mc) (h2 : sl + 6 ≤ ms) (hq : X cls v) : gS p l e R s m args below meth c nL L sz (vx_MQ below Qc (gXC L sz X) args s mc ms (gA L sz)) ce sl pc lv st v := fun H locs ls hP hS hl => by
  subst hown6
  obtain ⟨sa, hsa⟩ := C.2.2.2.2.2.2.2.2.2.2.2.1 (is, text) hstr
  have hot : ∀ w ∈ gTbl, vx_ot w = true := fun w hw => by
    have := gtw_tab (gTbl_gtw hw)
    simp [vx_ot, this]
  have hU := C.2.2.2.2.2.2.2.2.2.2.2.2.1
  have hN := C.2.2.2.2.2.2.2.2.2.2.2.2.2
  refine ny_makeS C.1 C.2.1 C.2.2.2.2.2.2.1 C.2.2.2.1 hcls (by decide) (C.2.2.2.2.1 _ hk) (C.2.2.2.2.1 _ hini) hsa (fun w hw => C.2.2.2.2.1 w (hat w hw)) ?_ hU hN hS (hl.1.trans C.2.2.1.symm) d0 d3 d4 d6 hR1 hR2 hR3.1 hR3.2 ?_
  · intro w hw
    rcases List.mem_cons.mp hw with rfl | hw
    · exact hot _ hk
    · rcases List.mem_cons.mp hw with rfl | hw
      · exact hot _ hini
      · exact hot _ (hat w hw)
  · intro q ce9 H1 hsz hkeep hc9 hv9 hcl9
    refine vx_athrow C.1 C.2.1 d9 (vx_out (fun x hx => (hno x hx).elim) C.2.2.2.2.2.1 hc9 hv9 hcl9 (fun t2 ht2 _ => ⟨v, trivial, ⟨hq, ?_⟩, ?_⟩) hS.2.2 h1 h2)
    · show va_P _ _ _ t2.heap
      rw [ht2]
      exact hP.kept (fun n q hn => hkeep q.1 (hP n q hn).lt)
    · rw [va_F, ht2]
      exact ⟨Nat.le_trans hS.1 hsz, fun q h1 h2 => (hkeep q (Nat.lt_of_lt_of_le h1 hS.1)).trans (hS.2.1 q h1 h2)⟩
theorem g_throwNW (C : gC p l s m args meth c cc nL own L sz) {Qc : Array Value → State → Outcome → State → Prop} (hno : ∀ x ∈ c.exceptionTable.toList, False) {cls text : String} {ik is ic : Nat} (hown6 : own = RX6) (hcls : Bundle.fit cls = true) (hk : Cond.classLink own ik cls ∈ gTbl) (hini : Cond.initialized cls ∈ gTbl) (hstr : (is, text) ∈ gStr) (hat : ∀ w ∈ ny_at own ic cls ["java/lang/Exception"], w ∈ gTbl)
    (d0 : decode cc pc = .ok (.new ik, 3)) (d3 : decode cc (pc + 3) = .ok (.dup, 1)) (d4 : decode cc (pc + 4) = .ok (.ldc_w is, 3)) (d6 : decode cc (pc + 7) = .ok (.invokespecial ic, 3)) (d9 : decode cc (pc + 10) = .ok (.athrow, 1))
    (hR1 : 5 < R.frames) (hR2 : (st.map fun v => v.category).sum + 82 ≤ R.locals) (hR3 : ce + 1 ≤ R.cells ∧ sl + 6 ≤ R.slots) (h1 : ce + 1 ≤ mc) (h2 : sl + 6 ≤ ms) (hq : X cls v) : gS p l e R s m args below meth c nL L sz (vx_MQ below Qc (gXC L sz X) args s mc ms (gA L sz)) ce sl pc lv st v := fun H locs ls hP hS hl => by
  subst hown6
  obtain ⟨sa, hsa⟩ := C.2.2.2.2.2.2.2.2.2.2.2.1 (is, text) hstr
  have hot : ∀ w ∈ gTbl, vx_ot w = true := fun w hw => by
    have := gtw_tab (gTbl_gtw hw)
    simp [vx_ot, this]
  have hU := C.2.2.2.2.2.2.2.2.2.2.2.2.1
  have hN := C.2.2.2.2.2.2.2.2.2.2.2.2.2
  refine ny_makeSW C.1 C.2.1 C.2.2.2.2.2.2.1 C.2.2.2.1 hcls (by decide) (C.2.2.2.2.1 _ hk) (C.2.2.2.2.1 _ hini) hsa (fun w hw => C.2.2.2.2.1 w (hat w hw)) ?_ hU hN hS (hl.1.trans C.2.2.1.symm) d0 d3 d4 d6 hR1 hR2 hR3.1 hR3.2 ?_
  · intro w hw
    rcases List.mem_cons.mp hw with rfl | hw
    · exact hot _ hk
    · rcases List.mem_cons.mp hw with rfl | hw
      · exact hot _ hini
      · exact hot _ (hat w hw)
  · intro q ce9 H1 hsz hkeep hc9 hv9 hcl9
    refine vx_athrow C.1 C.2.1 d9 (vx_out (fun x hx => (hno x hx).elim) C.2.2.2.2.2.1 hc9 hv9 hcl9 (fun t2 ht2 _ => ⟨v, trivial, ⟨hq, ?_⟩, ?_⟩) hS.2.2 h1 h2)
    · show va_P _ _ _ t2.heap
      rw [ht2]
      exact hP.kept (fun n q hn => hkeep q.1 (hP n q hn).lt)
    · rw [va_F, ht2]
      exact ⟨Nat.le_trans hS.1 hsz, fun q h1 h2 => (hkeep q (Nat.lt_of_lt_of_le h1 hS.1)).trans (hS.2.1 q h1 h2)⟩
theorem g_ofW {y : MethodName} {rm : Room} {Qc : Array Value → State → Outcome → State → Prop} {maxL : Nat} {ret : Option FieldType} {As : List Value} (hy : plainName y.cls = true) (hfl : l.stackTraces = false) (hL : gDist L) (hA : (lg_sl As).length ≤ maxL)
    (body : ∀ (p : Program) (e : Env) (s : State) (m : MethodId) (args : Array Value) (below : List Frame) (meth : Method) (c : Code), gC p l s m args meth c cc maxL y.cls L sz → meth.sig.returnType = ret → (∀ x ∈ c.exceptionTable.toList, False) → gS p l e rm s m args below meth c maxL L sz (vx_MQ below Qc (gXC L sz X) args s mc ms (gA L sz)) 0 0 0 (lv_args 0 As) [] v) :
    vx_Met l y [.code y cc maxL ret] rm (gPc L sz As v) Qc (gXC L sz X) mc ms (gA L sz) := by
  refine vx_ofW (cc := cc) (maxL := maxL) (ret := ret) hy rfl ?_
  intro p e s m args below meth c s₁ B hml hno hv
  obtain ⟨rfl, hsz, hP, hE⟩ := hv
  have hown : s.vm.findClass y.cls = some m.cls := findClass_of_methodNamed B.named
  have hC : gC p l s m As.toArray meth c cc maxL y.cls L sz := ⟨B.exec, B.bytes, hml, hown, fun w hw => gtw_move (gTbl_gtw hw) (State.WarmedH.refl s) (hE.2.1 w hw), B.notSynchronized, hfl, hL, hsz, hE⟩
  rw [lg_entry_eq]
  exact body p e s m As.toArray below meth c hC B.returns hno s.heap [] _ hP va_S.rf (lv_entry As hA)
theorem g_callVi (C : gC p l s m args meth c cc nL own L sz) {Qc : Array Value → State → Outcome → State → Prop} (hno : ∀ x ∈ c.exceptionTable.toList, False) {y : MethodName} {bytes : ByteArray} {maxL : Nat} {ret : Option FieldType} {rm : Room} {mc1 ms1 index : Nat} {k i ci : Nat} {fs : List Value} {T : u_T} {N : Nat} (hk : gok k i) (hf : gcont L (v k i) k i = .inr (ci, fs)) (hc : vwCl[ci]? = some (y.cls, T, N)) (As : List Value) {Qn : Int32 → gMem → Prop}
    (hM : ∀ sz', vx_Met l y [.code y bytes maxL ret] rm (gPc L sz' (.ref (L.2.1 k i) :: As) v) (gQi L sz' Qn) (gXC L sz' X) mc1 ms1 (gA L sz'))
    (hq1 : Cond.methodLink own index y ∈ gTbl) (hq2 : Cond.instanceMethod y ∈ gTbl) (hq3 : Cond.selects y.cls y y ∈ gTbl) (hq4 : Cond.initialized y.cls ∈ gTbl) (hq5 : Cond.code y bytes maxL ret ∈ gTbl) (hrc : rm.cells = mc1) (hrs : rm.slots = ms1) (hd : y.cls ≠ "java/lang/invoke/MethodHandle" ∧ y.cls ≠ "java/lang/invoke/VarHandle" ∧ (parseMethodDescriptor y.desc).map (fun d => d.parameters.length) = some As.length) (hR : rm.frames + 1 ≤ R.frames ∧ 8 + (maxL + 11) + rm.locals ≤ R.locals) (hR2 : ce + mc1 ≤ R.cells ∧ sl + ms1 ≤ R.slots) (hm : ce + mc1 ≤ mc ∧ sl + ms1 ≤ ms) (hW : (st.map fun v => v.category).sum ≤ 8) (hdg : decode cc pc = .ok (.invokevirtual index, 3))
    (kk : ∀ (r : Int32) (v' : gMem), Qn r v' → gS p l e R s m args below meth c nL L sz (vx_MQ below Qc (gXC L sz X) args s mc ms (gA L sz)) (ce + mc1) (sl + ms1) (pc + 3) lv (.int r :: st) v') : gS p l e R s m args below meth c nL L sz (vx_MQ below Qc (gXC L sz X) args s mc ms (gA L sz)) ce sl pc lv (As.reverse ++ .ref (L.2.1 k i) :: st) v := fun H locs ls hP hS hl => by
  have hEnv := C.2.2.2.2.2.2.2.2.2
  have hsz : s.heap.size = sz := C.2.2.2.2.2.2.2.2.1
  have t1 := C.2.2.2.2.1 _ hq1
  have t2 := C.2.2.2.2.1 _ hq2
  have t3 := C.2.2.2.2.1 _ hq3
  have t4 := C.2.2.2.2.1 _ hq4
  have t5 := C.2.2.2.2.1 _ hq5
  have hpay : ∀ w ∈ [Cond.code y bytes maxL ret], ∀ (a' : Array Value) (U : State), s.WarmedH U.vm → w.before a' U = true := by
    intro w hw a' U hW
    rw [List.mem_singleton.mp hw]
    exact gtw_move (gTbl_gtw hq5) hW t5
  have hlen : ∀ sig, parseMethodDescriptor y.desc = some sig → As.length = sig.parameters.length := by
    intro sig h
    have h2 := hd.2.2
    rw [h] at h2
    exact (Option.some.inj h2).symm
  have hsub : ∀ q, gA L H.size q → gA L sz q := fun q h => h.elim Or.inl (fun h => Or.inr (Nat.le_trans (by rw [← hsz]; exact hS.1) h))
  have hpre : ∀ U : State, U.heap = H → s.WarmedH U.vm → gPc L H.size (.ref (L.2.1 k i) :: As) v ((.ref (L.2.1 k i) :: As)).toArray U := by
    intro U hU hW
    refine ⟨rfl, by rw [hU], by rw [hU]; exact hP, ?_⟩
    rw [hU]
    exact gEnv_move hW (by intro a h1 h2; exact hS.2.1 a h1 h2) (by rw [← hsz]; exact hS.1) hEnv
  have hrecv : ∃ cellB : Cell, H[L.2.1 k i]? = some cellB ∧ cellB.vm.isStatics = false ∧ s.vm.findClass y.cls = some cellB.cls := by
    obtain ⟨q, hq0, hq1⟩ := gW_at L v hk
    rw [hf] at hq1
    exact va_recv hEnv.1 hP hc hq1
  refine vx_calli (vx_runV (As := As) (rest := st) ⟨C.1, C.2.1, C.2.2.1, C.2.2.2.1, C.2.2.2.2.1⟩ (hM H.size) ⟨⟨hrc, hrs, hR.1, hR.2, hpay, List.mem_cons_self, t5, t4, ⟨hd.1, hd.2.1⟩, hlen, t1⟩, t2, t3⟩ ⟨gPc_blind _ _ _ _, hrecv, hpre⟩ rfl rfl hl.1 rfl (lv_room hW) hdg hR2) hS (fun q _ h => hsub q h) hsub (fun q _ h => hsub q h) ?_ (fun r u t H1 locs1 ht hvm hw hB hz1 hk1 hS1 => kk r u hw H1 locs1 ls (by rw [← ht]; exact hB) hS1 hl)
  intro E ce9 q9 u t H1 locs1 ht hvm _ hB hz1 hk1 hS1 hc9 hv9 hcl9
  refine vx_out (fun x hx => (hno x hx).elim) C.2.2.2.2.2.1 hc9 hv9 hcl9 (fun t2 ht2 _ => ⟨u, trivial, ⟨hB.1, by show va_P _ _ _ t2.heap; rw [ht2, ← ht]; exact hB.2⟩, hS1.F ht2⟩) hS1.2.2 hm.1 hm.2
theorem g_callVv (C : gC p l s m args meth c cc nL own L sz) {Qc : Array Value → State → Outcome → State → Prop} (hno : ∀ x ∈ c.exceptionTable.toList, False) {y : MethodName} {bytes : ByteArray} {maxL : Nat} {ret : Option FieldType} {rm : Room} {mc1 ms1 index : Nat} {k i ci : Nat} {fs : List Value} {T : u_T} {N : Nat} (hk : gok k i) (hf : gcont L (v k i) k i = .inr (ci, fs)) (hc : vwCl[ci]? = some (y.cls, T, N)) (As : List Value) {Qn : gMem → Prop}
    (hM : ∀ sz', vx_Met l y [.code y bytes maxL ret] rm (gPc L sz' (.ref (L.2.1 k i) :: As) v) (gQv L sz' Qn) (gXC L sz' X) mc1 ms1 (gA L sz'))
    (hq1 : Cond.methodLink own index y ∈ gTbl) (hq2 : Cond.instanceMethod y ∈ gTbl) (hq3 : Cond.selects y.cls y y ∈ gTbl) (hq4 : Cond.initialized y.cls ∈ gTbl) (hq5 : Cond.code y bytes maxL ret ∈ gTbl) (hrc : rm.cells = mc1) (hrs : rm.slots = ms1) (hd : y.cls ≠ "java/lang/invoke/MethodHandle" ∧ y.cls ≠ "java/lang/invoke/VarHandle" ∧ (parseMethodDescriptor y.desc).map (fun d => d.parameters.length) = some As.length) (hR : rm.frames + 1 ≤ R.frames ∧ 8 + (maxL + 11) + rm.locals ≤ R.locals) (hR2 : ce + mc1 ≤ R.cells ∧ sl + ms1 ≤ R.slots) (hm : ce + mc1 ≤ mc ∧ sl + ms1 ≤ ms) (hW : (st.map fun v => v.category).sum ≤ 8) (hdg : decode cc pc = .ok (.invokevirtual index, 3))
    (kk : ∀ v' : gMem, Qn v' → gS p l e R s m args below meth c nL L sz (vx_MQ below Qc (gXC L sz X) args s mc ms (gA L sz)) (ce + mc1) (sl + ms1) (pc + 3) lv st v') : gS p l e R s m args below meth c nL L sz (vx_MQ below Qc (gXC L sz X) args s mc ms (gA L sz)) ce sl pc lv (As.reverse ++ .ref (L.2.1 k i) :: st) v := fun H locs ls hP hS hl => by
  have hEnv := C.2.2.2.2.2.2.2.2.2
  have hsz : s.heap.size = sz := C.2.2.2.2.2.2.2.2.1
  have t1 := C.2.2.2.2.1 _ hq1
  have t2 := C.2.2.2.2.1 _ hq2
  have t3 := C.2.2.2.2.1 _ hq3
  have t4 := C.2.2.2.2.1 _ hq4
  have t5 := C.2.2.2.2.1 _ hq5
  have hpay : ∀ w ∈ [Cond.code y bytes maxL ret], ∀ (a' : Array Value) (U : State), s.WarmedH U.vm → w.before a' U = true := by
    intro w hw a' U hW
    rw [List.mem_singleton.mp hw]
    exact gtw_move (gTbl_gtw hq5) hW t5
  have hlen : ∀ sig, parseMethodDescriptor y.desc = some sig → As.length = sig.parameters.length := by
    intro sig h
    have h2 := hd.2.2
    rw [h] at h2
    exact (Option.some.inj h2).symm
  have hsub : ∀ q, gA L H.size q → gA L sz q := fun q h => h.elim Or.inl (fun h => Or.inr (Nat.le_trans (by rw [← hsz]; exact hS.1) h))
  have hpre : ∀ U : State, U.heap = H → s.WarmedH U.vm → gPc L H.size (.ref (L.2.1 k i) :: As) v ((.ref (L.2.1 k i) :: As)).toArray U := by
    intro U hU hW
    refine ⟨rfl, by rw [hU], by rw [hU]; exact hP, ?_⟩
    rw [hU]
    exact gEnv_move hW (by intro a h1 h2; exact hS.2.1 a h1 h2) (by rw [← hsz]; exact hS.1) hEnv
  have hrecv : ∃ cellB : Cell, H[L.2.1 k i]? = some cellB ∧ cellB.vm.isStatics = false ∧ s.vm.findClass y.cls = some cellB.cls := by
    obtain ⟨q, hq0, hq1⟩ := gW_at L v hk
    rw [hf] at hq1
    exact va_recv hEnv.1 hP hc hq1
  refine vx_callv (vx_runV (As := As) (rest := st) ⟨C.1, C.2.1, C.2.2.1, C.2.2.2.1, C.2.2.2.2.1⟩ (hM H.size) ⟨⟨hrc, hrs, hR.1, hR.2, hpay, List.mem_cons_self, t5, t4, ⟨hd.1, hd.2.1⟩, hlen, t1⟩, t2, t3⟩ ⟨gPc_blind _ _ _ _, hrecv, hpre⟩ rfl rfl hl.1 rfl (lv_room hW) hdg hR2) hS (fun q _ h => hsub q h) hsub (fun q _ h => hsub q h) ?_ (fun u t H1 locs1 ht hvm hw hB hz1 hk1 hS1 => kk u hw H1 locs1 ls (by rw [← ht]; exact hB) hS1 hl)
  intro E ce9 q9 u t H1 locs1 ht hvm _ hB hz1 hk1 hS1 hc9 hv9 hcl9
  refine vx_out (fun x hx => (hno x hx).elim) C.2.2.2.2.2.1 hc9 hv9 hcl9 (fun t2 ht2 _ => ⟨u, trivial, ⟨hB.1, by show va_P _ _ _ t2.heap; rw [ht2, ← ht]; exact hB.2⟩, hS1.F ht2⟩) hS1.2.2 hm.1 hm.2
theorem g_callVf (C : gC p l s m args meth c cc nL own L sz) {Qc : Array Value → State → Outcome → State → Prop} (hno : ∀ x ∈ c.exceptionTable.toList, False) {y : MethodName} {bytes : ByteArray} {maxL : Nat} {ret : Option FieldType} {rm : Room} {mc1 ms1 index : Nat} {k i ci : Nat} {fs : List Value} {T : u_T} {N : Nat} (hk : gok k i) (hf : gcont L (v k i) k i = .inr (ci, fs)) (hc : vwCl[ci]? = some (y.cls, T, N)) (As : List Value) {Qn : UInt32 → gMem → Prop}
    (hM : ∀ sz', vx_Met l y [.code y bytes maxL ret] rm (gPc L sz' (.ref (L.2.1 k i) :: As) v) (gQf L sz' Qn) (gXC L sz' X) mc1 ms1 (gA L sz'))
    (hq1 : Cond.methodLink own index y ∈ gTbl) (hq2 : Cond.instanceMethod y ∈ gTbl) (hq3 : Cond.selects y.cls y y ∈ gTbl) (hq4 : Cond.initialized y.cls ∈ gTbl) (hq5 : Cond.code y bytes maxL ret ∈ gTbl) (hrc : rm.cells = mc1) (hrs : rm.slots = ms1) (hd : y.cls ≠ "java/lang/invoke/MethodHandle" ∧ y.cls ≠ "java/lang/invoke/VarHandle" ∧ (parseMethodDescriptor y.desc).map (fun d => d.parameters.length) = some As.length) (hR : rm.frames + 1 ≤ R.frames ∧ 8 + (maxL + 11) + rm.locals ≤ R.locals) (hR2 : ce + mc1 ≤ R.cells ∧ sl + ms1 ≤ R.slots) (hm : ce + mc1 ≤ mc ∧ sl + ms1 ≤ ms) (hW : (st.map fun v => v.category).sum ≤ 8) (hdg : decode cc pc = .ok (.invokevirtual index, 3))
    (kk : ∀ (r : UInt32) (v' : gMem), Qn r v' → gS p l e R s m args below meth c nL L sz (vx_MQ below Qc (gXC L sz X) args s mc ms (gA L sz)) (ce + mc1) (sl + ms1) (pc + 3) lv (.float r :: st) v') : gS p l e R s m args below meth c nL L sz (vx_MQ below Qc (gXC L sz X) args s mc ms (gA L sz)) ce sl pc lv (As.reverse ++ .ref (L.2.1 k i) :: st) v := fun H locs ls hP hS hl => by
  have hEnv := C.2.2.2.2.2.2.2.2.2
  have hsz : s.heap.size = sz := C.2.2.2.2.2.2.2.2.1
  have t1 := C.2.2.2.2.1 _ hq1
  have t2 := C.2.2.2.2.1 _ hq2
  have t3 := C.2.2.2.2.1 _ hq3
  have t4 := C.2.2.2.2.1 _ hq4
  have t5 := C.2.2.2.2.1 _ hq5
  have hpay : ∀ w ∈ [Cond.code y bytes maxL ret], ∀ (a' : Array Value) (U : State), s.WarmedH U.vm → w.before a' U = true := by
    intro w hw a' U hW
    rw [List.mem_singleton.mp hw]
    exact gtw_move (gTbl_gtw hq5) hW t5
  have hlen : ∀ sig, parseMethodDescriptor y.desc = some sig → As.length = sig.parameters.length := by
    intro sig h
    have h2 := hd.2.2
    rw [h] at h2
    exact (Option.some.inj h2).symm
  have hsub : ∀ q, gA L H.size q → gA L sz q := fun q h => h.elim Or.inl (fun h => Or.inr (Nat.le_trans (by rw [← hsz]; exact hS.1) h))
  have hpre : ∀ U : State, U.heap = H → s.WarmedH U.vm → gPc L H.size (.ref (L.2.1 k i) :: As) v ((.ref (L.2.1 k i) :: As)).toArray U := by
    intro U hU hW
    refine ⟨rfl, by rw [hU], by rw [hU]; exact hP, ?_⟩
    rw [hU]
    exact gEnv_move hW (by intro a h1 h2; exact hS.2.1 a h1 h2) (by rw [← hsz]; exact hS.1) hEnv
  have hrecv : ∃ cellB : Cell, H[L.2.1 k i]? = some cellB ∧ cellB.vm.isStatics = false ∧ s.vm.findClass y.cls = some cellB.cls := by
    obtain ⟨q, hq0, hq1⟩ := gW_at L v hk
    rw [hf] at hq1
    exact va_recv hEnv.1 hP hc hq1
  refine vx_callf (vx_runV (As := As) (rest := st) ⟨C.1, C.2.1, C.2.2.1, C.2.2.2.1, C.2.2.2.2.1⟩ (hM H.size) ⟨⟨hrc, hrs, hR.1, hR.2, hpay, List.mem_cons_self, t5, t4, ⟨hd.1, hd.2.1⟩, hlen, t1⟩, t2, t3⟩ ⟨gPc_blind _ _ _ _, hrecv, hpre⟩ rfl rfl hl.1 rfl (lv_room hW) hdg hR2) hS (fun q _ h => hsub q h) hsub (fun q _ h => hsub q h) ?_ (fun r u t H1 locs1 ht hvm hw hB hz1 hk1 hS1 => kk r u hw H1 locs1 ls (by rw [← ht]; exact hB) hS1 hl)
  intro E ce9 q9 u t H1 locs1 ht hvm _ hB hz1 hk1 hS1 hc9 hv9 hcl9
  refine vx_out (fun x hx => (hno x hx).elim) C.2.2.2.2.2.1 hc9 hv9 hcl9 (fun t2 ht2 _ => ⟨u, trivial, ⟨hB.1, by show va_P _ _ _ t2.heap; rw [ht2, ← ht]; exact hB.2⟩, hS1.F ht2⟩) hS1.2.2 hm.1 hm.2
theorem g_callSi (C : gC p l s m args meth c cc nL own L sz) {Qc : Array Value → State → Outcome → State → Prop} (hno : ∀ x ∈ c.exceptionTable.toList, False) {y : MethodName} {bytes : ByteArray} {maxL : Nat} {ret : Option FieldType} {rm : Room} {mc1 ms1 index : Nat} (As : List Value) {Qn : Int32 → gMem → Prop}
    (hM : ∀ sz', vx_Met l y [.code y bytes maxL ret] rm (gPc L sz' As v) (gQi L sz' Qn) (gXC L sz' X) mc1 ms1 (gA L sz'))
    (hq1 : Cond.methodLink own index y ∈ gTbl) (hq2 : Cond.static y ∈ gTbl) (hq4 : Cond.initialized y.cls ∈ gTbl) (hq5 : Cond.code y bytes maxL ret ∈ gTbl) (hrc : rm.cells = mc1) (hrs : rm.slots = ms1) (hd : y.cls ≠ "java/lang/invoke/MethodHandle" ∧ y.cls ≠ "java/lang/invoke/VarHandle" ∧ (parseMethodDescriptor y.desc).map (fun d => d.parameters.length) = some As.length) (hR : rm.frames + 1 ≤ R.frames ∧ 8 + (maxL + 11) + rm.locals ≤ R.locals) (hR2 : ce + mc1 ≤ R.cells ∧ sl + ms1 ≤ R.slots) (hm : ce + mc1 ≤ mc ∧ sl + ms1 ≤ ms) (hW : (st.map fun v => v.category).sum ≤ 8) (hdg : decode cc pc = .ok (.invokestatic index, 3))
    (kk : ∀ (r : Int32) (v' : gMem), Qn r v' → gS p l e R s m args below meth c nL L sz (vx_MQ below Qc (gXC L sz X) args s mc ms (gA L sz)) (ce + mc1) (sl + ms1) (pc + 3) lv (.int r :: st) v') : gS p l e R s m args below meth c nL L sz (vx_MQ below Qc (gXC L sz X) args s mc ms (gA L sz)) ce sl pc lv (As.reverse ++ st) v := fun H locs ls hP hS hl => by
  have hEnv := C.2.2.2.2.2.2.2.2.2
  have hsz : s.heap.size = sz := C.2.2.2.2.2.2.2.2.1
  have t1 := C.2.2.2.2.1 _ hq1
  have t2 := C.2.2.2.2.1 _ hq2
  have t4 := C.2.2.2.2.1 _ hq4
  have t5 := C.2.2.2.2.1 _ hq5
  have hpay : ∀ w ∈ [Cond.code y bytes maxL ret], ∀ (a' : Array Value) (U : State), s.WarmedH U.vm → w.before a' U = true := by
    intro w hw a' U hW
    rw [List.mem_singleton.mp hw]
    exact gtw_move (gTbl_gtw hq5) hW t5
  have hlen : ∀ sig, parseMethodDescriptor y.desc = some sig → As.length = sig.parameters.length := by
    intro sig h
    have h2 := hd.2.2
    rw [h] at h2
    exact (Option.some.inj h2).symm
  have hsub : ∀ q, gA L H.size q → gA L sz q := fun q h => h.elim Or.inl (fun h => Or.inr (Nat.le_trans (by rw [← hsz]; exact hS.1) h))
  have hpre : ∀ U : State, U.heap = H → s.WarmedH U.vm → gPc L H.size As v (As).toArray U := by
    intro U hU hW
    refine ⟨rfl, by rw [hU], by rw [hU]; exact hP, ?_⟩
    rw [hU]
    exact gEnv_move hW (by intro a h1 h2; exact hS.2.1 a h1 h2) (by rw [← hsz]; exact hS.1) hEnv
  refine vx_calli (vx_runS (As := As) (rest := st) ⟨C.1, C.2.1, C.2.2.1, C.2.2.2.1, C.2.2.2.2.1⟩ (hM H.size) ⟨⟨hrc, hrs, hR.1, hR.2, hpay, List.mem_cons_self, t5, t4, ⟨hd.1, hd.2.1⟩, hlen, t1⟩, t2⟩ ⟨gPc_blind _ _ _ _, hpre⟩ rfl rfl hl.1 rfl (lv_room hW) hdg hR2) hS (fun q _ h => hsub q h) hsub (fun q _ h => hsub q h) ?_ (fun r u t H1 locs1 ht hvm hw hB hz1 hk1 hS1 => kk r u hw H1 locs1 ls (by rw [← ht]; exact hB) hS1 hl)
  intro E ce9 q9 u t H1 locs1 ht hvm _ hB hz1 hk1 hS1 hc9 hv9 hcl9
  refine vx_out (fun x hx => (hno x hx).elim) C.2.2.2.2.2.1 hc9 hv9 hcl9 (fun t2 ht2 _ => ⟨u, trivial, ⟨hB.1, by show va_P _ _ _ t2.heap; rw [ht2, ← ht]; exact hB.2⟩, hS1.F ht2⟩) hS1.2.2 hm.1 hm.2
theorem g_callSv (C : gC p l s m args meth c cc nL own L sz) {Qc : Array Value → State → Outcome → State → Prop} (hno : ∀ x ∈ c.exceptionTable.toList, False) {y : MethodName} {bytes : ByteArray} {maxL : Nat} {ret : Option FieldType} {rm : Room} {mc1 ms1 index : Nat} (As : List Value) {Qn : gMem → Prop}
    (hM : ∀ sz', vx_Met l y [.code y bytes maxL ret] rm (gPc L sz' As v) (gQv L sz' Qn) (gXC L sz' X) mc1 ms1 (gA L sz'))
    (hq1 : Cond.methodLink own index y ∈ gTbl) (hq2 : Cond.static y ∈ gTbl) (hq4 : Cond.initialized y.cls ∈ gTbl) (hq5 : Cond.code y bytes maxL ret ∈ gTbl) (hrc : rm.cells = mc1) (hrs : rm.slots = ms1) (hd : y.cls ≠ "java/lang/invoke/MethodHandle" ∧ y.cls ≠ "java/lang/invoke/VarHandle" ∧ (parseMethodDescriptor y.desc).map (fun d => d.parameters.length) = some As.length) (hR : rm.frames + 1 ≤ R.frames ∧ 8 + (maxL + 11) + rm.locals ≤ R.locals) (hR2 : ce + mc1 ≤ R.cells ∧ sl + ms1 ≤ R.slots) (hm : ce + mc1 ≤ mc ∧ sl + ms1 ≤ ms) (hW : (st.map fun v => v.category).sum ≤ 8) (hdg : decode cc pc = .ok (.invokestatic index, 3))
    (kk : ∀ v' : gMem, Qn v' → gS p l e R s m args below meth c nL L sz (vx_MQ below Qc (gXC L sz X) args s mc ms (gA L sz)) (ce + mc1) (sl + ms1) (pc + 3) lv st v') : gS p l e R s m args below meth c nL L sz (vx_MQ below Qc (gXC L sz X) args s mc ms (gA L sz)) ce sl pc lv (As.reverse ++ st) v := fun H locs ls hP hS hl => by
  have hEnv := C.2.2.2.2.2.2.2.2.2
  have hsz : s.heap.size = sz := C.2.2.2.2.2.2.2.2.1
  have t1 := C.2.2.2.2.1 _ hq1
  have t2 := C.2.2.2.2.1 _ hq2
  have t4 := C.2.2.2.2.1 _ hq4
  have t5 := C.2.2.2.2.1 _ hq5
  have hpay : ∀ w ∈ [Cond.code y bytes maxL ret], ∀ (a' : Array Value) (U : State), s.WarmedH U.vm → w.before a' U = true := by
    intro w hw a' U hW
    rw [List.mem_singleton.mp hw]
    exact gtw_move (gTbl_gtw hq5) hW t5
  have hlen : ∀ sig, parseMethodDescriptor y.desc = some sig → As.length = sig.parameters.length := by
    intro sig h
    have h2 := hd.2.2
    rw [h] at h2
    exact (Option.some.inj h2).symm
  have hsub : ∀ q, gA L H.size q → gA L sz q := fun q h => h.elim Or.inl (fun h => Or.inr (Nat.le_trans (by rw [← hsz]; exact hS.1) h))
  have hpre : ∀ U : State, U.heap = H → s.WarmedH U.vm → gPc L H.size As v (As).toArray U := by
    intro U hU hW
    refine ⟨rfl, by rw [hU], by rw [hU]; exact hP, ?_⟩
    rw [hU]
    exact gEnv_move hW (by intro a h1 h2; exact hS.2.1 a h1 h2) (by rw [← hsz]; exact hS.1) hEnv
  refine vx_callv (vx_runS (As := As) (rest := st) ⟨C.1, C.2.1, C.2.2.1, C.2.2.2.1, C.2.2.2.2.1⟩ (hM H.size) ⟨⟨hrc, hrs, hR.1, hR.2, hpay, List.mem_cons_self, t5, t4, ⟨hd.1, hd.2.1⟩, hlen, t1⟩, t2⟩ ⟨gPc_blind _ _ _ _, hpre⟩ rfl rfl hl.1 rfl (lv_room hW) hdg hR2) hS (fun q _ h => hsub q h) hsub (fun q _ h => hsub q h) ?_ (fun u t H1 locs1 ht hvm hw hB hz1 hk1 hS1 => kk u hw H1 locs1 ls (by rw [← ht]; exact hB) hS1 hl)
  intro E ce9 q9 u t H1 locs1 ht hvm _ hB hz1 hk1 hS1 hc9 hv9 hcl9
  refine vx_out (fun x hx => (hno x hx).elim) C.2.2.2.2.2.1 hc9 hv9 hcl9 (fun t2 ht2 _ => ⟨u, trivial, ⟨hB.1, by show va_P _ _ _ t2.heap; rw [ht2, ← ht]; exact hB.2⟩, hS1.F ht2⟩) hS1.2.2 hm.1 hm.2
theorem g_callVNi (C : gC p l s m args meth c cc nL own L sz) {Qc : Array Value → State → Outcome → State → Prop} (hno : ∀ x ∈ c.exceptionTable.toList, False) {y : MethodName} {bytes : ByteArray} {maxL : Nat} {ret : Option FieldType} {rm : Room} {mc1 ms1 index : Nat} {host : String} {k i ci : Nat} {fs : List Value} {T : u_T} {N : Nat} (hk : gok k i) (hf : gcont L (v k i) k i = .inr (ci, fs)) (hc : vwCl[ci]? = some (y.cls, T, N)) (As : List Value) {Qn : Int32 → gMem → Prop}
    (hM : ∀ sz', vx_Met l y [.code y bytes maxL ret] rm (gPc L sz' (.ref (L.2.1 k i) :: As) v) (gQi L sz' Qn) (gXC L sz' X) mc1 ms1 (gA L sz'))
    (hq1 : Cond.methodLinkNest own index y host ∈ gTbl) (hq2 : Cond.instanceMethod y ∈ gTbl) (hq3 : Cond.selects y.cls y y ∈ gTbl) (hq4 : Cond.initialized y.cls ∈ gTbl) (hq5 : Cond.code y bytes maxL ret ∈ gTbl) (hrc : rm.cells = mc1) (hrs : rm.slots = ms1) (hd : y.cls ≠ "java/lang/invoke/MethodHandle" ∧ y.cls ≠ "java/lang/invoke/VarHandle" ∧ (parseMethodDescriptor y.desc).map (fun d => d.parameters.length) = some As.length) (hR : rm.frames + 1 ≤ R.frames ∧ 8 + (maxL + 11) + rm.locals ≤ R.locals) (hR2 : ce + mc1 ≤ R.cells ∧ sl + ms1 ≤ R.slots) (hm : ce + mc1 ≤ mc ∧ sl + ms1 ≤ ms) (hW : (st.map fun v => v.category).sum ≤ 8) (hdg : decode cc pc = .ok (.invokevirtual index, 3))
    (kk : ∀ (r : Int32) (v' : gMem), Qn r v' → gS p l e R s m args below meth c nL L sz (vx_MQ below Qc (gXC L sz X) args s mc ms (gA L sz)) (ce + mc1) (sl + ms1) (pc + 3) lv (.int r :: st) v') : gS p l e R s m args below meth c nL L sz (vx_MQ below Qc (gXC L sz X) args s mc ms (gA L sz)) ce sl pc lv (As.reverse ++ .ref (L.2.1 k i) :: st) v := fun H locs ls hP hS hl => by
  have hEnv := C.2.2.2.2.2.2.2.2.2
  have hsz : s.heap.size = sz := C.2.2.2.2.2.2.2.2.1
  have t1 := C.2.2.2.2.1 _ hq1
  have t2 := C.2.2.2.2.1 _ hq2
  have t3 := C.2.2.2.2.1 _ hq3
  have t4 := C.2.2.2.2.1 _ hq4
  have t5 := C.2.2.2.2.1 _ hq5
  have hpay : ∀ w ∈ [Cond.code y bytes maxL ret], ∀ (a' : Array Value) (U : State), s.WarmedH U.vm → w.before a' U = true := by
    intro w hw a' U hW
    rw [List.mem_singleton.mp hw]
    exact gtw_move (gTbl_gtw hq5) hW t5
  have hlen : ∀ sig, parseMethodDescriptor y.desc = some sig → As.length = sig.parameters.length := by
    intro sig h
    have h2 := hd.2.2
    rw [h] at h2
    exact (Option.some.inj h2).symm
  have hsub : ∀ q, gA L H.size q → gA L sz q := fun q h => h.elim Or.inl (fun h => Or.inr (Nat.le_trans (by rw [← hsz]; exact hS.1) h))
  have hpre : ∀ U : State, U.heap = H → s.WarmedH U.vm → gPc L H.size (.ref (L.2.1 k i) :: As) v ((.ref (L.2.1 k i) :: As)).toArray U := by
    intro U hU hW
    refine ⟨rfl, by rw [hU], by rw [hU]; exact hP, ?_⟩
    rw [hU]
    exact gEnv_move hW (by intro a h1 h2; exact hS.2.1 a h1 h2) (by rw [← hsz]; exact hS.1) hEnv
  have hrecv : ∃ cellB : Cell, H[L.2.1 k i]? = some cellB ∧ cellB.vm.isStatics = false ∧ s.vm.findClass y.cls = some cellB.cls := by
    obtain ⟨q, hq0, hq1⟩ := gW_at L v hk
    rw [hf] at hq1
    exact va_recv hEnv.1 hP hc hq1
  refine vx_calli (vx_runVN (As := As) (rest := st) ⟨C.1, C.2.1, C.2.2.1, C.2.2.2.1, C.2.2.2.2.1⟩ (hM H.size) ⟨⟨⟨hrc, hrs, hR.1, hR.2, hpay, List.mem_cons_self⟩, t5, t4, ⟨hd.1, hd.2.1⟩, hlen, t1⟩, t2, t3⟩ ⟨gPc_blind _ _ _ _, hrecv, hpre⟩ rfl rfl hl.1 rfl (lv_room hW) hdg hR2) hS (fun q _ h => hsub q h) hsub (fun q _ h => hsub q h) ?_ (fun r u t H1 locs1 ht hvm hw hB hz1 hk1 hS1 => kk r u hw H1 locs1 ls (by rw [← ht]; exact hB) hS1 hl)
  intro E ce9 q9 u t H1 locs1 ht hvm _ hB hz1 hk1 hS1 hc9 hv9 hcl9
  refine vx_out (fun x hx => (hno x hx).elim) C.2.2.2.2.2.1 hc9 hv9 hcl9 (fun t2 ht2 _ => ⟨u, trivial, ⟨hB.1, by show va_P _ _ _ t2.heap; rw [ht2, ← ht]; exact hB.2⟩, hS1.F ht2⟩) hS1.2.2 hm.1 hm.2
theorem g_callVNv (C : gC p l s m args meth c cc nL own L sz) {Qc : Array Value → State → Outcome → State → Prop} (hno : ∀ x ∈ c.exceptionTable.toList, False) {y : MethodName} {bytes : ByteArray} {maxL : Nat} {ret : Option FieldType} {rm : Room} {mc1 ms1 index : Nat} {host : String} {k i ci : Nat} {fs : List Value} {T : u_T} {N : Nat} (hk : gok k i) (hf : gcont L (v k i) k i = .inr (ci, fs)) (hc : vwCl[ci]? = some (y.cls, T, N)) (As : List Value) {Qn : gMem → Prop}
    (hM : ∀ sz', vx_Met l y [.code y bytes maxL ret] rm (gPc L sz' (.ref (L.2.1 k i) :: As) v) (gQv L sz' Qn) (gXC L sz' X) mc1 ms1 (gA L sz'))
    (hq1 : Cond.methodLinkNest own index y host ∈ gTbl) (hq2 : Cond.instanceMethod y ∈ gTbl) (hq3 : Cond.selects y.cls y y ∈ gTbl) (hq4 : Cond.initialized y.cls ∈ gTbl) (hq5 : Cond.code y bytes maxL ret ∈ gTbl) (hrc : rm.cells = mc1) (hrs : rm.slots = ms1) (hd : y.cls ≠ "java/lang/invoke/MethodHandle" ∧ y.cls ≠ "java/lang/invoke/VarHandle" ∧ (parseMethodDescriptor y.desc).map (fun d => d.parameters.length) = some As.length) (hR : rm.frames + 1 ≤ R.frames ∧ 8 + (maxL + 11) + rm.locals ≤ R.locals) (hR2 : ce + mc1 ≤ R.cells ∧ sl + ms1 ≤ R.slots) (hm : ce + mc1 ≤ mc ∧ sl + ms1 ≤ ms) (hW : (st.map fun v => v.category).sum ≤ 8) (hdg : decode cc pc = .ok (.invokevirtual index, 3))
    (kk : ∀ v' : gMem, Qn v' → gS p l e R s m args below meth c nL L sz (vx_MQ below Qc (gXC L sz X) args s mc ms (gA L sz)) (ce + mc1) (sl + ms1) (pc + 3) lv st v') : gS p l e R s m args below meth c nL L sz (vx_MQ below Qc (gXC L sz X) args s mc ms (gA L sz)) ce sl pc lv (As.reverse ++ .ref (L.2.1 k i) :: st) v := fun H locs ls hP hS hl => by
  have hEnv := C.2.2.2.2.2.2.2.2.2
  have hsz : s.heap.size = sz := C.2.2.2.2.2.2.2.2.1
  have t1 := C.2.2.2.2.1 _ hq1
  have t2 := C.2.2.2.2.1 _ hq2
  have t3 := C.2.2.2.2.1 _ hq3
  have t4 := C.2.2.2.2.1 _ hq4
  have t5 := C.2.2.2.2.1 _ hq5
  have hpay : ∀ w ∈ [Cond.code y bytes maxL ret], ∀ (a' : Array Value) (U : State), s.WarmedH U.vm → w.before a' U = true := by
    intro w hw a' U hW
    rw [List.mem_singleton.mp hw]
    exact gtw_move (gTbl_gtw hq5) hW t5
  have hlen : ∀ sig, parseMethodDescriptor y.desc = some sig → As.length = sig.parameters.length := by
    intro sig h
    have h2 := hd.2.2
    rw [h] at h2
    exact (Option.some.inj h2).symm
  have hsub : ∀ q, gA L H.size q → gA L sz q := fun q h => h.elim Or.inl (fun h => Or.inr (Nat.le_trans (by rw [← hsz]; exact hS.1) h))
  have hpre : ∀ U : State, U.heap = H → s.WarmedH U.vm → gPc L H.size (.ref (L.2.1 k i) :: As) v ((.ref (L.2.1 k i) :: As)).toArray U := by
    intro U hU hW
    refine ⟨rfl, by rw [hU], by rw [hU]; exact hP, ?_⟩
    rw [hU]
    exact gEnv_move hW (by intro a h1 h2; exact hS.2.1 a h1 h2) (by rw [← hsz]; exact hS.1) hEnv
  have hrecv : ∃ cellB : Cell, H[L.2.1 k i]? = some cellB ∧ cellB.vm.isStatics = false ∧ s.vm.findClass y.cls = some cellB.cls := by
    obtain ⟨q, hq0, hq1⟩ := gW_at L v hk
    rw [hf] at hq1
    exact va_recv hEnv.1 hP hc hq1
  refine vx_callv (vx_runVN (As := As) (rest := st) ⟨C.1, C.2.1, C.2.2.1, C.2.2.2.1, C.2.2.2.2.1⟩ (hM H.size) ⟨⟨⟨hrc, hrs, hR.1, hR.2, hpay, List.mem_cons_self⟩, t5, t4, ⟨hd.1, hd.2.1⟩, hlen, t1⟩, t2, t3⟩ ⟨gPc_blind _ _ _ _, hrecv, hpre⟩ rfl rfl hl.1 rfl (lv_room hW) hdg hR2) hS (fun q _ h => hsub q h) hsub (fun q _ h => hsub q h) ?_ (fun u t H1 locs1 ht hvm hw hB hz1 hk1 hS1 => kk u hw H1 locs1 ls (by rw [← ht]; exact hB) hS1 hl)
  intro E ce9 q9 u t H1 locs1 ht hvm _ hB hz1 hk1 hS1 hc9 hv9 hcl9
  refine vx_out (fun x hx => (hno x hx).elim) C.2.2.2.2.2.1 hc9 hv9 hcl9 (fun t2 ht2 _ => ⟨u, trivial, ⟨hB.1, by show va_P _ _ _ t2.heap; rw [ht2, ← ht]; exact hB.2⟩, hS1.F ht2⟩) hS1.2.2 hm.1 hm.2
theorem g_callSNi (C : gC p l s m args meth c cc nL own L sz) {Qc : Array Value → State → Outcome → State → Prop} (hno : ∀ x ∈ c.exceptionTable.toList, False) {y : MethodName} {bytes : ByteArray} {maxL : Nat} {ret : Option FieldType} {rm : Room} {mc1 ms1 index : Nat} {host : String} (As : List Value) {Qn : Int32 → gMem → Prop}
    (hM : ∀ sz', vx_Met l y [.code y bytes maxL ret] rm (gPc L sz' As v) (gQi L sz' Qn) (gXC L sz' X) mc1 ms1 (gA L sz'))
    (hq1 : Cond.methodLinkNest own index y host ∈ gTbl) (hq2 : Cond.static y ∈ gTbl) (hq4 : Cond.initialized y.cls ∈ gTbl) (hq5 : Cond.code y bytes maxL ret ∈ gTbl) (hrc : rm.cells = mc1) (hrs : rm.slots = ms1) (hd : y.cls ≠ "java/lang/invoke/MethodHandle" ∧ y.cls ≠ "java/lang/invoke/VarHandle" ∧ (parseMethodDescriptor y.desc).map (fun d => d.parameters.length) = some As.length) (hR : rm.frames + 1 ≤ R.frames ∧ 8 + (maxL + 11) + rm.locals ≤ R.locals) (hR2 : ce + mc1 ≤ R.cells ∧ sl + ms1 ≤ R.slots) (hm : ce + mc1 ≤ mc ∧ sl + ms1 ≤ ms) (hW : (st.map fun v => v.category).sum ≤ 8) (hdg : decode cc pc = .ok (.invokestatic index, 3))
    (kk : ∀ (r : Int32) (v' : gMem), Qn r v' → gS p l e R s m args below meth c nL L sz (vx_MQ below Qc (gXC L sz X) args s mc ms (gA L sz)) (ce + mc1) (sl + ms1) (pc + 3) lv (.int r :: st) v') : gS p l e R s m args below meth c nL L sz (vx_MQ below Qc (gXC L sz X) args s mc ms (gA L sz)) ce sl pc lv (As.reverse ++ st) v := fun H locs ls hP hS hl => by
  have hEnv := C.2.2.2.2.2.2.2.2.2
  have hsz : s.heap.size = sz := C.2.2.2.2.2.2.2.2.1
  have t1 := C.2.2.2.2.1 _ hq1
  have t2 := C.2.2.2.2.1 _ hq2
  have t4 := C.2.2.2.2.1 _ hq4
  have t5 := C.2.2.2.2.1 _ hq5
  have hpay : ∀ w ∈ [Cond.code y bytes maxL ret], ∀ (a' : Array Value) (U : State), s.WarmedH U.vm → w.before a' U = true := by
    intro w hw a' U hW
    rw [List.mem_singleton.mp hw]
    exact gtw_move (gTbl_gtw hq5) hW t5
  have hlen : ∀ sig, parseMethodDescriptor y.desc = some sig → As.length = sig.parameters.length := by
    intro sig h
    have h2 := hd.2.2
    rw [h] at h2
    exact (Option.some.inj h2).symm
  have hsub : ∀ q, gA L H.size q → gA L sz q := fun q h => h.elim Or.inl (fun h => Or.inr (Nat.le_trans (by rw [← hsz]; exact hS.1) h))
  have hpre : ∀ U : State, U.heap = H → s.WarmedH U.vm → gPc L H.size As v (As).toArray U := by
    intro U hU hW
    refine ⟨rfl, by rw [hU], by rw [hU]; exact hP, ?_⟩
    rw [hU]
    exact gEnv_move hW (by intro a h1 h2; exact hS.2.1 a h1 h2) (by rw [← hsz]; exact hS.1) hEnv
  refine vx_calli (vx_runSN (As := As) (rest := st) ⟨C.1, C.2.1, C.2.2.1, C.2.2.2.1, C.2.2.2.2.1⟩ (hM H.size) ⟨⟨⟨hrc, hrs, hR.1, hR.2, hpay, List.mem_cons_self⟩, t5, t4, ⟨hd.1, hd.2.1⟩, hlen, t1⟩, t2, trivial⟩ ⟨gPc_blind _ _ _ _, hpre⟩ rfl rfl hl.1 rfl (lv_room hW) hdg hR2) hS (fun q _ h => hsub q h) hsub (fun q _ h => hsub q h) ?_ (fun r u t H1 locs1 ht hvm hw hB hz1 hk1 hS1 => kk r u hw H1 locs1 ls (by rw [← ht]; exact hB) hS1 hl)
  intro E ce9 q9 u t H1 locs1 ht hvm _ hB hz1 hk1 hS1 hc9 hv9 hcl9
  refine vx_out (fun x hx => (hno x hx).elim) C.2.2.2.2.2.1 hc9 hv9 hcl9 (fun t2 ht2 _ => ⟨u, trivial, ⟨hB.1, by show va_P _ _ _ t2.heap; rw [ht2, ← ht]; exact hB.2⟩, hS1.F ht2⟩) hS1.2.2 hm.1 hm.2
theorem g_callSNv (C : gC p l s m args meth c cc nL own L sz) {Qc : Array Value → State → Outcome → State → Prop} (hno : ∀ x ∈ c.exceptionTable.toList, False) {y : MethodName} {bytes : ByteArray} {maxL : Nat} {ret : Option FieldType} {rm : Room} {mc1 ms1 index : Nat} {host : String} (As : List Value) {Qn : gMem → Prop}
    (hM : ∀ sz', vx_Met l y [.code y bytes maxL ret] rm (gPc L sz' As v) (gQv L sz' Qn) (gXC L sz' X) mc1 ms1 (gA L sz'))
    (hq1 : Cond.methodLinkNest own index y host ∈ gTbl) (hq2 : Cond.static y ∈ gTbl) (hq4 : Cond.initialized y.cls ∈ gTbl) (hq5 : Cond.code y bytes maxL ret ∈ gTbl) (hrc : rm.cells = mc1) (hrs : rm.slots = ms1) (hd : y.cls ≠ "java/lang/invoke/MethodHandle" ∧ y.cls ≠ "java/lang/invoke/VarHandle" ∧ (parseMethodDescriptor y.desc).map (fun d => d.parameters.length) = some As.length) (hR : rm.frames + 1 ≤ R.frames ∧ 8 + (maxL + 11) + rm.locals ≤ R.locals) (hR2 : ce + mc1 ≤ R.cells ∧ sl + ms1 ≤ R.slots) (hm : ce + mc1 ≤ mc ∧ sl + ms1 ≤ ms) (hW : (st.map fun v => v.category).sum ≤ 8) (hdg : decode cc pc = .ok (.invokestatic index, 3))
    (kk : ∀ v' : gMem, Qn v' → gS p l e R s m args below meth c nL L sz (vx_MQ below Qc (gXC L sz X) args s mc ms (gA L sz)) (ce + mc1) (sl + ms1) (pc + 3) lv st v') : gS p l e R s m args below meth c nL L sz (vx_MQ below Qc (gXC L sz X) args s mc ms (gA L sz)) ce sl pc lv (As.reverse ++ st) v := fun H locs ls hP hS hl => by
  have hEnv := C.2.2.2.2.2.2.2.2.2
  have hsz : s.heap.size = sz := C.2.2.2.2.2.2.2.2.1
  have t1 := C.2.2.2.2.1 _ hq1
  have t2 := C.2.2.2.2.1 _ hq2
  have t4 := C.2.2.2.2.1 _ hq4
  have t5 := C.2.2.2.2.1 _ hq5
  have hpay : ∀ w ∈ [Cond.code y bytes maxL ret], ∀ (a' : Array Value) (U : State), s.WarmedH U.vm → w.before a' U = true := by
    intro w hw a' U hW
    rw [List.mem_singleton.mp hw]
    exact gtw_move (gTbl_gtw hq5) hW t5
  have hlen : ∀ sig, parseMethodDescriptor y.desc = some sig → As.length = sig.parameters.length := by
    intro sig h
    have h2 := hd.2.2
    rw [h] at h2
    exact (Option.some.inj h2).symm
  have hsub : ∀ q, gA L H.size q → gA L sz q := fun q h => h.elim Or.inl (fun h => Or.inr (Nat.le_trans (by rw [← hsz]; exact hS.1) h))
  have hpre : ∀ U : State, U.heap = H → s.WarmedH U.vm → gPc L H.size As v (As).toArray U := by
    intro U hU hW
    refine ⟨rfl, by rw [hU], by rw [hU]; exact hP, ?_⟩
    rw [hU]
    exact gEnv_move hW (by intro a h1 h2; exact hS.2.1 a h1 h2) (by rw [← hsz]; exact hS.1) hEnv
  refine vx_callv (vx_runSN (As := As) (rest := st) ⟨C.1, C.2.1, C.2.2.1, C.2.2.2.1, C.2.2.2.2.1⟩ (hM H.size) ⟨⟨⟨hrc, hrs, hR.1, hR.2, hpay, List.mem_cons_self⟩, t5, t4, ⟨hd.1, hd.2.1⟩, hlen, t1⟩, t2, trivial⟩ ⟨gPc_blind _ _ _ _, hpre⟩ rfl rfl hl.1 rfl (lv_room hW) hdg hR2) hS (fun q _ h => hsub q h) hsub (fun q _ h => hsub q h) ?_ (fun u t H1 locs1 ht hvm hw hB hz1 hk1 hS1 => kk u hw H1 locs1 ls (by rw [← ht]; exact hB) hS1 hl)
  intro E ce9 q9 u t H1 locs1 ht hvm _ hB hz1 hk1 hS1 hc9 hv9 hcl9
  refine vx_out (fun x hx => (hno x hx).elim) C.2.2.2.2.2.1 hc9 hv9 hcl9 (fun t2 ht2 _ => ⟨u, trivial, ⟨hB.1, by show va_P _ _ _ t2.heap; rw [ht2, ← ht]; exact hB.2⟩, hS1.F ht2⟩) hS1.2.2 hm.1 hm.2
end GE
end
