theorem inX0 : ∀ w ∈ wsX00, w ∈ gTbl := by decide +kernel
theorem inX1 : ∀ w ∈ wsX10, w ∈ gTbl := by decide +kernel
theorem inX2 : ∀ w ∈ wsX20, w ∈ gTbl := by decide +kernel
theorem inX3 : ∀ w ∈ wsX30, w ∈ gTbl := by decide +kernel
theorem inX4 : ∀ w ∈ wsX40, w ∈ gTbl := by decide +kernel
theorem inX5 : ∀ w ∈ wsX50, w ∈ gTbl := by decide +kernel
theorem inX6 : ∀ w ∈ wsX60, w ∈ gTbl := by decide +kernel
theorem inX7 : ∀ w ∈ wsX70, w ∈ gTbl := by decide +kernel
theorem wfl_RX0_9 : Cond.fieldLink RX0 9 "Cardmeld$Best" "one" "I" ∈ gTbl := gTbl_of (List.mem_of_getElem? (i := 102) (by decide +kernel)) rfl
theorem wml_RX0_18 : Cond.methodLink RX0 18 yX0_isMissing ∈ gTbl := gTbl_of (List.mem_of_getElem? (i := 618) (by decide +kernel)) rfl
theorem winst_X0_isMissing : Cond.instanceMethod yX0_isMissing ∈ gTbl := gTbl_of (List.mem_of_getElem? (i := 619) (by decide +kernel)) rfl
theorem wsel_X0_isMissing : Cond.selects RX0 yX0_isMissing yX0_isMissing ∈ gTbl := gTbl_of (List.mem_of_getElem? (i := 620) (by decide +kernel)) rfl
theorem wini_RX0 : Cond.initialized RX0 ∈ gTbl := gTbl_of (List.mem_of_getElem? (i := 5) (by decide +kernel)) rfl
theorem wcode_X0_isMissing : Cond.code yX0_isMissing cX0_isMissing 1 (some .boolean) ∈ gTbl := gTbl_of (List.mem_of_getElem? (i := 621) (by decide +kernel)) rfl
theorem wfl_RX0_22 : Cond.fieldLink RX0 22 "Cardmeld$Best" "points" "I" ∈ gTbl := gTbl_of (List.mem_of_getElem? (i := 106) (by decide +kernel)) rfl
theorem wfl_RX0_15 : Cond.fieldLink RX0 15 "Cardmeld$Best" "other" "I" ∈ gTbl := gTbl_of (List.mem_of_getElem? (i := 104) (by decide +kernel)) rfl
theorem wfl_RX1_18 : Cond.fieldLink RX1 18 "Cardmeld$Buckets" "count" "I" ∈ gTbl := gTbl_of (List.mem_of_getElem? (i := 123) (by decide +kernel)) rfl
theorem wfl_RX1_9 : Cond.fieldLink RX1 9 "Cardmeld$Buckets" "keys" "[I" ∈ gTbl := gTbl_of (List.mem_of_getElem? (i := 121) (by decide +kernel)) rfl
theorem wml_RX1_22 : Cond.methodLink RX1 22 yX1_placeOf ∈ gTbl := gTbl_of (List.mem_of_getElem? (i := 602) (by decide +kernel)) rfl
theorem winst_X1_placeOf : Cond.instanceMethod yX1_placeOf ∈ gTbl := gTbl_of (List.mem_of_getElem? (i := 604) (by decide +kernel)) rfl
theorem wsel_X1_placeOf : Cond.selects RX1 yX1_placeOf yX1_placeOf ∈ gTbl := gTbl_sel (List.mem_of_getElem? (i := 22) (by decide +kernel)) rfl
theorem wini_RX1 : Cond.initialized RX1 ∈ gTbl := gTbl_of (List.mem_of_getElem? (i := 6) (by decide +kernel)) rfl
theorem wcode_X1_placeOf : Cond.code yX1_placeOf cX1_placeOf 3 (some .int) ∈ gTbl := gTbl_of (List.mem_of_getElem? (i := 605) (by decide +kernel)) rfl
theorem wfl_RX1_15 : Cond.fieldLink RX1 15 "Cardmeld$Buckets" "holders" "[I" ∈ gTbl := gTbl_of (List.mem_of_getElem? (i := 122) (by decide +kernel)) rfl
theorem wfl_RX2_18 : Cond.fieldLink RX2 18 "Cardmeld$Card" "numbers" "[I" ∈ gTbl := gTbl_of (List.mem_of_getElem? (i := 141) (by decide +kernel)) rfl
theorem wfl_RX2_12 : Cond.fieldLink RX2 12 "Cardmeld$Card" "name" "LCardmeld$Name;" ∈ gTbl := gTbl_of (List.mem_of_getElem? (i := 139) (by decide +kernel)) rfl
theorem wfl_RX2_22 : Cond.fieldLinkNest RX2 22 "Cardmeld$Name" "length" "I" "Cardmeld" ∈ gTbl := gTbl_of (List.mem_of_getElem? (i := 80) (by decide +kernel)) rfl
theorem wfl_RX4_18 : Cond.fieldLink RX4 18 "Cardmeld$Name" "length" "I" ∈ gTbl := gTbl_of (List.mem_of_getElem? (i := 79) (by decide +kernel)) rfl
theorem wfl_RX4_9 : Cond.fieldLink RX4 9 "Cardmeld$Name" "letters" "[C" ∈ gTbl := gTbl_of (List.mem_of_getElem? (i := 77) (by decide +kernel)) rfl
theorem wml_RX2_26 : Cond.methodLink RX2 26 yX4_beginsWith ∈ gTbl := gTbl_of (List.mem_of_getElem? (i := 220) (by decide +kernel)) rfl
theorem winst_X4_beginsWith : Cond.instanceMethod yX4_beginsWith ∈ gTbl := gTbl_of (List.mem_of_getElem? (i := 221) (by decide +kernel)) rfl
theorem wsel_X4_beginsWith : Cond.selects RX4 yX4_beginsWith yX4_beginsWith ∈ gTbl := gTbl_of (List.mem_of_getElem? (i := 222) (by decide +kernel)) rfl
theorem wini_RX4 : Cond.initialized RX4 ∈ gTbl := gTbl_of (List.mem_of_getElem? (i := 4) (by decide +kernel)) rfl
theorem wcode_X4_beginsWith : Cond.code yX4_beginsWith cX4_beginsWith 3 (some .boolean) ∈ gTbl := gTbl_of (List.mem_of_getElem? (i := 223) (by decide +kernel)) rfl
theorem wfl_RX4_30 : Cond.fieldLink RX4 30 "Cardmeld$Name" "soundLength" "I" ∈ gTbl := gTbl_of (List.mem_of_getElem? (i := 84) (by decide +kernel)) rfl
theorem wfl_RX4_15 : Cond.fieldLink RX4 15 "Cardmeld$Name" "sound" "[C" ∈ gTbl := gTbl_of (List.mem_of_getElem? (i := 82) (by decide +kernel)) rfl
theorem wml_RX2_30 : Cond.methodLink RX2 30 yX4_soundKey ∈ gTbl := gTbl_of (List.mem_of_getElem? (i := 597) (by decide +kernel)) rfl
theorem winst_X4_soundKey : Cond.instanceMethod yX4_soundKey ∈ gTbl := gTbl_of (List.mem_of_getElem? (i := 229) (by decide +kernel)) rfl
theorem wsel_X4_soundKey : Cond.selects RX4 yX4_soundKey yX4_soundKey ∈ gTbl := gTbl_of (List.mem_of_getElem? (i := 230) (by decide +kernel)) rfl
theorem wcode_X4_soundKey : Cond.code yX4_soundKey cX4_soundKey 3 (some .int) ∈ gTbl := gTbl_of (List.mem_of_getElem? (i := 231) (by decide +kernel)) rfl
theorem wfl_RX3_32 : Cond.fieldLink RX3 32 "Cardmeld$Merges" "count" "I" ∈ gTbl := gTbl_of (List.mem_of_getElem? (i := 52) (by decide +kernel)) rfl
theorem wfl_RX5_9 : Cond.fieldLink RX5 9 "Cardmeld$Relation" "partners" "[I" ∈ gTbl := gTbl_of (List.mem_of_getElem? (i := 35) (by decide +kernel)) rfl
theorem wml_RX3_36 : Cond.methodLink RX3 36 yX3_isFull ∈ gTbl := gTbl_of (List.mem_of_getElem? (i := 752) (by decide +kernel)) rfl
theorem winst_X3_isFull : Cond.instanceMethod yX3_isFull ∈ gTbl := gTbl_of (List.mem_of_getElem? (i := 744) (by decide +kernel)) rfl
theorem wsel_X3_isFull : Cond.selects RX3 yX3_isFull yX3_isFull ∈ gTbl := gTbl_of (List.mem_of_getElem? (i := 745) (by decide +kernel)) rfl
theorem wini_RX3 : Cond.initialized RX3 ∈ gTbl := gTbl_of (List.mem_of_getElem? (i := 3) (by decide +kernel)) rfl
theorem wcode_X3_isFull : Cond.code yX3_isFull cX3_isFull 1 (some .boolean) ∈ gTbl := gTbl_of (List.mem_of_getElem? (i := 746) (by decide +kernel)) rfl
theorem wfl_RX3_9 : Cond.fieldLink RX3 9 "Cardmeld$Merges" "ones" "[I" ∈ gTbl := gTbl_of (List.mem_of_getElem? (i := 48) (by decide +kernel)) rfl
theorem wfl_RX3_15 : Cond.fieldLink RX3 15 "Cardmeld$Merges" "others" "[I" ∈ gTbl := gTbl_of (List.mem_of_getElem? (i := 49) (by decide +kernel)) rfl
theorem wfl_RX3_18 : Cond.fieldLink RX3 18 "Cardmeld$Merges" "standing" "[Z" ∈ gTbl := gTbl_of (List.mem_of_getElem? (i := 50) (by decide +kernel)) rfl
theorem wfl_RX3_25 : Cond.fieldLink RX3 25 "Cardmeld$Merges" "links" "LCardmeld$Relation;" ∈ gTbl := gTbl_of (List.mem_of_getElem? (i := 54) (by decide +kernel)) rfl
theorem wml_RX3_40 : Cond.methodLink RX3 40 yX5_tie ∈ gTbl := gTbl_of (List.mem_of_getElem? (i := 753) (by decide +kernel)) rfl
theorem winst_X5_tie : Cond.instanceMethod yX5_tie ∈ gTbl := gTbl_of (List.mem_of_getElem? (i := 687) (by decide +kernel)) rfl
theorem wsel_X5_tie : Cond.selects RX5 yX5_tie yX5_tie ∈ gTbl := gTbl_of (List.mem_of_getElem? (i := 688) (by decide +kernel)) rfl
theorem wini_RX5 : Cond.initialized RX5 ∈ gTbl := gTbl_of (List.mem_of_getElem? (i := 2) (by decide +kernel)) rfl
theorem wcode_X5_tie : Cond.code yX5_tie cX5_tie 3 none ∈ gTbl := gTbl_of (List.mem_of_getElem? (i := 689) (by decide +kernel)) rfl
theorem wml_RX3_44 : Cond.methodLink RX3 44 yX5_cut ∈ gTbl := gTbl_of (List.mem_of_getElem? (i := 779) (by decide +kernel)) rfl
theorem winst_X5_cut : Cond.instanceMethod yX5_cut ∈ gTbl := gTbl_of (List.mem_of_getElem? (i := 699) (by decide +kernel)) rfl
theorem wsel_X5_cut : Cond.selects RX5 yX5_cut yX5_cut ∈ gTbl := gTbl_of (List.mem_of_getElem? (i := 700) (by decide +kernel)) rfl
theorem wcode_X5_cut : Cond.code yX5_cut cX5_cut 3 none ∈ gTbl := gTbl_of (List.mem_of_getElem? (i := 701) (by decide +kernel)) rfl
theorem wml_RX5_15 : Cond.methodLinkNest RX5 15 yX6_contains "Cardmeld" ∈ gTbl := gTbl_of (List.mem_of_getElem? (i := 255) (by decide +kernel)) rfl
theorem wstat_X6_contains : Cond.static yX6_contains ∈ gTbl := gTbl_of (List.mem_of_getElem? (i := 256) (by decide +kernel)) rfl
theorem wini_RX6 : Cond.initialized RX6 ∈ gTbl := gTbl_of (List.mem_of_getElem? (i := 1) (by decide +kernel)) rfl
theorem wcode_X6_contains : Cond.code yX6_contains cX6_contains 2 (some .boolean) ∈ gTbl := gTbl_of (List.mem_of_getElem? (i := 257) (by decide +kernel)) rfl
theorem wml_RX3_47 : Cond.methodLink RX3 47 yX5_partnersOfAll ∈ gTbl := gTbl_of (List.mem_of_getElem? (i := 251) (by decide +kernel)) rfl
theorem winst_X5_partnersOfAll : Cond.instanceMethod yX5_partnersOfAll ∈ gTbl := gTbl_of (List.mem_of_getElem? (i := 252) (by decide +kernel)) rfl
theorem wsel_X5_partnersOfAll : Cond.selects RX5 yX5_partnersOfAll yX5_partnersOfAll ∈ gTbl := gTbl_of (List.mem_of_getElem? (i := 253) (by decide +kernel)) rfl
theorem wcode_X5_partnersOfAll : Cond.code yX5_partnersOfAll cX5_partnersOfAll 4 (some .int) ∈ gTbl := gTbl_of (List.mem_of_getElem? (i := 254) (by decide +kernel)) rfl
theorem wml_RX3_51 : Cond.methodLinkNest RX3 51 yX6_contains "Cardmeld" ∈ gTbl := gTbl_of (List.mem_of_getElem? (i := 798) (by decide +kernel)) rfl
theorem wfl_RX3_29 : Cond.fieldLink RX3 29 "Cardmeld$Merges" "labels" "[I" ∈ gTbl := gTbl_of (List.mem_of_getElem? (i := 55) (by decide +kernel)) rfl
theorem wml_RX3_55 : Cond.methodLink RX3 55 yJ9_min_7cf53 ∈ gTbl := gTbl_of (List.mem_of_getElem? (i := 818) (by decide +kernel)) rfl
theorem wstat_J9_min_7cf53 : Cond.static yJ9_min_7cf53 ∈ gTbl := gTbl_of (List.mem_of_getElem? (i := 819) (by decide +kernel)) rfl
theorem wini_RJ9 : Cond.initialized RJ9 ∈ gTbl := gTbl_of (List.mem_of_getElem? (i := 16) (by decide +kernel)) rfl
theorem wcode_J9_min_7cf53 : Cond.code yJ9_min_7cf53 cJ9_min_7cf53 2 (some .int) ∈ gTbl := gTbl_of (List.mem_of_getElem? (i := 820) (by decide +kernel)) rfl
theorem wml_RX4_22 : Cond.methodLink RX4 22 yX4_digitOf ∈ gTbl := gTbl_of (List.mem_of_getElem? (i := 456) (by decide +kernel)) rfl
theorem wstat_X4_digitOf : Cond.static yX4_digitOf ∈ gTbl := gTbl_of (List.mem_of_getElem? (i := 457) (by decide +kernel)) rfl
theorem wcode_X4_digitOf : Cond.code yX4_digitOf cX4_digitOf 1 (some .char) ∈ gTbl := gTbl_of (List.mem_of_getElem? (i := 458) (by decide +kernel)) rfl
theorem wml_RX4_26 : Cond.methodLink RX4 26 yX4_extendSound ∈ gTbl := gTbl_of (List.mem_of_getElem? (i := 459) (by decide +kernel)) rfl
theorem winst_X4_extendSound : Cond.instanceMethod yX4_extendSound ∈ gTbl := gTbl_of (List.mem_of_getElem? (i := 461) (by decide +kernel)) rfl
theorem wsel_X4_extendSound : Cond.selects RX4 yX4_extendSound yX4_extendSound ∈ gTbl := gTbl_sel (List.mem_of_getElem? (i := 14) (by decide +kernel)) rfl
theorem wcode_X4_extendSound : Cond.code yX4_extendSound cX4_extendSound 2 none ∈ gTbl := gTbl_of (List.mem_of_getElem? (i := 462) (by decide +kernel)) rfl
theorem wml_RX4_33 : Cond.methodLink RX4 33 yX4_soundKey ∈ gTbl := gTbl_of (List.mem_of_getElem? (i := 228) (by decide +kernel)) rfl
theorem wcl_RX6_117 : Cond.classLink RX6 117 "java/lang/IllegalArgumentException" ∈ gTbl := gTbl_of (List.mem_of_getElem? (i := 308) (by decide +kernel)) rfl
theorem wini_java_lang_IllegalArgumentException : Cond.initialized "java/lang/IllegalArgumentException" ∈ gTbl := gTbl_of (List.mem_of_getElem? (i := 12) (by decide +kernel)) rfl
theorem wml_RX6_71 : Cond.methodLink RX6 71 yX6_requireRank ∈ gTbl := gTbl_of (List.mem_of_getElem? (i := 304) (by decide +kernel)) rfl
theorem winst_X6_requireRank : Cond.instanceMethod yX6_requireRank ∈ gTbl := gTbl_of (List.mem_of_getElem? (i := 306) (by decide +kernel)) rfl
theorem wsel_X6_requireRank : Cond.selects RX6 yX6_requireRank yX6_requireRank ∈ gTbl := gTbl_sel (List.mem_of_getElem? (i := 8) (by decide +kernel)) rfl
theorem wcode_X6_requireRank : Cond.code yX6_requireRank cX6_requireRank 2 none ∈ gTbl := gTbl_of (List.mem_of_getElem? (i := 307) (by decide +kernel)) rfl
theorem wfl_RX6_75 : Cond.fieldLink RX6 75 "Cardmeld" "sourceCount" "I" ∈ gTbl := gTbl_of (List.mem_of_getElem? (i := 151) (by decide +kernel)) rfl
theorem wfl_RX6_9 : Cond.fieldLink RX6 9 "Cardmeld" "ranks" "[I" ∈ gTbl := gTbl_of (List.mem_of_getElem? (i := 150) (by decide +kernel)) rfl
theorem wcl_RX6_78 : Cond.classLink RX6 78 "java/lang/IllegalStateException" ∈ gTbl := gTbl_of (List.mem_of_getElem? (i := 378) (by decide +kernel)) rfl
theorem wini_java_lang_IllegalStateException : Cond.initialized "java/lang/IllegalStateException" ∈ gTbl := gTbl_of (List.mem_of_getElem? (i := 13) (by decide +kernel)) rfl
theorem wcl_RX6_304 : Cond.classLink RX6 304 "java/lang/IndexOutOfBoundsException" ∈ gTbl := gTbl_of (List.mem_of_getElem? (i := 406) (by decide +kernel)) rfl
theorem wini_java_lang_IndexOutOfBoundsException : Cond.initialized "java/lang/IndexOutOfBoundsException" ∈ gTbl := gTbl_of (List.mem_of_getElem? (i := 14) (by decide +kernel)) rfl
theorem wml_RX6_85 : Cond.methodLink RX6 85 yX6_requireSource ∈ gTbl := gTbl_of (List.mem_of_getElem? (i := 402) (by decide +kernel)) rfl
theorem winst_X6_requireSource : Cond.instanceMethod yX6_requireSource ∈ gTbl := gTbl_of (List.mem_of_getElem? (i := 404) (by decide +kernel)) rfl
theorem wsel_X6_requireSource : Cond.selects RX6 yX6_requireSource yX6_requireSource ∈ gTbl := gTbl_sel (List.mem_of_getElem? (i := 10) (by decide +kernel)) rfl
theorem wcode_X6_requireSource : Cond.code yX6_requireSource cX6_requireSource 2 none ∈ gTbl := gTbl_of (List.mem_of_getElem? (i := 405) (by decide +kernel)) rfl
theorem wfl_RX6_88 : Cond.fieldLink RX6 88 "Cardmeld" "cardCount" "I" ∈ gTbl := gTbl_of (List.mem_of_getElem? (i := 153) (by decide +kernel)) rfl
theorem wfl_RX6_15 : Cond.fieldLink RX6 15 "Cardmeld" "book" "[LCardmeld$Card;" ∈ gTbl := gTbl_of (List.mem_of_getElem? (i := 152) (by decide +kernel)) rfl
theorem wfl_RX6_93 : Cond.fieldLinkNest RX6 93 "Cardmeld$Card" "source" "I" "Cardmeld" ∈ gTbl := gTbl_of (List.mem_of_getElem? (i := 138) (by decide +kernel)) rfl
theorem wfl_RX6_125 : Cond.fieldLinkNest RX6 125 "Cardmeld$Name" "length" "I" "Cardmeld" ∈ gTbl := gTbl_of (List.mem_of_getElem? (i := 81) (by decide +kernel)) rfl
theorem wml_RX6_337 : Cond.methodLink RX6 337 yX4_append ∈ gTbl := gTbl_of (List.mem_of_getElem? (i := 452) (by decide +kernel)) rfl
theorem winst_X4_append : Cond.instanceMethod yX4_append ∈ gTbl := gTbl_of (List.mem_of_getElem? (i := 453) (by decide +kernel)) rfl
theorem wsel_X4_append : Cond.selects RX4 yX4_append yX4_append ∈ gTbl := gTbl_of (List.mem_of_getElem? (i := 454) (by decide +kernel)) rfl
theorem wcode_X4_append : Cond.code yX4_append cX4_append 3 none ∈ gTbl := gTbl_of (List.mem_of_getElem? (i := 455) (by decide +kernel)) rfl
theorem wml_RX6_96 : Cond.methodLink RX6 96 yX6_requireCard ∈ gTbl := gTbl_of (List.mem_of_getElem? (i := 437) (by decide +kernel)) rfl
theorem winst_X6_requireCard : Cond.instanceMethod yX6_requireCard ∈ gTbl := gTbl_of (List.mem_of_getElem? (i := 439) (by decide +kernel)) rfl
theorem wsel_X6_requireCard : Cond.selects RX6 yX6_requireCard yX6_requireCard ∈ gTbl := gTbl_sel (List.mem_of_getElem? (i := 11) (by decide +kernel)) rfl
theorem wcode_X6_requireCard : Cond.code yX6_requireCard cX6_requireCard 2 none ∈ gTbl := gTbl_of (List.mem_of_getElem? (i := 440) (by decide +kernel)) rfl
theorem wml_RX6_99 : Cond.methodLink RX6 99 yX6_requireLetter ∈ gTbl := gTbl_of (List.mem_of_getElem? (i := 442) (by decide +kernel)) rfl
theorem winst_X6_requireLetter : Cond.instanceMethod yX6_requireLetter ∈ gTbl := gTbl_of (List.mem_of_getElem? (i := 444) (by decide +kernel)) rfl
theorem wsel_X6_requireLetter : Cond.selects RX6 yX6_requireLetter yX6_requireLetter ∈ gTbl := gTbl_sel (List.mem_of_getElem? (i := 12) (by decide +kernel)) rfl
theorem wcode_X6_requireLetter : Cond.code yX6_requireLetter cX6_requireLetter 2 none ∈ gTbl := gTbl_of (List.mem_of_getElem? (i := 445) (by decide +kernel)) rfl
theorem wfl_RX6_103 : Cond.fieldLinkNest RX6 103 "Cardmeld$Card" "name" "LCardmeld$Name;" "Cardmeld" ∈ gTbl := gTbl_of (List.mem_of_getElem? (i := 140) (by decide +kernel)) rfl
theorem wml_RX6_106 : Cond.methodLink RX6 106 yX6_appendTo ∈ gTbl := gTbl_of (List.mem_of_getElem? (i := 447) (by decide +kernel)) rfl
theorem winst_X6_appendTo : Cond.instanceMethod yX6_appendTo ∈ gTbl := gTbl_of (List.mem_of_getElem? (i := 449) (by decide +kernel)) rfl
theorem wsel_X6_appendTo : Cond.selects RX6 yX6_appendTo yX6_appendTo ∈ gTbl := gTbl_sel (List.mem_of_getElem? (i := 13) (by decide +kernel)) rfl
theorem wcode_X6_appendTo : Cond.code yX6_appendTo cX6_appendTo 3 (some .int) ∈ gTbl := gTbl_of (List.mem_of_getElem? (i := 450) (by decide +kernel)) rfl
theorem wml_RX6_110 : Cond.methodLink RX6 110 yX4_empty ∈ gTbl := gTbl_of (List.mem_of_getElem? (i := 282) (by decide +kernel)) rfl
theorem winst_X4_empty : Cond.instanceMethod yX4_empty ∈ gTbl := gTbl_of (List.mem_of_getElem? (i := 283) (by decide +kernel)) rfl
theorem wsel_X4_empty : Cond.selects RX4 yX4_empty yX4_empty ∈ gTbl := gTbl_of (List.mem_of_getElem? (i := 284) (by decide +kernel)) rfl
theorem wcode_X4_empty : Cond.code yX4_empty cX4_empty 2 (some .int) ∈ gTbl := gTbl_of (List.mem_of_getElem? (i := 285) (by decide +kernel)) rfl
theorem wml_RX6_114 : Cond.methodLink RX6 114 yX6_requireNumberField ∈ gTbl := gTbl_of (List.mem_of_getElem? (i := 477) (by decide +kernel)) rfl
theorem winst_X6_requireNumberField : Cond.instanceMethod yX6_requireNumberField ∈ gTbl := gTbl_of (List.mem_of_getElem? (i := 479) (by decide +kernel)) rfl
theorem wsel_X6_requireNumberField : Cond.selects RX6 yX6_requireNumberField yX6_requireNumberField ∈ gTbl := gTbl_sel (List.mem_of_getElem? (i := 15) (by decide +kernel)) rfl
theorem wcode_X6_requireNumberField : Cond.code yX6_requireNumberField cX6_requireNumberField 2 none ∈ gTbl := gTbl_of (List.mem_of_getElem? (i := 480) (by decide +kernel)) rfl
theorem wfl_RX6_122 : Cond.fieldLinkNest RX6 122 "Cardmeld$Card" "numbers" "[I" "Cardmeld" ∈ gTbl := gTbl_of (List.mem_of_getElem? (i := 142) (by decide +kernel)) rfl
theorem wfl_RX6_133 : Cond.fieldLinkNest RX6 133 "Cardmeld$Name" "letters" "[C" "Cardmeld" ∈ gTbl := gTbl_of (List.mem_of_getElem? (i := 78) (by decide +kernel)) rfl
theorem wcl_RX6_128 : Cond.classLink RX6 128 "java/util/NoSuchElementException" ∈ gTbl := gTbl_of (List.mem_of_getElem? (i := 498) (by decide +kernel)) rfl
theorem wini_java_util_NoSuchElementException : Cond.initialized "java/util/NoSuchElementException" ∈ gTbl := gTbl_of (List.mem_of_getElem? (i := 15) (by decide +kernel)) rfl
theorem wfl_RX6_137 : Cond.fieldLinkNest RX6 137 "Cardmeld$Name" "soundLength" "I" "Cardmeld" ∈ gTbl := gTbl_of (List.mem_of_getElem? (i := 85) (by decide +kernel)) rfl
theorem wfl_RX6_142 : Cond.fieldLinkNest RX6 142 "Cardmeld$Name" "sound" "[C" "Cardmeld" ∈ gTbl := gTbl_of (List.mem_of_getElem? (i := 83) (by decide +kernel)) rfl
theorem wml_RX6_145 : Cond.methodLink RX6 145 yX6_requireField ∈ gTbl := gTbl_of (List.mem_of_getElem? (i := 536) (by decide +kernel)) rfl
theorem winst_X6_requireField : Cond.instanceMethod yX6_requireField ∈ gTbl := gTbl_of (List.mem_of_getElem? (i := 538) (by decide +kernel)) rfl
theorem wsel_X6_requireField : Cond.selects RX6 yX6_requireField yX6_requireField ∈ gTbl := gTbl_sel (List.mem_of_getElem? (i := 16) (by decide +kernel)) rfl
theorem wcode_X6_requireField : Cond.code yX6_requireField cX6_requireField 2 none ∈ gTbl := gTbl_of (List.mem_of_getElem? (i := 539) (by decide +kernel)) rfl
theorem wml_RX6_148 : Cond.methodLink RX6 148 yX6_requireWeight ∈ gTbl := gTbl_of (List.mem_of_getElem? (i := 541) (by decide +kernel)) rfl
theorem winst_X6_requireWeight : Cond.instanceMethod yX6_requireWeight ∈ gTbl := gTbl_of (List.mem_of_getElem? (i := 543) (by decide +kernel)) rfl
theorem wsel_X6_requireWeight : Cond.selects RX6 yX6_requireWeight yX6_requireWeight ∈ gTbl := gTbl_sel (List.mem_of_getElem? (i := 17) (by decide +kernel)) rfl
theorem wcode_X6_requireWeight : Cond.code yX6_requireWeight cX6_requireWeight 2 none ∈ gTbl := gTbl_of (List.mem_of_getElem? (i := 544) (by decide +kernel)) rfl
theorem wfl_RX6_19 : Cond.fieldLink RX6 19 "Cardmeld" "sameWeights" "[I" ∈ gTbl := gTbl_of (List.mem_of_getElem? (i := 154) (by decide +kernel)) rfl
theorem wfl_RX6_22 : Cond.fieldLink RX6 22 "Cardmeld" "anotherWeights" "[I" ∈ gTbl := gTbl_of (List.mem_of_getElem? (i := 155) (by decide +kernel)) rfl
theorem wfl_RX6_25 : Cond.fieldLink RX6 25 "Cardmeld" "threshold" "I" ∈ gTbl := gTbl_of (List.mem_of_getElem? (i := 156) (by decide +kernel)) rfl
theorem wml_RX6_344 : Cond.methodLink RX6 344 yX2_has ∈ gTbl := gTbl_of (List.mem_of_getElem? (i := 212) (by decide +kernel)) rfl
theorem winst_X2_has : Cond.instanceMethod yX2_has ∈ gTbl := gTbl_of (List.mem_of_getElem? (i := 213) (by decide +kernel)) rfl
theorem wsel_X2_has : Cond.selects RX2 yX2_has yX2_has ∈ gTbl := gTbl_of (List.mem_of_getElem? (i := 214) (by decide +kernel)) rfl
theorem wini_RX2 : Cond.initialized RX2 ∈ gTbl := gTbl_of (List.mem_of_getElem? (i := 7) (by decide +kernel)) rfl
theorem wcode_X2_has : Cond.code yX2_has cX2_has 2 (some .boolean) ∈ gTbl := gTbl_of (List.mem_of_getElem? (i := 215) (by decide +kernel)) rfl
theorem wml_RX6_348 : Cond.methodLink RX6 348 yX2_agrees ∈ gTbl := gTbl_of (List.mem_of_getElem? (i := 216) (by decide +kernel)) rfl
theorem winst_X2_agrees : Cond.instanceMethod yX2_agrees ∈ gTbl := gTbl_of (List.mem_of_getElem? (i := 217) (by decide +kernel)) rfl
theorem wsel_X2_agrees : Cond.selects RX2 yX2_agrees yX2_agrees ∈ gTbl := gTbl_of (List.mem_of_getElem? (i := 218) (by decide +kernel)) rfl
theorem wcode_X2_agrees : Cond.code yX2_agrees cX2_agrees 3 (some .boolean) ∈ gTbl := gTbl_of (List.mem_of_getElem? (i := 219) (by decide +kernel)) rfl
theorem wml_RX6_352 : Cond.methodLink RX6 352 yX4_soundsLike ∈ gTbl := gTbl_of (List.mem_of_getElem? (i := 224) (by decide +kernel)) rfl
theorem winst_X4_soundsLike : Cond.instanceMethod yX4_soundsLike ∈ gTbl := gTbl_of (List.mem_of_getElem? (i := 225) (by decide +kernel)) rfl
theorem wsel_X4_soundsLike : Cond.selects RX4 yX4_soundsLike yX4_soundsLike ∈ gTbl := gTbl_of (List.mem_of_getElem? (i := 226) (by decide +kernel)) rfl
theorem wcode_X4_soundsLike : Cond.code yX4_soundsLike cX4_soundsLike 2 (some .boolean) ∈ gTbl := gTbl_of (List.mem_of_getElem? (i := 227) (by decide +kernel)) rfl
theorem wml_RX6_356 : Cond.methodLink RX6 356 yJ9_floorDiv_7cf53 ∈ gTbl := gTbl_of (List.mem_of_getElem? (i := 240) (by decide +kernel)) rfl
theorem wstat_J9_floorDiv_7cf53 : Cond.static yJ9_floorDiv_7cf53 ∈ gTbl := gTbl_of (List.mem_of_getElem? (i := 241) (by decide +kernel)) rfl
theorem wcode_J9_floorDiv_7cf53 : Cond.code yJ9_floorDiv_7cf53 cJ9_floorDiv_7cf53 3 (some .int) ∈ gTbl := gTbl_of (List.mem_of_getElem? (i := 242) (by decide +kernel)) rfl
theorem wml_RX6_340 : Cond.methodLink RX6 340 yX6_fieldScore ∈ gTbl := gTbl_of (List.mem_of_getElem? (i := 236) (by decide +kernel)) rfl
theorem winst_X6_fieldScore : Cond.instanceMethod yX6_fieldScore ∈ gTbl := gTbl_of (List.mem_of_getElem? (i := 238) (by decide +kernel)) rfl
theorem wsel_X6_fieldScore : Cond.selects RX6 yX6_fieldScore yX6_fieldScore ∈ gTbl := gTbl_sel (List.mem_of_getElem? (i := 3) (by decide +kernel)) rfl
theorem wcode_X6_fieldScore : Cond.code yX6_fieldScore cX6_fieldScore 4 (some .int) ∈ gTbl := gTbl_of (List.mem_of_getElem? (i := 239) (by decide +kernel)) rfl
theorem wml_RX6_153 : Cond.methodLink RX6 153 yX6_requireCards ∈ gTbl := gTbl_of (List.mem_of_getElem? (i := 561) (by decide +kernel)) rfl
theorem winst_X6_requireCards : Cond.instanceMethod yX6_requireCards ∈ gTbl := gTbl_of (List.mem_of_getElem? (i := 563) (by decide +kernel)) rfl
theorem wsel_X6_requireCards : Cond.selects RX6 yX6_requireCards yX6_requireCards ∈ gTbl := gTbl_sel (List.mem_of_getElem? (i := 18) (by decide +kernel)) rfl
theorem wcode_X6_requireCards : Cond.code yX6_requireCards cX6_requireCards 3 none ∈ gTbl := gTbl_of (List.mem_of_getElem? (i := 564) (by decide +kernel)) rfl
theorem wml_RX6_157 : Cond.methodLink RX6 157 yX6_requireTwo ∈ gTbl := gTbl_of (List.mem_of_getElem? (i := 565) (by decide +kernel)) rfl
theorem winst_X6_requireTwo : Cond.instanceMethod yX6_requireTwo ∈ gTbl := gTbl_of (List.mem_of_getElem? (i := 567) (by decide +kernel)) rfl
theorem wsel_X6_requireTwo : Cond.selects RX6 yX6_requireTwo yX6_requireTwo ∈ gTbl := gTbl_sel (List.mem_of_getElem? (i := 19) (by decide +kernel)) rfl
theorem wcode_X6_requireTwo : Cond.code yX6_requireTwo cX6_requireTwo 3 none ∈ gTbl := gTbl_of (List.mem_of_getElem? (i := 568) (by decide +kernel)) rfl
theorem wml_RX6_160 : Cond.methodLink RX6 160 yX6_scoreOf ∈ gTbl := gTbl_of (List.mem_of_getElem? (i := 232) (by decide +kernel)) rfl
theorem winst_X6_scoreOf : Cond.instanceMethod yX6_scoreOf ∈ gTbl := gTbl_of (List.mem_of_getElem? (i := 234) (by decide +kernel)) rfl
theorem wsel_X6_scoreOf : Cond.selects RX6 yX6_scoreOf yX6_scoreOf ∈ gTbl := gTbl_sel (List.mem_of_getElem? (i := 2) (by decide +kernel)) rfl
theorem wcode_X6_scoreOf : Cond.code yX6_scoreOf cX6_scoreOf 5 (some .int) ∈ gTbl := gTbl_of (List.mem_of_getElem? (i := 235) (by decide +kernel)) rfl
theorem wml_RX6_361 : Cond.methodLink RX6 361 yX6_sharesNumber ∈ gTbl := gTbl_of (List.mem_of_getElem? (i := 208) (by decide +kernel)) rfl
theorem winst_X6_sharesNumber : Cond.instanceMethod yX6_sharesNumber ∈ gTbl := gTbl_of (List.mem_of_getElem? (i := 210) (by decide +kernel)) rfl
theorem wsel_X6_sharesNumber : Cond.selects RX6 yX6_sharesNumber yX6_sharesNumber ∈ gTbl := gTbl_sel (List.mem_of_getElem? (i := 1) (by decide +kernel)) rfl
theorem wcode_X6_sharesNumber : Cond.code yX6_sharesNumber cX6_sharesNumber 4 (some .boolean) ∈ gTbl := gTbl_of (List.mem_of_getElem? (i := 211) (by decide +kernel)) rfl
theorem wfl_RX6_39 : Cond.fieldLink RX6 39 "Cardmeld" "merges" "LCardmeld$Merges;" ∈ gTbl := gTbl_of (List.mem_of_getElem? (i := 159) (by decide +kernel)) rfl
theorem wml_RX6_226 : Cond.methodLink RX6 226 yX3_joinedWith ∈ gTbl := gTbl_of (List.mem_of_getElem? (i := 247) (by decide +kernel)) rfl
theorem winst_X3_joinedWith : Cond.instanceMethod yX3_joinedWith ∈ gTbl := gTbl_of (List.mem_of_getElem? (i := 248) (by decide +kernel)) rfl
theorem wsel_X3_joinedWith : Cond.selects RX3 yX3_joinedWith yX3_joinedWith ∈ gTbl := gTbl_of (List.mem_of_getElem? (i := 249) (by decide +kernel)) rfl
theorem wcode_X3_joinedWith : Cond.code yX3_joinedWith cX3_joinedWith 5 (some .int) ∈ gTbl := gTbl_of (List.mem_of_getElem? (i := 250) (by decide +kernel)) rfl
theorem wfl_RX6_32 : Cond.fieldLink RX6 32 "Cardmeld" "forbidden" "LCardmeld$Relation;" ∈ gTbl := gTbl_of (List.mem_of_getElem? (i := 157) (by decide +kernel)) rfl
theorem wml_RX6_223 : Cond.methodLink RX6 223 yX5_partnersOfAll ∈ gTbl := gTbl_of (List.mem_of_getElem? (i := 258) (by decide +kernel)) rfl
theorem wml_RX6_164 : Cond.methodLink RX6 164 yX6_sharesKey ∈ gTbl := gTbl_of (List.mem_of_getElem? (i := 204) (by decide +kernel)) rfl
theorem winst_X6_sharesKey : Cond.instanceMethod yX6_sharesKey ∈ gTbl := gTbl_of (List.mem_of_getElem? (i := 206) (by decide +kernel)) rfl
theorem wsel_X6_sharesKey : Cond.selects RX6 yX6_sharesKey yX6_sharesKey ∈ gTbl := gTbl_sel (List.mem_of_getElem? (i := 0) (by decide +kernel)) rfl
theorem wcode_X6_sharesKey : Cond.code yX6_sharesKey cX6_sharesKey 3 (some .boolean) ∈ gTbl := gTbl_of (List.mem_of_getElem? (i := 207) (by decide +kernel)) rfl
theorem wml_RX6_168 : Cond.methodLink RX6 168 yX6_canBeMerged ∈ gTbl := gTbl_of (List.mem_of_getElem? (i := 243) (by decide +kernel)) rfl
theorem winst_X6_canBeMerged : Cond.instanceMethod yX6_canBeMerged ∈ gTbl := gTbl_of (List.mem_of_getElem? (i := 245) (by decide +kernel)) rfl
theorem wsel_X6_canBeMerged : Cond.selects RX6 yX6_canBeMerged yX6_canBeMerged ∈ gTbl := gTbl_sel (List.mem_of_getElem? (i := 4) (by decide +kernel)) rfl
theorem wcode_X6_canBeMerged : Cond.code yX6_canBeMerged cX6_canBeMerged 5 (some .boolean) ∈ gTbl := gTbl_of (List.mem_of_getElem? (i := 246) (by decide +kernel)) rfl
theorem wfl_RX6_67 : Cond.fieldLink RX6 67 "Cardmeld" "mates" "[I" ∈ gTbl := gTbl_of (List.mem_of_getElem? (i := 164) (by decide +kernel)) rfl
theorem wfl_RX6_63 : Cond.fieldLink RX6 63 "Cardmeld" "buckets" "LCardmeld$Buckets;" ∈ gTbl := gTbl_of (List.mem_of_getElem? (i := 163) (by decide +kernel)) rfl
theorem wml_RX6_378 : Cond.methodLink RX6 378 yX1_empty ∈ gTbl := gTbl_of (List.mem_of_getElem? (i := 589) (by decide +kernel)) rfl
theorem winst_X1_empty : Cond.instanceMethod yX1_empty ∈ gTbl := gTbl_of (List.mem_of_getElem? (i := 590) (by decide +kernel)) rfl
theorem wsel_X1_empty : Cond.selects RX1 yX1_empty yX1_empty ∈ gTbl := gTbl_of (List.mem_of_getElem? (i := 591) (by decide +kernel)) rfl
theorem wcode_X1_empty : Cond.code yX1_empty cX1_empty 1 none ∈ gTbl := gTbl_of (List.mem_of_getElem? (i := 592) (by decide +kernel)) rfl
theorem wml_RX6_380 : Cond.methodLink RX6 380 yX2_key ∈ gTbl := gTbl_of (List.mem_of_getElem? (i := 593) (by decide +kernel)) rfl
theorem winst_X2_key : Cond.instanceMethod yX2_key ∈ gTbl := gTbl_of (List.mem_of_getElem? (i := 594) (by decide +kernel)) rfl
theorem wsel_X2_key : Cond.selects RX2 yX2_key yX2_key ∈ gTbl := gTbl_of (List.mem_of_getElem? (i := 595) (by decide +kernel)) rfl
theorem wcode_X2_key : Cond.code yX2_key cX2_key 2 (some .int) ∈ gTbl := gTbl_of (List.mem_of_getElem? (i := 596) (by decide +kernel)) rfl
theorem wml_RX6_383 : Cond.methodLink RX6 383 yX1_put ∈ gTbl := gTbl_of (List.mem_of_getElem? (i := 598) (by decide +kernel)) rfl
theorem winst_X1_put : Cond.instanceMethod yX1_put ∈ gTbl := gTbl_of (List.mem_of_getElem? (i := 599) (by decide +kernel)) rfl
theorem wsel_X1_put : Cond.selects RX1 yX1_put yX1_put ∈ gTbl := gTbl_of (List.mem_of_getElem? (i := 600) (by decide +kernel)) rfl
theorem wcode_X1_put : Cond.code yX1_put cX1_put 4 none ∈ gTbl := gTbl_of (List.mem_of_getElem? (i := 601) (by decide +kernel)) rfl
theorem wml_RX6_386 : Cond.methodLink RX6 386 yX1_holdersOf ∈ gTbl := gTbl_of (List.mem_of_getElem? (i := 606) (by decide +kernel)) rfl
theorem winst_X1_holdersOf : Cond.instanceMethod yX1_holdersOf ∈ gTbl := gTbl_of (List.mem_of_getElem? (i := 607) (by decide +kernel)) rfl
theorem wsel_X1_holdersOf : Cond.selects RX1 yX1_holdersOf yX1_holdersOf ∈ gTbl := gTbl_of (List.mem_of_getElem? (i := 608) (by decide +kernel)) rfl
theorem wcode_X1_holdersOf : Cond.code yX1_holdersOf cX1_holdersOf 3 (some .int) ∈ gTbl := gTbl_of (List.mem_of_getElem? (i := 609) (by decide +kernel)) rfl
theorem wfl_RX6_56 : Cond.fieldLink RX6 56 "Cardmeld" "best" "LCardmeld$Best;" ∈ gTbl := gTbl_of (List.mem_of_getElem? (i := 162) (by decide +kernel)) rfl
theorem wml_RX6_374 : Cond.methodLink RX6 374 yX0_consider ∈ gTbl := gTbl_of (List.mem_of_getElem? (i := 614) (by decide +kernel)) rfl
theorem winst_X0_consider : Cond.instanceMethod yX0_consider ∈ gTbl := gTbl_of (List.mem_of_getElem? (i := 615) (by decide +kernel)) rfl
theorem wsel_X0_consider : Cond.selects RX0 yX0_consider yX0_consider ∈ gTbl := gTbl_of (List.mem_of_getElem? (i := 616) (by decide +kernel)) rfl
theorem wcode_X0_consider : Cond.code yX0_consider cX0_consider 4 none ∈ gTbl := gTbl_of (List.mem_of_getElem? (i := 617) (by decide +kernel)) rfl
theorem wml_RX6_365 : Cond.methodLink RX6 365 yX0_forget ∈ gTbl := gTbl_of (List.mem_of_getElem? (i := 581) (by decide +kernel)) rfl
theorem winst_X0_forget : Cond.instanceMethod yX0_forget ∈ gTbl := gTbl_of (List.mem_of_getElem? (i := 582) (by decide +kernel)) rfl
theorem wsel_X0_forget : Cond.selects RX0 yX0_forget yX0_forget ∈ gTbl := gTbl_of (List.mem_of_getElem? (i := 583) (by decide +kernel)) rfl
theorem wcode_X0_forget : Cond.code yX0_forget cX0_forget 1 none ∈ gTbl := gTbl_of (List.mem_of_getElem? (i := 584) (by decide +kernel)) rfl
theorem wml_RX6_371 : Cond.methodLink RX6 371 yX6_gatherMates ∈ gTbl := gTbl_of (List.mem_of_getElem? (i := 585) (by decide +kernel)) rfl
theorem winst_X6_gatherMates : Cond.instanceMethod yX6_gatherMates ∈ gTbl := gTbl_of (List.mem_of_getElem? (i := 587) (by decide +kernel)) rfl
theorem wsel_X6_gatherMates : Cond.selects RX6 yX6_gatherMates yX6_gatherMates ∈ gTbl := gTbl_sel (List.mem_of_getElem? (i := 21) (by decide +kernel)) rfl
theorem wcode_X6_gatherMates : Cond.code yX6_gatherMates cX6_gatherMates 3 none ∈ gTbl := gTbl_of (List.mem_of_getElem? (i := 588) (by decide +kernel)) rfl
theorem wml_RX6_287 : Cond.methodLink RX6 287 yX6_contains ∈ gTbl := gTbl_of (List.mem_of_getElem? (i := 271) (by decide +kernel)) rfl
theorem wml_RX6_368 : Cond.methodLink RX6 368 yX6_offer ∈ gTbl := gTbl_of (List.mem_of_getElem? (i := 610) (by decide +kernel)) rfl
theorem winst_X6_offer : Cond.instanceMethod yX6_offer ∈ gTbl := gTbl_of (List.mem_of_getElem? (i := 612) (by decide +kernel)) rfl
theorem wsel_X6_offer : Cond.selects RX6 yX6_offer yX6_offer ∈ gTbl := gTbl_sel (List.mem_of_getElem? (i := 23) (by decide +kernel)) rfl
theorem wcode_X6_offer : Cond.code yX6_offer cX6_offer 4 none ∈ gTbl := gTbl_of (List.mem_of_getElem? (i := 613) (by decide +kernel)) rfl
theorem wml_RX6_328 : Cond.methodLink RX6 328 yX0_isMissing ∈ gTbl := gTbl_of (List.mem_of_getElem? (i := 626) (by decide +kernel)) rfl
theorem wml_RX6_171 : Cond.methodLink RX6 171 yX6_findBestByKeys ∈ gTbl := gTbl_of (List.mem_of_getElem? (i := 577) (by decide +kernel)) rfl
theorem winst_X6_findBestByKeys : Cond.instanceMethod yX6_findBestByKeys ∈ gTbl := gTbl_of (List.mem_of_getElem? (i := 579) (by decide +kernel)) rfl
theorem wsel_X6_findBestByKeys : Cond.selects RX6 yX6_findBestByKeys yX6_findBestByKeys ∈ gTbl := gTbl_sel (List.mem_of_getElem? (i := 20) (by decide +kernel)) rfl
theorem wcode_X6_findBestByKeys : Cond.code yX6_findBestByKeys cX6_findBestByKeys 3 none ∈ gTbl := gTbl_of (List.mem_of_getElem? (i := 580) (by decide +kernel)) rfl
theorem wml_RX6_174 : Cond.methodLink RX6 174 yX6_requireBest ∈ gTbl := gTbl_of (List.mem_of_getElem? (i := 622) (by decide +kernel)) rfl
theorem winst_X6_requireBest : Cond.instanceMethod yX6_requireBest ∈ gTbl := gTbl_of (List.mem_of_getElem? (i := 624) (by decide +kernel)) rfl
theorem wsel_X6_requireBest : Cond.selects RX6 yX6_requireBest yX6_requireBest ∈ gTbl := gTbl_sel (List.mem_of_getElem? (i := 24) (by decide +kernel)) rfl
theorem wcode_X6_requireBest : Cond.code yX6_requireBest cX6_requireBest 1 none ∈ gTbl := gTbl_of (List.mem_of_getElem? (i := 625) (by decide +kernel)) rfl
theorem wfl_RX6_177 : Cond.fieldLinkNest RX6 177 "Cardmeld$Best" "points" "I" "Cardmeld" ∈ gTbl := gTbl_of (List.mem_of_getElem? (i := 107) (by decide +kernel)) rfl
theorem wml_RX6_180 : Cond.methodLink RX6 180 yX6_findBestByPairs ∈ gTbl := gTbl_of (List.mem_of_getElem? (i := 635) (by decide +kernel)) rfl
theorem winst_X6_findBestByPairs : Cond.instanceMethod yX6_findBestByPairs ∈ gTbl := gTbl_of (List.mem_of_getElem? (i := 637) (by decide +kernel)) rfl
theorem wsel_X6_findBestByPairs : Cond.selects RX6 yX6_findBestByPairs yX6_findBestByPairs ∈ gTbl := gTbl_sel (List.mem_of_getElem? (i := 25) (by decide +kernel)) rfl
theorem wcode_X6_findBestByPairs : Cond.code yX6_findBestByPairs cX6_findBestByPairs 3 none ∈ gTbl := gTbl_of (List.mem_of_getElem? (i := 638) (by decide +kernel)) rfl
theorem wfl_RX6_183 : Cond.fieldLinkNest RX6 183 "Cardmeld$Best" "one" "I" "Cardmeld" ∈ gTbl := gTbl_of (List.mem_of_getElem? (i := 103) (by decide +kernel)) rfl
theorem wfl_RX6_186 : Cond.fieldLinkNest RX6 186 "Cardmeld$Best" "other" "I" "Cardmeld" ∈ gTbl := gTbl_of (List.mem_of_getElem? (i := 105) (by decide +kernel)) rfl
theorem wml_RX6_189 : Cond.methodLink RX6 189 yX6_isOnePerson ∈ gTbl := gTbl_of (List.mem_of_getElem? (i := 661) (by decide +kernel)) rfl
theorem winst_X6_isOnePerson : Cond.instanceMethod yX6_isOnePerson ∈ gTbl := gTbl_of (List.mem_of_getElem? (i := 663) (by decide +kernel)) rfl
theorem wsel_X6_isOnePerson : Cond.selects RX6 yX6_isOnePerson yX6_isOnePerson ∈ gTbl := gTbl_sel (List.mem_of_getElem? (i := 26) (by decide +kernel)) rfl
theorem wcode_X6_isOnePerson : Cond.code yX6_isOnePerson cX6_isOnePerson 3 (some .boolean) ∈ gTbl := gTbl_of (List.mem_of_getElem? (i := 664) (by decide +kernel)) rfl
theorem wml_RX6_197 : Cond.methodLink RX6 197 yX5_holds ∈ gTbl := gTbl_of (List.mem_of_getElem? (i := 681) (by decide +kernel)) rfl
theorem winst_X5_holds : Cond.instanceMethod yX5_holds ∈ gTbl := gTbl_of (List.mem_of_getElem? (i := 682) (by decide +kernel)) rfl
theorem wsel_X5_holds : Cond.selects RX5 yX5_holds yX5_holds ∈ gTbl := gTbl_of (List.mem_of_getElem? (i := 683) (by decide +kernel)) rfl
theorem wcode_X5_holds : Cond.code yX5_holds cX5_holds 3 (some .boolean) ∈ gTbl := gTbl_of (List.mem_of_getElem? (i := 684) (by decide +kernel)) rfl
theorem wfl_RX6_200 : Cond.fieldLink RX6 200 "Cardmeld" "forbiddenPairs" "I" ∈ gTbl := gTbl_of (List.mem_of_getElem? (i := 158) (by decide +kernel)) rfl
theorem wml_RX6_205 : Cond.methodLink RX6 205 yX5_tie ∈ gTbl := gTbl_of (List.mem_of_getElem? (i := 686) (by decide +kernel)) rfl
theorem wcl_RX6_192 : Cond.classLink RX6 192 "java/lang/UnsupportedOperationException" ∈ gTbl := gTbl_of (List.mem_of_getElem? (i := 665) (by decide +kernel)) rfl
theorem wini_java_lang_UnsupportedOperationException : Cond.initialized "java/lang/UnsupportedOperationException" ∈ gTbl := gTbl_of (List.mem_of_getElem? (i := 17) (by decide +kernel)) rfl
theorem wml_RX6_210 : Cond.methodLink RX6 210 yX5_cut ∈ gTbl := gTbl_of (List.mem_of_getElem? (i := 698) (by decide +kernel)) rfl
theorem wml_RX6_213 : Cond.methodLink RX6 213 yX6_barsBetween ∈ gTbl := gTbl_of (List.mem_of_getElem? (i := 709) (by decide +kernel)) rfl
theorem winst_X6_barsBetween : Cond.instanceMethod yX6_barsBetween ∈ gTbl := gTbl_of (List.mem_of_getElem? (i := 711) (by decide +kernel)) rfl
theorem wsel_X6_barsBetween : Cond.selects RX6 yX6_barsBetween yX6_barsBetween ∈ gTbl := gTbl_sel (List.mem_of_getElem? (i := 27) (by decide +kernel)) rfl
theorem wcode_X6_barsBetween : Cond.code yX6_barsBetween cX6_barsBetween 3 (some .int) ∈ gTbl := gTbl_of (List.mem_of_getElem? (i := 712) (by decide +kernel)) rfl
theorem wml_RX6_216 : Cond.methodLink RX6 216 yX6_requireBars ∈ gTbl := gTbl_of (List.mem_of_getElem? (i := 720) (by decide +kernel)) rfl
theorem winst_X6_requireBars : Cond.instanceMethod yX6_requireBars ∈ gTbl := gTbl_of (List.mem_of_getElem? (i := 722) (by decide +kernel)) rfl
theorem wsel_X6_requireBars : Cond.selects RX6 yX6_requireBars yX6_requireBars ∈ gTbl := gTbl_sel (List.mem_of_getElem? (i := 28) (by decide +kernel)) rfl
theorem wcode_X6_requireBars : Cond.code yX6_requireBars cX6_requireBars 2 none ∈ gTbl := gTbl_of (List.mem_of_getElem? (i := 723) (by decide +kernel)) rfl
theorem wml_RX6_219 : Cond.methodLink RX6 219 yX6_lowestOf ∈ gTbl := gTbl_of (List.mem_of_getElem? (i := 725) (by decide +kernel)) rfl
theorem wstat_X6_lowestOf : Cond.static yX6_lowestOf ∈ gTbl := gTbl_of (List.mem_of_getElem? (i := 726) (by decide +kernel)) rfl
theorem wcode_X6_lowestOf : Cond.code yX6_lowestOf cX6_lowestOf 2 (some .int) ∈ gTbl := gTbl_of (List.mem_of_getElem? (i := 727) (by decide +kernel)) rfl
theorem wml_RX6_231 : Cond.methodLink RX6 231 yX3_isFull ∈ gTbl := gTbl_of (List.mem_of_getElem? (i := 743) (by decide +kernel)) rfl
theorem wml_RX6_237 : Cond.methodLink RX6 237 yX3_make ∈ gTbl := gTbl_of (List.mem_of_getElem? (i := 748) (by decide +kernel)) rfl
theorem winst_X3_make : Cond.instanceMethod yX3_make ∈ gTbl := gTbl_of (List.mem_of_getElem? (i := 749) (by decide +kernel)) rfl
theorem wsel_X3_make : Cond.selects RX3 yX3_make yX3_make ∈ gTbl := gTbl_of (List.mem_of_getElem? (i := 750) (by decide +kernel)) rfl
theorem wcode_X3_make : Cond.code yX3_make cX3_make 3 (some .int) ∈ gTbl := gTbl_of (List.mem_of_getElem? (i := 751) (by decide +kernel)) rfl
theorem wfl_RX6_321 : Cond.fieldLinkNest RX6 321 "Cardmeld$Merges" "count" "I" "Cardmeld" ∈ gTbl := gTbl_of (List.mem_of_getElem? (i := 53) (by decide +kernel)) rfl
theorem wct_RJ6_265 : Cond.constant RJ6 265 1431655765 ∈ gTbl := gTbl_of (List.mem_of_getElem? (i := 275) (by decide +kernel)) rfl
theorem wct_RJ6_266 : Cond.constant RJ6 266 858993459 ∈ gTbl := gTbl_of (List.mem_of_getElem? (i := 276) (by decide +kernel)) rfl
theorem wct_RJ6_267 : Cond.constant RJ6 267 252645135 ∈ gTbl := gTbl_of (List.mem_of_getElem? (i := 277) (by decide +kernel)) rfl
theorem wml_RX6_242 : Cond.methodLink RX6 242 yX6_requireMerge ∈ gTbl := gTbl_of (List.mem_of_getElem? (i := 769) (by decide +kernel)) rfl
theorem winst_X6_requireMerge : Cond.instanceMethod yX6_requireMerge ∈ gTbl := gTbl_of (List.mem_of_getElem? (i := 771) (by decide +kernel)) rfl
theorem wsel_X6_requireMerge : Cond.selects RX6 yX6_requireMerge yX6_requireMerge ∈ gTbl := gTbl_sel (List.mem_of_getElem? (i := 29) (by decide +kernel)) rfl
theorem wcode_X6_requireMerge : Cond.code yX6_requireMerge cX6_requireMerge 2 none ∈ gTbl := gTbl_of (List.mem_of_getElem? (i := 772) (by decide +kernel)) rfl
theorem wfl_RX6_245 : Cond.fieldLinkNest RX6 245 "Cardmeld$Merges" "standing" "[Z" "Cardmeld" ∈ gTbl := gTbl_of (List.mem_of_getElem? (i := 51) (by decide +kernel)) rfl
theorem wml_RX6_251 : Cond.methodLink RX6 251 yX3_takeBack ∈ gTbl := gTbl_of (List.mem_of_getElem? (i := 775) (by decide +kernel)) rfl
theorem winst_X3_takeBack : Cond.instanceMethod yX3_takeBack ∈ gTbl := gTbl_of (List.mem_of_getElem? (i := 776) (by decide +kernel)) rfl
theorem wsel_X3_takeBack : Cond.selects RX3 yX3_takeBack yX3_takeBack ∈ gTbl := gTbl_of (List.mem_of_getElem? (i := 777) (by decide +kernel)) rfl
theorem wcode_X3_takeBack : Cond.code yX3_takeBack cX3_takeBack 2 none ∈ gTbl := gTbl_of (List.mem_of_getElem? (i := 778) (by decide +kernel)) rfl
theorem wml_RX6_254 : Cond.methodLink RX6 254 yX6_allCards ∈ gTbl := gTbl_of (List.mem_of_getElem? (i := 263) (by decide +kernel)) rfl
theorem winst_X6_allCards : Cond.instanceMethod yX6_allCards ∈ gTbl := gTbl_of (List.mem_of_getElem? (i := 265) (by decide +kernel)) rfl
theorem wsel_X6_allCards : Cond.selects RX6 yX6_allCards yX6_allCards ∈ gTbl := gTbl_sel (List.mem_of_getElem? (i := 5) (by decide +kernel)) rfl
theorem wcode_X6_allCards : Cond.code yX6_allCards cX6_allCards 1 (some .int) ∈ gTbl := gTbl_of (List.mem_of_getElem? (i := 266) (by decide +kernel)) rfl
theorem wml_RX6_257 : Cond.methodLink RX6 257 yX6_personsWith ∈ gTbl := gTbl_of (List.mem_of_getElem? (i := 267) (by decide +kernel)) rfl
theorem winst_X6_personsWith : Cond.instanceMethod yX6_personsWith ∈ gTbl := gTbl_of (List.mem_of_getElem? (i := 269) (by decide +kernel)) rfl
theorem wsel_X6_personsWith : Cond.selects RX6 yX6_personsWith yX6_personsWith ∈ gTbl := gTbl_sel (List.mem_of_getElem? (i := 6) (by decide +kernel)) rfl
theorem wcode_X6_personsWith : Cond.code yX6_personsWith cX6_personsWith 6 (some .int) ∈ gTbl := gTbl_of (List.mem_of_getElem? (i := 270) (by decide +kernel)) rfl
theorem wml_RX6_260 : Cond.methodLink RX6 260 yJ6_bitCount_0f7a4 ∈ gTbl := gTbl_of (List.mem_of_getElem? (i := 272) (by decide +kernel)) rfl
theorem wstat_J6_bitCount_0f7a4 : Cond.static yJ6_bitCount_0f7a4 ∈ gTbl := gTbl_of (List.mem_of_getElem? (i := 273) (by decide +kernel)) rfl
theorem wini_RJ6 : Cond.initialized RJ6 ∈ gTbl := gTbl_of (List.mem_of_getElem? (i := 18) (by decide +kernel)) rfl
theorem wcode_J6_bitCount_0f7a4 : Cond.code yJ6_bitCount_0f7a4 cJ6_bitCount_0f7a4 1 (some .int) ∈ gTbl := gTbl_of (List.mem_of_getElem? (i := 274) (by decide +kernel)) rfl
theorem wml_RX6_265 : Cond.methodLink RX6 265 yX3_distance ∈ gTbl := gTbl_of (List.mem_of_getElem? (i := 794) (by decide +kernel)) rfl
theorem winst_X3_distance : Cond.instanceMethod yX3_distance ∈ gTbl := gTbl_of (List.mem_of_getElem? (i := 795) (by decide +kernel)) rfl
theorem wsel_X3_distance : Cond.selects RX3 yX3_distance yX3_distance ∈ gTbl := gTbl_of (List.mem_of_getElem? (i := 796) (by decide +kernel)) rfl
theorem wcode_X3_distance : Cond.code yX3_distance cX3_distance 5 (some .int) ∈ gTbl := gTbl_of (List.mem_of_getElem? (i := 797) (by decide +kernel)) rfl
theorem wml_RX6_270 : Cond.methodLink RX6 270 yX3_labelByRounds ∈ gTbl := gTbl_of (List.mem_of_getElem? (i := 814) (by decide +kernel)) rfl
theorem winst_X3_labelByRounds : Cond.instanceMethod yX3_labelByRounds ∈ gTbl := gTbl_of (List.mem_of_getElem? (i := 815) (by decide +kernel)) rfl
theorem wsel_X3_labelByRounds : Cond.selects RX3 yX3_labelByRounds yX3_labelByRounds ∈ gTbl := gTbl_of (List.mem_of_getElem? (i := 816) (by decide +kernel)) rfl
theorem wcode_X3_labelByRounds : Cond.code yX3_labelByRounds cX3_labelByRounds 5 none ∈ gTbl := gTbl_of (List.mem_of_getElem? (i := 817) (by decide +kernel)) rfl
theorem wfl_RX6_273 : Cond.fieldLinkNest RX6 273 "Cardmeld$Merges" "labels" "[I" "Cardmeld" ∈ gTbl := gTbl_of (List.mem_of_getElem? (i := 56) (by decide +kernel)) rfl
theorem wml_RX6_276 : Cond.methodLink RX6 276 yX6_highestRanked ∈ gTbl := gTbl_of (List.mem_of_getElem? (i := 835) (by decide +kernel)) rfl
theorem winst_X6_highestRanked : Cond.instanceMethod yX6_highestRanked ∈ gTbl := gTbl_of (List.mem_of_getElem? (i := 837) (by decide +kernel)) rfl
theorem wsel_X6_highestRanked : Cond.selects RX6 yX6_highestRanked yX6_highestRanked ∈ gTbl := gTbl_sel (List.mem_of_getElem? (i := 30) (by decide +kernel)) rfl
theorem wcode_X6_highestRanked : Cond.code yX6_highestRanked cX6_highestRanked 6 (some .int) ∈ gTbl := gTbl_of (List.mem_of_getElem? (i := 838) (by decide +kernel)) rfl
theorem wml_RX6_281 : Cond.methodLink RX6 281 yX6_disagree ∈ gTbl := gTbl_of (List.mem_of_getElem? (i := 847) (by decide +kernel)) rfl
theorem winst_X6_disagree : Cond.instanceMethod yX6_disagree ∈ gTbl := gTbl_of (List.mem_of_getElem? (i := 849) (by decide +kernel)) rfl
theorem wsel_X6_disagree : Cond.selects RX6 yX6_disagree yX6_disagree ∈ gTbl := gTbl_sel (List.mem_of_getElem? (i := 31) (by decide +kernel)) rfl
theorem wcode_X6_disagree : Cond.code yX6_disagree cX6_disagree 5 (some .boolean) ∈ gTbl := gTbl_of (List.mem_of_getElem? (i := 850) (by decide +kernel)) rfl
theorem wml_RX6_284 : Cond.methodLink RX6 284 yX6_requireGroup ∈ gTbl := gTbl_of (List.mem_of_getElem? (i := 858) (by decide +kernel)) rfl
theorem winst_X6_requireGroup : Cond.instanceMethod yX6_requireGroup ∈ gTbl := gTbl_of (List.mem_of_getElem? (i := 860) (by decide +kernel)) rfl
theorem wsel_X6_requireGroup : Cond.selects RX6 yX6_requireGroup yX6_requireGroup ∈ gTbl := gTbl_sel (List.mem_of_getElem? (i := 32) (by decide +kernel)) rfl
theorem wcode_X6_requireGroup : Cond.code yX6_requireGroup cX6_requireGroup 2 none ∈ gTbl := gTbl_of (List.mem_of_getElem? (i := 861) (by decide +kernel)) rfl
theorem wfl_RX6_43 : Cond.fieldLink RX6 43 "Cardmeld" "groups" "[I" ∈ gTbl := gTbl_of (List.mem_of_getElem? (i := 160) (by decide +kernel)) rfl
theorem wfl_RX6_49 : Cond.fieldLink RX6 49 "Cardmeld" "query" "LCardmeld$Name;" ∈ gTbl := gTbl_of (List.mem_of_getElem? (i := 161) (by decide +kernel)) rfl
theorem wml_RX6_389 : Cond.methodLink RX6 389 yX4_beginsWith ∈ gTbl := gTbl_of (List.mem_of_getElem? (i := 294) (by decide +kernel)) rfl
theorem wml_RX6_294 : Cond.methodLink RX6 294 yX6_matches ∈ gTbl := gTbl_of (List.mem_of_getElem? (i := 290) (by decide +kernel)) rfl
theorem winst_X6_matches : Cond.instanceMethod yX6_matches ∈ gTbl := gTbl_of (List.mem_of_getElem? (i := 292) (by decide +kernel)) rfl
theorem wsel_X6_matches : Cond.selects RX6 yX6_matches yX6_matches ∈ gTbl := gTbl_sel (List.mem_of_getElem? (i := 7) (by decide +kernel)) rfl
theorem wcode_X6_matches : Cond.code yX6_matches cX6_matches 5 (some .int) ∈ gTbl := gTbl_of (List.mem_of_getElem? (i := 293) (by decide +kernel)) rfl
theorem wfl_RX7_64 : Cond.fieldLink RX7 64 "CardmeldModel" "thrown" "I" ∈ gTbl := gTbl_of (List.mem_of_getElem? (i := 915) (by decide +kernel)) rfl
theorem wfl_RX7_67 : Cond.fieldLink RX7 67 "CardmeldModel" "cards" "I" ∈ gTbl := gTbl_of (List.mem_of_getElem? (i := 917) (by decide +kernel)) rfl
theorem wml_RX7_70 : Cond.methodLink RX7 70 yX7_isWithin ∈ gTbl := gTbl_of (List.mem_of_getElem? (i := 999) (by decide +kernel)) rfl
theorem wstat_X7_isWithin : Cond.static yX7_isWithin ∈ gTbl := gTbl_of (List.mem_of_getElem? (i := 1000) (by decide +kernel)) rfl
theorem wini_RX7 : Cond.initialized RX7 ∈ gTbl := gTbl_of (List.mem_of_getElem? (i := 8) (by decide +kernel)) rfl
theorem wcode_X7_isWithin : Cond.code yX7_isWithin cX7_isWithin 3 (some .boolean) ∈ gTbl := gTbl_of (List.mem_of_getElem? (i := 1001) (by decide +kernel)) rfl
theorem wml_RX7_74 : Cond.methodLink RX7 74 yX7_noCard ∈ gTbl := gTbl_of (List.mem_of_getElem? (i := 1022) (by decide +kernel)) rfl
theorem winst_X7_noCard : Cond.instanceMethod yX7_noCard ∈ gTbl := gTbl_of (List.mem_of_getElem? (i := 1024) (by decide +kernel)) rfl
theorem wsel_X7_noCard : Cond.selects RX7 yX7_noCard yX7_noCard ∈ gTbl := gTbl_sel (List.mem_of_getElem? (i := 34) (by decide +kernel)) rfl
theorem wcode_X7_noCard : Cond.code yX7_noCard cX7_noCard 2 (some .boolean) ∈ gTbl := gTbl_of (List.mem_of_getElem? (i := 1025) (by decide +kernel)) rfl
theorem wfl_RX7_82 : Cond.fieldLink RX7 82 "CardmeldModel" "sources" "I" ∈ gTbl := gTbl_of (List.mem_of_getElem? (i := 916) (by decide +kernel)) rfl
theorem wfl_RX7_13 : Cond.fieldLink RX7 13 "CardmeldModel" "rank" "[I" ∈ gTbl := gTbl_of (List.mem_of_getElem? (i := 924) (by decide +kernel)) rfl
theorem wml_RX7_78 : Cond.methodLink RX7 78 yX7_fail ∈ gTbl := gTbl_of (List.mem_of_getElem? (i := 1002) (by decide +kernel)) rfl
theorem winst_X7_fail : Cond.instanceMethod yX7_fail ∈ gTbl := gTbl_of (List.mem_of_getElem? (i := 1004) (by decide +kernel)) rfl
theorem wsel_X7_fail : Cond.selects RX7 yX7_fail yX7_fail ∈ gTbl := gTbl_sel (List.mem_of_getElem? (i := 33) (by decide +kernel)) rfl
theorem wcode_X7_fail : Cond.code yX7_fail cX7_fail 2 (some .int) ∈ gTbl := gTbl_of (List.mem_of_getElem? (i := 1005) (by decide +kernel)) rfl
theorem wfl_RX7_17 : Cond.fieldLink RX7 17 "CardmeldModel" "source" "[I" ∈ gTbl := gTbl_of (List.mem_of_getElem? (i := 925) (by decide +kernel)) rfl
theorem wfl_RX7_23 : Cond.fieldLink RX7 23 "CardmeldModel" "numbers" "[I" ∈ gTbl := gTbl_of (List.mem_of_getElem? (i := 927) (by decide +kernel)) rfl
theorem wml_RX7_85 : Cond.methodLink RX7 85 yX7_isLetter ∈ gTbl := gTbl_of (List.mem_of_getElem? (i := 1026) (by decide +kernel)) rfl
theorem wstat_X7_isLetter : Cond.static yX7_isLetter ∈ gTbl := gTbl_of (List.mem_of_getElem? (i := 1027) (by decide +kernel)) rfl
theorem wcode_X7_isLetter : Cond.code yX7_isLetter cX7_isLetter 1 (some .boolean) ∈ gTbl := gTbl_of (List.mem_of_getElem? (i := 1028) (by decide +kernel)) rfl
theorem wfl_RX7_20 : Cond.fieldLink RX7 20 "CardmeldModel" "lengths" "[I" ∈ gTbl := gTbl_of (List.mem_of_getElem? (i := 926) (by decide +kernel)) rfl
theorem wfl_RX7_50 : Cond.fieldLink RX7 50 "CardmeldModel" "names" "[C" ∈ gTbl := gTbl_of (List.mem_of_getElem? (i := 936) (by decide +kernel)) rfl
theorem wml_RX7_89 : Cond.methodLink RX7 89 yX7_digit ∈ gTbl := gTbl_of (List.mem_of_getElem? (i := 1053) (by decide +kernel)) rfl
theorem wstat_X7_digit : Cond.static yX7_digit ∈ gTbl := gTbl_of (List.mem_of_getElem? (i := 1054) (by decide +kernel)) rfl
theorem wcode_X7_digit : Cond.code yX7_digit cX7_digit 1 (some .int) ∈ gTbl := gTbl_of (List.mem_of_getElem? (i := 1055) (by decide +kernel)) rfl
theorem wfl_RX7_44 : Cond.fieldLink RX7 44 "CardmeldModel" "sound" "[I" ∈ gTbl := gTbl_of (List.mem_of_getElem? (i := 934) (by decide +kernel)) rfl
theorem wml_RX7_93 : Cond.methodLink RX7 93 yX7_sounds ∈ gTbl := gTbl_of (List.mem_of_getElem? (i := 1049) (by decide +kernel)) rfl
theorem winst_X7_sounds : Cond.instanceMethod yX7_sounds ∈ gTbl := gTbl_of (List.mem_of_getElem? (i := 1051) (by decide +kernel)) rfl
theorem wsel_X7_sounds : Cond.selects RX7 yX7_sounds yX7_sounds ∈ gTbl := gTbl_sel (List.mem_of_getElem? (i := 35) (by decide +kernel)) rfl
theorem wcode_X7_sounds : Cond.code yX7_sounds cX7_sounds 7 (some .int) ∈ gTbl := gTbl_of (List.mem_of_getElem? (i := 1052) (by decide +kernel)) rfl
theorem wfl_RX7_47 : Cond.fieldLink RX7 47 "CardmeldModel" "sound2" "[I" ∈ gTbl := gTbl_of (List.mem_of_getElem? (i := 935) (by decide +kernel)) rfl
theorem wfl_RX7_26 : Cond.fieldLink RX7 26 "CardmeldModel" "same" "[I" ∈ gTbl := gTbl_of (List.mem_of_getElem? (i := 928) (by decide +kernel)) rfl
theorem wfl_RX7_29 : Cond.fieldLink RX7 29 "CardmeldModel" "another" "[I" ∈ gTbl := gTbl_of (List.mem_of_getElem? (i := 929) (by decide +kernel)) rfl
theorem wfl_RX7_7 : Cond.fieldLink RX7 7 "CardmeldModel" "threshold" "I" ∈ gTbl := gTbl_of (List.mem_of_getElem? (i := 920) (by decide +kernel)) rfl
theorem wml_RX7_97 : Cond.methodLink RX7 97 yX7_has ∈ gTbl := gTbl_of (List.mem_of_getElem? (i := 1080) (by decide +kernel)) rfl
theorem winst_X7_has : Cond.instanceMethod yX7_has ∈ gTbl := gTbl_of (List.mem_of_getElem? (i := 1082) (by decide +kernel)) rfl
theorem wsel_X7_has : Cond.selects RX7 yX7_has yX7_has ∈ gTbl := gTbl_sel (List.mem_of_getElem? (i := 38) (by decide +kernel)) rfl
theorem wcode_X7_has : Cond.code yX7_has cX7_has 3 (some .boolean) ∈ gTbl := gTbl_of (List.mem_of_getElem? (i := 1083) (by decide +kernel)) rfl
theorem wml_RX7_101 : Cond.methodLink RX7 101 yX7_isSame ∈ gTbl := gTbl_of (List.mem_of_getElem? (i := 1084) (by decide +kernel)) rfl
theorem winst_X7_isSame : Cond.instanceMethod yX7_isSame ∈ gTbl := gTbl_of (List.mem_of_getElem? (i := 1086) (by decide +kernel)) rfl
theorem wsel_X7_isSame : Cond.selects RX7 yX7_isSame yX7_isSame ∈ gTbl := gTbl_sel (List.mem_of_getElem? (i := 39) (by decide +kernel)) rfl
theorem wcode_X7_isSame : Cond.code yX7_isSame cX7_isSame 5 (some .boolean) ∈ gTbl := gTbl_of (List.mem_of_getElem? (i := 1087) (by decide +kernel)) rfl
theorem wml_RX7_104 : Cond.methodLink RX7 104 yX7_isSameSound ∈ gTbl := gTbl_of (List.mem_of_getElem? (i := 1088) (by decide +kernel)) rfl
theorem winst_X7_isSameSound : Cond.instanceMethod yX7_isSameSound ∈ gTbl := gTbl_of (List.mem_of_getElem? (i := 1090) (by decide +kernel)) rfl
theorem wsel_X7_isSameSound : Cond.selects RX7 yX7_isSameSound yX7_isSameSound ∈ gTbl := gTbl_sel (List.mem_of_getElem? (i := 40) (by decide +kernel)) rfl
theorem wcode_X7_isSameSound : Cond.code yX7_isSameSound cX7_isSameSound 7 (some .boolean) ∈ gTbl := gTbl_of (List.mem_of_getElem? (i := 1091) (by decide +kernel)) rfl
theorem wml_RX7_108 : Cond.methodLink RX7 108 yX7_noCards ∈ gTbl := gTbl_of (List.mem_of_getElem? (i := 1072) (by decide +kernel)) rfl
theorem winst_X7_noCards : Cond.instanceMethod yX7_noCards ∈ gTbl := gTbl_of (List.mem_of_getElem? (i := 1074) (by decide +kernel)) rfl
theorem wsel_X7_noCards : Cond.selects RX7 yX7_noCards yX7_noCards ∈ gTbl := gTbl_sel (List.mem_of_getElem? (i := 36) (by decide +kernel)) rfl
theorem wcode_X7_noCards : Cond.code yX7_noCards cX7_noCards 3 (some .boolean) ∈ gTbl := gTbl_of (List.mem_of_getElem? (i := 1075) (by decide +kernel)) rfl
theorem wml_RX7_111 : Cond.methodLink RX7 111 yX7_scoreOf ∈ gTbl := gTbl_of (List.mem_of_getElem? (i := 1076) (by decide +kernel)) rfl
theorem winst_X7_scoreOf : Cond.instanceMethod yX7_scoreOf ∈ gTbl := gTbl_of (List.mem_of_getElem? (i := 1078) (by decide +kernel)) rfl
theorem wsel_X7_scoreOf : Cond.selects RX7 yX7_scoreOf yX7_scoreOf ∈ gTbl := gTbl_sel (List.mem_of_getElem? (i := 37) (by decide +kernel)) rfl
theorem wcode_X7_scoreOf : Cond.code yX7_scoreOf cX7_scoreOf 5 (some .int) ∈ gTbl := gTbl_of (List.mem_of_getElem? (i := 1079) (by decide +kernel)) rfl
theorem wfl_RX7_38 : Cond.fieldLink RX7 38 "CardmeldModel" "of" "[I" ∈ gTbl := gTbl_of (List.mem_of_getElem? (i := 932) (by decide +kernel)) rfl
theorem wfl_RX7_115 : Cond.fieldLink RX7 115 "CardmeldModel" "merges" "I" ∈ gTbl := gTbl_of (List.mem_of_getElem? (i := 918) (by decide +kernel)) rfl
theorem wfl_RX7_54 : Cond.fieldLink RX7 54 "CardmeldModel" "isStanding" "[Z" ∈ gTbl := gTbl_of (List.mem_of_getElem? (i := 937) (by decide +kernel)) rfl
theorem wfl_RX7_32 : Cond.fieldLink RX7 32 "CardmeldModel" "mergeOne" "[I" ∈ gTbl := gTbl_of (List.mem_of_getElem? (i := 930) (by decide +kernel)) rfl
theorem wfl_RX7_35 : Cond.fieldLink RX7 35 "CardmeldModel" "mergeOther" "[I" ∈ gTbl := gTbl_of (List.mem_of_getElem? (i := 931) (by decide +kernel)) rfl
theorem wfl_RX7_58 : Cond.fieldLink RX7 58 "CardmeldModel" "isForbidden" "[Z" ∈ gTbl := gTbl_of (List.mem_of_getElem? (i := 938) (by decide +kernel)) rfl
theorem wml_RX7_118 : Cond.methodLink RX7 118 yX7_isPair ∈ gTbl := gTbl_of (List.mem_of_getElem? (i := 1108) (by decide +kernel)) rfl
theorem winst_X7_isPair : Cond.instanceMethod yX7_isPair ∈ gTbl := gTbl_of (List.mem_of_getElem? (i := 1110) (by decide +kernel)) rfl
theorem wsel_X7_isPair : Cond.selects RX7 yX7_isPair yX7_isPair ∈ gTbl := gTbl_sel (List.mem_of_getElem? (i := 44) (by decide +kernel)) rfl
theorem wcode_X7_isPair : Cond.code yX7_isPair cX7_isPair 3 (some .boolean) ∈ gTbl := gTbl_of (List.mem_of_getElem? (i := 1111) (by decide +kernel)) rfl
theorem wfl_RX7_121 : Cond.fieldLink RX7 121 "CardmeldModel" "one" "I" ∈ gTbl := gTbl_of (List.mem_of_getElem? (i := 922) (by decide +kernel)) rfl
theorem wfl_RX7_124 : Cond.fieldLink RX7 124 "CardmeldModel" "other" "I" ∈ gTbl := gTbl_of (List.mem_of_getElem? (i := 923) (by decide +kernel)) rfl
theorem wml_RX7_127 : Cond.methodLink RX7 127 yX7_isBarred ∈ gTbl := gTbl_of (List.mem_of_getElem? (i := 1104) (by decide +kernel)) rfl
theorem winst_X7_isBarred : Cond.instanceMethod yX7_isBarred ∈ gTbl := gTbl_of (List.mem_of_getElem? (i := 1106) (by decide +kernel)) rfl
theorem wsel_X7_isBarred : Cond.selects RX7 yX7_isBarred yX7_isBarred ∈ gTbl := gTbl_sel (List.mem_of_getElem? (i := 43) (by decide +kernel)) rfl
theorem wcode_X7_isBarred : Cond.code yX7_isBarred cX7_isBarred 5 (some .boolean) ∈ gTbl := gTbl_of (List.mem_of_getElem? (i := 1107) (by decide +kernel)) rfl
theorem wml_RX7_130 : Cond.methodLink RX7 130 yX7_gather ∈ gTbl := gTbl_of (List.mem_of_getElem? (i := 1096) (by decide +kernel)) rfl
theorem winst_X7_gather : Cond.instanceMethod yX7_gather ∈ gTbl := gTbl_of (List.mem_of_getElem? (i := 1098) (by decide +kernel)) rfl
theorem wsel_X7_gather : Cond.selects RX7 yX7_gather yX7_gather ∈ gTbl := gTbl_sel (List.mem_of_getElem? (i := 41) (by decide +kernel)) rfl
theorem wcode_X7_gather : Cond.code yX7_gather cX7_gather 4 none ∈ gTbl := gTbl_of (List.mem_of_getElem? (i := 1099) (by decide +kernel)) rfl
theorem wml_RX7_133 : Cond.methodLink RX7 133 yX7_areCandidates ∈ gTbl := gTbl_of (List.mem_of_getElem? (i := 1100) (by decide +kernel)) rfl
theorem winst_X7_areCandidates : Cond.instanceMethod yX7_areCandidates ∈ gTbl := gTbl_of (List.mem_of_getElem? (i := 1102) (by decide +kernel)) rfl
theorem wsel_X7_areCandidates : Cond.selects RX7 yX7_areCandidates yX7_areCandidates ∈ gTbl := gTbl_sel (List.mem_of_getElem? (i := 42) (by decide +kernel)) rfl
theorem wcode_X7_areCandidates : Cond.code yX7_areCandidates cX7_areCandidates 5 (some .boolean) ∈ gTbl := gTbl_of (List.mem_of_getElem? (i := 1103) (by decide +kernel)) rfl
theorem wml_RX7_136 : Cond.methodLink RX7 136 yX7_noBest ∈ gTbl := gTbl_of (List.mem_of_getElem? (i := 1116) (by decide +kernel)) rfl
theorem winst_X7_noBest : Cond.instanceMethod yX7_noBest ∈ gTbl := gTbl_of (List.mem_of_getElem? (i := 1118) (by decide +kernel)) rfl
theorem wsel_X7_noBest : Cond.selects RX7 yX7_noBest yX7_noBest ∈ gTbl := gTbl_sel (List.mem_of_getElem? (i := 45) (by decide +kernel)) rfl
theorem wcode_X7_noBest : Cond.code yX7_noBest cX7_noBest 5 (some .boolean) ∈ gTbl := gTbl_of (List.mem_of_getElem? (i := 1119) (by decide +kernel)) rfl
theorem wml_RX7_140 : Cond.methodLink RX7 140 yX7_bestScore ∈ gTbl := gTbl_of (List.mem_of_getElem? (i := 1124) (by decide +kernel)) rfl
theorem winst_X7_bestScore : Cond.instanceMethod yX7_bestScore ∈ gTbl := gTbl_of (List.mem_of_getElem? (i := 1113) (by decide +kernel)) rfl
theorem wsel_X7_bestScore : Cond.selects RX7 yX7_bestScore yX7_bestScore ∈ gTbl := gTbl_of (List.mem_of_getElem? (i := 1114) (by decide +kernel)) rfl
theorem wcode_X7_bestScore : Cond.code yX7_bestScore cX7_bestScore 1 (some .int) ∈ gTbl := gTbl_of (List.mem_of_getElem? (i := 1115) (by decide +kernel)) rfl
theorem wfl_RX7_144 : Cond.fieldLink RX7 144 "CardmeldModel" "pairs" "I" ∈ gTbl := gTbl_of (List.mem_of_getElem? (i := 919) (by decide +kernel)) rfl
theorem wml_RX7_147 : Cond.methodLink RX7 147 yX7_noBar ∈ gTbl := gTbl_of (List.mem_of_getElem? (i := 1149) (by decide +kernel)) rfl
theorem winst_X7_noBar : Cond.instanceMethod yX7_noBar ∈ gTbl := gTbl_of (List.mem_of_getElem? (i := 1151) (by decide +kernel)) rfl
theorem wsel_X7_noBar : Cond.selects RX7 yX7_noBar yX7_noBar ∈ gTbl := gTbl_sel (List.mem_of_getElem? (i := 46) (by decide +kernel)) rfl
theorem wcode_X7_noBar : Cond.code yX7_noBar cX7_noBar 3 (some .boolean) ∈ gTbl := gTbl_of (List.mem_of_getElem? (i := 1152) (by decide +kernel)) rfl
theorem wml_RX7_150 : Cond.methodLink RX7 150 yX7_makes ∈ gTbl := gTbl_of (List.mem_of_getElem? (i := 1161) (by decide +kernel)) rfl
theorem winst_X7_makes : Cond.instanceMethod yX7_makes ∈ gTbl := gTbl_of (List.mem_of_getElem? (i := 1163) (by decide +kernel)) rfl
theorem wsel_X7_makes : Cond.selects RX7 yX7_makes yX7_makes ∈ gTbl := gTbl_sel (List.mem_of_getElem? (i := 47) (by decide +kernel)) rfl
theorem wcode_X7_makes : Cond.code yX7_makes cX7_makes 3 (some .int) ∈ gTbl := gTbl_of (List.mem_of_getElem? (i := 1164) (by decide +kernel)) rfl
theorem wml_RX7_153 : Cond.methodLink RX7 153 yX7_noMerge ∈ gTbl := gTbl_of (List.mem_of_getElem? (i := 1173) (by decide +kernel)) rfl
theorem winst_X7_noMerge : Cond.instanceMethod yX7_noMerge ∈ gTbl := gTbl_of (List.mem_of_getElem? (i := 1175) (by decide +kernel)) rfl
theorem wsel_X7_noMerge : Cond.selects RX7 yX7_noMerge yX7_noMerge ∈ gTbl := gTbl_sel (List.mem_of_getElem? (i := 48) (by decide +kernel)) rfl
theorem wcode_X7_noMerge : Cond.code yX7_noMerge cX7_noMerge 2 (some .boolean) ∈ gTbl := gTbl_of (List.mem_of_getElem? (i := 1176) (by decide +kernel)) rfl
theorem wml_RX7_156 : Cond.methodLink RX7 156 yX7_persons ∈ gTbl := gTbl_of (List.mem_of_getElem? (i := 1177) (by decide +kernel)) rfl
theorem winst_X7_persons : Cond.instanceMethod yX7_persons ∈ gTbl := gTbl_of (List.mem_of_getElem? (i := 1178) (by decide +kernel)) rfl
theorem wsel_X7_persons : Cond.selects RX7 yX7_persons yX7_persons ∈ gTbl := gTbl_of (List.mem_of_getElem? (i := 1179) (by decide +kernel)) rfl
theorem wcode_X7_persons : Cond.code yX7_persons cX7_persons 3 (some .int) ∈ gTbl := gTbl_of (List.mem_of_getElem? (i := 1180) (by decide +kernel)) rfl
theorem wfl_RX7_41 : Cond.fieldLink RX7 41 "CardmeldModel" "far" "[I" ∈ gTbl := gTbl_of (List.mem_of_getElem? (i := 933) (by decide +kernel)) rfl
theorem wml_RX7_159 : Cond.methodLink RX7 159 yX7_person ∈ gTbl := gTbl_of (List.mem_of_getElem? (i := 1197) (by decide +kernel)) rfl
theorem winst_X7_person : Cond.instanceMethod yX7_person ∈ gTbl := gTbl_of (List.mem_of_getElem? (i := 1190) (by decide +kernel)) rfl
theorem wsel_X7_person : Cond.selects RX7 yX7_person yX7_person ∈ gTbl := gTbl_of (List.mem_of_getElem? (i := 1191) (by decide +kernel)) rfl
theorem wcode_X7_person : Cond.code yX7_person cX7_person 2 (some .int) ∈ gTbl := gTbl_of (List.mem_of_getElem? (i := 1192) (by decide +kernel)) rfl
theorem wml_RX7_162 : Cond.methodLink RX7 162 yX7_sizeOf ∈ gTbl := gTbl_of (List.mem_of_getElem? (i := 1203) (by decide +kernel)) rfl
theorem winst_X7_sizeOf : Cond.instanceMethod yX7_sizeOf ∈ gTbl := gTbl_of (List.mem_of_getElem? (i := 1205) (by decide +kernel)) rfl
theorem wsel_X7_sizeOf : Cond.selects RX7 yX7_sizeOf yX7_sizeOf ∈ gTbl := gTbl_sel (List.mem_of_getElem? (i := 49) (by decide +kernel)) rfl
theorem wcode_X7_sizeOf : Cond.code yX7_sizeOf cX7_sizeOf 4 (some .int) ∈ gTbl := gTbl_of (List.mem_of_getElem? (i := 1206) (by decide +kernel)) rfl
theorem wml_RX7_165 : Cond.methodLink RX7 165 yX7_isDisputed ∈ gTbl := gTbl_of (List.mem_of_getElem? (i := 1215) (by decide +kernel)) rfl
theorem winst_X7_isDisputed : Cond.instanceMethod yX7_isDisputed ∈ gTbl := gTbl_of (List.mem_of_getElem? (i := 1217) (by decide +kernel)) rfl
theorem wsel_X7_isDisputed : Cond.selects RX7 yX7_isDisputed yX7_isDisputed ∈ gTbl := gTbl_sel (List.mem_of_getElem? (i := 50) (by decide +kernel)) rfl
theorem wcode_X7_isDisputed : Cond.code yX7_isDisputed cX7_isDisputed 5 (some .boolean) ∈ gTbl := gTbl_of (List.mem_of_getElem? (i := 1218) (by decide +kernel)) rfl
theorem wfl_RX7_61 : Cond.fieldLink RX7 61 "CardmeldModel" "isIn" "[Z" ∈ gTbl := gTbl_of (List.mem_of_getElem? (i := 939) (by decide +kernel)) rfl
theorem wml_RX7_168 : Cond.methodLink RX7 168 yX7_noGroup ∈ gTbl := gTbl_of (List.mem_of_getElem? (i := 1223) (by decide +kernel)) rfl
theorem winst_X7_noGroup : Cond.instanceMethod yX7_noGroup ∈ gTbl := gTbl_of (List.mem_of_getElem? (i := 1225) (by decide +kernel)) rfl
theorem wsel_X7_noGroup : Cond.selects RX7 yX7_noGroup yX7_noGroup ∈ gTbl := gTbl_sel (List.mem_of_getElem? (i := 51) (by decide +kernel)) rfl
theorem wcode_X7_noGroup : Cond.code yX7_noGroup cX7_noGroup 3 (some .boolean) ∈ gTbl := gTbl_of (List.mem_of_getElem? (i := 1226) (by decide +kernel)) rfl
theorem wml_RX7_171 : Cond.methodLink RX7 171 yX7_cardsIn ∈ gTbl := gTbl_of (List.mem_of_getElem? (i := 1227) (by decide +kernel)) rfl
theorem winst_X7_cardsIn : Cond.instanceMethod yX7_cardsIn ∈ gTbl := gTbl_of (List.mem_of_getElem? (i := 1229) (by decide +kernel)) rfl
theorem wsel_X7_cardsIn : Cond.selects RX7 yX7_cardsIn yX7_cardsIn ∈ gTbl := gTbl_sel (List.mem_of_getElem? (i := 52) (by decide +kernel)) rfl
theorem wcode_X7_cardsIn : Cond.code yX7_cardsIn cX7_cardsIn 4 (some .int) ∈ gTbl := gTbl_of (List.mem_of_getElem? (i := 1230) (by decide +kernel)) rfl
theorem wml_RX7_174 : Cond.methodLink RX7 174 yX7_hasCard ∈ gTbl := gTbl_of (List.mem_of_getElem? (i := 1239) (by decide +kernel)) rfl
theorem winst_X7_hasCard : Cond.instanceMethod yX7_hasCard ∈ gTbl := gTbl_of (List.mem_of_getElem? (i := 1241) (by decide +kernel)) rfl
theorem wsel_X7_hasCard : Cond.selects RX7 yX7_hasCard yX7_hasCard ∈ gTbl := gTbl_sel (List.mem_of_getElem? (i := 53) (by decide +kernel)) rfl
theorem wcode_X7_hasCard : Cond.code yX7_hasCard cX7_hasCard 4 (some .boolean) ∈ gTbl := gTbl_of (List.mem_of_getElem? (i := 1242) (by decide +kernel)) rfl
theorem wfl_RX7_177 : Cond.fieldLink RX7 177 "CardmeldModel" "typed" "I" ∈ gTbl := gTbl_of (List.mem_of_getElem? (i := 921) (by decide +kernel)) rfl
theorem wml_RX7_180 : Cond.methodLink RX7 180 yX7_isFound ∈ gTbl := gTbl_of (List.mem_of_getElem? (i := 1263) (by decide +kernel)) rfl
theorem winst_X7_isFound : Cond.instanceMethod yX7_isFound ∈ gTbl := gTbl_of (List.mem_of_getElem? (i := 1265) (by decide +kernel)) rfl
theorem wsel_X7_isFound : Cond.selects RX7 yX7_isFound yX7_isFound ∈ gTbl := gTbl_sel (List.mem_of_getElem? (i := 55) (by decide +kernel)) rfl
theorem wcode_X7_isFound : Cond.code yX7_isFound cX7_isFound 4 (some .boolean) ∈ gTbl := gTbl_of (List.mem_of_getElem? (i := 1266) (by decide +kernel)) rfl
theorem wml_RX7_184 : Cond.methodLink RX7 184 yX7_finds ∈ gTbl := gTbl_of (List.mem_of_getElem? (i := 1259) (by decide +kernel)) rfl
theorem winst_X7_finds : Cond.instanceMethod yX7_finds ∈ gTbl := gTbl_of (List.mem_of_getElem? (i := 1261) (by decide +kernel)) rfl
theorem wsel_X7_finds : Cond.selects RX7 yX7_finds yX7_finds ∈ gTbl := gTbl_sel (List.mem_of_getElem? (i := 54) (by decide +kernel)) rfl
theorem wcode_X7_finds : Cond.code yX7_finds cX7_finds 7 (some .int) ∈ gTbl := gTbl_of (List.mem_of_getElem? (i := 1262) (by decide +kernel)) rfl
theorem wcw_L_addSource : Cond.codeWith yL_addSource cL_addSource 4 (some .int) [(0, 9, 12, 13), (0, 9, 15, 15)] ∈ gTbl := gTbl_of (List.mem_of_getElem? (i := 297) (by decide +kernel)) rfl
theorem wml_RL_7 : Cond.methodLink RL 7 yX6_addSource ∈ gTbl := gTbl_of (List.mem_of_getElem? (i := 300) (by decide +kernel)) rfl
theorem winst_X6_addSource : Cond.instanceMethod yX6_addSource ∈ gTbl := gTbl_of (List.mem_of_getElem? (i := 301) (by decide +kernel)) rfl
theorem wsel_X6_addSource : Cond.selects RX6 yX6_addSource yX6_addSource ∈ gTbl := gTbl_of (List.mem_of_getElem? (i := 302) (by decide +kernel)) rfl
theorem wcode_X6_addSource : Cond.code yX6_addSource cX6_addSource 2 (some .int) ∈ gTbl := gTbl_of (List.mem_of_getElem? (i := 303) (by decide +kernel)) rfl
theorem wcl_RL_13 : Cond.classLink RL 13 "java/lang/IllegalArgumentException" ∈ gTbl := gTbl_of (List.mem_of_getElem? (i := 298) (by decide +kernel)) rfl
theorem wcast_java_lang_IllegalArgumentException : Cond.castable "java/lang/IllegalArgumentException" "java/lang/IllegalArgumentException" ∈ gTbl := gTbl_of (List.mem_of_getElem? (i := 310) (by decide +kernel)) rfl
theorem wcl_RL_15 : Cond.classLink RL 15 "java/lang/IllegalStateException" ∈ gTbl := gTbl_of (List.mem_of_getElem? (i := 299) (by decide +kernel)) rfl
theorem wcast_java_lang_IllegalStateException : Cond.castable "java/lang/IllegalStateException" "java/lang/IllegalStateException" ∈ gTbl := gTbl_of (List.mem_of_getElem? (i := 380) (by decide +kernel)) rfl
theorem wcw_L_setRank : Cond.codeWith yL_setRank cL_setRank 5 (some .int) [(0, 10, 13, 21), (0, 10, 17, 13)] ∈ gTbl := gTbl_of (List.mem_of_getElem? (i := 396) (by decide +kernel)) rfl
theorem wml_RL_17 : Cond.methodLink RL 17 yX6_setRank ∈ gTbl := gTbl_of (List.mem_of_getElem? (i := 398) (by decide +kernel)) rfl
theorem winst_X6_setRank : Cond.instanceMethod yX6_setRank ∈ gTbl := gTbl_of (List.mem_of_getElem? (i := 399) (by decide +kernel)) rfl
theorem wsel_X6_setRank : Cond.selects RX6 yX6_setRank yX6_setRank ∈ gTbl := gTbl_of (List.mem_of_getElem? (i := 400) (by decide +kernel)) rfl
theorem wcode_X6_setRank : Cond.code yX6_setRank cX6_setRank 4 (some .int) ∈ gTbl := gTbl_of (List.mem_of_getElem? (i := 401) (by decide +kernel)) rfl
theorem wcl_RL_21 : Cond.classLink RL 21 "java/lang/IndexOutOfBoundsException" ∈ gTbl := gTbl_of (List.mem_of_getElem? (i := 397) (by decide +kernel)) rfl
theorem wcast_java_lang_IndexOutOfBoundsException : Cond.castable "java/lang/IndexOutOfBoundsException" "java/lang/IndexOutOfBoundsException" ∈ gTbl := gTbl_of (List.mem_of_getElem? (i := 408) (by decide +kernel)) rfl
theorem wcw_L_addCard : Cond.codeWith yL_addCard cL_addCard 4 (some .int) [(0, 9, 12, 21), (0, 9, 15, 15)] ∈ gTbl := gTbl_of (List.mem_of_getElem? (i := 424) (by decide +kernel)) rfl
theorem wml_RL_23 : Cond.methodLink RL 23 yX6_addCard ∈ gTbl := gTbl_of (List.mem_of_getElem? (i := 425) (by decide +kernel)) rfl
theorem winst_X6_addCard : Cond.instanceMethod yX6_addCard ∈ gTbl := gTbl_of (List.mem_of_getElem? (i := 426) (by decide +kernel)) rfl
theorem wsel_X6_addCard : Cond.selects RX6 yX6_addCard yX6_addCard ∈ gTbl := gTbl_of (List.mem_of_getElem? (i := 427) (by decide +kernel)) rfl
theorem wcode_X6_addCard : Cond.code yX6_addCard cX6_addCard 2 (some .int) ∈ gTbl := gTbl_of (List.mem_of_getElem? (i := 428) (by decide +kernel)) rfl
theorem wcw_L_letter : Cond.codeWith yL_letter cL_letter 5 (some .int) [(0, 10, 13, 21), (0, 10, 17, 13), (0, 10, 21, 15)] ∈ gTbl := gTbl_of (List.mem_of_getElem? (i := 432) (by decide +kernel)) rfl
theorem wml_RL_26 : Cond.methodLink RL 26 yX6_letter ∈ gTbl := gTbl_of (List.mem_of_getElem? (i := 433) (by decide +kernel)) rfl
theorem winst_X6_letter : Cond.instanceMethod yX6_letter ∈ gTbl := gTbl_of (List.mem_of_getElem? (i := 434) (by decide +kernel)) rfl
theorem wsel_X6_letter : Cond.selects RX6 yX6_letter yX6_letter ∈ gTbl := gTbl_of (List.mem_of_getElem? (i := 435) (by decide +kernel)) rfl
theorem wcode_X6_letter : Cond.code yX6_letter cX6_letter 3 (some .int) ∈ gTbl := gTbl_of (List.mem_of_getElem? (i := 436) (by decide +kernel)) rfl
theorem wcw_L_clearName : Cond.codeWith yL_clearName cL_clearName 4 (some .int) [(0, 9, 12, 21)] ∈ gTbl := gTbl_of (List.mem_of_getElem? (i := 465) (by decide +kernel)) rfl
theorem wml_RL_30 : Cond.methodLink RL 30 yX6_clearName ∈ gTbl := gTbl_of (List.mem_of_getElem? (i := 466) (by decide +kernel)) rfl
theorem winst_X6_clearName : Cond.instanceMethod yX6_clearName ∈ gTbl := gTbl_of (List.mem_of_getElem? (i := 467) (by decide +kernel)) rfl
theorem wsel_X6_clearName : Cond.selects RX6 yX6_clearName yX6_clearName ∈ gTbl := gTbl_of (List.mem_of_getElem? (i := 468) (by decide +kernel)) rfl
theorem wcode_X6_clearName : Cond.code yX6_clearName cX6_clearName 2 (some .int) ∈ gTbl := gTbl_of (List.mem_of_getElem? (i := 469) (by decide +kernel)) rfl
theorem wcw_L_setNumber : Cond.codeWith yL_setNumber cL_setNumber 6 (some .int) [(0, 12, 15, 21), (0, 12, 19, 13)] ∈ gTbl := gTbl_of (List.mem_of_getElem? (i := 472) (by decide +kernel)) rfl
theorem wml_RL_33 : Cond.methodLink RL 33 yX6_setNumber ∈ gTbl := gTbl_of (List.mem_of_getElem? (i := 473) (by decide +kernel)) rfl
theorem winst_X6_setNumber : Cond.instanceMethod yX6_setNumber ∈ gTbl := gTbl_of (List.mem_of_getElem? (i := 474) (by decide +kernel)) rfl
theorem wsel_X6_setNumber : Cond.selects RX6 yX6_setNumber yX6_setNumber ∈ gTbl := gTbl_of (List.mem_of_getElem? (i := 475) (by decide +kernel)) rfl
theorem wcode_X6_setNumber : Cond.code yX6_setNumber cX6_setNumber 5 (some .int) ∈ gTbl := gTbl_of (List.mem_of_getElem? (i := 476) (by decide +kernel)) rfl
theorem wcw_L_nameLength : Cond.codeWith yL_nameLength cL_nameLength 4 (some .int) [(0, 9, 12, 21)] ∈ gTbl := gTbl_of (List.mem_of_getElem? (i := 485) (by decide +kernel)) rfl
theorem wml_RL_37 : Cond.methodLink RL 37 yX6_nameLength ∈ gTbl := gTbl_of (List.mem_of_getElem? (i := 486) (by decide +kernel)) rfl
theorem winst_X6_nameLength : Cond.instanceMethod yX6_nameLength ∈ gTbl := gTbl_of (List.mem_of_getElem? (i := 487) (by decide +kernel)) rfl
theorem wsel_X6_nameLength : Cond.selects RX6 yX6_nameLength yX6_nameLength ∈ gTbl := gTbl_of (List.mem_of_getElem? (i := 488) (by decide +kernel)) rfl
theorem wcode_X6_nameLength : Cond.code yX6_nameLength cX6_nameLength 2 (some .int) ∈ gTbl := gTbl_of (List.mem_of_getElem? (i := 489) (by decide +kernel)) rfl
theorem wcw_L_nameAt : Cond.codeWith yL_nameAt cL_nameAt 5 (some .int) [(0, 10, 13, 21), (0, 10, 17, 44)] ∈ gTbl := gTbl_of (List.mem_of_getElem? (i := 492) (by decide +kernel)) rfl
theorem wml_RL_40 : Cond.methodLink RL 40 yX6_nameAt ∈ gTbl := gTbl_of (List.mem_of_getElem? (i := 494) (by decide +kernel)) rfl
theorem winst_X6_nameAt : Cond.instanceMethod yX6_nameAt ∈ gTbl := gTbl_of (List.mem_of_getElem? (i := 495) (by decide +kernel)) rfl
theorem wsel_X6_nameAt : Cond.selects RX6 yX6_nameAt yX6_nameAt ∈ gTbl := gTbl_of (List.mem_of_getElem? (i := 496) (by decide +kernel)) rfl
theorem wcode_X6_nameAt : Cond.code yX6_nameAt cX6_nameAt 4 (some .char) ∈ gTbl := gTbl_of (List.mem_of_getElem? (i := 497) (by decide +kernel)) rfl
theorem wcl_RL_44 : Cond.classLink RL 44 "java/util/NoSuchElementException" ∈ gTbl := gTbl_of (List.mem_of_getElem? (i := 493) (by decide +kernel)) rfl
theorem wcast_java_util_NoSuchElementException : Cond.castable "java/util/NoSuchElementException" "java/util/NoSuchElementException" ∈ gTbl := gTbl_of (List.mem_of_getElem? (i := 500) (by decide +kernel)) rfl
theorem wcw_L_soundAt : Cond.codeWith yL_soundAt cL_soundAt 5 (some .int) [(0, 10, 13, 21), (0, 10, 17, 44)] ∈ gTbl := gTbl_of (List.mem_of_getElem? (i := 516) (by decide +kernel)) rfl
theorem wml_RL_46 : Cond.methodLink RL 46 yX6_soundAt ∈ gTbl := gTbl_of (List.mem_of_getElem? (i := 517) (by decide +kernel)) rfl
theorem winst_X6_soundAt : Cond.instanceMethod yX6_soundAt ∈ gTbl := gTbl_of (List.mem_of_getElem? (i := 518) (by decide +kernel)) rfl
theorem wsel_X6_soundAt : Cond.selects RX6 yX6_soundAt yX6_soundAt ∈ gTbl := gTbl_of (List.mem_of_getElem? (i := 519) (by decide +kernel)) rfl
theorem wcode_X6_soundAt : Cond.code yX6_soundAt cX6_soundAt 4 (some .char) ∈ gTbl := gTbl_of (List.mem_of_getElem? (i := 520) (by decide +kernel)) rfl
theorem wcw_L_number : Cond.codeWith yL_number cL_number 5 (some .int) [(0, 10, 13, 21), (0, 10, 17, 13)] ∈ gTbl := gTbl_of (List.mem_of_getElem? (i := 524) (by decide +kernel)) rfl
theorem wml_RL_49 : Cond.methodLink RL 49 yX6_number ∈ gTbl := gTbl_of (List.mem_of_getElem? (i := 525) (by decide +kernel)) rfl
theorem winst_X6_number : Cond.instanceMethod yX6_number ∈ gTbl := gTbl_of (List.mem_of_getElem? (i := 526) (by decide +kernel)) rfl
theorem wsel_X6_number : Cond.selects RX6 yX6_number yX6_number ∈ gTbl := gTbl_of (List.mem_of_getElem? (i := 527) (by decide +kernel)) rfl
theorem wcode_X6_number : Cond.code yX6_number cX6_number 3 (some .int) ∈ gTbl := gTbl_of (List.mem_of_getElem? (i := 528) (by decide +kernel)) rfl
theorem wcw_L_setWeights : Cond.codeWith yL_setWeights cL_setWeights 6 (some .int) [(0, 12, 15, 13)] ∈ gTbl := gTbl_of (List.mem_of_getElem? (i := 531) (by decide +kernel)) rfl
theorem wml_RL_52 : Cond.methodLink RL 52 yX6_setWeights ∈ gTbl := gTbl_of (List.mem_of_getElem? (i := 532) (by decide +kernel)) rfl
theorem winst_X6_setWeights : Cond.instanceMethod yX6_setWeights ∈ gTbl := gTbl_of (List.mem_of_getElem? (i := 533) (by decide +kernel)) rfl
theorem wsel_X6_setWeights : Cond.selects RX6 yX6_setWeights yX6_setWeights ∈ gTbl := gTbl_of (List.mem_of_getElem? (i := 534) (by decide +kernel)) rfl
theorem wcode_X6_setWeights : Cond.code yX6_setWeights cX6_setWeights 5 (some .int) ∈ gTbl := gTbl_of (List.mem_of_getElem? (i := 535) (by decide +kernel)) rfl
theorem wcw_L_setThreshold : Cond.codeWith yL_setThreshold cL_setThreshold 4 (some .int) [(0, 9, 12, 13)] ∈ gTbl := gTbl_of (List.mem_of_getElem? (i := 548) (by decide +kernel)) rfl
theorem wml_RL_55 : Cond.methodLink RL 55 yX6_setThreshold ∈ gTbl := gTbl_of (List.mem_of_getElem? (i := 549) (by decide +kernel)) rfl
theorem winst_X6_setThreshold : Cond.instanceMethod yX6_setThreshold ∈ gTbl := gTbl_of (List.mem_of_getElem? (i := 550) (by decide +kernel)) rfl
theorem wsel_X6_setThreshold : Cond.selects RX6 yX6_setThreshold yX6_setThreshold ∈ gTbl := gTbl_of (List.mem_of_getElem? (i := 551) (by decide +kernel)) rfl
theorem wcode_X6_setThreshold : Cond.code yX6_setThreshold cX6_setThreshold 3 (some .int) ∈ gTbl := gTbl_of (List.mem_of_getElem? (i := 552) (by decide +kernel)) rfl
theorem wcw_L_score : Cond.codeWith yL_score cL_score 5 (some .int) [(0, 10, 13, 21), (0, 10, 17, 13)] ∈ gTbl := gTbl_of (List.mem_of_getElem? (i := 556) (by decide +kernel)) rfl
theorem wml_RL_58 : Cond.methodLink RL 58 yX6_score ∈ gTbl := gTbl_of (List.mem_of_getElem? (i := 557) (by decide +kernel)) rfl
theorem winst_X6_score : Cond.instanceMethod yX6_score ∈ gTbl := gTbl_of (List.mem_of_getElem? (i := 558) (by decide +kernel)) rfl
theorem wsel_X6_score : Cond.selects RX6 yX6_score yX6_score ∈ gTbl := gTbl_of (List.mem_of_getElem? (i := 559) (by decide +kernel)) rfl
theorem wcode_X6_score : Cond.code yX6_score cX6_score 3 (some .int) ∈ gTbl := gTbl_of (List.mem_of_getElem? (i := 560) (by decide +kernel)) rfl
theorem wcw_L_bestScore : Cond.codeWith yL_bestScore cL_bestScore 3 (some .int) [(0, 8, 11, 44)] ∈ gTbl := gTbl_of (List.mem_of_getElem? (i := 572) (by decide +kernel)) rfl
theorem wml_RL_61 : Cond.methodLink RL 61 yX6_bestScore ∈ gTbl := gTbl_of (List.mem_of_getElem? (i := 573) (by decide +kernel)) rfl
theorem winst_X6_bestScore : Cond.instanceMethod yX6_bestScore ∈ gTbl := gTbl_of (List.mem_of_getElem? (i := 574) (by decide +kernel)) rfl
theorem wsel_X6_bestScore : Cond.selects RX6 yX6_bestScore yX6_bestScore ∈ gTbl := gTbl_of (List.mem_of_getElem? (i := 575) (by decide +kernel)) rfl
theorem wcode_X6_bestScore : Cond.code yX6_bestScore cX6_bestScore 1 (some .int) ∈ gTbl := gTbl_of (List.mem_of_getElem? (i := 576) (by decide +kernel)) rfl
theorem wcw_L_bestScoreByPairs : Cond.codeWith yL_bestScoreByPairs cL_bestScoreByPairs 3 (some .int) [(0, 8, 11, 44)] ∈ gTbl := gTbl_of (List.mem_of_getElem? (i := 630) (by decide +kernel)) rfl
theorem wml_RL_65 : Cond.methodLink RL 65 yX6_bestScoreByPairs ∈ gTbl := gTbl_of (List.mem_of_getElem? (i := 631) (by decide +kernel)) rfl
theorem winst_X6_bestScoreByPairs : Cond.instanceMethod yX6_bestScoreByPairs ∈ gTbl := gTbl_of (List.mem_of_getElem? (i := 632) (by decide +kernel)) rfl
theorem wsel_X6_bestScoreByPairs : Cond.selects RX6 yX6_bestScoreByPairs yX6_bestScoreByPairs ∈ gTbl := gTbl_of (List.mem_of_getElem? (i := 633) (by decide +kernel)) rfl
theorem wcode_X6_bestScoreByPairs : Cond.code yX6_bestScoreByPairs cX6_bestScoreByPairs 1 (some .int) ∈ gTbl := gTbl_of (List.mem_of_getElem? (i := 634) (by decide +kernel)) rfl
theorem wcw_L_bestOne : Cond.codeWith yL_bestOne cL_bestOne 3 (some .int) [(0, 8, 11, 44)] ∈ gTbl := gTbl_of (List.mem_of_getElem? (i := 641) (by decide +kernel)) rfl
theorem wml_RL_68 : Cond.methodLink RL 68 yX6_bestOne ∈ gTbl := gTbl_of (List.mem_of_getElem? (i := 642) (by decide +kernel)) rfl
theorem winst_X6_bestOne : Cond.instanceMethod yX6_bestOne ∈ gTbl := gTbl_of (List.mem_of_getElem? (i := 643) (by decide +kernel)) rfl
theorem wsel_X6_bestOne : Cond.selects RX6 yX6_bestOne yX6_bestOne ∈ gTbl := gTbl_of (List.mem_of_getElem? (i := 644) (by decide +kernel)) rfl
theorem wcode_X6_bestOne : Cond.code yX6_bestOne cX6_bestOne 1 (some .int) ∈ gTbl := gTbl_of (List.mem_of_getElem? (i := 645) (by decide +kernel)) rfl
theorem wcw_L_bestOther : Cond.codeWith yL_bestOther cL_bestOther 3 (some .int) [(0, 8, 11, 44)] ∈ gTbl := gTbl_of (List.mem_of_getElem? (i := 648) (by decide +kernel)) rfl
theorem wml_RL_71 : Cond.methodLink RL 71 yX6_bestOther ∈ gTbl := gTbl_of (List.mem_of_getElem? (i := 649) (by decide +kernel)) rfl
theorem winst_X6_bestOther : Cond.instanceMethod yX6_bestOther ∈ gTbl := gTbl_of (List.mem_of_getElem? (i := 650) (by decide +kernel)) rfl
theorem wsel_X6_bestOther : Cond.selects RX6 yX6_bestOther yX6_bestOther ∈ gTbl := gTbl_of (List.mem_of_getElem? (i := 651) (by decide +kernel)) rfl
theorem wcode_X6_bestOther : Cond.code yX6_bestOther cX6_bestOther 1 (some .int) ∈ gTbl := gTbl_of (List.mem_of_getElem? (i := 652) (by decide +kernel)) rfl
theorem wcw_L_forbid : Cond.codeWith yL_forbid cL_forbid 5 (some .int) [(0, 10, 13, 21), (0, 10, 17, 13), (0, 10, 21, 77), (0, 10, 25, 15)] ∈ gTbl := gTbl_of (List.mem_of_getElem? (i := 655) (by decide +kernel)) rfl
theorem wml_RL_74 : Cond.methodLink RL 74 yX6_forbid ∈ gTbl := gTbl_of (List.mem_of_getElem? (i := 657) (by decide +kernel)) rfl
theorem winst_X6_forbid : Cond.instanceMethod yX6_forbid ∈ gTbl := gTbl_of (List.mem_of_getElem? (i := 658) (by decide +kernel)) rfl
theorem wsel_X6_forbid : Cond.selects RX6 yX6_forbid yX6_forbid ∈ gTbl := gTbl_of (List.mem_of_getElem? (i := 659) (by decide +kernel)) rfl
theorem wcode_X6_forbid : Cond.code yX6_forbid cX6_forbid 3 (some .int) ∈ gTbl := gTbl_of (List.mem_of_getElem? (i := 660) (by decide +kernel)) rfl
theorem wcl_RL_77 : Cond.classLink RL 77 "java/lang/UnsupportedOperationException" ∈ gTbl := gTbl_of (List.mem_of_getElem? (i := 656) (by decide +kernel)) rfl
theorem wcast_java_lang_UnsupportedOperationException : Cond.castable "java/lang/UnsupportedOperationException" "java/lang/UnsupportedOperationException" ∈ gTbl := gTbl_of (List.mem_of_getElem? (i := 667) (by decide +kernel)) rfl
theorem wcw_L_allow : Cond.codeWith yL_allow cL_allow 5 (some .int) [(0, 10, 13, 21), (0, 10, 17, 44)] ∈ gTbl := gTbl_of (List.mem_of_getElem? (i := 692) (by decide +kernel)) rfl
theorem wml_RL_79 : Cond.methodLink RL 79 yX6_allow ∈ gTbl := gTbl_of (List.mem_of_getElem? (i := 693) (by decide +kernel)) rfl
theorem winst_X6_allow : Cond.instanceMethod yX6_allow ∈ gTbl := gTbl_of (List.mem_of_getElem? (i := 694) (by decide +kernel)) rfl
theorem wsel_X6_allow : Cond.selects RX6 yX6_allow yX6_allow ∈ gTbl := gTbl_of (List.mem_of_getElem? (i := 695) (by decide +kernel)) rfl
theorem wcode_X6_allow : Cond.code yX6_allow cX6_allow 3 (some .int) ∈ gTbl := gTbl_of (List.mem_of_getElem? (i := 696) (by decide +kernel)) rfl
theorem wcw_L_why : Cond.codeWith yL_why cL_why 5 (some .int) [(0, 10, 13, 21)] ∈ gTbl := gTbl_of (List.mem_of_getElem? (i := 704) (by decide +kernel)) rfl
theorem wml_RL_82 : Cond.methodLink RL 82 yX6_why ∈ gTbl := gTbl_of (List.mem_of_getElem? (i := 705) (by decide +kernel)) rfl
theorem winst_X6_why : Cond.instanceMethod yX6_why ∈ gTbl := gTbl_of (List.mem_of_getElem? (i := 706) (by decide +kernel)) rfl
theorem wsel_X6_why : Cond.selects RX6 yX6_why yX6_why ∈ gTbl := gTbl_of (List.mem_of_getElem? (i := 707) (by decide +kernel)) rfl
theorem wcode_X6_why : Cond.code yX6_why cX6_why 3 (some .char) ∈ gTbl := gTbl_of (List.mem_of_getElem? (i := 708) (by decide +kernel)) rfl
theorem wcw_L_barOne : Cond.codeWith yL_barOne cL_barOne 5 (some .int) [(0, 10, 13, 21), (0, 10, 17, 44)] ∈ gTbl := gTbl_of (List.mem_of_getElem? (i := 715) (by decide +kernel)) rfl
theorem wml_RL_85 : Cond.methodLink RL 85 yX6_barOne ∈ gTbl := gTbl_of (List.mem_of_getElem? (i := 716) (by decide +kernel)) rfl
theorem winst_X6_barOne : Cond.instanceMethod yX6_barOne ∈ gTbl := gTbl_of (List.mem_of_getElem? (i := 717) (by decide +kernel)) rfl
theorem wsel_X6_barOne : Cond.selects RX6 yX6_barOne yX6_barOne ∈ gTbl := gTbl_of (List.mem_of_getElem? (i := 718) (by decide +kernel)) rfl
theorem wcode_X6_barOne : Cond.code yX6_barOne cX6_barOne 4 (some .int) ∈ gTbl := gTbl_of (List.mem_of_getElem? (i := 719) (by decide +kernel)) rfl
theorem wcw_L_barOther : Cond.codeWith yL_barOther cL_barOther 5 (some .int) [(0, 10, 13, 21), (0, 10, 17, 44)] ∈ gTbl := gTbl_of (List.mem_of_getElem? (i := 730) (by decide +kernel)) rfl
theorem wml_RL_88 : Cond.methodLink RL 88 yX6_barOther ∈ gTbl := gTbl_of (List.mem_of_getElem? (i := 731) (by decide +kernel)) rfl
theorem winst_X6_barOther : Cond.instanceMethod yX6_barOther ∈ gTbl := gTbl_of (List.mem_of_getElem? (i := 732) (by decide +kernel)) rfl
theorem wsel_X6_barOther : Cond.selects RX6 yX6_barOther yX6_barOther ∈ gTbl := gTbl_of (List.mem_of_getElem? (i := 733) (by decide +kernel)) rfl
theorem wcode_X6_barOther : Cond.code yX6_barOther cX6_barOther 5 (some .int) ∈ gTbl := gTbl_of (List.mem_of_getElem? (i := 734) (by decide +kernel)) rfl
theorem wcw_L_merge : Cond.codeWith yL_merge cL_merge 5 (some .int) [(0, 10, 13, 21), (0, 10, 17, 77), (0, 10, 21, 15)] ∈ gTbl := gTbl_of (List.mem_of_getElem? (i := 737) (by decide +kernel)) rfl
theorem wml_RL_91 : Cond.methodLink RL 91 yX6_merge ∈ gTbl := gTbl_of (List.mem_of_getElem? (i := 738) (by decide +kernel)) rfl
theorem winst_X6_merge : Cond.instanceMethod yX6_merge ∈ gTbl := gTbl_of (List.mem_of_getElem? (i := 739) (by decide +kernel)) rfl
theorem wsel_X6_merge : Cond.selects RX6 yX6_merge yX6_merge ∈ gTbl := gTbl_of (List.mem_of_getElem? (i := 740) (by decide +kernel)) rfl
theorem wcode_X6_merge : Cond.code yX6_merge cX6_merge 3 (some .int) ∈ gTbl := gTbl_of (List.mem_of_getElem? (i := 741) (by decide +kernel)) rfl
theorem wcw_L_mergeBest : Cond.codeWith yL_mergeBest cL_mergeBest 3 (some .int) [(0, 8, 11, 44), (0, 8, 14, 15)] ∈ gTbl := gTbl_of (List.mem_of_getElem? (i := 756) (by decide +kernel)) rfl
theorem wml_RL_94 : Cond.methodLink RL 94 yX6_mergeBest ∈ gTbl := gTbl_of (List.mem_of_getElem? (i := 757) (by decide +kernel)) rfl
theorem winst_X6_mergeBest : Cond.instanceMethod yX6_mergeBest ∈ gTbl := gTbl_of (List.mem_of_getElem? (i := 758) (by decide +kernel)) rfl
theorem wsel_X6_mergeBest : Cond.selects RX6 yX6_mergeBest yX6_mergeBest ∈ gTbl := gTbl_of (List.mem_of_getElem? (i := 759) (by decide +kernel)) rfl
theorem wcode_X6_mergeBest : Cond.code yX6_mergeBest cX6_mergeBest 1 (some .int) ∈ gTbl := gTbl_of (List.mem_of_getElem? (i := 760) (by decide +kernel)) rfl
theorem wcw_L_undo : Cond.codeWith yL_undo cL_undo 4 (some .int) [(0, 9, 12, 21), (0, 9, 15, 15)] ∈ gTbl := gTbl_of (List.mem_of_getElem? (i := 764) (by decide +kernel)) rfl
theorem wml_RL_97 : Cond.methodLink RL 97 yX6_undo ∈ gTbl := gTbl_of (List.mem_of_getElem? (i := 765) (by decide +kernel)) rfl
theorem winst_X6_undo : Cond.instanceMethod yX6_undo ∈ gTbl := gTbl_of (List.mem_of_getElem? (i := 766) (by decide +kernel)) rfl
theorem wsel_X6_undo : Cond.selects RX6 yX6_undo yX6_undo ∈ gTbl := gTbl_of (List.mem_of_getElem? (i := 767) (by decide +kernel)) rfl
theorem wcode_X6_undo : Cond.code yX6_undo cX6_undo 2 (some .int) ∈ gTbl := gTbl_of (List.mem_of_getElem? (i := 768) (by decide +kernel)) rfl
theorem wcw_L_stands : Cond.codeWith yL_stands cL_stands 4 (some .int) [(0, 16, 19, 21)] ∈ gTbl := gTbl_of (List.mem_of_getElem? (i := 782) (by decide +kernel)) rfl
theorem wml_RL_100 : Cond.methodLink RL 100 yX6_stands ∈ gTbl := gTbl_of (List.mem_of_getElem? (i := 783) (by decide +kernel)) rfl
theorem winst_X6_stands : Cond.instanceMethod yX6_stands ∈ gTbl := gTbl_of (List.mem_of_getElem? (i := 784) (by decide +kernel)) rfl
theorem wsel_X6_stands : Cond.selects RX6 yX6_stands yX6_stands ∈ gTbl := gTbl_of (List.mem_of_getElem? (i := 785) (by decide +kernel)) rfl
theorem wcode_X6_stands : Cond.code yX6_stands cX6_stands 2 (some .boolean) ∈ gTbl := gTbl_of (List.mem_of_getElem? (i := 786) (by decide +kernel)) rfl
theorem wcw_L_steps : Cond.codeWith yL_steps cL_steps 5 (some .int) [(0, 10, 13, 21), (0, 10, 17, 44)] ∈ gTbl := gTbl_of (List.mem_of_getElem? (i := 789) (by decide +kernel)) rfl
theorem wml_RL_104 : Cond.methodLink RL 104 yX6_steps ∈ gTbl := gTbl_of (List.mem_of_getElem? (i := 790) (by decide +kernel)) rfl
theorem winst_X6_steps : Cond.instanceMethod yX6_steps ∈ gTbl := gTbl_of (List.mem_of_getElem? (i := 791) (by decide +kernel)) rfl
theorem wsel_X6_steps : Cond.selects RX6 yX6_steps yX6_steps ∈ gTbl := gTbl_of (List.mem_of_getElem? (i := 792) (by decide +kernel)) rfl
theorem wcode_X6_steps : Cond.code yX6_steps cX6_steps 4 (some .int) ∈ gTbl := gTbl_of (List.mem_of_getElem? (i := 793) (by decide +kernel)) rfl
theorem wcw_L_person : Cond.codeWith yL_person cL_person 4 (some .int) [(0, 9, 12, 21)] ∈ gTbl := gTbl_of (List.mem_of_getElem? (i := 802) (by decide +kernel)) rfl
theorem wml_RL_107 : Cond.methodLink RL 107 yX6_person ∈ gTbl := gTbl_of (List.mem_of_getElem? (i := 803) (by decide +kernel)) rfl
theorem winst_X6_person : Cond.instanceMethod yX6_person ∈ gTbl := gTbl_of (List.mem_of_getElem? (i := 804) (by decide +kernel)) rfl
theorem wsel_X6_person : Cond.selects RX6 yX6_person yX6_person ∈ gTbl := gTbl_of (List.mem_of_getElem? (i := 805) (by decide +kernel)) rfl
theorem wcode_X6_person : Cond.code yX6_person cX6_person 2 (some .int) ∈ gTbl := gTbl_of (List.mem_of_getElem? (i := 806) (by decide +kernel)) rfl
theorem wcw_L_personByRounds : Cond.codeWith yL_personByRounds cL_personByRounds 4 (some .int) [(0, 9, 12, 21)] ∈ gTbl := gTbl_of (List.mem_of_getElem? (i := 809) (by decide +kernel)) rfl
theorem wml_RL_110 : Cond.methodLink RL 110 yX6_personByRounds ∈ gTbl := gTbl_of (List.mem_of_getElem? (i := 810) (by decide +kernel)) rfl
theorem winst_X6_personByRounds : Cond.instanceMethod yX6_personByRounds ∈ gTbl := gTbl_of (List.mem_of_getElem? (i := 811) (by decide +kernel)) rfl
theorem wsel_X6_personByRounds : Cond.selects RX6 yX6_personByRounds yX6_personByRounds ∈ gTbl := gTbl_of (List.mem_of_getElem? (i := 812) (by decide +kernel)) rfl
theorem wcode_X6_personByRounds : Cond.code yX6_personByRounds cX6_personByRounds 2 (some .int) ∈ gTbl := gTbl_of (List.mem_of_getElem? (i := 813) (by decide +kernel)) rfl
theorem wcw_L_size : Cond.codeWith yL_size cL_size 4 (some .int) [(0, 9, 12, 21)] ∈ gTbl := gTbl_of (List.mem_of_getElem? (i := 823) (by decide +kernel)) rfl
theorem wml_RL_113 : Cond.methodLink RL 113 yX6_size ∈ gTbl := gTbl_of (List.mem_of_getElem? (i := 824) (by decide +kernel)) rfl
theorem winst_X6_size : Cond.instanceMethod yX6_size ∈ gTbl := gTbl_of (List.mem_of_getElem? (i := 825) (by decide +kernel)) rfl
theorem wsel_X6_size : Cond.selects RX6 yX6_size yX6_size ∈ gTbl := gTbl_of (List.mem_of_getElem? (i := 826) (by decide +kernel)) rfl
theorem wcode_X6_size : Cond.code yX6_size cX6_size 2 (some .int) ∈ gTbl := gTbl_of (List.mem_of_getElem? (i := 827) (by decide +kernel)) rfl
theorem wcw_L_fieldFrom : Cond.codeWith yL_fieldFrom cL_fieldFrom 5 (some .int) [(0, 10, 13, 21), (0, 10, 17, 13), (0, 10, 21, 44)] ∈ gTbl := gTbl_of (List.mem_of_getElem? (i := 830) (by decide +kernel)) rfl
theorem wml_RL_116 : Cond.methodLink RL 116 yX6_fieldFrom ∈ gTbl := gTbl_of (List.mem_of_getElem? (i := 831) (by decide +kernel)) rfl
theorem winst_X6_fieldFrom : Cond.instanceMethod yX6_fieldFrom ∈ gTbl := gTbl_of (List.mem_of_getElem? (i := 832) (by decide +kernel)) rfl
theorem wsel_X6_fieldFrom : Cond.selects RX6 yX6_fieldFrom yX6_fieldFrom ∈ gTbl := gTbl_of (List.mem_of_getElem? (i := 833) (by decide +kernel)) rfl
theorem wcode_X6_fieldFrom : Cond.code yX6_fieldFrom cX6_fieldFrom 4 (some .int) ∈ gTbl := gTbl_of (List.mem_of_getElem? (i := 834) (by decide +kernel)) rfl
theorem wcw_L_conflicts : Cond.codeWith yL_conflicts cL_conflicts 4 (some .int) [(0, 9, 12, 21)] ∈ gTbl := gTbl_of (List.mem_of_getElem? (i := 842) (by decide +kernel)) rfl
theorem wml_RL_119 : Cond.methodLink RL 119 yX6_conflicts ∈ gTbl := gTbl_of (List.mem_of_getElem? (i := 843) (by decide +kernel)) rfl
theorem winst_X6_conflicts : Cond.instanceMethod yX6_conflicts ∈ gTbl := gTbl_of (List.mem_of_getElem? (i := 844) (by decide +kernel)) rfl
theorem wsel_X6_conflicts : Cond.selects RX6 yX6_conflicts yX6_conflicts ∈ gTbl := gTbl_of (List.mem_of_getElem? (i := 845) (by decide +kernel)) rfl
theorem wcode_X6_conflicts : Cond.code yX6_conflicts cX6_conflicts 5 (some .int) ∈ gTbl := gTbl_of (List.mem_of_getElem? (i := 846) (by decide +kernel)) rfl
theorem wcw_L_join : Cond.codeWith yL_join cL_join 5 (some .int) [(0, 10, 13, 21), (0, 10, 17, 15)] ∈ gTbl := gTbl_of (List.mem_of_getElem? (i := 853) (by decide +kernel)) rfl
theorem wml_RL_122 : Cond.methodLink RL 122 yX6_join ∈ gTbl := gTbl_of (List.mem_of_getElem? (i := 854) (by decide +kernel)) rfl
theorem winst_X6_join : Cond.instanceMethod yX6_join ∈ gTbl := gTbl_of (List.mem_of_getElem? (i := 855) (by decide +kernel)) rfl
theorem wsel_X6_join : Cond.selects RX6 yX6_join yX6_join ∈ gTbl := gTbl_of (List.mem_of_getElem? (i := 856) (by decide +kernel)) rfl
theorem wcode_X6_join : Cond.code yX6_join cX6_join 3 (some .int) ∈ gTbl := gTbl_of (List.mem_of_getElem? (i := 857) (by decide +kernel)) rfl
theorem wcw_L_leave : Cond.codeWith yL_leave cL_leave 5 (some .int) [(0, 10, 13, 21), (0, 10, 17, 44)] ∈ gTbl := gTbl_of (List.mem_of_getElem? (i := 866) (by decide +kernel)) rfl
theorem wml_RL_125 : Cond.methodLink RL 125 yX6_leave ∈ gTbl := gTbl_of (List.mem_of_getElem? (i := 867) (by decide +kernel)) rfl
theorem winst_X6_leave : Cond.instanceMethod yX6_leave ∈ gTbl := gTbl_of (List.mem_of_getElem? (i := 868) (by decide +kernel)) rfl
theorem wsel_X6_leave : Cond.selects RX6 yX6_leave yX6_leave ∈ gTbl := gTbl_of (List.mem_of_getElem? (i := 869) (by decide +kernel)) rfl
theorem wcode_X6_leave : Cond.code yX6_leave cX6_leave 3 (some .int) ∈ gTbl := gTbl_of (List.mem_of_getElem? (i := 870) (by decide +kernel)) rfl
theorem wcw_L_isIn : Cond.codeWith yL_isIn cL_isIn 5 (some .int) [(0, 17, 20, 21)] ∈ gTbl := gTbl_of (List.mem_of_getElem? (i := 874) (by decide +kernel)) rfl
theorem wml_RL_128 : Cond.methodLink RL 128 yX6_isIn ∈ gTbl := gTbl_of (List.mem_of_getElem? (i := 875) (by decide +kernel)) rfl
theorem winst_X6_isIn : Cond.instanceMethod yX6_isIn ∈ gTbl := gTbl_of (List.mem_of_getElem? (i := 876) (by decide +kernel)) rfl
theorem wsel_X6_isIn : Cond.selects RX6 yX6_isIn yX6_isIn ∈ gTbl := gTbl_of (List.mem_of_getElem? (i := 877) (by decide +kernel)) rfl
theorem wcode_X6_isIn : Cond.code yX6_isIn cX6_isIn 3 (some .boolean) ∈ gTbl := gTbl_of (List.mem_of_getElem? (i := 878) (by decide +kernel)) rfl
theorem wcw_L_personsIn : Cond.codeWith yL_personsIn cL_personsIn 4 (some .int) [(0, 9, 12, 21)] ∈ gTbl := gTbl_of (List.mem_of_getElem? (i := 881) (by decide +kernel)) rfl
theorem wml_RL_132 : Cond.methodLink RL 132 yX6_personsIn ∈ gTbl := gTbl_of (List.mem_of_getElem? (i := 882) (by decide +kernel)) rfl
theorem winst_X6_personsIn : Cond.instanceMethod yX6_personsIn ∈ gTbl := gTbl_of (List.mem_of_getElem? (i := 883) (by decide +kernel)) rfl
theorem wsel_X6_personsIn : Cond.selects RX6 yX6_personsIn yX6_personsIn ∈ gTbl := gTbl_of (List.mem_of_getElem? (i := 884) (by decide +kernel)) rfl
theorem wcode_X6_personsIn : Cond.code yX6_personsIn cX6_personsIn 2 (some .int) ∈ gTbl := gTbl_of (List.mem_of_getElem? (i := 885) (by decide +kernel)) rfl
theorem wcw_L_type : Cond.codeWith yL_type cL_type 4 (some .int) [(0, 9, 12, 13), (0, 9, 15, 15)] ∈ gTbl := gTbl_of (List.mem_of_getElem? (i := 888) (by decide +kernel)) rfl
theorem wml_RL_135 : Cond.methodLink RL 135 yX6_type ∈ gTbl := gTbl_of (List.mem_of_getElem? (i := 889) (by decide +kernel)) rfl
theorem winst_X6_type : Cond.instanceMethod yX6_type ∈ gTbl := gTbl_of (List.mem_of_getElem? (i := 890) (by decide +kernel)) rfl
theorem wsel_X6_type : Cond.selects RX6 yX6_type yX6_type ∈ gTbl := gTbl_of (List.mem_of_getElem? (i := 891) (by decide +kernel)) rfl
theorem wcode_X6_type : Cond.code yX6_type cX6_type 2 (some .int) ∈ gTbl := gTbl_of (List.mem_of_getElem? (i := 892) (by decide +kernel)) rfl
theorem wcw_L_foundAt : Cond.codeWith yL_foundAt cL_foundAt 5 (some .int) [(0, 10, 13, 44)] ∈ gTbl := gTbl_of (List.mem_of_getElem? (i := 895) (by decide +kernel)) rfl
theorem wml_RL_139 : Cond.methodLink RL 139 yX6_foundAt ∈ gTbl := gTbl_of (List.mem_of_getElem? (i := 896) (by decide +kernel)) rfl
theorem winst_X6_foundAt : Cond.instanceMethod yX6_foundAt ∈ gTbl := gTbl_of (List.mem_of_getElem? (i := 897) (by decide +kernel)) rfl
theorem wsel_X6_foundAt : Cond.selects RX6 yX6_foundAt yX6_foundAt ∈ gTbl := gTbl_of (List.mem_of_getElem? (i := 898) (by decide +kernel)) rfl
theorem wcode_X6_foundAt : Cond.code yX6_foundAt cX6_foundAt 5 (some .int) ∈ gTbl := gTbl_of (List.mem_of_getElem? (i := 899) (by decide +kernel)) rfl
theorem wcw_L_mergedShare : Cond.codeWith yL_mergedShare cL_mergedShare 3 (some .int) [(0, 8, 11, 44)] ∈ gTbl := gTbl_of (List.mem_of_getElem? (i := 903) (by decide +kernel)) rfl
theorem wml_RL_143 : Cond.methodLink RL 143 yX6_mergedShare ∈ gTbl := gTbl_of (List.mem_of_getElem? (i := 904) (by decide +kernel)) rfl
theorem winst_X6_mergedShare : Cond.instanceMethod yX6_mergedShare ∈ gTbl := gTbl_of (List.mem_of_getElem? (i := 905) (by decide +kernel)) rfl
theorem wsel_X6_mergedShare : Cond.selects RX6 yX6_mergedShare yX6_mergedShare ∈ gTbl := gTbl_of (List.mem_of_getElem? (i := 906) (by decide +kernel)) rfl
theorem wcode_X6_mergedShare : Cond.code yX6_mergedShare cX6_mergedShare 3 (some .float) ∈ gTbl := gTbl_of (List.mem_of_getElem? (i := 907) (by decide +kernel)) rfl
theorem wml_RL_151 : Cond.methodLink RL 151 yL_addSource ∈ gTbl := gTbl_of (List.mem_of_getElem? (i := 295) (by decide +kernel)) rfl
theorem wstat_L_addSource : Cond.static yL_addSource ∈ gTbl := gTbl_of (List.mem_of_getElem? (i := 296) (by decide +kernel)) rfl
theorem wini_RL : Cond.initialized RL ∈ gTbl := gTbl_of (List.mem_of_getElem? (i := 0) (by decide +kernel)) rfl
theorem wml_RL_156 : Cond.methodLink RL 156 yX7_addSource ∈ gTbl := gTbl_of (List.mem_of_getElem? (i := 995) (by decide +kernel)) rfl
theorem winst_X7_addSource : Cond.instanceMethod yX7_addSource ∈ gTbl := gTbl_of (List.mem_of_getElem? (i := 996) (by decide +kernel)) rfl
theorem wsel_X7_addSource : Cond.selects RX7 yX7_addSource yX7_addSource ∈ gTbl := gTbl_of (List.mem_of_getElem? (i := 997) (by decide +kernel)) rfl
theorem wcode_X7_addSource : Cond.code yX7_addSource cX7_addSource 2 (some .int) ∈ gTbl := gTbl_of (List.mem_of_getElem? (i := 998) (by decide +kernel)) rfl
theorem wml_RL_157 : Cond.methodLink RL 157 yX7_thrown ∈ gTbl := gTbl_of (List.mem_of_getElem? (i := 991) (by decide +kernel)) rfl
theorem winst_X7_thrown : Cond.instanceMethod yX7_thrown ∈ gTbl := gTbl_of (List.mem_of_getElem? (i := 992) (by decide +kernel)) rfl
theorem wsel_X7_thrown : Cond.selects RX7 yX7_thrown yX7_thrown ∈ gTbl := gTbl_of (List.mem_of_getElem? (i := 993) (by decide +kernel)) rfl
theorem wcode_X7_thrown : Cond.code yX7_thrown cX7_thrown 1 (some .int) ∈ gTbl := gTbl_of (List.mem_of_getElem? (i := 994) (by decide +kernel)) rfl
theorem wml_RL_160 : Cond.methodLink RL 160 yL_setRank ∈ gTbl := gTbl_of (List.mem_of_getElem? (i := 394) (by decide +kernel)) rfl
theorem wstat_L_setRank : Cond.static yL_setRank ∈ gTbl := gTbl_of (List.mem_of_getElem? (i := 395) (by decide +kernel)) rfl
theorem wml_RL_163 : Cond.methodLink RL 163 yX7_setRank ∈ gTbl := gTbl_of (List.mem_of_getElem? (i := 1006) (by decide +kernel)) rfl
theorem winst_X7_setRank : Cond.instanceMethod yX7_setRank ∈ gTbl := gTbl_of (List.mem_of_getElem? (i := 1007) (by decide +kernel)) rfl
theorem wsel_X7_setRank : Cond.selects RX7 yX7_setRank yX7_setRank ∈ gTbl := gTbl_of (List.mem_of_getElem? (i := 1008) (by decide +kernel)) rfl
theorem wcode_X7_setRank : Cond.code yX7_setRank cX7_setRank 4 (some .int) ∈ gTbl := gTbl_of (List.mem_of_getElem? (i := 1009) (by decide +kernel)) rfl
theorem wml_RL_164 : Cond.methodLink RL 164 yL_addCard ∈ gTbl := gTbl_of (List.mem_of_getElem? (i := 422) (by decide +kernel)) rfl
theorem wstat_L_addCard : Cond.static yL_addCard ∈ gTbl := gTbl_of (List.mem_of_getElem? (i := 423) (by decide +kernel)) rfl
theorem wml_RL_166 : Cond.methodLink RL 166 yX7_addCard ∈ gTbl := gTbl_of (List.mem_of_getElem? (i := 1010) (by decide +kernel)) rfl
theorem winst_X7_addCard : Cond.instanceMethod yX7_addCard ∈ gTbl := gTbl_of (List.mem_of_getElem? (i := 1011) (by decide +kernel)) rfl
theorem wsel_X7_addCard : Cond.selects RX7 yX7_addCard yX7_addCard ∈ gTbl := gTbl_of (List.mem_of_getElem? (i := 1012) (by decide +kernel)) rfl
theorem wcode_X7_addCard : Cond.code yX7_addCard cX7_addCard 3 (some .int) ∈ gTbl := gTbl_of (List.mem_of_getElem? (i := 1013) (by decide +kernel)) rfl
theorem wml_RL_167 : Cond.methodLink RL 167 yX6_cards ∈ gTbl := gTbl_of (List.mem_of_getElem? (i := 196) (by decide +kernel)) rfl
theorem winst_X6_cards : Cond.instanceMethod yX6_cards ∈ gTbl := gTbl_of (List.mem_of_getElem? (i := 197) (by decide +kernel)) rfl
theorem wsel_X6_cards : Cond.selects RX6 yX6_cards yX6_cards ∈ gTbl := gTbl_of (List.mem_of_getElem? (i := 198) (by decide +kernel)) rfl
theorem wcode_X6_cards : Cond.code yX6_cards cX6_cards 1 (some .int) ∈ gTbl := gTbl_of (List.mem_of_getElem? (i := 199) (by decide +kernel)) rfl
theorem wml_RL_170 : Cond.methodLink RL 170 yX7_cards ∈ gTbl := gTbl_of (List.mem_of_getElem? (i := 1014) (by decide +kernel)) rfl
theorem winst_X7_cards : Cond.instanceMethod yX7_cards ∈ gTbl := gTbl_of (List.mem_of_getElem? (i := 1015) (by decide +kernel)) rfl
theorem wsel_X7_cards : Cond.selects RX7 yX7_cards yX7_cards ∈ gTbl := gTbl_of (List.mem_of_getElem? (i := 1016) (by decide +kernel)) rfl
theorem wcode_X7_cards : Cond.code yX7_cards cX7_cards 1 (some .int) ∈ gTbl := gTbl_of (List.mem_of_getElem? (i := 1017) (by decide +kernel)) rfl
theorem wml_RL_171 : Cond.methodLink RL 171 yL_letter ∈ gTbl := gTbl_of (List.mem_of_getElem? (i := 430) (by decide +kernel)) rfl
theorem wstat_L_letter : Cond.static yL_letter ∈ gTbl := gTbl_of (List.mem_of_getElem? (i := 431) (by decide +kernel)) rfl
theorem wml_RL_174 : Cond.methodLink RL 174 yX7_letter ∈ gTbl := gTbl_of (List.mem_of_getElem? (i := 1018) (by decide +kernel)) rfl
theorem winst_X7_letter : Cond.instanceMethod yX7_letter ∈ gTbl := gTbl_of (List.mem_of_getElem? (i := 1019) (by decide +kernel)) rfl
theorem wsel_X7_letter : Cond.selects RX7 yX7_letter yX7_letter ∈ gTbl := gTbl_of (List.mem_of_getElem? (i := 1020) (by decide +kernel)) rfl
theorem wcode_X7_letter : Cond.code yX7_letter cX7_letter 3 (some .int) ∈ gTbl := gTbl_of (List.mem_of_getElem? (i := 1021) (by decide +kernel)) rfl
theorem wml_RL_175 : Cond.methodLink RL 175 yL_clearName ∈ gTbl := gTbl_of (List.mem_of_getElem? (i := 463) (by decide +kernel)) rfl
theorem wstat_L_clearName : Cond.static yL_clearName ∈ gTbl := gTbl_of (List.mem_of_getElem? (i := 464) (by decide +kernel)) rfl
theorem wml_RL_177 : Cond.methodLink RL 177 yX7_clearName ∈ gTbl := gTbl_of (List.mem_of_getElem? (i := 1029) (by decide +kernel)) rfl
theorem winst_X7_clearName : Cond.instanceMethod yX7_clearName ∈ gTbl := gTbl_of (List.mem_of_getElem? (i := 1030) (by decide +kernel)) rfl
theorem wsel_X7_clearName : Cond.selects RX7 yX7_clearName yX7_clearName ∈ gTbl := gTbl_of (List.mem_of_getElem? (i := 1031) (by decide +kernel)) rfl
theorem wcode_X7_clearName : Cond.code yX7_clearName cX7_clearName 3 (some .int) ∈ gTbl := gTbl_of (List.mem_of_getElem? (i := 1032) (by decide +kernel)) rfl
theorem wml_RL_178 : Cond.methodLink RL 178 yL_setNumber ∈ gTbl := gTbl_of (List.mem_of_getElem? (i := 470) (by decide +kernel)) rfl
theorem wstat_L_setNumber : Cond.static yL_setNumber ∈ gTbl := gTbl_of (List.mem_of_getElem? (i := 471) (by decide +kernel)) rfl
theorem wml_RL_181 : Cond.methodLink RL 181 yX7_setNumber ∈ gTbl := gTbl_of (List.mem_of_getElem? (i := 1033) (by decide +kernel)) rfl
theorem winst_X7_setNumber : Cond.instanceMethod yX7_setNumber ∈ gTbl := gTbl_of (List.mem_of_getElem? (i := 1034) (by decide +kernel)) rfl
theorem wsel_X7_setNumber : Cond.selects RX7 yX7_setNumber yX7_setNumber ∈ gTbl := gTbl_of (List.mem_of_getElem? (i := 1035) (by decide +kernel)) rfl
theorem wcode_X7_setNumber : Cond.code yX7_setNumber cX7_setNumber 5 (some .int) ∈ gTbl := gTbl_of (List.mem_of_getElem? (i := 1036) (by decide +kernel)) rfl
theorem wml_RL_182 : Cond.methodLink RL 182 yL_nameLength ∈ gTbl := gTbl_of (List.mem_of_getElem? (i := 483) (by decide +kernel)) rfl
theorem wstat_L_nameLength : Cond.static yL_nameLength ∈ gTbl := gTbl_of (List.mem_of_getElem? (i := 484) (by decide +kernel)) rfl
theorem wml_RL_184 : Cond.methodLink RL 184 yX7_nameLength ∈ gTbl := gTbl_of (List.mem_of_getElem? (i := 1037) (by decide +kernel)) rfl
theorem winst_X7_nameLength : Cond.instanceMethod yX7_nameLength ∈ gTbl := gTbl_of (List.mem_of_getElem? (i := 1038) (by decide +kernel)) rfl
theorem wsel_X7_nameLength : Cond.selects RX7 yX7_nameLength yX7_nameLength ∈ gTbl := gTbl_of (List.mem_of_getElem? (i := 1039) (by decide +kernel)) rfl
theorem wcode_X7_nameLength : Cond.code yX7_nameLength cX7_nameLength 2 (some .int) ∈ gTbl := gTbl_of (List.mem_of_getElem? (i := 1040) (by decide +kernel)) rfl
theorem wml_RL_185 : Cond.methodLink RL 185 yL_nameAt ∈ gTbl := gTbl_of (List.mem_of_getElem? (i := 490) (by decide +kernel)) rfl
theorem wstat_L_nameAt : Cond.static yL_nameAt ∈ gTbl := gTbl_of (List.mem_of_getElem? (i := 491) (by decide +kernel)) rfl
theorem wml_RL_187 : Cond.methodLink RL 187 yX7_nameAt ∈ gTbl := gTbl_of (List.mem_of_getElem? (i := 1041) (by decide +kernel)) rfl
theorem winst_X7_nameAt : Cond.instanceMethod yX7_nameAt ∈ gTbl := gTbl_of (List.mem_of_getElem? (i := 1042) (by decide +kernel)) rfl
theorem wsel_X7_nameAt : Cond.selects RX7 yX7_nameAt yX7_nameAt ∈ gTbl := gTbl_of (List.mem_of_getElem? (i := 1043) (by decide +kernel)) rfl
theorem wcode_X7_nameAt : Cond.code yX7_nameAt cX7_nameAt 3 (some .char) ∈ gTbl := gTbl_of (List.mem_of_getElem? (i := 1044) (by decide +kernel)) rfl
theorem wml_RL_188 : Cond.methodLink RL 188 yL_soundAt ∈ gTbl := gTbl_of (List.mem_of_getElem? (i := 514) (by decide +kernel)) rfl
theorem wstat_L_soundAt : Cond.static yL_soundAt ∈ gTbl := gTbl_of (List.mem_of_getElem? (i := 515) (by decide +kernel)) rfl
theorem wml_RL_190 : Cond.methodLink RL 190 yX7_soundAt ∈ gTbl := gTbl_of (List.mem_of_getElem? (i := 1045) (by decide +kernel)) rfl
theorem winst_X7_soundAt : Cond.instanceMethod yX7_soundAt ∈ gTbl := gTbl_of (List.mem_of_getElem? (i := 1046) (by decide +kernel)) rfl
theorem wsel_X7_soundAt : Cond.selects RX7 yX7_soundAt yX7_soundAt ∈ gTbl := gTbl_of (List.mem_of_getElem? (i := 1047) (by decide +kernel)) rfl
theorem wcode_X7_soundAt : Cond.code yX7_soundAt cX7_soundAt 4 (some .char) ∈ gTbl := gTbl_of (List.mem_of_getElem? (i := 1048) (by decide +kernel)) rfl
theorem wml_RL_191 : Cond.methodLink RL 191 yL_number ∈ gTbl := gTbl_of (List.mem_of_getElem? (i := 522) (by decide +kernel)) rfl
theorem wstat_L_number : Cond.static yL_number ∈ gTbl := gTbl_of (List.mem_of_getElem? (i := 523) (by decide +kernel)) rfl
theorem wml_RL_193 : Cond.methodLink RL 193 yX7_number ∈ gTbl := gTbl_of (List.mem_of_getElem? (i := 1056) (by decide +kernel)) rfl
theorem winst_X7_number : Cond.instanceMethod yX7_number ∈ gTbl := gTbl_of (List.mem_of_getElem? (i := 1057) (by decide +kernel)) rfl
theorem wsel_X7_number : Cond.selects RX7 yX7_number yX7_number ∈ gTbl := gTbl_of (List.mem_of_getElem? (i := 1058) (by decide +kernel)) rfl
theorem wcode_X7_number : Cond.code yX7_number cX7_number 3 (some .int) ∈ gTbl := gTbl_of (List.mem_of_getElem? (i := 1059) (by decide +kernel)) rfl
theorem wml_RL_194 : Cond.methodLink RL 194 yL_setWeights ∈ gTbl := gTbl_of (List.mem_of_getElem? (i := 529) (by decide +kernel)) rfl
theorem wstat_L_setWeights : Cond.static yL_setWeights ∈ gTbl := gTbl_of (List.mem_of_getElem? (i := 530) (by decide +kernel)) rfl
theorem wml_RL_196 : Cond.methodLink RL 196 yX7_setWeights ∈ gTbl := gTbl_of (List.mem_of_getElem? (i := 1060) (by decide +kernel)) rfl
theorem winst_X7_setWeights : Cond.instanceMethod yX7_setWeights ∈ gTbl := gTbl_of (List.mem_of_getElem? (i := 1061) (by decide +kernel)) rfl
theorem wsel_X7_setWeights : Cond.selects RX7 yX7_setWeights yX7_setWeights ∈ gTbl := gTbl_of (List.mem_of_getElem? (i := 1062) (by decide +kernel)) rfl
theorem wcode_X7_setWeights : Cond.code yX7_setWeights cX7_setWeights 5 (some .int) ∈ gTbl := gTbl_of (List.mem_of_getElem? (i := 1063) (by decide +kernel)) rfl
theorem wml_RL_197 : Cond.methodLink RL 197 yL_setThreshold ∈ gTbl := gTbl_of (List.mem_of_getElem? (i := 546) (by decide +kernel)) rfl
theorem wstat_L_setThreshold : Cond.static yL_setThreshold ∈ gTbl := gTbl_of (List.mem_of_getElem? (i := 547) (by decide +kernel)) rfl
theorem wml_RL_199 : Cond.methodLink RL 199 yX7_setThreshold ∈ gTbl := gTbl_of (List.mem_of_getElem? (i := 1064) (by decide +kernel)) rfl
theorem winst_X7_setThreshold : Cond.instanceMethod yX7_setThreshold ∈ gTbl := gTbl_of (List.mem_of_getElem? (i := 1065) (by decide +kernel)) rfl
theorem wsel_X7_setThreshold : Cond.selects RX7 yX7_setThreshold yX7_setThreshold ∈ gTbl := gTbl_of (List.mem_of_getElem? (i := 1066) (by decide +kernel)) rfl
theorem wcode_X7_setThreshold : Cond.code yX7_setThreshold cX7_setThreshold 3 (some .int) ∈ gTbl := gTbl_of (List.mem_of_getElem? (i := 1067) (by decide +kernel)) rfl
theorem wml_RL_200 : Cond.methodLink RL 200 yL_score ∈ gTbl := gTbl_of (List.mem_of_getElem? (i := 554) (by decide +kernel)) rfl
theorem wstat_L_score : Cond.static yL_score ∈ gTbl := gTbl_of (List.mem_of_getElem? (i := 555) (by decide +kernel)) rfl
theorem wml_RL_202 : Cond.methodLink RL 202 yX7_score ∈ gTbl := gTbl_of (List.mem_of_getElem? (i := 1068) (by decide +kernel)) rfl
theorem winst_X7_score : Cond.instanceMethod yX7_score ∈ gTbl := gTbl_of (List.mem_of_getElem? (i := 1069) (by decide +kernel)) rfl
theorem wsel_X7_score : Cond.selects RX7 yX7_score yX7_score ∈ gTbl := gTbl_of (List.mem_of_getElem? (i := 1070) (by decide +kernel)) rfl
theorem wcode_X7_score : Cond.code yX7_score cX7_score 3 (some .int) ∈ gTbl := gTbl_of (List.mem_of_getElem? (i := 1071) (by decide +kernel)) rfl
theorem wml_RL_203 : Cond.methodLink RL 203 yX6_candidates ∈ gTbl := gTbl_of (List.mem_of_getElem? (i := 200) (by decide +kernel)) rfl
theorem winst_X6_candidates : Cond.instanceMethod yX6_candidates ∈ gTbl := gTbl_of (List.mem_of_getElem? (i := 201) (by decide +kernel)) rfl
theorem wsel_X6_candidates : Cond.selects RX6 yX6_candidates yX6_candidates ∈ gTbl := gTbl_of (List.mem_of_getElem? (i := 202) (by decide +kernel)) rfl
theorem wcode_X6_candidates : Cond.code yX6_candidates cX6_candidates 4 (some .int) ∈ gTbl := gTbl_of (List.mem_of_getElem? (i := 203) (by decide +kernel)) rfl
theorem wml_RL_206 : Cond.methodLink RL 206 yX7_candidates ∈ gTbl := gTbl_of (List.mem_of_getElem? (i := 1092) (by decide +kernel)) rfl
theorem winst_X7_candidates : Cond.instanceMethod yX7_candidates ∈ gTbl := gTbl_of (List.mem_of_getElem? (i := 1093) (by decide +kernel)) rfl
theorem wsel_X7_candidates : Cond.selects RX7 yX7_candidates yX7_candidates ∈ gTbl := gTbl_of (List.mem_of_getElem? (i := 1094) (by decide +kernel)) rfl
theorem wcode_X7_candidates : Cond.code yX7_candidates cX7_candidates 4 (some .int) ∈ gTbl := gTbl_of (List.mem_of_getElem? (i := 1095) (by decide +kernel)) rfl
theorem wml_RL_207 : Cond.methodLink RL 207 yL_bestScore ∈ gTbl := gTbl_of (List.mem_of_getElem? (i := 570) (by decide +kernel)) rfl
theorem wstat_L_bestScore : Cond.static yL_bestScore ∈ gTbl := gTbl_of (List.mem_of_getElem? (i := 571) (by decide +kernel)) rfl
theorem wml_RL_210 : Cond.methodLink RL 210 yX7_bestScore ∈ gTbl := gTbl_of (List.mem_of_getElem? (i := 1112) (by decide +kernel)) rfl
theorem wml_RL_211 : Cond.methodLink RL 211 yL_bestScoreByPairs ∈ gTbl := gTbl_of (List.mem_of_getElem? (i := 628) (by decide +kernel)) rfl
theorem wstat_L_bestScoreByPairs : Cond.static yL_bestScoreByPairs ∈ gTbl := gTbl_of (List.mem_of_getElem? (i := 629) (by decide +kernel)) rfl
theorem wml_RL_213 : Cond.methodLink RL 213 yX7_bestScoreByPairs ∈ gTbl := gTbl_of (List.mem_of_getElem? (i := 1120) (by decide +kernel)) rfl
theorem winst_X7_bestScoreByPairs : Cond.instanceMethod yX7_bestScoreByPairs ∈ gTbl := gTbl_of (List.mem_of_getElem? (i := 1121) (by decide +kernel)) rfl
theorem wsel_X7_bestScoreByPairs : Cond.selects RX7 yX7_bestScoreByPairs yX7_bestScoreByPairs ∈ gTbl := gTbl_of (List.mem_of_getElem? (i := 1122) (by decide +kernel)) rfl
theorem wcode_X7_bestScoreByPairs : Cond.code yX7_bestScoreByPairs cX7_bestScoreByPairs 1 (some .int) ∈ gTbl := gTbl_of (List.mem_of_getElem? (i := 1123) (by decide +kernel)) rfl
theorem wml_RL_214 : Cond.methodLink RL 214 yL_bestOne ∈ gTbl := gTbl_of (List.mem_of_getElem? (i := 639) (by decide +kernel)) rfl
theorem wstat_L_bestOne : Cond.static yL_bestOne ∈ gTbl := gTbl_of (List.mem_of_getElem? (i := 640) (by decide +kernel)) rfl
theorem wml_RL_216 : Cond.methodLink RL 216 yX7_bestOne ∈ gTbl := gTbl_of (List.mem_of_getElem? (i := 1125) (by decide +kernel)) rfl
theorem winst_X7_bestOne : Cond.instanceMethod yX7_bestOne ∈ gTbl := gTbl_of (List.mem_of_getElem? (i := 1126) (by decide +kernel)) rfl
theorem wsel_X7_bestOne : Cond.selects RX7 yX7_bestOne yX7_bestOne ∈ gTbl := gTbl_of (List.mem_of_getElem? (i := 1127) (by decide +kernel)) rfl
theorem wcode_X7_bestOne : Cond.code yX7_bestOne cX7_bestOne 1 (some .int) ∈ gTbl := gTbl_of (List.mem_of_getElem? (i := 1128) (by decide +kernel)) rfl
theorem wml_RL_217 : Cond.methodLink RL 217 yL_bestOther ∈ gTbl := gTbl_of (List.mem_of_getElem? (i := 646) (by decide +kernel)) rfl
theorem wstat_L_bestOther : Cond.static yL_bestOther ∈ gTbl := gTbl_of (List.mem_of_getElem? (i := 647) (by decide +kernel)) rfl
theorem wml_RL_219 : Cond.methodLink RL 219 yX7_bestOther ∈ gTbl := gTbl_of (List.mem_of_getElem? (i := 1129) (by decide +kernel)) rfl
theorem winst_X7_bestOther : Cond.instanceMethod yX7_bestOther ∈ gTbl := gTbl_of (List.mem_of_getElem? (i := 1130) (by decide +kernel)) rfl
theorem wsel_X7_bestOther : Cond.selects RX7 yX7_bestOther yX7_bestOther ∈ gTbl := gTbl_of (List.mem_of_getElem? (i := 1131) (by decide +kernel)) rfl
theorem wcode_X7_bestOther : Cond.code yX7_bestOther cX7_bestOther 1 (some .int) ∈ gTbl := gTbl_of (List.mem_of_getElem? (i := 1132) (by decide +kernel)) rfl
theorem wml_RL_220 : Cond.methodLink RL 220 yL_forbid ∈ gTbl := gTbl_of (List.mem_of_getElem? (i := 653) (by decide +kernel)) rfl
theorem wstat_L_forbid : Cond.static yL_forbid ∈ gTbl := gTbl_of (List.mem_of_getElem? (i := 654) (by decide +kernel)) rfl
theorem wml_RL_222 : Cond.methodLink RL 222 yX7_forbid ∈ gTbl := gTbl_of (List.mem_of_getElem? (i := 1133) (by decide +kernel)) rfl
theorem winst_X7_forbid : Cond.instanceMethod yX7_forbid ∈ gTbl := gTbl_of (List.mem_of_getElem? (i := 1134) (by decide +kernel)) rfl
theorem wsel_X7_forbid : Cond.selects RX7 yX7_forbid yX7_forbid ∈ gTbl := gTbl_of (List.mem_of_getElem? (i := 1135) (by decide +kernel)) rfl
theorem wcode_X7_forbid : Cond.code yX7_forbid cX7_forbid 3 (some .int) ∈ gTbl := gTbl_of (List.mem_of_getElem? (i := 1136) (by decide +kernel)) rfl
theorem wml_RL_223 : Cond.methodLink RL 223 yL_allow ∈ gTbl := gTbl_of (List.mem_of_getElem? (i := 690) (by decide +kernel)) rfl
theorem wstat_L_allow : Cond.static yL_allow ∈ gTbl := gTbl_of (List.mem_of_getElem? (i := 691) (by decide +kernel)) rfl
theorem wml_RL_225 : Cond.methodLink RL 225 yX7_allow ∈ gTbl := gTbl_of (List.mem_of_getElem? (i := 1137) (by decide +kernel)) rfl
theorem winst_X7_allow : Cond.instanceMethod yX7_allow ∈ gTbl := gTbl_of (List.mem_of_getElem? (i := 1138) (by decide +kernel)) rfl
theorem wsel_X7_allow : Cond.selects RX7 yX7_allow yX7_allow ∈ gTbl := gTbl_of (List.mem_of_getElem? (i := 1139) (by decide +kernel)) rfl
theorem wcode_X7_allow : Cond.code yX7_allow cX7_allow 3 (some .int) ∈ gTbl := gTbl_of (List.mem_of_getElem? (i := 1140) (by decide +kernel)) rfl
theorem wml_RL_226 : Cond.methodLink RL 226 yL_why ∈ gTbl := gTbl_of (List.mem_of_getElem? (i := 702) (by decide +kernel)) rfl
theorem wstat_L_why : Cond.static yL_why ∈ gTbl := gTbl_of (List.mem_of_getElem? (i := 703) (by decide +kernel)) rfl
theorem wml_RL_228 : Cond.methodLink RL 228 yX7_why ∈ gTbl := gTbl_of (List.mem_of_getElem? (i := 1141) (by decide +kernel)) rfl
theorem winst_X7_why : Cond.instanceMethod yX7_why ∈ gTbl := gTbl_of (List.mem_of_getElem? (i := 1142) (by decide +kernel)) rfl
theorem wsel_X7_why : Cond.selects RX7 yX7_why yX7_why ∈ gTbl := gTbl_of (List.mem_of_getElem? (i := 1143) (by decide +kernel)) rfl
theorem wcode_X7_why : Cond.code yX7_why cX7_why 3 (some .char) ∈ gTbl := gTbl_of (List.mem_of_getElem? (i := 1144) (by decide +kernel)) rfl
theorem wml_RL_229 : Cond.methodLink RL 229 yL_barOne ∈ gTbl := gTbl_of (List.mem_of_getElem? (i := 713) (by decide +kernel)) rfl
theorem wstat_L_barOne : Cond.static yL_barOne ∈ gTbl := gTbl_of (List.mem_of_getElem? (i := 714) (by decide +kernel)) rfl
theorem wml_RL_231 : Cond.methodLink RL 231 yX7_barOne ∈ gTbl := gTbl_of (List.mem_of_getElem? (i := 1145) (by decide +kernel)) rfl
theorem winst_X7_barOne : Cond.instanceMethod yX7_barOne ∈ gTbl := gTbl_of (List.mem_of_getElem? (i := 1146) (by decide +kernel)) rfl
theorem wsel_X7_barOne : Cond.selects RX7 yX7_barOne yX7_barOne ∈ gTbl := gTbl_of (List.mem_of_getElem? (i := 1147) (by decide +kernel)) rfl
theorem wcode_X7_barOne : Cond.code yX7_barOne cX7_barOne 3 (some .int) ∈ gTbl := gTbl_of (List.mem_of_getElem? (i := 1148) (by decide +kernel)) rfl
theorem wml_RL_232 : Cond.methodLink RL 232 yL_barOther ∈ gTbl := gTbl_of (List.mem_of_getElem? (i := 728) (by decide +kernel)) rfl
theorem wstat_L_barOther : Cond.static yL_barOther ∈ gTbl := gTbl_of (List.mem_of_getElem? (i := 729) (by decide +kernel)) rfl
theorem wml_RL_234 : Cond.methodLink RL 234 yX7_barOther ∈ gTbl := gTbl_of (List.mem_of_getElem? (i := 1153) (by decide +kernel)) rfl
theorem winst_X7_barOther : Cond.instanceMethod yX7_barOther ∈ gTbl := gTbl_of (List.mem_of_getElem? (i := 1154) (by decide +kernel)) rfl
theorem wsel_X7_barOther : Cond.selects RX7 yX7_barOther yX7_barOther ∈ gTbl := gTbl_of (List.mem_of_getElem? (i := 1155) (by decide +kernel)) rfl
theorem wcode_X7_barOther : Cond.code yX7_barOther cX7_barOther 3 (some .int) ∈ gTbl := gTbl_of (List.mem_of_getElem? (i := 1156) (by decide +kernel)) rfl
theorem wml_RL_235 : Cond.methodLink RL 235 yL_merge ∈ gTbl := gTbl_of (List.mem_of_getElem? (i := 735) (by decide +kernel)) rfl
theorem wstat_L_merge : Cond.static yL_merge ∈ gTbl := gTbl_of (List.mem_of_getElem? (i := 736) (by decide +kernel)) rfl
theorem wml_RL_237 : Cond.methodLink RL 237 yX7_merge ∈ gTbl := gTbl_of (List.mem_of_getElem? (i := 1157) (by decide +kernel)) rfl
theorem winst_X7_merge : Cond.instanceMethod yX7_merge ∈ gTbl := gTbl_of (List.mem_of_getElem? (i := 1158) (by decide +kernel)) rfl
theorem wsel_X7_merge : Cond.selects RX7 yX7_merge yX7_merge ∈ gTbl := gTbl_of (List.mem_of_getElem? (i := 1159) (by decide +kernel)) rfl
theorem wcode_X7_merge : Cond.code yX7_merge cX7_merge 3 (some .int) ∈ gTbl := gTbl_of (List.mem_of_getElem? (i := 1160) (by decide +kernel)) rfl
theorem wml_RL_238 : Cond.methodLink RL 238 yL_mergeBest ∈ gTbl := gTbl_of (List.mem_of_getElem? (i := 754) (by decide +kernel)) rfl
theorem wstat_L_mergeBest : Cond.static yL_mergeBest ∈ gTbl := gTbl_of (List.mem_of_getElem? (i := 755) (by decide +kernel)) rfl
theorem wml_RL_240 : Cond.methodLink RL 240 yX7_mergeBest ∈ gTbl := gTbl_of (List.mem_of_getElem? (i := 1165) (by decide +kernel)) rfl
theorem winst_X7_mergeBest : Cond.instanceMethod yX7_mergeBest ∈ gTbl := gTbl_of (List.mem_of_getElem? (i := 1166) (by decide +kernel)) rfl
theorem wsel_X7_mergeBest : Cond.selects RX7 yX7_mergeBest yX7_mergeBest ∈ gTbl := gTbl_of (List.mem_of_getElem? (i := 1167) (by decide +kernel)) rfl
theorem wcode_X7_mergeBest : Cond.code yX7_mergeBest cX7_mergeBest 1 (some .int) ∈ gTbl := gTbl_of (List.mem_of_getElem? (i := 1168) (by decide +kernel)) rfl
theorem wml_RL_241 : Cond.methodLink RL 241 yL_undo ∈ gTbl := gTbl_of (List.mem_of_getElem? (i := 762) (by decide +kernel)) rfl
theorem wstat_L_undo : Cond.static yL_undo ∈ gTbl := gTbl_of (List.mem_of_getElem? (i := 763) (by decide +kernel)) rfl
theorem wml_RL_243 : Cond.methodLink RL 243 yX7_undo ∈ gTbl := gTbl_of (List.mem_of_getElem? (i := 1169) (by decide +kernel)) rfl
theorem winst_X7_undo : Cond.instanceMethod yX7_undo ∈ gTbl := gTbl_of (List.mem_of_getElem? (i := 1170) (by decide +kernel)) rfl
theorem wsel_X7_undo : Cond.selects RX7 yX7_undo yX7_undo ∈ gTbl := gTbl_of (List.mem_of_getElem? (i := 1171) (by decide +kernel)) rfl
theorem wcode_X7_undo : Cond.code yX7_undo cX7_undo 2 (some .int) ∈ gTbl := gTbl_of (List.mem_of_getElem? (i := 1172) (by decide +kernel)) rfl
theorem wml_RL_244 : Cond.methodLink RL 244 yL_stands ∈ gTbl := gTbl_of (List.mem_of_getElem? (i := 780) (by decide +kernel)) rfl
theorem wstat_L_stands : Cond.static yL_stands ∈ gTbl := gTbl_of (List.mem_of_getElem? (i := 781) (by decide +kernel)) rfl
theorem wml_RL_246 : Cond.methodLink RL 246 yX7_stands ∈ gTbl := gTbl_of (List.mem_of_getElem? (i := 1181) (by decide +kernel)) rfl
theorem winst_X7_stands : Cond.instanceMethod yX7_stands ∈ gTbl := gTbl_of (List.mem_of_getElem? (i := 1182) (by decide +kernel)) rfl
theorem wsel_X7_stands : Cond.selects RX7 yX7_stands yX7_stands ∈ gTbl := gTbl_of (List.mem_of_getElem? (i := 1183) (by decide +kernel)) rfl
theorem wcode_X7_stands : Cond.code yX7_stands cX7_stands 2 (some .boolean) ∈ gTbl := gTbl_of (List.mem_of_getElem? (i := 1184) (by decide +kernel)) rfl
theorem wml_RL_247 : Cond.methodLink RL 247 yL_steps ∈ gTbl := gTbl_of (List.mem_of_getElem? (i := 787) (by decide +kernel)) rfl
theorem wstat_L_steps : Cond.static yL_steps ∈ gTbl := gTbl_of (List.mem_of_getElem? (i := 788) (by decide +kernel)) rfl
theorem wml_RL_249 : Cond.methodLink RL 249 yX7_steps ∈ gTbl := gTbl_of (List.mem_of_getElem? (i := 1185) (by decide +kernel)) rfl
theorem winst_X7_steps : Cond.instanceMethod yX7_steps ∈ gTbl := gTbl_of (List.mem_of_getElem? (i := 1186) (by decide +kernel)) rfl
theorem wsel_X7_steps : Cond.selects RX7 yX7_steps yX7_steps ∈ gTbl := gTbl_of (List.mem_of_getElem? (i := 1187) (by decide +kernel)) rfl
theorem wcode_X7_steps : Cond.code yX7_steps cX7_steps 6 (some .int) ∈ gTbl := gTbl_of (List.mem_of_getElem? (i := 1188) (by decide +kernel)) rfl
theorem wml_RL_250 : Cond.methodLink RL 250 yL_person ∈ gTbl := gTbl_of (List.mem_of_getElem? (i := 800) (by decide +kernel)) rfl
theorem wstat_L_person : Cond.static yL_person ∈ gTbl := gTbl_of (List.mem_of_getElem? (i := 801) (by decide +kernel)) rfl
theorem wml_RL_252 : Cond.methodLink RL 252 yX7_person ∈ gTbl := gTbl_of (List.mem_of_getElem? (i := 1189) (by decide +kernel)) rfl
theorem wml_RL_253 : Cond.methodLink RL 253 yL_personByRounds ∈ gTbl := gTbl_of (List.mem_of_getElem? (i := 807) (by decide +kernel)) rfl
theorem wstat_L_personByRounds : Cond.static yL_personByRounds ∈ gTbl := gTbl_of (List.mem_of_getElem? (i := 808) (by decide +kernel)) rfl
theorem wml_RL_255 : Cond.methodLink RL 255 yX7_personByRounds ∈ gTbl := gTbl_of (List.mem_of_getElem? (i := 1193) (by decide +kernel)) rfl
theorem winst_X7_personByRounds : Cond.instanceMethod yX7_personByRounds ∈ gTbl := gTbl_of (List.mem_of_getElem? (i := 1194) (by decide +kernel)) rfl
theorem wsel_X7_personByRounds : Cond.selects RX7 yX7_personByRounds yX7_personByRounds ∈ gTbl := gTbl_of (List.mem_of_getElem? (i := 1195) (by decide +kernel)) rfl
theorem wcode_X7_personByRounds : Cond.code yX7_personByRounds cX7_personByRounds 2 (some .int) ∈ gTbl := gTbl_of (List.mem_of_getElem? (i := 1196) (by decide +kernel)) rfl
theorem wml_RL_256 : Cond.methodLink RL 256 yX6_persons ∈ gTbl := gTbl_of (List.mem_of_getElem? (i := 259) (by decide +kernel)) rfl
theorem winst_X6_persons : Cond.instanceMethod yX6_persons ∈ gTbl := gTbl_of (List.mem_of_getElem? (i := 260) (by decide +kernel)) rfl
theorem wsel_X6_persons : Cond.selects RX6 yX6_persons yX6_persons ∈ gTbl := gTbl_of (List.mem_of_getElem? (i := 261) (by decide +kernel)) rfl
theorem wcode_X6_persons : Cond.code yX6_persons cX6_persons 1 (some .int) ∈ gTbl := gTbl_of (List.mem_of_getElem? (i := 262) (by decide +kernel)) rfl
theorem wml_RL_259 : Cond.methodLink RL 259 yX7_persons ∈ gTbl := gTbl_of (List.mem_of_getElem? (i := 1198) (by decide +kernel)) rfl
theorem wml_RL_260 : Cond.methodLink RL 260 yL_size ∈ gTbl := gTbl_of (List.mem_of_getElem? (i := 821) (by decide +kernel)) rfl
theorem wstat_L_size : Cond.static yL_size ∈ gTbl := gTbl_of (List.mem_of_getElem? (i := 822) (by decide +kernel)) rfl
theorem wml_RL_262 : Cond.methodLink RL 262 yX7_size ∈ gTbl := gTbl_of (List.mem_of_getElem? (i := 1199) (by decide +kernel)) rfl
theorem winst_X7_size : Cond.instanceMethod yX7_size ∈ gTbl := gTbl_of (List.mem_of_getElem? (i := 1200) (by decide +kernel)) rfl
theorem wsel_X7_size : Cond.selects RX7 yX7_size yX7_size ∈ gTbl := gTbl_of (List.mem_of_getElem? (i := 1201) (by decide +kernel)) rfl
theorem wcode_X7_size : Cond.code yX7_size cX7_size 2 (some .int) ∈ gTbl := gTbl_of (List.mem_of_getElem? (i := 1202) (by decide +kernel)) rfl
theorem wml_RL_263 : Cond.methodLink RL 263 yL_fieldFrom ∈ gTbl := gTbl_of (List.mem_of_getElem? (i := 828) (by decide +kernel)) rfl
theorem wstat_L_fieldFrom : Cond.static yL_fieldFrom ∈ gTbl := gTbl_of (List.mem_of_getElem? (i := 829) (by decide +kernel)) rfl
theorem wml_RL_265 : Cond.methodLink RL 265 yX7_fieldFrom ∈ gTbl := gTbl_of (List.mem_of_getElem? (i := 1207) (by decide +kernel)) rfl
theorem winst_X7_fieldFrom : Cond.instanceMethod yX7_fieldFrom ∈ gTbl := gTbl_of (List.mem_of_getElem? (i := 1208) (by decide +kernel)) rfl
theorem wsel_X7_fieldFrom : Cond.selects RX7 yX7_fieldFrom yX7_fieldFrom ∈ gTbl := gTbl_of (List.mem_of_getElem? (i := 1209) (by decide +kernel)) rfl
theorem wcode_X7_fieldFrom : Cond.code yX7_fieldFrom cX7_fieldFrom 5 (some .int) ∈ gTbl := gTbl_of (List.mem_of_getElem? (i := 1210) (by decide +kernel)) rfl
theorem wml_RL_266 : Cond.methodLink RL 266 yL_conflicts ∈ gTbl := gTbl_of (List.mem_of_getElem? (i := 840) (by decide +kernel)) rfl
theorem wstat_L_conflicts : Cond.static yL_conflicts ∈ gTbl := gTbl_of (List.mem_of_getElem? (i := 841) (by decide +kernel)) rfl
theorem wml_RL_268 : Cond.methodLink RL 268 yX7_conflicts ∈ gTbl := gTbl_of (List.mem_of_getElem? (i := 1211) (by decide +kernel)) rfl
theorem winst_X7_conflicts : Cond.instanceMethod yX7_conflicts ∈ gTbl := gTbl_of (List.mem_of_getElem? (i := 1212) (by decide +kernel)) rfl
theorem wsel_X7_conflicts : Cond.selects RX7 yX7_conflicts yX7_conflicts ∈ gTbl := gTbl_of (List.mem_of_getElem? (i := 1213) (by decide +kernel)) rfl
theorem wcode_X7_conflicts : Cond.code yX7_conflicts cX7_conflicts 4 (some .int) ∈ gTbl := gTbl_of (List.mem_of_getElem? (i := 1214) (by decide +kernel)) rfl
theorem wml_RL_269 : Cond.methodLink RL 269 yL_join ∈ gTbl := gTbl_of (List.mem_of_getElem? (i := 851) (by decide +kernel)) rfl
theorem wstat_L_join : Cond.static yL_join ∈ gTbl := gTbl_of (List.mem_of_getElem? (i := 852) (by decide +kernel)) rfl
theorem wml_RL_271 : Cond.methodLink RL 271 yX7_join ∈ gTbl := gTbl_of (List.mem_of_getElem? (i := 1219) (by decide +kernel)) rfl
theorem winst_X7_join : Cond.instanceMethod yX7_join ∈ gTbl := gTbl_of (List.mem_of_getElem? (i := 1220) (by decide +kernel)) rfl
theorem wsel_X7_join : Cond.selects RX7 yX7_join yX7_join ∈ gTbl := gTbl_of (List.mem_of_getElem? (i := 1221) (by decide +kernel)) rfl
theorem wcode_X7_join : Cond.code yX7_join cX7_join 3 (some .int) ∈ gTbl := gTbl_of (List.mem_of_getElem? (i := 1222) (by decide +kernel)) rfl
theorem wml_RL_272 : Cond.methodLink RL 272 yL_leave ∈ gTbl := gTbl_of (List.mem_of_getElem? (i := 864) (by decide +kernel)) rfl
theorem wstat_L_leave : Cond.static yL_leave ∈ gTbl := gTbl_of (List.mem_of_getElem? (i := 865) (by decide +kernel)) rfl
theorem wml_RL_274 : Cond.methodLink RL 274 yX7_leave ∈ gTbl := gTbl_of (List.mem_of_getElem? (i := 1231) (by decide +kernel)) rfl
theorem winst_X7_leave : Cond.instanceMethod yX7_leave ∈ gTbl := gTbl_of (List.mem_of_getElem? (i := 1232) (by decide +kernel)) rfl
theorem wsel_X7_leave : Cond.selects RX7 yX7_leave yX7_leave ∈ gTbl := gTbl_of (List.mem_of_getElem? (i := 1233) (by decide +kernel)) rfl
theorem wcode_X7_leave : Cond.code yX7_leave cX7_leave 3 (some .int) ∈ gTbl := gTbl_of (List.mem_of_getElem? (i := 1234) (by decide +kernel)) rfl
theorem wml_RL_275 : Cond.methodLink RL 275 yL_isIn ∈ gTbl := gTbl_of (List.mem_of_getElem? (i := 872) (by decide +kernel)) rfl
theorem wstat_L_isIn : Cond.static yL_isIn ∈ gTbl := gTbl_of (List.mem_of_getElem? (i := 873) (by decide +kernel)) rfl
theorem wml_RL_277 : Cond.methodLink RL 277 yX7_isIn ∈ gTbl := gTbl_of (List.mem_of_getElem? (i := 1235) (by decide +kernel)) rfl
theorem winst_X7_isIn : Cond.instanceMethod yX7_isIn ∈ gTbl := gTbl_of (List.mem_of_getElem? (i := 1236) (by decide +kernel)) rfl
theorem wsel_X7_isIn : Cond.selects RX7 yX7_isIn yX7_isIn ∈ gTbl := gTbl_of (List.mem_of_getElem? (i := 1237) (by decide +kernel)) rfl
theorem wcode_X7_isIn : Cond.code yX7_isIn cX7_isIn 3 (some .boolean) ∈ gTbl := gTbl_of (List.mem_of_getElem? (i := 1238) (by decide +kernel)) rfl
theorem wml_RL_278 : Cond.methodLink RL 278 yL_personsIn ∈ gTbl := gTbl_of (List.mem_of_getElem? (i := 879) (by decide +kernel)) rfl
theorem wstat_L_personsIn : Cond.static yL_personsIn ∈ gTbl := gTbl_of (List.mem_of_getElem? (i := 880) (by decide +kernel)) rfl
theorem wml_RL_280 : Cond.methodLink RL 280 yX7_personsIn ∈ gTbl := gTbl_of (List.mem_of_getElem? (i := 1243) (by decide +kernel)) rfl
theorem winst_X7_personsIn : Cond.instanceMethod yX7_personsIn ∈ gTbl := gTbl_of (List.mem_of_getElem? (i := 1244) (by decide +kernel)) rfl
theorem wsel_X7_personsIn : Cond.selects RX7 yX7_personsIn yX7_personsIn ∈ gTbl := gTbl_of (List.mem_of_getElem? (i := 1245) (by decide +kernel)) rfl
theorem wcode_X7_personsIn : Cond.code yX7_personsIn cX7_personsIn 4 (some .int) ∈ gTbl := gTbl_of (List.mem_of_getElem? (i := 1246) (by decide +kernel)) rfl
theorem wml_RL_281 : Cond.methodLink RL 281 yL_type ∈ gTbl := gTbl_of (List.mem_of_getElem? (i := 886) (by decide +kernel)) rfl
theorem wstat_L_type : Cond.static yL_type ∈ gTbl := gTbl_of (List.mem_of_getElem? (i := 887) (by decide +kernel)) rfl
theorem wml_RL_284 : Cond.methodLink RL 284 yX7_type ∈ gTbl := gTbl_of (List.mem_of_getElem? (i := 1247) (by decide +kernel)) rfl
theorem winst_X7_type : Cond.instanceMethod yX7_type ∈ gTbl := gTbl_of (List.mem_of_getElem? (i := 1248) (by decide +kernel)) rfl
theorem wsel_X7_type : Cond.selects RX7 yX7_type yX7_type ∈ gTbl := gTbl_of (List.mem_of_getElem? (i := 1249) (by decide +kernel)) rfl
theorem wcode_X7_type : Cond.code yX7_type cX7_type 2 (some .int) ∈ gTbl := gTbl_of (List.mem_of_getElem? (i := 1250) (by decide +kernel)) rfl
theorem wml_RL_285 : Cond.methodLink RL 285 yX6_clearQuery ∈ gTbl := gTbl_of (List.mem_of_getElem? (i := 278) (by decide +kernel)) rfl
theorem winst_X6_clearQuery : Cond.instanceMethod yX6_clearQuery ∈ gTbl := gTbl_of (List.mem_of_getElem? (i := 279) (by decide +kernel)) rfl
theorem wsel_X6_clearQuery : Cond.selects RX6 yX6_clearQuery yX6_clearQuery ∈ gTbl := gTbl_of (List.mem_of_getElem? (i := 280) (by decide +kernel)) rfl
theorem wcode_X6_clearQuery : Cond.code yX6_clearQuery cX6_clearQuery 1 (some .int) ∈ gTbl := gTbl_of (List.mem_of_getElem? (i := 281) (by decide +kernel)) rfl
theorem wml_RL_288 : Cond.methodLink RL 288 yX7_clearQuery ∈ gTbl := gTbl_of (List.mem_of_getElem? (i := 1251) (by decide +kernel)) rfl
theorem winst_X7_clearQuery : Cond.instanceMethod yX7_clearQuery ∈ gTbl := gTbl_of (List.mem_of_getElem? (i := 1252) (by decide +kernel)) rfl
theorem wsel_X7_clearQuery : Cond.selects RX7 yX7_clearQuery yX7_clearQuery ∈ gTbl := gTbl_of (List.mem_of_getElem? (i := 1253) (by decide +kernel)) rfl
theorem wcode_X7_clearQuery : Cond.code yX7_clearQuery cX7_clearQuery 2 (some .int) ∈ gTbl := gTbl_of (List.mem_of_getElem? (i := 1254) (by decide +kernel)) rfl
theorem wml_RL_289 : Cond.methodLink RL 289 yX6_found ∈ gTbl := gTbl_of (List.mem_of_getElem? (i := 286) (by decide +kernel)) rfl
theorem winst_X6_found : Cond.instanceMethod yX6_found ∈ gTbl := gTbl_of (List.mem_of_getElem? (i := 287) (by decide +kernel)) rfl
theorem wsel_X6_found : Cond.selects RX6 yX6_found yX6_found ∈ gTbl := gTbl_of (List.mem_of_getElem? (i := 288) (by decide +kernel)) rfl
theorem wcode_X6_found : Cond.code yX6_found cX6_found 2 (some .int) ∈ gTbl := gTbl_of (List.mem_of_getElem? (i := 289) (by decide +kernel)) rfl
theorem wml_RL_293 : Cond.methodLink RL 293 yX7_found ∈ gTbl := gTbl_of (List.mem_of_getElem? (i := 1255) (by decide +kernel)) rfl
theorem winst_X7_found : Cond.instanceMethod yX7_found ∈ gTbl := gTbl_of (List.mem_of_getElem? (i := 1256) (by decide +kernel)) rfl
theorem wsel_X7_found : Cond.selects RX7 yX7_found yX7_found ∈ gTbl := gTbl_of (List.mem_of_getElem? (i := 1257) (by decide +kernel)) rfl
theorem wcode_X7_found : Cond.code yX7_found cX7_found 2 (some .int) ∈ gTbl := gTbl_of (List.mem_of_getElem? (i := 1258) (by decide +kernel)) rfl
theorem wml_RL_294 : Cond.methodLink RL 294 yL_foundAt ∈ gTbl := gTbl_of (List.mem_of_getElem? (i := 893) (by decide +kernel)) rfl
theorem wstat_L_foundAt : Cond.static yL_foundAt ∈ gTbl := gTbl_of (List.mem_of_getElem? (i := 894) (by decide +kernel)) rfl
theorem wml_RL_297 : Cond.methodLink RL 297 yX7_foundAt ∈ gTbl := gTbl_of (List.mem_of_getElem? (i := 1267) (by decide +kernel)) rfl
theorem winst_X7_foundAt : Cond.instanceMethod yX7_foundAt ∈ gTbl := gTbl_of (List.mem_of_getElem? (i := 1268) (by decide +kernel)) rfl
theorem wsel_X7_foundAt : Cond.selects RX7 yX7_foundAt yX7_foundAt ∈ gTbl := gTbl_of (List.mem_of_getElem? (i := 1269) (by decide +kernel)) rfl
theorem wcode_X7_foundAt : Cond.code yX7_foundAt cX7_foundAt 4 (some .int) ∈ gTbl := gTbl_of (List.mem_of_getElem? (i := 1270) (by decide +kernel)) rfl
theorem wml_RL_298 : Cond.methodLink RL 298 yL_mergedShare ∈ gTbl := gTbl_of (List.mem_of_getElem? (i := 901) (by decide +kernel)) rfl
theorem wstat_L_mergedShare : Cond.static yL_mergedShare ∈ gTbl := gTbl_of (List.mem_of_getElem? (i := 902) (by decide +kernel)) rfl
theorem wml_RL_301 : Cond.methodLink RL 301 yX7_mergedShare ∈ gTbl := gTbl_of (List.mem_of_getElem? (i := 1271) (by decide +kernel)) rfl
theorem winst_X7_mergedShare : Cond.instanceMethod yX7_mergedShare ∈ gTbl := gTbl_of (List.mem_of_getElem? (i := 1272) (by decide +kernel)) rfl
theorem wsel_X7_mergedShare : Cond.selects RX7 yX7_mergedShare yX7_mergedShare ∈ gTbl := gTbl_of (List.mem_of_getElem? (i := 1273) (by decide +kernel)) rfl
theorem wcode_X7_mergedShare : Cond.code yX7_mergedShare cX7_mergedShare 3 (some .float) ∈ gTbl := gTbl_of (List.mem_of_getElem? (i := 1274) (by decide +kernel)) rfl
theorem wat_RX6_121 : ∀ w ∈ vx_atS RX6 121 "java/lang/IllegalArgumentException" ["java/lang/RuntimeException", "java/lang/Exception"], w ∈ gTbl := by decide +kernel
theorem wat_RX6_82 : ∀ w ∈ vx_atS RX6 82 "java/lang/IllegalStateException" ["java/lang/RuntimeException", "java/lang/Exception"], w ∈ gTbl := by decide +kernel
theorem wat_RX6_308 : ∀ w ∈ vx_atS RX6 308 "java/lang/IndexOutOfBoundsException" ["java/lang/RuntimeException", "java/lang/Exception"], w ∈ gTbl := by decide +kernel
theorem wat_RX6_132 : ∀ w ∈ ny_at RX6 132 "java/util/NoSuchElementException" ["java/lang/Exception"], w ∈ gTbl := by decide +kernel
theorem wat_RX6_196 : ∀ w ∈ vx_atS RX6 196 "java/lang/UnsupportedOperationException" ["java/lang/RuntimeException", "java/lang/Exception"], w ∈ gTbl := by decide +kernel
section
variable {p : Program} {l : Launch} {e : Env} {R : Room} {s : State} {m : MethodId} {args : Array Value} {below : List Frame} {meth : Method} {c : Code} {cc : ByteArray} {nL : Nat} {L : gL} {sz : Nat} {Q : State → Prop} {ce sl pc : Nat} {lv : List (Nat × Value)} {st : List Value} {v : gMem}
theorem fpX0_9 (C : gC p l s m args meth c cc nL RX0 L sz) {x : Int32} (hd : decode cc pc = .ok (.putfield 9, 3)) (kk : gS p l e R s m args below meth c nL L sz Q ce sl (pc + 3) lv st (gw v 0 0 0 x)) : gS p l e R s m args below meth c nL L sz Q ce sl pc lv (.int x :: .ref (L.2.1 0 0) :: st) v := g_put C gok_0 rfl rfl inX0 tyX0 tyX0_ok nmX0 0 (by decide) wfl_RX0_9 rfl rfl (Nat.le_of_ble_eq_true rfl) rfl hd kk
theorem fgX0_9 (C : gC p l s m args meth c cc nL RX0 L sz) (hd : decode cc pc = .ok (.getfield 9, 3)) (kk : gS p l e R s m args below meth c nL L sz Q ce sl (pc + 3) lv ((.int (v 0 0 0)) :: st) v) : gS p l e R s m args below meth c nL L sz Q ce sl pc lv (.ref (L.2.1 0 0) :: st) v := g_get C gok_0 rfl rfl inX0 0 (by decide) wfl_RX0_9 rfl hd kk
theorem fgX0_22 (C : gC p l s m args meth c cc nL RX0 L sz) (hd : decode cc pc = .ok (.getfield 22, 3)) (kk : gS p l e R s m args below meth c nL L sz Q ce sl (pc + 3) lv ((.int (v 0 0 2)) :: st) v) : gS p l e R s m args below meth c nL L sz Q ce sl pc lv (.ref (L.2.1 0 0) :: st) v := g_get C gok_0 rfl rfl inX0 2 (by decide) wfl_RX0_22 rfl hd kk
theorem fpX0_22 (C : gC p l s m args meth c cc nL RX0 L sz) {x : Int32} (hd : decode cc pc = .ok (.putfield 22, 3)) (kk : gS p l e R s m args below meth c nL L sz Q ce sl (pc + 3) lv st (gw v 0 0 2 x)) : gS p l e R s m args below meth c nL L sz Q ce sl pc lv (.int x :: .ref (L.2.1 0 0) :: st) v := g_put C gok_0 rfl rfl inX0 tyX0 tyX0_ok nmX0 2 (by decide) wfl_RX0_22 rfl rfl (Nat.le_of_ble_eq_true rfl) rfl hd kk
theorem fpX0_15 (C : gC p l s m args meth c cc nL RX0 L sz) {x : Int32} (hd : decode cc pc = .ok (.putfield 15, 3)) (kk : gS p l e R s m args below meth c nL L sz Q ce sl (pc + 3) lv st (gw v 0 0 1 x)) : gS p l e R s m args below meth c nL L sz Q ce sl pc lv (.int x :: .ref (L.2.1 0 0) :: st) v := g_put C gok_0 rfl rfl inX0 tyX0 tyX0_ok nmX0 1 (by decide) wfl_RX0_15 rfl rfl (Nat.le_of_ble_eq_true rfl) rfl hd kk
theorem fpX1_18 (C : gC p l s m args meth c cc nL RX1 L sz) {x : Int32} (hd : decode cc pc = .ok (.putfield 18, 3)) (kk : gS p l e R s m args below meth c nL L sz Q ce sl (pc + 3) lv st (gw v 1 0 2 x)) : gS p l e R s m args below meth c nL L sz Q ce sl pc lv (.int x :: .ref (L.2.1 1 0) :: st) v := g_put C gok_1 rfl rfl inX1 tyX1 tyX1_ok nmX1 2 (by decide) wfl_RX1_18 rfl rfl (Nat.le_of_ble_eq_true rfl) rfl hd kk
theorem fgX1_18 (C : gC p l s m args meth c cc nL RX1 L sz) (hd : decode cc pc = .ok (.getfield 18, 3)) (kk : gS p l e R s m args below meth c nL L sz Q ce sl (pc + 3) lv ((.int (v 1 0 2)) :: st) v) : gS p l e R s m args below meth c nL L sz Q ce sl pc lv (.ref (L.2.1 1 0) :: st) v := g_get C gok_1 rfl rfl inX1 2 (by decide) wfl_RX1_18 rfl hd kk
theorem fgX1_9 (C : gC p l s m args meth c cc nL RX1 L sz) (hd : decode cc pc = .ok (.getfield 9, 3)) (kk : gS p l e R s m args below meth c nL L sz Q ce sl (pc + 3) lv ((.ref (L.2.1 24 0)) :: st) v) : gS p l e R s m args below meth c nL L sz Q ce sl pc lv (.ref (L.2.1 1 0) :: st) v := g_get C gok_1 rfl rfl inX1 0 (by decide) wfl_RX1_9 rfl hd kk
theorem fgX1_15 (C : gC p l s m args meth c cc nL RX1 L sz) (hd : decode cc pc = .ok (.getfield 15, 3)) (kk : gS p l e R s m args below meth c nL L sz Q ce sl (pc + 3) lv ((.ref (L.2.1 25 0)) :: st) v) : gS p l e R s m args below meth c nL L sz Q ce sl pc lv (.ref (L.2.1 1 0) :: st) v := g_get C gok_1 rfl rfl inX1 1 (by decide) wfl_RX1_15 rfl hd kk
theorem fgX2_18 (C : gC p l s m args meth c cc nL RX2 L sz) {i : Nat} (hk : gok 2 i) (hd : decode cc pc = .ok (.getfield 18, 3)) (kk : gS p l e R s m args below meth c nL L sz Q ce sl (pc + 3) lv ((.ref (L.2.1 23 i)) :: st) v) : gS p l e R s m args below meth c nL L sz Q ce sl pc lv (.ref (L.2.1 2 i) :: st) v := g_get C hk rfl rfl inX2 2 (by decide) wfl_RX2_18 rfl hd kk
theorem fgX2_12 (C : gC p l s m args meth c cc nL RX2 L sz) {i : Nat} (hk : gok 2 i) (hd : decode cc pc = .ok (.getfield 12, 3)) (kk : gS p l e R s m args below meth c nL L sz Q ce sl (pc + 3) lv ((.ref (L.2.1 4 i)) :: st) v) : gS p l e R s m args below meth c nL L sz Q ce sl pc lv (.ref (L.2.1 2 i) :: st) v := g_get C hk rfl rfl inX2 1 (by decide) wfl_RX2_12 rfl hd kk
theorem fgX2_22 (C : gC p l s m args meth c cc nL RX2 L sz) {i : Nat} (hk : gok 4 i) (hd : decode cc pc = .ok (.getfield 22, 3)) (kk : gS p l e R s m args below meth c nL L sz Q ce sl (pc + 3) lv ((.int (v 4 i 1)) :: st) v) : gS p l e R s m args below meth c nL L sz Q ce sl pc lv (.ref (L.2.1 4 i) :: st) v := g_getN C hk rfl rfl inX4 1 (by decide) wfl_RX2_22 rfl hd kk
theorem fgX4_18 (C : gC p l s m args meth c cc nL RX4 L sz) {i : Nat} (hk : gok 4 i) (hd : decode cc pc = .ok (.getfield 18, 3)) (kk : gS p l e R s m args below meth c nL L sz Q ce sl (pc + 3) lv ((.int (v 4 i 1)) :: st) v) : gS p l e R s m args below meth c nL L sz Q ce sl pc lv (.ref (L.2.1 4 i) :: st) v := g_get C hk rfl rfl inX4 1 (by decide) wfl_RX4_18 rfl hd kk
theorem fgX4_9 (C : gC p l s m args meth c cc nL RX4 L sz) {i : Nat} (hk : gok 4 i) (hd : decode cc pc = .ok (.getfield 9, 3)) (kk : gS p l e R s m args below meth c nL L sz Q ce sl (pc + 3) lv ((.ref (L.2.1 21 i)) :: st) v) : gS p l e R s m args below meth c nL L sz Q ce sl pc lv (.ref (L.2.1 4 i) :: st) v := g_get C hk rfl rfl inX4 0 (by decide) wfl_RX4_9 rfl hd kk
theorem fgX4_30 (C : gC p l s m args meth c cc nL RX4 L sz) {i : Nat} (hk : gok 4 i) (hd : decode cc pc = .ok (.getfield 30, 3)) (kk : gS p l e R s m args below meth c nL L sz Q ce sl (pc + 3) lv ((.int (v 4 i 3)) :: st) v) : gS p l e R s m args below meth c nL L sz Q ce sl pc lv (.ref (L.2.1 4 i) :: st) v := g_get C hk rfl rfl inX4 3 (by decide) wfl_RX4_30 rfl hd kk
theorem fgX4_15 (C : gC p l s m args meth c cc nL RX4 L sz) {i : Nat} (hk : gok 4 i) (hd : decode cc pc = .ok (.getfield 15, 3)) (kk : gS p l e R s m args below meth c nL L sz Q ce sl (pc + 3) lv ((.ref (L.2.1 22 i)) :: st) v) : gS p l e R s m args below meth c nL L sz Q ce sl pc lv (.ref (L.2.1 4 i) :: st) v := g_get C hk rfl rfl inX4 2 (by decide) wfl_RX4_15 rfl hd kk
theorem fgX3_32 (C : gC p l s m args meth c cc nL RX3 L sz) (hd : decode cc pc = .ok (.getfield 32, 3)) (kk : gS p l e R s m args below meth c nL L sz Q ce sl (pc + 3) lv ((.int (v 3 0 3)) :: st) v) : gS p l e R s m args below meth c nL L sz Q ce sl pc lv (.ref (L.2.1 3 0) :: st) v := g_get C gok_3 rfl rfl inX3 3 (by decide) wfl_RX3_32 rfl hd kk
theorem fgX5_9 (C : gC p l s m args meth c cc nL RX5 L sz) {i : Nat} (hk : gok 5 i) (hd : decode cc pc = .ok (.getfield 9, 3)) (kk : gS p l e R s m args below meth c nL L sz Q ce sl (pc + 3) lv ((.ref (L.2.1 16 i)) :: st) v) : gS p l e R s m args below meth c nL L sz Q ce sl pc lv (.ref (L.2.1 5 i) :: st) v := g_get C hk rfl rfl inX5 0 (by decide) wfl_RX5_9 rfl hd kk
theorem fgX3_9 (C : gC p l s m args meth c cc nL RX3 L sz) (hd : decode cc pc = .ok (.getfield 9, 3)) (kk : gS p l e R s m args below meth c nL L sz Q ce sl (pc + 3) lv ((.ref (L.2.1 17 0)) :: st) v) : gS p l e R s m args below meth c nL L sz Q ce sl pc lv (.ref (L.2.1 3 0) :: st) v := g_get C gok_3 rfl rfl inX3 0 (by decide) wfl_RX3_9 rfl hd kk
theorem fgX3_15 (C : gC p l s m args meth c cc nL RX3 L sz) (hd : decode cc pc = .ok (.getfield 15, 3)) (kk : gS p l e R s m args below meth c nL L sz Q ce sl (pc + 3) lv ((.ref (L.2.1 18 0)) :: st) v) : gS p l e R s m args below meth c nL L sz Q ce sl pc lv (.ref (L.2.1 3 0) :: st) v := g_get C gok_3 rfl rfl inX3 1 (by decide) wfl_RX3_15 rfl hd kk
theorem fgX3_18 (C : gC p l s m args meth c cc nL RX3 L sz) (hd : decode cc pc = .ok (.getfield 18, 3)) (kk : gS p l e R s m args below meth c nL L sz Q ce sl (pc + 3) lv ((.ref (L.2.1 19 0)) :: st) v) : gS p l e R s m args below meth c nL L sz Q ce sl pc lv (.ref (L.2.1 3 0) :: st) v := g_get C gok_3 rfl rfl inX3 2 (by decide) wfl_RX3_18 rfl hd kk
theorem fgX3_25 (C : gC p l s m args meth c cc nL RX3 L sz) (hd : decode cc pc = .ok (.getfield 25, 3)) (kk : gS p l e R s m args below meth c nL L sz Q ce sl (pc + 3) lv ((.ref (L.2.1 5 1)) :: st) v) : gS p l e R s m args below meth c nL L sz Q ce sl pc lv (.ref (L.2.1 3 0) :: st) v := g_get C gok_3 rfl rfl inX3 4 (by decide) wfl_RX3_25 rfl hd kk
theorem fpX3_32 (C : gC p l s m args meth c cc nL RX3 L sz) {x : Int32} (hd : decode cc pc = .ok (.putfield 32, 3)) (kk : gS p l e R s m args below meth c nL L sz Q ce sl (pc + 3) lv st (gw v 3 0 3 x)) : gS p l e R s m args below meth c nL L sz Q ce sl pc lv (.int x :: .ref (L.2.1 3 0) :: st) v := g_put C gok_3 rfl rfl inX3 tyX3 tyX3_ok nmX3 3 (by decide) wfl_RX3_32 rfl rfl (Nat.le_of_ble_eq_true rfl) rfl hd kk
theorem fgX3_29 (C : gC p l s m args meth c cc nL RX3 L sz) (hd : decode cc pc = .ok (.getfield 29, 3)) (kk : gS p l e R s m args below meth c nL L sz Q ce sl (pc + 3) lv ((.ref (L.2.1 20 0)) :: st) v) : gS p l e R s m args below meth c nL L sz Q ce sl pc lv (.ref (L.2.1 3 0) :: st) v := g_get C gok_3 rfl rfl inX3 5 (by decide) wfl_RX3_29 rfl hd kk
theorem fpX4_30 (C : gC p l s m args meth c cc nL RX4 L sz) {i : Nat} (hk : gok 4 i) {x : Int32} (hd : decode cc pc = .ok (.putfield 30, 3)) (kk : gS p l e R s m args below meth c nL L sz Q ce sl (pc + 3) lv st (gw v 4 i 3 x)) : gS p l e R s m args below meth c nL L sz Q ce sl pc lv (.int x :: .ref (L.2.1 4 i) :: st) v := g_put C hk rfl rfl inX4 tyX4 tyX4_ok nmX4 3 (by decide) wfl_RX4_30 rfl rfl (Nat.le_of_ble_eq_true rfl) (by simp [gcont, gw]) hd kk
theorem fpX4_18 (C : gC p l s m args meth c cc nL RX4 L sz) {i : Nat} (hk : gok 4 i) {x : Int32} (hd : decode cc pc = .ok (.putfield 18, 3)) (kk : gS p l e R s m args below meth c nL L sz Q ce sl (pc + 3) lv st (gw v 4 i 1 x)) : gS p l e R s m args below meth c nL L sz Q ce sl pc lv (.int x :: .ref (L.2.1 4 i) :: st) v := g_put C hk rfl rfl inX4 tyX4 tyX4_ok nmX4 1 (by decide) wfl_RX4_18 rfl rfl (Nat.le_of_ble_eq_true rfl) (by simp [gcont, gw]) hd kk
theorem fgX6_75 (C : gC p l s m args meth c cc nL RX6 L sz) (hd : decode cc pc = .ok (.getfield 75, 3)) (kk : gS p l e R s m args below meth c nL L sz Q ce sl (pc + 3) lv ((.int (v 6 0 1)) :: st) v) : gS p l e R s m args below meth c nL L sz Q ce sl pc lv (.ref (L.2.1 6 0) :: st) v := g_get C gok_6 rfl rfl inX6 1 (by decide) wfl_RX6_75 rfl hd kk
theorem fgX6_9 (C : gC p l s m args meth c cc nL RX6 L sz) (hd : decode cc pc = .ok (.getfield 9, 3)) (kk : gS p l e R s m args below meth c nL L sz Q ce sl (pc + 3) lv ((.ref (L.2.1 10 0)) :: st) v) : gS p l e R s m args below meth c nL L sz Q ce sl pc lv (.ref (L.2.1 6 0) :: st) v := g_get C gok_6 rfl rfl inX6 0 (by decide) wfl_RX6_9 rfl hd kk
theorem fpX6_75 (C : gC p l s m args meth c cc nL RX6 L sz) {x : Int32} (hd : decode cc pc = .ok (.putfield 75, 3)) (kk : gS p l e R s m args below meth c nL L sz Q ce sl (pc + 3) lv st (gw v 6 0 1 x)) : gS p l e R s m args below meth c nL L sz Q ce sl pc lv (.int x :: .ref (L.2.1 6 0) :: st) v := g_put C gok_6 rfl rfl inX6 tyX6 tyX6_ok nmX6 1 (by decide) wfl_RX6_75 rfl rfl (Nat.le_of_ble_eq_true rfl) rfl hd kk
theorem fgX6_88 (C : gC p l s m args meth c cc nL RX6 L sz) (hd : decode cc pc = .ok (.getfield 88, 3)) (kk : gS p l e R s m args below meth c nL L sz Q ce sl (pc + 3) lv ((.int (v 6 0 3)) :: st) v) : gS p l e R s m args below meth c nL L sz Q ce sl pc lv (.ref (L.2.1 6 0) :: st) v := g_get C gok_6 rfl rfl inX6 3 (by decide) wfl_RX6_88 rfl hd kk
theorem fgX6_15 (C : gC p l s m args meth c cc nL RX6 L sz) (hd : decode cc pc = .ok (.getfield 15, 3)) (kk : gS p l e R s m args below meth c nL L sz Q ce sl (pc + 3) lv ((.ref (L.2.1 11 0)) :: st) v) : gS p l e R s m args below meth c nL L sz Q ce sl pc lv (.ref (L.2.1 6 0) :: st) v := g_get C gok_6 rfl rfl inX6 2 (by decide) wfl_RX6_15 rfl hd kk
theorem fpX6_93 (C : gC p l s m args meth c cc nL RX6 L sz) {i : Nat} (hk : gok 2 i) {x : Int32} (hd : decode cc pc = .ok (.putfield 93, 3)) (kk : gS p l e R s m args below meth c nL L sz Q ce sl (pc + 3) lv st (gw v 2 i 0 x)) : gS p l e R s m args below meth c nL L sz Q ce sl pc lv (.int x :: .ref (L.2.1 2 i) :: st) v := g_putN C hk rfl rfl inX2 tyX2 tyX2_ok nmX2 0 (by decide) wfl_RX6_93 rfl rfl (Nat.le_of_ble_eq_true rfl) (by simp [gcont, gw]) hd kk
theorem fpX6_88 (C : gC p l s m args meth c cc nL RX6 L sz) {x : Int32} (hd : decode cc pc = .ok (.putfield 88, 3)) (kk : gS p l e R s m args below meth c nL L sz Q ce sl (pc + 3) lv st (gw v 6 0 3 x)) : gS p l e R s m args below meth c nL L sz Q ce sl pc lv (.int x :: .ref (L.2.1 6 0) :: st) v := g_put C gok_6 rfl rfl inX6 tyX6 tyX6_ok nmX6 3 (by decide) wfl_RX6_88 rfl rfl (Nat.le_of_ble_eq_true rfl) rfl hd kk
theorem fgX6_125 (C : gC p l s m args meth c cc nL RX6 L sz) {i : Nat} (hk : gok 4 i) (hd : decode cc pc = .ok (.getfield 125, 3)) (kk : gS p l e R s m args below meth c nL L sz Q ce sl (pc + 3) lv ((.int (v 4 i 1)) :: st) v) : gS p l e R s m args below meth c nL L sz Q ce sl pc lv (.ref (L.2.1 4 i) :: st) v := g_getN C hk rfl rfl inX4 1 (by decide) wfl_RX6_125 rfl hd kk
theorem fgX6_103 (C : gC p l s m args meth c cc nL RX6 L sz) {i : Nat} (hk : gok 2 i) (hd : decode cc pc = .ok (.getfield 103, 3)) (kk : gS p l e R s m args below meth c nL L sz Q ce sl (pc + 3) lv ((.ref (L.2.1 4 i)) :: st) v) : gS p l e R s m args below meth c nL L sz Q ce sl pc lv (.ref (L.2.1 2 i) :: st) v := g_getN C hk rfl rfl inX2 1 (by decide) wfl_RX6_103 rfl hd kk
theorem fgX6_122 (C : gC p l s m args meth c cc nL RX6 L sz) {i : Nat} (hk : gok 2 i) (hd : decode cc pc = .ok (.getfield 122, 3)) (kk : gS p l e R s m args below meth c nL L sz Q ce sl (pc + 3) lv ((.ref (L.2.1 23 i)) :: st) v) : gS p l e R s m args below meth c nL L sz Q ce sl pc lv (.ref (L.2.1 2 i) :: st) v := g_getN C hk rfl rfl inX2 2 (by decide) wfl_RX6_122 rfl hd kk
theorem fgX6_133 (C : gC p l s m args meth c cc nL RX6 L sz) {i : Nat} (hk : gok 4 i) (hd : decode cc pc = .ok (.getfield 133, 3)) (kk : gS p l e R s m args below meth c nL L sz Q ce sl (pc + 3) lv ((.ref (L.2.1 21 i)) :: st) v) : gS p l e R s m args below meth c nL L sz Q ce sl pc lv (.ref (L.2.1 4 i) :: st) v := g_getN C hk rfl rfl inX4 0 (by decide) wfl_RX6_133 rfl hd kk
theorem fgX6_137 (C : gC p l s m args meth c cc nL RX6 L sz) {i : Nat} (hk : gok 4 i) (hd : decode cc pc = .ok (.getfield 137, 3)) (kk : gS p l e R s m args below meth c nL L sz Q ce sl (pc + 3) lv ((.int (v 4 i 3)) :: st) v) : gS p l e R s m args below meth c nL L sz Q ce sl pc lv (.ref (L.2.1 4 i) :: st) v := g_getN C hk rfl rfl inX4 3 (by decide) wfl_RX6_137 rfl hd kk
theorem fgX6_142 (C : gC p l s m args meth c cc nL RX6 L sz) {i : Nat} (hk : gok 4 i) (hd : decode cc pc = .ok (.getfield 142, 3)) (kk : gS p l e R s m args below meth c nL L sz Q ce sl (pc + 3) lv ((.ref (L.2.1 22 i)) :: st) v) : gS p l e R s m args below meth c nL L sz Q ce sl pc lv (.ref (L.2.1 4 i) :: st) v := g_getN C hk rfl rfl inX4 2 (by decide) wfl_RX6_142 rfl hd kk
theorem fgX6_19 (C : gC p l s m args meth c cc nL RX6 L sz) (hd : decode cc pc = .ok (.getfield 19, 3)) (kk : gS p l e R s m args below meth c nL L sz Q ce sl (pc + 3) lv ((.ref (L.2.1 12 0)) :: st) v) : gS p l e R s m args below meth c nL L sz Q ce sl pc lv (.ref (L.2.1 6 0) :: st) v := g_get C gok_6 rfl rfl inX6 4 (by decide) wfl_RX6_19 rfl hd kk
theorem fgX6_22 (C : gC p l s m args meth c cc nL RX6 L sz) (hd : decode cc pc = .ok (.getfield 22, 3)) (kk : gS p l e R s m args below meth c nL L sz Q ce sl (pc + 3) lv ((.ref (L.2.1 13 0)) :: st) v) : gS p l e R s m args below meth c nL L sz Q ce sl pc lv (.ref (L.2.1 6 0) :: st) v := g_get C gok_6 rfl rfl inX6 5 (by decide) wfl_RX6_22 rfl hd kk
theorem fgX6_25 (C : gC p l s m args meth c cc nL RX6 L sz) (hd : decode cc pc = .ok (.getfield 25, 3)) (kk : gS p l e R s m args below meth c nL L sz Q ce sl (pc + 3) lv ((.int (v 6 0 6)) :: st) v) : gS p l e R s m args below meth c nL L sz Q ce sl pc lv (.ref (L.2.1 6 0) :: st) v := g_get C gok_6 rfl rfl inX6 6 (by decide) wfl_RX6_25 rfl hd kk
theorem fpX6_25 (C : gC p l s m args meth c cc nL RX6 L sz) {x : Int32} (hd : decode cc pc = .ok (.putfield 25, 3)) (kk : gS p l e R s m args below meth c nL L sz Q ce sl (pc + 3) lv st (gw v 6 0 6 x)) : gS p l e R s m args below meth c nL L sz Q ce sl pc lv (.int x :: .ref (L.2.1 6 0) :: st) v := g_put C gok_6 rfl rfl inX6 tyX6 tyX6_ok nmX6 6 (by decide) wfl_RX6_25 rfl rfl (Nat.le_of_ble_eq_true rfl) rfl hd kk
theorem fgX6_39 (C : gC p l s m args meth c cc nL RX6 L sz) (hd : decode cc pc = .ok (.getfield 39, 3)) (kk : gS p l e R s m args below meth c nL L sz Q ce sl (pc + 3) lv ((.ref (L.2.1 3 0)) :: st) v) : gS p l e R s m args below meth c nL L sz Q ce sl pc lv (.ref (L.2.1 6 0) :: st) v := g_get C gok_6 rfl rfl inX6 9 (by decide) wfl_RX6_39 rfl hd kk
theorem fgX6_32 (C : gC p l s m args meth c cc nL RX6 L sz) (hd : decode cc pc = .ok (.getfield 32, 3)) (kk : gS p l e R s m args below meth c nL L sz Q ce sl (pc + 3) lv ((.ref (L.2.1 5 0)) :: st) v) : gS p l e R s m args below meth c nL L sz Q ce sl pc lv (.ref (L.2.1 6 0) :: st) v := g_get C gok_6 rfl rfl inX6 7 (by decide) wfl_RX6_32 rfl hd kk
theorem fgX6_67 (C : gC p l s m args meth c cc nL RX6 L sz) (hd : decode cc pc = .ok (.getfield 67, 3)) (kk : gS p l e R s m args below meth c nL L sz Q ce sl (pc + 3) lv ((.ref (L.2.1 15 0)) :: st) v) : gS p l e R s m args below meth c nL L sz Q ce sl pc lv (.ref (L.2.1 6 0) :: st) v := g_get C gok_6 rfl rfl inX6 14 (by decide) wfl_RX6_67 rfl hd kk
theorem fgX6_63 (C : gC p l s m args meth c cc nL RX6 L sz) (hd : decode cc pc = .ok (.getfield 63, 3)) (kk : gS p l e R s m args below meth c nL L sz Q ce sl (pc + 3) lv ((.ref (L.2.1 1 0)) :: st) v) : gS p l e R s m args below meth c nL L sz Q ce sl pc lv (.ref (L.2.1 6 0) :: st) v := g_get C gok_6 rfl rfl inX6 13 (by decide) wfl_RX6_63 rfl hd kk
theorem fgX6_56 (C : gC p l s m args meth c cc nL RX6 L sz) (hd : decode cc pc = .ok (.getfield 56, 3)) (kk : gS p l e R s m args below meth c nL L sz Q ce sl (pc + 3) lv ((.ref (L.2.1 0 0)) :: st) v) : gS p l e R s m args below meth c nL L sz Q ce sl pc lv (.ref (L.2.1 6 0) :: st) v := g_get C gok_6 rfl rfl inX6 12 (by decide) wfl_RX6_56 rfl hd kk
theorem fgX6_177 (C : gC p l s m args meth c cc nL RX6 L sz) (hd : decode cc pc = .ok (.getfield 177, 3)) (kk : gS p l e R s m args below meth c nL L sz Q ce sl (pc + 3) lv ((.int (v 0 0 2)) :: st) v) : gS p l e R s m args below meth c nL L sz Q ce sl pc lv (.ref (L.2.1 0 0) :: st) v := g_getN C gok_0 rfl rfl inX0 2 (by decide) wfl_RX6_177 rfl hd kk
theorem fgX6_183 (C : gC p l s m args meth c cc nL RX6 L sz) (hd : decode cc pc = .ok (.getfield 183, 3)) (kk : gS p l e R s m args below meth c nL L sz Q ce sl (pc + 3) lv ((.int (v 0 0 0)) :: st) v) : gS p l e R s m args below meth c nL L sz Q ce sl pc lv (.ref (L.2.1 0 0) :: st) v := g_getN C gok_0 rfl rfl inX0 0 (by decide) wfl_RX6_183 rfl hd kk
theorem fgX6_186 (C : gC p l s m args meth c cc nL RX6 L sz) (hd : decode cc pc = .ok (.getfield 186, 3)) (kk : gS p l e R s m args below meth c nL L sz Q ce sl (pc + 3) lv ((.int (v 0 0 1)) :: st) v) : gS p l e R s m args below meth c nL L sz Q ce sl pc lv (.ref (L.2.1 0 0) :: st) v := g_getN C gok_0 rfl rfl inX0 1 (by decide) wfl_RX6_186 rfl hd kk
theorem fgX6_200 (C : gC p l s m args meth c cc nL RX6 L sz) (hd : decode cc pc = .ok (.getfield 200, 3)) (kk : gS p l e R s m args below meth c nL L sz Q ce sl (pc + 3) lv ((.int (v 6 0 8)) :: st) v) : gS p l e R s m args below meth c nL L sz Q ce sl pc lv (.ref (L.2.1 6 0) :: st) v := g_get C gok_6 rfl rfl inX6 8 (by decide) wfl_RX6_200 rfl hd kk
theorem fpX6_200 (C : gC p l s m args meth c cc nL RX6 L sz) {x : Int32} (hd : decode cc pc = .ok (.putfield 200, 3)) (kk : gS p l e R s m args below meth c nL L sz Q ce sl (pc + 3) lv st (gw v 6 0 8 x)) : gS p l e R s m args below meth c nL L sz Q ce sl pc lv (.int x :: .ref (L.2.1 6 0) :: st) v := g_put C gok_6 rfl rfl inX6 tyX6 tyX6_ok nmX6 8 (by decide) wfl_RX6_200 rfl rfl (Nat.le_of_ble_eq_true rfl) rfl hd kk
theorem fgX6_321 (C : gC p l s m args meth c cc nL RX6 L sz) (hd : decode cc pc = .ok (.getfield 321, 3)) (kk : gS p l e R s m args below meth c nL L sz Q ce sl (pc + 3) lv ((.int (v 3 0 3)) :: st) v) : gS p l e R s m args below meth c nL L sz Q ce sl pc lv (.ref (L.2.1 3 0) :: st) v := g_getN C gok_3 rfl rfl inX3 3 (by decide) wfl_RX6_321 rfl hd kk
theorem fgX6_245 (C : gC p l s m args meth c cc nL RX6 L sz) (hd : decode cc pc = .ok (.getfield 245, 3)) (kk : gS p l e R s m args below meth c nL L sz Q ce sl (pc + 3) lv ((.ref (L.2.1 19 0)) :: st) v) : gS p l e R s m args below meth c nL L sz Q ce sl pc lv (.ref (L.2.1 3 0) :: st) v := g_getN C gok_3 rfl rfl inX3 2 (by decide) wfl_RX6_245 rfl hd kk
theorem fgX6_273 (C : gC p l s m args meth c cc nL RX6 L sz) (hd : decode cc pc = .ok (.getfield 273, 3)) (kk : gS p l e R s m args below meth c nL L sz Q ce sl (pc + 3) lv ((.ref (L.2.1 20 0)) :: st) v) : gS p l e R s m args below meth c nL L sz Q ce sl pc lv (.ref (L.2.1 3 0) :: st) v := g_getN C gok_3 rfl rfl inX3 5 (by decide) wfl_RX6_273 rfl hd kk
theorem fgX6_93 (C : gC p l s m args meth c cc nL RX6 L sz) {i : Nat} (hk : gok 2 i) (hd : decode cc pc = .ok (.getfield 93, 3)) (kk : gS p l e R s m args below meth c nL L sz Q ce sl (pc + 3) lv ((.int (v 2 i 0)) :: st) v) : gS p l e R s m args below meth c nL L sz Q ce sl pc lv (.ref (L.2.1 2 i) :: st) v := g_getN C hk rfl rfl inX2 0 (by decide) wfl_RX6_93 rfl hd kk
theorem fgX6_43 (C : gC p l s m args meth c cc nL RX6 L sz) (hd : decode cc pc = .ok (.getfield 43, 3)) (kk : gS p l e R s m args below meth c nL L sz Q ce sl (pc + 3) lv ((.ref (L.2.1 14 0)) :: st) v) : gS p l e R s m args below meth c nL L sz Q ce sl pc lv (.ref (L.2.1 6 0) :: st) v := g_get C gok_6 rfl rfl inX6 10 (by decide) wfl_RX6_43 rfl hd kk
theorem fgX6_49 (C : gC p l s m args meth c cc nL RX6 L sz) (hd : decode cc pc = .ok (.getfield 49, 3)) (kk : gS p l e R s m args below meth c nL L sz Q ce sl (pc + 3) lv ((.ref (L.2.1 4 16)) :: st) v) : gS p l e R s m args below meth c nL L sz Q ce sl pc lv (.ref (L.2.1 6 0) :: st) v := g_get C gok_6 rfl rfl inX6 11 (by decide) wfl_RX6_49 rfl hd kk
theorem fgX7_64 (C : gC p l s m args meth c cc nL RX7 L sz) (hd : decode cc pc = .ok (.getfield 64, 3)) (kk : gS p l e R s m args below meth c nL L sz Q ce sl (pc + 3) lv ((.int (v 7 0 0)) :: st) v) : gS p l e R s m args below meth c nL L sz Q ce sl pc lv (.ref (L.2.1 7 0) :: st) v := g_get C gok_7 rfl rfl inX7 0 (by decide) wfl_RX7_64 rfl hd kk
theorem fpX7_64 (C : gC p l s m args meth c cc nL RX7 L sz) {x : Int32} (hd : decode cc pc = .ok (.putfield 64, 3)) (kk : gS p l e R s m args below meth c nL L sz Q ce sl (pc + 3) lv st (gw v 7 0 0 x)) : gS p l e R s m args below meth c nL L sz Q ce sl pc lv (.int x :: .ref (L.2.1 7 0) :: st) v := g_put C gok_7 rfl rfl inX7 tyX7 tyX7_ok nmX7 0 (by decide) wfl_RX7_64 rfl rfl (Nat.le_of_ble_eq_true rfl) rfl hd kk
theorem fgX7_67 (C : gC p l s m args meth c cc nL RX7 L sz) (hd : decode cc pc = .ok (.getfield 67, 3)) (kk : gS p l e R s m args below meth c nL L sz Q ce sl (pc + 3) lv ((.int (v 7 0 2)) :: st) v) : gS p l e R s m args below meth c nL L sz Q ce sl pc lv (.ref (L.2.1 7 0) :: st) v := g_get C gok_7 rfl rfl inX7 2 (by decide) wfl_RX7_67 rfl hd kk
theorem fgX7_82 (C : gC p l s m args meth c cc nL RX7 L sz) (hd : decode cc pc = .ok (.getfield 82, 3)) (kk : gS p l e R s m args below meth c nL L sz Q ce sl (pc + 3) lv ((.int (v 7 0 1)) :: st) v) : gS p l e R s m args below meth c nL L sz Q ce sl pc lv (.ref (L.2.1 7 0) :: st) v := g_get C gok_7 rfl rfl inX7 1 (by decide) wfl_RX7_82 rfl hd kk
theorem fgX7_13 (C : gC p l s m args meth c cc nL RX7 L sz) (hd : decode cc pc = .ok (.getfield 13, 3)) (kk : gS p l e R s m args below meth c nL L sz Q ce sl (pc + 3) lv ((.ref (L.2.1 30 0)) :: st) v) : gS p l e R s m args below meth c nL L sz Q ce sl pc lv (.ref (L.2.1 7 0) :: st) v := g_get C gok_7 rfl rfl inX7 9 (by decide) wfl_RX7_13 rfl hd kk
theorem fpX7_82 (C : gC p l s m args meth c cc nL RX7 L sz) {x : Int32} (hd : decode cc pc = .ok (.putfield 82, 3)) (kk : gS p l e R s m args below meth c nL L sz Q ce sl (pc + 3) lv st (gw v 7 0 1 x)) : gS p l e R s m args below meth c nL L sz Q ce sl pc lv (.int x :: .ref (L.2.1 7 0) :: st) v := g_put C gok_7 rfl rfl inX7 tyX7 tyX7_ok nmX7 1 (by decide) wfl_RX7_82 rfl rfl (Nat.le_of_ble_eq_true rfl) rfl hd kk
theorem fgX7_17 (C : gC p l s m args meth c cc nL RX7 L sz) (hd : decode cc pc = .ok (.getfield 17, 3)) (kk : gS p l e R s m args below meth c nL L sz Q ce sl (pc + 3) lv ((.ref (L.2.1 31 0)) :: st) v) : gS p l e R s m args below meth c nL L sz Q ce sl pc lv (.ref (L.2.1 7 0) :: st) v := g_get C gok_7 rfl rfl inX7 10 (by decide) wfl_RX7_17 rfl hd kk
theorem fpX7_67 (C : gC p l s m args meth c cc nL RX7 L sz) {x : Int32} (hd : decode cc pc = .ok (.putfield 67, 3)) (kk : gS p l e R s m args below meth c nL L sz Q ce sl (pc + 3) lv st (gw v 7 0 2 x)) : gS p l e R s m args below meth c nL L sz Q ce sl pc lv (.int x :: .ref (L.2.1 7 0) :: st) v := g_put C gok_7 rfl rfl inX7 tyX7 tyX7_ok nmX7 2 (by decide) wfl_RX7_67 rfl rfl (Nat.le_of_ble_eq_true rfl) rfl hd kk
theorem fgX7_23 (C : gC p l s m args meth c cc nL RX7 L sz) (hd : decode cc pc = .ok (.getfield 23, 3)) (kk : gS p l e R s m args below meth c nL L sz Q ce sl (pc + 3) lv ((.ref (L.2.1 33 0)) :: st) v) : gS p l e R s m args below meth c nL L sz Q ce sl pc lv (.ref (L.2.1 7 0) :: st) v := g_get C gok_7 rfl rfl inX7 12 (by decide) wfl_RX7_23 rfl hd kk
theorem fgX7_20 (C : gC p l s m args meth c cc nL RX7 L sz) (hd : decode cc pc = .ok (.getfield 20, 3)) (kk : gS p l e R s m args below meth c nL L sz Q ce sl (pc + 3) lv ((.ref (L.2.1 32 0)) :: st) v) : gS p l e R s m args below meth c nL L sz Q ce sl pc lv (.ref (L.2.1 7 0) :: st) v := g_get C gok_7 rfl rfl inX7 11 (by decide) wfl_RX7_20 rfl hd kk
theorem fgX7_50 (C : gC p l s m args meth c cc nL RX7 L sz) (hd : decode cc pc = .ok (.getfield 50, 3)) (kk : gS p l e R s m args below meth c nL L sz Q ce sl (pc + 3) lv ((.ref (L.2.1 42 0)) :: st) v) : gS p l e R s m args below meth c nL L sz Q ce sl pc lv (.ref (L.2.1 7 0) :: st) v := g_get C gok_7 rfl rfl inX7 21 (by decide) wfl_RX7_50 rfl hd kk
theorem fgX7_44 (C : gC p l s m args meth c cc nL RX7 L sz) (hd : decode cc pc = .ok (.getfield 44, 3)) (kk : gS p l e R s m args below meth c nL L sz Q ce sl (pc + 3) lv ((.ref (L.2.1 40 0)) :: st) v) : gS p l e R s m args below meth c nL L sz Q ce sl pc lv (.ref (L.2.1 7 0) :: st) v := g_get C gok_7 rfl rfl inX7 19 (by decide) wfl_RX7_44 rfl hd kk
theorem fgX7_47 (C : gC p l s m args meth c cc nL RX7 L sz) (hd : decode cc pc = .ok (.getfield 47, 3)) (kk : gS p l e R s m args below meth c nL L sz Q ce sl (pc + 3) lv ((.ref (L.2.1 40 1)) :: st) v) : gS p l e R s m args below meth c nL L sz Q ce sl pc lv (.ref (L.2.1 7 0) :: st) v := g_get C gok_7 rfl rfl inX7 20 (by decide) wfl_RX7_47 rfl hd kk
theorem fgX7_26 (C : gC p l s m args meth c cc nL RX7 L sz) (hd : decode cc pc = .ok (.getfield 26, 3)) (kk : gS p l e R s m args below meth c nL L sz Q ce sl (pc + 3) lv ((.ref (L.2.1 34 0)) :: st) v) : gS p l e R s m args below meth c nL L sz Q ce sl pc lv (.ref (L.2.1 7 0) :: st) v := g_get C gok_7 rfl rfl inX7 13 (by decide) wfl_RX7_26 rfl hd kk
theorem fgX7_29 (C : gC p l s m args meth c cc nL RX7 L sz) (hd : decode cc pc = .ok (.getfield 29, 3)) (kk : gS p l e R s m args below meth c nL L sz Q ce sl (pc + 3) lv ((.ref (L.2.1 35 0)) :: st) v) : gS p l e R s m args below meth c nL L sz Q ce sl pc lv (.ref (L.2.1 7 0) :: st) v := g_get C gok_7 rfl rfl inX7 14 (by decide) wfl_RX7_29 rfl hd kk
theorem fgX7_7 (C : gC p l s m args meth c cc nL RX7 L sz) (hd : decode cc pc = .ok (.getfield 7, 3)) (kk : gS p l e R s m args below meth c nL L sz Q ce sl (pc + 3) lv ((.int (v 7 0 5)) :: st) v) : gS p l e R s m args below meth c nL L sz Q ce sl pc lv (.ref (L.2.1 7 0) :: st) v := g_get C gok_7 rfl rfl inX7 5 (by decide) wfl_RX7_7 rfl hd kk
theorem fpX7_7 (C : gC p l s m args meth c cc nL RX7 L sz) {x : Int32} (hd : decode cc pc = .ok (.putfield 7, 3)) (kk : gS p l e R s m args below meth c nL L sz Q ce sl (pc + 3) lv st (gw v 7 0 5 x)) : gS p l e R s m args below meth c nL L sz Q ce sl pc lv (.int x :: .ref (L.2.1 7 0) :: st) v := g_put C gok_7 rfl rfl inX7 tyX7 tyX7_ok nmX7 5 (by decide) wfl_RX7_7 rfl rfl (Nat.le_of_ble_eq_true rfl) rfl hd kk
theorem fgX7_38 (C : gC p l s m args meth c cc nL RX7 L sz) (hd : decode cc pc = .ok (.getfield 38, 3)) (kk : gS p l e R s m args below meth c nL L sz Q ce sl (pc + 3) lv ((.ref (L.2.1 38 0)) :: st) v) : gS p l e R s m args below meth c nL L sz Q ce sl pc lv (.ref (L.2.1 7 0) :: st) v := g_get C gok_7 rfl rfl inX7 17 (by decide) wfl_RX7_38 rfl hd kk
theorem fgX7_115 (C : gC p l s m args meth c cc nL RX7 L sz) (hd : decode cc pc = .ok (.getfield 115, 3)) (kk : gS p l e R s m args below meth c nL L sz Q ce sl (pc + 3) lv ((.int (v 7 0 3)) :: st) v) : gS p l e R s m args below meth c nL L sz Q ce sl pc lv (.ref (L.2.1 7 0) :: st) v := g_get C gok_7 rfl rfl inX7 3 (by decide) wfl_RX7_115 rfl hd kk
theorem fgX7_54 (C : gC p l s m args meth c cc nL RX7 L sz) (hd : decode cc pc = .ok (.getfield 54, 3)) (kk : gS p l e R s m args below meth c nL L sz Q ce sl (pc + 3) lv ((.ref (L.2.1 43 0)) :: st) v) : gS p l e R s m args below meth c nL L sz Q ce sl pc lv (.ref (L.2.1 7 0) :: st) v := g_get C gok_7 rfl rfl inX7 22 (by decide) wfl_RX7_54 rfl hd kk
theorem fgX7_32 (C : gC p l s m args meth c cc nL RX7 L sz) (hd : decode cc pc = .ok (.getfield 32, 3)) (kk : gS p l e R s m args below meth c nL L sz Q ce sl (pc + 3) lv ((.ref (L.2.1 36 0)) :: st) v) : gS p l e R s m args below meth c nL L sz Q ce sl pc lv (.ref (L.2.1 7 0) :: st) v := g_get C gok_7 rfl rfl inX7 15 (by decide) wfl_RX7_32 rfl hd kk
theorem fgX7_35 (C : gC p l s m args meth c cc nL RX7 L sz) (hd : decode cc pc = .ok (.getfield 35, 3)) (kk : gS p l e R s m args below meth c nL L sz Q ce sl (pc + 3) lv ((.ref (L.2.1 37 0)) :: st) v) : gS p l e R s m args below meth c nL L sz Q ce sl pc lv (.ref (L.2.1 7 0) :: st) v := g_get C gok_7 rfl rfl inX7 16 (by decide) wfl_RX7_35 rfl hd kk
theorem fgX7_58 (C : gC p l s m args meth c cc nL RX7 L sz) (hd : decode cc pc = .ok (.getfield 58, 3)) (kk : gS p l e R s m args below meth c nL L sz Q ce sl (pc + 3) lv ((.ref (L.2.1 44 0)) :: st) v) : gS p l e R s m args below meth c nL L sz Q ce sl pc lv (.ref (L.2.1 7 0) :: st) v := g_get C gok_7 rfl rfl inX7 23 (by decide) wfl_RX7_58 rfl hd kk
theorem fpX7_121 (C : gC p l s m args meth c cc nL RX7 L sz) {x : Int32} (hd : decode cc pc = .ok (.putfield 121, 3)) (kk : gS p l e R s m args below meth c nL L sz Q ce sl (pc + 3) lv st (gw v 7 0 7 x)) : gS p l e R s m args below meth c nL L sz Q ce sl pc lv (.int x :: .ref (L.2.1 7 0) :: st) v := g_put C gok_7 rfl rfl inX7 tyX7 tyX7_ok nmX7 7 (by decide) wfl_RX7_121 rfl rfl (Nat.le_of_ble_eq_true rfl) rfl hd kk
theorem fpX7_124 (C : gC p l s m args meth c cc nL RX7 L sz) {x : Int32} (hd : decode cc pc = .ok (.putfield 124, 3)) (kk : gS p l e R s m args below meth c nL L sz Q ce sl (pc + 3) lv st (gw v 7 0 8 x)) : gS p l e R s m args below meth c nL L sz Q ce sl pc lv (.int x :: .ref (L.2.1 7 0) :: st) v := g_put C gok_7 rfl rfl inX7 tyX7 tyX7_ok nmX7 8 (by decide) wfl_RX7_124 rfl rfl (Nat.le_of_ble_eq_true rfl) rfl hd kk
theorem fgX7_121 (C : gC p l s m args meth c cc nL RX7 L sz) (hd : decode cc pc = .ok (.getfield 121, 3)) (kk : gS p l e R s m args below meth c nL L sz Q ce sl (pc + 3) lv ((.int (v 7 0 7)) :: st) v) : gS p l e R s m args below meth c nL L sz Q ce sl pc lv (.ref (L.2.1 7 0) :: st) v := g_get C gok_7 rfl rfl inX7 7 (by decide) wfl_RX7_121 rfl hd kk
theorem fgX7_124 (C : gC p l s m args meth c cc nL RX7 L sz) (hd : decode cc pc = .ok (.getfield 124, 3)) (kk : gS p l e R s m args below meth c nL L sz Q ce sl (pc + 3) lv ((.int (v 7 0 8)) :: st) v) : gS p l e R s m args below meth c nL L sz Q ce sl pc lv (.ref (L.2.1 7 0) :: st) v := g_get C gok_7 rfl rfl inX7 8 (by decide) wfl_RX7_124 rfl hd kk
theorem fgX7_144 (C : gC p l s m args meth c cc nL RX7 L sz) (hd : decode cc pc = .ok (.getfield 144, 3)) (kk : gS p l e R s m args below meth c nL L sz Q ce sl (pc + 3) lv ((.int (v 7 0 4)) :: st) v) : gS p l e R s m args below meth c nL L sz Q ce sl pc lv (.ref (L.2.1 7 0) :: st) v := g_get C gok_7 rfl rfl inX7 4 (by decide) wfl_RX7_144 rfl hd kk
theorem fpX7_144 (C : gC p l s m args meth c cc nL RX7 L sz) {x : Int32} (hd : decode cc pc = .ok (.putfield 144, 3)) (kk : gS p l e R s m args below meth c nL L sz Q ce sl (pc + 3) lv st (gw v 7 0 4 x)) : gS p l e R s m args below meth c nL L sz Q ce sl pc lv (.int x :: .ref (L.2.1 7 0) :: st) v := g_put C gok_7 rfl rfl inX7 tyX7 tyX7_ok nmX7 4 (by decide) wfl_RX7_144 rfl rfl (Nat.le_of_ble_eq_true rfl) rfl hd kk
theorem fpX7_115 (C : gC p l s m args meth c cc nL RX7 L sz) {x : Int32} (hd : decode cc pc = .ok (.putfield 115, 3)) (kk : gS p l e R s m args below meth c nL L sz Q ce sl (pc + 3) lv st (gw v 7 0 3 x)) : gS p l e R s m args below meth c nL L sz Q ce sl pc lv (.int x :: .ref (L.2.1 7 0) :: st) v := g_put C gok_7 rfl rfl inX7 tyX7 tyX7_ok nmX7 3 (by decide) wfl_RX7_115 rfl rfl (Nat.le_of_ble_eq_true rfl) rfl hd kk
theorem fgX7_41 (C : gC p l s m args meth c cc nL RX7 L sz) (hd : decode cc pc = .ok (.getfield 41, 3)) (kk : gS p l e R s m args below meth c nL L sz Q ce sl (pc + 3) lv ((.ref (L.2.1 39 0)) :: st) v) : gS p l e R s m args below meth c nL L sz Q ce sl pc lv (.ref (L.2.1 7 0) :: st) v := g_get C gok_7 rfl rfl inX7 18 (by decide) wfl_RX7_41 rfl hd kk
theorem fgX7_61 (C : gC p l s m args meth c cc nL RX7 L sz) (hd : decode cc pc = .ok (.getfield 61, 3)) (kk : gS p l e R s m args below meth c nL L sz Q ce sl (pc + 3) lv ((.ref (L.2.1 45 0)) :: st) v) : gS p l e R s m args below meth c nL L sz Q ce sl pc lv (.ref (L.2.1 7 0) :: st) v := g_get C gok_7 rfl rfl inX7 24 (by decide) wfl_RX7_61 rfl hd kk
theorem fgX7_177 (C : gC p l s m args meth c cc nL RX7 L sz) (hd : decode cc pc = .ok (.getfield 177, 3)) (kk : gS p l e R s m args below meth c nL L sz Q ce sl (pc + 3) lv ((.int (v 7 0 6)) :: st) v) : gS p l e R s m args below meth c nL L sz Q ce sl pc lv (.ref (L.2.1 7 0) :: st) v := g_get C gok_7 rfl rfl inX7 6 (by decide) wfl_RX7_177 rfl hd kk
theorem fpX7_177 (C : gC p l s m args meth c cc nL RX7 L sz) {x : Int32} (hd : decode cc pc = .ok (.putfield 177, 3)) (kk : gS p l e R s m args below meth c nL L sz Q ce sl (pc + 3) lv st (gw v 7 0 6 x)) : gS p l e R s m args below meth c nL L sz Q ce sl pc lv (.int x :: .ref (L.2.1 7 0) :: st) v := g_put C gok_7 rfl rfl inX7 tyX7 tyX7_ok nmX7 6 (by decide) wfl_RX7_177 rfl rfl (Nat.le_of_ble_eq_true rfl) rfl hd kk
end
