def wsU : List Jvm.Cond := lw_tbl.filter goodWord
theorem wsU_t {w : Jvm.Cond} (i : Nat) (h : tables_1[i]? = some w) (g : goodWord w = true) : w ∈ wsU := List.mem_filter.mpr ⟨List.mem_append_right _ (List.mem_of_getElem? h), g⟩
theorem wsU_s {y : MethodName} {n : Nat} (i : Nat) (h : lw_privs[i]? = some (y, n)) : Jvm.Cond.selects y.cls y y ∈ wsU := List.mem_filter.mpr ⟨List.mem_append_left _ (List.mem_map.mpr ⟨(y, n), List.mem_of_getElem? h, rfl⟩), rfl⟩
theorem wsU_g {w : Jvm.Cond} (h : w ∈ wsU) : w ∈ wsU ∧ ((w.onTables && w.keeps) = true ∨ ∃ ty, w = .arrayClass ty) := ⟨h, good_of_word (List.mem_filter.mp h).2⟩
theorem gdN {y : MethodName} {c : ByteArray} {L : Nat} {r : Option FieldType} (h5 : Jvm.Cond.code y c L r ∈ wsU) : GoodIn wsU (Jvm.Cond.code y c L r :: wsU) := fun w hw => by
  rcases List.mem_cons.mp hw with rfl | hw
  · exact wsU_g h5
  · exact wsU_g hw
theorem gdV {own C : String} {idx : Nat} {y : MethodName} {c : ByteArray} {L : Nat} {r : Option FieldType} (h1 : Jvm.Cond.methodLink own idx y ∈ wsU) (h2 : Jvm.Cond.instanceMethod y ∈ wsU) (h3 : Jvm.Cond.selects C y y ∈ wsU) (h4 : Jvm.Cond.initialized C ∈ wsU) (h5 : Jvm.Cond.code y c L r ∈ wsU) : GoodIn wsU (wsV own idx C y (Jvm.Cond.code y c L r :: wsU)) := fun w hw => by
  rcases List.mem_append.mp hw with hw | hw
  · simp only [List.mem_cons, List.not_mem_nil, or_false] at hw
    rcases hw with rfl | rfl | rfl | rfl
    · exact wsU_g h1
    · exact wsU_g h2
    · exact wsU_g h3
    · exact wsU_g h4
  · exact gdN h5 w hw
theorem gdS {own : String} {idx : Nat} {y : MethodName} {c : ByteArray} {L : Nat} {r : Option FieldType} (h1 : Jvm.Cond.methodLink own idx y ∈ wsU) (h2 : Jvm.Cond.static y ∈ wsU) (h4 : Jvm.Cond.initialized y.cls ∈ wsU) (h5 : Jvm.Cond.code y c L r ∈ wsU) : GoodIn wsU (va_wsS own idx y (Jvm.Cond.code y c L r :: wsU)) := fun w hw => by
  rcases List.mem_append.mp hw with hw | hw
  · simp only [List.mem_cons, List.not_mem_nil, or_false] at hw
    rcases hw with rfl | rfl | rfl
    · exact wsU_g h1
    · exact wsU_g h2
    · exact wsU_g h4
  · exact gdN h5 w hw
theorem wd_0 : Jvm.Cond.constant RJ6 265 (1431655765) ∈ wsU := wsU_t 390 (by decide +kernel) rfl
theorem wd_1 : Jvm.Cond.constant RJ6 266 (858993459) ∈ wsU := wsU_t 391 (by decide +kernel) rfl
theorem wd_2 : Jvm.Cond.constant RJ6 267 (252645135) ∈ wsU := wsU_t 392 (by decide +kernel) rfl
theorem wd_3 : Jvm.Cond.fieldLink RX0 15 "EggOrder$Coop" "facts" "[I" ∈ wsU := wsU_t 38 (by decide +kernel) rfl
theorem wd_4 : Jvm.Cond.code yX6_at cX6_at 2 (some .int) ∈ wsU := wsU_t 263 (by decide +kernel) rfl
theorem wd_5 : Jvm.Cond.initialized RX6 ∈ wsU := wsU_t 1 (by decide +kernel) rfl
theorem wd_6 : Jvm.Cond.static yX6_at ∈ wsU := wsU_t 262 (by decide +kernel) rfl
theorem wd_7 : Jvm.Cond.fieldLink RX0 27 "EggOrder$Coop" "count" "I" ∈ wsU := wsU_t 32 (by decide +kernel) rfl
theorem wd_8 : Jvm.Cond.code yX0_isWhole cX0_isWhole 2 (some .boolean) ∈ wsU := wsU_t 260 (by decide +kernel) rfl
theorem wd_9 : Jvm.Cond.methodLink RX0 53 yX0_isWhole ∈ wsU := wsU_t 339 (by decide +kernel) rfl
theorem wd_10 : Jvm.Cond.instanceMethod yX0_isWhole ∈ wsU := wsU_t 259 (by decide +kernel) rfl
theorem wd_11 : Jvm.Cond.selects RX0 yX0_isWhole yX0_isWhole ∈ wsU := wsU_s (y := yX0_isWhole) (n := 4) 3 (by decide +kernel)
theorem wd_12 : Jvm.Cond.initialized RX0 ∈ wsU := wsU_t 3 (by decide +kernel) rfl
theorem wd_13 : Jvm.Cond.code yX0_countWhole cX0_countWhole 3 (some .int) ∈ wsU := wsU_t 338 (by decide +kernel) rfl
theorem wd_14 : Jvm.Cond.methodLink RX0 57 yX0_countWhole ∈ wsU := wsU_t 335 (by decide +kernel) rfl
theorem wd_15 : Jvm.Cond.instanceMethod yX0_countWhole ∈ wsU := wsU_t 337 (by decide +kernel) rfl
theorem wd_16 : Jvm.Cond.selects RX0 yX0_countWhole yX0_countWhole ∈ wsU := wsU_s (y := yX0_countWhole) (n := 4) 13 (by decide +kernel)
theorem wd_17 : Jvm.Cond.code yX0_fact cX0_fact 3 (some .int) ∈ wsU := wsU_t 267 (by decide +kernel) rfl
theorem wd_18 : Jvm.Cond.methodLink RX0 50 yX0_fact ∈ wsU := wsU_t 377 (by decide +kernel) rfl
theorem wd_19 : Jvm.Cond.instanceMethod yX0_fact ∈ wsU := wsU_t 266 (by decide +kernel) rfl
theorem wd_20 : Jvm.Cond.selects RX0 yX0_fact yX0_fact ∈ wsU := wsU_s (y := yX0_fact) (n := 4) 4 (by decide +kernel)
theorem wd_21 : Jvm.Cond.fieldLink RX0 31 "EggOrder$Coop" "stoves" "I" ∈ wsU := wsU_t 34 (by decide +kernel) rfl
theorem wd_22 : Jvm.Cond.fieldLink RX0 9 "EggOrder$Coop" "row" "[I" ∈ wsU := wsU_t 36 (by decide +kernel) rfl
theorem wd_23 : Jvm.Cond.code yX6_copyRow cX6_copyRow 3 none ∈ wsU := wsU_t 361 (by decide +kernel) rfl
theorem wd_24 : Jvm.Cond.static yX6_copyRow ∈ wsU := wsU_t 360 (by decide +kernel) rfl
theorem wd_25 : Jvm.Cond.code yX6_bit cX6_bit 1 (some .int) ∈ wsU := wsU_t 282 (by decide +kernel) rfl
theorem wd_26 : Jvm.Cond.static yX6_bit ∈ wsU := wsU_t 281 (by decide +kernel) rfl
theorem wd_27 : Jvm.Cond.code yX0_isWarmEnough cX0_isWarmEnough 2 (some .boolean) ∈ wsU := wsU_t 386 (by decide +kernel) rfl
theorem wd_28 : Jvm.Cond.methodLink RX0 75 yX0_isWarmEnough ∈ wsU := wsU_t 383 (by decide +kernel) rfl
theorem wd_29 : Jvm.Cond.instanceMethod yX0_isWarmEnough ∈ wsU := wsU_t 385 (by decide +kernel) rfl
theorem wd_30 : Jvm.Cond.selects RX0 yX0_isWarmEnough yX0_isWarmEnough ∈ wsU := wsU_s (y := yX0_isWarmEnough) (n := 4) 21 (by decide +kernel)
theorem wd_31 : Jvm.Cond.code yX6_hasBit cX6_hasBit 2 (some .boolean) ∈ wsU := wsU_t 275 (by decide +kernel) rfl
theorem wd_32 : Jvm.Cond.static yX6_hasBit ∈ wsU := wsU_t 274 (by decide +kernel) rfl
theorem wd_33 : Jvm.Cond.methodLink RX0 24 Lib.Math.max.name ∈ wsU := wsU_t 207 (by decide +kernel) rfl
theorem wd_34 : Jvm.Cond.static Lib.Math.max.name ∈ wsU := wsU_t 208 (by decide +kernel) rfl
theorem wd_35 : Jvm.Cond.initialized "java/lang/Math" ∈ wsU := wsU_t 8 (by decide +kernel) rfl
theorem wd_36 : Jvm.Cond.code Lib.Math.max.name Lib.Math.max.code 2 (some .int) ∈ wsU := wsU_t 209 (by decide +kernel) rfl
theorem wd_37 : Jvm.Cond.code yX6_put cX6_put 3 none ∈ wsU := wsU_t 212 (by decide +kernel) rfl
theorem wd_38 : Jvm.Cond.static yX6_put ∈ wsU := wsU_t 211 (by decide +kernel) rfl
theorem wd_39 : Jvm.Cond.code yX0_setFact cX0_setFact 4 none ∈ wsU := wsU_t 216 (by decide +kernel) rfl
theorem wd_40 : Jvm.Cond.methodLink RX0 38 yX0_setFact ∈ wsU := wsU_t 213 (by decide +kernel) rfl
theorem wd_41 : Jvm.Cond.instanceMethod yX0_setFact ∈ wsU := wsU_t 215 (by decide +kernel) rfl
theorem wd_42 : Jvm.Cond.selects RX0 yX0_setFact yX0_setFact ∈ wsU := wsU_s (y := yX0_setFact) (n := 4) 1 (by decide +kernel)
theorem wd_43 : Jvm.Cond.code yX0_warm cX0_warm 3 none ∈ wsU := wsU_t 376 (by decide +kernel) rfl
theorem wd_44 : Jvm.Cond.methodLink RX0 65 yX0_warm ∈ wsU := wsU_t 373 (by decide +kernel) rfl
theorem wd_45 : Jvm.Cond.instanceMethod yX0_warm ∈ wsU := wsU_t 375 (by decide +kernel) rfl
theorem wd_46 : Jvm.Cond.selects RX0 yX0_warm yX0_warm ∈ wsU := wsU_s (y := yX0_warm) (n := 4) 19 (by decide +kernel)
theorem wd_47 : Jvm.Cond.code yX0_hatchingIfHeated cX0_hatchingIfHeated 7 (some .int) ∈ wsU := wsU_t 382 (by decide +kernel) rfl
theorem wd_48 : Jvm.Cond.methodLink RX0 68 yX0_hatchingIfHeated ∈ wsU := wsU_t 379 (by decide +kernel) rfl
theorem wd_49 : Jvm.Cond.instanceMethod yX0_hatchingIfHeated ∈ wsU := wsU_t 381 (by decide +kernel) rfl
theorem wd_50 : Jvm.Cond.selects RX0 yX0_hatchingIfHeated yX0_hatchingIfHeated ∈ wsU := wsU_s (y := yX0_hatchingIfHeated) (n := 4) 20 (by decide +kernel)
theorem wd_51 : Jvm.Cond.methodLink RX0 18 Lib.Math.min.name ∈ wsU := wsU_t 204 (by decide +kernel) rfl
theorem wd_52 : Jvm.Cond.static Lib.Math.min.name ∈ wsU := wsU_t 205 (by decide +kernel) rfl
theorem wd_53 : Jvm.Cond.code Lib.Math.min.name Lib.Math.min.code 2 (some .int) ∈ wsU := wsU_t 206 (by decide +kernel) rfl
theorem wd_54 : Jvm.Cond.fieldLink RX1 18 "EggOrder$Fitting" "ordersByEggAndPlace" "[I" ∈ wsU := wsU_t 161 (by decide +kernel) rfl
theorem wd_55 : Jvm.Cond.fieldLink RX1 21 "EggOrder$Fitting" "aheadInSome" "[I" ∈ wsU := wsU_t 162 (by decide +kernel) rfl
theorem wd_56 : Jvm.Cond.methodLink RX1 49 Lib.Math.min.name ∈ wsU := wsU_t 472 (by decide +kernel) rfl
theorem wd_57 : Jvm.Cond.methodLink RX1 55 Lib.Math.max.name ∈ wsU := wsU_t 473 (by decide +kernel) rfl
theorem wd_58 : Jvm.Cond.fieldLink RX1 58 "EggOrder$Fitting" "count" "I" ∈ wsU := wsU_t 155 (by decide +kernel) rfl
theorem wd_59 : Jvm.Cond.fieldLink RX1 62 "EggOrder$Fitting" "total" "I" ∈ wsU := wsU_t 156 (by decide +kernel) rfl
theorem wd_60 : Jvm.Cond.code yX6_putAll cX6_putAll 3 none ∈ wsU := wsU_t 476 (by decide +kernel) rfl
theorem wd_61 : Jvm.Cond.static yX6_putAll ∈ wsU := wsU_t 475 (by decide +kernel) rfl
theorem wd_62 : Jvm.Cond.fieldLink RX1 24 "EggOrder$Fitting" "allowedPlaces" "[I" ∈ wsU := wsU_t 164 (by decide +kernel) rfl
theorem wd_63 : Jvm.Cond.fieldLink RX1 27 "EggOrder$Fitting" "mustBeAhead" "[I" ∈ wsU := wsU_t 165 (by decide +kernel) rfl
theorem wd_64 : Jvm.Cond.fieldLink RX1 30 "EggOrder$Fitting" "mustBeRightAhead" "[I" ∈ wsU := wsU_t 166 (by decide +kernel) rfl
theorem wd_65 : Jvm.Cond.fieldLink RX1 33 "EggOrder$Fitting" "warmHours" "[I" ∈ wsU := wsU_t 167 (by decide +kernel) rfl
theorem wd_66 : Jvm.Cond.fieldLink RX1 36 "EggOrder$Fitting" "carriedAfter" "[I" ∈ wsU := wsU_t 168 (by decide +kernel) rfl
theorem wd_67 : Jvm.Cond.fieldLink RX1 39 "EggOrder$Fitting" "seenHours" "[I" ∈ wsU := wsU_t 169 (by decide +kernel) rfl
theorem wd_68 : Jvm.Cond.fieldLink RX1 9 "EggOrder$Fitting" "row" "[I" ∈ wsU := wsU_t 158 (by decide +kernel) rfl
theorem wd_69 : Jvm.Cond.code yX1_ordersWith cX1_ordersWith 3 (some .int) ∈ wsU := wsU_t 543 (by decide +kernel) rfl
theorem wd_70 : Jvm.Cond.methodLink RX1 164 yX1_ordersWith ∈ wsU := wsU_t 540 (by decide +kernel) rfl
theorem wd_71 : Jvm.Cond.instanceMethod yX1_ordersWith ∈ wsU := wsU_t 542 (by decide +kernel) rfl
theorem wd_72 : Jvm.Cond.selects RX1 yX1_ordersWith yX1_ordersWith ∈ wsU := wsU_s (y := yX1_ordersWith) (n := 13) 42 (by decide +kernel)
theorem wd_73 : Jvm.Cond.initialized RX1 ∈ wsU := wsU_t 7 (by decide +kernel) rfl
theorem wd_74 : Jvm.Cond.fieldLink RX1 15 "EggOrder$Fitting" "first" "[I" ∈ wsU := wsU_t 159 (by decide +kernel) rfl
theorem wd_75 : Jvm.Cond.code yX1_keepIfFirst cX1_keepIfFirst 1 none ∈ wsU := wsU_t 517 (by decide +kernel) rfl
theorem wd_76 : Jvm.Cond.methodLink RX1 142 yX1_keepIfFirst ∈ wsU := wsU_t 514 (by decide +kernel) rfl
theorem wd_77 : Jvm.Cond.instanceMethod yX1_keepIfFirst ∈ wsU := wsU_t 516 (by decide +kernel) rfl
theorem wd_78 : Jvm.Cond.selects RX1 yX1_keepIfFirst yX1_keepIfFirst ∈ wsU := wsU_s (y := yX1_keepIfFirst) (n := 13) 37 (by decide +kernel)
theorem wd_79 : Jvm.Cond.code yX1_canBeLaid cX1_canBeLaid 5 (some .boolean) ∈ wsU := wsU_t 523 (by decide +kernel) rfl
theorem wd_80 : Jvm.Cond.methodLink RX1 149 yX1_canBeLaid ∈ wsU := wsU_t 520 (by decide +kernel) rfl
theorem wd_81 : Jvm.Cond.instanceMethod yX1_canBeLaid ∈ wsU := wsU_t 522 (by decide +kernel) rfl
theorem wd_82 : Jvm.Cond.selects RX1 yX1_canBeLaid yX1_canBeLaid ∈ wsU := wsU_s (y := yX1_canBeLaid) (n := 13) 38 (by decide +kernel)
theorem wd_83 : Jvm.Cond.code yX1_canHatchIn cX1_canHatchIn 4 (some .boolean) ∈ wsU := wsU_t 527 (by decide +kernel) rfl
theorem wd_84 : Jvm.Cond.methodLink RX1 153 yX1_canHatchIn ∈ wsU := wsU_t 524 (by decide +kernel) rfl
theorem wd_85 : Jvm.Cond.instanceMethod yX1_canHatchIn ∈ wsU := wsU_t 526 (by decide +kernel) rfl
theorem wd_86 : Jvm.Cond.selects RX1 yX1_canHatchIn yX1_canHatchIn ∈ wsU := wsU_s (y := yX1_canHatchIn) (n := 13) 39 (by decide +kernel)
theorem wd_87 : Jvm.Cond.code yX1_lay cX1_lay 8 (some .int) ∈ wsU := wsU_t 513 (by decide +kernel) rfl
theorem wd_88 : Jvm.Cond.methodLink RX1 138 yX1_lay ∈ wsU := wsU_t 511 (by decide +kernel) rfl
theorem wd_89 : Jvm.Cond.static yX1_lay ∈ wsU := wsU_t 512 (by decide +kernel) rfl
theorem wd_90 : Jvm.Cond.code yX1_addOrders cX1_addOrders 6 none ∈ wsU := wsU_t 531 (by decide +kernel) rfl
theorem wd_91 : Jvm.Cond.methodLink RX1 156 yX1_addOrders ∈ wsU := wsU_t 528 (by decide +kernel) rfl
theorem wd_92 : Jvm.Cond.instanceMethod yX1_addOrders ∈ wsU := wsU_t 530 (by decide +kernel) rfl
theorem wd_93 : Jvm.Cond.selects RX1 yX1_addOrders yX1_addOrders ∈ wsU := wsU_s (y := yX1_addOrders) (n := 13) 40 (by decide +kernel)
theorem wd_94 : Jvm.Cond.fieldLink RX1 45 "EggOrder$Fitting" "warming" "LEggOrder$Coop;" ∈ wsU := wsU_t 170 (by decide +kernel) rfl
theorem wd_95 : Jvm.Cond.code yX1_takeClue cX1_takeClue 4 none ∈ wsU := wsU_t 486 (by decide +kernel) rfl
theorem wd_96 : Jvm.Cond.methodLink RX1 91 yX1_takeClue ∈ wsU := wsU_t 483 (by decide +kernel) rfl
theorem wd_97 : Jvm.Cond.instanceMethod yX1_takeClue ∈ wsU := wsU_t 485 (by decide +kernel) rfl
theorem wd_98 : Jvm.Cond.selects RX1 yX1_takeClue yX1_takeClue ∈ wsU := wsU_s (y := yX1_takeClue) (n := 13) 32 (by decide +kernel)
theorem wd_99 : Jvm.Cond.fieldLink RX3 9 "EggOrder$Pad" "signs" "[I" ∈ wsU := wsU_t 108 (by decide +kernel) rfl
theorem wd_100 : Jvm.Cond.code yX6_isWithin cX6_isWithin 3 (some .boolean) ∈ wsU := wsU_t 245 (by decide +kernel) rfl
theorem wd_101 : Jvm.Cond.methodLink RX6 57 yX6_isWithin ∈ wsU := wsU_t 243 (by decide +kernel) rfl
theorem wd_102 : Jvm.Cond.static yX6_isWithin ∈ wsU := wsU_t 244 (by decide +kernel) rfl
theorem wd_103 : Jvm.Cond.code yX3_sign cX3_sign 2 (some .int) ∈ wsU := wsU_t 311 (by decide +kernel) rfl
theorem wd_104 : Jvm.Cond.initialized RX3 ∈ wsU := wsU_t 5 (by decide +kernel) rfl
theorem wd_105 : Jvm.Cond.instanceMethod yX3_sign ∈ wsU := wsU_t 310 (by decide +kernel) rfl
theorem wd_106 : Jvm.Cond.selects RX3 yX3_sign yX3_sign ∈ wsU := wsU_s (y := yX3_sign) (n := 2) 9 (by decide +kernel)
theorem wd_107 : Jvm.Cond.code yX6_isHouseSign cX6_isHouseSign 1 (some .boolean) ∈ wsU := wsU_t 322 (by decide +kernel) rfl
theorem wd_108 : Jvm.Cond.static yX6_isHouseSign ∈ wsU := wsU_t 321 (by decide +kernel) rfl
theorem wd_109 : Jvm.Cond.code yX0_turnStove cX0_turnStove 2 none ∈ wsU := wsU_t 279 (by decide +kernel) rfl
theorem wd_110 : Jvm.Cond.instanceMethod yX0_turnStove ∈ wsU := wsU_t 278 (by decide +kernel) rfl
theorem wd_111 : Jvm.Cond.selects RX0 yX0_turnStove yX0_turnStove ∈ wsU := wsU_s (y := yX0_turnStove) (n := 4) 5 (by decide +kernel)
theorem wd_112 : Jvm.Cond.code yX1_noteWarm cX1_noteWarm 3 none ∈ wsU := wsU_t 498 (by decide +kernel) rfl
theorem wd_113 : Jvm.Cond.methodLink RX1 112 yX1_noteWarm ∈ wsU := wsU_t 495 (by decide +kernel) rfl
theorem wd_114 : Jvm.Cond.instanceMethod yX1_noteWarm ∈ wsU := wsU_t 497 (by decide +kernel) rfl
theorem wd_115 : Jvm.Cond.selects RX1 yX1_noteWarm yX1_noteWarm ∈ wsU := wsU_s (y := yX1_noteWarm) (n := 13) 34 (by decide +kernel)
theorem wd_116 : Jvm.Cond.code yX0_copyFrom cX0_copyFrom 2 none ∈ wsU := wsU_t 358 (by decide +kernel) rfl
theorem wd_117 : Jvm.Cond.instanceMethod yX0_copyFrom ∈ wsU := wsU_t 357 (by decide +kernel) rfl
theorem wd_118 : Jvm.Cond.selects RX0 yX0_copyFrom yX0_copyFrom ∈ wsU := wsU_s (y := yX0_copyFrom) (n := 4) 16 (by decide +kernel)
theorem wd_119 : Jvm.Cond.fieldLink RX2 27 "EggOrder$Hints" "clueCount" "I" ∈ wsU := wsU_t 55 (by decide +kernel) rfl
theorem wd_120 : Jvm.Cond.fieldLink RX2 9 "EggOrder$Hints" "clueKinds" "[I" ∈ wsU := wsU_t 61 (by decide +kernel) rfl
theorem wd_121 : Jvm.Cond.fieldLink RX2 15 "EggOrder$Hints" "clueEggs" "[I" ∈ wsU := wsU_t 63 (by decide +kernel) rfl
theorem wd_122 : Jvm.Cond.fieldLink RX2 18 "EggOrder$Hints" "clueOthers" "[I" ∈ wsU := wsU_t 65 (by decide +kernel) rfl
theorem wd_123 : Jvm.Cond.fieldLink RX2 31 "EggOrder$Hints" "sightCount" "I" ∈ wsU := wsU_t 58 (by decide +kernel) rfl
theorem wd_124 : Jvm.Cond.fieldLink RX2 21 "EggOrder$Hints" "sightEggs" "[I" ∈ wsU := wsU_t 67 (by decide +kernel) rfl
theorem wd_125 : Jvm.Cond.fieldLink RX2 24 "EggOrder$Hints" "sightHours" "[I" ∈ wsU := wsU_t 69 (by decide +kernel) rfl
theorem wd_126 : Jvm.Cond.fieldLink RX3 15 "EggOrder$Pad" "count" "I" ∈ wsU := wsU_t 104 (by decide +kernel) rfl
theorem wd_127 : Jvm.Cond.methodLink RX3 27 yX3_sign ∈ wsU := wsU_t 308 (by decide +kernel) rfl
theorem wd_128 : Jvm.Cond.code yX3_eatsOrMendsAt cX3_eatsOrMendsAt 2 (some .boolean) ∈ wsU := wsU_t 326 (by decide +kernel) rfl
theorem wd_129 : Jvm.Cond.methodLink RX3 49 yX3_eatsOrMendsAt ∈ wsU := wsU_t 323 (by decide +kernel) rfl
theorem wd_130 : Jvm.Cond.instanceMethod yX3_eatsOrMendsAt ∈ wsU := wsU_t 325 (by decide +kernel) rfl
theorem wd_131 : Jvm.Cond.selects RX3 yX3_eatsOrMendsAt yX3_eatsOrMendsAt ∈ wsU := wsU_s (y := yX3_eatsOrMendsAt) (n := 2) 11 (by decide +kernel)
theorem wd_132 : Jvm.Cond.code yX3_isDigitOfEgg cX3_isDigitOfEgg 3 (some .boolean) ∈ wsU := wsU_t 307 (by decide +kernel) rfl
theorem wd_133 : Jvm.Cond.methodLink RX3 35 yX3_isDigitOfEgg ∈ wsU := wsU_t 304 (by decide +kernel) rfl
theorem wd_134 : Jvm.Cond.instanceMethod yX3_isDigitOfEgg ∈ wsU := wsU_t 306 (by decide +kernel) rfl
theorem wd_135 : Jvm.Cond.selects RX3 yX3_isDigitOfEgg yX3_isDigitOfEgg ∈ wsU := wsU_s (y := yX3_isDigitOfEgg) (n := 2) 8 (by decide +kernel)
theorem wd_136 : Jvm.Cond.fieldLink RX4 10 "EggOrder$Scene" "coop" "LEggOrder$Coop;" ∈ wsU := wsU_t 86 (by decide +kernel) rfl
theorem wd_137 : Jvm.Cond.fieldLink RX4 19 "EggOrder$Scene" "hints" "LEggOrder$Hints;" ∈ wsU := wsU_t 88 (by decide +kernel) rfl
theorem wd_138 : Jvm.Cond.code yX2_copyFrom cX2_copyFrom 2 none ∈ wsU := wsU_t 651 (by decide +kernel) rfl
theorem wd_139 : Jvm.Cond.initialized RX2 ∈ wsU := wsU_t 4 (by decide +kernel) rfl
theorem wd_140 : Jvm.Cond.instanceMethod yX2_copyFrom ∈ wsU := wsU_t 650 (by decide +kernel) rfl
theorem wd_141 : Jvm.Cond.selects RX2 yX2_copyFrom yX2_copyFrom ∈ wsU := wsU_s (y := yX2_copyFrom) (n := 7) 54 (by decide +kernel)
theorem wd_142 : Jvm.Cond.fieldLink RX5 12 "EggOrder$Week" "coop" "LEggOrder$Coop;" ∈ wsU := wsU_t 122 (by decide +kernel) rfl
theorem wd_143 : Jvm.Cond.fieldLink RX5 18 "EggOrder$Week" "hatchHours" "[I" ∈ wsU := wsU_t 124 (by decide +kernel) rfl
theorem wd_144 : Jvm.Cond.fieldLink RX5 58 "EggOrder$Week" "acts" "I" ∈ wsU := wsU_t 126 (by decide +kernel) rfl
theorem wd_145 : Jvm.Cond.fieldLink RX5 64 "EggOrder$Week" "hours" "I" ∈ wsU := wsU_t 128 (by decide +kernel) rfl
theorem wd_146 : Jvm.Cond.fieldLink RX5 67 "EggOrder$Week" "hatches" "I" ∈ wsU := wsU_t 130 (by decide +kernel) rfl
theorem wd_147 : Jvm.Cond.fieldLink RX5 37 "EggOrder$Week" "why" "I" ∈ wsU := wsU_t 132 (by decide +kernel) rfl
theorem wd_148 : Jvm.Cond.code yX0_passHour cX0_passHour 3 (some .int) ∈ wsU := wsU_t 372 (by decide +kernel) rfl
theorem wd_149 : Jvm.Cond.instanceMethod yX0_passHour ∈ wsU := wsU_t 371 (by decide +kernel) rfl
theorem wd_150 : Jvm.Cond.selects RX0 yX0_passHour yX0_passHour ∈ wsU := wsU_s (y := yX0_passHour) (n := 4) 18 (by decide +kernel)
theorem wd_151 : Jvm.Cond.code yJ6_bitCount_0f7a4 cJ6_bitCount_0f7a4 1 (some .int) ∈ wsU := wsU_t 389 (by decide +kernel) rfl
theorem wd_152 : Jvm.Cond.methodLink RX5 81 yJ6_bitCount_0f7a4 ∈ wsU := wsU_t 387 (by decide +kernel) rfl
theorem wd_153 : Jvm.Cond.static yJ6_bitCount_0f7a4 ∈ wsU := wsU_t 388 (by decide +kernel) rfl
theorem wd_154 : Jvm.Cond.initialized RJ6 ∈ wsU := wsU_t 10 (by decide +kernel) rfl
theorem wd_155 : Jvm.Cond.code yX5_handle cX5_handle 4 (some .int) ∈ wsU := wsU_t 399 (by decide +kernel) rfl
theorem wd_156 : Jvm.Cond.methodLink RX5 54 yX5_handle ∈ wsU := wsU_t 396 (by decide +kernel) rfl
theorem wd_157 : Jvm.Cond.instanceMethod yX5_handle ∈ wsU := wsU_t 398 (by decide +kernel) rfl
theorem wd_158 : Jvm.Cond.selects RX5 yX5_handle yX5_handle ∈ wsU := wsU_s (y := yX5_handle) (n := 6) 22 (by decide +kernel)
theorem wd_159 : Jvm.Cond.initialized RX5 ∈ wsU := wsU_t 6 (by decide +kernel) rfl
theorem wd_160 : Jvm.Cond.code yX5_spendHour cX5_spendHour 3 none ∈ wsU := wsU_t 368 (by decide +kernel) rfl
theorem wd_161 : Jvm.Cond.methodLink RX5 43 yX5_spendHour ∈ wsU := wsU_t 365 (by decide +kernel) rfl
theorem wd_162 : Jvm.Cond.instanceMethod yX5_spendHour ∈ wsU := wsU_t 367 (by decide +kernel) rfl
theorem wd_163 : Jvm.Cond.selects RX5 yX5_spendHour yX5_spendHour ∈ wsU := wsU_s (y := yX5_spendHour) (n := 6) 17 (by decide +kernel)
theorem wd_164 : Jvm.Cond.code yX3_weekFault cX3_weekFault 4 (some .int) ∈ wsU := wsU_t 319 (by decide +kernel) rfl
theorem wd_165 : Jvm.Cond.instanceMethod yX3_weekFault ∈ wsU := wsU_t 318 (by decide +kernel) rfl
theorem wd_166 : Jvm.Cond.selects RX3 yX3_weekFault yX3_weekFault ∈ wsU := wsU_s (y := yX3_weekFault) (n := 2) 10 (by decide +kernel)
theorem wd_167 : Jvm.Cond.code yX5_startFrom cX5_startFrom 3 none ∈ wsU := wsU_t 354 (by decide +kernel) rfl
theorem wd_168 : Jvm.Cond.methodLink RX5 32 yX5_startFrom ∈ wsU := wsU_t 351 (by decide +kernel) rfl
theorem wd_169 : Jvm.Cond.instanceMethod yX5_startFrom ∈ wsU := wsU_t 353 (by decide +kernel) rfl
theorem wd_170 : Jvm.Cond.selects RX5 yX5_startFrom yX5_startFrom ∈ wsU := wsU_s (y := yX5_startFrom) (n := 6) 15 (by decide +kernel)
theorem wd_171 : Jvm.Cond.fieldLink RX6 39 "EggOrder" "fitting" "LEggOrder$Fitting;" ∈ wsU := wsU_t 222 (by decide +kernel) rfl
theorem wd_172 : Jvm.Cond.code yX1_search cX1_search 1 none ∈ wsU := wsU_t 510 (by decide +kernel) rfl
theorem wd_173 : Jvm.Cond.instanceMethod yX1_search ∈ wsU := wsU_t 509 (by decide +kernel) rfl
theorem wd_174 : Jvm.Cond.selects RX1 yX1_search yX1_search ∈ wsU := wsU_s (y := yX1_search) (n := 13) 36 (by decide +kernel)
theorem wd_175 : Jvm.Cond.fieldLink RX6 10 "EggOrder" "now" "LEggOrder$Scene;" ∈ wsU := wsU_t 217 (by decide +kernel) rfl
theorem wd_176 : Jvm.Cond.code yX1_begin cX1_begin 2 none ∈ wsU := wsU_t 471 (by decide +kernel) rfl
theorem wd_177 : Jvm.Cond.instanceMethod yX1_begin ∈ wsU := wsU_t 470 (by decide +kernel) rfl
theorem wd_178 : Jvm.Cond.selects RX1 yX1_begin yX1_begin ∈ wsU := wsU_s (y := yX1_begin) (n := 13) 30 (by decide +kernel)
theorem wd_179 : Jvm.Cond.code yX1_takeClues cX1_takeClues 3 none ∈ wsU := wsU_t 481 (by decide +kernel) rfl
theorem wd_180 : Jvm.Cond.instanceMethod yX1_takeClues ∈ wsU := wsU_t 480 (by decide +kernel) rfl
theorem wd_181 : Jvm.Cond.selects RX1 yX1_takeClues yX1_takeClues ∈ wsU := wsU_s (y := yX1_takeClues) (n := 13) 31 (by decide +kernel)
theorem wd_182 : Jvm.Cond.fieldLink RX6 25 "EggOrder" "pad" "LEggOrder$Pad;" ∈ wsU := wsU_t 220 (by decide +kernel) rfl
theorem wd_183 : Jvm.Cond.code yX1_takeWeek cX1_takeWeek 6 none ∈ wsU := wsU_t 491 (by decide +kernel) rfl
theorem wd_184 : Jvm.Cond.instanceMethod yX1_takeWeek ∈ wsU := wsU_t 490 (by decide +kernel) rfl
theorem wd_185 : Jvm.Cond.selects RX1 yX1_takeWeek yX1_takeWeek ∈ wsU := wsU_s (y := yX1_takeWeek) (n := 13) 33 (by decide +kernel)
theorem wd_186 : Jvm.Cond.code yX1_takeSights cX1_takeSights 7 none ∈ wsU := wsU_t 506 (by decide +kernel) rfl
theorem wd_187 : Jvm.Cond.instanceMethod yX1_takeSights ∈ wsU := wsU_t 505 (by decide +kernel) rfl
theorem wd_188 : Jvm.Cond.selects RX1 yX1_takeSights yX1_takeSights ∈ wsU := wsU_s (y := yX1_takeSights) (n := 13) 35 (by decide +kernel)
theorem wd_189 : Jvm.Cond.code yX3_eatsOrMends cX3_eatsOrMends 2 (some .boolean) ∈ wsU := wsU_t 467 (by decide +kernel) rfl
theorem wd_190 : Jvm.Cond.instanceMethod yX3_eatsOrMends ∈ wsU := wsU_t 466 (by decide +kernel) rfl
theorem wd_191 : Jvm.Cond.selects RX3 yX3_eatsOrMends yX3_eatsOrMends ∈ wsU := wsU_s (y := yX3_eatsOrMends) (n := 2) 29 (by decide +kernel)
theorem wd_192 : Jvm.Cond.code yX0_areAllWhole cX0_areAllWhole 1 (some .boolean) ∈ wsU := wsU_t 334 (by decide +kernel) rfl
theorem wd_193 : Jvm.Cond.instanceMethod yX0_areAllWhole ∈ wsU := wsU_t 333 (by decide +kernel) rfl
theorem wd_194 : Jvm.Cond.selects RX0 yX0_areAllWhole yX0_areAllWhole ∈ wsU := wsU_s (y := yX0_areAllWhole) (n := 4) 12 (by decide +kernel)
theorem wd_195 : Jvm.Cond.code yX1_mostLeft cX1_mostLeft 4 (some .int) ∈ wsU := wsU_t 563 (by decide +kernel) rfl
theorem wd_196 : Jvm.Cond.instanceMethod yX1_mostLeft ∈ wsU := wsU_t 562 (by decide +kernel) rfl
theorem wd_197 : Jvm.Cond.selects RX1 yX1_mostLeft yX1_mostLeft ∈ wsU := wsU_s (y := yX1_mostLeft) (n := 13) 44 (by decide +kernel)
theorem wd_198 : Jvm.Cond.code yX6_findFitting cX6_findFitting 2 (some .int) ∈ wsU := wsU_t 463 (by decide +kernel) rfl
theorem wd_199 : Jvm.Cond.methodLink RX6 176 yX6_findFitting ∈ wsU := wsU_t 460 (by decide +kernel) rfl
theorem wd_200 : Jvm.Cond.instanceMethod yX6_findFitting ∈ wsU := wsU_t 462 (by decide +kernel) rfl
theorem wd_201 : Jvm.Cond.selects RX6 yX6_findFitting yX6_findFitting ∈ wsU := wsU_s (y := yX6_findFitting) (n := 7) 28 (by decide +kernel)
theorem wd_202 : Jvm.Cond.code yX0_has cX0_has 2 (some .boolean) ∈ wsU := wsU_t 253 (by decide +kernel) rfl
theorem wd_203 : Jvm.Cond.instanceMethod yX0_has ∈ wsU := wsU_t 252 (by decide +kernel) rfl
theorem wd_204 : Jvm.Cond.selects RX0 yX0_has yX0_has ∈ wsU := wsU_s (y := yX0_has) (n := 4) 2 (by decide +kernel)
theorem wd_205 : Jvm.Cond.fieldLink RX6 32 "EggOrder" "week" "LEggOrder$Week;" ∈ wsU := wsU_t 221 (by decide +kernel) rfl
theorem wd_206 : Jvm.Cond.code yX5_run cX5_run 5 (some .int) ∈ wsU := wsU_t 349 (by decide +kernel) rfl
theorem wd_207 : Jvm.Cond.instanceMethod yX5_run ∈ wsU := wsU_t 348 (by decide +kernel) rfl
theorem wd_208 : Jvm.Cond.selects RX5 yX5_run yX5_run ∈ wsU := wsU_s (y := yX5_run) (n := 6) 14 (by decide +kernel)
theorem wd_209 : Jvm.Cond.code yX0_condition cX0_condition 3 (some .int) ∈ wsU := wsU_t 408 (by decide +kernel) rfl
theorem wd_210 : Jvm.Cond.instanceMethod yX0_condition ∈ wsU := wsU_t 407 (by decide +kernel) rfl
theorem wd_211 : Jvm.Cond.selects RX0 yX0_condition yX0_condition ∈ wsU := wsU_s (y := yX0_condition) (n := 4) 23 (by decide +kernel)
theorem wd_212 : Jvm.Cond.methodLink RX6 154 yX6_at ∈ wsU := wsU_t 413 (by decide +kernel) rfl
theorem wd_213 : Jvm.Cond.methodLink RX6 99 yX6_hasBit ∈ wsU := wsU_t 273 (by decide +kernel) rfl
theorem wd_214 : Jvm.Cond.code yX2_addClue cX2_addClue 4 none ∈ wsU := wsU_t 442 (by decide +kernel) rfl
theorem wd_215 : Jvm.Cond.instanceMethod yX2_addClue ∈ wsU := wsU_t 441 (by decide +kernel) rfl
theorem wd_216 : Jvm.Cond.selects RX2 yX2_addClue yX2_addClue ∈ wsU := wsU_s (y := yX2_addClue) (n := 7) 26 (by decide +kernel)
theorem wd_217 : Jvm.Cond.code yX6_isFactFor cX6_isFactFor 2 (some .boolean) ∈ wsU := wsU_t 256 (by decide +kernel) rfl
theorem wd_218 : Jvm.Cond.methodLink RX6 81 yX6_isFactFor ∈ wsU := wsU_t 254 (by decide +kernel) rfl
theorem wd_219 : Jvm.Cond.static yX6_isFactFor ∈ wsU := wsU_t 255 (by decide +kernel) rfl
theorem wd_220 : Jvm.Cond.code yX0_startWith cX0_startWith 3 none ∈ wsU := wsU_t 203 (by decide +kernel) rfl
theorem wd_221 : Jvm.Cond.instanceMethod yX0_startWith ∈ wsU := wsU_t 202 (by decide +kernel) rfl
theorem wd_222 : Jvm.Cond.selects RX0 yX0_startWith yX0_startWith ∈ wsU := wsU_s (y := yX0_startWith) (n := 4) 0 (by decide +kernel)
theorem wd_223 : Jvm.Cond.code yX3_orderFault cX3_orderFault 4 (some .int) ∈ wsU := wsU_t 303 (by decide +kernel) rfl
theorem wd_224 : Jvm.Cond.instanceMethod yX3_orderFault ∈ wsU := wsU_t 302 (by decide +kernel) rfl
theorem wd_225 : Jvm.Cond.selects RX3 yX3_orderFault yX3_orderFault ∈ wsU := wsU_s (y := yX3_orderFault) (n := 2) 7 (by decide +kernel)
theorem wd_226 : Jvm.Cond.code yX1_eggsAtFirstPlace cX1_eggsAtFirstPlace 3 (some .int) ∈ wsU := wsU_t 551 (by decide +kernel) rfl
theorem wd_227 : Jvm.Cond.instanceMethod yX1_eggsAtFirstPlace ∈ wsU := wsU_t 550 (by decide +kernel) rfl
theorem wd_228 : Jvm.Cond.selects RX1 yX1_eggsAtFirstPlace yX1_eggsAtFirstPlace ∈ wsU := wsU_s (y := yX1_eggsAtFirstPlace) (n := 13) 43 (by decide +kernel)
theorem wd_229 : Jvm.Cond.methodLink RX6 223 yX6_bit ∈ wsU := wsU_t 594 (by decide +kernel) rfl
theorem wd_230 : Jvm.Cond.code yX0_worthOf cX0_worthOf 5 (some .int) ∈ wsU := wsU_t 603 (by decide +kernel) rfl
theorem wd_231 : Jvm.Cond.instanceMethod yX0_worthOf ∈ wsU := wsU_t 602 (by decide +kernel) rfl
theorem wd_232 : Jvm.Cond.selects RX0 yX0_worthOf yX0_worthOf ∈ wsU := wsU_s (y := yX0_worthOf) (n := 4) 50 (by decide +kernel)
theorem wd_233 : Jvm.Cond.code yX6_commonDivisor cX6_commonDivisor 7 (some .long) ∈ wsU := wsU_t 622 (by decide +kernel) rfl
theorem wd_234 : Jvm.Cond.methodLink RX6 287 yX6_commonDivisor ∈ wsU := wsU_t 620 (by decide +kernel) rfl
theorem wd_235 : Jvm.Cond.static yX6_commonDivisor ∈ wsU := wsU_t 621 (by decide +kernel) rfl
theorem wd_236 : Jvm.Cond.code yX6_lowest cX6_lowest 7 (some .long) ∈ wsU := wsU_t 619 (by decide +kernel) rfl
theorem wd_237 : Jvm.Cond.methodLink RX6 234 yX6_lowest ∈ wsU := wsU_t 617 (by decide +kernel) rfl
theorem wd_238 : Jvm.Cond.static yX6_lowest ∈ wsU := wsU_t 618 (by decide +kernel) rfl
theorem wd_239 : Jvm.Cond.constantLong RX6 244 (10) ∈ wsU := wsU_t 632 (by decide +kernel) rfl
theorem wd_240 : Jvm.Cond.constantLong RX6 221 (-1000000000000000002) ∈ wsU := wsU_t 609 (by decide +kernel) rfl
theorem wd_241 : Jvm.Cond.code yX0_countWholeAheadOfEaten cX0_countWholeAheadOfEaten 4 (some .int) ∈ wsU := wsU_t 631 (by decide +kernel) rfl
theorem wd_242 : Jvm.Cond.instanceMethod yX0_countWholeAheadOfEaten ∈ wsU := wsU_t 630 (by decide +kernel) rfl
theorem wd_243 : Jvm.Cond.selects RX0 yX0_countWholeAheadOfEaten yX0_countWholeAheadOfEaten ∈ wsU := wsU_s (y := yX0_countWholeAheadOfEaten) (n := 4) 52 (by decide +kernel)
theorem wd_244 : Jvm.Cond.code yX4_copyFrom cX4_copyFrom 2 none ∈ wsU := wsU_t 646 (by decide +kernel) rfl
theorem wd_245 : Jvm.Cond.initialized RX4 ∈ wsU := wsU_t 2 (by decide +kernel) rfl
theorem wd_246 : Jvm.Cond.instanceMethod yX4_copyFrom ∈ wsU := wsU_t 645 (by decide +kernel) rfl
theorem wd_247 : Jvm.Cond.selects RX4 yX4_copyFrom yX4_copyFrom ∈ wsU := wsU_s (y := yX4_copyFrom) (n := 3) 53 (by decide +kernel)
theorem wd_248 : Jvm.Cond.fieldLink RX6 19 "EggOrder" "secondImage" "LEggOrder$Scene;" ∈ wsU := wsU_t 219 (by decide +kernel) rfl
theorem wd_249 : Jvm.Cond.fieldLink RX6 16 "EggOrder" "firstImage" "LEggOrder$Scene;" ∈ wsU := wsU_t 218 (by decide +kernel) rfl
theorem wd_250 : Jvm.Cond.code yX6_gainOf cX6_gainOf 5 (some .int) ∈ wsU := wsU_t 598 (by decide +kernel) rfl
theorem wd_251 : Jvm.Cond.methodLink RX6 277 yX6_gainOf ∈ wsU := wsU_t 595 (by decide +kernel) rfl
theorem wd_252 : Jvm.Cond.instanceMethod yX6_gainOf ∈ wsU := wsU_t 597 (by decide +kernel) rfl
theorem wd_253 : Jvm.Cond.selects RX6 yX6_gainOf yX6_gainOf ∈ wsU := wsU_s (y := yX6_gainOf) (n := 7) 49 (by decide +kernel)
theorem wd_254 : Jvm.Cond.code yX0_eatenAheadOfWhole cX0_eatenAheadOfWhole 5 (some .int) ∈ wsU := wsU_t 571 (by decide +kernel) rfl
theorem wd_255 : Jvm.Cond.instanceMethod yX0_eatenAheadOfWhole ∈ wsU := wsU_t 570 (by decide +kernel) rfl
theorem wd_256 : Jvm.Cond.selects RX0 yX0_eatenAheadOfWhole yX0_eatenAheadOfWhole ∈ wsU := wsU_s (y := yX0_eatenAheadOfWhole) (n := 4) 45 (by decide +kernel)
theorem wd_257 : Jvm.Cond.methodLink RX6 200 yJ6_bitCount_0f7a4 ∈ wsU := wsU_t 572 (by decide +kernel) rfl
theorem wd_258 : Jvm.Cond.methodLink RX6 127 yX6_put ∈ wsU := wsU_t 341 (by decide +kernel) rfl
theorem wd_259 : Jvm.Cond.code yX1_placesOf cX1_placesOf 4 (some .int) ∈ wsU := wsU_t 539 (by decide +kernel) rfl
theorem wd_260 : Jvm.Cond.instanceMethod yX1_placesOf ∈ wsU := wsU_t 538 (by decide +kernel) rfl
theorem wd_261 : Jvm.Cond.selects RX1 yX1_placesOf yX1_placesOf ∈ wsU := wsU_s (y := yX1_placesOf) (n := 13) 41 (by decide +kernel)
theorem wd_262 : Jvm.Cond.code yX6_isRest cX6_isRest 6 (some .boolean) ∈ wsU := wsU_t 593 (by decide +kernel) rfl
theorem wd_263 : Jvm.Cond.methodLink RX6 216 yX6_isRest ∈ wsU := wsU_t 590 (by decide +kernel) rfl
theorem wd_264 : Jvm.Cond.instanceMethod yX6_isRest ∈ wsU := wsU_t 592 (by decide +kernel) rfl
theorem wd_265 : Jvm.Cond.selects RX6 yX6_isRest yX6_isRest ∈ wsU := wsU_s (y := yX6_isRest) (n := 7) 48 (by decide +kernel)
theorem wd_266 : Jvm.Cond.code yX0_housesOfWhole cX0_housesOfWhole 3 (some .int) ∈ wsU := wsU_t 589 (by decide +kernel) rfl
theorem wd_267 : Jvm.Cond.instanceMethod yX0_housesOfWhole ∈ wsU := wsU_t 588 (by decide +kernel) rfl
theorem wd_268 : Jvm.Cond.selects RX0 yX0_housesOfWhole yX0_housesOfWhole ∈ wsU := wsU_s (y := yX0_housesOfWhole) (n := 4) 47 (by decide +kernel)
theorem wd_269 : Jvm.Cond.code yX3_add cX3_add 2 none ∈ wsU := wsU_t 290 (by decide +kernel) rfl
theorem wd_270 : Jvm.Cond.instanceMethod yX3_add ∈ wsU := wsU_t 289 (by decide +kernel) rfl
theorem wd_271 : Jvm.Cond.selects RX3 yX3_add yX3_add ∈ wsU := wsU_s (y := yX3_add) (n := 2) 6 (by decide +kernel)
theorem wd_272 : Jvm.Cond.code yX2_addSight cX2_addSight 3 none ∈ wsU := wsU_t 451 (by decide +kernel) rfl
theorem wd_273 : Jvm.Cond.instanceMethod yX2_addSight ∈ wsU := wsU_t 450 (by decide +kernel) rfl
theorem wd_274 : Jvm.Cond.selects RX2 yX2_addSight yX2_addSight ∈ wsU := wsU_s (y := yX2_addSight) (n := 7) 27 (by decide +kernel)
theorem wd_275 : Jvm.Cond.constantLong RX6 232 (720) ∈ wsU := wsU_t 616 (by decide +kernel) rfl
theorem wd_276 : Jvm.Cond.code yX6_worthIfHeated cX6_worthIfHeated 2 (some .int) ∈ wsU := wsU_t 613 (by decide +kernel) rfl
theorem wd_277 : Jvm.Cond.methodLink RX6 226 yX6_worthIfHeated ∈ wsU := wsU_t 610 (by decide +kernel) rfl
theorem wd_278 : Jvm.Cond.instanceMethod yX6_worthIfHeated ∈ wsU := wsU_t 612 (by decide +kernel) rfl
theorem wd_279 : Jvm.Cond.selects RX6 yX6_worthIfHeated yX6_worthIfHeated ∈ wsU := wsU_s (y := yX6_worthIfHeated) (n := 7) 51 (by decide +kernel)
theorem wd_280 : Jvm.Cond.fieldLink RX6 229 "EggOrder" "ROWS_BY_SIZE" "[I" ∈ wsU := wsU_t 614 (by decide +kernel) rfl
theorem wd_281 : Jvm.Cond.constantLong RX6 219 (-1000000000000000001) ∈ wsU := wsU_t 608 (by decide +kernel) rfl
theorem wd_282 : Jvm.Cond.methodLink RX6 208 Lib.Math.max.name ∈ wsU := wsU_t 581 (by decide +kernel) rfl
theorem wd_283 : Jvm.Cond.code yX0_hoursToHeat cX0_hoursToHeat 4 (some .int) ∈ wsU := wsU_t 580 (by decide +kernel) rfl
theorem wd_284 : Jvm.Cond.instanceMethod yX0_hoursToHeat ∈ wsU := wsU_t 579 (by decide +kernel) rfl
theorem wd_285 : Jvm.Cond.selects RX0 yX0_hoursToHeat yX0_hoursToHeat ∈ wsU := wsU_s (y := yX0_hoursToHeat) (n := 4) 46 (by decide +kernel)
theorem wd_286 : Jvm.Cond.code yX0_stopPlace cX0_stopPlace 2 (some .int) ∈ wsU := wsU_t 421 (by decide +kernel) rfl
theorem wd_287 : Jvm.Cond.instanceMethod yX0_stopPlace ∈ wsU := wsU_t 420 (by decide +kernel) rfl
theorem wd_288 : Jvm.Cond.selects RX0 yX0_stopPlace yX0_stopPlace ∈ wsU := wsU_s (y := yX0_stopPlace) (n := 4) 24 (by decide +kernel)
theorem wd_289 : Jvm.Cond.code yX0_warmBehind cX0_warmBehind 5 (some .int) ∈ wsU := wsU_t 425 (by decide +kernel) rfl
theorem wd_290 : Jvm.Cond.instanceMethod yX0_warmBehind ∈ wsU := wsU_t 424 (by decide +kernel) rfl
theorem wd_291 : Jvm.Cond.selects RX0 yX0_warmBehind yX0_warmBehind ∈ wsU := wsU_s (y := yX0_warmBehind) (n := 4) 25 (by decide +kernel)
theorem wd_292 : Jvm.Cond.constant RX6 246 (65537) ∈ wsU := wsU_t 637 (by decide +kernel) rfl
theorem wd_293 : Jvm.Cond.fieldLink RX6 46 "EggOrder" "trial" "LEggOrder$Coop;" ∈ wsU := wsU_t 223 (by decide +kernel) rfl
theorem wd_294 : Jvm.Cond.fieldLink RX7 93 "EggOrderModel" "eggs" "I" ∈ wsU := wsU_t 671 (by decide +kernel) rfl
theorem wd_295 : Jvm.Cond.fieldLink RX7 22 "EggOrderModel" "how" "[I" ∈ wsU := wsU_t 676 (by decide +kernel) rfl
theorem wd_296 : Jvm.Cond.constantLong RX7 110 (5) ∈ wsU := wsU_t 826 (by decide +kernel) rfl
theorem wd_297 : Jvm.Cond.code yX7_in cX7_in 6 (some .boolean) ∈ wsU := wsU_t 806 (by decide +kernel) rfl
theorem wd_298 : Jvm.Cond.methodLink RX7 106 yX7_in ∈ wsU := wsU_t 804 (by decide +kernel) rfl
theorem wd_299 : Jvm.Cond.static yX7_in ∈ wsU := wsU_t 805 (by decide +kernel) rfl
theorem wd_300 : Jvm.Cond.initialized RX7 ∈ wsU := wsU_t 9 (by decide +kernel) rfl
theorem wd_301 : Jvm.Cond.fieldLink RX7 137 "EggOrderModel" "isMarred" "Z" ∈ wsU := wsU_t 692 (by decide +kernel) rfl
theorem wd_302 : Jvm.Cond.fieldLink RX7 134 "EggOrderModel" "acts" "I" ∈ wsU := wsU_t 691 (by decide +kernel) rfl
theorem wd_303 : Jvm.Cond.fieldLink RX7 52 "EggOrderModel" "actHouse" "[I" ∈ wsU := wsU_t 690 (by decide +kernel) rfl
theorem wd_304 : Jvm.Cond.fieldLink RX7 46 "EggOrderModel" "act" "[I" ∈ wsU := wsU_t 688 (by decide +kernel) rfl
theorem wd_305 : Jvm.Cond.fieldLink RX7 49 "EggOrderModel" "actEgg" "[I" ∈ wsU := wsU_t 689 (by decide +kernel) rfl
theorem wd_306 : Jvm.Cond.code yX7_isEgg cX7_isEgg 2 (some .boolean) ∈ wsU := wsU_t 814 (by decide +kernel) rfl
theorem wd_307 : Jvm.Cond.methodLink RX7 114 yX7_isEgg ∈ wsU := wsU_t 811 (by decide +kernel) rfl
theorem wd_308 : Jvm.Cond.instanceMethod yX7_isEgg ∈ wsU := wsU_t 813 (by decide +kernel) rfl
theorem wd_309 : Jvm.Cond.selects RX7 yX7_isEgg yX7_isEgg ∈ wsU := wsU_s (y := yX7_isEgg) (n := 42) 56 (by decide +kernel)
theorem wd_310 : Jvm.Cond.fieldLink RX7 131 "EggOrderModel" "padMany" "I" ∈ wsU := wsU_t 687 (by decide +kernel) rfl
theorem wd_311 : Jvm.Cond.fieldLink RX7 43 "EggOrderModel" "pad" "[I" ∈ wsU := wsU_t 686 (by decide +kernel) rfl
theorem wd_312 : Jvm.Cond.code yX7_isHouse cX7_isHouse 1 (some .boolean) ∈ wsU := wsU_t 825 (by decide +kernel) rfl
theorem wd_313 : Jvm.Cond.methodLink RX7 124 yX7_isHouse ∈ wsU := wsU_t 823 (by decide +kernel) rfl
theorem wd_314 : Jvm.Cond.static yX7_isHouse ∈ wsU := wsU_t 824 (by decide +kernel) rfl
theorem wd_315 : Jvm.Cond.fieldLink RX7 61 "EggOrderModel" "had" "[I" ∈ wsU := wsU_t 699 (by decide +kernel) rfl
theorem wd_316 : Jvm.Cond.fieldLink RX7 97 "EggOrderModel" "stoves" "I" ∈ wsU := wsU_t 678 (by decide +kernel) rfl
theorem wd_317 : Jvm.Cond.fieldLink RX7 13 "EggOrderModel" "warmth" "[I" ∈ wsU := wsU_t 673 (by decide +kernel) rfl
theorem wd_318 : Jvm.Cond.fieldLink RX7 19 "EggOrderModel" "house" "[I" ∈ wsU := wsU_t 675 (by decide +kernel) rfl
theorem wd_319 : Jvm.Cond.fieldLink RX7 28 "EggOrderModel" "clueKind" "[I" ∈ wsU := wsU_t 679 (by decide +kernel) rfl
theorem wd_320 : Jvm.Cond.fieldLink RX7 100 "EggOrderModel" "clues" "I" ∈ wsU := wsU_t 682 (by decide +kernel) rfl
theorem wd_321 : Jvm.Cond.fieldLink RX7 67 "EggOrderModel" "placeIn" "[I" ∈ wsU := wsU_t 703 (by decide +kernel) rfl
theorem wd_322 : Jvm.Cond.fieldLink RX7 31 "EggOrderModel" "clueEgg" "[I" ∈ wsU := wsU_t 680 (by decide +kernel) rfl
theorem wd_323 : Jvm.Cond.fieldLink RX7 34 "EggOrderModel" "clueOther" "[I" ∈ wsU := wsU_t 681 (by decide +kernel) rfl
theorem wd_324 : Jvm.Cond.fieldLink RX7 55 "EggOrderModel" "row" "[I" ∈ wsU := wsU_t 693 (by decide +kernel) rfl
theorem wd_325 : Jvm.Cond.fieldLink RX7 7 "EggOrderModel" "need" "[I" ∈ wsU := wsU_t 672 (by decide +kernel) rfl
theorem wd_326 : Jvm.Cond.fieldLink RX7 155 "EggOrderModel" "hatchings" "I" ∈ wsU := wsU_t 695 (by decide +kernel) rfl
theorem wd_327 : Jvm.Cond.fieldLink RX7 58 "EggOrderModel" "hatchedIn" "[I" ∈ wsU := wsU_t 696 (by decide +kernel) rfl
theorem wd_328 : Jvm.Cond.fieldLink RX7 152 "EggOrderModel" "hours" "I" ∈ wsU := wsU_t 694 (by decide +kernel) rfl
theorem wd_329 : Jvm.Cond.code yX7_passHour cX7_passHour 4 none ∈ wsU := wsU_t 888 (by decide +kernel) rfl
theorem wd_330 : Jvm.Cond.methodLink RX7 158 yX7_passHour ∈ wsU := wsU_t 885 (by decide +kernel) rfl
theorem wd_331 : Jvm.Cond.instanceMethod yX7_passHour ∈ wsU := wsU_t 887 (by decide +kernel) rfl
theorem wd_332 : Jvm.Cond.selects RX7 yX7_passHour yX7_passHour ∈ wsU := wsU_s (y := yX7_passHour) (n := 42) 66 (by decide +kernel)
theorem wd_333 : Jvm.Cond.fieldLink RX7 164 "EggOrderModel" "badWhy" "I" ∈ wsU := wsU_t 698 (by decide +kernel) rfl
theorem wd_334 : Jvm.Cond.code yX7_happen cX7_happen 3 none ∈ wsU := wsU_t 884 (by decide +kernel) rfl
theorem wd_335 : Jvm.Cond.methodLink RX7 170 yX7_happen ∈ wsU := wsU_t 881 (by decide +kernel) rfl
theorem wd_336 : Jvm.Cond.instanceMethod yX7_happen ∈ wsU := wsU_t 883 (by decide +kernel) rfl
theorem wd_337 : Jvm.Cond.selects RX7 yX7_happen yX7_happen ∈ wsU := wsU_s (y := yX7_happen) (n := 42) 65 (by decide +kernel)
theorem wd_338 : Jvm.Cond.fieldLink RX7 161 "EggOrderModel" "badAct" "I" ∈ wsU := wsU_t 697 (by decide +kernel) rfl
theorem wd_339 : Jvm.Cond.code yX7_whyNot cX7_whyNot 3 (some .int) ∈ wsU := wsU_t 880 (by decide +kernel) rfl
theorem wd_340 : Jvm.Cond.methodLink RX7 167 yX7_whyNot ∈ wsU := wsU_t 877 (by decide +kernel) rfl
theorem wd_341 : Jvm.Cond.instanceMethod yX7_whyNot ∈ wsU := wsU_t 879 (by decide +kernel) rfl
theorem wd_342 : Jvm.Cond.selects RX7 yX7_whyNot yX7_whyNot ∈ wsU := wsU_s (y := yX7_whyNot) (n := 42) 64 (by decide +kernel)
theorem wd_343 : Jvm.Cond.fieldLink RX7 103 "EggOrderModel" "sights" "I" ∈ wsU := wsU_t 685 (by decide +kernel) rfl
theorem wd_344 : Jvm.Cond.code yX7_putBack cX7_putBack 2 none ∈ wsU := wsU_t 900 (by decide +kernel) rfl
theorem wd_345 : Jvm.Cond.methodLink RX7 195 yX7_putBack ∈ wsU := wsU_t 897 (by decide +kernel) rfl
theorem wd_346 : Jvm.Cond.instanceMethod yX7_putBack ∈ wsU := wsU_t 899 (by decide +kernel) rfl
theorem wd_347 : Jvm.Cond.selects RX7 yX7_putBack yX7_putBack ∈ wsU := wsU_s (y := yX7_putBack) (n := 42) 69 (by decide +kernel)
theorem wd_348 : Jvm.Cond.fieldLink RX7 37 "EggOrderModel" "sightEgg" "[I" ∈ wsU := wsU_t 683 (by decide +kernel) rfl
theorem wd_349 : Jvm.Cond.fieldLink RX7 40 "EggOrderModel" "sightHour" "[I" ∈ wsU := wsU_t 684 (by decide +kernel) rfl
theorem wd_350 : Jvm.Cond.code yX7_goWeek cX7_goWeek 3 none ∈ wsU := wsU_t 876 (by decide +kernel) rfl
theorem wd_351 : Jvm.Cond.methodLink RX7 185 yX7_goWeek ∈ wsU := wsU_t 873 (by decide +kernel) rfl
theorem wd_352 : Jvm.Cond.instanceMethod yX7_goWeek ∈ wsU := wsU_t 875 (by decide +kernel) rfl
theorem wd_353 : Jvm.Cond.selects RX7 yX7_goWeek yX7_goWeek ∈ wsU := wsU_s (y := yX7_goWeek) (n := 42) 63 (by decide +kernel)
theorem wd_354 : Jvm.Cond.fieldLink RX7 76 "EggOrderModel" "manyAhead" "[I" ∈ wsU := wsU_t 707 (by decide +kernel) rfl
theorem wd_355 : Jvm.Cond.fieldLink RX7 73 "EggOrderModel" "manyAt" "[I" ∈ wsU := wsU_t 706 (by decide +kernel) rfl
theorem wd_356 : Jvm.Cond.fieldLink RX7 209 "EggOrderModel" "fitMany" "I" ∈ wsU := wsU_t 704 (by decide +kernel) rfl
theorem wd_357 : Jvm.Cond.fieldLink RX7 70 "EggOrderModel" "first" "[I" ∈ wsU := wsU_t 705 (by decide +kernel) rfl
theorem wd_358 : Jvm.Cond.code yX7_change cX7_change 4 none ∈ wsU := wsU_t 962 (by decide +kernel) rfl
theorem wd_359 : Jvm.Cond.methodLink RX7 205 yX7_change ∈ wsU := wsU_t 959 (by decide +kernel) rfl
theorem wd_360 : Jvm.Cond.instanceMethod yX7_change ∈ wsU := wsU_t 961 (by decide +kernel) rfl
theorem wd_361 : Jvm.Cond.selects RX7 yX7_change yX7_change ∈ wsU := wsU_s (y := yX7_change) (n := 42) 75 (by decide +kernel)
theorem wd_362 : Jvm.Cond.code yX7_nextRow cX7_nextRow 5 (some .boolean) ∈ wsU := wsU_t 958 (by decide +kernel) rfl
theorem wd_363 : Jvm.Cond.methodLink RX7 221 yX7_nextRow ∈ wsU := wsU_t 955 (by decide +kernel) rfl
theorem wd_364 : Jvm.Cond.instanceMethod yX7_nextRow ∈ wsU := wsU_t 957 (by decide +kernel) rfl
theorem wd_365 : Jvm.Cond.selects RX7 yX7_nextRow yX7_nextRow ∈ wsU := wsU_s (y := yX7_nextRow) (n := 42) 74 (by decide +kernel)
theorem wd_366 : Jvm.Cond.code yX7_fitsClues cX7_fitsClues 6 (some .boolean) ∈ wsU := wsU_t 946 (by decide +kernel) rfl
theorem wd_367 : Jvm.Cond.methodLink RX7 212 yX7_fitsClues ∈ wsU := wsU_t 943 (by decide +kernel) rfl
theorem wd_368 : Jvm.Cond.instanceMethod yX7_fitsClues ∈ wsU := wsU_t 945 (by decide +kernel) rfl
theorem wd_369 : Jvm.Cond.selects RX7 yX7_fitsClues yX7_fitsClues ∈ wsU := wsU_s (y := yX7_fitsClues) (n := 42) 71 (by decide +kernel)
theorem wd_370 : Jvm.Cond.code yX7_fitsSights cX7_fitsSights 4 (some .boolean) ∈ wsU := wsU_t 950 (by decide +kernel) rfl
theorem wd_371 : Jvm.Cond.methodLink RX7 215 yX7_fitsSights ∈ wsU := wsU_t 947 (by decide +kernel) rfl
theorem wd_372 : Jvm.Cond.instanceMethod yX7_fitsSights ∈ wsU := wsU_t 949 (by decide +kernel) rfl
theorem wd_373 : Jvm.Cond.selects RX7 yX7_fitsSights yX7_fitsSights ∈ wsU := wsU_s (y := yX7_fitsSights) (n := 42) 72 (by decide +kernel)
theorem wd_374 : Jvm.Cond.code yX7_countFit cX7_countFit 3 none ∈ wsU := wsU_t 954 (by decide +kernel) rfl
theorem wd_375 : Jvm.Cond.methodLink RX7 218 yX7_countFit ∈ wsU := wsU_t 951 (by decide +kernel) rfl
theorem wd_376 : Jvm.Cond.instanceMethod yX7_countFit ∈ wsU := wsU_t 953 (by decide +kernel) rfl
theorem wd_377 : Jvm.Cond.selects RX7 yX7_countFit yX7_countFit ∈ wsU := wsU_s (y := yX7_countFit) (n := 42) 73 (by decide +kernel)
theorem wd_378 : Jvm.Cond.code yX7_keepNow cX7_keepNow 2 none ∈ wsU := wsU_t 872 (by decide +kernel) rfl
theorem wd_379 : Jvm.Cond.methodLink RX7 182 yX7_keepNow ∈ wsU := wsU_t 869 (by decide +kernel) rfl
theorem wd_380 : Jvm.Cond.instanceMethod yX7_keepNow ∈ wsU := wsU_t 871 (by decide +kernel) rfl
theorem wd_381 : Jvm.Cond.selects RX7 yX7_keepNow yX7_keepNow ∈ wsU := wsU_s (y := yX7_keepNow) (n := 42) 62 (by decide +kernel)
theorem wd_382 : Jvm.Cond.code yX7_areAllWhole cX7_areAllWhole 3 (some .boolean) ∈ wsU := wsU_t 856 (by decide +kernel) rfl
theorem wd_383 : Jvm.Cond.methodLink RX7 148 yX7_areAllWhole ∈ wsU := wsU_t 853 (by decide +kernel) rfl
theorem wd_384 : Jvm.Cond.instanceMethod yX7_areAllWhole ∈ wsU := wsU_t 855 (by decide +kernel) rfl
theorem wd_385 : Jvm.Cond.selects RX7 yX7_areAllWhole yX7_areAllWhole ∈ wsU := wsU_s (y := yX7_areAllWhole) (n := 42) 59 (by decide +kernel)
theorem wd_386 : Jvm.Cond.code yX7_faultOfWeek cX7_faultOfWeek 7 (some .int) ∈ wsU := wsU_t 848 (by decide +kernel) rfl
theorem wd_387 : Jvm.Cond.methodLink RX7 145 yX7_faultOfWeek ∈ wsU := wsU_t 845 (by decide +kernel) rfl
theorem wd_388 : Jvm.Cond.instanceMethod yX7_faultOfWeek ∈ wsU := wsU_t 847 (by decide +kernel) rfl
theorem wd_389 : Jvm.Cond.selects RX7 yX7_faultOfWeek yX7_faultOfWeek ∈ wsU := wsU_s (y := yX7_faultOfWeek) (n := 42) 58 (by decide +kernel)
theorem wd_390 : Jvm.Cond.code yX7_mostAt cX7_mostAt 4 (some .int) ∈ wsU := wsU_t 982 (by decide +kernel) rfl
theorem wd_391 : Jvm.Cond.methodLink RX7 227 yX7_mostAt ∈ wsU := wsU_t 979 (by decide +kernel) rfl
theorem wd_392 : Jvm.Cond.instanceMethod yX7_mostAt ∈ wsU := wsU_t 981 (by decide +kernel) rfl
theorem wd_393 : Jvm.Cond.selects RX7 yX7_mostAt yX7_mostAt ∈ wsU := wsU_s (y := yX7_mostAt) (n := 42) 76 (by decide +kernel)
theorem wd_394 : Jvm.Cond.code yX7_goFits cX7_goFits 2 (some .int) ∈ wsU := wsU_t 942 (by decide +kernel) rfl
theorem wd_395 : Jvm.Cond.methodLink RX7 224 yX7_goFits ∈ wsU := wsU_t 939 (by decide +kernel) rfl
theorem wd_396 : Jvm.Cond.instanceMethod yX7_goFits ∈ wsU := wsU_t 941 (by decide +kernel) rfl
theorem wd_397 : Jvm.Cond.selects RX7 yX7_goFits yX7_goFits ∈ wsU := wsU_s (y := yX7_goFits) (n := 42) 70 (by decide +kernel)
theorem wd_398 : Jvm.Cond.fieldLink RX7 16 "EggOrderModel" "worth" "[I" ∈ wsU := wsU_t 674 (by decide +kernel) rfl
theorem wd_399 : Jvm.Cond.fieldLink RX7 25 "EggOrderModel" "order" "[I" ∈ wsU := wsU_t 677 (by decide +kernel) rfl
theorem wd_400 : Jvm.Cond.fieldLink RX7 173 "EggOrderModel" "stopsAt" "I" ∈ wsU := wsU_t 701 (by decide +kernel) rfl
theorem wd_401 : Jvm.Cond.fieldLink RX7 176 "EggOrderModel" "inVain" "I" ∈ wsU := wsU_t 702 (by decide +kernel) rfl
theorem wd_402 : Jvm.Cond.code yX7_findStop cX7_findStop 4 none ∈ wsU := wsU_t 896 (by decide +kernel) rfl
theorem wd_403 : Jvm.Cond.methodLink RX7 192 yX7_findStop ∈ wsU := wsU_t 893 (by decide +kernel) rfl
theorem wd_404 : Jvm.Cond.instanceMethod yX7_findStop ∈ wsU := wsU_t 895 (by decide +kernel) rfl
theorem wd_405 : Jvm.Cond.selects RX7 yX7_findStop yX7_findStop ∈ wsU := wsU_s (y := yX7_findStop) (n := 42) 68 (by decide +kernel)
theorem wd_406 : Jvm.Cond.fieldLink RX7 64 "EggOrderModel" "leaves" "[I" ∈ wsU := wsU_t 700 (by decide +kernel) rfl
theorem wd_407 : Jvm.Cond.code yX7_stateOf cX7_stateOf 3 (some .int) ∈ wsU := wsU_t 892 (by decide +kernel) rfl
theorem wd_408 : Jvm.Cond.methodLink RX7 188 yX7_stateOf ∈ wsU := wsU_t 889 (by decide +kernel) rfl
theorem wd_409 : Jvm.Cond.instanceMethod yX7_stateOf ∈ wsU := wsU_t 891 (by decide +kernel) rfl
theorem wd_410 : Jvm.Cond.selects RX7 yX7_stateOf yX7_stateOf ∈ wsU := wsU_s (y := yX7_stateOf) (n := 42) 67 (by decide +kernel)
theorem wd_411 : Jvm.Cond.code yX7_layOrder cX7_layOrder 2 none ∈ wsU := wsU_t 868 (by decide +kernel) rfl
theorem wd_412 : Jvm.Cond.methodLink RX7 179 yX7_layOrder ∈ wsU := wsU_t 865 (by decide +kernel) rfl
theorem wd_413 : Jvm.Cond.instanceMethod yX7_layOrder ∈ wsU := wsU_t 867 (by decide +kernel) rfl
theorem wd_414 : Jvm.Cond.selects RX7 yX7_layOrder yX7_layOrder ∈ wsU := wsU_s (y := yX7_layOrder) (n := 42) 61 (by decide +kernel)
theorem wd_415 : Jvm.Cond.constantLong RX7 201 (2) ∈ wsU := wsU_t 905 (by decide +kernel) rfl
theorem wd_416 : Jvm.Cond.code yX7_refusal cX7_refusal 2 (some .int) ∈ wsU := wsU_t 864 (by decide +kernel) rfl
theorem wd_417 : Jvm.Cond.methodLink RX7 198 yX7_refusal ∈ wsU := wsU_t 861 (by decide +kernel) rfl
theorem wd_418 : Jvm.Cond.instanceMethod yX7_refusal ∈ wsU := wsU_t 863 (by decide +kernel) rfl
theorem wd_419 : Jvm.Cond.selects RX7 yX7_refusal yX7_refusal ∈ wsU := wsU_s (y := yX7_refusal) (n := 42) 60 (by decide +kernel)
theorem wd_420 : Jvm.Cond.constantLong RX7 118 (3) ∈ wsU := wsU_t 815 (by decide +kernel) rfl
theorem wd_421 : Jvm.Cond.code yX7_greatest cX7_greatest 1 (some .int) ∈ wsU := wsU_t 818 (by decide +kernel) rfl
theorem wd_422 : Jvm.Cond.methodLink RX7 120 yX7_greatest ∈ wsU := wsU_t 816 (by decide +kernel) rfl
theorem wd_423 : Jvm.Cond.static yX7_greatest ∈ wsU := wsU_t 817 (by decide +kernel) rfl
theorem wd_424 : Jvm.Cond.constantLong RX7 112 (7) ∈ wsU := wsU_t 803 (by decide +kernel) rfl
theorem wd_425 : Jvm.Cond.code yX7_begin cX7_begin 3 none ∈ wsU := wsU_t 670 (by decide +kernel) rfl
theorem wd_426 : Jvm.Cond.methodLink RX7 89 yX7_begin ∈ wsU := wsU_t 667 (by decide +kernel) rfl
theorem wd_427 : Jvm.Cond.instanceMethod yX7_begin ∈ wsU := wsU_t 669 (by decide +kernel) rfl
theorem wd_428 : Jvm.Cond.selects RX7 yX7_begin yX7_begin ∈ wsU := wsU_s (y := yX7_begin) (n := 42) 55 (by decide +kernel)
theorem wd_429 : Jvm.Cond.code yX7_faultOfOrder cX7_faultOfOrder 4 (some .int) ∈ wsU := wsU_t 844 (by decide +kernel) rfl
theorem wd_430 : Jvm.Cond.methodLink RX7 141 yX7_faultOfOrder ∈ wsU := wsU_t 841 (by decide +kernel) rfl
theorem wd_431 : Jvm.Cond.instanceMethod yX7_faultOfOrder ∈ wsU := wsU_t 843 (by decide +kernel) rfl
theorem wd_432 : Jvm.Cond.selects RX7 yX7_faultOfOrder yX7_faultOfOrder ∈ wsU := wsU_s (y := yX7_faultOfOrder) (n := 42) 57 (by decide +kernel)
theorem wd_433 : Jvm.Cond.fieldLink RX7 79 "EggOrderModel" "gets" "[I" ∈ wsU := wsU_t 708 (by decide +kernel) rfl
theorem wd_434 : Jvm.Cond.code yX7_findWorth cX7_findWorth 8 (some .int) ∈ wsU := wsU_t 1015 (by decide +kernel) rfl
theorem wd_435 : Jvm.Cond.methodLink RX7 235 yX7_findWorth ∈ wsU := wsU_t 1012 (by decide +kernel) rfl
theorem wd_436 : Jvm.Cond.instanceMethod yX7_findWorth ∈ wsU := wsU_t 1014 (by decide +kernel) rfl
theorem wd_437 : Jvm.Cond.selects RX7 yX7_findWorth yX7_findWorth ∈ wsU := wsU_s (y := yX7_findWorth) (n := 42) 80 (by decide +kernel)
theorem wd_438 : Jvm.Cond.code yX7_power cX7_power 5 (some .long) ∈ wsU := wsU_t 1036 (by decide +kernel) rfl
theorem wd_439 : Jvm.Cond.methodLink RX7 266 yX7_power ∈ wsU := wsU_t 1034 (by decide +kernel) rfl
theorem wd_440 : Jvm.Cond.static yX7_power ∈ wsU := wsU_t 1035 (by decide +kernel) rfl
theorem wd_441 : Jvm.Cond.code yX7_lowest cX7_lowest 11 (some .long) ∈ wsU := wsU_t 1028 (by decide +kernel) rfl
theorem wd_442 : Jvm.Cond.methodLink RX7 260 yX7_lowest ∈ wsU := wsU_t 1026 (by decide +kernel) rfl
theorem wd_443 : Jvm.Cond.static yX7_lowest ∈ wsU := wsU_t 1027 (by decide +kernel) rfl
theorem wd_444 : Jvm.Cond.constantLong RX7 264 (10) ∈ wsU := wsU_t 1033 (by decide +kernel) rfl
theorem wd_445 : Jvm.Cond.constantLong RX7 253 (-1000000000000000002) ∈ wsU := wsU_t 1021 (by decide +kernel) rfl
theorem wd_446 : Jvm.Cond.fieldLink RX7 82 "EggOrderModel" "kept" "[I" ∈ wsU := wsU_t 709 (by decide +kernel) rfl
theorem wd_447 : Jvm.Cond.fieldLink RX7 281 "EggOrderModel" "keptAt" "I" ∈ wsU := wsU_t 711 (by decide +kernel) rfl
theorem wd_448 : Jvm.Cond.fieldLink RX7 278 "EggOrderModel" "isWriting" "Z" ∈ wsU := wsU_t 712 (by decide +kernel) rfl
theorem wd_449 : Jvm.Cond.code yX7_pass cX7_pass 3 (some .int) ∈ wsU := wsU_t 1056 (by decide +kernel) rfl
theorem wd_450 : Jvm.Cond.methodLink RX7 284 yX7_pass ∈ wsU := wsU_t 1053 (by decide +kernel) rfl
theorem wd_451 : Jvm.Cond.instanceMethod yX7_pass ∈ wsU := wsU_t 1055 (by decide +kernel) rfl
theorem wd_452 : Jvm.Cond.selects RX7 yX7_pass yX7_pass ∈ wsU := wsU_s (y := yX7_pass) (n := 42) 82 (by decide +kernel)
theorem wd_453 : Jvm.Cond.code yX7_passAll cX7_passAll 2 none ∈ wsU := wsU_t 1052 (by decide +kernel) rfl
theorem wd_454 : Jvm.Cond.methodLink RX7 287 yX7_passAll ∈ wsU := wsU_t 1049 (by decide +kernel) rfl
theorem wd_455 : Jvm.Cond.instanceMethod yX7_passAll ∈ wsU := wsU_t 1051 (by decide +kernel) rfl
theorem wd_456 : Jvm.Cond.selects RX7 yX7_passAll yX7_passAll ∈ wsU := wsU_s (y := yX7_passAll) (n := 42) 81 (by decide +kernel)
theorem wd_457 : Jvm.Cond.fieldLink RX7 85 "EggOrderModel" "isKept" "[Z" ∈ wsU := wsU_t 710 (by decide +kernel) rfl
theorem wd_458 : Jvm.Cond.code yX7_gainOf cX7_gainOf 4 (some .int) ∈ wsU := wsU_t 1011 (by decide +kernel) rfl
theorem wd_459 : Jvm.Cond.methodLink RX7 238 yX7_gainOf ∈ wsU := wsU_t 1008 (by decide +kernel) rfl
theorem wd_460 : Jvm.Cond.instanceMethod yX7_gainOf ∈ wsU := wsU_t 1010 (by decide +kernel) rfl
theorem wd_461 : Jvm.Cond.selects RX7 yX7_gainOf yX7_gainOf ∈ wsU := wsU_s (y := yX7_gainOf) (n := 42) 79 (by decide +kernel)
theorem wd_462 : Jvm.Cond.code yX7_ones cX7_ones 3 (some .int) ∈ wsU := wsU_t 989 (by decide +kernel) rfl
theorem wd_463 : Jvm.Cond.methodLink RX7 230 yX7_ones ∈ wsU := wsU_t 987 (by decide +kernel) rfl
theorem wd_464 : Jvm.Cond.static yX7_ones ∈ wsU := wsU_t 988 (by decide +kernel) rfl
theorem wd_465 : Jvm.Cond.code yX7_isRest cX7_isRest 6 (some .boolean) ∈ wsU := wsU_t 1007 (by decide +kernel) rfl
theorem wd_466 : Jvm.Cond.methodLink RX7 247 yX7_isRest ∈ wsU := wsU_t 1004 (by decide +kernel) rfl
theorem wd_467 : Jvm.Cond.instanceMethod yX7_isRest ∈ wsU := wsU_t 1006 (by decide +kernel) rfl
theorem wd_468 : Jvm.Cond.selects RX7 yX7_isRest yX7_isRest ∈ wsU := wsU_s (y := yX7_isRest) (n := 42) 78 (by decide +kernel)
theorem wd_469 : Jvm.Cond.constantLong RX7 242 (99) ∈ wsU := wsU_t 999 (by decide +kernel) rfl
theorem wd_470 : Jvm.Cond.code yX7_housesWithWhole cX7_housesWithWhole 3 (some .int) ∈ wsU := wsU_t 1003 (by decide +kernel) rfl
theorem wd_471 : Jvm.Cond.methodLink RX7 244 yX7_housesWithWhole ∈ wsU := wsU_t 1000 (by decide +kernel) rfl
theorem wd_472 : Jvm.Cond.instanceMethod yX7_housesWithWhole ∈ wsU := wsU_t 1002 (by decide +kernel) rfl
theorem wd_473 : Jvm.Cond.selects RX7 yX7_housesWithWhole yX7_housesWithWhole ∈ wsU := wsU_s (y := yX7_housesWithWhole) (n := 42) 77 (by decide +kernel)
theorem wd_474 : Jvm.Cond.constantLong RX7 127 (33) ∈ wsU := wsU_t 831 (by decide +kernel) rfl
theorem wd_475 : Jvm.Cond.constantLong RX7 129 (126) ∈ wsU := wsU_t 832 (by decide +kernel) rfl
theorem wd_476 : Jvm.Cond.constantLong RX7 203 (60) ∈ wsU := wsU_t 930 (by decide +kernel) rfl
theorem wd_477 : Jvm.Cond.constantLong RX7 258 (720) ∈ wsU := wsU_t 1025 (by decide +kernel) rfl
theorem wd_478 : Jvm.Cond.code yX7_rowsOf cX7_rowsOf 3 (some .int) ∈ wsU := wsU_t 1024 (by decide +kernel) rfl
theorem wd_479 : Jvm.Cond.methodLink RX7 255 yX7_rowsOf ∈ wsU := wsU_t 1022 (by decide +kernel) rfl
theorem wd_480 : Jvm.Cond.static yX7_rowsOf ∈ wsU := wsU_t 1023 (by decide +kernel) rfl
theorem wd_481 : Jvm.Cond.constantLong RX7 251 (-1000000000000000001) ∈ wsU := wsU_t 1020 (by decide +kernel) rfl
theorem wd_482 : Jvm.Cond.constantLong RX7 233 (6) ∈ wsU := wsU_t 994 (by decide +kernel) rfl
theorem wd_483 : Jvm.Cond.constantLong RX7 290 (20) ∈ wsU := wsU_t 1065 (by decide +kernel) rfl
theorem wd_484 : Jvm.Cond.constantLong RX7 292 (89) ∈ wsU := wsU_t 1066 (by decide +kernel) rfl
theorem wd_485 : Jvm.Cond.constantLong RX7 297 (9) ∈ wsU := wsU_t 1071 (by decide +kernel) rfl
theorem wd_486 : Jvm.Cond.code yX7_toldOfEgg cX7_toldOfEgg 3 (some .int) ∈ wsU := wsU_t 1070 (by decide +kernel) rfl
theorem wd_487 : Jvm.Cond.methodLink RX7 294 yX7_toldOfEgg ∈ wsU := wsU_t 1067 (by decide +kernel) rfl
theorem wd_488 : Jvm.Cond.instanceMethod yX7_toldOfEgg ∈ wsU := wsU_t 1069 (by decide +kernel) rfl
theorem wd_489 : Jvm.Cond.selects RX7 yX7_toldOfEgg yX7_toldOfEgg ∈ wsU := wsU_s (y := yX7_toldOfEgg) (n := 42) 83 (by decide +kernel)
theorem wd_490 : Jvm.Cond.constantLong RX7 272 (75) ∈ wsU := wsU_t 1042 (by decide +kernel) rfl
theorem wd_491 : Jvm.Cond.constantLong RX7 274 (74) ∈ wsU := wsU_t 1043 (by decide +kernel) rfl
theorem wd_492 : Jvm.Cond.constantLong RX7 276 (65537) ∈ wsU := wsU_t 1044 (by decide +kernel) rfl
theorem wd_493 : Jvm.Cond.constantLong RX7 270 (9999) ∈ wsU := wsU_t 1041 (by decide +kernel) rfl
theorem wd_494 : Jvm.Cond.lays RX0 "EggOrder$Coop" "count" "I" ∈ wsU := wsU_t 39 (by decide +kernel) rfl
theorem wd_495 : Jvm.Cond.lays RX0 "EggOrder$Coop" "stoves" "I" ∈ wsU := wsU_t 41 (by decide +kernel) rfl
theorem wd_496 : Jvm.Cond.laysFinal RX0 "EggOrder$Coop" "row" "[I" ∈ wsU := wsU_t 43 (by decide +kernel) rfl
theorem wd_497 : Jvm.Cond.laysFinal RX0 "EggOrder$Coop" "facts" "[I" ∈ wsU := wsU_t 45 (by decide +kernel) rfl
theorem wd_498 : Jvm.Cond.lays RX1 "EggOrder$Fitting" "count" "I" ∈ wsU := wsU_t 171 (by decide +kernel) rfl
theorem wd_499 : Jvm.Cond.lays RX1 "EggOrder$Fitting" "total" "I" ∈ wsU := wsU_t 173 (by decide +kernel) rfl
theorem wd_500 : Jvm.Cond.laysFinal RX1 "EggOrder$Fitting" "row" "[I" ∈ wsU := wsU_t 175 (by decide +kernel) rfl
theorem wd_501 : Jvm.Cond.laysFinal RX1 "EggOrder$Fitting" "first" "[I" ∈ wsU := wsU_t 177 (by decide +kernel) rfl
theorem wd_502 : Jvm.Cond.laysFinal RX1 "EggOrder$Fitting" "ordersByEggAndPlace" "[I" ∈ wsU := wsU_t 179 (by decide +kernel) rfl
theorem wd_503 : Jvm.Cond.laysFinal RX1 "EggOrder$Fitting" "aheadInSome" "[I" ∈ wsU := wsU_t 181 (by decide +kernel) rfl
theorem wd_504 : Jvm.Cond.laysFinal RX1 "EggOrder$Fitting" "allowedPlaces" "[I" ∈ wsU := wsU_t 183 (by decide +kernel) rfl
theorem wd_505 : Jvm.Cond.laysFinal RX1 "EggOrder$Fitting" "mustBeAhead" "[I" ∈ wsU := wsU_t 185 (by decide +kernel) rfl
theorem wd_506 : Jvm.Cond.laysFinal RX1 "EggOrder$Fitting" "mustBeRightAhead" "[I" ∈ wsU := wsU_t 187 (by decide +kernel) rfl
theorem wd_507 : Jvm.Cond.laysFinal RX1 "EggOrder$Fitting" "warmHours" "[I" ∈ wsU := wsU_t 189 (by decide +kernel) rfl
theorem wd_508 : Jvm.Cond.laysFinal RX1 "EggOrder$Fitting" "carriedAfter" "[I" ∈ wsU := wsU_t 191 (by decide +kernel) rfl
theorem wd_509 : Jvm.Cond.laysFinal RX1 "EggOrder$Fitting" "seenHours" "[I" ∈ wsU := wsU_t 193 (by decide +kernel) rfl
theorem wd_510 : Jvm.Cond.laysFinal RX1 "EggOrder$Fitting" "warming" "LEggOrder$Coop;" ∈ wsU := wsU_t 195 (by decide +kernel) rfl
theorem wd_511 : Jvm.Cond.lays RX2 "EggOrder$Hints" "clueCount" "I" ∈ wsU := wsU_t 71 (by decide +kernel) rfl
theorem wd_512 : Jvm.Cond.lays RX2 "EggOrder$Hints" "sightCount" "I" ∈ wsU := wsU_t 73 (by decide +kernel) rfl
theorem wd_513 : Jvm.Cond.laysFinal RX2 "EggOrder$Hints" "clueKinds" "[I" ∈ wsU := wsU_t 75 (by decide +kernel) rfl
theorem wd_514 : Jvm.Cond.laysFinal RX2 "EggOrder$Hints" "clueEggs" "[I" ∈ wsU := wsU_t 77 (by decide +kernel) rfl
theorem wd_515 : Jvm.Cond.laysFinal RX2 "EggOrder$Hints" "clueOthers" "[I" ∈ wsU := wsU_t 79 (by decide +kernel) rfl
theorem wd_516 : Jvm.Cond.laysFinal RX2 "EggOrder$Hints" "sightEggs" "[I" ∈ wsU := wsU_t 81 (by decide +kernel) rfl
theorem wd_517 : Jvm.Cond.laysFinal RX2 "EggOrder$Hints" "sightHours" "[I" ∈ wsU := wsU_t 83 (by decide +kernel) rfl
theorem wd_518 : Jvm.Cond.lays RX3 "EggOrder$Pad" "count" "I" ∈ wsU := wsU_t 109 (by decide +kernel) rfl
theorem wd_519 : Jvm.Cond.laysFinal RX3 "EggOrder$Pad" "signs" "[I" ∈ wsU := wsU_t 111 (by decide +kernel) rfl
theorem wd_520 : Jvm.Cond.laysFinal RX4 "EggOrder$Scene" "coop" "LEggOrder$Coop;" ∈ wsU := wsU_t 91 (by decide +kernel) rfl
theorem wd_521 : Jvm.Cond.laysFinal RX4 "EggOrder$Scene" "hints" "LEggOrder$Hints;" ∈ wsU := wsU_t 93 (by decide +kernel) rfl
theorem wd_522 : Jvm.Cond.lays RX4 "EggOrder$Scene" "isKept" "Z" ∈ wsU := wsU_t 95 (by decide +kernel) rfl
theorem wd_523 : Jvm.Cond.laysFinal RX5 "EggOrder$Week" "coop" "LEggOrder$Coop;" ∈ wsU := wsU_t 134 (by decide +kernel) rfl
theorem wd_524 : Jvm.Cond.laysFinal RX5 "EggOrder$Week" "hatchHours" "[I" ∈ wsU := wsU_t 136 (by decide +kernel) rfl
theorem wd_525 : Jvm.Cond.lays RX5 "EggOrder$Week" "acts" "I" ∈ wsU := wsU_t 138 (by decide +kernel) rfl
theorem wd_526 : Jvm.Cond.lays RX5 "EggOrder$Week" "hours" "I" ∈ wsU := wsU_t 140 (by decide +kernel) rfl
theorem wd_527 : Jvm.Cond.lays RX5 "EggOrder$Week" "hatches" "I" ∈ wsU := wsU_t 142 (by decide +kernel) rfl
theorem wd_528 : Jvm.Cond.lays RX5 "EggOrder$Week" "why" "I" ∈ wsU := wsU_t 144 (by decide +kernel) rfl
theorem wd_529 : Jvm.Cond.laysFinal RX6 "EggOrder" "now" "LEggOrder$Scene;" ∈ wsU := wsU_t 224 (by decide +kernel) rfl
theorem wd_530 : Jvm.Cond.laysFinal RX6 "EggOrder" "firstImage" "LEggOrder$Scene;" ∈ wsU := wsU_t 226 (by decide +kernel) rfl
theorem wd_531 : Jvm.Cond.laysFinal RX6 "EggOrder" "secondImage" "LEggOrder$Scene;" ∈ wsU := wsU_t 228 (by decide +kernel) rfl
theorem wd_532 : Jvm.Cond.laysFinal RX6 "EggOrder" "pad" "LEggOrder$Pad;" ∈ wsU := wsU_t 230 (by decide +kernel) rfl
theorem wd_533 : Jvm.Cond.laysFinal RX6 "EggOrder" "week" "LEggOrder$Week;" ∈ wsU := wsU_t 232 (by decide +kernel) rfl
theorem wd_534 : Jvm.Cond.laysFinal RX6 "EggOrder" "fitting" "LEggOrder$Fitting;" ∈ wsU := wsU_t 234 (by decide +kernel) rfl
theorem wd_535 : Jvm.Cond.laysFinal RX6 "EggOrder" "trial" "LEggOrder$Coop;" ∈ wsU := wsU_t 236 (by decide +kernel) rfl
theorem wd_536 : Jvm.Cond.lays RX7 "EggOrderModel" "eggs" "I" ∈ wsU := wsU_t 713 (by decide +kernel) rfl
theorem wd_537 : Jvm.Cond.laysFinal RX7 "EggOrderModel" "need" "[I" ∈ wsU := wsU_t 715 (by decide +kernel) rfl
theorem wd_538 : Jvm.Cond.laysFinal RX7 "EggOrderModel" "warmth" "[I" ∈ wsU := wsU_t 717 (by decide +kernel) rfl
theorem wd_539 : Jvm.Cond.laysFinal RX7 "EggOrderModel" "worth" "[I" ∈ wsU := wsU_t 719 (by decide +kernel) rfl
theorem wd_540 : Jvm.Cond.laysFinal RX7 "EggOrderModel" "house" "[I" ∈ wsU := wsU_t 721 (by decide +kernel) rfl
theorem wd_541 : Jvm.Cond.laysFinal RX7 "EggOrderModel" "how" "[I" ∈ wsU := wsU_t 723 (by decide +kernel) rfl
theorem wd_542 : Jvm.Cond.laysFinal RX7 "EggOrderModel" "order" "[I" ∈ wsU := wsU_t 725 (by decide +kernel) rfl
theorem wd_543 : Jvm.Cond.lays RX7 "EggOrderModel" "stoves" "I" ∈ wsU := wsU_t 727 (by decide +kernel) rfl
theorem wd_544 : Jvm.Cond.laysFinal RX7 "EggOrderModel" "clueKind" "[I" ∈ wsU := wsU_t 729 (by decide +kernel) rfl
theorem wd_545 : Jvm.Cond.laysFinal RX7 "EggOrderModel" "clueEgg" "[I" ∈ wsU := wsU_t 731 (by decide +kernel) rfl
theorem wd_546 : Jvm.Cond.laysFinal RX7 "EggOrderModel" "clueOther" "[I" ∈ wsU := wsU_t 733 (by decide +kernel) rfl
theorem wd_547 : Jvm.Cond.lays RX7 "EggOrderModel" "clues" "I" ∈ wsU := wsU_t 735 (by decide +kernel) rfl
theorem wd_548 : Jvm.Cond.laysFinal RX7 "EggOrderModel" "sightEgg" "[I" ∈ wsU := wsU_t 737 (by decide +kernel) rfl
theorem wd_549 : Jvm.Cond.laysFinal RX7 "EggOrderModel" "sightHour" "[I" ∈ wsU := wsU_t 739 (by decide +kernel) rfl
theorem wd_550 : Jvm.Cond.lays RX7 "EggOrderModel" "sights" "I" ∈ wsU := wsU_t 741 (by decide +kernel) rfl
theorem wd_551 : Jvm.Cond.laysFinal RX7 "EggOrderModel" "pad" "[I" ∈ wsU := wsU_t 743 (by decide +kernel) rfl
theorem wd_552 : Jvm.Cond.lays RX7 "EggOrderModel" "padMany" "I" ∈ wsU := wsU_t 745 (by decide +kernel) rfl
theorem wd_553 : Jvm.Cond.laysFinal RX7 "EggOrderModel" "act" "[I" ∈ wsU := wsU_t 747 (by decide +kernel) rfl
theorem wd_554 : Jvm.Cond.laysFinal RX7 "EggOrderModel" "actEgg" "[I" ∈ wsU := wsU_t 749 (by decide +kernel) rfl
theorem wd_555 : Jvm.Cond.laysFinal RX7 "EggOrderModel" "actHouse" "[I" ∈ wsU := wsU_t 751 (by decide +kernel) rfl
theorem wd_556 : Jvm.Cond.lays RX7 "EggOrderModel" "acts" "I" ∈ wsU := wsU_t 753 (by decide +kernel) rfl
theorem wd_557 : Jvm.Cond.lays RX7 "EggOrderModel" "isMarred" "Z" ∈ wsU := wsU_t 755 (by decide +kernel) rfl
theorem wd_558 : Jvm.Cond.laysFinal RX7 "EggOrderModel" "row" "[I" ∈ wsU := wsU_t 757 (by decide +kernel) rfl
theorem wd_559 : Jvm.Cond.lays RX7 "EggOrderModel" "hours" "I" ∈ wsU := wsU_t 759 (by decide +kernel) rfl
theorem wd_560 : Jvm.Cond.lays RX7 "EggOrderModel" "hatchings" "I" ∈ wsU := wsU_t 761 (by decide +kernel) rfl
theorem wd_561 : Jvm.Cond.laysFinal RX7 "EggOrderModel" "hatchedIn" "[I" ∈ wsU := wsU_t 763 (by decide +kernel) rfl
theorem wd_562 : Jvm.Cond.lays RX7 "EggOrderModel" "badAct" "I" ∈ wsU := wsU_t 765 (by decide +kernel) rfl
theorem wd_563 : Jvm.Cond.lays RX7 "EggOrderModel" "badWhy" "I" ∈ wsU := wsU_t 767 (by decide +kernel) rfl
theorem wd_564 : Jvm.Cond.laysFinal RX7 "EggOrderModel" "had" "[I" ∈ wsU := wsU_t 769 (by decide +kernel) rfl
theorem wd_565 : Jvm.Cond.laysFinal RX7 "EggOrderModel" "leaves" "[I" ∈ wsU := wsU_t 771 (by decide +kernel) rfl
theorem wd_566 : Jvm.Cond.lays RX7 "EggOrderModel" "stopsAt" "I" ∈ wsU := wsU_t 773 (by decide +kernel) rfl
theorem wd_567 : Jvm.Cond.lays RX7 "EggOrderModel" "inVain" "I" ∈ wsU := wsU_t 775 (by decide +kernel) rfl
theorem wd_568 : Jvm.Cond.laysFinal RX7 "EggOrderModel" "placeIn" "[I" ∈ wsU := wsU_t 777 (by decide +kernel) rfl
theorem wd_569 : Jvm.Cond.lays RX7 "EggOrderModel" "fitMany" "I" ∈ wsU := wsU_t 779 (by decide +kernel) rfl
theorem wd_570 : Jvm.Cond.laysFinal RX7 "EggOrderModel" "first" "[I" ∈ wsU := wsU_t 781 (by decide +kernel) rfl
theorem wd_571 : Jvm.Cond.laysFinal RX7 "EggOrderModel" "manyAt" "[I" ∈ wsU := wsU_t 783 (by decide +kernel) rfl
theorem wd_572 : Jvm.Cond.laysFinal RX7 "EggOrderModel" "manyAhead" "[I" ∈ wsU := wsU_t 785 (by decide +kernel) rfl
theorem wd_573 : Jvm.Cond.laysFinal RX7 "EggOrderModel" "gets" "[I" ∈ wsU := wsU_t 787 (by decide +kernel) rfl
theorem wd_574 : Jvm.Cond.laysFinal RX7 "EggOrderModel" "kept" "[I" ∈ wsU := wsU_t 789 (by decide +kernel) rfl
theorem wd_575 : Jvm.Cond.laysFinal RX7 "EggOrderModel" "isKept" "[Z" ∈ wsU := wsU_t 791 (by decide +kernel) rfl
theorem wd_576 : Jvm.Cond.lays RX7 "EggOrderModel" "keptAt" "I" ∈ wsU := wsU_t 793 (by decide +kernel) rfl
theorem wd_577 : Jvm.Cond.lays RX7 "EggOrderModel" "isWriting" "Z" ∈ wsU := wsU_t 795 (by decide +kernel) rfl
theorem wd_578 : Jvm.Cond.code yX0_init cX0_init 1 none ∈ wsU := wsU_t 29 (by decide +kernel) rfl
theorem wd_579 : Jvm.Cond.instanceMethod yX0_init ∈ wsU := wsU_t 28 (by decide +kernel) rfl
theorem wd_580 : Jvm.Cond.instantiable RX0 4 ∈ wsU := wsU_t 26 (by decide +kernel) rfl
theorem wd_581 : Jvm.Cond.methodLink RX0 3 objectInit ∈ wsU := wsU_t 30 (by decide +kernel) rfl
theorem wd_582 : Jvm.Cond.code yX1_init cX1_init 1 none ∈ wsU := wsU_t 151 (by decide +kernel) rfl
theorem wd_583 : Jvm.Cond.instanceMethod yX1_init ∈ wsU := wsU_t 150 (by decide +kernel) rfl
theorem wd_584 : Jvm.Cond.instantiable RX1 13 ∈ wsU := wsU_t 148 (by decide +kernel) rfl
theorem wd_585 : Jvm.Cond.methodLink RX1 3 objectInit ∈ wsU := wsU_t 152 (by decide +kernel) rfl
theorem wd_586 : Jvm.Cond.classLink RX1 42 RX0 ∈ wsU := wsU_t 153 (by decide +kernel) rfl
theorem wd_587 : Jvm.Cond.code yX2_init cX2_init 1 none ∈ wsU := wsU_t 53 (by decide +kernel) rfl
theorem wd_588 : Jvm.Cond.instanceMethod yX2_init ∈ wsU := wsU_t 52 (by decide +kernel) rfl
theorem wd_589 : Jvm.Cond.instantiable RX2 7 ∈ wsU := wsU_t 50 (by decide +kernel) rfl
theorem wd_590 : Jvm.Cond.methodLink RX2 3 objectInit ∈ wsU := wsU_t 54 (by decide +kernel) rfl
theorem wd_591 : Jvm.Cond.code yX3_init cX3_init 1 none ∈ wsU := wsU_t 102 (by decide +kernel) rfl
theorem wd_592 : Jvm.Cond.instanceMethod yX3_init ∈ wsU := wsU_t 101 (by decide +kernel) rfl
theorem wd_593 : Jvm.Cond.instantiable RX3 2 ∈ wsU := wsU_t 99 (by decide +kernel) rfl
theorem wd_594 : Jvm.Cond.methodLink RX3 3 objectInit ∈ wsU := wsU_t 103 (by decide +kernel) rfl
theorem wd_595 : Jvm.Cond.code yX4_init cX4_init 1 none ∈ wsU := wsU_t 23 (by decide +kernel) rfl
theorem wd_596 : Jvm.Cond.instanceMethod yX4_init ∈ wsU := wsU_t 22 (by decide +kernel) rfl
theorem wd_597 : Jvm.Cond.instantiable RX4 3 ∈ wsU := wsU_t 20 (by decide +kernel) rfl
theorem wd_598 : Jvm.Cond.methodLink RX4 1 objectInit ∈ wsU := wsU_t 24 (by decide +kernel) rfl
theorem wd_599 : Jvm.Cond.classLink RX4 7 RX0 ∈ wsU := wsU_t 25 (by decide +kernel) rfl
theorem wd_600 : Jvm.Cond.classLink RX4 16 RX2 ∈ wsU := wsU_t 49 (by decide +kernel) rfl
theorem wd_601 : Jvm.Cond.code yX5_init cX5_init 1 none ∈ wsU := wsU_t 118 (by decide +kernel) rfl
theorem wd_602 : Jvm.Cond.instanceMethod yX5_init ∈ wsU := wsU_t 117 (by decide +kernel) rfl
theorem wd_603 : Jvm.Cond.instantiable RX5 6 ∈ wsU := wsU_t 115 (by decide +kernel) rfl
theorem wd_604 : Jvm.Cond.methodLink RX5 3 objectInit ∈ wsU := wsU_t 119 (by decide +kernel) rfl
theorem wd_605 : Jvm.Cond.classLink RX5 9 RX0 ∈ wsU := wsU_t 120 (by decide +kernel) rfl
theorem wd_606 : Jvm.Cond.code yX6_init cX6_init 1 none ∈ wsU := wsU_t 15 (by decide +kernel) rfl
theorem wd_607 : Jvm.Cond.instanceMethod yX6_init ∈ wsU := wsU_t 14 (by decide +kernel) rfl
theorem wd_608 : Jvm.Cond.instantiable RX6 7 ∈ wsU := wsU_t 12 (by decide +kernel) rfl
theorem wd_609 : Jvm.Cond.methodLink RX6 1 objectInit ∈ wsU := wsU_t 16 (by decide +kernel) rfl
theorem wd_610 : Jvm.Cond.classLink RX6 7 RX4 ∈ wsU := wsU_t 19 (by decide +kernel) rfl
theorem wd_611 : Jvm.Cond.classLink RX6 22 RX3 ∈ wsU := wsU_t 98 (by decide +kernel) rfl
theorem wd_612 : Jvm.Cond.classLink RX6 29 RX5 ∈ wsU := wsU_t 114 (by decide +kernel) rfl
theorem wd_613 : Jvm.Cond.classLink RX6 36 RX1 ∈ wsU := wsU_t 147 (by decide +kernel) rfl
theorem wd_614 : Jvm.Cond.classLink RX6 43 RX0 ∈ wsU := wsU_t 198 (by decide +kernel) rfl
theorem wd_615 : Jvm.Cond.code yX7_init cX7_init 1 none ∈ wsU := wsU_t 665 (by decide +kernel) rfl
theorem wd_616 : Jvm.Cond.instanceMethod yX7_init ∈ wsU := wsU_t 664 (by decide +kernel) rfl
theorem wd_617 : Jvm.Cond.instantiable RX7 42 ∈ wsU := wsU_t 662 (by decide +kernel) rfl
theorem wd_618 : Jvm.Cond.methodLink RX7 1 objectInit ∈ wsU := wsU_t 666 (by decide +kernel) rfl
theorem wd_619 : Jvm.Cond.instanceMethod objectInit ∈ wsU := wsU_t 17 (by decide +kernel) rfl
theorem wd_620 : Jvm.Cond.code objectInit ⟨#[0xb1]⟩ 1 none ∈ wsU := wsU_t 18 (by decide +kernel) rfl
theorem wd_621 : Jvm.Cond.arrayClass .int ∈ wsU := wsU_t 48 (by decide +kernel) rfl
theorem wd_622 : Jvm.Cond.arrayClass .boolean ∈ wsU := wsU_t 798 (by decide +kernel) rfl
theorem wd_623 : Jvm.Cond.code yX6_eggs cX6_eggs 3 (some .int) ∈ wsU := wsU_t 242 (by decide +kernel) rfl
theorem wd_624 : Jvm.Cond.instanceMethod yX6_eggs ∈ wsU := wsU_t 240 (by decide +kernel) rfl
theorem wd_625 : Jvm.Cond.selects RX6 yX6_eggs yX6_eggs ∈ wsU := wsU_t 241 (by decide +kernel) rfl
theorem wd_626 : Jvm.Cond.code yX6_egg cX6_egg 5 (some .int) ∈ wsU := wsU_t 249 (by decide +kernel) rfl
theorem wd_627 : Jvm.Cond.instanceMethod yX6_egg ∈ wsU := wsU_t 247 (by decide +kernel) rfl
theorem wd_628 : Jvm.Cond.selects RX6 yX6_egg yX6_egg ∈ wsU := wsU_t 248 (by decide +kernel) rfl
theorem wd_629 : Jvm.Cond.code yX6_stove cX6_stove 3 (some .int) ∈ wsU := wsU_t 272 (by decide +kernel) rfl
theorem wd_630 : Jvm.Cond.instanceMethod yX6_stove ∈ wsU := wsU_t 270 (by decide +kernel) rfl
theorem wd_631 : Jvm.Cond.selects RX6 yX6_stove yX6_stove ∈ wsU := wsU_t 271 (by decide +kernel) rfl
theorem wd_632 : Jvm.Cond.code yX6_say cX6_say 2 (some .int) ∈ wsU := wsU_t 286 (by decide +kernel) rfl
theorem wd_633 : Jvm.Cond.instanceMethod yX6_say ∈ wsU := wsU_t 284 (by decide +kernel) rfl
theorem wd_634 : Jvm.Cond.selects RX6 yX6_say yX6_say ∈ wsU := wsU_t 285 (by decide +kernel) rfl
theorem wd_635 : Jvm.Cond.code yX6_wipe cX6_wipe 2 (some .int) ∈ wsU := wsU_t 295 (by decide +kernel) rfl
theorem wd_636 : Jvm.Cond.instanceMethod yX6_wipe ∈ wsU := wsU_t 293 (by decide +kernel) rfl
theorem wd_637 : Jvm.Cond.selects RX6 yX6_wipe yX6_wipe ∈ wsU := wsU_t 294 (by decide +kernel) rfl
theorem wd_638 : Jvm.Cond.code yX6_fault cX6_fault 2 (some .int) ∈ wsU := wsU_t 299 (by decide +kernel) rfl
theorem wd_639 : Jvm.Cond.instanceMethod yX6_fault ∈ wsU := wsU_t 297 (by decide +kernel) rfl
theorem wd_640 : Jvm.Cond.selects RX6 yX6_fault yX6_fault ∈ wsU := wsU_t 298 (by decide +kernel) rfl
theorem wd_641 : Jvm.Cond.code yX6_order cX6_order 2 (some .int) ∈ wsU := wsU_t 330 (by decide +kernel) rfl
theorem wd_642 : Jvm.Cond.instanceMethod yX6_order ∈ wsU := wsU_t 328 (by decide +kernel) rfl
theorem wd_643 : Jvm.Cond.selects RX6 yX6_order yX6_order ∈ wsU := wsU_t 329 (by decide +kernel) rfl
theorem wd_644 : Jvm.Cond.code yX6_judge cX6_judge 3 (some .int) ∈ wsU := wsU_t 345 (by decide +kernel) rfl
theorem wd_645 : Jvm.Cond.instanceMethod yX6_judge ∈ wsU := wsU_t 343 (by decide +kernel) rfl
theorem wd_646 : Jvm.Cond.selects RX6 yX6_judge yX6_judge ∈ wsU := wsU_t 344 (by decide +kernel) rfl
theorem wd_647 : Jvm.Cond.code yX6_behind cX6_behind 4 (some .int) ∈ wsU := wsU_t 404 (by decide +kernel) rfl
theorem wd_648 : Jvm.Cond.instanceMethod yX6_behind ∈ wsU := wsU_t 402 (by decide +kernel) rfl
theorem wd_649 : Jvm.Cond.selects RX6 yX6_behind yX6_behind ∈ wsU := wsU_t 403 (by decide +kernel) rfl
theorem wd_650 : Jvm.Cond.code yX6_hatched cX6_hatched 3 (some .int) ∈ wsU := wsU_t 412 (by decide +kernel) rfl
theorem wd_651 : Jvm.Cond.instanceMethod yX6_hatched ∈ wsU := wsU_t 410 (by decide +kernel) rfl
theorem wd_652 : Jvm.Cond.selects RX6 yX6_hatched yX6_hatched ∈ wsU := wsU_t 411 (by decide +kernel) rfl
theorem wd_653 : Jvm.Cond.code yX6_stops cX6_stops 4 (some .int) ∈ wsU := wsU_t 417 (by decide +kernel) rfl
theorem wd_654 : Jvm.Cond.instanceMethod yX6_stops ∈ wsU := wsU_t 415 (by decide +kernel) rfl
theorem wd_655 : Jvm.Cond.selects RX6 yX6_stops yX6_stops ∈ wsU := wsU_t 416 (by decide +kernel) rfl
theorem wd_656 : Jvm.Cond.code yX6_done cX6_done 2 (some .int) ∈ wsU := wsU_t 429 (by decide +kernel) rfl
theorem wd_657 : Jvm.Cond.instanceMethod yX6_done ∈ wsU := wsU_t 427 (by decide +kernel) rfl
theorem wd_658 : Jvm.Cond.selects RX6 yX6_done yX6_done ∈ wsU := wsU_t 428 (by decide +kernel) rfl
theorem wd_659 : Jvm.Cond.code yX6_state cX6_state 3 (some .int) ∈ wsU := wsU_t 434 (by decide +kernel) rfl
theorem wd_660 : Jvm.Cond.instanceMethod yX6_state ∈ wsU := wsU_t 432 (by decide +kernel) rfl
theorem wd_661 : Jvm.Cond.selects RX6 yX6_state yX6_state ∈ wsU := wsU_t 433 (by decide +kernel) rfl
theorem wd_662 : Jvm.Cond.code yX6_clue cX6_clue 5 (some .int) ∈ wsU := wsU_t 438 (by decide +kernel) rfl
theorem wd_663 : Jvm.Cond.instanceMethod yX6_clue ∈ wsU := wsU_t 436 (by decide +kernel) rfl
theorem wd_664 : Jvm.Cond.selects RX6 yX6_clue yX6_clue ∈ wsU := wsU_t 437 (by decide +kernel) rfl
theorem wd_665 : Jvm.Cond.code yX6_seen cX6_seen 3 (some .int) ∈ wsU := wsU_t 447 (by decide +kernel) rfl
theorem wd_666 : Jvm.Cond.instanceMethod yX6_seen ∈ wsU := wsU_t 445 (by decide +kernel) rfl
theorem wd_667 : Jvm.Cond.selects RX6 yX6_seen yX6_seen ∈ wsU := wsU_t 446 (by decide +kernel) rfl
theorem wd_668 : Jvm.Cond.code yX6_forget cX6_forget 3 (some .int) ∈ wsU := wsU_t 455 (by decide +kernel) rfl
theorem wd_669 : Jvm.Cond.instanceMethod yX6_forget ∈ wsU := wsU_t 453 (by decide +kernel) rfl
theorem wd_670 : Jvm.Cond.selects RX6 yX6_forget yX6_forget ∈ wsU := wsU_t 454 (by decide +kernel) rfl
theorem wd_671 : Jvm.Cond.code yX6_fits cX6_fits 3 (some .int) ∈ wsU := wsU_t 459 (by decide +kernel) rfl
theorem wd_672 : Jvm.Cond.instanceMethod yX6_fits ∈ wsU := wsU_t 457 (by decide +kernel) rfl
theorem wd_673 : Jvm.Cond.selects RX6 yX6_fits yX6_fits ∈ wsU := wsU_t 458 (by decide +kernel) rfl
theorem wd_674 : Jvm.Cond.code yX6_places cX6_places 3 (some .int) ∈ wsU := wsU_t 535 (by decide +kernel) rfl
theorem wd_675 : Jvm.Cond.instanceMethod yX6_places ∈ wsU := wsU_t 533 (by decide +kernel) rfl
theorem wd_676 : Jvm.Cond.selects RX6 yX6_places yX6_places ∈ wsU := wsU_t 534 (by decide +kernel) rfl
theorem wd_677 : Jvm.Cond.code yX6_firsts cX6_firsts 2 (some .int) ∈ wsU := wsU_t 547 (by decide +kernel) rfl
theorem wd_678 : Jvm.Cond.instanceMethod yX6_firsts ∈ wsU := wsU_t 545 (by decide +kernel) rfl
theorem wd_679 : Jvm.Cond.selects RX6 yX6_firsts yX6_firsts ∈ wsU := wsU_t 546 (by decide +kernel) rfl
theorem wd_680 : Jvm.Cond.code yX6_certain cX6_certain 4 (some .int) ∈ wsU := wsU_t 555 (by decide +kernel) rfl
theorem wd_681 : Jvm.Cond.instanceMethod yX6_certain ∈ wsU := wsU_t 553 (by decide +kernel) rfl
theorem wd_682 : Jvm.Cond.selects RX6 yX6_certain yX6_certain ∈ wsU := wsU_t 554 (by decide +kernel) rfl
theorem wd_683 : Jvm.Cond.code yX6_ask cX6_ask 5 (some .int) ∈ wsU := wsU_t 559 (by decide +kernel) rfl
theorem wd_684 : Jvm.Cond.instanceMethod yX6_ask ∈ wsU := wsU_t 557 (by decide +kernel) rfl
theorem wd_685 : Jvm.Cond.selects RX6 yX6_ask yX6_ask ∈ wsU := wsU_t 558 (by decide +kernel) rfl
theorem wd_686 : Jvm.Cond.code yX6_mend cX6_mend 3 (some .int) ∈ wsU := wsU_t 567 (by decide +kernel) rfl
theorem wd_687 : Jvm.Cond.instanceMethod yX6_mend ∈ wsU := wsU_t 565 (by decide +kernel) rfl
theorem wd_688 : Jvm.Cond.selects RX6 yX6_mend yX6_mend ∈ wsU := wsU_t 566 (by decide +kernel) rfl
theorem wd_689 : Jvm.Cond.code yX6_soonest cX6_soonest 6 (some .int) ∈ wsU := wsU_t 576 (by decide +kernel) rfl
theorem wd_690 : Jvm.Cond.instanceMethod yX6_soonest ∈ wsU := wsU_t 574 (by decide +kernel) rfl
theorem wd_691 : Jvm.Cond.selects RX6 yX6_soonest yX6_soonest ∈ wsU := wsU_t 575 (by decide +kernel) rfl
theorem wd_692 : Jvm.Cond.code yX6_rests cX6_rests 6 (some .int) ∈ wsU := wsU_t 585 (by decide +kernel) rfl
theorem wd_693 : Jvm.Cond.instanceMethod yX6_rests ∈ wsU := wsU_t 583 (by decide +kernel) rfl
theorem wd_694 : Jvm.Cond.selects RX6 yX6_rests yX6_rests ∈ wsU := wsU_t 584 (by decide +kernel) rfl
theorem wd_695 : Jvm.Cond.code yX6_shapley cX6_shapley 7 (some .long) ∈ wsU := wsU_t 607 (by decide +kernel) rfl
theorem wd_696 : Jvm.Cond.instanceMethod yX6_shapley ∈ wsU := wsU_t 605 (by decide +kernel) rfl
theorem wd_697 : Jvm.Cond.selects RX6 yX6_shapley yX6_shapley ∈ wsU := wsU_t 606 (by decide +kernel) rfl
theorem wd_698 : Jvm.Cond.code yX6_hope cX6_hope 13 (some .long) ∈ wsU := wsU_t 626 (by decide +kernel) rfl
theorem wd_699 : Jvm.Cond.instanceMethod yX6_hope ∈ wsU := wsU_t 624 (by decide +kernel) rfl
theorem wd_700 : Jvm.Cond.selects RX6 yX6_hope yX6_hope ∈ wsU := wsU_t 625 (by decide +kernel) rfl
theorem wd_701 : Jvm.Cond.code yX6_year cX6_year 10 (some .int) ∈ wsU := wsU_t 636 (by decide +kernel) rfl
theorem wd_702 : Jvm.Cond.instanceMethod yX6_year ∈ wsU := wsU_t 634 (by decide +kernel) rfl
theorem wd_703 : Jvm.Cond.selects RX6 yX6_year yX6_year ∈ wsU := wsU_t 635 (by decide +kernel) rfl
theorem wd_704 : Jvm.Cond.code yX6_image cX6_image 3 (some .int) ∈ wsU := wsU_t 642 (by decide +kernel) rfl
theorem wd_705 : Jvm.Cond.instanceMethod yX6_image ∈ wsU := wsU_t 640 (by decide +kernel) rfl
theorem wd_706 : Jvm.Cond.selects RX6 yX6_image yX6_image ∈ wsU := wsU_t 641 (by decide +kernel) rfl
theorem wd_707 : Jvm.Cond.code yX6_restore cX6_restore 3 (some .int) ∈ wsU := wsU_t 656 (by decide +kernel) rfl
theorem wd_708 : Jvm.Cond.instanceMethod yX6_restore ∈ wsU := wsU_t 654 (by decide +kernel) rfl
theorem wd_709 : Jvm.Cond.selects RX6 yX6_restore yX6_restore ∈ wsU := wsU_t 655 (by decide +kernel) rfl
theorem wd_710 : Jvm.Cond.code yX6_told cX6_told 4 (some .int) ∈ wsU := wsU_t 660 (by decide +kernel) rfl
theorem wd_711 : Jvm.Cond.instanceMethod yX6_told ∈ wsU := wsU_t 658 (by decide +kernel) rfl
theorem wd_712 : Jvm.Cond.selects RX6 yX6_told yX6_told ∈ wsU := wsU_t 659 (by decide +kernel) rfl
theorem wd_713 : Jvm.Cond.code yX7_eggs cX7_eggs 3 (some .int) ∈ wsU := wsU_t 802 (by decide +kernel) rfl
theorem wd_714 : Jvm.Cond.instanceMethod yX7_eggs ∈ wsU := wsU_t 800 (by decide +kernel) rfl
theorem wd_715 : Jvm.Cond.selects RX7 yX7_eggs yX7_eggs ∈ wsU := wsU_t 801 (by decide +kernel) rfl
theorem wd_716 : Jvm.Cond.code yX7_egg cX7_egg 5 (some .int) ∈ wsU := wsU_t 810 (by decide +kernel) rfl
theorem wd_717 : Jvm.Cond.instanceMethod yX7_egg ∈ wsU := wsU_t 808 (by decide +kernel) rfl
theorem wd_718 : Jvm.Cond.selects RX7 yX7_egg yX7_egg ∈ wsU := wsU_t 809 (by decide +kernel) rfl
theorem wd_719 : Jvm.Cond.code yX7_stove cX7_stove 3 (some .int) ∈ wsU := wsU_t 822 (by decide +kernel) rfl
theorem wd_720 : Jvm.Cond.instanceMethod yX7_stove ∈ wsU := wsU_t 820 (by decide +kernel) rfl
theorem wd_721 : Jvm.Cond.selects RX7 yX7_stove yX7_stove ∈ wsU := wsU_t 821 (by decide +kernel) rfl
theorem wd_722 : Jvm.Cond.code yX7_say cX7_say 2 (some .int) ∈ wsU := wsU_t 830 (by decide +kernel) rfl
theorem wd_723 : Jvm.Cond.instanceMethod yX7_say ∈ wsU := wsU_t 828 (by decide +kernel) rfl
theorem wd_724 : Jvm.Cond.selects RX7 yX7_say yX7_say ∈ wsU := wsU_t 829 (by decide +kernel) rfl
theorem wd_725 : Jvm.Cond.code yX7_wipe cX7_wipe 2 (some .int) ∈ wsU := wsU_t 836 (by decide +kernel) rfl
theorem wd_726 : Jvm.Cond.instanceMethod yX7_wipe ∈ wsU := wsU_t 834 (by decide +kernel) rfl
theorem wd_727 : Jvm.Cond.selects RX7 yX7_wipe yX7_wipe ∈ wsU := wsU_t 835 (by decide +kernel) rfl
theorem wd_728 : Jvm.Cond.code yX7_fault cX7_fault 2 (some .int) ∈ wsU := wsU_t 840 (by decide +kernel) rfl
theorem wd_729 : Jvm.Cond.instanceMethod yX7_fault ∈ wsU := wsU_t 838 (by decide +kernel) rfl
theorem wd_730 : Jvm.Cond.selects RX7 yX7_fault yX7_fault ∈ wsU := wsU_t 839 (by decide +kernel) rfl
theorem wd_731 : Jvm.Cond.code yX7_order cX7_order 2 (some .int) ∈ wsU := wsU_t 852 (by decide +kernel) rfl
theorem wd_732 : Jvm.Cond.instanceMethod yX7_order ∈ wsU := wsU_t 850 (by decide +kernel) rfl
theorem wd_733 : Jvm.Cond.selects RX7 yX7_order yX7_order ∈ wsU := wsU_t 851 (by decide +kernel) rfl
theorem wd_734 : Jvm.Cond.code yX7_judge cX7_judge 3 (some .int) ∈ wsU := wsU_t 860 (by decide +kernel) rfl
theorem wd_735 : Jvm.Cond.instanceMethod yX7_judge ∈ wsU := wsU_t 858 (by decide +kernel) rfl
theorem wd_736 : Jvm.Cond.selects RX7 yX7_judge yX7_judge ∈ wsU := wsU_t 859 (by decide +kernel) rfl
theorem wd_737 : Jvm.Cond.code yX7_behind cX7_behind 4 (some .int) ∈ wsU := wsU_t 904 (by decide +kernel) rfl
theorem wd_738 : Jvm.Cond.instanceMethod yX7_behind ∈ wsU := wsU_t 902 (by decide +kernel) rfl
theorem wd_739 : Jvm.Cond.selects RX7 yX7_behind yX7_behind ∈ wsU := wsU_t 903 (by decide +kernel) rfl
theorem wd_740 : Jvm.Cond.code yX7_hatched cX7_hatched 3 (some .int) ∈ wsU := wsU_t 909 (by decide +kernel) rfl
theorem wd_741 : Jvm.Cond.instanceMethod yX7_hatched ∈ wsU := wsU_t 907 (by decide +kernel) rfl
theorem wd_742 : Jvm.Cond.selects RX7 yX7_hatched yX7_hatched ∈ wsU := wsU_t 908 (by decide +kernel) rfl
theorem wd_743 : Jvm.Cond.code yX7_stops cX7_stops 3 (some .int) ∈ wsU := wsU_t 913 (by decide +kernel) rfl
theorem wd_744 : Jvm.Cond.instanceMethod yX7_stops ∈ wsU := wsU_t 911 (by decide +kernel) rfl
theorem wd_745 : Jvm.Cond.selects RX7 yX7_stops yX7_stops ∈ wsU := wsU_t 912 (by decide +kernel) rfl
theorem wd_746 : Jvm.Cond.code yX7_done cX7_done 2 (some .int) ∈ wsU := wsU_t 917 (by decide +kernel) rfl
theorem wd_747 : Jvm.Cond.instanceMethod yX7_done ∈ wsU := wsU_t 915 (by decide +kernel) rfl
theorem wd_748 : Jvm.Cond.selects RX7 yX7_done yX7_done ∈ wsU := wsU_t 916 (by decide +kernel) rfl
theorem wd_749 : Jvm.Cond.code yX7_state cX7_state 3 (some .int) ∈ wsU := wsU_t 921 (by decide +kernel) rfl
theorem wd_750 : Jvm.Cond.instanceMethod yX7_state ∈ wsU := wsU_t 919 (by decide +kernel) rfl
theorem wd_751 : Jvm.Cond.selects RX7 yX7_state yX7_state ∈ wsU := wsU_t 920 (by decide +kernel) rfl
theorem wd_752 : Jvm.Cond.code yX7_clue cX7_clue 4 (some .int) ∈ wsU := wsU_t 925 (by decide +kernel) rfl
theorem wd_753 : Jvm.Cond.instanceMethod yX7_clue ∈ wsU := wsU_t 923 (by decide +kernel) rfl
theorem wd_754 : Jvm.Cond.selects RX7 yX7_clue yX7_clue ∈ wsU := wsU_t 924 (by decide +kernel) rfl
theorem wd_755 : Jvm.Cond.code yX7_seen cX7_seen 3 (some .int) ∈ wsU := wsU_t 929 (by decide +kernel) rfl
theorem wd_756 : Jvm.Cond.instanceMethod yX7_seen ∈ wsU := wsU_t 927 (by decide +kernel) rfl
theorem wd_757 : Jvm.Cond.selects RX7 yX7_seen yX7_seen ∈ wsU := wsU_t 928 (by decide +kernel) rfl
theorem wd_758 : Jvm.Cond.code yX7_forget cX7_forget 3 (some .int) ∈ wsU := wsU_t 934 (by decide +kernel) rfl
theorem wd_759 : Jvm.Cond.instanceMethod yX7_forget ∈ wsU := wsU_t 932 (by decide +kernel) rfl
theorem wd_760 : Jvm.Cond.selects RX7 yX7_forget yX7_forget ∈ wsU := wsU_t 933 (by decide +kernel) rfl
theorem wd_761 : Jvm.Cond.code yX7_fits cX7_fits 3 (some .int) ∈ wsU := wsU_t 938 (by decide +kernel) rfl
theorem wd_762 : Jvm.Cond.instanceMethod yX7_fits ∈ wsU := wsU_t 936 (by decide +kernel) rfl
theorem wd_763 : Jvm.Cond.selects RX7 yX7_fits yX7_fits ∈ wsU := wsU_t 937 (by decide +kernel) rfl
theorem wd_764 : Jvm.Cond.code yX7_places cX7_places 5 (some .int) ∈ wsU := wsU_t 966 (by decide +kernel) rfl
theorem wd_765 : Jvm.Cond.instanceMethod yX7_places ∈ wsU := wsU_t 964 (by decide +kernel) rfl
theorem wd_766 : Jvm.Cond.selects RX7 yX7_places yX7_places ∈ wsU := wsU_t 965 (by decide +kernel) rfl
theorem wd_767 : Jvm.Cond.code yX7_firsts cX7_firsts 4 (some .int) ∈ wsU := wsU_t 970 (by decide +kernel) rfl
theorem wd_768 : Jvm.Cond.instanceMethod yX7_firsts ∈ wsU := wsU_t 968 (by decide +kernel) rfl
theorem wd_769 : Jvm.Cond.selects RX7 yX7_firsts yX7_firsts ∈ wsU := wsU_t 969 (by decide +kernel) rfl
theorem wd_770 : Jvm.Cond.code yX7_certain cX7_certain 5 (some .int) ∈ wsU := wsU_t 974 (by decide +kernel) rfl
theorem wd_771 : Jvm.Cond.instanceMethod yX7_certain ∈ wsU := wsU_t 972 (by decide +kernel) rfl
theorem wd_772 : Jvm.Cond.selects RX7 yX7_certain yX7_certain ∈ wsU := wsU_t 973 (by decide +kernel) rfl
theorem wd_773 : Jvm.Cond.code yX7_ask cX7_ask 5 (some .int) ∈ wsU := wsU_t 978 (by decide +kernel) rfl
theorem wd_774 : Jvm.Cond.instanceMethod yX7_ask ∈ wsU := wsU_t 976 (by decide +kernel) rfl
theorem wd_775 : Jvm.Cond.selects RX7 yX7_ask yX7_ask ∈ wsU := wsU_t 977 (by decide +kernel) rfl
theorem wd_776 : Jvm.Cond.code yX7_mend cX7_mend 6 (some .int) ∈ wsU := wsU_t 986 (by decide +kernel) rfl
theorem wd_777 : Jvm.Cond.instanceMethod yX7_mend ∈ wsU := wsU_t 984 (by decide +kernel) rfl
theorem wd_778 : Jvm.Cond.selects RX7 yX7_mend yX7_mend ∈ wsU := wsU_t 985 (by decide +kernel) rfl
theorem wd_779 : Jvm.Cond.code yX7_soonest cX7_soonest 8 (some .int) ∈ wsU := wsU_t 993 (by decide +kernel) rfl
theorem wd_780 : Jvm.Cond.instanceMethod yX7_soonest ∈ wsU := wsU_t 991 (by decide +kernel) rfl
theorem wd_781 : Jvm.Cond.selects RX7 yX7_soonest yX7_soonest ∈ wsU := wsU_t 992 (by decide +kernel) rfl
theorem wd_782 : Jvm.Cond.code yX7_rests cX7_rests 6 (some .int) ∈ wsU := wsU_t 998 (by decide +kernel) rfl
theorem wd_783 : Jvm.Cond.instanceMethod yX7_rests ∈ wsU := wsU_t 996 (by decide +kernel) rfl
theorem wd_784 : Jvm.Cond.selects RX7 yX7_rests yX7_rests ∈ wsU := wsU_t 997 (by decide +kernel) rfl
theorem wd_785 : Jvm.Cond.code yX7_shapley cX7_shapley 7 (some .long) ∈ wsU := wsU_t 1019 (by decide +kernel) rfl
theorem wd_786 : Jvm.Cond.instanceMethod yX7_shapley ∈ wsU := wsU_t 1017 (by decide +kernel) rfl
theorem wd_787 : Jvm.Cond.selects RX7 yX7_shapley yX7_shapley ∈ wsU := wsU_t 1018 (by decide +kernel) rfl
theorem wd_788 : Jvm.Cond.code yX7_hope cX7_hope 11 (some .long) ∈ wsU := wsU_t 1032 (by decide +kernel) rfl
theorem wd_789 : Jvm.Cond.instanceMethod yX7_hope ∈ wsU := wsU_t 1030 (by decide +kernel) rfl
theorem wd_790 : Jvm.Cond.selects RX7 yX7_hope yX7_hope ∈ wsU := wsU_t 1031 (by decide +kernel) rfl
theorem wd_791 : Jvm.Cond.code yX7_year cX7_year 9 (some .int) ∈ wsU := wsU_t 1040 (by decide +kernel) rfl
theorem wd_792 : Jvm.Cond.instanceMethod yX7_year ∈ wsU := wsU_t 1038 (by decide +kernel) rfl
theorem wd_793 : Jvm.Cond.selects RX7 yX7_year yX7_year ∈ wsU := wsU_t 1039 (by decide +kernel) rfl
theorem wd_794 : Jvm.Cond.code yX7_image cX7_image 2 (some .int) ∈ wsU := wsU_t 1048 (by decide +kernel) rfl
theorem wd_795 : Jvm.Cond.instanceMethod yX7_image ∈ wsU := wsU_t 1046 (by decide +kernel) rfl
theorem wd_796 : Jvm.Cond.selects RX7 yX7_image yX7_image ∈ wsU := wsU_t 1047 (by decide +kernel) rfl
theorem wd_797 : Jvm.Cond.code yX7_restore cX7_restore 2 (some .int) ∈ wsU := wsU_t 1060 (by decide +kernel) rfl
theorem wd_798 : Jvm.Cond.instanceMethod yX7_restore ∈ wsU := wsU_t 1058 (by decide +kernel) rfl
theorem wd_799 : Jvm.Cond.selects RX7 yX7_restore yX7_restore ∈ wsU := wsU_t 1059 (by decide +kernel) rfl
theorem wd_800 : Jvm.Cond.code yX7_told cX7_told 2 (some .int) ∈ wsU := wsU_t 1064 (by decide +kernel) rfl
theorem wd_801 : Jvm.Cond.instanceMethod yX7_told ∈ wsU := wsU_t 1062 (by decide +kernel) rfl
theorem wd_802 : Jvm.Cond.selects RX7 yX7_told yX7_told ∈ wsU := wsU_t 1063 (by decide +kernel) rfl
theorem wd_803 : Jvm.Cond.code yJ9_max_7cf53 cJ9_max_7cf53 2 (some .int) ∈ wsU := wsU_t 209 (by decide +kernel) rfl
theorem wd_804 : Jvm.Cond.code yJ9_min_7cf53 cJ9_min_7cf53 2 (some .int) ∈ wsU := wsU_t 206 (by decide +kernel) rfl
theorem wd_805 : Jvm.Cond.classLink RL 7 RX6 ∈ wsU := wsU_t 11 (by decide +kernel) rfl
theorem wd_806 : Jvm.Cond.methodLink RL 9 yX6_init ∈ wsU := wsU_t 13 (by decide +kernel) rfl
theorem wd_807 : Jvm.Cond.classLink RL 10 RX7 ∈ wsU := wsU_t 661 (by decide +kernel) rfl
theorem wd_808 : Jvm.Cond.methodLink RL 12 yX7_init ∈ wsU := wsU_t 663 (by decide +kernel) rfl
theorem wd_809 : Jvm.Cond.methodLink RL 13 yX6_eggs ∈ wsU := wsU_t 239 (by decide +kernel) rfl
theorem wd_810 : Jvm.Cond.methodLink RL 17 yX7_eggs ∈ wsU := wsU_t 799 (by decide +kernel) rfl
theorem wd_811 : Jvm.Cond.methodLink RL 18 yX6_egg ∈ wsU := wsU_t 246 (by decide +kernel) rfl
theorem wd_812 : Jvm.Cond.methodLink RL 22 yX7_egg ∈ wsU := wsU_t 807 (by decide +kernel) rfl
theorem wd_813 : Jvm.Cond.methodLink RL 23 yX6_stove ∈ wsU := wsU_t 269 (by decide +kernel) rfl
theorem wd_814 : Jvm.Cond.methodLink RL 27 yX7_stove ∈ wsU := wsU_t 819 (by decide +kernel) rfl
theorem wd_815 : Jvm.Cond.methodLink RL 28 yX6_say ∈ wsU := wsU_t 283 (by decide +kernel) rfl
theorem wd_816 : Jvm.Cond.methodLink RL 31 yX7_say ∈ wsU := wsU_t 827 (by decide +kernel) rfl
theorem wd_817 : Jvm.Cond.methodLink RL 32 yX6_wipe ∈ wsU := wsU_t 292 (by decide +kernel) rfl
theorem wd_818 : Jvm.Cond.methodLink RL 36 yX7_wipe ∈ wsU := wsU_t 833 (by decide +kernel) rfl
theorem wd_819 : Jvm.Cond.methodLink RL 37 yX6_fault ∈ wsU := wsU_t 296 (by decide +kernel) rfl
theorem wd_820 : Jvm.Cond.methodLink RL 40 yX7_fault ∈ wsU := wsU_t 837 (by decide +kernel) rfl
theorem wd_821 : Jvm.Cond.methodLink RL 41 yX6_order ∈ wsU := wsU_t 327 (by decide +kernel) rfl
theorem wd_822 : Jvm.Cond.methodLink RL 44 yX7_order ∈ wsU := wsU_t 849 (by decide +kernel) rfl
theorem wd_823 : Jvm.Cond.methodLink RL 45 yX6_judge ∈ wsU := wsU_t 342 (by decide +kernel) rfl
theorem wd_824 : Jvm.Cond.methodLink RL 48 yX7_judge ∈ wsU := wsU_t 857 (by decide +kernel) rfl
theorem wd_825 : Jvm.Cond.methodLink RL 49 yX6_behind ∈ wsU := wsU_t 401 (by decide +kernel) rfl
theorem wd_826 : Jvm.Cond.methodLink RL 53 yX7_behind ∈ wsU := wsU_t 901 (by decide +kernel) rfl
theorem wd_827 : Jvm.Cond.methodLink RL 54 yX6_hatched ∈ wsU := wsU_t 409 (by decide +kernel) rfl
theorem wd_828 : Jvm.Cond.methodLink RL 57 yX7_hatched ∈ wsU := wsU_t 906 (by decide +kernel) rfl
theorem wd_829 : Jvm.Cond.methodLink RL 58 yX6_stops ∈ wsU := wsU_t 414 (by decide +kernel) rfl
theorem wd_830 : Jvm.Cond.methodLink RL 61 yX7_stops ∈ wsU := wsU_t 910 (by decide +kernel) rfl
theorem wd_831 : Jvm.Cond.methodLink RL 62 yX6_done ∈ wsU := wsU_t 426 (by decide +kernel) rfl
theorem wd_832 : Jvm.Cond.methodLink RL 65 yX7_done ∈ wsU := wsU_t 914 (by decide +kernel) rfl
theorem wd_833 : Jvm.Cond.methodLink RL 66 yX6_state ∈ wsU := wsU_t 431 (by decide +kernel) rfl
theorem wd_834 : Jvm.Cond.methodLink RL 69 yX7_state ∈ wsU := wsU_t 918 (by decide +kernel) rfl
theorem wd_835 : Jvm.Cond.methodLink RL 70 yX6_clue ∈ wsU := wsU_t 435 (by decide +kernel) rfl
theorem wd_836 : Jvm.Cond.methodLink RL 73 yX7_clue ∈ wsU := wsU_t 922 (by decide +kernel) rfl
theorem wd_837 : Jvm.Cond.methodLink RL 74 yX6_seen ∈ wsU := wsU_t 444 (by decide +kernel) rfl
theorem wd_838 : Jvm.Cond.methodLink RL 77 yX7_seen ∈ wsU := wsU_t 926 (by decide +kernel) rfl
theorem wd_839 : Jvm.Cond.methodLink RL 78 yX6_forget ∈ wsU := wsU_t 452 (by decide +kernel) rfl
theorem wd_840 : Jvm.Cond.methodLink RL 81 yX7_forget ∈ wsU := wsU_t 931 (by decide +kernel) rfl
theorem wd_841 : Jvm.Cond.methodLink RL 82 yX6_fits ∈ wsU := wsU_t 456 (by decide +kernel) rfl
theorem wd_842 : Jvm.Cond.methodLink RL 85 yX7_fits ∈ wsU := wsU_t 935 (by decide +kernel) rfl
theorem wd_843 : Jvm.Cond.methodLink RL 86 yX6_places ∈ wsU := wsU_t 532 (by decide +kernel) rfl
theorem wd_844 : Jvm.Cond.methodLink RL 89 yX7_places ∈ wsU := wsU_t 963 (by decide +kernel) rfl
theorem wd_845 : Jvm.Cond.methodLink RL 90 yX6_firsts ∈ wsU := wsU_t 544 (by decide +kernel) rfl
theorem wd_846 : Jvm.Cond.methodLink RL 93 yX7_firsts ∈ wsU := wsU_t 967 (by decide +kernel) rfl
theorem wd_847 : Jvm.Cond.methodLink RL 94 yX6_certain ∈ wsU := wsU_t 552 (by decide +kernel) rfl
theorem wd_848 : Jvm.Cond.methodLink RL 97 yX7_certain ∈ wsU := wsU_t 971 (by decide +kernel) rfl
theorem wd_849 : Jvm.Cond.methodLink RL 98 yX6_ask ∈ wsU := wsU_t 556 (by decide +kernel) rfl
theorem wd_850 : Jvm.Cond.methodLink RL 101 yX7_ask ∈ wsU := wsU_t 975 (by decide +kernel) rfl
theorem wd_851 : Jvm.Cond.methodLink RL 102 yX6_mend ∈ wsU := wsU_t 564 (by decide +kernel) rfl
theorem wd_852 : Jvm.Cond.methodLink RL 105 yX7_mend ∈ wsU := wsU_t 983 (by decide +kernel) rfl
theorem wd_853 : Jvm.Cond.methodLink RL 106 yX6_soonest ∈ wsU := wsU_t 573 (by decide +kernel) rfl
theorem wd_854 : Jvm.Cond.methodLink RL 109 yX7_soonest ∈ wsU := wsU_t 990 (by decide +kernel) rfl
theorem wd_855 : Jvm.Cond.methodLink RL 110 yX6_rests ∈ wsU := wsU_t 582 (by decide +kernel) rfl
theorem wd_856 : Jvm.Cond.methodLink RL 113 yX7_rests ∈ wsU := wsU_t 995 (by decide +kernel) rfl
theorem wd_857 : Jvm.Cond.methodLink RL 114 yX6_shapley ∈ wsU := wsU_t 604 (by decide +kernel) rfl
theorem wd_858 : Jvm.Cond.methodLink RL 118 yX7_shapley ∈ wsU := wsU_t 1016 (by decide +kernel) rfl
theorem wd_859 : Jvm.Cond.methodLink RL 119 yX6_hope ∈ wsU := wsU_t 623 (by decide +kernel) rfl
theorem wd_860 : Jvm.Cond.methodLink RL 123 yX7_hope ∈ wsU := wsU_t 1029 (by decide +kernel) rfl
theorem wd_861 : Jvm.Cond.methodLink RL 124 yX6_year ∈ wsU := wsU_t 633 (by decide +kernel) rfl
theorem wd_862 : Jvm.Cond.methodLink RL 127 yX7_year ∈ wsU := wsU_t 1037 (by decide +kernel) rfl
theorem wd_863 : Jvm.Cond.methodLink RL 128 yX6_image ∈ wsU := wsU_t 639 (by decide +kernel) rfl
theorem wd_864 : Jvm.Cond.methodLink RL 131 yX7_image ∈ wsU := wsU_t 1045 (by decide +kernel) rfl
theorem wd_865 : Jvm.Cond.methodLink RL 132 yX6_restore ∈ wsU := wsU_t 653 (by decide +kernel) rfl
theorem wd_866 : Jvm.Cond.methodLink RL 135 yX7_restore ∈ wsU := wsU_t 1057 (by decide +kernel) rfl
theorem wd_867 : Jvm.Cond.methodLink RL 136 yX6_told ∈ wsU := wsU_t 657 (by decide +kernel) rfl
theorem wd_868 : Jvm.Cond.methodLink RL 139 yX7_told ∈ wsU := wsU_t 1061 (by decide +kernel) rfl
set_option maxRecDepth 20000 in
theorem inUX0 : ∀ w ∈ wsX00, w ∈ wsU := List.forall_mem_cons.mpr ⟨wd_494, List.forall_mem_cons.mpr ⟨wd_495, List.forall_mem_cons.mpr ⟨wd_496, List.forall_mem_cons.mpr ⟨wd_497, fun _ h => absurd h List.not_mem_nil⟩⟩⟩⟩
set_option maxRecDepth 20000 in
theorem inUX1 : ∀ w ∈ wsX10, w ∈ wsU := List.forall_mem_cons.mpr ⟨wd_498, List.forall_mem_cons.mpr ⟨wd_499, List.forall_mem_cons.mpr ⟨wd_500, List.forall_mem_cons.mpr ⟨wd_501, List.forall_mem_cons.mpr ⟨wd_502, List.forall_mem_cons.mpr ⟨wd_503, List.forall_mem_cons.mpr ⟨wd_504, List.forall_mem_cons.mpr ⟨wd_505, List.forall_mem_cons.mpr ⟨wd_506, List.forall_mem_cons.mpr ⟨wd_507, List.forall_mem_cons.mpr ⟨wd_508, List.forall_mem_cons.mpr ⟨wd_509, List.forall_mem_cons.mpr ⟨wd_510, fun _ h => absurd h List.not_mem_nil⟩⟩⟩⟩⟩⟩⟩⟩⟩⟩⟩⟩⟩
set_option maxRecDepth 20000 in
theorem inUX2 : ∀ w ∈ wsX20, w ∈ wsU := List.forall_mem_cons.mpr ⟨wd_511, List.forall_mem_cons.mpr ⟨wd_512, List.forall_mem_cons.mpr ⟨wd_513, List.forall_mem_cons.mpr ⟨wd_514, List.forall_mem_cons.mpr ⟨wd_515, List.forall_mem_cons.mpr ⟨wd_516, List.forall_mem_cons.mpr ⟨wd_517, fun _ h => absurd h List.not_mem_nil⟩⟩⟩⟩⟩⟩⟩
set_option maxRecDepth 20000 in
theorem inUX3 : ∀ w ∈ wsX30, w ∈ wsU := List.forall_mem_cons.mpr ⟨wd_518, List.forall_mem_cons.mpr ⟨wd_519, fun _ h => absurd h List.not_mem_nil⟩⟩
set_option maxRecDepth 20000 in
theorem inUX4 : ∀ w ∈ wsX40, w ∈ wsU := List.forall_mem_cons.mpr ⟨wd_520, List.forall_mem_cons.mpr ⟨wd_521, List.forall_mem_cons.mpr ⟨wd_522, fun _ h => absurd h List.not_mem_nil⟩⟩⟩
set_option maxRecDepth 20000 in
theorem inUX5 : ∀ w ∈ wsX50, w ∈ wsU := List.forall_mem_cons.mpr ⟨wd_523, List.forall_mem_cons.mpr ⟨wd_524, List.forall_mem_cons.mpr ⟨wd_525, List.forall_mem_cons.mpr ⟨wd_526, List.forall_mem_cons.mpr ⟨wd_527, List.forall_mem_cons.mpr ⟨wd_528, fun _ h => absurd h List.not_mem_nil⟩⟩⟩⟩⟩⟩
set_option maxRecDepth 20000 in
theorem inUX6 : ∀ w ∈ wsX60, w ∈ wsU := List.forall_mem_cons.mpr ⟨wd_529, List.forall_mem_cons.mpr ⟨wd_530, List.forall_mem_cons.mpr ⟨wd_531, List.forall_mem_cons.mpr ⟨wd_532, List.forall_mem_cons.mpr ⟨wd_533, List.forall_mem_cons.mpr ⟨wd_534, List.forall_mem_cons.mpr ⟨wd_535, fun _ h => absurd h List.not_mem_nil⟩⟩⟩⟩⟩⟩⟩
set_option maxRecDepth 20000 in
theorem inUX7 : ∀ w ∈ wsX70, w ∈ wsU := List.forall_mem_cons.mpr ⟨wd_536, List.forall_mem_cons.mpr ⟨wd_537, List.forall_mem_cons.mpr ⟨wd_538, List.forall_mem_cons.mpr ⟨wd_539, List.forall_mem_cons.mpr ⟨wd_540, List.forall_mem_cons.mpr ⟨wd_541, List.forall_mem_cons.mpr ⟨wd_542, List.forall_mem_cons.mpr ⟨wd_543, List.forall_mem_cons.mpr ⟨wd_544, List.forall_mem_cons.mpr ⟨wd_545, List.forall_mem_cons.mpr ⟨wd_546, List.forall_mem_cons.mpr ⟨wd_547, List.forall_mem_cons.mpr ⟨wd_548, List.forall_mem_cons.mpr ⟨wd_549, List.forall_mem_cons.mpr ⟨wd_550, List.forall_mem_cons.mpr ⟨wd_551, List.forall_mem_cons.mpr ⟨wd_552, List.forall_mem_cons.mpr ⟨wd_553, List.forall_mem_cons.mpr ⟨wd_554, List.forall_mem_cons.mpr ⟨wd_555, List.forall_mem_cons.mpr ⟨wd_556, List.forall_mem_cons.mpr ⟨wd_557, List.forall_mem_cons.mpr ⟨wd_558, List.forall_mem_cons.mpr ⟨wd_559, List.forall_mem_cons.mpr ⟨wd_560, List.forall_mem_cons.mpr ⟨wd_561, List.forall_mem_cons.mpr ⟨wd_562, List.forall_mem_cons.mpr ⟨wd_563, List.forall_mem_cons.mpr ⟨wd_564, List.forall_mem_cons.mpr ⟨wd_565, List.forall_mem_cons.mpr ⟨wd_566, List.forall_mem_cons.mpr ⟨wd_567, List.forall_mem_cons.mpr ⟨wd_568, List.forall_mem_cons.mpr ⟨wd_569, List.forall_mem_cons.mpr ⟨wd_570, List.forall_mem_cons.mpr ⟨wd_571, List.forall_mem_cons.mpr ⟨wd_572, List.forall_mem_cons.mpr ⟨wd_573, List.forall_mem_cons.mpr ⟨wd_574, List.forall_mem_cons.mpr ⟨wd_575, List.forall_mem_cons.mpr ⟨wd_576, List.forall_mem_cons.mpr ⟨wd_577, fun _ h => absurd h List.not_mem_nil⟩⟩⟩⟩⟩⟩⟩⟩⟩⟩⟩⟩⟩⟩⟩⟩⟩⟩⟩⟩⟩⟩⟩⟩⟩⟩⟩⟩⟩⟩⟩⟩⟩⟩⟩⟩⟩⟩⟩⟩⟩⟩
abbrev us_X6_put : List Jvm.Cond := .code yX6_put cX6_put 3 none :: wsU
abbrev us_X0_setFact : List Jvm.Cond := .code yX0_setFact cX0_setFact 4 none :: wsU
abbrev us_X0_startWith : List Jvm.Cond := .code yX0_startWith cX0_startWith 3 none :: wsU
abbrev us_X6_copyRow : List Jvm.Cond := .code yX6_copyRow cX6_copyRow 3 none :: wsU
abbrev us_X0_copyFrom : List Jvm.Cond := .code yX0_copyFrom cX0_copyFrom 2 none :: wsU
abbrev us_X0_has : List Jvm.Cond := .code yX0_has cX0_has 2 (some .boolean) :: wsU
abbrev us_X6_at : List Jvm.Cond := .code yX6_at cX6_at 2 (some .int) :: wsU
abbrev us_X0_fact : List Jvm.Cond := .code yX0_fact cX0_fact 3 (some .int) :: wsU
abbrev us_X0_condition : List Jvm.Cond := .code yX0_condition cX0_condition 3 (some .int) :: wsU
abbrev us_X0_isWhole : List Jvm.Cond := .code yX0_isWhole cX0_isWhole 2 (some .boolean) :: wsU
abbrev us_X0_isWarmEnough : List Jvm.Cond := .code yX0_isWarmEnough cX0_isWarmEnough 2 (some .boolean) :: wsU
abbrev us_X0_countWhole : List Jvm.Cond := .code yX0_countWhole cX0_countWhole 3 (some .int) :: wsU
abbrev us_X0_areAllWhole : List Jvm.Cond := .code yX0_areAllWhole cX0_areAllWhole 1 (some .boolean) :: wsU
abbrev us_X6_bit : List Jvm.Cond := .code yX6_bit cX6_bit 1 (some .int) :: wsU
abbrev us_X0_turnStove : List Jvm.Cond := .code yX0_turnStove cX0_turnStove 2 none :: wsU
abbrev us_X6_hasBit : List Jvm.Cond := .code yX6_hasBit cX6_hasBit 2 (some .boolean) :: wsU
abbrev us_X0_warm : List Jvm.Cond := .code yX0_warm cX0_warm 3 none :: wsU
abbrev us_X0_hatchingIfHeated : List Jvm.Cond := .code yX0_hatchingIfHeated cX0_hatchingIfHeated 7 (some .int) :: wsU
abbrev us_X0_passHour : List Jvm.Cond := .code yX0_passHour cX0_passHour 3 (some .int) :: wsU
abbrev us_X0_worthOf : List Jvm.Cond := .code yX0_worthOf cX0_worthOf 5 (some .int) :: wsU
abbrev us_X0_stopPlace : List Jvm.Cond := .code yX0_stopPlace cX0_stopPlace 2 (some .int) :: wsU
abbrev us_X0_warmBehind : List Jvm.Cond := .code yX0_warmBehind cX0_warmBehind 5 (some .int) :: wsU
abbrev us_X0_eatenAheadOfWhole : List Jvm.Cond := .code yX0_eatenAheadOfWhole cX0_eatenAheadOfWhole 5 (some .int) :: wsU
abbrev us_X0_countWholeAheadOfEaten : List Jvm.Cond := .code yX0_countWholeAheadOfEaten cX0_countWholeAheadOfEaten 4 (some .int) :: wsU
abbrev us_X0_housesOfWhole : List Jvm.Cond := .code yX0_housesOfWhole cX0_housesOfWhole 3 (some .int) :: wsU
abbrev us_X0_hoursToHeat : List Jvm.Cond := .code yX0_hoursToHeat cX0_hoursToHeat 4 (some .int) :: wsU
abbrev us_X6_putAll : List Jvm.Cond := .code yX6_putAll cX6_putAll 3 none :: wsU
abbrev us_X1_begin : List Jvm.Cond := .code yX1_begin cX1_begin 2 none :: wsU
abbrev us_X1_takeClue : List Jvm.Cond := .code yX1_takeClue cX1_takeClue 4 none :: wsU
abbrev us_X1_takeClues : List Jvm.Cond := .code yX1_takeClues cX1_takeClues 3 none :: wsU
abbrev us_X3_sign : List Jvm.Cond := .code yX3_sign cX3_sign 2 (some .int) :: wsU
abbrev us_X1_noteWarm : List Jvm.Cond := .code yX1_noteWarm cX1_noteWarm 3 none :: wsU
abbrev us_X6_isWithin : List Jvm.Cond := .code yX6_isWithin cX6_isWithin 3 (some .boolean) :: wsU
abbrev us_X6_isHouseSign : List Jvm.Cond := .code yX6_isHouseSign cX6_isHouseSign 1 (some .boolean) :: wsU
abbrev us_X1_takeWeek : List Jvm.Cond := .code yX1_takeWeek cX1_takeWeek 6 none :: wsU
abbrev us_X1_takeSights : List Jvm.Cond := .code yX1_takeSights cX1_takeSights 7 none :: wsU
abbrev us_X1_keepIfFirst : List Jvm.Cond := .code yX1_keepIfFirst cX1_keepIfFirst 1 none :: wsU
abbrev us_X1_canBeLaid : List Jvm.Cond := .code yX1_canBeLaid cX1_canBeLaid 5 (some .boolean) :: wsU
abbrev us_X1_canHatchIn : List Jvm.Cond := .code yX1_canHatchIn cX1_canHatchIn 4 (some .boolean) :: wsU
abbrev us_X1_addOrders : List Jvm.Cond := .code yX1_addOrders cX1_addOrders 6 none :: wsU
abbrev us_X1_lay : List Jvm.Cond := .code yX1_lay cX1_lay 8 (some .int) :: wsU
abbrev us_X1_search : List Jvm.Cond := .code yX1_search cX1_search 1 none :: wsU
abbrev us_X1_ordersWith : List Jvm.Cond := .code yX1_ordersWith cX1_ordersWith 3 (some .int) :: wsU
abbrev us_X1_placesOf : List Jvm.Cond := .code yX1_placesOf cX1_placesOf 4 (some .int) :: wsU
abbrev us_X1_eggsAtFirstPlace : List Jvm.Cond := .code yX1_eggsAtFirstPlace cX1_eggsAtFirstPlace 3 (some .int) :: wsU
abbrev us_X1_mostLeft : List Jvm.Cond := .code yX1_mostLeft cX1_mostLeft 4 (some .int) :: wsU
abbrev us_X2_copyFrom : List Jvm.Cond := .code yX2_copyFrom cX2_copyFrom 2 none :: wsU
abbrev us_X2_addClue : List Jvm.Cond := .code yX2_addClue cX2_addClue 4 none :: wsU
abbrev us_X2_addSight : List Jvm.Cond := .code yX2_addSight cX2_addSight 3 none :: wsU
abbrev us_X3_add : List Jvm.Cond := .code yX3_add cX3_add 2 none :: wsU
abbrev us_X3_isDigitOfEgg : List Jvm.Cond := .code yX3_isDigitOfEgg cX3_isDigitOfEgg 3 (some .boolean) :: wsU
abbrev us_X3_orderFault : List Jvm.Cond := .code yX3_orderFault cX3_orderFault 4 (some .int) :: wsU
abbrev us_X3_eatsOrMendsAt : List Jvm.Cond := .code yX3_eatsOrMendsAt cX3_eatsOrMendsAt 2 (some .boolean) :: wsU
abbrev us_X3_weekFault : List Jvm.Cond := .code yX3_weekFault cX3_weekFault 4 (some .int) :: wsU
abbrev us_X3_eatsOrMends : List Jvm.Cond := .code yX3_eatsOrMends cX3_eatsOrMends 2 (some .boolean) :: wsU
abbrev us_X4_copyFrom : List Jvm.Cond := .code yX4_copyFrom cX4_copyFrom 2 none :: wsU
abbrev us_X5_startFrom : List Jvm.Cond := .code yX5_startFrom cX5_startFrom 3 none :: wsU
abbrev us_J6_bitCount_0f7a4 : List Jvm.Cond := .code yJ6_bitCount_0f7a4 cJ6_bitCount_0f7a4 1 (some .int) :: wsU
abbrev us_X5_spendHour : List Jvm.Cond := .code yX5_spendHour cX5_spendHour 3 none :: wsU
abbrev us_X5_handle : List Jvm.Cond := .code yX5_handle cX5_handle 4 (some .int) :: wsU
abbrev us_X5_run : List Jvm.Cond := .code yX5_run cX5_run 5 (some .int) :: wsU
abbrev us_X6_eggs : List Jvm.Cond := .code yX6_eggs cX6_eggs 3 (some .int) :: wsU
abbrev us_X6_isFactFor : List Jvm.Cond := .code yX6_isFactFor cX6_isFactFor 2 (some .boolean) :: wsU
abbrev us_X6_egg : List Jvm.Cond := .code yX6_egg cX6_egg 5 (some .int) :: wsU
abbrev us_X6_stove : List Jvm.Cond := .code yX6_stove cX6_stove 3 (some .int) :: wsU
abbrev us_X6_say : List Jvm.Cond := .code yX6_say cX6_say 2 (some .int) :: wsU
abbrev us_X6_wipe : List Jvm.Cond := .code yX6_wipe cX6_wipe 2 (some .int) :: wsU
abbrev us_X6_fault : List Jvm.Cond := .code yX6_fault cX6_fault 2 (some .int) :: wsU
abbrev us_X6_order : List Jvm.Cond := .code yX6_order cX6_order 2 (some .int) :: wsU
abbrev us_X6_judge : List Jvm.Cond := .code yX6_judge cX6_judge 3 (some .int) :: wsU
abbrev us_X6_behind : List Jvm.Cond := .code yX6_behind cX6_behind 4 (some .int) :: wsU
abbrev us_X6_hatched : List Jvm.Cond := .code yX6_hatched cX6_hatched 3 (some .int) :: wsU
abbrev us_X6_stops : List Jvm.Cond := .code yX6_stops cX6_stops 4 (some .int) :: wsU
abbrev us_X6_done : List Jvm.Cond := .code yX6_done cX6_done 2 (some .int) :: wsU
abbrev us_X6_state : List Jvm.Cond := .code yX6_state cX6_state 3 (some .int) :: wsU
abbrev us_X6_clue : List Jvm.Cond := .code yX6_clue cX6_clue 5 (some .int) :: wsU
abbrev us_X6_seen : List Jvm.Cond := .code yX6_seen cX6_seen 3 (some .int) :: wsU
abbrev us_X6_forget : List Jvm.Cond := .code yX6_forget cX6_forget 3 (some .int) :: wsU
abbrev us_X6_findFitting : List Jvm.Cond := .code yX6_findFitting cX6_findFitting 2 (some .int) :: wsU
abbrev us_X6_fits : List Jvm.Cond := .code yX6_fits cX6_fits 3 (some .int) :: wsU
abbrev us_X6_places : List Jvm.Cond := .code yX6_places cX6_places 3 (some .int) :: wsU
abbrev us_X6_firsts : List Jvm.Cond := .code yX6_firsts cX6_firsts 2 (some .int) :: wsU
abbrev us_X6_certain : List Jvm.Cond := .code yX6_certain cX6_certain 4 (some .int) :: wsU
abbrev us_X6_ask : List Jvm.Cond := .code yX6_ask cX6_ask 5 (some .int) :: wsU
abbrev us_X6_mend : List Jvm.Cond := .code yX6_mend cX6_mend 3 (some .int) :: wsU
abbrev us_X6_soonest : List Jvm.Cond := .code yX6_soonest cX6_soonest 6 (some .int) :: wsU
abbrev us_X6_gainOf : List Jvm.Cond := .code yX6_gainOf cX6_gainOf 5 (some .int) :: wsU
abbrev us_X6_isRest : List Jvm.Cond := .code yX6_isRest cX6_isRest 6 (some .boolean) :: wsU
abbrev us_X6_rests : List Jvm.Cond := .code yX6_rests cX6_rests 6 (some .int) :: wsU
abbrev us_X6_worthIfHeated : List Jvm.Cond := .code yX6_worthIfHeated cX6_worthIfHeated 2 (some .int) :: wsU
abbrev us_X6_commonDivisor : List Jvm.Cond := .code yX6_commonDivisor cX6_commonDivisor 7 (some .long) :: wsU
abbrev us_X6_lowest : List Jvm.Cond := .code yX6_lowest cX6_lowest 7 (some .long) :: wsU
abbrev us_X6_shapley : List Jvm.Cond := .code yX6_shapley cX6_shapley 7 (some .long) :: wsU
abbrev us_X6_hope : List Jvm.Cond := .code yX6_hope cX6_hope 13 (some .long) :: wsU
abbrev us_X6_year : List Jvm.Cond := .code yX6_year cX6_year 10 (some .int) :: wsU
abbrev us_X6_image : List Jvm.Cond := .code yX6_image cX6_image 3 (some .int) :: wsU
abbrev us_X6_restore : List Jvm.Cond := .code yX6_restore cX6_restore 3 (some .int) :: wsU
abbrev us_X6_told : List Jvm.Cond := .code yX6_told cX6_told 4 (some .int) :: wsU
abbrev us_X7_begin : List Jvm.Cond := .code yX7_begin cX7_begin 3 none :: wsU
abbrev us_X7_in : List Jvm.Cond := .code yX7_in cX7_in 6 (some .boolean) :: wsU
abbrev us_X7_ones : List Jvm.Cond := .code yX7_ones cX7_ones 3 (some .int) :: wsU
abbrev us_X7_isEgg : List Jvm.Cond := .code yX7_isEgg cX7_isEgg 2 (some .boolean) :: wsU
abbrev us_X7_isHouse : List Jvm.Cond := .code yX7_isHouse cX7_isHouse 1 (some .boolean) :: wsU
abbrev us_X7_areAllWhole : List Jvm.Cond := .code yX7_areAllWhole cX7_areAllWhole 3 (some .boolean) :: wsU
abbrev us_X7_eggs : List Jvm.Cond := .code yX7_eggs cX7_eggs 3 (some .int) :: wsU
abbrev us_X7_greatest : List Jvm.Cond := .code yX7_greatest cX7_greatest 1 (some .int) :: wsU
abbrev us_X7_egg : List Jvm.Cond := .code yX7_egg cX7_egg 5 (some .int) :: wsU
abbrev us_X7_stove : List Jvm.Cond := .code yX7_stove cX7_stove 3 (some .int) :: wsU
abbrev us_X7_say : List Jvm.Cond := .code yX7_say cX7_say 2 (some .int) :: wsU
abbrev us_X7_wipe : List Jvm.Cond := .code yX7_wipe cX7_wipe 2 (some .int) :: wsU
abbrev us_X7_faultOfOrder : List Jvm.Cond := .code yX7_faultOfOrder cX7_faultOfOrder 4 (some .int) :: wsU
abbrev us_X7_faultOfWeek : List Jvm.Cond := .code yX7_faultOfWeek cX7_faultOfWeek 7 (some .int) :: wsU
abbrev us_X7_fault : List Jvm.Cond := .code yX7_fault cX7_fault 2 (some .int) :: wsU
abbrev us_X7_order : List Jvm.Cond := .code yX7_order cX7_order 2 (some .int) :: wsU
abbrev us_X7_layOrder : List Jvm.Cond := .code yX7_layOrder cX7_layOrder 2 none :: wsU
abbrev us_X7_passHour : List Jvm.Cond := .code yX7_passHour cX7_passHour 4 none :: wsU
abbrev us_X7_whyNot : List Jvm.Cond := .code yX7_whyNot cX7_whyNot 3 (some .int) :: wsU
abbrev us_X7_happen : List Jvm.Cond := .code yX7_happen cX7_happen 3 none :: wsU
abbrev us_X7_goWeek : List Jvm.Cond := .code yX7_goWeek cX7_goWeek 3 none :: wsU
abbrev us_X7_keepNow : List Jvm.Cond := .code yX7_keepNow cX7_keepNow 2 none :: wsU
abbrev us_X7_putBack : List Jvm.Cond := .code yX7_putBack cX7_putBack 2 none :: wsU
abbrev us_X7_stateOf : List Jvm.Cond := .code yX7_stateOf cX7_stateOf 3 (some .int) :: wsU
abbrev us_X7_findStop : List Jvm.Cond := .code yX7_findStop cX7_findStop 4 none :: wsU
abbrev us_X7_refusal : List Jvm.Cond := .code yX7_refusal cX7_refusal 2 (some .int) :: wsU
abbrev us_X7_judge : List Jvm.Cond := .code yX7_judge cX7_judge 3 (some .int) :: wsU
abbrev us_X7_behind : List Jvm.Cond := .code yX7_behind cX7_behind 4 (some .int) :: wsU
abbrev us_X7_hatched : List Jvm.Cond := .code yX7_hatched cX7_hatched 3 (some .int) :: wsU
abbrev us_X7_stops : List Jvm.Cond := .code yX7_stops cX7_stops 3 (some .int) :: wsU
abbrev us_X7_done : List Jvm.Cond := .code yX7_done cX7_done 2 (some .int) :: wsU
abbrev us_X7_state : List Jvm.Cond := .code yX7_state cX7_state 3 (some .int) :: wsU
abbrev us_X7_clue : List Jvm.Cond := .code yX7_clue cX7_clue 4 (some .int) :: wsU
abbrev us_X7_seen : List Jvm.Cond := .code yX7_seen cX7_seen 3 (some .int) :: wsU
abbrev us_X7_forget : List Jvm.Cond := .code yX7_forget cX7_forget 3 (some .int) :: wsU
abbrev us_X7_fitsClues : List Jvm.Cond := .code yX7_fitsClues cX7_fitsClues 6 (some .boolean) :: wsU
abbrev us_X7_fitsSights : List Jvm.Cond := .code yX7_fitsSights cX7_fitsSights 4 (some .boolean) :: wsU
abbrev us_X7_change : List Jvm.Cond := .code yX7_change cX7_change 4 none :: wsU
abbrev us_X7_nextRow : List Jvm.Cond := .code yX7_nextRow cX7_nextRow 5 (some .boolean) :: wsU
abbrev us_X7_countFit : List Jvm.Cond := .code yX7_countFit cX7_countFit 3 none :: wsU
abbrev us_X7_goFits : List Jvm.Cond := .code yX7_goFits cX7_goFits 2 (some .int) :: wsU
abbrev us_X7_fits : List Jvm.Cond := .code yX7_fits cX7_fits 3 (some .int) :: wsU
abbrev us_X7_places : List Jvm.Cond := .code yX7_places cX7_places 5 (some .int) :: wsU
abbrev us_X7_firsts : List Jvm.Cond := .code yX7_firsts cX7_firsts 4 (some .int) :: wsU
abbrev us_X7_certain : List Jvm.Cond := .code yX7_certain cX7_certain 5 (some .int) :: wsU
abbrev us_X7_mostAt : List Jvm.Cond := .code yX7_mostAt cX7_mostAt 4 (some .int) :: wsU
abbrev us_X7_ask : List Jvm.Cond := .code yX7_ask cX7_ask 5 (some .int) :: wsU
abbrev us_X7_mend : List Jvm.Cond := .code yX7_mend cX7_mend 6 (some .int) :: wsU
abbrev us_X7_soonest : List Jvm.Cond := .code yX7_soonest cX7_soonest 8 (some .int) :: wsU
abbrev us_X7_findWorth : List Jvm.Cond := .code yX7_findWorth cX7_findWorth 8 (some .int) :: wsU
abbrev us_X7_gainOf : List Jvm.Cond := .code yX7_gainOf cX7_gainOf 4 (some .int) :: wsU
abbrev us_X7_housesWithWhole : List Jvm.Cond := .code yX7_housesWithWhole cX7_housesWithWhole 3 (some .int) :: wsU
abbrev us_X7_isRest : List Jvm.Cond := .code yX7_isRest cX7_isRest 6 (some .boolean) :: wsU
abbrev us_X7_rests : List Jvm.Cond := .code yX7_rests cX7_rests 6 (some .int) :: wsU
abbrev us_X7_lowest : List Jvm.Cond := .code yX7_lowest cX7_lowest 11 (some .long) :: wsU
abbrev us_X7_rowsOf : List Jvm.Cond := .code yX7_rowsOf cX7_rowsOf 3 (some .int) :: wsU
abbrev us_X7_shapley : List Jvm.Cond := .code yX7_shapley cX7_shapley 7 (some .long) :: wsU
abbrev us_X7_power : List Jvm.Cond := .code yX7_power cX7_power 5 (some .long) :: wsU
abbrev us_X7_hope : List Jvm.Cond := .code yX7_hope cX7_hope 11 (some .long) :: wsU
abbrev us_X7_year : List Jvm.Cond := .code yX7_year cX7_year 9 (some .int) :: wsU
abbrev us_X7_pass : List Jvm.Cond := .code yX7_pass cX7_pass 3 (some .int) :: wsU
abbrev us_X7_passAll : List Jvm.Cond := .code yX7_passAll cX7_passAll 2 none :: wsU
abbrev us_X7_image : List Jvm.Cond := .code yX7_image cX7_image 2 (some .int) :: wsU
abbrev us_X7_restore : List Jvm.Cond := .code yX7_restore cX7_restore 2 (some .int) :: wsU
abbrev us_X7_toldOfEgg : List Jvm.Cond := .code yX7_toldOfEgg cX7_toldOfEgg 3 (some .int) :: wsU
abbrev us_X7_told : List Jvm.Cond := .code yX7_told cX7_told 2 (some .int) :: wsU
abbrev us_J9_max_7cf53 : List Jvm.Cond := .code yJ9_max_7cf53 cJ9_max_7cf53 2 (some .int) :: wsU
abbrev us_J9_min_7cf53 : List Jvm.Cond := .code yJ9_min_7cf53 cJ9_min_7cf53 2 (some .int) :: wsU
abbrev us_X3_init : List Jvm.Cond := .code yX3_init cX3_init 1 none :: wsU
abbrev us_X7_init : List Jvm.Cond := .code yX7_init cX7_init 1 none :: wsU
abbrev us_X0_init : List Jvm.Cond := .code yX0_init cX0_init 1 none :: wsU
abbrev us_X1_init : List Jvm.Cond := .code yX1_init cX1_init 1 none :: wsU
abbrev us_X6_init : List Jvm.Cond := .code yX6_init cX6_init 1 none :: wsU
abbrev us_X5_init : List Jvm.Cond := .code yX5_init cX5_init 1 none :: wsU
abbrev us_X4_init : List Jvm.Cond := .code yX4_init cX4_init 1 none :: wsU
abbrev us_X2_init : List Jvm.Cond := .code yX2_init cX2_init 1 none :: wsU
