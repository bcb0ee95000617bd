theorem gq_mk {ws : List Cond} (hm : ∀ w ∈ ws, w ∈ lw_tbl) (h : ws.all goodWord = true) : GoodIn lw_tbl ws := fun w hw => ⟨hm w hw, good_of_word (List.all_eq_true.mp h w hw)⟩
theorem mw_0 : Cond.classLink RL 8 RX7 ∈ lw_tbl := wi_wsL_law0_r1 _ (List.mem_of_getElem? (i := 0) rfl)
theorem mw_1 : Cond.instantiable RX7 15 ∈ lw_tbl := wi_wsL_law0_r1 _ (List.mem_of_getElem? (i := 1) rfl)
theorem mw_2 : Cond.initialized RX7 ∈ lw_tbl := wi_wsL_law0_r1 _ (List.mem_of_getElem? (i := 2) rfl)
theorem mw_3 : Cond.classLink RL 57 RX8 ∈ lw_tbl := wi_wsL_law0_r1 _ (List.mem_of_getElem? (i := 3) rfl)
theorem mw_4 : Cond.instantiable RX8 21 ∈ lw_tbl := wi_wsL_law0_r1 _ (List.mem_of_getElem? (i := 4) rfl)
theorem mw_5 : Cond.initialized RX8 ∈ lw_tbl := wi_wsL_law0_r1 _ (List.mem_of_getElem? (i := 5) rfl)
theorem mw_6 : Cond.arrayClass .long ∈ lw_tbl := wi_wsL_law0_r1 _ (List.mem_of_getElem? (i := 6) rfl)
theorem mw_7 : Cond.methodLink RL 56 yX7_init ∈ lw_tbl := wi_wsL_law0_r1 _ (List.mem_of_getElem? (i := 7) rfl)
theorem mw_8 : Cond.instanceMethod yX7_init ∈ lw_tbl := wi_wsL_law0_r1 _ (List.mem_of_getElem? (i := 8) rfl)
theorem mw_9 : Cond.code yX7_init cX7_init 2 none ∈ lw_tbl := wi_wsL_law0_r1 _ (List.mem_of_getElem? (i := 9) rfl)
theorem mw_10 : Cond.methodLink RX7 3 objectInit ∈ lw_tbl := wi_wsL_law0_r1 _ (List.mem_of_getElem? (i := 10) rfl)
theorem mw_11 : Cond.instanceMethod objectInit ∈ lw_tbl := wi_wsL_law0_r1 _ (List.mem_of_getElem? (i := 11) rfl)
theorem mw_12 : Cond.code objectInit ⟨#[0xb1]⟩ 1 none ∈ lw_tbl := wi_wsL_law0_r1 _ (List.mem_of_getElem? (i := 12) rfl)
theorem mw_13 : Cond.classLink RX7 9 RX2 ∈ lw_tbl := wi_wsL_law0_r1 _ (List.mem_of_getElem? (i := 13) rfl)
theorem mw_14 : Cond.instantiable RX2 1 ∈ lw_tbl := wi_wsL_law0_r1 _ (List.mem_of_getElem? (i := 14) rfl)
theorem mw_15 : Cond.initialized RX2 ∈ lw_tbl := wi_wsL_law0_r1 _ (List.mem_of_getElem? (i := 15) rfl)
theorem mw_16 : Cond.fieldLink RX7 14 "NormalForms" "entries" "LNormalForms$Matrix;" ∈ lw_tbl := wi_wsL_law0_r1 _ (List.mem_of_getElem? (i := 16) rfl)
theorem mw_17 : Cond.classLink RX7 18 RX3 ∈ lw_tbl := wi_wsL_law0_r1 _ (List.mem_of_getElem? (i := 17) rfl)
theorem mw_18 : Cond.instantiable RX3 5 ∈ lw_tbl := wi_wsL_law0_r1 _ (List.mem_of_getElem? (i := 18) rfl)
theorem mw_19 : Cond.initialized RX3 ∈ lw_tbl := wi_wsL_law0_r1 _ (List.mem_of_getElem? (i := 19) rfl)
theorem mw_20 : Cond.fieldLink RX7 21 "NormalForms" "minors" "LNormalForms$Minors;" ∈ lw_tbl := wi_wsL_law0_r1 _ (List.mem_of_getElem? (i := 20) rfl)
theorem mw_21 : Cond.fieldLink RX7 25 "NormalForms" "xLessNumbers" "LNormalForms$Matrix;" ∈ lw_tbl := wi_wsL_law0_r1 _ (List.mem_of_getElem? (i := 21) rfl)
theorem mw_22 : Cond.fieldLink RX7 28 "NormalForms" "numbersMinors" "LNormalForms$Minors;" ∈ lw_tbl := wi_wsL_law0_r1 _ (List.mem_of_getElem? (i := 22) rfl)
theorem mw_23 : Cond.classLink RX7 31 RX5 ∈ lw_tbl := wi_wsL_law0_r1 _ (List.mem_of_getElem? (i := 23) rfl)
theorem mw_24 : Cond.instantiable RX5 9 ∈ lw_tbl := wi_wsL_law0_r2 _ (List.mem_of_getElem? (i := 0) rfl)
theorem mw_25 : Cond.initialized RX5 ∈ lw_tbl := wi_wsL_law0_r2 _ (List.mem_of_getElem? (i := 1) rfl)
theorem mw_26 : Cond.fieldLink RX7 34 "NormalForms" "roots" "LNormalForms$Roots;" ∈ lw_tbl := wi_wsL_law0_r2 _ (List.mem_of_getElem? (i := 2) rfl)
theorem mw_27 : Cond.classLink RX7 38 RX1 ∈ lw_tbl := wi_wsL_law0_r2 _ (List.mem_of_getElem? (i := 3) rfl)
theorem mw_28 : Cond.instantiable RX1 4 ∈ lw_tbl := wi_wsL_law0_r2 _ (List.mem_of_getElem? (i := 4) rfl)
theorem mw_29 : Cond.initialized RX1 ∈ lw_tbl := wi_wsL_law0_r2 _ (List.mem_of_getElem? (i := 5) rfl)
theorem mw_30 : Cond.fieldLink RX7 41 "NormalForms" "echelon" "LNormalForms$Echelon;" ∈ lw_tbl := wi_wsL_law0_r2 _ (List.mem_of_getElem? (i := 6) rfl)
theorem mw_31 : Cond.fieldLink RX7 45 "NormalForms" "forms" "[LNormalForms$Matrix;" ∈ lw_tbl := wi_wsL_law0_r2 _ (List.mem_of_getElem? (i := 7) rfl)
theorem mw_32 : Cond.arrayClass .boolean ∈ lw_tbl := wi_wsL_law0_r2 _ (List.mem_of_getElem? (i := 8) rfl)
theorem mw_33 : Cond.fieldLink RX7 49 "NormalForms" "formThere" "[Z" ∈ lw_tbl := wi_wsL_law0_r2 _ (List.mem_of_getElem? (i := 9) rfl)
theorem mw_34 : Cond.classLink RX7 53 RX0 ∈ lw_tbl := wi_wsL_law0_r2 _ (List.mem_of_getElem? (i := 10) rfl)
theorem mw_35 : Cond.instantiable RX0 3 ∈ lw_tbl := wi_wsL_law0_r2 _ (List.mem_of_getElem? (i := 11) rfl)
theorem mw_36 : Cond.initialized RX0 ∈ lw_tbl := wi_wsL_law0_r2 _ (List.mem_of_getElem? (i := 12) rfl)
theorem mw_37 : Cond.fieldLink RX7 56 "NormalForms" "divider" "LNormalForms$Divider;" ∈ lw_tbl := wi_wsL_law0_r2 _ (List.mem_of_getElem? (i := 13) rfl)
theorem mw_38 : Cond.classLink RX7 60 RX4 ∈ lw_tbl := wi_wsL_law0_r2 _ (List.mem_of_getElem? (i := 14) rfl)
theorem mw_39 : Cond.instantiable RX4 2 ∈ lw_tbl := wi_wsL_law0_r2 _ (List.mem_of_getElem? (i := 15) rfl)
theorem mw_40 : Cond.initialized RX4 ∈ lw_tbl := wi_wsL_law0_r2 _ (List.mem_of_getElem? (i := 16) rfl)
theorem mw_41 : Cond.fieldLink RX7 63 "NormalForms" "linear" "LNormalForms$Polynomial;" ∈ lw_tbl := wi_wsL_law0_r2 _ (List.mem_of_getElem? (i := 17) rfl)
theorem mw_42 : Cond.methodLink RX7 11 yX2_init ∈ lw_tbl := wi_wsL_law0_r2 _ (List.mem_of_getElem? (i := 18) rfl)
theorem mw_43 : Cond.instanceMethod yX2_init ∈ lw_tbl := wi_wsL_law0_r2 _ (List.mem_of_getElem? (i := 19) rfl)
theorem mw_44 : Cond.code yX2_init cX2_init 3 none ∈ lw_tbl := wi_wsL_law0_r2 _ (List.mem_of_getElem? (i := 20) rfl)
theorem mw_45 : Cond.methodLink RX2 3 objectInit ∈ lw_tbl := wi_wsL_law0_r2 _ (List.mem_of_getElem? (i := 21) rfl)
theorem mw_46 : Cond.classLink RX2 9 RX6 ∈ lw_tbl := wi_wsL_law0_r2 _ (List.mem_of_getElem? (i := 22) rfl)
theorem mw_47 : Cond.fieldLink RX2 11 "NormalForms$Matrix" "rows" "[LNormalForms$Row;" ∈ lw_tbl := wi_wsL_law0_r2 _ (List.mem_of_getElem? (i := 23) rfl)
theorem mw_48 : Cond.instantiable RX6 1 ∈ lw_tbl := wi_wsL_law0_r3 _ (List.mem_of_getElem? (i := 0) rfl)
theorem mw_49 : Cond.initialized RX6 ∈ lw_tbl := wi_wsL_law0_r3 _ (List.mem_of_getElem? (i := 1) rfl)
theorem mw_50 : Cond.methodLink RX2 17 yX6_init ∈ lw_tbl := wi_wsL_law0_r3 _ (List.mem_of_getElem? (i := 2) rfl)
theorem mw_51 : Cond.instanceMethod yX6_init ∈ lw_tbl := wi_wsL_law0_r3 _ (List.mem_of_getElem? (i := 3) rfl)
theorem mw_52 : Cond.code yX6_init cX6_init 3 none ∈ lw_tbl := wi_wsL_law0_r3 _ (List.mem_of_getElem? (i := 4) rfl)
theorem mw_53 : Cond.methodLink RX6 3 objectInit ∈ lw_tbl := wi_wsL_law0_r3 _ (List.mem_of_getElem? (i := 5) rfl)
theorem mw_54 : Cond.classLink RX6 9 RX4 ∈ lw_tbl := wi_wsL_law0_r3 _ (List.mem_of_getElem? (i := 6) rfl)
theorem mw_55 : Cond.fieldLink RX6 11 "NormalForms$Row" "cells" "[LNormalForms$Polynomial;" ∈ lw_tbl := wi_wsL_law0_r3 _ (List.mem_of_getElem? (i := 7) rfl)
theorem mw_56 : Cond.methodLink RX6 17 yX4_init ∈ lw_tbl := wi_wsL_law0_r3 _ (List.mem_of_getElem? (i := 8) rfl)
theorem mw_57 : Cond.instanceMethod yX4_init ∈ lw_tbl := wi_wsL_law0_r3 _ (List.mem_of_getElem? (i := 9) rfl)
theorem mw_58 : Cond.code yX4_init cX4_init 2 none ∈ lw_tbl := wi_wsL_law0_r3 _ (List.mem_of_getElem? (i := 10) rfl)
theorem mw_59 : Cond.methodLink RX4 3 objectInit ∈ lw_tbl := wi_wsL_law0_r3 _ (List.mem_of_getElem? (i := 11) rfl)
theorem mw_60 : Cond.arrayClass .int ∈ lw_tbl := wi_wsL_law0_r3 _ (List.mem_of_getElem? (i := 12) rfl)
theorem mw_61 : Cond.fieldLink RX4 9 "NormalForms$Polynomial" "numbers" "[I" ∈ lw_tbl := wi_wsL_law0_r3 _ (List.mem_of_getElem? (i := 13) rfl)
theorem mw_62 : Cond.fieldLink RX4 15 "NormalForms$Polynomial" "degree" "I" ∈ lw_tbl := wi_wsL_law0_r3 _ (List.mem_of_getElem? (i := 14) rfl)
theorem mw_63 : Cond.methodLink RX7 20 yX3_init ∈ lw_tbl := wi_wsL_law0_r3 _ (List.mem_of_getElem? (i := 15) rfl)
theorem mw_64 : Cond.instanceMethod yX3_init ∈ lw_tbl := wi_wsL_law0_r3 _ (List.mem_of_getElem? (i := 16) rfl)
theorem mw_65 : Cond.code yX3_init cX3_init 5 none ∈ lw_tbl := wi_wsL_law0_r3 _ (List.mem_of_getElem? (i := 17) rfl)
theorem mw_66 : Cond.methodLink RX3 3 objectInit ∈ lw_tbl := wi_wsL_law0_r3 _ (List.mem_of_getElem? (i := 18) rfl)
theorem mw_67 : Cond.classLink RX3 9 RX4 ∈ lw_tbl := wi_wsL_law0_r3 _ (List.mem_of_getElem? (i := 19) rfl)
theorem mw_68 : Cond.fieldLink RX3 11 "NormalForms$Minors" "minors" "[LNormalForms$Polynomial;" ∈ lw_tbl := wi_wsL_law0_r3 _ (List.mem_of_getElem? (i := 20) rfl)
theorem mw_69 : Cond.fieldLink RX3 26 "NormalForms$Minors" "divisors" "[LNormalForms$Polynomial;" ∈ lw_tbl := wi_wsL_law0_r3 _ (List.mem_of_getElem? (i := 21) rfl)
theorem mw_70 : Cond.fieldLink RX3 29 "NormalForms$Minors" "invariants" "[LNormalForms$Polynomial;" ∈ lw_tbl := wi_wsL_law0_r3 _ (List.mem_of_getElem? (i := 22) rfl)
theorem mw_71 : Cond.classLink RX3 32 RX0 ∈ lw_tbl := wi_wsL_law0_r3 _ (List.mem_of_getElem? (i := 23) rfl)
theorem mw_72 : Cond.fieldLink RX3 35 "NormalForms$Minors" "divider" "LNormalForms$Divider;" ∈ lw_tbl := wi_wsL_law0_r4 _ (List.mem_of_getElem? (i := 0) rfl)
theorem mw_73 : Cond.fieldLink RX3 39 "NormalForms$Minors" "order" "I" ∈ lw_tbl := wi_wsL_law0_r4 _ (List.mem_of_getElem? (i := 1) rfl)
theorem mw_74 : Cond.methodLink RX3 17 yX4_init ∈ lw_tbl := wi_wsL_law0_r4 _ (List.mem_of_getElem? (i := 2) rfl)
theorem mw_75 : Cond.methodLink RX3 20 yJ6_bitCount_0f7a4 ∈ lw_tbl := wi_wsL_law0_r4 _ (List.mem_of_getElem? (i := 3) rfl)
theorem mw_76 : Cond.static yJ6_bitCount_0f7a4 ∈ lw_tbl := wi_wsL_law0_r4 _ (List.mem_of_getElem? (i := 4) rfl)
theorem mw_77 : Cond.initialized RJ6 ∈ lw_tbl := wi_wsL_law0_r4 _ (List.mem_of_getElem? (i := 5) rfl)
theorem mw_78 : Cond.code yJ6_bitCount_0f7a4 cJ6_bitCount_0f7a4 1 (some .int) ∈ lw_tbl := wi_wsL_law0_r4 _ (List.mem_of_getElem? (i := 6) rfl)
theorem mw_79 : Cond.constant RJ6 265 (1431655765) ∈ lw_tbl := wi_wsL_law0_r4 _ (List.mem_of_getElem? (i := 7) rfl)
theorem mw_80 : Cond.constant RJ6 266 (858993459) ∈ lw_tbl := wi_wsL_law0_r4 _ (List.mem_of_getElem? (i := 8) rfl)
theorem mw_81 : Cond.constant RJ6 267 (252645135) ∈ lw_tbl := wi_wsL_law0_r4 _ (List.mem_of_getElem? (i := 9) rfl)
theorem mw_82 : Cond.methodLink RX3 34 yX0_init ∈ lw_tbl := wi_wsL_law0_r4 _ (List.mem_of_getElem? (i := 10) rfl)
theorem mw_83 : Cond.instanceMethod yX0_init ∈ lw_tbl := wi_wsL_law0_r4 _ (List.mem_of_getElem? (i := 11) rfl)
theorem mw_84 : Cond.code yX0_init cX0_init 1 none ∈ lw_tbl := wi_wsL_law0_r4 _ (List.mem_of_getElem? (i := 12) rfl)
theorem mw_85 : Cond.methodLink RX0 3 objectInit ∈ lw_tbl := wi_wsL_law0_r4 _ (List.mem_of_getElem? (i := 13) rfl)
theorem mw_86 : Cond.classLink RX0 9 RX4 ∈ lw_tbl := wi_wsL_law0_r4 _ (List.mem_of_getElem? (i := 14) rfl)
theorem mw_87 : Cond.fieldLink RX0 14 "NormalForms$Divider" "left" "LNormalForms$Polynomial;" ∈ lw_tbl := wi_wsL_law0_r4 _ (List.mem_of_getElem? (i := 15) rfl)
theorem mw_88 : Cond.fieldLink RX0 20 "NormalForms$Divider" "right" "LNormalForms$Polynomial;" ∈ lw_tbl := wi_wsL_law0_r4 _ (List.mem_of_getElem? (i := 16) rfl)
theorem mw_89 : Cond.fieldLink RX0 23 "NormalForms$Divider" "quotient" "LNormalForms$Polynomial;" ∈ lw_tbl := wi_wsL_law0_r4 _ (List.mem_of_getElem? (i := 17) rfl)
theorem mw_90 : Cond.methodLink RX0 11 yX4_init ∈ lw_tbl := wi_wsL_law0_r4 _ (List.mem_of_getElem? (i := 18) rfl)
theorem mw_91 : Cond.methodLink RX7 33 yX5_init ∈ lw_tbl := wi_wsL_law0_r4 _ (List.mem_of_getElem? (i := 19) rfl)
theorem mw_92 : Cond.instanceMethod yX5_init ∈ lw_tbl := wi_wsL_law0_r4 _ (List.mem_of_getElem? (i := 20) rfl)
theorem mw_93 : Cond.code yX5_init cX5_init 2 none ∈ lw_tbl := wi_wsL_law0_r4 _ (List.mem_of_getElem? (i := 21) rfl)
theorem mw_94 : Cond.methodLink RX5 3 objectInit ∈ lw_tbl := wi_wsL_law0_r4 _ (List.mem_of_getElem? (i := 22) rfl)
theorem mw_95 : Cond.fieldLink RX5 9 "NormalForms$Roots" "values" "[I" ∈ lw_tbl := wi_wsL_law0_r4 _ (List.mem_of_getElem? (i := 23) rfl)
theorem mw_96 : Cond.classLink RX5 15 RX4 ∈ lw_tbl := wi_wsL_law0_r5 _ (List.mem_of_getElem? (i := 0) rfl)
theorem mw_97 : Cond.fieldLink RX5 17 "NormalForms$Roots" "parts" "[LNormalForms$Polynomial;" ∈ lw_tbl := wi_wsL_law0_r5 _ (List.mem_of_getElem? (i := 1) rfl)
theorem mw_98 : Cond.fieldLink RX5 24 "NormalForms$Roots" "base" "LNormalForms$Polynomial;" ∈ lw_tbl := wi_wsL_law0_r5 _ (List.mem_of_getElem? (i := 2) rfl)
theorem mw_99 : Cond.fieldLink RX5 28 "NormalForms$Roots" "power" "LNormalForms$Polynomial;" ∈ lw_tbl := wi_wsL_law0_r5 _ (List.mem_of_getElem? (i := 3) rfl)
theorem mw_100 : Cond.fieldLink RX5 31 "NormalForms$Roots" "product" "LNormalForms$Polynomial;" ∈ lw_tbl := wi_wsL_law0_r5 _ (List.mem_of_getElem? (i := 4) rfl)
theorem mw_101 : Cond.fieldLink RX5 34 "NormalForms$Roots" "quotient" "LNormalForms$Polynomial;" ∈ lw_tbl := wi_wsL_law0_r5 _ (List.mem_of_getElem? (i := 5) rfl)
theorem mw_102 : Cond.classLink RX5 37 RX0 ∈ lw_tbl := wi_wsL_law0_r5 _ (List.mem_of_getElem? (i := 6) rfl)
theorem mw_103 : Cond.fieldLink RX5 40 "NormalForms$Roots" "divider" "LNormalForms$Divider;" ∈ lw_tbl := wi_wsL_law0_r5 _ (List.mem_of_getElem? (i := 7) rfl)
theorem mw_104 : Cond.methodLink RX5 21 yX4_init ∈ lw_tbl := wi_wsL_law0_r5 _ (List.mem_of_getElem? (i := 8) rfl)
theorem mw_105 : Cond.methodLink RX5 39 yX0_init ∈ lw_tbl := wi_wsL_law0_r5 _ (List.mem_of_getElem? (i := 9) rfl)
theorem mw_106 : Cond.methodLink RX7 40 yX1_init ∈ lw_tbl := wi_wsL_law0_r5 _ (List.mem_of_getElem? (i := 10) rfl)
theorem mw_107 : Cond.instanceMethod yX1_init ∈ lw_tbl := wi_wsL_law0_r5 _ (List.mem_of_getElem? (i := 11) rfl)
theorem mw_108 : Cond.code yX1_init cX1_init 2 none ∈ lw_tbl := wi_wsL_law0_r5 _ (List.mem_of_getElem? (i := 12) rfl)
theorem mw_109 : Cond.methodLink RX1 3 objectInit ∈ lw_tbl := wi_wsL_law0_r5 _ (List.mem_of_getElem? (i := 13) rfl)
theorem mw_110 : Cond.classLink RX1 9 RX6 ∈ lw_tbl := wi_wsL_law0_r5 _ (List.mem_of_getElem? (i := 14) rfl)
theorem mw_111 : Cond.fieldLink RX1 11 "NormalForms$Echelon" "slots" "[LNormalForms$Row;" ∈ lw_tbl := wi_wsL_law0_r5 _ (List.mem_of_getElem? (i := 15) rfl)
theorem mw_112 : Cond.fieldLink RX1 20 "NormalForms$Echelon" "slotFull" "[Z" ∈ lw_tbl := wi_wsL_law0_r5 _ (List.mem_of_getElem? (i := 16) rfl)
theorem mw_113 : Cond.classLink RX1 24 RX4 ∈ lw_tbl := wi_wsL_law0_r5 _ (List.mem_of_getElem? (i := 17) rfl)
theorem mw_114 : Cond.fieldLink RX1 27 "NormalForms$Echelon" "quotient" "LNormalForms$Polynomial;" ∈ lw_tbl := wi_wsL_law0_r5 _ (List.mem_of_getElem? (i := 18) rfl)
theorem mw_115 : Cond.fieldLink RX1 31 "NormalForms$Echelon" "incoming" "LNormalForms$Row;" ∈ lw_tbl := wi_wsL_law0_r5 _ (List.mem_of_getElem? (i := 19) rfl)
theorem mw_116 : Cond.methodLink RX1 17 yX6_init ∈ lw_tbl := wi_wsL_law0_r5 _ (List.mem_of_getElem? (i := 20) rfl)
theorem mw_117 : Cond.methodLink RX1 26 yX4_init ∈ lw_tbl := wi_wsL_law0_r5 _ (List.mem_of_getElem? (i := 21) rfl)
theorem mw_118 : Cond.methodLink RX7 55 yX0_init ∈ lw_tbl := wi_wsL_law0_r5 _ (List.mem_of_getElem? (i := 22) rfl)
theorem mw_119 : Cond.methodLink RX7 62 yX4_init ∈ lw_tbl := wi_wsL_law0_r5 _ (List.mem_of_getElem? (i := 23) rfl)
theorem mw_120 : Cond.methodLink RL 59 yX8_init ∈ lw_tbl := wi_wsL_law0_r6 _ (List.mem_of_getElem? (i := 0) rfl)
theorem mw_121 : Cond.instanceMethod yX8_init ∈ lw_tbl := wi_wsL_law0_r6 _ (List.mem_of_getElem? (i := 1) rfl)
theorem mw_122 : Cond.code yX8_init cX8_init 1 none ∈ lw_tbl := wi_wsL_law0_r6 _ (List.mem_of_getElem? (i := 2) rfl)
theorem mw_123 : Cond.methodLink RX8 1 objectInit ∈ lw_tbl := wi_wsL_law0_r6 _ (List.mem_of_getElem? (i := 3) rfl)
theorem mw_124 : Cond.fieldLink RX8 7 "NormalFormsModel" "entries" "[I" ∈ lw_tbl := wi_wsL_law0_r6 _ (List.mem_of_getElem? (i := 4) rfl)
theorem mw_125 : Cond.fieldLink RX8 13 "NormalFormsModel" "there" "[Z" ∈ lw_tbl := wi_wsL_law0_r6 _ (List.mem_of_getElem? (i := 5) rfl)
theorem mw_126 : Cond.fieldLink RX8 17 "NormalFormsModel" "forms" "[I" ∈ lw_tbl := wi_wsL_law0_r6 _ (List.mem_of_getElem? (i := 6) rfl)
theorem mw_127 : Cond.fieldLink RX8 20 "NormalFormsModel" "minors" "[I" ∈ lw_tbl := wi_wsL_law0_r6 _ (List.mem_of_getElem? (i := 7) rfl)
theorem mw_128 : Cond.fieldLink RX8 23 "NormalFormsModel" "work" "[I" ∈ lw_tbl := wi_wsL_law0_r6 _ (List.mem_of_getElem? (i := 8) rfl)
theorem mw_129 : Cond.fieldLink RX8 26 "NormalFormsModel" "made" "[I" ∈ lw_tbl := wi_wsL_law0_r6 _ (List.mem_of_getElem? (i := 9) rfl)
theorem mw_130 : Cond.fieldLink RX8 29 "NormalFormsModel" "pivot" "[I" ∈ lw_tbl := wi_wsL_law0_r6 _ (List.mem_of_getElem? (i := 10) rfl)
theorem mw_131 : Cond.fieldLink RX8 32 "NormalFormsModel" "a" "[I" ∈ lw_tbl := wi_wsL_law0_r6 _ (List.mem_of_getElem? (i := 11) rfl)
theorem mw_132 : Cond.fieldLink RX8 35 "NormalFormsModel" "b" "[I" ∈ lw_tbl := wi_wsL_law0_r6 _ (List.mem_of_getElem? (i := 12) rfl)
theorem mw_133 : Cond.fieldLink RX8 38 "NormalFormsModel" "c" "[I" ∈ lw_tbl := wi_wsL_law0_r6 _ (List.mem_of_getElem? (i := 13) rfl)
theorem mw_134 : Cond.fieldLink RX8 41 "NormalFormsModel" "before" "[I" ∈ lw_tbl := wi_wsL_law0_r6 _ (List.mem_of_getElem? (i := 14) rfl)
theorem mw_135 : Cond.fieldLink RX8 44 "NormalFormsModel" "powers" "[I" ∈ lw_tbl := wi_wsL_law0_r6 _ (List.mem_of_getElem? (i := 15) rfl)
theorem mw_136 : Cond.fieldLink RX8 47 "NormalFormsModel" "relation" "[I" ∈ lw_tbl := wi_wsL_law0_r6 _ (List.mem_of_getElem? (i := 16) rfl)
theorem mw_137 : Cond.fieldLink RX8 50 "NormalFormsModel" "row" "[I" ∈ lw_tbl := wi_wsL_law0_r6 _ (List.mem_of_getElem? (i := 17) rfl)
theorem mw_138 : Cond.fieldLink RX8 53 "NormalFormsModel" "mine" "[I" ∈ lw_tbl := wi_wsL_law0_r6 _ (List.mem_of_getElem? (i := 18) rfl)
theorem mw_139 : Cond.fieldLink RX8 56 "NormalFormsModel" "cleared" "[I" ∈ lw_tbl := wi_wsL_law0_r6 _ (List.mem_of_getElem? (i := 19) rfl)
theorem mw_140 : Cond.fieldLink RX8 59 "NormalFormsModel" "raised" "[I" ∈ lw_tbl := wi_wsL_law0_r6 _ (List.mem_of_getElem? (i := 20) rfl)
theorem mw_141 : Cond.fieldLink RX8 62 "NormalFormsModel" "next" "[I" ∈ lw_tbl := wi_wsL_law0_r6 _ (List.mem_of_getElem? (i := 21) rfl)
theorem mw_142 : Cond.methodLink RL 60 yL_size ∈ lw_tbl := wi_wsL_law0_r6 _ (List.mem_of_getElem? (i := 22) rfl)
theorem mw_143 : Cond.static yL_size ∈ lw_tbl := wi_wsL_law0_r6 _ (List.mem_of_getElem? (i := 23) rfl)
theorem mw_144 : Cond.initialized RL ∈ lw_tbl := wi_wsL_law0_r7 _ (List.mem_of_getElem? (i := 0) rfl)
theorem mw_145 : Cond.codeWith yL_size cL_size 4 (some .int) [(0, 6, 9, 13), (0, 6, 12, 15)] ∈ lw_tbl := wi_wsL_law0_r7 _ (List.mem_of_getElem? (i := 1) rfl)
theorem mw_146 : Cond.classLink RL 13 "java/lang/NegativeArraySizeException" ∈ lw_tbl := wi_wsL_law0_r7 _ (List.mem_of_getElem? (i := 2) rfl)
theorem mw_147 : Cond.classLink RL 15 "java/lang/IllegalArgumentException" ∈ lw_tbl := wi_wsL_law0_r7 _ (List.mem_of_getElem? (i := 3) rfl)
theorem mw_148 : Cond.methodLink RL 7 yX7_size ∈ lw_tbl := wi_wsL_law0_r7 _ (List.mem_of_getElem? (i := 4) rfl)
theorem mw_149 : Cond.instanceMethod yX7_size ∈ lw_tbl := wi_wsL_law0_r7 _ (List.mem_of_getElem? (i := 5) rfl)
theorem mw_150 : Cond.selects RX7 yX7_size yX7_size ∈ lw_tbl := wi_wsL_law0_r7 _ (List.mem_of_getElem? (i := 6) rfl)
theorem mw_151 : Cond.code yX7_size cX7_size 3 none ∈ lw_tbl := wi_wsL_law0_r7 _ (List.mem_of_getElem? (i := 7) rfl)
theorem mw_152 : Cond.classLink RX7 74 "java/lang/IllegalArgumentException" ∈ lw_tbl := wi_wsL_law0_r7 _ (List.mem_of_getElem? (i := 8) rfl)
theorem mw_153 : Cond.initialized "java/lang/IllegalArgumentException" ∈ lw_tbl := wi_wsL_law0_r7 _ (List.mem_of_getElem? (i := 9) rfl)
theorem mw_154 : Cond.classLink RX7 67 RJxde1cd ∈ lw_tbl := wi_wsL_law0_r7 _ (List.mem_of_getElem? (i := 10) rfl)
theorem mw_155 : Cond.instantiable RJxde1cd 6 ∈ lw_tbl := wi_wsL_law0_r7 _ (List.mem_of_getElem? (i := 11) rfl)
theorem mw_156 : Cond.initialized RJxde1cd ∈ lw_tbl := wi_wsL_law0_r7 _ (List.mem_of_getElem? (i := 12) rfl)
theorem mw_157 : Cond.fieldLink RX7 79 "NormalForms" "rowCount" "I" ∈ lw_tbl := wi_wsL_law0_r7 _ (List.mem_of_getElem? (i := 13) rfl)
theorem mw_158 : Cond.fieldLink RX7 83 "NormalForms" "columnCount" "I" ∈ lw_tbl := wi_wsL_law0_r7 _ (List.mem_of_getElem? (i := 14) rfl)
theorem mw_159 : Cond.methodLink RX7 86 yX2_clear ∈ lw_tbl := wi_wsL_law0_r7 _ (List.mem_of_getElem? (i := 15) rfl)
theorem mw_160 : Cond.instanceMethod yX2_clear ∈ lw_tbl := wi_wsL_law0_r7 _ (List.mem_of_getElem? (i := 16) rfl)
theorem mw_161 : Cond.selects RX2 yX2_clear yX2_clear ∈ lw_tbl := wi_wsL_law0_r7 _ (List.mem_of_getElem? (i := 17) rfl)
theorem mw_162 : Cond.code yX2_clear cX2_clear 2 none ∈ lw_tbl := wi_wsL_law0_r7 _ (List.mem_of_getElem? (i := 18) rfl)
theorem mw_163 : Cond.methodLink RX2 20 yX6_clear ∈ lw_tbl := wi_wsL_law0_r7 _ (List.mem_of_getElem? (i := 19) rfl)
theorem mw_164 : Cond.instanceMethod yX6_clear ∈ lw_tbl := wi_wsL_law0_r7 _ (List.mem_of_getElem? (i := 20) rfl)
theorem mw_165 : Cond.selects RX6 yX6_clear yX6_clear ∈ lw_tbl := wi_wsL_law0_r7 _ (List.mem_of_getElem? (i := 21) rfl)
theorem mw_166 : Cond.code yX6_clear cX6_clear 2 none ∈ lw_tbl := wi_wsL_law0_r7 _ (List.mem_of_getElem? (i := 22) rfl)
theorem mw_167 : Cond.methodLink RX6 20 yX4_clear ∈ lw_tbl := wi_wsL_law0_r7 _ (List.mem_of_getElem? (i := 23) rfl)
theorem mw_168 : Cond.instanceMethod yX4_clear ∈ lw_tbl := wi_wsL_law0_r8 _ (List.mem_of_getElem? (i := 0) rfl)
theorem mw_169 : Cond.selects RX4 yX4_clear yX4_clear ∈ lw_tbl := wi_wsL_law0_r8 _ (List.mem_of_getElem? (i := 1) rfl)
theorem mw_170 : Cond.code yX4_clear cX4_clear 2 none ∈ lw_tbl := wi_wsL_law0_r8 _ (List.mem_of_getElem? (i := 2) rfl)
theorem mw_171 : Cond.methodLink RX7 89 yX7_forgetEntries ∈ lw_tbl := wi_wsL_law0_r8 _ (List.mem_of_getElem? (i := 3) rfl)
theorem mw_172 : Cond.instanceMethod yX7_forgetEntries ∈ lw_tbl := wi_wsL_law0_r8 _ (List.mem_of_getElem? (i := 4) rfl)
theorem mw_173 : Cond.selects RX7 yX7_forgetEntries yX7_forgetEntries ∈ lw_tbl := wi_wsL_law0_r8 _ (List.mem_of_getElem? (i := 5) rfl)
theorem mw_174 : Cond.code yX7_forgetEntries cX7_forgetEntries 2 none ∈ lw_tbl := wi_wsL_law0_r8 _ (List.mem_of_getElem? (i := 6) rfl)
theorem mw_175 : Cond.fieldLink RX7 201 "NormalForms" "minorsKnown" "Z" ∈ lw_tbl := wi_wsL_law0_r8 _ (List.mem_of_getElem? (i := 7) rfl)
theorem mw_176 : Cond.methodLink RX7 92 yX7_forgetNumbers ∈ lw_tbl := wi_wsL_law0_r8 _ (List.mem_of_getElem? (i := 8) rfl)
theorem mw_177 : Cond.instanceMethod yX7_forgetNumbers ∈ lw_tbl := wi_wsL_law0_r8 _ (List.mem_of_getElem? (i := 9) rfl)
theorem mw_178 : Cond.selects RX7 yX7_forgetNumbers yX7_forgetNumbers ∈ lw_tbl := wi_wsL_law0_r8 _ (List.mem_of_getElem? (i := 10) rfl)
theorem mw_179 : Cond.code yX7_forgetNumbers cX7_forgetNumbers 1 none ∈ lw_tbl := wi_wsL_law0_r8 _ (List.mem_of_getElem? (i := 11) rfl)
theorem mw_180 : Cond.fieldLink RX7 205 "NormalForms" "numbersMinorsKnown" "Z" ∈ lw_tbl := wi_wsL_law0_r8 _ (List.mem_of_getElem? (i := 12) rfl)
theorem mw_181 : Cond.fieldLink RX7 208 "NormalForms" "rootsKnown" "Z" ∈ lw_tbl := wi_wsL_law0_r8 _ (List.mem_of_getElem? (i := 13) rfl)
theorem mw_182 : Cond.methodLink RL 65 yX8_size ∈ lw_tbl := wi_wsL_law0_r8 _ (List.mem_of_getElem? (i := 14) rfl)
theorem mw_183 : Cond.instanceMethod yX8_size ∈ lw_tbl := wi_wsL_law0_r8 _ (List.mem_of_getElem? (i := 15) rfl)
theorem mw_184 : Cond.selects RX8 yX8_size yX8_size ∈ lw_tbl := wi_wsL_law0_r8 _ (List.mem_of_getElem? (i := 16) rfl)
theorem mw_185 : Cond.code yX8_size cX8_size 4 none ∈ lw_tbl := wi_wsL_law0_r8 _ (List.mem_of_getElem? (i := 17) rfl)
theorem mw_186 : Cond.fieldLink RX8 65 "NormalFormsModel" "code" "I" ∈ lw_tbl := wi_wsL_law0_r8 _ (List.mem_of_getElem? (i := 18) rfl)
theorem mw_187 : Cond.fieldLink RX8 71 "NormalFormsModel" "rows" "I" ∈ lw_tbl := wi_wsL_law0_r8 _ (List.mem_of_getElem? (i := 19) rfl)
theorem mw_188 : Cond.fieldLink RX8 74 "NormalFormsModel" "columns" "I" ∈ lw_tbl := wi_wsL_law0_r8 _ (List.mem_of_getElem? (i := 20) rfl)
theorem mw_189 : Cond.methodLink RL 66 yX8_thrown ∈ lw_tbl := wi_wsL_law0_r8 _ (List.mem_of_getElem? (i := 21) rfl)
theorem mw_190 : Cond.instanceMethod yX8_thrown ∈ lw_tbl := wi_wsL_law0_r8 _ (List.mem_of_getElem? (i := 22) rfl)
theorem mw_191 : Cond.selects RX8 yX8_thrown yX8_thrown ∈ lw_tbl := wi_wsL_law0_r8 _ (List.mem_of_getElem? (i := 23) rfl)
theorem mw_192 : Cond.code yX8_thrown cX8_thrown 1 (some .int) ∈ lw_tbl := wi_wsL_law0_r9 _ (List.mem_of_getElem? (i := 0) rfl)
theorem mw_193 : Cond.methodLink RL 70 yL_put ∈ lw_tbl := wi_wsL_law0_r9 _ (List.mem_of_getElem? (i := 1) rfl)
theorem mw_194 : Cond.static yL_put ∈ lw_tbl := wi_wsL_law0_r9 _ (List.mem_of_getElem? (i := 2) rfl)
theorem mw_195 : Cond.codeWith yL_put cL_put 7 (some .int) [(0, 21, 24, 21)] ∈ lw_tbl := wi_wsL_law0_r9 _ (List.mem_of_getElem? (i := 3) rfl)
theorem mw_196 : Cond.methodLink RL 17 yX7_put ∈ lw_tbl := wi_wsL_law0_r9 _ (List.mem_of_getElem? (i := 4) rfl)
theorem mw_197 : Cond.instanceMethod yX7_put ∈ lw_tbl := wi_wsL_law0_r9 _ (List.mem_of_getElem? (i := 5) rfl)
theorem mw_198 : Cond.selects RX7 yX7_put yX7_put ∈ lw_tbl := wi_wsL_law0_r9 _ (List.mem_of_getElem? (i := 6) rfl)
theorem mw_199 : Cond.code yX7_put cX7_put 7 (some .boolean) ∈ lw_tbl := wi_wsL_law0_r9 _ (List.mem_of_getElem? (i := 7) rfl)
theorem mw_200 : Cond.methodLink RX7 95 yX7_needEntry ∈ lw_tbl := wi_wsL_law0_r9 _ (List.mem_of_getElem? (i := 8) rfl)
theorem mw_201 : Cond.instanceMethod yX7_needEntry ∈ lw_tbl := wi_wsL_law0_r9 _ (List.mem_of_getElem? (i := 9) rfl)
theorem mw_202 : Cond.selects RX7 yX7_needEntry yX7_needEntry ∈ lw_tbl := wi_wsL_law0_r9 _ (List.mem_of_getElem? (i := 10) rfl)
theorem mw_203 : Cond.code yX7_needEntry cX7_needEntry 4 none ∈ lw_tbl := wi_wsL_law0_r9 _ (List.mem_of_getElem? (i := 11) rfl)
theorem mw_204 : Cond.classLink RX7 185 RJx00060 ∈ lw_tbl := wi_wsL_law0_r9 _ (List.mem_of_getElem? (i := 12) rfl)
theorem mw_205 : Cond.instantiable RJx00060 6 ∈ lw_tbl := wi_wsL_law0_r9 _ (List.mem_of_getElem? (i := 13) rfl)
theorem mw_206 : Cond.initialized RJx00060 ∈ lw_tbl := wi_wsL_law0_r9 _ (List.mem_of_getElem? (i := 14) rfl)
theorem mw_207 : Cond.methodLink RX7 182 yX7_needCell ∈ lw_tbl := wi_wsL_law0_r9 _ (List.mem_of_getElem? (i := 15) rfl)
theorem mw_208 : Cond.instanceMethod yX7_needCell ∈ lw_tbl := wi_wsL_law0_r9 _ (List.mem_of_getElem? (i := 16) rfl)
theorem mw_209 : Cond.selects RX7 yX7_needCell yX7_needCell ∈ lw_tbl := wi_wsL_law0_r9 _ (List.mem_of_getElem? (i := 17) rfl)
theorem mw_210 : Cond.code yX7_needCell cX7_needCell 3 none ∈ lw_tbl := wi_wsL_law0_r9 _ (List.mem_of_getElem? (i := 18) rfl)
theorem mw_211 : Cond.methodLink RX7 99 yX2_cell ∈ lw_tbl := wi_wsL_law0_r9 _ (List.mem_of_getElem? (i := 19) rfl)
theorem mw_212 : Cond.instanceMethod yX2_cell ∈ lw_tbl := wi_wsL_law0_r9 _ (List.mem_of_getElem? (i := 20) rfl)
theorem mw_213 : Cond.selects RX2 yX2_cell yX2_cell ∈ lw_tbl := wi_wsL_law0_r9 _ (List.mem_of_getElem? (i := 21) rfl)
theorem mw_214 : Cond.code yX2_cell cX2_cell 3 (some (.object "NormalForms$Polynomial")) ∈ lw_tbl := wi_wsL_law0_r9 _ (List.mem_of_getElem? (i := 22) rfl)
theorem mw_215 : Cond.methodLink RX7 103 yJ9_floorMod_7cf53 ∈ lw_tbl := wi_wsL_law0_r9 _ (List.mem_of_getElem? (i := 23) rfl)
theorem mw_216 : Cond.static yJ9_floorMod_7cf53 ∈ lw_tbl := wi_wsL_law0_r10 _ (List.mem_of_getElem? (i := 0) rfl)
theorem mw_217 : Cond.initialized RJ9 ∈ lw_tbl := wi_wsL_law0_r10 _ (List.mem_of_getElem? (i := 1) rfl)
theorem mw_218 : Cond.code yJ9_floorMod_7cf53 cJ9_floorMod_7cf53 3 (some .int) ∈ lw_tbl := wi_wsL_law0_r10 _ (List.mem_of_getElem? (i := 2) rfl)
theorem mw_219 : Cond.methodLink RX7 109 yX4_numberAt ∈ lw_tbl := wi_wsL_law0_r10 _ (List.mem_of_getElem? (i := 3) rfl)
theorem mw_220 : Cond.instanceMethod yX4_numberAt ∈ lw_tbl := wi_wsL_law0_r10 _ (List.mem_of_getElem? (i := 4) rfl)
theorem mw_221 : Cond.selects RX4 yX4_numberAt yX4_numberAt ∈ lw_tbl := wi_wsL_law0_r10 _ (List.mem_of_getElem? (i := 5) rfl)
theorem mw_222 : Cond.code yX4_numberAt cX4_numberAt 2 (some .int) ∈ lw_tbl := wi_wsL_law0_r10 _ (List.mem_of_getElem? (i := 6) rfl)
theorem mw_223 : Cond.methodLink RX7 113 yX4_setNumber ∈ lw_tbl := wi_wsL_law0_r10 _ (List.mem_of_getElem? (i := 7) rfl)
theorem mw_224 : Cond.instanceMethod yX4_setNumber ∈ lw_tbl := wi_wsL_law0_r10 _ (List.mem_of_getElem? (i := 8) rfl)
theorem mw_225 : Cond.selects RX4 yX4_setNumber yX4_setNumber ∈ lw_tbl := wi_wsL_law0_r10 _ (List.mem_of_getElem? (i := 9) rfl)
theorem mw_226 : Cond.code yX4_setNumber cX4_setNumber 3 none ∈ lw_tbl := wi_wsL_law0_r10 _ (List.mem_of_getElem? (i := 10) rfl)
theorem mw_227 : Cond.methodLink RX4 19 Lib.Math.max.name ∈ lw_tbl := wi_wsL_law0_r10 _ (List.mem_of_getElem? (i := 11) rfl)
theorem mw_228 : Cond.static Lib.Math.max.name ∈ lw_tbl := wi_wsL_law0_r10 _ (List.mem_of_getElem? (i := 12) rfl)
theorem mw_229 : Cond.initialized "java/lang/Math" ∈ lw_tbl := wi_wsL_law0_r10 _ (List.mem_of_getElem? (i := 13) rfl)
theorem mw_230 : Cond.code Lib.Math.max.name Lib.Math.max.code 2 (some .int) ∈ lw_tbl := wi_wsL_law0_r10 _ (List.mem_of_getElem? (i := 14) rfl)
theorem mw_231 : Cond.methodLink RX4 25 yX4_findDegree ∈ lw_tbl := wi_wsL_law0_r10 _ (List.mem_of_getElem? (i := 15) rfl)
theorem mw_232 : Cond.instanceMethod yX4_findDegree ∈ lw_tbl := wi_wsL_law0_r10 _ (List.mem_of_getElem? (i := 16) rfl)
theorem mw_233 : Cond.selects RX4 yX4_findDegree yX4_findDegree ∈ lw_tbl := wi_wsL_law0_r10 _ (List.mem_of_getElem? (i := 17) rfl)
theorem mw_234 : Cond.code yX4_findDegree cX4_findDegree 2 none ∈ lw_tbl := wi_wsL_law0_r10 _ (List.mem_of_getElem? (i := 18) rfl)
theorem mw_235 : Cond.methodLink RL 73 yX8_put ∈ lw_tbl := wi_wsL_law0_r10 _ (List.mem_of_getElem? (i := 19) rfl)
theorem mw_236 : Cond.instanceMethod yX8_put ∈ lw_tbl := wi_wsL_law0_r10 _ (List.mem_of_getElem? (i := 20) rfl)
theorem mw_237 : Cond.selects RX8 yX8_put yX8_put ∈ lw_tbl := wi_wsL_law0_r10 _ (List.mem_of_getElem? (i := 21) rfl)
theorem mw_238 : Cond.code yX8_put cX8_put 7 (some .boolean) ∈ lw_tbl := wi_wsL_law0_r10 _ (List.mem_of_getElem? (i := 22) rfl)
theorem mw_239 : Cond.methodLink RX8 83 yX8_isPlace ∈ lw_tbl := wi_wsL_law0_r10 _ (List.mem_of_getElem? (i := 23) rfl)
theorem mw_240 : Cond.instanceMethod yX8_isPlace ∈ lw_tbl := wi_wsL_law0_r11 _ (List.mem_of_getElem? (i := 0) rfl)
theorem mw_241 : Cond.selects RX8 yX8_isPlace yX8_isPlace ∈ lw_tbl := wi_wsL_law0_r11 _ (List.mem_of_getElem? (i := 1) rfl)
theorem mw_242 : Cond.code yX8_isPlace cX8_isPlace 4 (some .boolean) ∈ lw_tbl := wi_wsL_law0_r11 _ (List.mem_of_getElem? (i := 2) rfl)
theorem mw_243 : Cond.constantLong RX8 81 (3) ∈ lw_tbl := wi_wsL_law0_r11 _ (List.mem_of_getElem? (i := 3) rfl)
theorem mw_244 : Cond.methodLink RX8 77 yX8_in ∈ lw_tbl := wi_wsL_law0_r11 _ (List.mem_of_getElem? (i := 4) rfl)
theorem mw_245 : Cond.static yX8_in ∈ lw_tbl := wi_wsL_law0_r11 _ (List.mem_of_getElem? (i := 5) rfl)
theorem mw_246 : Cond.code yX8_in cX8_in 6 (some .boolean) ∈ lw_tbl := wi_wsL_law0_r11 _ (List.mem_of_getElem? (i := 6) rfl)
theorem mw_247 : Cond.methodLink RX8 87 yX8_modulo ∈ lw_tbl := wi_wsL_law0_r11 _ (List.mem_of_getElem? (i := 7) rfl)
theorem mw_248 : Cond.static yX8_modulo ∈ lw_tbl := wi_wsL_law0_r11 _ (List.mem_of_getElem? (i := 8) rfl)
theorem mw_249 : Cond.code yX8_modulo cX8_modulo 4 (some .int) ∈ lw_tbl := wi_wsL_law0_r11 _ (List.mem_of_getElem? (i := 9) rfl)
theorem mw_250 : Cond.constantLong RX8 69 (32003) ∈ lw_tbl := wi_wsL_law0_r11 _ (List.mem_of_getElem? (i := 10) rfl)
theorem mw_251 : Cond.methodLink RL 74 yL_entry ∈ lw_tbl := wi_wsL_law0_r11 _ (List.mem_of_getElem? (i := 11) rfl)
theorem mw_252 : Cond.static yL_entry ∈ lw_tbl := wi_wsL_law0_r11 _ (List.mem_of_getElem? (i := 12) rfl)
theorem mw_253 : Cond.codeWith yL_entry cL_entry 6 (some .int) [(0, 12, 15, 21)] ∈ lw_tbl := wi_wsL_law0_r11 _ (List.mem_of_getElem? (i := 13) rfl)
theorem mw_254 : Cond.methodLink RL 23 yX7_entry ∈ lw_tbl := wi_wsL_law0_r11 _ (List.mem_of_getElem? (i := 14) rfl)
theorem mw_255 : Cond.instanceMethod yX7_entry ∈ lw_tbl := wi_wsL_law0_r11 _ (List.mem_of_getElem? (i := 15) rfl)
theorem mw_256 : Cond.selects RX7 yX7_entry yX7_entry ∈ lw_tbl := wi_wsL_law0_r11 _ (List.mem_of_getElem? (i := 16) rfl)
theorem mw_257 : Cond.code yX7_entry cX7_entry 4 (some .int) ∈ lw_tbl := wi_wsL_law0_r11 _ (List.mem_of_getElem? (i := 17) rfl)
theorem mw_258 : Cond.methodLink RL 77 yX8_entry ∈ lw_tbl := wi_wsL_law0_r11 _ (List.mem_of_getElem? (i := 18) rfl)
theorem mw_259 : Cond.instanceMethod yX8_entry ∈ lw_tbl := wi_wsL_law0_r11 _ (List.mem_of_getElem? (i := 19) rfl)
theorem mw_260 : Cond.selects RX8 yX8_entry yX8_entry ∈ lw_tbl := wi_wsL_law0_r11 _ (List.mem_of_getElem? (i := 20) rfl)
theorem mw_261 : Cond.code yX8_entry cX8_entry 4 (some .int) ∈ lw_tbl := wi_wsL_law0_r11 _ (List.mem_of_getElem? (i := 21) rfl)
theorem mw_262 : Cond.methodLink RL 78 yL_make ∈ lw_tbl := wi_wsL_law0_r11 _ (List.mem_of_getElem? (i := 22) rfl)
theorem mw_263 : Cond.static yL_make ∈ lw_tbl := wi_wsL_law0_r11 _ (List.mem_of_getElem? (i := 23) rfl)
theorem mw_264 : Cond.codeWith yL_make cL_make 4 (some .int) [(0, 9, 12, 15)] ∈ lw_tbl := wi_wsL_law0_r12 _ (List.mem_of_getElem? (i := 0) rfl)
theorem mw_265 : Cond.methodLink RL 27 yX7_make ∈ lw_tbl := wi_wsL_law0_r12 _ (List.mem_of_getElem? (i := 1) rfl)
theorem mw_266 : Cond.instanceMethod yX7_make ∈ lw_tbl := wi_wsL_law0_r12 _ (List.mem_of_getElem? (i := 2) rfl)
theorem mw_267 : Cond.selects RX7 yX7_make yX7_make ∈ lw_tbl := wi_wsL_law0_r12 _ (List.mem_of_getElem? (i := 3) rfl)
theorem mw_268 : Cond.code yX7_make cX7_make 2 (some .int) ∈ lw_tbl := wi_wsL_law0_r12 _ (List.mem_of_getElem? (i := 4) rfl)
theorem mw_269 : Cond.methodLink RX7 117 yX7_needForm ∈ lw_tbl := wi_wsL_law0_r12 _ (List.mem_of_getElem? (i := 5) rfl)
theorem mw_270 : Cond.instanceMethod yX7_needForm ∈ lw_tbl := wi_wsL_law0_r12 _ (List.mem_of_getElem? (i := 6) rfl)
theorem mw_271 : Cond.selects RX7 yX7_needForm yX7_needForm ∈ lw_tbl := wi_wsL_law0_r12 _ (List.mem_of_getElem? (i := 7) rfl)
theorem mw_272 : Cond.code yX7_needForm cX7_needForm 2 none ∈ lw_tbl := wi_wsL_law0_r12 _ (List.mem_of_getElem? (i := 8) rfl)
theorem mw_273 : Cond.methodLink RX7 120 yX7_knowMinors ∈ lw_tbl := wi_wsL_law0_r12 _ (List.mem_of_getElem? (i := 9) rfl)
theorem mw_274 : Cond.instanceMethod yX7_knowMinors ∈ lw_tbl := wi_wsL_law0_r12 _ (List.mem_of_getElem? (i := 10) rfl)
theorem mw_275 : Cond.selects RX7 yX7_knowMinors yX7_knowMinors ∈ lw_tbl := wi_wsL_law0_r12 _ (List.mem_of_getElem? (i := 11) rfl)
theorem mw_276 : Cond.code yX7_knowMinors cX7_knowMinors 1 none ∈ lw_tbl := wi_wsL_law0_r12 _ (List.mem_of_getElem? (i := 12) rfl)
theorem mw_277 : Cond.methodLink RX7 211 yX3_reckon ∈ lw_tbl := wi_wsL_law0_r12 _ (List.mem_of_getElem? (i := 13) rfl)
theorem mw_278 : Cond.instanceMethod yX3_reckon ∈ lw_tbl := wi_wsL_law0_r12 _ (List.mem_of_getElem? (i := 14) rfl)
theorem mw_279 : Cond.selects RX3 yX3_reckon yX3_reckon ∈ lw_tbl := wi_wsL_law0_r12 _ (List.mem_of_getElem? (i := 15) rfl)
theorem mw_280 : Cond.code yX3_reckon cX3_reckon 5 none ∈ lw_tbl := wi_wsL_law0_r12 _ (List.mem_of_getElem? (i := 16) rfl)
theorem mw_281 : Cond.methodLink RX3 43 yX3_of ∈ lw_tbl := wi_wsL_law0_r12 _ (List.mem_of_getElem? (i := 17) rfl)
theorem mw_282 : Cond.instanceMethod yX3_of ∈ lw_tbl := wi_wsL_law0_r12 _ (List.mem_of_getElem? (i := 18) rfl)
theorem mw_283 : Cond.selects RX3 yX3_of yX3_of ∈ lw_tbl := wi_wsL_law0_r12 _ (List.mem_of_getElem? (i := 19) rfl)
theorem mw_284 : Cond.code yX3_of cX3_of 3 (some (.object "NormalForms$Polynomial")) ∈ lw_tbl := wi_wsL_law0_r12 _ (List.mem_of_getElem? (i := 20) rfl)
theorem mw_285 : Cond.methodLink RX3 47 yX4_setNumber ∈ lw_tbl := wi_wsL_law0_r12 _ (List.mem_of_getElem? (i := 21) rfl)
theorem mw_286 : Cond.methodLink RX3 51 yX4_clear ∈ lw_tbl := wi_wsL_law0_r12 _ (List.mem_of_getElem? (i := 22) rfl)
theorem mw_287 : Cond.methodLink RX3 54 yX3_expand ∈ lw_tbl := wi_wsL_law0_r12 _ (List.mem_of_getElem? (i := 23) rfl)
theorem mw_288 : Cond.instanceMethod yX3_expand ∈ lw_tbl := wi_wsL_law0_r13 _ (List.mem_of_getElem? (i := 0) rfl)
theorem mw_289 : Cond.selects RX3 yX3_expand yX3_expand ∈ lw_tbl := wi_wsL_law0_r13 _ (List.mem_of_getElem? (i := 1) rfl)
theorem mw_290 : Cond.code yX3_expand cX3_expand 9 none ∈ lw_tbl := wi_wsL_law0_r13 _ (List.mem_of_getElem? (i := 2) rfl)
theorem mw_291 : Cond.methodLink RX3 65 yX3_lowestIn ∈ lw_tbl := wi_wsL_law0_r13 _ (List.mem_of_getElem? (i := 3) rfl)
theorem mw_292 : Cond.static yX3_lowestIn ∈ lw_tbl := wi_wsL_law0_r13 _ (List.mem_of_getElem? (i := 4) rfl)
theorem mw_293 : Cond.code yX3_lowestIn cX3_lowestIn 2 (some .int) ∈ lw_tbl := wi_wsL_law0_r13 _ (List.mem_of_getElem? (i := 5) rfl)
theorem mw_294 : Cond.methodLink RX3 68 yX2_cell ∈ lw_tbl := wi_wsL_law0_r13 _ (List.mem_of_getElem? (i := 6) rfl)
theorem mw_295 : Cond.methodLink RX3 73 yX4_addProduct ∈ lw_tbl := wi_wsL_law0_r13 _ (List.mem_of_getElem? (i := 7) rfl)
theorem mw_296 : Cond.instanceMethod yX4_addProduct ∈ lw_tbl := wi_wsL_law0_r13 _ (List.mem_of_getElem? (i := 8) rfl)
theorem mw_297 : Cond.selects RX4 yX4_addProduct yX4_addProduct ∈ lw_tbl := wi_wsL_law0_r13 _ (List.mem_of_getElem? (i := 9) rfl)
theorem mw_298 : Cond.code yX4_addProduct cX4_addProduct 8 none ∈ lw_tbl := wi_wsL_law0_r13 _ (List.mem_of_getElem? (i := 10) rfl)
theorem mw_299 : Cond.methodLink RX4 32 Lib.Math.min.name ∈ lw_tbl := wi_wsL_law0_r13 _ (List.mem_of_getElem? (i := 11) rfl)
theorem mw_300 : Cond.static Lib.Math.min.name ∈ lw_tbl := wi_wsL_law0_r13 _ (List.mem_of_getElem? (i := 12) rfl)
theorem mw_301 : Cond.code Lib.Math.min.name Lib.Math.min.code 2 (some .int) ∈ lw_tbl := wi_wsL_law0_r13 _ (List.mem_of_getElem? (i := 13) rfl)
theorem mw_302 : Cond.methodLink RX3 58 yX0_shrinkToCommon ∈ lw_tbl := wi_wsL_law0_r13 _ (List.mem_of_getElem? (i := 14) rfl)
theorem mw_303 : Cond.instanceMethod yX0_shrinkToCommon ∈ lw_tbl := wi_wsL_law0_r13 _ (List.mem_of_getElem? (i := 15) rfl)
theorem mw_304 : Cond.selects RX0 yX0_shrinkToCommon yX0_shrinkToCommon ∈ lw_tbl := wi_wsL_law0_r13 _ (List.mem_of_getElem? (i := 16) rfl)
theorem mw_305 : Cond.code yX0_shrinkToCommon cX0_shrinkToCommon 7 none ∈ lw_tbl := wi_wsL_law0_r13 _ (List.mem_of_getElem? (i := 17) rfl)
theorem mw_306 : Cond.methodLink RX0 26 yX4_copyFrom ∈ lw_tbl := wi_wsL_law0_r13 _ (List.mem_of_getElem? (i := 18) rfl)
theorem mw_307 : Cond.instanceMethod yX4_copyFrom ∈ lw_tbl := wi_wsL_law0_r13 _ (List.mem_of_getElem? (i := 19) rfl)
theorem mw_308 : Cond.selects RX4 yX4_copyFrom yX4_copyFrom ∈ lw_tbl := wi_wsL_law0_r13 _ (List.mem_of_getElem? (i := 20) rfl)
theorem mw_309 : Cond.code yX4_copyFrom cX4_copyFrom 4 none ∈ lw_tbl := wi_wsL_law0_r13 _ (List.mem_of_getElem? (i := 21) rfl)
theorem mw_310 : Cond.methodLink RX4 29 yX4_clear ∈ lw_tbl := wi_wsL_law0_r13 _ (List.mem_of_getElem? (i := 22) rfl)
theorem mw_311 : Cond.methodLink RX0 34 yX4_divideBy ∈ lw_tbl := wi_wsL_law0_r13 _ (List.mem_of_getElem? (i := 23) rfl)
theorem mw_312 : Cond.instanceMethod yX4_divideBy ∈ lw_tbl := wi_wsL_law0_r14 _ (List.mem_of_getElem? (i := 0) rfl)
theorem mw_313 : Cond.selects RX4 yX4_divideBy yX4_divideBy ∈ lw_tbl := wi_wsL_law0_r14 _ (List.mem_of_getElem? (i := 1) rfl)
theorem mw_314 : Cond.code yX4_divideBy cX4_divideBy 9 none ∈ lw_tbl := wi_wsL_law0_r14 _ (List.mem_of_getElem? (i := 2) rfl)
theorem mw_315 : Cond.static yX7_inverseOf ∈ lw_tbl := wi_wsL_law0_r14 _ (List.mem_of_getElem? (i := 3) rfl)
theorem mw_316 : Cond.code yX7_inverseOf cX7_inverseOf 4 (some .int) ∈ lw_tbl := wi_wsL_law0_r14 _ (List.mem_of_getElem? (i := 4) rfl)
theorem mw_317 : Cond.methodLink RX0 38 yX4_makeMonic ∈ lw_tbl := wi_wsL_law0_r14 _ (List.mem_of_getElem? (i := 5) rfl)
theorem mw_318 : Cond.instanceMethod yX4_makeMonic ∈ lw_tbl := wi_wsL_law0_r14 _ (List.mem_of_getElem? (i := 6) rfl)
theorem mw_319 : Cond.selects RX4 yX4_makeMonic yX4_makeMonic ∈ lw_tbl := wi_wsL_law0_r14 _ (List.mem_of_getElem? (i := 7) rfl)
theorem mw_320 : Cond.code yX4_makeMonic cX4_makeMonic 1 none ∈ lw_tbl := wi_wsL_law0_r14 _ (List.mem_of_getElem? (i := 8) rfl)
theorem mw_321 : Cond.methodLink RX4 39 yX4_multiply ∈ lw_tbl := wi_wsL_law0_r14 _ (List.mem_of_getElem? (i := 9) rfl)
theorem mw_322 : Cond.instanceMethod yX4_multiply ∈ lw_tbl := wi_wsL_law0_r14 _ (List.mem_of_getElem? (i := 10) rfl)
theorem mw_323 : Cond.selects RX4 yX4_multiply yX4_multiply ∈ lw_tbl := wi_wsL_law0_r14 _ (List.mem_of_getElem? (i := 11) rfl)
theorem mw_324 : Cond.code yX4_multiply cX4_multiply 3 none ∈ lw_tbl := wi_wsL_law0_r14 _ (List.mem_of_getElem? (i := 12) rfl)
theorem mw_325 : Cond.methodLink RX3 62 yX3_findInvariants ∈ lw_tbl := wi_wsL_law0_r14 _ (List.mem_of_getElem? (i := 13) rfl)
theorem mw_326 : Cond.instanceMethod yX3_findInvariants ∈ lw_tbl := wi_wsL_law0_r14 _ (List.mem_of_getElem? (i := 14) rfl)
theorem mw_327 : Cond.selects RX3 yX3_findInvariants yX3_findInvariants ∈ lw_tbl := wi_wsL_law0_r14 _ (List.mem_of_getElem? (i := 15) rfl)
theorem mw_328 : Cond.code yX3_findInvariants cX3_findInvariants 2 none ∈ lw_tbl := wi_wsL_law0_r14 _ (List.mem_of_getElem? (i := 16) rfl)
theorem mw_329 : Cond.methodLink RX3 80 yX0_writeQuotient ∈ lw_tbl := wi_wsL_law0_r14 _ (List.mem_of_getElem? (i := 17) rfl)
theorem mw_330 : Cond.instanceMethod yX0_writeQuotient ∈ lw_tbl := wi_wsL_law0_r14 _ (List.mem_of_getElem? (i := 18) rfl)
theorem mw_331 : Cond.selects RX0 yX0_writeQuotient yX0_writeQuotient ∈ lw_tbl := wi_wsL_law0_r14 _ (List.mem_of_getElem? (i := 19) rfl)
theorem mw_332 : Cond.code yX0_writeQuotient cX0_writeQuotient 4 none ∈ lw_tbl := wi_wsL_law0_r14 _ (List.mem_of_getElem? (i := 20) rfl)
theorem mw_333 : Cond.methodLink RX7 123 yX7_makeInverse ∈ lw_tbl := wi_wsL_law0_r14 _ (List.mem_of_getElem? (i := 21) rfl)
theorem mw_334 : Cond.instanceMethod yX7_makeInverse ∈ lw_tbl := wi_wsL_law0_r14 _ (List.mem_of_getElem? (i := 22) rfl)
theorem mw_335 : Cond.selects RX7 yX7_makeInverse yX7_makeInverse ∈ lw_tbl := wi_wsL_law0_r14 _ (List.mem_of_getElem? (i := 23) rfl)
theorem mw_336 : Cond.code yX7_makeInverse cX7_makeInverse 8 (some .int) ∈ lw_tbl := wi_wsL_law0_r15 _ (List.mem_of_getElem? (i := 0) rfl)
theorem mw_337 : Cond.methodLink RX7 150 yX3_leading ∈ lw_tbl := wi_wsL_law0_r15 _ (List.mem_of_getElem? (i := 1) rfl)
theorem mw_338 : Cond.instanceMethod yX3_leading ∈ lw_tbl := wi_wsL_law0_r15 _ (List.mem_of_getElem? (i := 2) rfl)
theorem mw_339 : Cond.selects RX3 yX3_leading yX3_leading ∈ lw_tbl := wi_wsL_law0_r15 _ (List.mem_of_getElem? (i := 3) rfl)
theorem mw_340 : Cond.code yX3_leading cX3_leading 3 (some (.object "NormalForms$Polynomial")) ∈ lw_tbl := wi_wsL_law0_r15 _ (List.mem_of_getElem? (i := 4) rfl)
theorem mw_341 : Cond.methodLink RX7 218 yX7_inverseOf ∈ lw_tbl := wi_wsL_law0_r15 _ (List.mem_of_getElem? (i := 5) rfl)
theorem mw_342 : Cond.methodLink RX7 221 yX3_of ∈ lw_tbl := wi_wsL_law0_r15 _ (List.mem_of_getElem? (i := 6) rfl)
theorem mw_343 : Cond.methodLink RX7 215 yX4_copyFrom ∈ lw_tbl := wi_wsL_law0_r15 _ (List.mem_of_getElem? (i := 7) rfl)
theorem mw_344 : Cond.methodLink RX7 175 yX7_negative ∈ lw_tbl := wi_wsL_law0_r15 _ (List.mem_of_getElem? (i := 8) rfl)
theorem mw_345 : Cond.static yX7_negative ∈ lw_tbl := wi_wsL_law0_r15 _ (List.mem_of_getElem? (i := 9) rfl)
theorem mw_346 : Cond.code yX7_negative cX7_negative 1 (some .int) ∈ lw_tbl := wi_wsL_law0_r15 _ (List.mem_of_getElem? (i := 10) rfl)
theorem mw_347 : Cond.methodLink RX7 224 yX4_multiply ∈ lw_tbl := wi_wsL_law0_r15 _ (List.mem_of_getElem? (i := 11) rfl)
theorem mw_348 : Cond.methodLink RX7 127 yX1_reckon ∈ lw_tbl := wi_wsL_law0_r15 _ (List.mem_of_getElem? (i := 12) rfl)
theorem mw_349 : Cond.instanceMethod yX1_reckon ∈ lw_tbl := wi_wsL_law0_r15 _ (List.mem_of_getElem? (i := 13) rfl)
theorem mw_350 : Cond.selects RX1 yX1_reckon yX1_reckon ∈ lw_tbl := wi_wsL_law0_r15 _ (List.mem_of_getElem? (i := 14) rfl)
theorem mw_351 : Cond.code yX1_reckon cX1_reckon 3 none ∈ lw_tbl := wi_wsL_law0_r15 _ (List.mem_of_getElem? (i := 15) rfl)
theorem mw_352 : Cond.methodLink RX1 40 yX6_copyFrom ∈ lw_tbl := wi_wsL_law0_r15 _ (List.mem_of_getElem? (i := 16) rfl)
theorem mw_353 : Cond.instanceMethod yX6_copyFrom ∈ lw_tbl := wi_wsL_law0_r15 _ (List.mem_of_getElem? (i := 17) rfl)
theorem mw_354 : Cond.selects RX6 yX6_copyFrom yX6_copyFrom ∈ lw_tbl := wi_wsL_law0_r15 _ (List.mem_of_getElem? (i := 18) rfl)
theorem mw_355 : Cond.code yX6_copyFrom cX6_copyFrom 3 none ∈ lw_tbl := wi_wsL_law0_r15 _ (List.mem_of_getElem? (i := 19) rfl)
theorem mw_356 : Cond.methodLink RX6 23 yX4_copyFrom ∈ lw_tbl := wi_wsL_law0_r15 _ (List.mem_of_getElem? (i := 20) rfl)
theorem mw_357 : Cond.methodLink RX1 44 yX1_insert ∈ lw_tbl := wi_wsL_law0_r15 _ (List.mem_of_getElem? (i := 21) rfl)
theorem mw_358 : Cond.instanceMethod yX1_insert ∈ lw_tbl := wi_wsL_law0_r15 _ (List.mem_of_getElem? (i := 22) rfl)
theorem mw_359 : Cond.selects RX1 yX1_insert yX1_insert ∈ lw_tbl := wi_wsL_law0_r15 _ (List.mem_of_getElem? (i := 23) rfl)
theorem mw_360 : Cond.code yX1_insert cX1_insert 3 none ∈ lw_tbl := wi_wsL_law0_r16 _ (List.mem_of_getElem? (i := 0) rfl)
theorem mw_361 : Cond.methodLink RX1 61 yX1_exchange ∈ lw_tbl := wi_wsL_law0_r16 _ (List.mem_of_getElem? (i := 1) rfl)
theorem mw_362 : Cond.instanceMethod yX1_exchange ∈ lw_tbl := wi_wsL_law0_r16 _ (List.mem_of_getElem? (i := 2) rfl)
theorem mw_363 : Cond.selects RX1 yX1_exchange yX1_exchange ∈ lw_tbl := wi_wsL_law0_r16 _ (List.mem_of_getElem? (i := 3) rfl)
theorem mw_364 : Cond.code yX1_exchange cX1_exchange 3 none ∈ lw_tbl := wi_wsL_law0_r16 _ (List.mem_of_getElem? (i := 4) rfl)
theorem mw_365 : Cond.methodLink RX1 64 yX6_lowerBy ∈ lw_tbl := wi_wsL_law0_r16 _ (List.mem_of_getElem? (i := 5) rfl)
theorem mw_366 : Cond.instanceMethod yX6_lowerBy ∈ lw_tbl := wi_wsL_law0_r16 _ (List.mem_of_getElem? (i := 6) rfl)
theorem mw_367 : Cond.selects RX6 yX6_lowerBy yX6_lowerBy ∈ lw_tbl := wi_wsL_law0_r16 _ (List.mem_of_getElem? (i := 7) rfl)
theorem mw_368 : Cond.code yX6_lowerBy cX6_lowerBy 5 none ∈ lw_tbl := wi_wsL_law0_r16 _ (List.mem_of_getElem? (i := 8) rfl)
theorem mw_369 : Cond.methodLink RX6 27 yX4_divideBy ∈ lw_tbl := wi_wsL_law0_r16 _ (List.mem_of_getElem? (i := 9) rfl)
theorem mw_370 : Cond.methodLink RX6 31 yX4_addProduct ∈ lw_tbl := wi_wsL_law0_r16 _ (List.mem_of_getElem? (i := 10) rfl)
theorem mw_371 : Cond.methodLink RX1 47 yX1_reduce ∈ lw_tbl := wi_wsL_law0_r16 _ (List.mem_of_getElem? (i := 11) rfl)
theorem mw_372 : Cond.instanceMethod yX1_reduce ∈ lw_tbl := wi_wsL_law0_r16 _ (List.mem_of_getElem? (i := 12) rfl)
theorem mw_373 : Cond.selects RX1 yX1_reduce yX1_reduce ∈ lw_tbl := wi_wsL_law0_r16 _ (List.mem_of_getElem? (i := 13) rfl)
theorem mw_374 : Cond.code yX1_reduce cX1_reduce 3 none ∈ lw_tbl := wi_wsL_law0_r16 _ (List.mem_of_getElem? (i := 14) rfl)
theorem mw_375 : Cond.methodLink RX1 68 yX6_makeMonicAt ∈ lw_tbl := wi_wsL_law0_r16 _ (List.mem_of_getElem? (i := 15) rfl)
theorem mw_376 : Cond.instanceMethod yX6_makeMonicAt ∈ lw_tbl := wi_wsL_law0_r16 _ (List.mem_of_getElem? (i := 16) rfl)
theorem mw_377 : Cond.selects RX6 yX6_makeMonicAt yX6_makeMonicAt ∈ lw_tbl := wi_wsL_law0_r16 _ (List.mem_of_getElem? (i := 17) rfl)
theorem mw_378 : Cond.code yX6_makeMonicAt cX6_makeMonicAt 5 none ∈ lw_tbl := wi_wsL_law0_r16 _ (List.mem_of_getElem? (i := 18) rfl)
theorem mw_379 : Cond.methodLink RX6 39 yX4_numberAt ∈ lw_tbl := wi_wsL_law0_r16 _ (List.mem_of_getElem? (i := 19) rfl)
theorem mw_380 : Cond.methodLink RX6 46 yX4_multiply ∈ lw_tbl := wi_wsL_law0_r16 _ (List.mem_of_getElem? (i := 20) rfl)
theorem mw_381 : Cond.methodLink RX7 131 yX1_writeTo ∈ lw_tbl := wi_wsL_law0_r16 _ (List.mem_of_getElem? (i := 21) rfl)
theorem mw_382 : Cond.instanceMethod yX1_writeTo ∈ lw_tbl := wi_wsL_law0_r16 _ (List.mem_of_getElem? (i := 22) rfl)
theorem mw_383 : Cond.selects RX1 yX1_writeTo yX1_writeTo ∈ lw_tbl := wi_wsL_law0_r16 _ (List.mem_of_getElem? (i := 23) rfl)
theorem mw_384 : Cond.code yX1_writeTo cX1_writeTo 4 none ∈ lw_tbl := wi_wsL_law0_r17 _ (List.mem_of_getElem? (i := 0) rfl)
theorem mw_385 : Cond.methodLink RX1 50 yX2_clear ∈ lw_tbl := wi_wsL_law0_r17 _ (List.mem_of_getElem? (i := 1) rfl)
theorem mw_386 : Cond.methodLink RX7 134 yX7_makeSmith ∈ lw_tbl := wi_wsL_law0_r17 _ (List.mem_of_getElem? (i := 2) rfl)
theorem mw_387 : Cond.instanceMethod yX7_makeSmith ∈ lw_tbl := wi_wsL_law0_r17 _ (List.mem_of_getElem? (i := 3) rfl)
theorem mw_388 : Cond.selects RX7 yX7_makeSmith yX7_makeSmith ∈ lw_tbl := wi_wsL_law0_r17 _ (List.mem_of_getElem? (i := 4) rfl)
theorem mw_389 : Cond.code yX7_makeSmith cX7_makeSmith 3 none ∈ lw_tbl := wi_wsL_law0_r17 _ (List.mem_of_getElem? (i := 5) rfl)
theorem mw_390 : Cond.methodLink RL 81 yX8_make ∈ lw_tbl := wi_wsL_law0_r17 _ (List.mem_of_getElem? (i := 6) rfl)
theorem mw_391 : Cond.instanceMethod yX8_make ∈ lw_tbl := wi_wsL_law0_r17 _ (List.mem_of_getElem? (i := 7) rfl)
theorem mw_392 : Cond.selects RX8 yX8_make yX8_make ∈ lw_tbl := wi_wsL_law0_r17 _ (List.mem_of_getElem? (i := 8) rfl)
theorem mw_393 : Cond.code yX8_make cX8_make 2 (some .int) ∈ lw_tbl := wi_wsL_law0_r17 _ (List.mem_of_getElem? (i := 9) rfl)
theorem mw_394 : Cond.constantLong RX8 140 (2) ∈ lw_tbl := wi_wsL_law0_r17 _ (List.mem_of_getElem? (i := 10) rfl)
theorem mw_395 : Cond.methodLink RX8 106 yX8_loadEntries ∈ lw_tbl := wi_wsL_law0_r17 _ (List.mem_of_getElem? (i := 11) rfl)
theorem mw_396 : Cond.instanceMethod yX8_loadEntries ∈ lw_tbl := wi_wsL_law0_r17 _ (List.mem_of_getElem? (i := 12) rfl)
theorem mw_397 : Cond.selects RX8 yX8_loadEntries yX8_loadEntries ∈ lw_tbl := wi_wsL_law0_r17 _ (List.mem_of_getElem? (i := 13) rfl)
theorem mw_398 : Cond.code yX8_loadEntries cX8_loadEntries 2 none ∈ lw_tbl := wi_wsL_law0_r17 _ (List.mem_of_getElem? (i := 14) rfl)
theorem mw_399 : Cond.methodLink RX8 99 yX8_findMinors ∈ lw_tbl := wi_wsL_law0_r17 _ (List.mem_of_getElem? (i := 15) rfl)
theorem mw_400 : Cond.instanceMethod yX8_findMinors ∈ lw_tbl := wi_wsL_law0_r17 _ (List.mem_of_getElem? (i := 16) rfl)
theorem mw_401 : Cond.selects RX8 yX8_findMinors yX8_findMinors ∈ lw_tbl := wi_wsL_law0_r17 _ (List.mem_of_getElem? (i := 17) rfl)
theorem mw_402 : Cond.code yX8_findMinors cX8_findMinors 3 none ∈ lw_tbl := wi_wsL_law0_r17 _ (List.mem_of_getElem? (i := 18) rfl)
theorem mw_403 : Cond.methodLink RX8 91 yX8_bits ∈ lw_tbl := wi_wsL_law0_r17 _ (List.mem_of_getElem? (i := 19) rfl)
theorem mw_404 : Cond.static yX8_bits ∈ lw_tbl := wi_wsL_law0_r17 _ (List.mem_of_getElem? (i := 20) rfl)
theorem mw_405 : Cond.code yX8_bits cX8_bits 1 (some .int) ∈ lw_tbl := wi_wsL_law0_r17 _ (List.mem_of_getElem? (i := 21) rfl)
theorem mw_406 : Cond.methodLink RX8 95 yX8_findMinor ∈ lw_tbl := wi_wsL_law0_r17 _ (List.mem_of_getElem? (i := 22) rfl)
theorem mw_407 : Cond.instanceMethod yX8_findMinor ∈ lw_tbl := wi_wsL_law0_r17 _ (List.mem_of_getElem? (i := 23) rfl)
theorem mw_408 : Cond.selects RX8 yX8_findMinor yX8_findMinor ∈ lw_tbl := wi_wsL_law0_r18 _ (List.mem_of_getElem? (i := 0) rfl)
theorem mw_409 : Cond.code yX8_findMinor cX8_findMinor 13 none ∈ lw_tbl := wi_wsL_law0_r18 _ (List.mem_of_getElem? (i := 1) rfl)
theorem mw_410 : Cond.methodLink RX8 142 yX8_clearForm ∈ lw_tbl := wi_wsL_law0_r18 _ (List.mem_of_getElem? (i := 2) rfl)
theorem mw_411 : Cond.instanceMethod yX8_clearForm ∈ lw_tbl := wi_wsL_law0_r18 _ (List.mem_of_getElem? (i := 3) rfl)
theorem mw_412 : Cond.selects RX8 yX8_clearForm yX8_clearForm ∈ lw_tbl := wi_wsL_law0_r18 _ (List.mem_of_getElem? (i := 4) rfl)
theorem mw_413 : Cond.code yX8_clearForm cX8_clearForm 3 none ∈ lw_tbl := wi_wsL_law0_r18 _ (List.mem_of_getElem? (i := 5) rfl)
theorem mw_414 : Cond.methodLink RX8 146 yX8_makeHermite ∈ lw_tbl := wi_wsL_law0_r18 _ (List.mem_of_getElem? (i := 6) rfl)
theorem mw_415 : Cond.instanceMethod yX8_makeHermite ∈ lw_tbl := wi_wsL_law0_r18 _ (List.mem_of_getElem? (i := 7) rfl)
theorem mw_416 : Cond.selects RX8 yX8_makeHermite yX8_makeHermite ∈ lw_tbl := wi_wsL_law0_r18 _ (List.mem_of_getElem? (i := 8) rfl)
theorem mw_417 : Cond.code yX8_makeHermite cX8_makeHermite 4 none ∈ lw_tbl := wi_wsL_law0_r18 _ (List.mem_of_getElem? (i := 9) rfl)
theorem mw_418 : Cond.methodLink RX8 129 yX8_empty ∈ lw_tbl := wi_wsL_law0_r18 _ (List.mem_of_getElem? (i := 10) rfl)
theorem mw_419 : Cond.static yX8_empty ∈ lw_tbl := wi_wsL_law0_r18 _ (List.mem_of_getElem? (i := 11) rfl)
theorem mw_420 : Cond.code yX8_empty cX8_empty 2 none ∈ lw_tbl := wi_wsL_law0_r18 _ (List.mem_of_getElem? (i := 12) rfl)
theorem mw_421 : Cond.methodLink RX8 181 yX8_give ∈ lw_tbl := wi_wsL_law0_r18 _ (List.mem_of_getElem? (i := 13) rfl)
theorem mw_422 : Cond.instanceMethod yX8_give ∈ lw_tbl := wi_wsL_law0_r18 _ (List.mem_of_getElem? (i := 14) rfl)
theorem mw_423 : Cond.selects RX8 yX8_give yX8_give ∈ lw_tbl := wi_wsL_law0_r18 _ (List.mem_of_getElem? (i := 15) rfl)
theorem mw_424 : Cond.code yX8_give cX8_give 5 none ∈ lw_tbl := wi_wsL_law0_r18 _ (List.mem_of_getElem? (i := 16) rfl)
theorem mw_425 : Cond.methodLink RX8 184 yX8_insert ∈ lw_tbl := wi_wsL_law0_r18 _ (List.mem_of_getElem? (i := 17) rfl)
theorem mw_426 : Cond.instanceMethod yX8_insert ∈ lw_tbl := wi_wsL_law0_r18 _ (List.mem_of_getElem? (i := 18) rfl)
theorem mw_427 : Cond.selects RX8 yX8_insert yX8_insert ∈ lw_tbl := wi_wsL_law0_r18 _ (List.mem_of_getElem? (i := 19) rfl)
theorem mw_428 : Cond.code yX8_insert cX8_insert 3 none ∈ lw_tbl := wi_wsL_law0_r18 _ (List.mem_of_getElem? (i := 20) rfl)
theorem mw_429 : Cond.methodLink RX8 166 yX8_isNone ∈ lw_tbl := wi_wsL_law0_r18 _ (List.mem_of_getElem? (i := 21) rfl)
theorem mw_430 : Cond.instanceMethod yX8_isNone ∈ lw_tbl := wi_wsL_law0_r18 _ (List.mem_of_getElem? (i := 22) rfl)
theorem mw_431 : Cond.selects RX8 yX8_isNone yX8_isNone ∈ lw_tbl := wi_wsL_law0_r18 _ (List.mem_of_getElem? (i := 23) rfl)
theorem mw_432 : Cond.code yX8_isNone cX8_isNone 3 (some .boolean) ∈ lw_tbl := wi_wsL_law0_r19 _ (List.mem_of_getElem? (i := 0) rfl)
theorem mw_433 : Cond.methodLink RX8 162 yX8_take ∈ lw_tbl := wi_wsL_law0_r19 _ (List.mem_of_getElem? (i := 1) rfl)
theorem mw_434 : Cond.instanceMethod yX8_take ∈ lw_tbl := wi_wsL_law0_r19 _ (List.mem_of_getElem? (i := 2) rfl)
theorem mw_435 : Cond.selects RX8 yX8_take yX8_take ∈ lw_tbl := wi_wsL_law0_r19 _ (List.mem_of_getElem? (i := 3) rfl)
theorem mw_436 : Cond.code yX8_take cX8_take 5 none ∈ lw_tbl := wi_wsL_law0_r19 _ (List.mem_of_getElem? (i := 4) rfl)
theorem mw_437 : Cond.methodLink RX8 122 yX8_high ∈ lw_tbl := wi_wsL_law0_r19 _ (List.mem_of_getElem? (i := 5) rfl)
theorem mw_438 : Cond.static yX8_high ∈ lw_tbl := wi_wsL_law0_r19 _ (List.mem_of_getElem? (i := 6) rfl)
theorem mw_439 : Cond.code yX8_high cX8_high 2 (some .int) ∈ lw_tbl := wi_wsL_law0_r19 _ (List.mem_of_getElem? (i := 7) rfl)
theorem mw_440 : Cond.methodLink RX8 169 yX8_exchange ∈ lw_tbl := wi_wsL_law0_r19 _ (List.mem_of_getElem? (i := 8) rfl)
theorem mw_441 : Cond.instanceMethod yX8_exchange ∈ lw_tbl := wi_wsL_law0_r19 _ (List.mem_of_getElem? (i := 9) rfl)
theorem mw_442 : Cond.selects RX8 yX8_exchange yX8_exchange ∈ lw_tbl := wi_wsL_law0_r19 _ (List.mem_of_getElem? (i := 10) rfl)
theorem mw_443 : Cond.code yX8_exchange cX8_exchange 5 none ∈ lw_tbl := wi_wsL_law0_r19 _ (List.mem_of_getElem? (i := 11) rfl)
theorem mw_444 : Cond.methodLink RX8 172 yX8_settle ∈ lw_tbl := wi_wsL_law0_r19 _ (List.mem_of_getElem? (i := 12) rfl)
theorem mw_445 : Cond.instanceMethod yX8_settle ∈ lw_tbl := wi_wsL_law0_r19 _ (List.mem_of_getElem? (i := 13) rfl)
theorem mw_446 : Cond.selects RX8 yX8_settle yX8_settle ∈ lw_tbl := wi_wsL_law0_r19 _ (List.mem_of_getElem? (i := 14) rfl)
theorem mw_447 : Cond.code yX8_settle cX8_settle 5 none ∈ lw_tbl := wi_wsL_law0_r19 _ (List.mem_of_getElem? (i := 15) rfl)
theorem mw_448 : Cond.methodLink RX8 126 yX8_inverse ∈ lw_tbl := wi_wsL_law0_r19 _ (List.mem_of_getElem? (i := 16) rfl)
theorem mw_449 : Cond.static yX8_inverse ∈ lw_tbl := wi_wsL_law0_r19 _ (List.mem_of_getElem? (i := 17) rfl)
theorem mw_450 : Cond.code yX8_inverse cX8_inverse 6 (some .int) ∈ lw_tbl := wi_wsL_law0_r19 _ (List.mem_of_getElem? (i := 18) rfl)
theorem mw_451 : Cond.methodLink RX8 178 yX8_lower ∈ lw_tbl := wi_wsL_law0_r19 _ (List.mem_of_getElem? (i := 19) rfl)
theorem mw_452 : Cond.instanceMethod yX8_lower ∈ lw_tbl := wi_wsL_law0_r19 _ (List.mem_of_getElem? (i := 20) rfl)
theorem mw_453 : Cond.selects RX8 yX8_lower yX8_lower ∈ lw_tbl := wi_wsL_law0_r19 _ (List.mem_of_getElem? (i := 21) rfl)
theorem mw_454 : Cond.code yX8_lower cX8_lower 3 none ∈ lw_tbl := wi_wsL_law0_r19 _ (List.mem_of_getElem? (i := 22) rfl)
theorem mw_455 : Cond.methodLink RX8 133 yX8_divide ∈ lw_tbl := wi_wsL_law0_r19 _ (List.mem_of_getElem? (i := 23) rfl)
theorem mw_456 : Cond.instanceMethod yX8_divide ∈ lw_tbl := wi_wsL_law0_r20 _ (List.mem_of_getElem? (i := 0) rfl)
theorem mw_457 : Cond.selects RX8 yX8_divide yX8_divide ∈ lw_tbl := wi_wsL_law0_r20 _ (List.mem_of_getElem? (i := 1) rfl)
theorem mw_458 : Cond.code yX8_divide cX8_divide 10 none ∈ lw_tbl := wi_wsL_law0_r20 _ (List.mem_of_getElem? (i := 2) rfl)
theorem mw_459 : Cond.methodLink RX8 175 yX8_takeOff ∈ lw_tbl := wi_wsL_law0_r20 _ (List.mem_of_getElem? (i := 3) rfl)
theorem mw_460 : Cond.instanceMethod yX8_takeOff ∈ lw_tbl := wi_wsL_law0_r20 _ (List.mem_of_getElem? (i := 4) rfl)
theorem mw_461 : Cond.selects RX8 yX8_takeOff yX8_takeOff ∈ lw_tbl := wi_wsL_law0_r20 _ (List.mem_of_getElem? (i := 5) rfl)
theorem mw_462 : Cond.code yX8_takeOff cX8_takeOff 11 none ∈ lw_tbl := wi_wsL_law0_r20 _ (List.mem_of_getElem? (i := 6) rfl)
theorem mw_463 : Cond.methodLink RX8 158 yX8_put0 ∈ lw_tbl := wi_wsL_law0_r20 _ (List.mem_of_getElem? (i := 7) rfl)
theorem mw_464 : Cond.instanceMethod yX8_put0 ∈ lw_tbl := wi_wsL_law0_r20 _ (List.mem_of_getElem? (i := 8) rfl)
theorem mw_465 : Cond.selects RX8 yX8_put0 yX8_put0 ∈ lw_tbl := wi_wsL_law0_r20 _ (List.mem_of_getElem? (i := 9) rfl)
theorem mw_466 : Cond.code yX8_put0 cX8_put0 6 none ∈ lw_tbl := wi_wsL_law0_r20 _ (List.mem_of_getElem? (i := 10) rfl)
theorem mw_467 : Cond.methodLink RX8 149 yX8_makeSmith ∈ lw_tbl := wi_wsL_law0_r20 _ (List.mem_of_getElem? (i := 11) rfl)
theorem mw_468 : Cond.instanceMethod yX8_makeSmith ∈ lw_tbl := wi_wsL_law0_r20 _ (List.mem_of_getElem? (i := 12) rfl)
theorem mw_469 : Cond.selects RX8 yX8_makeSmith yX8_makeSmith ∈ lw_tbl := wi_wsL_law0_r20 _ (List.mem_of_getElem? (i := 13) rfl)
theorem mw_470 : Cond.code yX8_makeSmith cX8_makeSmith 6 none ∈ lw_tbl := wi_wsL_law0_r20 _ (List.mem_of_getElem? (i := 14) rfl)
theorem mw_471 : Cond.methodLink RX8 109 yX8_rankNow ∈ lw_tbl := wi_wsL_law0_r20 _ (List.mem_of_getElem? (i := 15) rfl)
theorem mw_472 : Cond.instanceMethod yX8_rankNow ∈ lw_tbl := wi_wsL_law0_r20 _ (List.mem_of_getElem? (i := 16) rfl)
theorem mw_473 : Cond.selects RX8 yX8_rankNow yX8_rankNow ∈ lw_tbl := wi_wsL_law0_r20 _ (List.mem_of_getElem? (i := 17) rfl)
theorem mw_474 : Cond.code yX8_rankNow cX8_rankNow 4 (some .int) ∈ lw_tbl := wi_wsL_law0_r20 _ (List.mem_of_getElem? (i := 18) rfl)
theorem mw_475 : Cond.methodLink RX8 102 yX8_isMinor ∈ lw_tbl := wi_wsL_law0_r20 _ (List.mem_of_getElem? (i := 19) rfl)
theorem mw_476 : Cond.instanceMethod yX8_isMinor ∈ lw_tbl := wi_wsL_law0_r20 _ (List.mem_of_getElem? (i := 20) rfl)
theorem mw_477 : Cond.selects RX8 yX8_isMinor yX8_isMinor ∈ lw_tbl := wi_wsL_law0_r20 _ (List.mem_of_getElem? (i := 21) rfl)
theorem mw_478 : Cond.code yX8_isMinor cX8_isMinor 5 (some .boolean) ∈ lw_tbl := wi_wsL_law0_r20 _ (List.mem_of_getElem? (i := 22) rfl)
theorem mw_479 : Cond.methodLink RX8 155 yX8_common ∈ lw_tbl := wi_wsL_law0_r20 _ (List.mem_of_getElem? (i := 23) rfl)
theorem mw_480 : Cond.instanceMethod yX8_common ∈ lw_tbl := wi_wsL_law0_r21 _ (List.mem_of_getElem? (i := 0) rfl)
theorem mw_481 : Cond.selects RX8 yX8_common yX8_common ∈ lw_tbl := wi_wsL_law0_r21 _ (List.mem_of_getElem? (i := 1) rfl)
theorem mw_482 : Cond.code yX8_common cX8_common 3 none ∈ lw_tbl := wi_wsL_law0_r21 _ (List.mem_of_getElem? (i := 2) rfl)
theorem mw_483 : Cond.methodLink RX8 137 yX8_makeMonic ∈ lw_tbl := wi_wsL_law0_r21 _ (List.mem_of_getElem? (i := 3) rfl)
theorem mw_484 : Cond.static yX8_makeMonic ∈ lw_tbl := wi_wsL_law0_r21 _ (List.mem_of_getElem? (i := 4) rfl)
theorem mw_485 : Cond.code yX8_makeMonic cX8_makeMonic 5 none ∈ lw_tbl := wi_wsL_law0_r21 _ (List.mem_of_getElem? (i := 5) rfl)
theorem mw_486 : Cond.methodLink RX8 152 yX8_makeInverse ∈ lw_tbl := wi_wsL_law0_r21 _ (List.mem_of_getElem? (i := 6) rfl)
theorem mw_487 : Cond.instanceMethod yX8_makeInverse ∈ lw_tbl := wi_wsL_law0_r21 _ (List.mem_of_getElem? (i := 7) rfl)
theorem mw_488 : Cond.selects RX8 yX8_makeInverse yX8_makeInverse ∈ lw_tbl := wi_wsL_law0_r21 _ (List.mem_of_getElem? (i := 8) rfl)
theorem mw_489 : Cond.code yX8_makeInverse cX8_makeInverse 10 (some .boolean) ∈ lw_tbl := wi_wsL_law0_r21 _ (List.mem_of_getElem? (i := 9) rfl)
theorem mw_490 : Cond.methodLink RX8 119 yX8_whole ∈ lw_tbl := wi_wsL_law0_r21 _ (List.mem_of_getElem? (i := 10) rfl)
theorem mw_491 : Cond.instanceMethod yX8_whole ∈ lw_tbl := wi_wsL_law0_r21 _ (List.mem_of_getElem? (i := 11) rfl)
theorem mw_492 : Cond.selects RX8 yX8_whole yX8_whole ∈ lw_tbl := wi_wsL_law0_r21 _ (List.mem_of_getElem? (i := 12) rfl)
theorem mw_493 : Cond.code yX8_whole cX8_whole 2 (some .int) ∈ lw_tbl := wi_wsL_law0_r21 _ (List.mem_of_getElem? (i := 13) rfl)
theorem mw_494 : Cond.methodLink RL 82 yL_degree ∈ lw_tbl := wi_wsL_law0_r21 _ (List.mem_of_getElem? (i := 14) rfl)
theorem mw_495 : Cond.static yL_degree ∈ lw_tbl := wi_wsL_law0_r21 _ (List.mem_of_getElem? (i := 15) rfl)
theorem mw_496 : Cond.codeWith yL_degree cL_degree 6 (some .int) [(0, 12, 15, 15), (0, 12, 19, 34), (0, 12, 23, 21)] ∈ lw_tbl := wi_wsL_law0_r21 _ (List.mem_of_getElem? (i := 16) rfl)
theorem mw_497 : Cond.classLink RL 34 "java/lang/IllegalStateException" ∈ lw_tbl := wi_wsL_law0_r21 _ (List.mem_of_getElem? (i := 17) rfl)
theorem mw_498 : Cond.methodLink RL 31 yX7_degree ∈ lw_tbl := wi_wsL_law0_r21 _ (List.mem_of_getElem? (i := 18) rfl)
theorem mw_499 : Cond.instanceMethod yX7_degree ∈ lw_tbl := wi_wsL_law0_r21 _ (List.mem_of_getElem? (i := 19) rfl)
theorem mw_500 : Cond.selects RX7 yX7_degree yX7_degree ∈ lw_tbl := wi_wsL_law0_r21 _ (List.mem_of_getElem? (i := 20) rfl)
theorem mw_501 : Cond.code yX7_degree cX7_degree 4 (some .int) ∈ lw_tbl := wi_wsL_law0_r21 _ (List.mem_of_getElem? (i := 21) rfl)
theorem mw_502 : Cond.methodLink RX7 140 yX7_formCell ∈ lw_tbl := wi_wsL_law0_r21 _ (List.mem_of_getElem? (i := 22) rfl)
theorem mw_503 : Cond.instanceMethod yX7_formCell ∈ lw_tbl := wi_wsL_law0_r21 _ (List.mem_of_getElem? (i := 23) rfl)
theorem mw_504 : Cond.selects RX7 yX7_formCell yX7_formCell ∈ lw_tbl := wi_wsL_law0_r22 _ (List.mem_of_getElem? (i := 0) rfl)
theorem mw_505 : Cond.code yX7_formCell cX7_formCell 4 (some (.object "NormalForms$Polynomial")) ∈ lw_tbl := wi_wsL_law0_r22 _ (List.mem_of_getElem? (i := 1) rfl)
theorem mw_506 : Cond.classLink RX7 194 "java/lang/IllegalStateException" ∈ lw_tbl := wi_wsL_law0_r22 _ (List.mem_of_getElem? (i := 2) rfl)
theorem mw_507 : Cond.initialized "java/lang/IllegalStateException" ∈ lw_tbl := wi_wsL_law0_r22 _ (List.mem_of_getElem? (i := 3) rfl)
theorem mw_508 : Cond.methodLink RL 84 yX8_degree ∈ lw_tbl := wi_wsL_law0_r22 _ (List.mem_of_getElem? (i := 4) rfl)
theorem mw_509 : Cond.instanceMethod yX8_degree ∈ lw_tbl := wi_wsL_law0_r22 _ (List.mem_of_getElem? (i := 5) rfl)
theorem mw_510 : Cond.selects RX8 yX8_degree yX8_degree ∈ lw_tbl := wi_wsL_law0_r22 _ (List.mem_of_getElem? (i := 6) rfl)
theorem mw_511 : Cond.code yX8_degree cX8_degree 5 (some .int) ∈ lw_tbl := wi_wsL_law0_r22 _ (List.mem_of_getElem? (i := 7) rfl)
theorem mw_512 : Cond.methodLink RX8 187 yX8_isThere ∈ lw_tbl := wi_wsL_law0_r22 _ (List.mem_of_getElem? (i := 8) rfl)
theorem mw_513 : Cond.instanceMethod yX8_isThere ∈ lw_tbl := wi_wsL_law0_r22 _ (List.mem_of_getElem? (i := 9) rfl)
theorem mw_514 : Cond.selects RX8 yX8_isThere yX8_isThere ∈ lw_tbl := wi_wsL_law0_r22 _ (List.mem_of_getElem? (i := 10) rfl)
theorem mw_515 : Cond.code yX8_isThere cX8_isThere 4 (some .boolean) ∈ lw_tbl := wi_wsL_law0_r22 _ (List.mem_of_getElem? (i := 11) rfl)
theorem mw_516 : Cond.methodLink RL 85 yL_at ∈ lw_tbl := wi_wsL_law0_r22 _ (List.mem_of_getElem? (i := 12) rfl)
theorem mw_517 : Cond.static yL_at ∈ lw_tbl := wi_wsL_law0_r22 _ (List.mem_of_getElem? (i := 13) rfl)
theorem mw_518 : Cond.codeWith yL_at cL_at 7 (some .int) [(0, 14, 17, 15), (0, 14, 21, 34), (0, 14, 25, 21)] ∈ lw_tbl := wi_wsL_law0_r22 _ (List.mem_of_getElem? (i := 14) rfl)
theorem mw_519 : Cond.methodLink RL 36 yX7_at ∈ lw_tbl := wi_wsL_law0_r22 _ (List.mem_of_getElem? (i := 15) rfl)
theorem mw_520 : Cond.instanceMethod yX7_at ∈ lw_tbl := wi_wsL_law0_r22 _ (List.mem_of_getElem? (i := 16) rfl)
theorem mw_521 : Cond.selects RX7 yX7_at yX7_at ∈ lw_tbl := wi_wsL_law0_r22 _ (List.mem_of_getElem? (i := 17) rfl)
theorem mw_522 : Cond.code yX7_at cX7_at 5 (some .int) ∈ lw_tbl := wi_wsL_law0_r22 _ (List.mem_of_getElem? (i := 18) rfl)
theorem mw_523 : Cond.methodLink RL 87 yX8_at ∈ lw_tbl := wi_wsL_law0_r22 _ (List.mem_of_getElem? (i := 19) rfl)
theorem mw_524 : Cond.instanceMethod yX8_at ∈ lw_tbl := wi_wsL_law0_r22 _ (List.mem_of_getElem? (i := 20) rfl)
theorem mw_525 : Cond.selects RX8 yX8_at yX8_at ∈ lw_tbl := wi_wsL_law0_r22 _ (List.mem_of_getElem? (i := 21) rfl)
theorem mw_526 : Cond.code yX8_at cX8_at 5 (some .int) ∈ lw_tbl := wi_wsL_law0_r22 _ (List.mem_of_getElem? (i := 22) rfl)
theorem mw_527 : Cond.constantLong RX8 190 (39) ∈ lw_tbl := wi_wsL_law0_r22 _ (List.mem_of_getElem? (i := 23) rfl)
theorem mw_528 : Cond.methodLink RL 88 yX7_rank ∈ lw_tbl := wi_wsL_law0_r23 _ (List.mem_of_getElem? (i := 0) rfl)
theorem mw_529 : Cond.instanceMethod yX7_rank ∈ lw_tbl := wi_wsL_law0_r23 _ (List.mem_of_getElem? (i := 1) rfl)
theorem mw_530 : Cond.selects RX7 yX7_rank yX7_rank ∈ lw_tbl := wi_wsL_law0_r23 _ (List.mem_of_getElem? (i := 2) rfl)
theorem mw_531 : Cond.code yX7_rank cX7_rank 1 (some .int) ∈ lw_tbl := wi_wsL_law0_r23 _ (List.mem_of_getElem? (i := 3) rfl)
theorem mw_532 : Cond.methodLink RL 91 yX8_rank ∈ lw_tbl := wi_wsL_law0_r23 _ (List.mem_of_getElem? (i := 4) rfl)
theorem mw_533 : Cond.instanceMethod yX8_rank ∈ lw_tbl := wi_wsL_law0_r23 _ (List.mem_of_getElem? (i := 5) rfl)
theorem mw_534 : Cond.selects RX8 yX8_rank yX8_rank ∈ lw_tbl := wi_wsL_law0_r23 _ (List.mem_of_getElem? (i := 6) rfl)
theorem mw_535 : Cond.code yX8_rank cX8_rank 1 (some .int) ∈ lw_tbl := wi_wsL_law0_r23 _ (List.mem_of_getElem? (i := 7) rfl)
theorem mw_536 : Cond.methodLink RL 92 yL_determinant ∈ lw_tbl := wi_wsL_law0_r23 _ (List.mem_of_getElem? (i := 8) rfl)
theorem mw_537 : Cond.static yL_determinant ∈ lw_tbl := wi_wsL_law0_r23 _ (List.mem_of_getElem? (i := 9) rfl)
theorem mw_538 : Cond.codeWith yL_determinant cL_determinant 4 (some .int) [(0, 9, 12, 34)] ∈ lw_tbl := wi_wsL_law0_r23 _ (List.mem_of_getElem? (i := 10) rfl)
theorem mw_539 : Cond.methodLink RL 40 yX7_determinant ∈ lw_tbl := wi_wsL_law0_r23 _ (List.mem_of_getElem? (i := 11) rfl)
theorem mw_540 : Cond.instanceMethod yX7_determinant ∈ lw_tbl := wi_wsL_law0_r23 _ (List.mem_of_getElem? (i := 12) rfl)
theorem mw_541 : Cond.selects RX7 yX7_determinant yX7_determinant ∈ lw_tbl := wi_wsL_law0_r23 _ (List.mem_of_getElem? (i := 13) rfl)
theorem mw_542 : Cond.code yX7_determinant cX7_determinant 2 (some .int) ∈ lw_tbl := wi_wsL_law0_r23 _ (List.mem_of_getElem? (i := 14) rfl)
theorem mw_543 : Cond.methodLink RX7 147 yX7_needSquare ∈ lw_tbl := wi_wsL_law0_r23 _ (List.mem_of_getElem? (i := 15) rfl)
theorem mw_544 : Cond.instanceMethod yX7_needSquare ∈ lw_tbl := wi_wsL_law0_r23 _ (List.mem_of_getElem? (i := 16) rfl)
theorem mw_545 : Cond.selects RX7 yX7_needSquare yX7_needSquare ∈ lw_tbl := wi_wsL_law0_r23 _ (List.mem_of_getElem? (i := 17) rfl)
theorem mw_546 : Cond.code yX7_needSquare cX7_needSquare 1 none ∈ lw_tbl := wi_wsL_law0_r23 _ (List.mem_of_getElem? (i := 18) rfl)
theorem mw_547 : Cond.methodLink RL 94 yX8_determinant ∈ lw_tbl := wi_wsL_law0_r23 _ (List.mem_of_getElem? (i := 19) rfl)
theorem mw_548 : Cond.instanceMethod yX8_determinant ∈ lw_tbl := wi_wsL_law0_r23 _ (List.mem_of_getElem? (i := 20) rfl)
theorem mw_549 : Cond.selects RX8 yX8_determinant yX8_determinant ∈ lw_tbl := wi_wsL_law0_r23 _ (List.mem_of_getElem? (i := 21) rfl)
theorem mw_550 : Cond.code yX8_determinant cX8_determinant 2 (some .int) ∈ lw_tbl := wi_wsL_law0_r23 _ (List.mem_of_getElem? (i := 22) rfl)
theorem mw_551 : Cond.constantLong RX8 117 (12) ∈ lw_tbl := wi_wsL_law0_r23 _ (List.mem_of_getElem? (i := 23) rfl)
theorem mw_552 : Cond.methodLink RX8 113 yX8_isSquare ∈ lw_tbl := wi_wsL_law0_r24 _ (List.mem_of_getElem? (i := 0) rfl)
theorem mw_553 : Cond.instanceMethod yX8_isSquare ∈ lw_tbl := wi_wsL_law0_r24 _ (List.mem_of_getElem? (i := 1) rfl)
theorem mw_554 : Cond.selects RX8 yX8_isSquare yX8_isSquare ∈ lw_tbl := wi_wsL_law0_r24 _ (List.mem_of_getElem? (i := 2) rfl)
theorem mw_555 : Cond.code yX8_isSquare cX8_isSquare 1 (some .boolean) ∈ lw_tbl := wi_wsL_law0_r24 _ (List.mem_of_getElem? (i := 3) rfl)
theorem mw_556 : Cond.methodLink RL 95 yL_characteristic ∈ lw_tbl := wi_wsL_law0_r24 _ (List.mem_of_getElem? (i := 4) rfl)
theorem mw_557 : Cond.static yL_characteristic ∈ lw_tbl := wi_wsL_law0_r24 _ (List.mem_of_getElem? (i := 5) rfl)
theorem mw_558 : Cond.codeWith yL_characteristic cL_characteristic 4 (some .int) [(0, 9, 12, 34)] ∈ lw_tbl := wi_wsL_law0_r24 _ (List.mem_of_getElem? (i := 6) rfl)
theorem mw_559 : Cond.methodLink RL 43 yX7_characteristic ∈ lw_tbl := wi_wsL_law0_r24 _ (List.mem_of_getElem? (i := 7) rfl)
theorem mw_560 : Cond.instanceMethod yX7_characteristic ∈ lw_tbl := wi_wsL_law0_r24 _ (List.mem_of_getElem? (i := 8) rfl)
theorem mw_561 : Cond.selects RX7 yX7_characteristic yX7_characteristic ∈ lw_tbl := wi_wsL_law0_r24 _ (List.mem_of_getElem? (i := 9) rfl)
theorem mw_562 : Cond.code yX7_characteristic cX7_characteristic 2 (some .int) ∈ lw_tbl := wi_wsL_law0_r24 _ (List.mem_of_getElem? (i := 10) rfl)
theorem mw_563 : Cond.methodLink RX7 154 yX7_knowNumbersMinors ∈ lw_tbl := wi_wsL_law0_r24 _ (List.mem_of_getElem? (i := 11) rfl)
theorem mw_564 : Cond.instanceMethod yX7_knowNumbersMinors ∈ lw_tbl := wi_wsL_law0_r24 _ (List.mem_of_getElem? (i := 12) rfl)
theorem mw_565 : Cond.selects RX7 yX7_knowNumbersMinors yX7_knowNumbersMinors ∈ lw_tbl := wi_wsL_law0_r24 _ (List.mem_of_getElem? (i := 13) rfl)
theorem mw_566 : Cond.code yX7_knowNumbersMinors cX7_knowNumbersMinors 3 none ∈ lw_tbl := wi_wsL_law0_r24 _ (List.mem_of_getElem? (i := 14) rfl)
theorem mw_567 : Cond.methodLink RL 97 yX8_characteristic ∈ lw_tbl := wi_wsL_law0_r24 _ (List.mem_of_getElem? (i := 15) rfl)
theorem mw_568 : Cond.instanceMethod yX8_characteristic ∈ lw_tbl := wi_wsL_law0_r24 _ (List.mem_of_getElem? (i := 16) rfl)
theorem mw_569 : Cond.selects RX8 yX8_characteristic yX8_characteristic ∈ lw_tbl := wi_wsL_law0_r24 _ (List.mem_of_getElem? (i := 17) rfl)
theorem mw_570 : Cond.code yX8_characteristic cX8_characteristic 2 (some .int) ∈ lw_tbl := wi_wsL_law0_r24 _ (List.mem_of_getElem? (i := 18) rfl)
theorem mw_571 : Cond.methodLink RX8 192 yX8_loadNumbers ∈ lw_tbl := wi_wsL_law0_r24 _ (List.mem_of_getElem? (i := 19) rfl)
theorem mw_572 : Cond.instanceMethod yX8_loadNumbers ∈ lw_tbl := wi_wsL_law0_r24 _ (List.mem_of_getElem? (i := 20) rfl)
theorem mw_573 : Cond.selects RX8 yX8_loadNumbers yX8_loadNumbers ∈ lw_tbl := wi_wsL_law0_r24 _ (List.mem_of_getElem? (i := 21) rfl)
theorem mw_574 : Cond.code yX8_loadNumbers cX8_loadNumbers 3 none ∈ lw_tbl := wi_wsL_law0_r24 _ (List.mem_of_getElem? (i := 22) rfl)
theorem mw_575 : Cond.methodLink RL 98 yL_minimal ∈ lw_tbl := wi_wsL_law0_r24 _ (List.mem_of_getElem? (i := 23) rfl)
theorem mw_576 : Cond.static yL_minimal ∈ lw_tbl := wi_wsL_law0_r25 _ (List.mem_of_getElem? (i := 0) rfl)
theorem mw_577 : Cond.codeWith yL_minimal cL_minimal 4 (some .int) [(0, 9, 12, 34)] ∈ lw_tbl := wi_wsL_law0_r25 _ (List.mem_of_getElem? (i := 1) rfl)
theorem mw_578 : Cond.methodLink RL 46 yX7_minimal ∈ lw_tbl := wi_wsL_law0_r25 _ (List.mem_of_getElem? (i := 2) rfl)
theorem mw_579 : Cond.instanceMethod yX7_minimal ∈ lw_tbl := wi_wsL_law0_r25 _ (List.mem_of_getElem? (i := 3) rfl)
theorem mw_580 : Cond.selects RX7 yX7_minimal yX7_minimal ∈ lw_tbl := wi_wsL_law0_r25 _ (List.mem_of_getElem? (i := 4) rfl)
theorem mw_581 : Cond.code yX7_minimal cX7_minimal 2 (some .int) ∈ lw_tbl := wi_wsL_law0_r25 _ (List.mem_of_getElem? (i := 5) rfl)
theorem mw_582 : Cond.methodLink RL 100 yX8_minimal ∈ lw_tbl := wi_wsL_law0_r25 _ (List.mem_of_getElem? (i := 6) rfl)
theorem mw_583 : Cond.instanceMethod yX8_minimal ∈ lw_tbl := wi_wsL_law0_r25 _ (List.mem_of_getElem? (i := 7) rfl)
theorem mw_584 : Cond.selects RX8 yX8_minimal yX8_minimal ∈ lw_tbl := wi_wsL_law0_r25 _ (List.mem_of_getElem? (i := 8) rfl)
theorem mw_585 : Cond.code yX8_minimal cX8_minimal 3 (some .int) ∈ lw_tbl := wi_wsL_law0_r25 _ (List.mem_of_getElem? (i := 9) rfl)
theorem mw_586 : Cond.methodLink RX8 206 yX8_findLeast ∈ lw_tbl := wi_wsL_law0_r25 _ (List.mem_of_getElem? (i := 10) rfl)
theorem mw_587 : Cond.instanceMethod yX8_findLeast ∈ lw_tbl := wi_wsL_law0_r25 _ (List.mem_of_getElem? (i := 11) rfl)
theorem mw_588 : Cond.selects RX8 yX8_findLeast yX8_findLeast ∈ lw_tbl := wi_wsL_law0_r25 _ (List.mem_of_getElem? (i := 12) rfl)
theorem mw_589 : Cond.code yX8_findLeast cX8_findLeast 6 (some .int) ∈ lw_tbl := wi_wsL_law0_r25 _ (List.mem_of_getElem? (i := 13) rfl)
theorem mw_590 : Cond.methodLink RX8 195 yX8_timesNumbers ∈ lw_tbl := wi_wsL_law0_r25 _ (List.mem_of_getElem? (i := 14) rfl)
theorem mw_591 : Cond.instanceMethod yX8_timesNumbers ∈ lw_tbl := wi_wsL_law0_r25 _ (List.mem_of_getElem? (i := 15) rfl)
theorem mw_592 : Cond.selects RX8 yX8_timesNumbers yX8_timesNumbers ∈ lw_tbl := wi_wsL_law0_r25 _ (List.mem_of_getElem? (i := 16) rfl)
theorem mw_593 : Cond.code yX8_timesNumbers cX8_timesNumbers 7 (some .int) ∈ lw_tbl := wi_wsL_law0_r25 _ (List.mem_of_getElem? (i := 17) rfl)
theorem mw_594 : Cond.methodLink RX8 202 yX8_numberAt ∈ lw_tbl := wi_wsL_law0_r25 _ (List.mem_of_getElem? (i := 18) rfl)
theorem mw_595 : Cond.instanceMethod yX8_numberAt ∈ lw_tbl := wi_wsL_law0_r25 _ (List.mem_of_getElem? (i := 19) rfl)
theorem mw_596 : Cond.selects RX8 yX8_numberAt yX8_numberAt ∈ lw_tbl := wi_wsL_law0_r25 _ (List.mem_of_getElem? (i := 20) rfl)
theorem mw_597 : Cond.code yX8_numberAt cX8_numberAt 3 (some .int) ∈ lw_tbl := wi_wsL_law0_r25 _ (List.mem_of_getElem? (i := 21) rfl)
theorem mw_598 : Cond.methodLink RX8 199 yX8_clearBy ∈ lw_tbl := wi_wsL_law0_r25 _ (List.mem_of_getElem? (i := 22) rfl)
theorem mw_599 : Cond.instanceMethod yX8_clearBy ∈ lw_tbl := wi_wsL_law0_r25 _ (List.mem_of_getElem? (i := 23) rfl)
theorem mw_600 : Cond.selects RX8 yX8_clearBy yX8_clearBy ∈ lw_tbl := wi_wsL_law0_r26 _ (List.mem_of_getElem? (i := 0) rfl)
theorem mw_601 : Cond.code yX8_clearBy cX8_clearBy 6 none ∈ lw_tbl := wi_wsL_law0_r26 _ (List.mem_of_getElem? (i := 1) rfl)
theorem mw_602 : Cond.methodLink RL 101 yL_root ∈ lw_tbl := wi_wsL_law0_r26 _ (List.mem_of_getElem? (i := 2) rfl)
theorem mw_603 : Cond.static yL_root ∈ lw_tbl := wi_wsL_law0_r26 _ (List.mem_of_getElem? (i := 3) rfl)
theorem mw_604 : Cond.codeWith yL_root cL_root 4 (some .int) [(0, 9, 12, 34)] ∈ lw_tbl := wi_wsL_law0_r26 _ (List.mem_of_getElem? (i := 4) rfl)
theorem mw_605 : Cond.methodLink RL 49 yX7_root ∈ lw_tbl := wi_wsL_law0_r26 _ (List.mem_of_getElem? (i := 5) rfl)
theorem mw_606 : Cond.instanceMethod yX7_root ∈ lw_tbl := wi_wsL_law0_r26 _ (List.mem_of_getElem? (i := 6) rfl)
theorem mw_607 : Cond.selects RX7 yX7_root yX7_root ∈ lw_tbl := wi_wsL_law0_r26 _ (List.mem_of_getElem? (i := 7) rfl)
theorem mw_608 : Cond.code yX7_root cX7_root 2 (some .int) ∈ lw_tbl := wi_wsL_law0_r26 _ (List.mem_of_getElem? (i := 8) rfl)
theorem mw_609 : Cond.methodLink RX7 161 yX7_knowRoots ∈ lw_tbl := wi_wsL_law0_r26 _ (List.mem_of_getElem? (i := 9) rfl)
theorem mw_610 : Cond.instanceMethod yX7_knowRoots ∈ lw_tbl := wi_wsL_law0_r26 _ (List.mem_of_getElem? (i := 10) rfl)
theorem mw_611 : Cond.selects RX7 yX7_knowRoots yX7_knowRoots ∈ lw_tbl := wi_wsL_law0_r26 _ (List.mem_of_getElem? (i := 11) rfl)
theorem mw_612 : Cond.code yX7_knowRoots cX7_knowRoots 1 none ∈ lw_tbl := wi_wsL_law0_r26 _ (List.mem_of_getElem? (i := 12) rfl)
theorem mw_613 : Cond.methodLink RX7 212 yX5_reckon ∈ lw_tbl := wi_wsL_law0_r26 _ (List.mem_of_getElem? (i := 13) rfl)
theorem mw_614 : Cond.instanceMethod yX5_reckon ∈ lw_tbl := wi_wsL_law0_r26 _ (List.mem_of_getElem? (i := 14) rfl)
theorem mw_615 : Cond.selects RX5 yX5_reckon yX5_reckon ∈ lw_tbl := wi_wsL_law0_r26 _ (List.mem_of_getElem? (i := 15) rfl)
theorem mw_616 : Cond.code yX5_reckon cX5_reckon 5 none ∈ lw_tbl := wi_wsL_law0_r26 _ (List.mem_of_getElem? (i := 16) rfl)
theorem mw_617 : Cond.fieldLink RX5 44 "NormalForms$Roots" "found" "I" ∈ lw_tbl := wi_wsL_law0_r26 _ (List.mem_of_getElem? (i := 17) rfl)
theorem mw_618 : Cond.fieldLink RX5 48 "NormalForms$Roots" "partCount" "I" ∈ lw_tbl := wi_wsL_law0_r26 _ (List.mem_of_getElem? (i := 18) rfl)
theorem mw_619 : Cond.methodLink RX5 54 yX5_raise ∈ lw_tbl := wi_wsL_law0_r26 _ (List.mem_of_getElem? (i := 19) rfl)
theorem mw_620 : Cond.instanceMethod yX5_raise ∈ lw_tbl := wi_wsL_law0_r26 _ (List.mem_of_getElem? (i := 20) rfl)
theorem mw_621 : Cond.selects RX5 yX5_raise yX5_raise ∈ lw_tbl := wi_wsL_law0_r26 _ (List.mem_of_getElem? (i := 21) rfl)
theorem mw_622 : Cond.code yX5_raise cX5_raise 5 none ∈ lw_tbl := wi_wsL_law0_r26 _ (List.mem_of_getElem? (i := 22) rfl)
theorem mw_623 : Cond.methodLink RX5 68 yX4_setNumber ∈ lw_tbl := wi_wsL_law0_r26 _ (List.mem_of_getElem? (i := 23) rfl)
theorem mw_624 : Cond.methodLink RX5 94 yX4_clear ∈ lw_tbl := wi_wsL_law0_r27 _ (List.mem_of_getElem? (i := 0) rfl)
theorem mw_625 : Cond.methodLink RX5 97 yX4_addProduct ∈ lw_tbl := wi_wsL_law0_r27 _ (List.mem_of_getElem? (i := 1) rfl)
theorem mw_626 : Cond.methodLink RX5 101 yX4_divideBy ∈ lw_tbl := wi_wsL_law0_r27 _ (List.mem_of_getElem? (i := 2) rfl)
theorem mw_627 : Cond.methodLink RX5 72 yX4_copyFrom ∈ lw_tbl := wi_wsL_law0_r27 _ (List.mem_of_getElem? (i := 3) rfl)
theorem mw_628 : Cond.methodLink RX5 58 yX4_numberAt ∈ lw_tbl := wi_wsL_law0_r27 _ (List.mem_of_getElem? (i := 4) rfl)
theorem mw_629 : Cond.methodLink RX5 62 yJ9_floorMod_7cf53 ∈ lw_tbl := wi_wsL_law0_r27 _ (List.mem_of_getElem? (i := 5) rfl)
theorem mw_630 : Cond.methodLink RX5 76 yX0_shrinkToCommon ∈ lw_tbl := wi_wsL_law0_r27 _ (List.mem_of_getElem? (i := 6) rfl)
theorem mw_631 : Cond.methodLink RX5 80 yX5_split ∈ lw_tbl := wi_wsL_law0_r27 _ (List.mem_of_getElem? (i := 7) rfl)
theorem mw_632 : Cond.instanceMethod yX5_split ∈ lw_tbl := wi_wsL_law0_r27 _ (List.mem_of_getElem? (i := 8) rfl)
theorem mw_633 : Cond.selects RX5 yX5_split yX5_split ∈ lw_tbl := wi_wsL_law0_r27 _ (List.mem_of_getElem? (i := 9) rfl)
theorem mw_634 : Cond.code yX5_split cX5_split 3 none ∈ lw_tbl := wi_wsL_law0_r27 _ (List.mem_of_getElem? (i := 10) rfl)
theorem mw_635 : Cond.methodLink RX5 90 yX0_writeQuotient ∈ lw_tbl := wi_wsL_law0_r27 _ (List.mem_of_getElem? (i := 11) rfl)
theorem mw_636 : Cond.methodLink RX5 87 yX5_insert ∈ lw_tbl := wi_wsL_law0_r27 _ (List.mem_of_getElem? (i := 12) rfl)
theorem mw_637 : Cond.instanceMethod yX5_insert ∈ lw_tbl := wi_wsL_law0_r27 _ (List.mem_of_getElem? (i := 13) rfl)
theorem mw_638 : Cond.selects RX5 yX5_insert yX5_insert ∈ lw_tbl := wi_wsL_law0_r27 _ (List.mem_of_getElem? (i := 14) rfl)
theorem mw_639 : Cond.code yX5_insert cX5_insert 3 none ∈ lw_tbl := wi_wsL_law0_r27 _ (List.mem_of_getElem? (i := 15) rfl)
theorem mw_640 : Cond.methodLink RL 103 yX8_root ∈ lw_tbl := wi_wsL_law0_r27 _ (List.mem_of_getElem? (i := 16) rfl)
theorem mw_641 : Cond.instanceMethod yX8_root ∈ lw_tbl := wi_wsL_law0_r27 _ (List.mem_of_getElem? (i := 17) rfl)
theorem mw_642 : Cond.selects RX8 yX8_root yX8_root ∈ lw_tbl := wi_wsL_law0_r27 _ (List.mem_of_getElem? (i := 18) rfl)
theorem mw_643 : Cond.code yX8_root cX8_root 2 (some .int) ∈ lw_tbl := wi_wsL_law0_r27 _ (List.mem_of_getElem? (i := 19) rfl)
theorem mw_644 : Cond.methodLink RX8 209 yX8_findRoot ∈ lw_tbl := wi_wsL_law0_r27 _ (List.mem_of_getElem? (i := 20) rfl)
theorem mw_645 : Cond.instanceMethod yX8_findRoot ∈ lw_tbl := wi_wsL_law0_r27 _ (List.mem_of_getElem? (i := 21) rfl)
theorem mw_646 : Cond.selects RX8 yX8_findRoot yX8_findRoot ∈ lw_tbl := wi_wsL_law0_r27 _ (List.mem_of_getElem? (i := 22) rfl)
theorem mw_647 : Cond.code yX8_findRoot cX8_findRoot 8 (some .int) ∈ lw_tbl := wi_wsL_law0_r27 _ (List.mem_of_getElem? (i := 23) rfl)
theorem mw_648 : Cond.methodLink RL 104 yL_blocks ∈ lw_tbl := wi_wsL_law0_r28 _ (List.mem_of_getElem? (i := 0) rfl)
theorem mw_649 : Cond.static yL_blocks ∈ lw_tbl := wi_wsL_law0_r28 _ (List.mem_of_getElem? (i := 1) rfl)
theorem mw_650 : Cond.codeWith yL_blocks cL_blocks 5 (some .int) [(0, 10, 13, 34), (0, 10, 17, 15)] ∈ lw_tbl := wi_wsL_law0_r28 _ (List.mem_of_getElem? (i := 2) rfl)
theorem mw_651 : Cond.methodLink RL 52 yX7_blocks ∈ lw_tbl := wi_wsL_law0_r28 _ (List.mem_of_getElem? (i := 3) rfl)
theorem mw_652 : Cond.instanceMethod yX7_blocks ∈ lw_tbl := wi_wsL_law0_r28 _ (List.mem_of_getElem? (i := 4) rfl)
theorem mw_653 : Cond.selects RX7 yX7_blocks yX7_blocks ∈ lw_tbl := wi_wsL_law0_r28 _ (List.mem_of_getElem? (i := 5) rfl)
theorem mw_654 : Cond.code yX7_blocks cX7_blocks 5 (some .int) ∈ lw_tbl := wi_wsL_law0_r28 _ (List.mem_of_getElem? (i := 6) rfl)
theorem mw_655 : Cond.methodLink RX7 178 yX0_howOften ∈ lw_tbl := wi_wsL_law0_r28 _ (List.mem_of_getElem? (i := 7) rfl)
theorem mw_656 : Cond.instanceMethod yX0_howOften ∈ lw_tbl := wi_wsL_law0_r28 _ (List.mem_of_getElem? (i := 8) rfl)
theorem mw_657 : Cond.selects RX0 yX0_howOften yX0_howOften ∈ lw_tbl := wi_wsL_law0_r28 _ (List.mem_of_getElem? (i := 9) rfl)
theorem mw_658 : Cond.code yX0_howOften cX0_howOften 4 (some .int) ∈ lw_tbl := wi_wsL_law0_r28 _ (List.mem_of_getElem? (i := 10) rfl)
theorem mw_659 : Cond.methodLink RL 107 yX8_blocks ∈ lw_tbl := wi_wsL_law0_r28 _ (List.mem_of_getElem? (i := 11) rfl)
theorem mw_660 : Cond.instanceMethod yX8_blocks ∈ lw_tbl := wi_wsL_law0_r28 _ (List.mem_of_getElem? (i := 12) rfl)
theorem mw_661 : Cond.selects RX8 yX8_blocks yX8_blocks ∈ lw_tbl := wi_wsL_law0_r28 _ (List.mem_of_getElem? (i := 13) rfl)
theorem mw_662 : Cond.code yX8_blocks cX8_blocks 4 (some .int) ∈ lw_tbl := wi_wsL_law0_r28 _ (List.mem_of_getElem? (i := 14) rfl)
theorem mw_663 : Cond.methodLink RX8 212 yX8_raise ∈ lw_tbl := wi_wsL_law0_r28 _ (List.mem_of_getElem? (i := 15) rfl)
theorem mw_664 : Cond.instanceMethod yX8_raise ∈ lw_tbl := wi_wsL_law0_r28 _ (List.mem_of_getElem? (i := 16) rfl)
theorem mw_665 : Cond.selects RX8 yX8_raise yX8_raise ∈ lw_tbl := wi_wsL_law0_r28 _ (List.mem_of_getElem? (i := 17) rfl)
theorem mw_666 : Cond.code yX8_raise cX8_raise 2 (some .int) ∈ lw_tbl := wi_wsL_law0_r28 _ (List.mem_of_getElem? (i := 18) rfl)
theorem mw_667 : Cond.methodLink RX8 215 yX8_rankOf ∈ lw_tbl := wi_wsL_law0_r28 _ (List.mem_of_getElem? (i := 19) rfl)
theorem mw_668 : Cond.instanceMethod yX8_rankOf ∈ lw_tbl := wi_wsL_law0_r28 _ (List.mem_of_getElem? (i := 20) rfl)
theorem mw_669 : Cond.selects RX8 yX8_rankOf yX8_rankOf ∈ lw_tbl := wi_wsL_law0_r28 _ (List.mem_of_getElem? (i := 21) rfl)
theorem mw_670 : Cond.code yX8_rankOf cX8_rankOf 8 (some .int) ∈ lw_tbl := wi_wsL_law0_r28 _ (List.mem_of_getElem? (i := 22) rfl)
theorem mw_671 : Cond.methodLink RL 108 yX7_count ∈ lw_tbl := wi_wsL_law0_r28 _ (List.mem_of_getElem? (i := 23) rfl)
theorem mw_672 : Cond.instanceMethod yX7_count ∈ lw_tbl := wi_wsL_law0_r29 _ (List.mem_of_getElem? (i := 0) rfl)
theorem mw_673 : Cond.selects RX7 yX7_count yX7_count ∈ lw_tbl := wi_wsL_law0_r29 _ (List.mem_of_getElem? (i := 1) rfl)
theorem mw_674 : Cond.code yX7_count cX7_count 4 (some .int) ∈ lw_tbl := wi_wsL_law0_r29 _ (List.mem_of_getElem? (i := 2) rfl)
theorem mw_675 : Cond.methodLink RL 111 yX8_count ∈ lw_tbl := wi_wsL_law0_r29 _ (List.mem_of_getElem? (i := 3) rfl)
theorem mw_676 : Cond.instanceMethod yX8_count ∈ lw_tbl := wi_wsL_law0_r29 _ (List.mem_of_getElem? (i := 4) rfl)
theorem mw_677 : Cond.selects RX8 yX8_count yX8_count ∈ lw_tbl := wi_wsL_law0_r29 _ (List.mem_of_getElem? (i := 5) rfl)
theorem mw_678 : Cond.code yX8_count cX8_count 4 (some .int) ∈ lw_tbl := wi_wsL_law0_r29 _ (List.mem_of_getElem? (i := 6) rfl)
set_option maxRecDepth 20000 in
theorem q_wsX7_init_r1 : ∀ w ∈ wsX7_init_r1, w ∈ lw_tbl := by
  unfold wsX7_init_r1
  exact (List.forall_mem_cons.mpr ⟨mw_10, List.forall_mem_cons.mpr ⟨mw_11, List.forall_mem_cons.mpr ⟨mw_12, List.forall_mem_cons.mpr ⟨mw_13, List.forall_mem_cons.mpr ⟨mw_14, List.forall_mem_cons.mpr ⟨mw_15, List.forall_mem_cons.mpr ⟨mw_16, List.forall_mem_cons.mpr ⟨mw_17, List.forall_mem_cons.mpr ⟨mw_18, List.forall_mem_cons.mpr ⟨mw_19, List.forall_mem_cons.mpr ⟨mw_20, List.forall_mem_cons.mpr ⟨mw_21, List.forall_mem_cons.mpr ⟨mw_22, List.forall_mem_cons.mpr ⟨mw_23, List.forall_mem_cons.mpr ⟨mw_24, List.forall_mem_cons.mpr ⟨mw_25, List.forall_mem_cons.mpr ⟨mw_26, List.forall_mem_cons.mpr ⟨mw_27, List.forall_mem_cons.mpr ⟨mw_28, List.forall_mem_cons.mpr ⟨mw_29, List.forall_mem_cons.mpr ⟨mw_30, List.forall_mem_cons.mpr ⟨mw_31, List.forall_mem_cons.mpr ⟨mw_32, List.forall_mem_cons.mpr ⟨mw_33, fun _ h => absurd h List.not_mem_nil⟩⟩⟩⟩⟩⟩⟩⟩⟩⟩⟩⟩⟩⟩⟩⟩⟩⟩⟩⟩⟩⟩⟩⟩)
set_option maxRecDepth 20000 in
theorem q_wsX7_init_r2 : ∀ w ∈ wsX7_init_r2, w ∈ lw_tbl := by
  unfold wsX7_init_r2
  exact (List.forall_mem_cons.mpr ⟨mw_34, List.forall_mem_cons.mpr ⟨mw_35, List.forall_mem_cons.mpr ⟨mw_36, List.forall_mem_cons.mpr ⟨mw_37, List.forall_mem_cons.mpr ⟨mw_38, List.forall_mem_cons.mpr ⟨mw_39, List.forall_mem_cons.mpr ⟨mw_40, List.forall_mem_cons.mpr ⟨mw_41, List.forall_mem_cons.mpr ⟨mw_42, List.forall_mem_cons.mpr ⟨mw_43, List.forall_mem_cons.mpr ⟨mw_44, List.forall_mem_cons.mpr ⟨mw_45, List.forall_mem_cons.mpr ⟨mw_46, List.forall_mem_cons.mpr ⟨mw_47, List.forall_mem_cons.mpr ⟨mw_48, List.forall_mem_cons.mpr ⟨mw_49, List.forall_mem_cons.mpr ⟨mw_50, List.forall_mem_cons.mpr ⟨mw_51, List.forall_mem_cons.mpr ⟨mw_52, List.forall_mem_cons.mpr ⟨mw_53, List.forall_mem_cons.mpr ⟨mw_54, List.forall_mem_cons.mpr ⟨mw_55, List.forall_mem_cons.mpr ⟨mw_56, List.forall_mem_cons.mpr ⟨mw_57, fun _ h => absurd h List.not_mem_nil⟩⟩⟩⟩⟩⟩⟩⟩⟩⟩⟩⟩⟩⟩⟩⟩⟩⟩⟩⟩⟩⟩⟩⟩)
set_option maxRecDepth 20000 in
theorem q_wsX7_init_r3 : ∀ w ∈ wsX7_init_r3, w ∈ lw_tbl := by
  unfold wsX7_init_r3
  exact (List.forall_mem_cons.mpr ⟨mw_58, List.forall_mem_cons.mpr ⟨mw_59, List.forall_mem_cons.mpr ⟨mw_60, List.forall_mem_cons.mpr ⟨mw_61, List.forall_mem_cons.mpr ⟨mw_62, List.forall_mem_cons.mpr ⟨mw_63, List.forall_mem_cons.mpr ⟨mw_64, List.forall_mem_cons.mpr ⟨mw_65, List.forall_mem_cons.mpr ⟨mw_66, List.forall_mem_cons.mpr ⟨mw_67, List.forall_mem_cons.mpr ⟨mw_68, List.forall_mem_cons.mpr ⟨mw_69, List.forall_mem_cons.mpr ⟨mw_70, List.forall_mem_cons.mpr ⟨mw_71, List.forall_mem_cons.mpr ⟨mw_72, List.forall_mem_cons.mpr ⟨mw_73, List.forall_mem_cons.mpr ⟨mw_74, List.forall_mem_cons.mpr ⟨mw_75, List.forall_mem_cons.mpr ⟨mw_76, List.forall_mem_cons.mpr ⟨mw_77, List.forall_mem_cons.mpr ⟨mw_78, List.forall_mem_cons.mpr ⟨mw_79, List.forall_mem_cons.mpr ⟨mw_80, List.forall_mem_cons.mpr ⟨mw_81, fun _ h => absurd h List.not_mem_nil⟩⟩⟩⟩⟩⟩⟩⟩⟩⟩⟩⟩⟩⟩⟩⟩⟩⟩⟩⟩⟩⟩⟩⟩)
set_option maxRecDepth 20000 in
theorem q_wsX7_init_r4 : ∀ w ∈ wsX7_init_r4, w ∈ lw_tbl := by
  unfold wsX7_init_r4
  exact (List.forall_mem_cons.mpr ⟨mw_82, List.forall_mem_cons.mpr ⟨mw_83, List.forall_mem_cons.mpr ⟨mw_84, List.forall_mem_cons.mpr ⟨mw_85, List.forall_mem_cons.mpr ⟨mw_86, List.forall_mem_cons.mpr ⟨mw_87, List.forall_mem_cons.mpr ⟨mw_88, List.forall_mem_cons.mpr ⟨mw_89, List.forall_mem_cons.mpr ⟨mw_90, List.forall_mem_cons.mpr ⟨mw_91, List.forall_mem_cons.mpr ⟨mw_92, List.forall_mem_cons.mpr ⟨mw_93, List.forall_mem_cons.mpr ⟨mw_94, List.forall_mem_cons.mpr ⟨mw_95, List.forall_mem_cons.mpr ⟨mw_96, List.forall_mem_cons.mpr ⟨mw_97, List.forall_mem_cons.mpr ⟨mw_98, List.forall_mem_cons.mpr ⟨mw_99, List.forall_mem_cons.mpr ⟨mw_100, List.forall_mem_cons.mpr ⟨mw_101, List.forall_mem_cons.mpr ⟨mw_102, List.forall_mem_cons.mpr ⟨mw_103, List.forall_mem_cons.mpr ⟨mw_104, List.forall_mem_cons.mpr ⟨mw_105, fun _ h => absurd h List.not_mem_nil⟩⟩⟩⟩⟩⟩⟩⟩⟩⟩⟩⟩⟩⟩⟩⟩⟩⟩⟩⟩⟩⟩⟩⟩)
set_option maxRecDepth 20000 in
theorem q_wsX7_init_r5 : ∀ w ∈ wsX7_init_r5, w ∈ lw_tbl := by
  unfold wsX7_init_r5
  exact (List.forall_mem_cons.mpr ⟨mw_106, List.forall_mem_cons.mpr ⟨mw_107, List.forall_mem_cons.mpr ⟨mw_108, List.forall_mem_cons.mpr ⟨mw_109, List.forall_mem_cons.mpr ⟨mw_110, List.forall_mem_cons.mpr ⟨mw_111, List.forall_mem_cons.mpr ⟨mw_112, List.forall_mem_cons.mpr ⟨mw_113, List.forall_mem_cons.mpr ⟨mw_114, List.forall_mem_cons.mpr ⟨mw_115, List.forall_mem_cons.mpr ⟨mw_116, List.forall_mem_cons.mpr ⟨mw_117, List.forall_mem_cons.mpr ⟨mw_118, List.forall_mem_cons.mpr ⟨mw_119, fun _ h => absurd h List.not_mem_nil⟩⟩⟩⟩⟩⟩⟩⟩⟩⟩⟩⟩⟩⟩)
set_option maxRecDepth 20000 in
theorem q_wsX7_init : ∀ w ∈ wsX7_init, w ∈ lw_tbl := by
  unfold wsX7_init
  exact (List.forall_mem_cons.mpr ⟨mw_9, (fun w h => (List.mem_append.mp h).elim ((fun w h => (List.mem_append.mp h).elim ((fun w h => (List.mem_append.mp h).elim ((fun w h => (List.mem_append.mp h).elim ((fun w h => (List.mem_append.mp h).elim ((fun w h => (List.mem_append.mp h).elim ((fun w h => (List.mem_append.mp h).elim ((fun w h => (List.mem_append.mp h).elim ((fun w h => (List.mem_append.mp h).elim (q_wsX7_init_r1 w) ((fun w h => (List.mem_append.mp h).elim (q_wsX7_init_r2 w) ((fun w h => (List.mem_append.mp h).elim (q_wsX7_init_r3 w) ((fun w h => (List.mem_append.mp h).elim (q_wsX7_init_r4 w) (q_wsX7_init_r5 w)) w)) w)) w)) w) (wi_wsX20 w)) w) (wi_wsX70 w)) w) (wi_wsX30 w)) w) (wi_wsX50 w)) w) (wi_wsX10 w)) w) (wi_wsX00 w)) w) (wi_wsX40 w)) w) (wi_wsX60 w))⟩)
set_option maxRecDepth 20000 in
theorem q_wsX8_init : ∀ w ∈ wsX8_init, w ∈ lw_tbl := by
  unfold wsX8_init
  exact (List.forall_mem_cons.mpr ⟨mw_122, (fun w h => (List.mem_append.mp h).elim ((List.forall_mem_cons.mpr ⟨mw_123, List.forall_mem_cons.mpr ⟨mw_11, List.forall_mem_cons.mpr ⟨mw_12, List.forall_mem_cons.mpr ⟨mw_60, List.forall_mem_cons.mpr ⟨mw_124, List.forall_mem_cons.mpr ⟨mw_32, List.forall_mem_cons.mpr ⟨mw_125, List.forall_mem_cons.mpr ⟨mw_126, List.forall_mem_cons.mpr ⟨mw_127, List.forall_mem_cons.mpr ⟨mw_128, List.forall_mem_cons.mpr ⟨mw_129, List.forall_mem_cons.mpr ⟨mw_130, List.forall_mem_cons.mpr ⟨mw_131, List.forall_mem_cons.mpr ⟨mw_132, List.forall_mem_cons.mpr ⟨mw_133, List.forall_mem_cons.mpr ⟨mw_134, List.forall_mem_cons.mpr ⟨mw_135, List.forall_mem_cons.mpr ⟨mw_136, List.forall_mem_cons.mpr ⟨mw_137, List.forall_mem_cons.mpr ⟨mw_138, List.forall_mem_cons.mpr ⟨mw_139, List.forall_mem_cons.mpr ⟨mw_140, List.forall_mem_cons.mpr ⟨mw_141, fun _ h => absurd h List.not_mem_nil⟩⟩⟩⟩⟩⟩⟩⟩⟩⟩⟩⟩⟩⟩⟩⟩⟩⟩⟩⟩⟩⟩⟩) w) (wi_wsX80 w))⟩)
set_option maxRecDepth 20000 in
theorem q_wsL_size_r1 : ∀ w ∈ wsL_size_r1, w ∈ lw_tbl := by
  unfold wsL_size_r1
  exact (List.forall_mem_cons.mpr ⟨mw_146, List.forall_mem_cons.mpr ⟨mw_147, List.forall_mem_cons.mpr ⟨mw_148, List.forall_mem_cons.mpr ⟨mw_149, List.forall_mem_cons.mpr ⟨mw_150, List.forall_mem_cons.mpr ⟨mw_2, List.forall_mem_cons.mpr ⟨mw_151, List.forall_mem_cons.mpr ⟨mw_152, List.forall_mem_cons.mpr ⟨mw_153, List.forall_mem_cons.mpr ⟨mw_154, List.forall_mem_cons.mpr ⟨mw_155, List.forall_mem_cons.mpr ⟨mw_156, List.forall_mem_cons.mpr ⟨mw_157, List.forall_mem_cons.mpr ⟨mw_158, List.forall_mem_cons.mpr ⟨mw_16, List.forall_mem_cons.mpr ⟨mw_159, List.forall_mem_cons.mpr ⟨mw_160, List.forall_mem_cons.mpr ⟨mw_161, List.forall_mem_cons.mpr ⟨mw_15, List.forall_mem_cons.mpr ⟨mw_162, List.forall_mem_cons.mpr ⟨mw_47, List.forall_mem_cons.mpr ⟨mw_163, List.forall_mem_cons.mpr ⟨mw_164, List.forall_mem_cons.mpr ⟨mw_165, fun _ h => absurd h List.not_mem_nil⟩⟩⟩⟩⟩⟩⟩⟩⟩⟩⟩⟩⟩⟩⟩⟩⟩⟩⟩⟩⟩⟩⟩⟩)
set_option maxRecDepth 20000 in
theorem q_wsL_size_r2 : ∀ w ∈ wsL_size_r2, w ∈ lw_tbl := by
  unfold wsL_size_r2
  exact (List.forall_mem_cons.mpr ⟨mw_49, List.forall_mem_cons.mpr ⟨mw_166, List.forall_mem_cons.mpr ⟨mw_55, List.forall_mem_cons.mpr ⟨mw_167, List.forall_mem_cons.mpr ⟨mw_168, List.forall_mem_cons.mpr ⟨mw_169, List.forall_mem_cons.mpr ⟨mw_40, List.forall_mem_cons.mpr ⟨mw_170, List.forall_mem_cons.mpr ⟨mw_62, List.forall_mem_cons.mpr ⟨mw_61, List.forall_mem_cons.mpr ⟨mw_171, List.forall_mem_cons.mpr ⟨mw_172, List.forall_mem_cons.mpr ⟨mw_173, List.forall_mem_cons.mpr ⟨mw_174, List.forall_mem_cons.mpr ⟨mw_175, List.forall_mem_cons.mpr ⟨mw_33, List.forall_mem_cons.mpr ⟨mw_176, List.forall_mem_cons.mpr ⟨mw_177, List.forall_mem_cons.mpr ⟨mw_178, List.forall_mem_cons.mpr ⟨mw_179, List.forall_mem_cons.mpr ⟨mw_180, List.forall_mem_cons.mpr ⟨mw_181, fun _ h => absurd h List.not_mem_nil⟩⟩⟩⟩⟩⟩⟩⟩⟩⟩⟩⟩⟩⟩⟩⟩⟩⟩⟩⟩⟩⟩)
set_option maxRecDepth 20000 in
theorem q_wsL_size : ∀ w ∈ wsL_size, w ∈ lw_tbl := by
  unfold wsL_size
  exact (List.forall_mem_cons.mpr ⟨mw_145, (fun w h => (List.mem_append.mp h).elim ((fun w h => (List.mem_append.mp h).elim ((fun w h => (List.mem_append.mp h).elim ((fun w h => (List.mem_append.mp h).elim ((fun w h => (List.mem_append.mp h).elim ((fun w h => (List.mem_append.mp h).elim ((fun w h => (List.mem_append.mp h).elim (q_wsL_size_r1 w) (q_wsL_size_r2 w)) w) (wi_wsJxde1cd0 w)) w) (wi_wsX70 w)) w) (wi_wsX20 w)) w) (wi_wsX60 w)) w) (wi_wsX40 w)) w) (wsL_law_x0 w))⟩)
set_option maxRecDepth 20000 in
theorem q_wsX8_size : ∀ w ∈ wsX8_size, w ∈ lw_tbl := by
  unfold wsX8_size
  exact (List.forall_mem_cons.mpr ⟨mw_185, (fun w h => (List.mem_append.mp h).elim ((List.forall_mem_cons.mpr ⟨mw_186, List.forall_mem_cons.mpr ⟨mw_187, List.forall_mem_cons.mpr ⟨mw_188, List.forall_mem_cons.mpr ⟨mw_124, List.forall_mem_cons.mpr ⟨mw_125, fun _ h => absurd h List.not_mem_nil⟩⟩⟩⟩⟩) w) (wi_wsX80 w))⟩)
set_option maxRecDepth 20000 in
theorem q_wsX8_thrown : ∀ w ∈ wsX8_thrown, w ∈ lw_tbl := by
  unfold wsX8_thrown
  exact (List.forall_mem_cons.mpr ⟨mw_192, (fun w h => (List.mem_append.mp h).elim ((List.forall_mem_cons.mpr ⟨mw_186, fun _ h => absurd h List.not_mem_nil⟩) w) (wi_wsX80 w))⟩)
set_option maxRecDepth 20000 in
theorem q_wsL_put_r1 : ∀ w ∈ wsL_put_r1, w ∈ lw_tbl := by
  unfold wsL_put_r1
  exact (List.forall_mem_cons.mpr ⟨mw_196, List.forall_mem_cons.mpr ⟨mw_197, List.forall_mem_cons.mpr ⟨mw_198, List.forall_mem_cons.mpr ⟨mw_2, List.forall_mem_cons.mpr ⟨mw_199, List.forall_mem_cons.mpr ⟨mw_16, List.forall_mem_cons.mpr ⟨mw_200, List.forall_mem_cons.mpr ⟨mw_201, List.forall_mem_cons.mpr ⟨mw_202, List.forall_mem_cons.mpr ⟨mw_203, List.forall_mem_cons.mpr ⟨mw_204, List.forall_mem_cons.mpr ⟨mw_205, List.forall_mem_cons.mpr ⟨mw_206, List.forall_mem_cons.mpr ⟨mw_207, List.forall_mem_cons.mpr ⟨mw_208, List.forall_mem_cons.mpr ⟨mw_209, List.forall_mem_cons.mpr ⟨mw_210, List.forall_mem_cons.mpr ⟨mw_157, List.forall_mem_cons.mpr ⟨mw_158, List.forall_mem_cons.mpr ⟨mw_211, List.forall_mem_cons.mpr ⟨mw_212, List.forall_mem_cons.mpr ⟨mw_213, List.forall_mem_cons.mpr ⟨mw_15, List.forall_mem_cons.mpr ⟨mw_214, fun _ h => absurd h List.not_mem_nil⟩⟩⟩⟩⟩⟩⟩⟩⟩⟩⟩⟩⟩⟩⟩⟩⟩⟩⟩⟩⟩⟩⟩⟩)
set_option maxRecDepth 20000 in
theorem q_wsL_put_r2 : ∀ w ∈ wsL_put_r2, w ∈ lw_tbl := by
  unfold wsL_put_r2
  exact (List.forall_mem_cons.mpr ⟨mw_47, List.forall_mem_cons.mpr ⟨mw_215, List.forall_mem_cons.mpr ⟨mw_216, List.forall_mem_cons.mpr ⟨mw_217, List.forall_mem_cons.mpr ⟨mw_218, List.forall_mem_cons.mpr ⟨mw_219, List.forall_mem_cons.mpr ⟨mw_220, List.forall_mem_cons.mpr ⟨mw_221, List.forall_mem_cons.mpr ⟨mw_40, List.forall_mem_cons.mpr ⟨mw_222, List.forall_mem_cons.mpr ⟨mw_62, List.forall_mem_cons.mpr ⟨mw_61, List.forall_mem_cons.mpr ⟨mw_223, List.forall_mem_cons.mpr ⟨mw_224, List.forall_mem_cons.mpr ⟨mw_225, List.forall_mem_cons.mpr ⟨mw_226, List.forall_mem_cons.mpr ⟨mw_227, List.forall_mem_cons.mpr ⟨mw_228, List.forall_mem_cons.mpr ⟨mw_229, List.forall_mem_cons.mpr ⟨mw_230, List.forall_mem_cons.mpr ⟨mw_231, List.forall_mem_cons.mpr ⟨mw_232, List.forall_mem_cons.mpr ⟨mw_233, List.forall_mem_cons.mpr ⟨mw_234, fun _ h => absurd h List.not_mem_nil⟩⟩⟩⟩⟩⟩⟩⟩⟩⟩⟩⟩⟩⟩⟩⟩⟩⟩⟩⟩⟩⟩⟩⟩)
set_option maxRecDepth 20000 in
theorem q_wsL_put_r3 : ∀ w ∈ wsL_put_r3, w ∈ lw_tbl := by
  unfold wsL_put_r3
  exact (List.forall_mem_cons.mpr ⟨mw_171, List.forall_mem_cons.mpr ⟨mw_172, List.forall_mem_cons.mpr ⟨mw_173, List.forall_mem_cons.mpr ⟨mw_174, List.forall_mem_cons.mpr ⟨mw_175, List.forall_mem_cons.mpr ⟨mw_33, List.forall_mem_cons.mpr ⟨mw_176, List.forall_mem_cons.mpr ⟨mw_177, List.forall_mem_cons.mpr ⟨mw_178, List.forall_mem_cons.mpr ⟨mw_179, List.forall_mem_cons.mpr ⟨mw_180, List.forall_mem_cons.mpr ⟨mw_181, fun _ h => absurd h List.not_mem_nil⟩⟩⟩⟩⟩⟩⟩⟩⟩⟩⟩⟩)
set_option maxRecDepth 20000 in
theorem q_wsL_put : ∀ w ∈ wsL_put, w ∈ lw_tbl := by
  unfold wsL_put
  exact (List.forall_mem_cons.mpr ⟨mw_195, (fun w h => (List.mem_append.mp h).elim ((fun w h => (List.mem_append.mp h).elim ((fun w h => (List.mem_append.mp h).elim ((fun w h => (List.mem_append.mp h).elim ((fun w h => (List.mem_append.mp h).elim ((fun w h => (List.mem_append.mp h).elim (q_wsL_put_r1 w) ((fun w h => (List.mem_append.mp h).elim (q_wsL_put_r2 w) (q_wsL_put_r3 w)) w)) w) (wi_wsX70 w)) w) (wi_wsJx000600 w)) w) (wi_wsX20 w)) w) (wi_wsX60 w)) w) (wi_wsX40 w))⟩)
set_option maxRecDepth 20000 in
theorem q_wsX8_put : ∀ w ∈ wsX8_put, w ∈ lw_tbl := by
  unfold wsX8_put
  exact (List.forall_mem_cons.mpr ⟨mw_238, (fun w h => (List.mem_append.mp h).elim ((List.forall_mem_cons.mpr ⟨mw_124, List.forall_mem_cons.mpr ⟨mw_125, List.forall_mem_cons.mpr ⟨mw_239, List.forall_mem_cons.mpr ⟨mw_240, List.forall_mem_cons.mpr ⟨mw_241, List.forall_mem_cons.mpr ⟨mw_5, List.forall_mem_cons.mpr ⟨mw_242, List.forall_mem_cons.mpr ⟨mw_187, List.forall_mem_cons.mpr ⟨mw_188, List.forall_mem_cons.mpr ⟨mw_243, List.forall_mem_cons.mpr ⟨mw_186, List.forall_mem_cons.mpr ⟨mw_244, List.forall_mem_cons.mpr ⟨mw_245, List.forall_mem_cons.mpr ⟨mw_246, List.forall_mem_cons.mpr ⟨mw_247, List.forall_mem_cons.mpr ⟨mw_248, List.forall_mem_cons.mpr ⟨mw_249, List.forall_mem_cons.mpr ⟨mw_250, fun _ h => absurd h List.not_mem_nil⟩⟩⟩⟩⟩⟩⟩⟩⟩⟩⟩⟩⟩⟩⟩⟩⟩⟩) w) (wi_wsX80 w))⟩)
set_option maxRecDepth 20000 in
theorem q_wsL_entry_r1 : ∀ w ∈ wsL_entry_r1, w ∈ lw_tbl := by
  unfold wsL_entry_r1
  exact (List.forall_mem_cons.mpr ⟨mw_254, List.forall_mem_cons.mpr ⟨mw_255, List.forall_mem_cons.mpr ⟨mw_256, List.forall_mem_cons.mpr ⟨mw_2, List.forall_mem_cons.mpr ⟨mw_257, List.forall_mem_cons.mpr ⟨mw_16, List.forall_mem_cons.mpr ⟨mw_200, List.forall_mem_cons.mpr ⟨mw_201, List.forall_mem_cons.mpr ⟨mw_202, List.forall_mem_cons.mpr ⟨mw_203, List.forall_mem_cons.mpr ⟨mw_204, List.forall_mem_cons.mpr ⟨mw_205, List.forall_mem_cons.mpr ⟨mw_206, List.forall_mem_cons.mpr ⟨mw_207, List.forall_mem_cons.mpr ⟨mw_208, List.forall_mem_cons.mpr ⟨mw_209, List.forall_mem_cons.mpr ⟨mw_210, List.forall_mem_cons.mpr ⟨mw_157, List.forall_mem_cons.mpr ⟨mw_158, List.forall_mem_cons.mpr ⟨mw_211, List.forall_mem_cons.mpr ⟨mw_212, List.forall_mem_cons.mpr ⟨mw_213, List.forall_mem_cons.mpr ⟨mw_15, List.forall_mem_cons.mpr ⟨mw_214, fun _ h => absurd h List.not_mem_nil⟩⟩⟩⟩⟩⟩⟩⟩⟩⟩⟩⟩⟩⟩⟩⟩⟩⟩⟩⟩⟩⟩⟩⟩)
set_option maxRecDepth 20000 in
theorem q_wsL_entry_r2 : ∀ w ∈ wsL_entry_r2, w ∈ lw_tbl := by
  unfold wsL_entry_r2
  exact (List.forall_mem_cons.mpr ⟨mw_47, List.forall_mem_cons.mpr ⟨mw_219, List.forall_mem_cons.mpr ⟨mw_220, List.forall_mem_cons.mpr ⟨mw_221, List.forall_mem_cons.mpr ⟨mw_40, List.forall_mem_cons.mpr ⟨mw_222, List.forall_mem_cons.mpr ⟨mw_62, List.forall_mem_cons.mpr ⟨mw_61, fun _ h => absurd h List.not_mem_nil⟩⟩⟩⟩⟩⟩⟩⟩)
set_option maxRecDepth 20000 in
theorem q_wsL_entry : ∀ w ∈ wsL_entry, w ∈ lw_tbl := by
  unfold wsL_entry
  exact (List.forall_mem_cons.mpr ⟨mw_253, (fun w h => (List.mem_append.mp h).elim ((fun w h => (List.mem_append.mp h).elim ((fun w h => (List.mem_append.mp h).elim ((fun w h => (List.mem_append.mp h).elim ((fun w h => (List.mem_append.mp h).elim ((fun w h => (List.mem_append.mp h).elim (q_wsL_entry_r1 w) (q_wsL_entry_r2 w)) w) (wi_wsX70 w)) w) (wi_wsJx000600 w)) w) (wi_wsX20 w)) w) (wi_wsX60 w)) w) (wi_wsX40 w))⟩)
set_option maxRecDepth 20000 in
theorem q_wsX8_entry : ∀ w ∈ wsX8_entry, w ∈ lw_tbl := by
  unfold wsX8_entry
  exact (List.forall_mem_cons.mpr ⟨mw_261, (fun w h => (List.mem_append.mp h).elim ((List.forall_mem_cons.mpr ⟨mw_124, List.forall_mem_cons.mpr ⟨mw_239, List.forall_mem_cons.mpr ⟨mw_240, List.forall_mem_cons.mpr ⟨mw_241, List.forall_mem_cons.mpr ⟨mw_5, List.forall_mem_cons.mpr ⟨mw_242, List.forall_mem_cons.mpr ⟨mw_187, List.forall_mem_cons.mpr ⟨mw_188, List.forall_mem_cons.mpr ⟨mw_243, List.forall_mem_cons.mpr ⟨mw_186, List.forall_mem_cons.mpr ⟨mw_244, List.forall_mem_cons.mpr ⟨mw_245, List.forall_mem_cons.mpr ⟨mw_246, fun _ h => absurd h List.not_mem_nil⟩⟩⟩⟩⟩⟩⟩⟩⟩⟩⟩⟩⟩) w) (wi_wsX80 w))⟩)
set_option maxRecDepth 20000 in
theorem q_wsL_make_r1 : ∀ w ∈ wsL_make_r1, w ∈ lw_tbl := by
  unfold wsL_make_r1
  exact (List.forall_mem_cons.mpr ⟨mw_147, List.forall_mem_cons.mpr ⟨mw_265, List.forall_mem_cons.mpr ⟨mw_266, List.forall_mem_cons.mpr ⟨mw_267, List.forall_mem_cons.mpr ⟨mw_2, List.forall_mem_cons.mpr ⟨mw_268, List.forall_mem_cons.mpr ⟨mw_30, List.forall_mem_cons.mpr ⟨mw_16, List.forall_mem_cons.mpr ⟨mw_31, List.forall_mem_cons.mpr ⟨mw_33, List.forall_mem_cons.mpr ⟨mw_20, List.forall_mem_cons.mpr ⟨mw_269, List.forall_mem_cons.mpr ⟨mw_270, List.forall_mem_cons.mpr ⟨mw_271, List.forall_mem_cons.mpr ⟨mw_272, List.forall_mem_cons.mpr ⟨mw_152, List.forall_mem_cons.mpr ⟨mw_153, List.forall_mem_cons.mpr ⟨mw_273, List.forall_mem_cons.mpr ⟨mw_274, List.forall_mem_cons.mpr ⟨mw_275, List.forall_mem_cons.mpr ⟨mw_276, List.forall_mem_cons.mpr ⟨mw_175, List.forall_mem_cons.mpr ⟨mw_277, List.forall_mem_cons.mpr ⟨mw_278, fun _ h => absurd h List.not_mem_nil⟩⟩⟩⟩⟩⟩⟩⟩⟩⟩⟩⟩⟩⟩⟩⟩⟩⟩⟩⟩⟩⟩⟩⟩)
set_option maxRecDepth 20000 in
theorem q_wsL_make_r2 : ∀ w ∈ wsL_make_r2, w ∈ lw_tbl := by
  unfold wsL_make_r2
  exact (List.forall_mem_cons.mpr ⟨mw_279, List.forall_mem_cons.mpr ⟨mw_19, List.forall_mem_cons.mpr ⟨mw_280, List.forall_mem_cons.mpr ⟨mw_69, List.forall_mem_cons.mpr ⟨mw_72, List.forall_mem_cons.mpr ⟨mw_281, List.forall_mem_cons.mpr ⟨mw_282, List.forall_mem_cons.mpr ⟨mw_283, List.forall_mem_cons.mpr ⟨mw_284, List.forall_mem_cons.mpr ⟨mw_68, List.forall_mem_cons.mpr ⟨mw_285, List.forall_mem_cons.mpr ⟨mw_224, List.forall_mem_cons.mpr ⟨mw_225, List.forall_mem_cons.mpr ⟨mw_40, List.forall_mem_cons.mpr ⟨mw_226, List.forall_mem_cons.mpr ⟨mw_61, List.forall_mem_cons.mpr ⟨mw_62, List.forall_mem_cons.mpr ⟨mw_227, List.forall_mem_cons.mpr ⟨mw_228, List.forall_mem_cons.mpr ⟨mw_229, List.forall_mem_cons.mpr ⟨mw_230, List.forall_mem_cons.mpr ⟨mw_231, List.forall_mem_cons.mpr ⟨mw_232, List.forall_mem_cons.mpr ⟨mw_233, fun _ h => absurd h List.not_mem_nil⟩⟩⟩⟩⟩⟩⟩⟩⟩⟩⟩⟩⟩⟩⟩⟩⟩⟩⟩⟩⟩⟩⟩⟩)
set_option maxRecDepth 20000 in
theorem q_wsL_make_r3 : ∀ w ∈ wsL_make_r3, w ∈ lw_tbl := by
  unfold wsL_make_r3
  exact (List.forall_mem_cons.mpr ⟨mw_234, List.forall_mem_cons.mpr ⟨mw_286, List.forall_mem_cons.mpr ⟨mw_168, List.forall_mem_cons.mpr ⟨mw_169, List.forall_mem_cons.mpr ⟨mw_170, List.forall_mem_cons.mpr ⟨mw_75, List.forall_mem_cons.mpr ⟨mw_76, List.forall_mem_cons.mpr ⟨mw_77, List.forall_mem_cons.mpr ⟨mw_78, List.forall_mem_cons.mpr ⟨mw_79, List.forall_mem_cons.mpr ⟨mw_80, List.forall_mem_cons.mpr ⟨mw_81, List.forall_mem_cons.mpr ⟨mw_287, List.forall_mem_cons.mpr ⟨mw_288, List.forall_mem_cons.mpr ⟨mw_289, List.forall_mem_cons.mpr ⟨mw_290, List.forall_mem_cons.mpr ⟨mw_291, List.forall_mem_cons.mpr ⟨mw_292, List.forall_mem_cons.mpr ⟨mw_293, List.forall_mem_cons.mpr ⟨mw_294, List.forall_mem_cons.mpr ⟨mw_212, List.forall_mem_cons.mpr ⟨mw_213, List.forall_mem_cons.mpr ⟨mw_15, List.forall_mem_cons.mpr ⟨mw_214, fun _ h => absurd h List.not_mem_nil⟩⟩⟩⟩⟩⟩⟩⟩⟩⟩⟩⟩⟩⟩⟩⟩⟩⟩⟩⟩⟩⟩⟩⟩)
set_option maxRecDepth 20000 in
theorem q_wsL_make_r4 : ∀ w ∈ wsL_make_r4, w ∈ lw_tbl := by
  unfold wsL_make_r4
  exact (List.forall_mem_cons.mpr ⟨mw_47, List.forall_mem_cons.mpr ⟨mw_295, List.forall_mem_cons.mpr ⟨mw_296, List.forall_mem_cons.mpr ⟨mw_297, List.forall_mem_cons.mpr ⟨mw_298, List.forall_mem_cons.mpr ⟨mw_299, List.forall_mem_cons.mpr ⟨mw_300, List.forall_mem_cons.mpr ⟨mw_301, List.forall_mem_cons.mpr ⟨mw_302, List.forall_mem_cons.mpr ⟨mw_303, List.forall_mem_cons.mpr ⟨mw_304, List.forall_mem_cons.mpr ⟨mw_36, List.forall_mem_cons.mpr ⟨mw_305, List.forall_mem_cons.mpr ⟨mw_87, List.forall_mem_cons.mpr ⟨mw_88, List.forall_mem_cons.mpr ⟨mw_89, List.forall_mem_cons.mpr ⟨mw_306, List.forall_mem_cons.mpr ⟨mw_307, List.forall_mem_cons.mpr ⟨mw_308, List.forall_mem_cons.mpr ⟨mw_309, List.forall_mem_cons.mpr ⟨mw_310, List.forall_mem_cons.mpr ⟨mw_311, List.forall_mem_cons.mpr ⟨mw_312, List.forall_mem_cons.mpr ⟨mw_313, fun _ h => absurd h List.not_mem_nil⟩⟩⟩⟩⟩⟩⟩⟩⟩⟩⟩⟩⟩⟩⟩⟩⟩⟩⟩⟩⟩⟩⟩⟩)
set_option maxRecDepth 20000 in
theorem q_wsL_make_r5 : ∀ w ∈ wsL_make_r5, w ∈ lw_tbl := by
  unfold wsL_make_r5
  exact (List.forall_mem_cons.mpr ⟨mw_314, List.forall_mem_cons.mpr ⟨mw_315, List.forall_mem_cons.mpr ⟨mw_316, List.forall_mem_cons.mpr ⟨mw_317, List.forall_mem_cons.mpr ⟨mw_318, List.forall_mem_cons.mpr ⟨mw_319, List.forall_mem_cons.mpr ⟨mw_320, List.forall_mem_cons.mpr ⟨mw_321, List.forall_mem_cons.mpr ⟨mw_322, List.forall_mem_cons.mpr ⟨mw_323, List.forall_mem_cons.mpr ⟨mw_324, List.forall_mem_cons.mpr ⟨mw_325, List.forall_mem_cons.mpr ⟨mw_326, List.forall_mem_cons.mpr ⟨mw_327, List.forall_mem_cons.mpr ⟨mw_328, List.forall_mem_cons.mpr ⟨mw_73, List.forall_mem_cons.mpr ⟨mw_70, List.forall_mem_cons.mpr ⟨mw_329, List.forall_mem_cons.mpr ⟨mw_330, List.forall_mem_cons.mpr ⟨mw_331, List.forall_mem_cons.mpr ⟨mw_332, List.forall_mem_cons.mpr ⟨mw_333, List.forall_mem_cons.mpr ⟨mw_334, List.forall_mem_cons.mpr ⟨mw_335, fun _ h => absurd h List.not_mem_nil⟩⟩⟩⟩⟩⟩⟩⟩⟩⟩⟩⟩⟩⟩⟩⟩⟩⟩⟩⟩⟩⟩⟩⟩)
set_option maxRecDepth 20000 in
theorem q_wsL_make_r6 : ∀ w ∈ wsL_make_r6, w ∈ lw_tbl := by
  unfold wsL_make_r6
  exact (List.forall_mem_cons.mpr ⟨mw_336, List.forall_mem_cons.mpr ⟨mw_157, List.forall_mem_cons.mpr ⟨mw_158, List.forall_mem_cons.mpr ⟨mw_337, List.forall_mem_cons.mpr ⟨mw_338, List.forall_mem_cons.mpr ⟨mw_339, List.forall_mem_cons.mpr ⟨mw_340, List.forall_mem_cons.mpr ⟨mw_219, List.forall_mem_cons.mpr ⟨mw_220, List.forall_mem_cons.mpr ⟨mw_221, List.forall_mem_cons.mpr ⟨mw_222, List.forall_mem_cons.mpr ⟨mw_341, List.forall_mem_cons.mpr ⟨mw_211, List.forall_mem_cons.mpr ⟨mw_342, List.forall_mem_cons.mpr ⟨mw_343, List.forall_mem_cons.mpr ⟨mw_344, List.forall_mem_cons.mpr ⟨mw_345, List.forall_mem_cons.mpr ⟨mw_346, List.forall_mem_cons.mpr ⟨mw_347, List.forall_mem_cons.mpr ⟨mw_348, List.forall_mem_cons.mpr ⟨mw_349, List.forall_mem_cons.mpr ⟨mw_350, List.forall_mem_cons.mpr ⟨mw_29, List.forall_mem_cons.mpr ⟨mw_351, fun _ h => absurd h List.not_mem_nil⟩⟩⟩⟩⟩⟩⟩⟩⟩⟩⟩⟩⟩⟩⟩⟩⟩⟩⟩⟩⟩⟩⟩⟩)
set_option maxRecDepth 20000 in
theorem q_wsL_make_r7 : ∀ w ∈ wsL_make_r7, w ∈ lw_tbl := by
  unfold wsL_make_r7
  exact (List.forall_mem_cons.mpr ⟨mw_112, List.forall_mem_cons.mpr ⟨mw_115, List.forall_mem_cons.mpr ⟨mw_352, List.forall_mem_cons.mpr ⟨mw_353, List.forall_mem_cons.mpr ⟨mw_354, List.forall_mem_cons.mpr ⟨mw_49, List.forall_mem_cons.mpr ⟨mw_355, List.forall_mem_cons.mpr ⟨mw_55, List.forall_mem_cons.mpr ⟨mw_356, List.forall_mem_cons.mpr ⟨mw_357, List.forall_mem_cons.mpr ⟨mw_358, List.forall_mem_cons.mpr ⟨mw_359, List.forall_mem_cons.mpr ⟨mw_360, List.forall_mem_cons.mpr ⟨mw_111, List.forall_mem_cons.mpr ⟨mw_114, List.forall_mem_cons.mpr ⟨mw_361, List.forall_mem_cons.mpr ⟨mw_362, List.forall_mem_cons.mpr ⟨mw_363, List.forall_mem_cons.mpr ⟨mw_364, List.forall_mem_cons.mpr ⟨mw_365, List.forall_mem_cons.mpr ⟨mw_366, List.forall_mem_cons.mpr ⟨mw_367, List.forall_mem_cons.mpr ⟨mw_368, List.forall_mem_cons.mpr ⟨mw_369, fun _ h => absurd h List.not_mem_nil⟩⟩⟩⟩⟩⟩⟩⟩⟩⟩⟩⟩⟩⟩⟩⟩⟩⟩⟩⟩⟩⟩⟩⟩)
set_option maxRecDepth 20000 in
theorem q_wsL_make_r8 : ∀ w ∈ wsL_make_r8, w ∈ lw_tbl := by
  unfold wsL_make_r8
  exact (List.forall_mem_cons.mpr ⟨mw_370, List.forall_mem_cons.mpr ⟨mw_371, List.forall_mem_cons.mpr ⟨mw_372, List.forall_mem_cons.mpr ⟨mw_373, List.forall_mem_cons.mpr ⟨mw_374, List.forall_mem_cons.mpr ⟨mw_375, List.forall_mem_cons.mpr ⟨mw_376, List.forall_mem_cons.mpr ⟨mw_377, List.forall_mem_cons.mpr ⟨mw_378, List.forall_mem_cons.mpr ⟨mw_379, List.forall_mem_cons.mpr ⟨mw_380, List.forall_mem_cons.mpr ⟨mw_381, List.forall_mem_cons.mpr ⟨mw_382, List.forall_mem_cons.mpr ⟨mw_383, List.forall_mem_cons.mpr ⟨mw_384, List.forall_mem_cons.mpr ⟨mw_385, List.forall_mem_cons.mpr ⟨mw_160, List.forall_mem_cons.mpr ⟨mw_161, List.forall_mem_cons.mpr ⟨mw_162, List.forall_mem_cons.mpr ⟨mw_163, List.forall_mem_cons.mpr ⟨mw_164, List.forall_mem_cons.mpr ⟨mw_165, List.forall_mem_cons.mpr ⟨mw_166, List.forall_mem_cons.mpr ⟨mw_167, fun _ h => absurd h List.not_mem_nil⟩⟩⟩⟩⟩⟩⟩⟩⟩⟩⟩⟩⟩⟩⟩⟩⟩⟩⟩⟩⟩⟩⟩⟩)
set_option maxRecDepth 20000 in
theorem q_wsL_make_r9 : ∀ w ∈ wsL_make_r9, w ∈ lw_tbl := by
  unfold wsL_make_r9
  exact (List.forall_mem_cons.mpr ⟨mw_386, List.forall_mem_cons.mpr ⟨mw_387, List.forall_mem_cons.mpr ⟨mw_388, List.forall_mem_cons.mpr ⟨mw_389, List.forall_mem_cons.mpr ⟨mw_159, fun _ h => absurd h List.not_mem_nil⟩⟩⟩⟩⟩)
set_option maxRecDepth 20000 in
theorem q_wsL_make : ∀ w ∈ wsL_make, w ∈ lw_tbl := by
  unfold wsL_make
  exact (List.forall_mem_cons.mpr ⟨mw_264, (fun w h => (List.mem_append.mp h).elim ((fun w h => (List.mem_append.mp h).elim ((fun w h => (List.mem_append.mp h).elim ((fun w h => (List.mem_append.mp h).elim ((fun w h => (List.mem_append.mp h).elim ((fun w h => (List.mem_append.mp h).elim ((fun w h => (List.mem_append.mp h).elim ((fun w h => (List.mem_append.mp h).elim ((fun w h => (List.mem_append.mp h).elim (q_wsL_make_r1 w) ((fun w h => (List.mem_append.mp h).elim (q_wsL_make_r2 w) ((fun w h => (List.mem_append.mp h).elim (q_wsL_make_r3 w) ((fun w h => (List.mem_append.mp h).elim (q_wsL_make_r4 w) ((fun w h => (List.mem_append.mp h).elim (q_wsL_make_r5 w) ((fun w h => (List.mem_append.mp h).elim (q_wsL_make_r6 w) ((fun w h => (List.mem_append.mp h).elim (q_wsL_make_r7 w) ((fun w h => (List.mem_append.mp h).elim (q_wsL_make_r8 w) (q_wsL_make_r9 w)) w)) w)) w)) w)) w)) w)) w)) w) (wi_wsX70 w)) w) (wi_wsX30 w)) w) (wi_wsX40 w)) w) (wi_wsX20 w)) w) (wi_wsX60 w)) w) (wi_wsX00 w)) w) (wi_wsX10 w)) w) (wsL_law_x0 w))⟩)
set_option maxRecDepth 20000 in
theorem q_wsX8_make_r1 : ∀ w ∈ wsX8_make_r1, w ∈ lw_tbl := by
  unfold wsX8_make_r1
  exact (List.forall_mem_cons.mpr ⟨mw_394, List.forall_mem_cons.mpr ⟨mw_186, List.forall_mem_cons.mpr ⟨mw_125, List.forall_mem_cons.mpr ⟨mw_187, List.forall_mem_cons.mpr ⟨mw_188, List.forall_mem_cons.mpr ⟨mw_244, List.forall_mem_cons.mpr ⟨mw_245, List.forall_mem_cons.mpr ⟨mw_5, List.forall_mem_cons.mpr ⟨mw_246, List.forall_mem_cons.mpr ⟨mw_395, List.forall_mem_cons.mpr ⟨mw_396, List.forall_mem_cons.mpr ⟨mw_397, List.forall_mem_cons.mpr ⟨mw_398, List.forall_mem_cons.mpr ⟨mw_128, List.forall_mem_cons.mpr ⟨mw_124, List.forall_mem_cons.mpr ⟨mw_399, List.forall_mem_cons.mpr ⟨mw_400, List.forall_mem_cons.mpr ⟨mw_401, List.forall_mem_cons.mpr ⟨mw_402, List.forall_mem_cons.mpr ⟨mw_127, List.forall_mem_cons.mpr ⟨mw_403, List.forall_mem_cons.mpr ⟨mw_404, List.forall_mem_cons.mpr ⟨mw_405, List.forall_mem_cons.mpr ⟨mw_406, fun _ h => absurd h List.not_mem_nil⟩⟩⟩⟩⟩⟩⟩⟩⟩⟩⟩⟩⟩⟩⟩⟩⟩⟩⟩⟩⟩⟩⟩⟩)
set_option maxRecDepth 20000 in
theorem q_wsX8_make_r2 : ∀ w ∈ wsX8_make_r2, w ∈ lw_tbl := by
  unfold wsX8_make_r2
  exact (List.forall_mem_cons.mpr ⟨mw_407, List.forall_mem_cons.mpr ⟨mw_408, List.forall_mem_cons.mpr ⟨mw_409, List.forall_mem_cons.mpr ⟨mw_250, List.forall_mem_cons.mpr ⟨mw_247, List.forall_mem_cons.mpr ⟨mw_248, List.forall_mem_cons.mpr ⟨mw_249, List.forall_mem_cons.mpr ⟨mw_410, List.forall_mem_cons.mpr ⟨mw_411, List.forall_mem_cons.mpr ⟨mw_412, List.forall_mem_cons.mpr ⟨mw_413, List.forall_mem_cons.mpr ⟨mw_126, List.forall_mem_cons.mpr ⟨mw_414, List.forall_mem_cons.mpr ⟨mw_415, List.forall_mem_cons.mpr ⟨mw_416, List.forall_mem_cons.mpr ⟨mw_417, List.forall_mem_cons.mpr ⟨mw_129, List.forall_mem_cons.mpr ⟨mw_130, List.forall_mem_cons.mpr ⟨mw_131, List.forall_mem_cons.mpr ⟨mw_418, List.forall_mem_cons.mpr ⟨mw_419, List.forall_mem_cons.mpr ⟨mw_420, List.forall_mem_cons.mpr ⟨mw_421, List.forall_mem_cons.mpr ⟨mw_422, fun _ h => absurd h List.not_mem_nil⟩⟩⟩⟩⟩⟩⟩⟩⟩⟩⟩⟩⟩⟩⟩⟩⟩⟩⟩⟩⟩⟩⟩⟩)
set_option maxRecDepth 20000 in
theorem q_wsX8_make_r3 : ∀ w ∈ wsX8_make_r3, w ∈ lw_tbl := by
  unfold wsX8_make_r3
  exact (List.forall_mem_cons.mpr ⟨mw_423, List.forall_mem_cons.mpr ⟨mw_424, List.forall_mem_cons.mpr ⟨mw_425, List.forall_mem_cons.mpr ⟨mw_426, List.forall_mem_cons.mpr ⟨mw_427, List.forall_mem_cons.mpr ⟨mw_428, List.forall_mem_cons.mpr ⟨mw_132, List.forall_mem_cons.mpr ⟨mw_429, List.forall_mem_cons.mpr ⟨mw_430, List.forall_mem_cons.mpr ⟨mw_431, List.forall_mem_cons.mpr ⟨mw_432, List.forall_mem_cons.mpr ⟨mw_433, List.forall_mem_cons.mpr ⟨mw_434, List.forall_mem_cons.mpr ⟨mw_435, List.forall_mem_cons.mpr ⟨mw_436, List.forall_mem_cons.mpr ⟨mw_437, List.forall_mem_cons.mpr ⟨mw_438, List.forall_mem_cons.mpr ⟨mw_439, List.forall_mem_cons.mpr ⟨mw_440, List.forall_mem_cons.mpr ⟨mw_441, List.forall_mem_cons.mpr ⟨mw_442, List.forall_mem_cons.mpr ⟨mw_443, List.forall_mem_cons.mpr ⟨mw_444, List.forall_mem_cons.mpr ⟨mw_445, fun _ h => absurd h List.not_mem_nil⟩⟩⟩⟩⟩⟩⟩⟩⟩⟩⟩⟩⟩⟩⟩⟩⟩⟩⟩⟩⟩⟩⟩⟩)
set_option maxRecDepth 20000 in
theorem q_wsX8_make_r4 : ∀ w ∈ wsX8_make_r4, w ∈ lw_tbl := by
  unfold wsX8_make_r4
  exact (List.forall_mem_cons.mpr ⟨mw_446, List.forall_mem_cons.mpr ⟨mw_447, List.forall_mem_cons.mpr ⟨mw_448, List.forall_mem_cons.mpr ⟨mw_449, List.forall_mem_cons.mpr ⟨mw_450, List.forall_mem_cons.mpr ⟨mw_451, List.forall_mem_cons.mpr ⟨mw_452, List.forall_mem_cons.mpr ⟨mw_453, List.forall_mem_cons.mpr ⟨mw_454, List.forall_mem_cons.mpr ⟨mw_455, List.forall_mem_cons.mpr ⟨mw_456, List.forall_mem_cons.mpr ⟨mw_457, List.forall_mem_cons.mpr ⟨mw_458, List.forall_mem_cons.mpr ⟨mw_133, List.forall_mem_cons.mpr ⟨mw_459, List.forall_mem_cons.mpr ⟨mw_460, List.forall_mem_cons.mpr ⟨mw_461, List.forall_mem_cons.mpr ⟨mw_462, List.forall_mem_cons.mpr ⟨mw_463, List.forall_mem_cons.mpr ⟨mw_464, List.forall_mem_cons.mpr ⟨mw_465, List.forall_mem_cons.mpr ⟨mw_466, List.forall_mem_cons.mpr ⟨mw_467, List.forall_mem_cons.mpr ⟨mw_468, fun _ h => absurd h List.not_mem_nil⟩⟩⟩⟩⟩⟩⟩⟩⟩⟩⟩⟩⟩⟩⟩⟩⟩⟩⟩⟩⟩⟩⟩⟩)
set_option maxRecDepth 20000 in
theorem q_wsX8_make_r5 : ∀ w ∈ wsX8_make_r5, w ∈ lw_tbl := by
  unfold wsX8_make_r5
  exact (List.forall_mem_cons.mpr ⟨mw_469, List.forall_mem_cons.mpr ⟨mw_470, List.forall_mem_cons.mpr ⟨mw_134, List.forall_mem_cons.mpr ⟨mw_471, List.forall_mem_cons.mpr ⟨mw_472, List.forall_mem_cons.mpr ⟨mw_473, List.forall_mem_cons.mpr ⟨mw_474, List.forall_mem_cons.mpr ⟨mw_475, List.forall_mem_cons.mpr ⟨mw_476, List.forall_mem_cons.mpr ⟨mw_477, List.forall_mem_cons.mpr ⟨mw_478, List.forall_mem_cons.mpr ⟨mw_479, List.forall_mem_cons.mpr ⟨mw_480, List.forall_mem_cons.mpr ⟨mw_481, List.forall_mem_cons.mpr ⟨mw_482, List.forall_mem_cons.mpr ⟨mw_483, List.forall_mem_cons.mpr ⟨mw_484, List.forall_mem_cons.mpr ⟨mw_485, List.forall_mem_cons.mpr ⟨mw_486, List.forall_mem_cons.mpr ⟨mw_487, List.forall_mem_cons.mpr ⟨mw_488, List.forall_mem_cons.mpr ⟨mw_489, List.forall_mem_cons.mpr ⟨mw_490, List.forall_mem_cons.mpr ⟨mw_491, fun _ h => absurd h List.not_mem_nil⟩⟩⟩⟩⟩⟩⟩⟩⟩⟩⟩⟩⟩⟩⟩⟩⟩⟩⟩⟩⟩⟩⟩⟩)
set_option maxRecDepth 20000 in
theorem q_wsX8_make_r6 : ∀ w ∈ wsX8_make_r6, w ∈ lw_tbl := by
  unfold wsX8_make_r6
  exact (List.forall_mem_cons.mpr ⟨mw_492, List.forall_mem_cons.mpr ⟨mw_493, fun _ h => absurd h List.not_mem_nil⟩⟩)
set_option maxRecDepth 20000 in
theorem q_wsX8_make : ∀ w ∈ wsX8_make, w ∈ lw_tbl := by
  unfold wsX8_make
  exact (List.forall_mem_cons.mpr ⟨mw_393, (fun w h => (List.mem_append.mp h).elim ((fun w h => (List.mem_append.mp h).elim (q_wsX8_make_r1 w) ((fun w h => (List.mem_append.mp h).elim (q_wsX8_make_r2 w) ((fun w h => (List.mem_append.mp h).elim (q_wsX8_make_r3 w) ((fun w h => (List.mem_append.mp h).elim (q_wsX8_make_r4 w) ((fun w h => (List.mem_append.mp h).elim (q_wsX8_make_r5 w) (q_wsX8_make_r6 w)) w)) w)) w)) w)) w) (wi_wsX80 w))⟩)
set_option maxRecDepth 20000 in
theorem q_wsL_degree_r1 : ∀ w ∈ wsL_degree_r1, w ∈ lw_tbl := by
  unfold wsL_degree_r1
  exact (List.forall_mem_cons.mpr ⟨mw_147, List.forall_mem_cons.mpr ⟨mw_497, List.forall_mem_cons.mpr ⟨mw_498, List.forall_mem_cons.mpr ⟨mw_499, List.forall_mem_cons.mpr ⟨mw_500, List.forall_mem_cons.mpr ⟨mw_2, List.forall_mem_cons.mpr ⟨mw_501, List.forall_mem_cons.mpr ⟨mw_502, List.forall_mem_cons.mpr ⟨mw_503, List.forall_mem_cons.mpr ⟨mw_504, List.forall_mem_cons.mpr ⟨mw_505, List.forall_mem_cons.mpr ⟨mw_506, List.forall_mem_cons.mpr ⟨mw_507, List.forall_mem_cons.mpr ⟨mw_33, List.forall_mem_cons.mpr ⟨mw_31, List.forall_mem_cons.mpr ⟨mw_269, List.forall_mem_cons.mpr ⟨mw_270, List.forall_mem_cons.mpr ⟨mw_271, List.forall_mem_cons.mpr ⟨mw_272, List.forall_mem_cons.mpr ⟨mw_152, List.forall_mem_cons.mpr ⟨mw_153, List.forall_mem_cons.mpr ⟨mw_207, List.forall_mem_cons.mpr ⟨mw_208, List.forall_mem_cons.mpr ⟨mw_209, fun _ h => absurd h List.not_mem_nil⟩⟩⟩⟩⟩⟩⟩⟩⟩⟩⟩⟩⟩⟩⟩⟩⟩⟩⟩⟩⟩⟩⟩⟩)
set_option maxRecDepth 20000 in
theorem q_wsL_degree_r2 : ∀ w ∈ wsL_degree_r2, w ∈ lw_tbl := by
  unfold wsL_degree_r2
  exact (List.forall_mem_cons.mpr ⟨mw_210, List.forall_mem_cons.mpr ⟨mw_157, List.forall_mem_cons.mpr ⟨mw_158, List.forall_mem_cons.mpr ⟨mw_204, List.forall_mem_cons.mpr ⟨mw_205, List.forall_mem_cons.mpr ⟨mw_206, List.forall_mem_cons.mpr ⟨mw_211, List.forall_mem_cons.mpr ⟨mw_212, List.forall_mem_cons.mpr ⟨mw_213, List.forall_mem_cons.mpr ⟨mw_15, List.forall_mem_cons.mpr ⟨mw_214, List.forall_mem_cons.mpr ⟨mw_47, fun _ h => absurd h List.not_mem_nil⟩⟩⟩⟩⟩⟩⟩⟩⟩⟩⟩⟩)
set_option maxRecDepth 20000 in
theorem q_wsL_degree : ∀ w ∈ wsL_degree, w ∈ lw_tbl := by
  unfold wsL_degree
  exact (List.forall_mem_cons.mpr ⟨mw_496, (fun w h => (List.mem_append.mp h).elim ((fun w h => (List.mem_append.mp h).elim ((fun w h => (List.mem_append.mp h).elim ((fun w h => (List.mem_append.mp h).elim ((fun w h => (List.mem_append.mp h).elim ((fun w h => (List.mem_append.mp h).elim ((fun w h => (List.mem_append.mp h).elim ((fun w h => (List.mem_append.mp h).elim (q_wsL_degree_r1 w) (q_wsL_degree_r2 w)) w) (wi_wsX40 w)) w) (wi_wsX70 w)) w) (wi_wsJx000600 w)) w) (wi_wsX20 w)) w) (wi_wsX60 w)) w) (wsL_law_x1 w)) w) (wsL_law_x0 w))⟩)
set_option maxRecDepth 20000 in
theorem q_wsX8_degree : ∀ w ∈ wsX8_degree, w ∈ lw_tbl := by
  unfold wsX8_degree
  exact (List.forall_mem_cons.mpr ⟨mw_511, (fun w h => (List.mem_append.mp h).elim ((List.forall_mem_cons.mpr ⟨mw_126, List.forall_mem_cons.mpr ⟨mw_512, List.forall_mem_cons.mpr ⟨mw_513, List.forall_mem_cons.mpr ⟨mw_514, List.forall_mem_cons.mpr ⟨mw_5, List.forall_mem_cons.mpr ⟨mw_515, List.forall_mem_cons.mpr ⟨mw_394, List.forall_mem_cons.mpr ⟨mw_125, List.forall_mem_cons.mpr ⟨mw_187, List.forall_mem_cons.mpr ⟨mw_188, List.forall_mem_cons.mpr ⟨mw_186, List.forall_mem_cons.mpr ⟨mw_244, List.forall_mem_cons.mpr ⟨mw_245, List.forall_mem_cons.mpr ⟨mw_246, fun _ h => absurd h List.not_mem_nil⟩⟩⟩⟩⟩⟩⟩⟩⟩⟩⟩⟩⟩⟩) w) (wi_wsX80 w))⟩)
set_option maxRecDepth 20000 in
theorem q_wsL_at_r1 : ∀ w ∈ wsL_at_r1, w ∈ lw_tbl := by
  unfold wsL_at_r1
  exact (List.forall_mem_cons.mpr ⟨mw_147, List.forall_mem_cons.mpr ⟨mw_497, List.forall_mem_cons.mpr ⟨mw_519, List.forall_mem_cons.mpr ⟨mw_520, List.forall_mem_cons.mpr ⟨mw_521, List.forall_mem_cons.mpr ⟨mw_2, List.forall_mem_cons.mpr ⟨mw_522, List.forall_mem_cons.mpr ⟨mw_502, List.forall_mem_cons.mpr ⟨mw_503, List.forall_mem_cons.mpr ⟨mw_504, List.forall_mem_cons.mpr ⟨mw_505, List.forall_mem_cons.mpr ⟨mw_506, List.forall_mem_cons.mpr ⟨mw_507, List.forall_mem_cons.mpr ⟨mw_33, List.forall_mem_cons.mpr ⟨mw_31, List.forall_mem_cons.mpr ⟨mw_269, List.forall_mem_cons.mpr ⟨mw_270, List.forall_mem_cons.mpr ⟨mw_271, List.forall_mem_cons.mpr ⟨mw_272, List.forall_mem_cons.mpr ⟨mw_152, List.forall_mem_cons.mpr ⟨mw_153, List.forall_mem_cons.mpr ⟨mw_207, List.forall_mem_cons.mpr ⟨mw_208, List.forall_mem_cons.mpr ⟨mw_209, fun _ h => absurd h List.not_mem_nil⟩⟩⟩⟩⟩⟩⟩⟩⟩⟩⟩⟩⟩⟩⟩⟩⟩⟩⟩⟩⟩⟩⟩⟩)
set_option maxRecDepth 20000 in
theorem q_wsL_at_r2 : ∀ w ∈ wsL_at_r2, w ∈ lw_tbl := by
  unfold wsL_at_r2
  exact (List.forall_mem_cons.mpr ⟨mw_210, List.forall_mem_cons.mpr ⟨mw_157, List.forall_mem_cons.mpr ⟨mw_158, List.forall_mem_cons.mpr ⟨mw_204, List.forall_mem_cons.mpr ⟨mw_205, List.forall_mem_cons.mpr ⟨mw_206, List.forall_mem_cons.mpr ⟨mw_211, List.forall_mem_cons.mpr ⟨mw_212, List.forall_mem_cons.mpr ⟨mw_213, List.forall_mem_cons.mpr ⟨mw_15, List.forall_mem_cons.mpr ⟨mw_214, List.forall_mem_cons.mpr ⟨mw_47, List.forall_mem_cons.mpr ⟨mw_219, List.forall_mem_cons.mpr ⟨mw_220, List.forall_mem_cons.mpr ⟨mw_221, List.forall_mem_cons.mpr ⟨mw_40, List.forall_mem_cons.mpr ⟨mw_222, List.forall_mem_cons.mpr ⟨mw_62, List.forall_mem_cons.mpr ⟨mw_61, fun _ h => absurd h List.not_mem_nil⟩⟩⟩⟩⟩⟩⟩⟩⟩⟩⟩⟩⟩⟩⟩⟩⟩⟩⟩)
set_option maxRecDepth 20000 in
theorem q_wsL_at : ∀ w ∈ wsL_at, w ∈ lw_tbl := by
  unfold wsL_at
  exact (List.forall_mem_cons.mpr ⟨mw_518, (fun w h => (List.mem_append.mp h).elim ((fun w h => (List.mem_append.mp h).elim ((fun w h => (List.mem_append.mp h).elim ((fun w h => (List.mem_append.mp h).elim ((fun w h => (List.mem_append.mp h).elim ((fun w h => (List.mem_append.mp h).elim ((fun w h => (List.mem_append.mp h).elim ((fun w h => (List.mem_append.mp h).elim (q_wsL_at_r1 w) (q_wsL_at_r2 w)) w) (wi_wsX70 w)) w) (wi_wsJx000600 w)) w) (wi_wsX20 w)) w) (wi_wsX60 w)) w) (wi_wsX40 w)) w) (wsL_law_x1 w)) w) (wsL_law_x0 w))⟩)
set_option maxRecDepth 20000 in
theorem q_wsX8_at : ∀ w ∈ wsX8_at, w ∈ lw_tbl := by
  unfold wsX8_at
  exact (List.forall_mem_cons.mpr ⟨mw_526, (fun w h => (List.mem_append.mp h).elim ((List.forall_mem_cons.mpr ⟨mw_527, List.forall_mem_cons.mpr ⟨mw_126, List.forall_mem_cons.mpr ⟨mw_512, List.forall_mem_cons.mpr ⟨mw_513, List.forall_mem_cons.mpr ⟨mw_514, List.forall_mem_cons.mpr ⟨mw_5, List.forall_mem_cons.mpr ⟨mw_515, List.forall_mem_cons.mpr ⟨mw_394, List.forall_mem_cons.mpr ⟨mw_125, List.forall_mem_cons.mpr ⟨mw_187, List.forall_mem_cons.mpr ⟨mw_188, List.forall_mem_cons.mpr ⟨mw_186, List.forall_mem_cons.mpr ⟨mw_244, List.forall_mem_cons.mpr ⟨mw_245, List.forall_mem_cons.mpr ⟨mw_246, fun _ h => absurd h List.not_mem_nil⟩⟩⟩⟩⟩⟩⟩⟩⟩⟩⟩⟩⟩⟩⟩) w) (wi_wsX80 w))⟩)
set_option maxRecDepth 20000 in
theorem q_wsX7_rank_r1 : ∀ w ∈ wsX7_rank_r1, w ∈ lw_tbl := by
  unfold wsX7_rank_r1
  exact (List.forall_mem_cons.mpr ⟨mw_20, List.forall_mem_cons.mpr ⟨mw_273, List.forall_mem_cons.mpr ⟨mw_274, List.forall_mem_cons.mpr ⟨mw_275, List.forall_mem_cons.mpr ⟨mw_2, List.forall_mem_cons.mpr ⟨mw_276, List.forall_mem_cons.mpr ⟨mw_175, List.forall_mem_cons.mpr ⟨mw_16, List.forall_mem_cons.mpr ⟨mw_277, List.forall_mem_cons.mpr ⟨mw_278, List.forall_mem_cons.mpr ⟨mw_279, List.forall_mem_cons.mpr ⟨mw_19, List.forall_mem_cons.mpr ⟨mw_280, List.forall_mem_cons.mpr ⟨mw_69, List.forall_mem_cons.mpr ⟨mw_72, List.forall_mem_cons.mpr ⟨mw_281, List.forall_mem_cons.mpr ⟨mw_282, List.forall_mem_cons.mpr ⟨mw_283, List.forall_mem_cons.mpr ⟨mw_284, List.forall_mem_cons.mpr ⟨mw_68, List.forall_mem_cons.mpr ⟨mw_285, List.forall_mem_cons.mpr ⟨mw_224, List.forall_mem_cons.mpr ⟨mw_225, List.forall_mem_cons.mpr ⟨mw_40, fun _ h => absurd h List.not_mem_nil⟩⟩⟩⟩⟩⟩⟩⟩⟩⟩⟩⟩⟩⟩⟩⟩⟩⟩⟩⟩⟩⟩⟩⟩)
set_option maxRecDepth 20000 in
theorem q_wsX7_rank_r2 : ∀ w ∈ wsX7_rank_r2, w ∈ lw_tbl := by
  unfold wsX7_rank_r2
  exact (List.forall_mem_cons.mpr ⟨mw_226, List.forall_mem_cons.mpr ⟨mw_61, List.forall_mem_cons.mpr ⟨mw_62, List.forall_mem_cons.mpr ⟨mw_227, List.forall_mem_cons.mpr ⟨mw_228, List.forall_mem_cons.mpr ⟨mw_229, List.forall_mem_cons.mpr ⟨mw_230, List.forall_mem_cons.mpr ⟨mw_231, List.forall_mem_cons.mpr ⟨mw_232, List.forall_mem_cons.mpr ⟨mw_233, List.forall_mem_cons.mpr ⟨mw_234, List.forall_mem_cons.mpr ⟨mw_286, List.forall_mem_cons.mpr ⟨mw_168, List.forall_mem_cons.mpr ⟨mw_169, List.forall_mem_cons.mpr ⟨mw_170, List.forall_mem_cons.mpr ⟨mw_75, List.forall_mem_cons.mpr ⟨mw_76, List.forall_mem_cons.mpr ⟨mw_77, List.forall_mem_cons.mpr ⟨mw_78, List.forall_mem_cons.mpr ⟨mw_79, List.forall_mem_cons.mpr ⟨mw_80, List.forall_mem_cons.mpr ⟨mw_81, List.forall_mem_cons.mpr ⟨mw_287, List.forall_mem_cons.mpr ⟨mw_288, fun _ h => absurd h List.not_mem_nil⟩⟩⟩⟩⟩⟩⟩⟩⟩⟩⟩⟩⟩⟩⟩⟩⟩⟩⟩⟩⟩⟩⟩⟩)
set_option maxRecDepth 20000 in
theorem q_wsX7_rank_r3 : ∀ w ∈ wsX7_rank_r3, w ∈ lw_tbl := by
  unfold wsX7_rank_r3
  exact (List.forall_mem_cons.mpr ⟨mw_289, List.forall_mem_cons.mpr ⟨mw_290, List.forall_mem_cons.mpr ⟨mw_291, List.forall_mem_cons.mpr ⟨mw_292, List.forall_mem_cons.mpr ⟨mw_293, List.forall_mem_cons.mpr ⟨mw_294, List.forall_mem_cons.mpr ⟨mw_212, List.forall_mem_cons.mpr ⟨mw_213, List.forall_mem_cons.mpr ⟨mw_15, List.forall_mem_cons.mpr ⟨mw_214, List.forall_mem_cons.mpr ⟨mw_47, List.forall_mem_cons.mpr ⟨mw_295, List.forall_mem_cons.mpr ⟨mw_296, List.forall_mem_cons.mpr ⟨mw_297, List.forall_mem_cons.mpr ⟨mw_298, List.forall_mem_cons.mpr ⟨mw_299, List.forall_mem_cons.mpr ⟨mw_300, List.forall_mem_cons.mpr ⟨mw_301, List.forall_mem_cons.mpr ⟨mw_302, List.forall_mem_cons.mpr ⟨mw_303, List.forall_mem_cons.mpr ⟨mw_304, List.forall_mem_cons.mpr ⟨mw_36, List.forall_mem_cons.mpr ⟨mw_305, List.forall_mem_cons.mpr ⟨mw_87, fun _ h => absurd h List.not_mem_nil⟩⟩⟩⟩⟩⟩⟩⟩⟩⟩⟩⟩⟩⟩⟩⟩⟩⟩⟩⟩⟩⟩⟩⟩)
set_option maxRecDepth 20000 in
theorem q_wsX7_rank_r4 : ∀ w ∈ wsX7_rank_r4, w ∈ lw_tbl := by
  unfold wsX7_rank_r4
  exact (List.forall_mem_cons.mpr ⟨mw_88, List.forall_mem_cons.mpr ⟨mw_89, List.forall_mem_cons.mpr ⟨mw_306, List.forall_mem_cons.mpr ⟨mw_307, List.forall_mem_cons.mpr ⟨mw_308, List.forall_mem_cons.mpr ⟨mw_309, List.forall_mem_cons.mpr ⟨mw_310, List.forall_mem_cons.mpr ⟨mw_311, List.forall_mem_cons.mpr ⟨mw_312, List.forall_mem_cons.mpr ⟨mw_313, List.forall_mem_cons.mpr ⟨mw_314, List.forall_mem_cons.mpr ⟨mw_315, List.forall_mem_cons.mpr ⟨mw_316, List.forall_mem_cons.mpr ⟨mw_317, List.forall_mem_cons.mpr ⟨mw_318, List.forall_mem_cons.mpr ⟨mw_319, List.forall_mem_cons.mpr ⟨mw_320, List.forall_mem_cons.mpr ⟨mw_321, List.forall_mem_cons.mpr ⟨mw_322, List.forall_mem_cons.mpr ⟨mw_323, List.forall_mem_cons.mpr ⟨mw_324, List.forall_mem_cons.mpr ⟨mw_325, List.forall_mem_cons.mpr ⟨mw_326, List.forall_mem_cons.mpr ⟨mw_327, fun _ h => absurd h List.not_mem_nil⟩⟩⟩⟩⟩⟩⟩⟩⟩⟩⟩⟩⟩⟩⟩⟩⟩⟩⟩⟩⟩⟩⟩⟩)
set_option maxRecDepth 20000 in
theorem q_wsX7_rank_r5 : ∀ w ∈ wsX7_rank_r5, w ∈ lw_tbl := by
  unfold wsX7_rank_r5
  exact (List.forall_mem_cons.mpr ⟨mw_328, List.forall_mem_cons.mpr ⟨mw_73, List.forall_mem_cons.mpr ⟨mw_70, List.forall_mem_cons.mpr ⟨mw_329, List.forall_mem_cons.mpr ⟨mw_330, List.forall_mem_cons.mpr ⟨mw_331, List.forall_mem_cons.mpr ⟨mw_332, fun _ h => absurd h List.not_mem_nil⟩⟩⟩⟩⟩⟩⟩)
set_option maxRecDepth 20000 in
theorem q_wsX7_rank : ∀ w ∈ wsX7_rank, w ∈ lw_tbl := by
  unfold wsX7_rank
  exact (List.forall_mem_cons.mpr ⟨mw_531, (fun w h => (List.mem_append.mp h).elim ((fun w h => (List.mem_append.mp h).elim ((fun w h => (List.mem_append.mp h).elim ((fun w h => (List.mem_append.mp h).elim ((fun w h => (List.mem_append.mp h).elim ((fun w h => (List.mem_append.mp h).elim ((fun w h => (List.mem_append.mp h).elim (q_wsX7_rank_r1 w) ((fun w h => (List.mem_append.mp h).elim (q_wsX7_rank_r2 w) ((fun w h => (List.mem_append.mp h).elim (q_wsX7_rank_r3 w) ((fun w h => (List.mem_append.mp h).elim (q_wsX7_rank_r4 w) (q_wsX7_rank_r5 w)) w)) w)) w)) w) (wi_wsX70 w)) w) (wi_wsX30 w)) w) (wi_wsX40 w)) w) (wi_wsX20 w)) w) (wi_wsX60 w)) w) (wi_wsX00 w))⟩)
set_option maxRecDepth 20000 in
theorem q_wsX8_rank_r1 : ∀ w ∈ wsX8_rank_r1, w ∈ lw_tbl := by
  unfold wsX8_rank_r1
  exact (List.forall_mem_cons.mpr ⟨mw_186, List.forall_mem_cons.mpr ⟨mw_395, List.forall_mem_cons.mpr ⟨mw_396, List.forall_mem_cons.mpr ⟨mw_397, List.forall_mem_cons.mpr ⟨mw_5, List.forall_mem_cons.mpr ⟨mw_398, List.forall_mem_cons.mpr ⟨mw_128, List.forall_mem_cons.mpr ⟨mw_124, List.forall_mem_cons.mpr ⟨mw_399, List.forall_mem_cons.mpr ⟨mw_400, List.forall_mem_cons.mpr ⟨mw_401, List.forall_mem_cons.mpr ⟨mw_402, List.forall_mem_cons.mpr ⟨mw_127, List.forall_mem_cons.mpr ⟨mw_403, List.forall_mem_cons.mpr ⟨mw_404, List.forall_mem_cons.mpr ⟨mw_405, List.forall_mem_cons.mpr ⟨mw_406, List.forall_mem_cons.mpr ⟨mw_407, List.forall_mem_cons.mpr ⟨mw_408, List.forall_mem_cons.mpr ⟨mw_409, List.forall_mem_cons.mpr ⟨mw_250, List.forall_mem_cons.mpr ⟨mw_247, List.forall_mem_cons.mpr ⟨mw_248, List.forall_mem_cons.mpr ⟨mw_249, fun _ h => absurd h List.not_mem_nil⟩⟩⟩⟩⟩⟩⟩⟩⟩⟩⟩⟩⟩⟩⟩⟩⟩⟩⟩⟩⟩⟩⟩⟩)
set_option maxRecDepth 20000 in
theorem q_wsX8_rank_r2 : ∀ w ∈ wsX8_rank_r2, w ∈ lw_tbl := by
  unfold wsX8_rank_r2
  exact (List.forall_mem_cons.mpr ⟨mw_471, List.forall_mem_cons.mpr ⟨mw_472, List.forall_mem_cons.mpr ⟨mw_473, List.forall_mem_cons.mpr ⟨mw_474, List.forall_mem_cons.mpr ⟨mw_475, List.forall_mem_cons.mpr ⟨mw_476, List.forall_mem_cons.mpr ⟨mw_477, List.forall_mem_cons.mpr ⟨mw_478, fun _ h => absurd h List.not_mem_nil⟩⟩⟩⟩⟩⟩⟩⟩)
set_option maxRecDepth 20000 in
theorem q_wsX8_rank : ∀ w ∈ wsX8_rank, w ∈ lw_tbl := by
  unfold wsX8_rank
  exact (List.forall_mem_cons.mpr ⟨mw_535, (fun w h => (List.mem_append.mp h).elim ((fun w h => (List.mem_append.mp h).elim (q_wsX8_rank_r1 w) (q_wsX8_rank_r2 w)) w) (wi_wsX80 w))⟩)
set_option maxRecDepth 20000 in
theorem q_wsL_determinant_r1 : ∀ w ∈ wsL_determinant_r1, w ∈ lw_tbl := by
  unfold wsL_determinant_r1
  exact (List.forall_mem_cons.mpr ⟨mw_497, List.forall_mem_cons.mpr ⟨mw_539, List.forall_mem_cons.mpr ⟨mw_540, List.forall_mem_cons.mpr ⟨mw_541, List.forall_mem_cons.mpr ⟨mw_2, List.forall_mem_cons.mpr ⟨mw_542, List.forall_mem_cons.mpr ⟨mw_20, List.forall_mem_cons.mpr ⟨mw_157, List.forall_mem_cons.mpr ⟨mw_543, List.forall_mem_cons.mpr ⟨mw_544, List.forall_mem_cons.mpr ⟨mw_545, List.forall_mem_cons.mpr ⟨mw_546, List.forall_mem_cons.mpr ⟨mw_506, List.forall_mem_cons.mpr ⟨mw_507, List.forall_mem_cons.mpr ⟨mw_158, List.forall_mem_cons.mpr ⟨mw_273, List.forall_mem_cons.mpr ⟨mw_274, List.forall_mem_cons.mpr ⟨mw_275, List.forall_mem_cons.mpr ⟨mw_276, List.forall_mem_cons.mpr ⟨mw_175, List.forall_mem_cons.mpr ⟨mw_16, List.forall_mem_cons.mpr ⟨mw_277, List.forall_mem_cons.mpr ⟨mw_278, List.forall_mem_cons.mpr ⟨mw_279, fun _ h => absurd h List.not_mem_nil⟩⟩⟩⟩⟩⟩⟩⟩⟩⟩⟩⟩⟩⟩⟩⟩⟩⟩⟩⟩⟩⟩⟩⟩)
set_option maxRecDepth 20000 in
theorem q_wsL_determinant_r2 : ∀ w ∈ wsL_determinant_r2, w ∈ lw_tbl := by
  unfold wsL_determinant_r2
  exact (List.forall_mem_cons.mpr ⟨mw_19, List.forall_mem_cons.mpr ⟨mw_280, List.forall_mem_cons.mpr ⟨mw_69, List.forall_mem_cons.mpr ⟨mw_72, List.forall_mem_cons.mpr ⟨mw_281, List.forall_mem_cons.mpr ⟨mw_282, List.forall_mem_cons.mpr ⟨mw_283, List.forall_mem_cons.mpr ⟨mw_284, List.forall_mem_cons.mpr ⟨mw_68, List.forall_mem_cons.mpr ⟨mw_285, List.forall_mem_cons.mpr ⟨mw_224, List.forall_mem_cons.mpr ⟨mw_225, List.forall_mem_cons.mpr ⟨mw_40, List.forall_mem_cons.mpr ⟨mw_226, List.forall_mem_cons.mpr ⟨mw_61, List.forall_mem_cons.mpr ⟨mw_62, List.forall_mem_cons.mpr ⟨mw_227, List.forall_mem_cons.mpr ⟨mw_228, List.forall_mem_cons.mpr ⟨mw_229, List.forall_mem_cons.mpr ⟨mw_230, List.forall_mem_cons.mpr ⟨mw_231, List.forall_mem_cons.mpr ⟨mw_232, List.forall_mem_cons.mpr ⟨mw_233, List.forall_mem_cons.mpr ⟨mw_234, fun _ h => absurd h List.not_mem_nil⟩⟩⟩⟩⟩⟩⟩⟩⟩⟩⟩⟩⟩⟩⟩⟩⟩⟩⟩⟩⟩⟩⟩⟩)
set_option maxRecDepth 20000 in
theorem q_wsL_determinant_r3 : ∀ w ∈ wsL_determinant_r3, w ∈ lw_tbl := by
  unfold wsL_determinant_r3
  exact (List.forall_mem_cons.mpr ⟨mw_286, List.forall_mem_cons.mpr ⟨mw_168, List.forall_mem_cons.mpr ⟨mw_169, List.forall_mem_cons.mpr ⟨mw_170, List.forall_mem_cons.mpr ⟨mw_75, List.forall_mem_cons.mpr ⟨mw_76, List.forall_mem_cons.mpr ⟨mw_77, List.forall_mem_cons.mpr ⟨mw_78, List.forall_mem_cons.mpr ⟨mw_79, List.forall_mem_cons.mpr ⟨mw_80, List.forall_mem_cons.mpr ⟨mw_81, List.forall_mem_cons.mpr ⟨mw_287, List.forall_mem_cons.mpr ⟨mw_288, List.forall_mem_cons.mpr ⟨mw_289, List.forall_mem_cons.mpr ⟨mw_290, List.forall_mem_cons.mpr ⟨mw_291, List.forall_mem_cons.mpr ⟨mw_292, List.forall_mem_cons.mpr ⟨mw_293, List.forall_mem_cons.mpr ⟨mw_294, List.forall_mem_cons.mpr ⟨mw_212, List.forall_mem_cons.mpr ⟨mw_213, List.forall_mem_cons.mpr ⟨mw_15, List.forall_mem_cons.mpr ⟨mw_214, List.forall_mem_cons.mpr ⟨mw_47, fun _ h => absurd h List.not_mem_nil⟩⟩⟩⟩⟩⟩⟩⟩⟩⟩⟩⟩⟩⟩⟩⟩⟩⟩⟩⟩⟩⟩⟩⟩)
set_option maxRecDepth 20000 in
theorem q_wsL_determinant_r4 : ∀ w ∈ wsL_determinant_r4, w ∈ lw_tbl := by
  unfold wsL_determinant_r4
  exact (List.forall_mem_cons.mpr ⟨mw_295, List.forall_mem_cons.mpr ⟨mw_296, List.forall_mem_cons.mpr ⟨mw_297, List.forall_mem_cons.mpr ⟨mw_298, List.forall_mem_cons.mpr ⟨mw_299, List.forall_mem_cons.mpr ⟨mw_300, List.forall_mem_cons.mpr ⟨mw_301, List.forall_mem_cons.mpr ⟨mw_302, List.forall_mem_cons.mpr ⟨mw_303, List.forall_mem_cons.mpr ⟨mw_304, List.forall_mem_cons.mpr ⟨mw_36, List.forall_mem_cons.mpr ⟨mw_305, List.forall_mem_cons.mpr ⟨mw_87, List.forall_mem_cons.mpr ⟨mw_88, List.forall_mem_cons.mpr ⟨mw_89, List.forall_mem_cons.mpr ⟨mw_306, List.forall_mem_cons.mpr ⟨mw_307, List.forall_mem_cons.mpr ⟨mw_308, List.forall_mem_cons.mpr ⟨mw_309, List.forall_mem_cons.mpr ⟨mw_310, List.forall_mem_cons.mpr ⟨mw_311, List.forall_mem_cons.mpr ⟨mw_312, List.forall_mem_cons.mpr ⟨mw_313, List.forall_mem_cons.mpr ⟨mw_314, fun _ h => absurd h List.not_mem_nil⟩⟩⟩⟩⟩⟩⟩⟩⟩⟩⟩⟩⟩⟩⟩⟩⟩⟩⟩⟩⟩⟩⟩⟩)
set_option maxRecDepth 20000 in
theorem q_wsL_determinant_r5 : ∀ w ∈ wsL_determinant_r5, w ∈ lw_tbl := by
  unfold wsL_determinant_r5
  exact (List.forall_mem_cons.mpr ⟨mw_315, List.forall_mem_cons.mpr ⟨mw_316, List.forall_mem_cons.mpr ⟨mw_317, List.forall_mem_cons.mpr ⟨mw_318, List.forall_mem_cons.mpr ⟨mw_319, List.forall_mem_cons.mpr ⟨mw_320, List.forall_mem_cons.mpr ⟨mw_321, List.forall_mem_cons.mpr ⟨mw_322, List.forall_mem_cons.mpr ⟨mw_323, List.forall_mem_cons.mpr ⟨mw_324, List.forall_mem_cons.mpr ⟨mw_325, List.forall_mem_cons.mpr ⟨mw_326, List.forall_mem_cons.mpr ⟨mw_327, List.forall_mem_cons.mpr ⟨mw_328, List.forall_mem_cons.mpr ⟨mw_73, List.forall_mem_cons.mpr ⟨mw_70, List.forall_mem_cons.mpr ⟨mw_329, List.forall_mem_cons.mpr ⟨mw_330, List.forall_mem_cons.mpr ⟨mw_331, List.forall_mem_cons.mpr ⟨mw_332, List.forall_mem_cons.mpr ⟨mw_337, List.forall_mem_cons.mpr ⟨mw_338, List.forall_mem_cons.mpr ⟨mw_339, List.forall_mem_cons.mpr ⟨mw_340, fun _ h => absurd h List.not_mem_nil⟩⟩⟩⟩⟩⟩⟩⟩⟩⟩⟩⟩⟩⟩⟩⟩⟩⟩⟩⟩⟩⟩⟩⟩)
set_option maxRecDepth 20000 in
theorem q_wsL_determinant_r6 : ∀ w ∈ wsL_determinant_r6, w ∈ lw_tbl := by
  unfold wsL_determinant_r6
  exact (List.forall_mem_cons.mpr ⟨mw_219, List.forall_mem_cons.mpr ⟨mw_220, List.forall_mem_cons.mpr ⟨mw_221, List.forall_mem_cons.mpr ⟨mw_222, fun _ h => absurd h List.not_mem_nil⟩⟩⟩⟩)
set_option maxRecDepth 20000 in
theorem q_wsL_determinant : ∀ w ∈ wsL_determinant, w ∈ lw_tbl := by
  unfold wsL_determinant
  exact (List.forall_mem_cons.mpr ⟨mw_538, (fun w h => (List.mem_append.mp h).elim ((fun w h => (List.mem_append.mp h).elim ((fun w h => (List.mem_append.mp h).elim ((fun w h => (List.mem_append.mp h).elim ((fun w h => (List.mem_append.mp h).elim ((fun w h => (List.mem_append.mp h).elim ((fun w h => (List.mem_append.mp h).elim ((fun w h => (List.mem_append.mp h).elim (q_wsL_determinant_r1 w) ((fun w h => (List.mem_append.mp h).elim (q_wsL_determinant_r2 w) ((fun w h => (List.mem_append.mp h).elim (q_wsL_determinant_r3 w) ((fun w h => (List.mem_append.mp h).elim (q_wsL_determinant_r4 w) ((fun w h => (List.mem_append.mp h).elim (q_wsL_determinant_r5 w) (q_wsL_determinant_r6 w)) w)) w)) w)) w)) w) (wi_wsX70 w)) w) (wi_wsX30 w)) w) (wi_wsX40 w)) w) (wi_wsX20 w)) w) (wi_wsX60 w)) w) (wi_wsX00 w)) w) (wsL_law_x1 w))⟩)
set_option maxRecDepth 20000 in
theorem q_wsX8_determinant_r1 : ∀ w ∈ wsX8_determinant_r1, w ∈ lw_tbl := by
  unfold wsX8_determinant_r1
  exact (List.forall_mem_cons.mpr ⟨mw_551, List.forall_mem_cons.mpr ⟨mw_127, List.forall_mem_cons.mpr ⟨mw_552, List.forall_mem_cons.mpr ⟨mw_553, List.forall_mem_cons.mpr ⟨mw_554, List.forall_mem_cons.mpr ⟨mw_5, List.forall_mem_cons.mpr ⟨mw_555, List.forall_mem_cons.mpr ⟨mw_187, List.forall_mem_cons.mpr ⟨mw_188, List.forall_mem_cons.mpr ⟨mw_186, List.forall_mem_cons.mpr ⟨mw_395, List.forall_mem_cons.mpr ⟨mw_396, List.forall_mem_cons.mpr ⟨mw_397, List.forall_mem_cons.mpr ⟨mw_398, List.forall_mem_cons.mpr ⟨mw_128, List.forall_mem_cons.mpr ⟨mw_124, List.forall_mem_cons.mpr ⟨mw_399, List.forall_mem_cons.mpr ⟨mw_400, List.forall_mem_cons.mpr ⟨mw_401, List.forall_mem_cons.mpr ⟨mw_402, List.forall_mem_cons.mpr ⟨mw_403, List.forall_mem_cons.mpr ⟨mw_404, List.forall_mem_cons.mpr ⟨mw_405, List.forall_mem_cons.mpr ⟨mw_406, fun _ h => absurd h List.not_mem_nil⟩⟩⟩⟩⟩⟩⟩⟩⟩⟩⟩⟩⟩⟩⟩⟩⟩⟩⟩⟩⟩⟩⟩⟩)
set_option maxRecDepth 20000 in
theorem q_wsX8_determinant_r2 : ∀ w ∈ wsX8_determinant_r2, w ∈ lw_tbl := by
  unfold wsX8_determinant_r2
  exact (List.forall_mem_cons.mpr ⟨mw_407, List.forall_mem_cons.mpr ⟨mw_408, List.forall_mem_cons.mpr ⟨mw_409, List.forall_mem_cons.mpr ⟨mw_250, List.forall_mem_cons.mpr ⟨mw_247, List.forall_mem_cons.mpr ⟨mw_248, List.forall_mem_cons.mpr ⟨mw_249, List.forall_mem_cons.mpr ⟨mw_244, List.forall_mem_cons.mpr ⟨mw_245, List.forall_mem_cons.mpr ⟨mw_246, List.forall_mem_cons.mpr ⟨mw_490, List.forall_mem_cons.mpr ⟨mw_491, List.forall_mem_cons.mpr ⟨mw_492, List.forall_mem_cons.mpr ⟨mw_493, fun _ h => absurd h List.not_mem_nil⟩⟩⟩⟩⟩⟩⟩⟩⟩⟩⟩⟩⟩⟩)
set_option maxRecDepth 20000 in
theorem q_wsX8_determinant : ∀ w ∈ wsX8_determinant, w ∈ lw_tbl := by
  unfold wsX8_determinant
  exact (List.forall_mem_cons.mpr ⟨mw_550, (fun w h => (List.mem_append.mp h).elim ((fun w h => (List.mem_append.mp h).elim (q_wsX8_determinant_r1 w) (q_wsX8_determinant_r2 w)) w) (wi_wsX80 w))⟩)
set_option maxRecDepth 20000 in
theorem q_wsL_characteristic_r1 : ∀ w ∈ wsL_characteristic_r1, w ∈ lw_tbl := by
  unfold wsL_characteristic_r1
  exact (List.forall_mem_cons.mpr ⟨mw_497, List.forall_mem_cons.mpr ⟨mw_559, List.forall_mem_cons.mpr ⟨mw_560, List.forall_mem_cons.mpr ⟨mw_561, List.forall_mem_cons.mpr ⟨mw_2, List.forall_mem_cons.mpr ⟨mw_562, List.forall_mem_cons.mpr ⟨mw_22, List.forall_mem_cons.mpr ⟨mw_157, List.forall_mem_cons.mpr ⟨mw_543, List.forall_mem_cons.mpr ⟨mw_544, List.forall_mem_cons.mpr ⟨mw_545, List.forall_mem_cons.mpr ⟨mw_546, List.forall_mem_cons.mpr ⟨mw_506, List.forall_mem_cons.mpr ⟨mw_507, List.forall_mem_cons.mpr ⟨mw_158, List.forall_mem_cons.mpr ⟨mw_563, List.forall_mem_cons.mpr ⟨mw_564, List.forall_mem_cons.mpr ⟨mw_565, List.forall_mem_cons.mpr ⟨mw_566, List.forall_mem_cons.mpr ⟨mw_180, List.forall_mem_cons.mpr ⟨mw_21, List.forall_mem_cons.mpr ⟨mw_16, List.forall_mem_cons.mpr ⟨mw_159, List.forall_mem_cons.mpr ⟨mw_160, fun _ h => absurd h List.not_mem_nil⟩⟩⟩⟩⟩⟩⟩⟩⟩⟩⟩⟩⟩⟩⟩⟩⟩⟩⟩⟩⟩⟩⟩⟩)
set_option maxRecDepth 20000 in
theorem q_wsL_characteristic_r2 : ∀ w ∈ wsL_characteristic_r2, w ∈ lw_tbl := by
  unfold wsL_characteristic_r2
  exact (List.forall_mem_cons.mpr ⟨mw_161, List.forall_mem_cons.mpr ⟨mw_15, List.forall_mem_cons.mpr ⟨mw_162, List.forall_mem_cons.mpr ⟨mw_47, List.forall_mem_cons.mpr ⟨mw_163, List.forall_mem_cons.mpr ⟨mw_164, List.forall_mem_cons.mpr ⟨mw_165, List.forall_mem_cons.mpr ⟨mw_49, List.forall_mem_cons.mpr ⟨mw_166, List.forall_mem_cons.mpr ⟨mw_55, List.forall_mem_cons.mpr ⟨mw_167, List.forall_mem_cons.mpr ⟨mw_168, List.forall_mem_cons.mpr ⟨mw_169, List.forall_mem_cons.mpr ⟨mw_40, List.forall_mem_cons.mpr ⟨mw_170, List.forall_mem_cons.mpr ⟨mw_62, List.forall_mem_cons.mpr ⟨mw_61, List.forall_mem_cons.mpr ⟨mw_211, List.forall_mem_cons.mpr ⟨mw_212, List.forall_mem_cons.mpr ⟨mw_213, List.forall_mem_cons.mpr ⟨mw_214, List.forall_mem_cons.mpr ⟨mw_219, List.forall_mem_cons.mpr ⟨mw_220, List.forall_mem_cons.mpr ⟨mw_221, fun _ h => absurd h List.not_mem_nil⟩⟩⟩⟩⟩⟩⟩⟩⟩⟩⟩⟩⟩⟩⟩⟩⟩⟩⟩⟩⟩⟩⟩⟩)
set_option maxRecDepth 20000 in
theorem q_wsL_characteristic_r3 : ∀ w ∈ wsL_characteristic_r3, w ∈ lw_tbl := by
  unfold wsL_characteristic_r3
  exact (List.forall_mem_cons.mpr ⟨mw_222, List.forall_mem_cons.mpr ⟨mw_344, List.forall_mem_cons.mpr ⟨mw_345, List.forall_mem_cons.mpr ⟨mw_346, List.forall_mem_cons.mpr ⟨mw_223, List.forall_mem_cons.mpr ⟨mw_224, List.forall_mem_cons.mpr ⟨mw_225, List.forall_mem_cons.mpr ⟨mw_226, List.forall_mem_cons.mpr ⟨mw_227, List.forall_mem_cons.mpr ⟨mw_228, List.forall_mem_cons.mpr ⟨mw_229, List.forall_mem_cons.mpr ⟨mw_230, List.forall_mem_cons.mpr ⟨mw_231, List.forall_mem_cons.mpr ⟨mw_232, List.forall_mem_cons.mpr ⟨mw_233, List.forall_mem_cons.mpr ⟨mw_234, List.forall_mem_cons.mpr ⟨mw_277, List.forall_mem_cons.mpr ⟨mw_278, List.forall_mem_cons.mpr ⟨mw_279, List.forall_mem_cons.mpr ⟨mw_19, List.forall_mem_cons.mpr ⟨mw_280, List.forall_mem_cons.mpr ⟨mw_69, List.forall_mem_cons.mpr ⟨mw_72, List.forall_mem_cons.mpr ⟨mw_281, fun _ h => absurd h List.not_mem_nil⟩⟩⟩⟩⟩⟩⟩⟩⟩⟩⟩⟩⟩⟩⟩⟩⟩⟩⟩⟩⟩⟩⟩⟩)
set_option maxRecDepth 20000 in
theorem q_wsL_characteristic_r4 : ∀ w ∈ wsL_characteristic_r4, w ∈ lw_tbl := by
  unfold wsL_characteristic_r4
  exact (List.forall_mem_cons.mpr ⟨mw_282, List.forall_mem_cons.mpr ⟨mw_283, List.forall_mem_cons.mpr ⟨mw_284, List.forall_mem_cons.mpr ⟨mw_68, List.forall_mem_cons.mpr ⟨mw_285, List.forall_mem_cons.mpr ⟨mw_286, List.forall_mem_cons.mpr ⟨mw_75, List.forall_mem_cons.mpr ⟨mw_76, List.forall_mem_cons.mpr ⟨mw_77, List.forall_mem_cons.mpr ⟨mw_78, List.forall_mem_cons.mpr ⟨mw_79, List.forall_mem_cons.mpr ⟨mw_80, List.forall_mem_cons.mpr ⟨mw_81, List.forall_mem_cons.mpr ⟨mw_287, List.forall_mem_cons.mpr ⟨mw_288, List.forall_mem_cons.mpr ⟨mw_289, List.forall_mem_cons.mpr ⟨mw_290, List.forall_mem_cons.mpr ⟨mw_291, List.forall_mem_cons.mpr ⟨mw_292, List.forall_mem_cons.mpr ⟨mw_293, List.forall_mem_cons.mpr ⟨mw_294, List.forall_mem_cons.mpr ⟨mw_295, List.forall_mem_cons.mpr ⟨mw_296, List.forall_mem_cons.mpr ⟨mw_297, fun _ h => absurd h List.not_mem_nil⟩⟩⟩⟩⟩⟩⟩⟩⟩⟩⟩⟩⟩⟩⟩⟩⟩⟩⟩⟩⟩⟩⟩⟩)
set_option maxRecDepth 20000 in
theorem q_wsL_characteristic_r5 : ∀ w ∈ wsL_characteristic_r5, w ∈ lw_tbl := by
  unfold wsL_characteristic_r5
  exact (List.forall_mem_cons.mpr ⟨mw_298, List.forall_mem_cons.mpr ⟨mw_299, List.forall_mem_cons.mpr ⟨mw_300, List.forall_mem_cons.mpr ⟨mw_301, List.forall_mem_cons.mpr ⟨mw_302, List.forall_mem_cons.mpr ⟨mw_303, List.forall_mem_cons.mpr ⟨mw_304, List.forall_mem_cons.mpr ⟨mw_36, List.forall_mem_cons.mpr ⟨mw_305, List.forall_mem_cons.mpr ⟨mw_87, List.forall_mem_cons.mpr ⟨mw_88, List.forall_mem_cons.mpr ⟨mw_89, List.forall_mem_cons.mpr ⟨mw_306, List.forall_mem_cons.mpr ⟨mw_307, List.forall_mem_cons.mpr ⟨mw_308, List.forall_mem_cons.mpr ⟨mw_309, List.forall_mem_cons.mpr ⟨mw_310, List.forall_mem_cons.mpr ⟨mw_311, List.forall_mem_cons.mpr ⟨mw_312, List.forall_mem_cons.mpr ⟨mw_313, List.forall_mem_cons.mpr ⟨mw_314, List.forall_mem_cons.mpr ⟨mw_315, List.forall_mem_cons.mpr ⟨mw_316, List.forall_mem_cons.mpr ⟨mw_317, fun _ h => absurd h List.not_mem_nil⟩⟩⟩⟩⟩⟩⟩⟩⟩⟩⟩⟩⟩⟩⟩⟩⟩⟩⟩⟩⟩⟩⟩⟩)
set_option maxRecDepth 20000 in
theorem q_wsL_characteristic_r6 : ∀ w ∈ wsL_characteristic_r6, w ∈ lw_tbl := by
  unfold wsL_characteristic_r6
  exact (List.forall_mem_cons.mpr ⟨mw_318, List.forall_mem_cons.mpr ⟨mw_319, List.forall_mem_cons.mpr ⟨mw_320, List.forall_mem_cons.mpr ⟨mw_321, List.forall_mem_cons.mpr ⟨mw_322, List.forall_mem_cons.mpr ⟨mw_323, List.forall_mem_cons.mpr ⟨mw_324, List.forall_mem_cons.mpr ⟨mw_325, List.forall_mem_cons.mpr ⟨mw_326, List.forall_mem_cons.mpr ⟨mw_327, List.forall_mem_cons.mpr ⟨mw_328, List.forall_mem_cons.mpr ⟨mw_73, List.forall_mem_cons.mpr ⟨mw_70, List.forall_mem_cons.mpr ⟨mw_329, List.forall_mem_cons.mpr ⟨mw_330, List.forall_mem_cons.mpr ⟨mw_331, List.forall_mem_cons.mpr ⟨mw_332, List.forall_mem_cons.mpr ⟨mw_337, List.forall_mem_cons.mpr ⟨mw_338, List.forall_mem_cons.mpr ⟨mw_339, List.forall_mem_cons.mpr ⟨mw_340, fun _ h => absurd h List.not_mem_nil⟩⟩⟩⟩⟩⟩⟩⟩⟩⟩⟩⟩⟩⟩⟩⟩⟩⟩⟩⟩⟩)
set_option maxRecDepth 20000 in
theorem q_wsL_characteristic : ∀ w ∈ wsL_characteristic, w ∈ lw_tbl := by
  unfold wsL_characteristic
  exact (List.forall_mem_cons.mpr ⟨mw_558, (fun w h => (List.mem_append.mp h).elim ((fun w h => (List.mem_append.mp h).elim ((fun w h => (List.mem_append.mp h).elim ((fun w h => (List.mem_append.mp h).elim ((fun w h => (List.mem_append.mp h).elim ((fun w h => (List.mem_append.mp h).elim ((fun w h => (List.mem_append.mp h).elim ((fun w h => (List.mem_append.mp h).elim (q_wsL_characteristic_r1 w) ((fun w h => (List.mem_append.mp h).elim (q_wsL_characteristic_r2 w) ((fun w h => (List.mem_append.mp h).elim (q_wsL_characteristic_r3 w) ((fun w h => (List.mem_append.mp h).elim (q_wsL_characteristic_r4 w) ((fun w h => (List.mem_append.mp h).elim (q_wsL_characteristic_r5 w) (q_wsL_characteristic_r6 w)) w)) w)) w)) w)) w) (wi_wsX70 w)) w) (wi_wsX20 w)) w) (wi_wsX60 w)) w) (wi_wsX40 w)) w) (wi_wsX30 w)) w) (wi_wsX00 w)) w) (wsL_law_x1 w))⟩)
set_option maxRecDepth 20000 in
theorem q_wsX8_characteristic_r1 : ∀ w ∈ wsX8_characteristic_r1, w ∈ lw_tbl := by
  unfold wsX8_characteristic_r1
  exact (List.forall_mem_cons.mpr ⟨mw_551, List.forall_mem_cons.mpr ⟨mw_127, List.forall_mem_cons.mpr ⟨mw_552, List.forall_mem_cons.mpr ⟨mw_553, List.forall_mem_cons.mpr ⟨mw_554, List.forall_mem_cons.mpr ⟨mw_5, List.forall_mem_cons.mpr ⟨mw_555, List.forall_mem_cons.mpr ⟨mw_187, List.forall_mem_cons.mpr ⟨mw_188, List.forall_mem_cons.mpr ⟨mw_186, List.forall_mem_cons.mpr ⟨mw_571, List.forall_mem_cons.mpr ⟨mw_572, List.forall_mem_cons.mpr ⟨mw_573, List.forall_mem_cons.mpr ⟨mw_574, List.forall_mem_cons.mpr ⟨mw_128, List.forall_mem_cons.mpr ⟨mw_124, List.forall_mem_cons.mpr ⟨mw_399, List.forall_mem_cons.mpr ⟨mw_400, List.forall_mem_cons.mpr ⟨mw_401, List.forall_mem_cons.mpr ⟨mw_402, List.forall_mem_cons.mpr ⟨mw_403, List.forall_mem_cons.mpr ⟨mw_404, List.forall_mem_cons.mpr ⟨mw_405, List.forall_mem_cons.mpr ⟨mw_406, fun _ h => absurd h List.not_mem_nil⟩⟩⟩⟩⟩⟩⟩⟩⟩⟩⟩⟩⟩⟩⟩⟩⟩⟩⟩⟩⟩⟩⟩⟩)
set_option maxRecDepth 20000 in
theorem q_wsX8_characteristic_r2 : ∀ w ∈ wsX8_characteristic_r2, w ∈ lw_tbl := by
  unfold wsX8_characteristic_r2
  exact (List.forall_mem_cons.mpr ⟨mw_407, List.forall_mem_cons.mpr ⟨mw_408, List.forall_mem_cons.mpr ⟨mw_409, List.forall_mem_cons.mpr ⟨mw_250, List.forall_mem_cons.mpr ⟨mw_247, List.forall_mem_cons.mpr ⟨mw_248, List.forall_mem_cons.mpr ⟨mw_249, List.forall_mem_cons.mpr ⟨mw_244, List.forall_mem_cons.mpr ⟨mw_245, List.forall_mem_cons.mpr ⟨mw_246, List.forall_mem_cons.mpr ⟨mw_490, List.forall_mem_cons.mpr ⟨mw_491, List.forall_mem_cons.mpr ⟨mw_492, List.forall_mem_cons.mpr ⟨mw_493, fun _ h => absurd h List.not_mem_nil⟩⟩⟩⟩⟩⟩⟩⟩⟩⟩⟩⟩⟩⟩)
set_option maxRecDepth 20000 in
theorem q_wsX8_characteristic : ∀ w ∈ wsX8_characteristic, w ∈ lw_tbl := by
  unfold wsX8_characteristic
  exact (List.forall_mem_cons.mpr ⟨mw_570, (fun w h => (List.mem_append.mp h).elim ((fun w h => (List.mem_append.mp h).elim (q_wsX8_characteristic_r1 w) (q_wsX8_characteristic_r2 w)) w) (wi_wsX80 w))⟩)
set_option maxRecDepth 20000 in
theorem q_wsL_minimal_r1 : ∀ w ∈ wsL_minimal_r1, w ∈ lw_tbl := by
  unfold wsL_minimal_r1
  exact (List.forall_mem_cons.mpr ⟨mw_497, List.forall_mem_cons.mpr ⟨mw_578, List.forall_mem_cons.mpr ⟨mw_579, List.forall_mem_cons.mpr ⟨mw_580, List.forall_mem_cons.mpr ⟨mw_2, List.forall_mem_cons.mpr ⟨mw_581, List.forall_mem_cons.mpr ⟨mw_157, List.forall_mem_cons.mpr ⟨mw_22, List.forall_mem_cons.mpr ⟨mw_543, List.forall_mem_cons.mpr ⟨mw_544, List.forall_mem_cons.mpr ⟨mw_545, List.forall_mem_cons.mpr ⟨mw_546, List.forall_mem_cons.mpr ⟨mw_506, List.forall_mem_cons.mpr ⟨mw_507, List.forall_mem_cons.mpr ⟨mw_158, List.forall_mem_cons.mpr ⟨mw_563, List.forall_mem_cons.mpr ⟨mw_564, List.forall_mem_cons.mpr ⟨mw_565, List.forall_mem_cons.mpr ⟨mw_566, List.forall_mem_cons.mpr ⟨mw_180, List.forall_mem_cons.mpr ⟨mw_21, List.forall_mem_cons.mpr ⟨mw_16, List.forall_mem_cons.mpr ⟨mw_159, List.forall_mem_cons.mpr ⟨mw_160, fun _ h => absurd h List.not_mem_nil⟩⟩⟩⟩⟩⟩⟩⟩⟩⟩⟩⟩⟩⟩⟩⟩⟩⟩⟩⟩⟩⟩⟩⟩)
set_option maxRecDepth 20000 in
theorem q_wsL_minimal_r2 : ∀ w ∈ wsL_minimal_r2, w ∈ lw_tbl := by
  unfold wsL_minimal_r2
  exact (List.forall_mem_cons.mpr ⟨mw_161, List.forall_mem_cons.mpr ⟨mw_15, List.forall_mem_cons.mpr ⟨mw_162, List.forall_mem_cons.mpr ⟨mw_47, List.forall_mem_cons.mpr ⟨mw_163, List.forall_mem_cons.mpr ⟨mw_164, List.forall_mem_cons.mpr ⟨mw_165, List.forall_mem_cons.mpr ⟨mw_49, List.forall_mem_cons.mpr ⟨mw_166, List.forall_mem_cons.mpr ⟨mw_55, List.forall_mem_cons.mpr ⟨mw_167, List.forall_mem_cons.mpr ⟨mw_168, List.forall_mem_cons.mpr ⟨mw_169, List.forall_mem_cons.mpr ⟨mw_40, List.forall_mem_cons.mpr ⟨mw_170, List.forall_mem_cons.mpr ⟨mw_62, List.forall_mem_cons.mpr ⟨mw_61, List.forall_mem_cons.mpr ⟨mw_211, List.forall_mem_cons.mpr ⟨mw_212, List.forall_mem_cons.mpr ⟨mw_213, List.forall_mem_cons.mpr ⟨mw_214, List.forall_mem_cons.mpr ⟨mw_219, List.forall_mem_cons.mpr ⟨mw_220, List.forall_mem_cons.mpr ⟨mw_221, fun _ h => absurd h List.not_mem_nil⟩⟩⟩⟩⟩⟩⟩⟩⟩⟩⟩⟩⟩⟩⟩⟩⟩⟩⟩⟩⟩⟩⟩⟩)
set_option maxRecDepth 20000 in
theorem q_wsL_minimal_r3 : ∀ w ∈ wsL_minimal_r3, w ∈ lw_tbl := by
  unfold wsL_minimal_r3
  exact (List.forall_mem_cons.mpr ⟨mw_222, List.forall_mem_cons.mpr ⟨mw_344, List.forall_mem_cons.mpr ⟨mw_345, List.forall_mem_cons.mpr ⟨mw_346, List.forall_mem_cons.mpr ⟨mw_223, List.forall_mem_cons.mpr ⟨mw_224, List.forall_mem_cons.mpr ⟨mw_225, List.forall_mem_cons.mpr ⟨mw_226, List.forall_mem_cons.mpr ⟨mw_227, List.forall_mem_cons.mpr ⟨mw_228, List.forall_mem_cons.mpr ⟨mw_229, List.forall_mem_cons.mpr ⟨mw_230, List.forall_mem_cons.mpr ⟨mw_231, List.forall_mem_cons.mpr ⟨mw_232, List.forall_mem_cons.mpr ⟨mw_233, List.forall_mem_cons.mpr ⟨mw_234, List.forall_mem_cons.mpr ⟨mw_277, List.forall_mem_cons.mpr ⟨mw_278, List.forall_mem_cons.mpr ⟨mw_279, List.forall_mem_cons.mpr ⟨mw_19, List.forall_mem_cons.mpr ⟨mw_280, List.forall_mem_cons.mpr ⟨mw_69, List.forall_mem_cons.mpr ⟨mw_72, List.forall_mem_cons.mpr ⟨mw_281, fun _ h => absurd h List.not_mem_nil⟩⟩⟩⟩⟩⟩⟩⟩⟩⟩⟩⟩⟩⟩⟩⟩⟩⟩⟩⟩⟩⟩⟩⟩)
set_option maxRecDepth 20000 in
theorem q_wsL_minimal_r4 : ∀ w ∈ wsL_minimal_r4, w ∈ lw_tbl := by
  unfold wsL_minimal_r4
  exact (List.forall_mem_cons.mpr ⟨mw_282, List.forall_mem_cons.mpr ⟨mw_283, List.forall_mem_cons.mpr ⟨mw_284, List.forall_mem_cons.mpr ⟨mw_68, List.forall_mem_cons.mpr ⟨mw_285, List.forall_mem_cons.mpr ⟨mw_286, List.forall_mem_cons.mpr ⟨mw_75, List.forall_mem_cons.mpr ⟨mw_76, List.forall_mem_cons.mpr ⟨mw_77, List.forall_mem_cons.mpr ⟨mw_78, List.forall_mem_cons.mpr ⟨mw_79, List.forall_mem_cons.mpr ⟨mw_80, List.forall_mem_cons.mpr ⟨mw_81, List.forall_mem_cons.mpr ⟨mw_287, List.forall_mem_cons.mpr ⟨mw_288, List.forall_mem_cons.mpr ⟨mw_289, List.forall_mem_cons.mpr ⟨mw_290, List.forall_mem_cons.mpr ⟨mw_291, List.forall_mem_cons.mpr ⟨mw_292, List.forall_mem_cons.mpr ⟨mw_293, List.forall_mem_cons.mpr ⟨mw_294, List.forall_mem_cons.mpr ⟨mw_295, List.forall_mem_cons.mpr ⟨mw_296, List.forall_mem_cons.mpr ⟨mw_297, fun _ h => absurd h List.not_mem_nil⟩⟩⟩⟩⟩⟩⟩⟩⟩⟩⟩⟩⟩⟩⟩⟩⟩⟩⟩⟩⟩⟩⟩⟩)
set_option maxRecDepth 20000 in
theorem q_wsL_minimal_r5 : ∀ w ∈ wsL_minimal_r5, w ∈ lw_tbl := by
  unfold wsL_minimal_r5
  exact (List.forall_mem_cons.mpr ⟨mw_298, List.forall_mem_cons.mpr ⟨mw_299, List.forall_mem_cons.mpr ⟨mw_300, List.forall_mem_cons.mpr ⟨mw_301, List.forall_mem_cons.mpr ⟨mw_302, List.forall_mem_cons.mpr ⟨mw_303, List.forall_mem_cons.mpr ⟨mw_304, List.forall_mem_cons.mpr ⟨mw_36, List.forall_mem_cons.mpr ⟨mw_305, List.forall_mem_cons.mpr ⟨mw_87, List.forall_mem_cons.mpr ⟨mw_88, List.forall_mem_cons.mpr ⟨mw_89, List.forall_mem_cons.mpr ⟨mw_306, List.forall_mem_cons.mpr ⟨mw_307, List.forall_mem_cons.mpr ⟨mw_308, List.forall_mem_cons.mpr ⟨mw_309, List.forall_mem_cons.mpr ⟨mw_310, List.forall_mem_cons.mpr ⟨mw_311, List.forall_mem_cons.mpr ⟨mw_312, List.forall_mem_cons.mpr ⟨mw_313, List.forall_mem_cons.mpr ⟨mw_314, List.forall_mem_cons.mpr ⟨mw_315, List.forall_mem_cons.mpr ⟨mw_316, List.forall_mem_cons.mpr ⟨mw_317, fun _ h => absurd h List.not_mem_nil⟩⟩⟩⟩⟩⟩⟩⟩⟩⟩⟩⟩⟩⟩⟩⟩⟩⟩⟩⟩⟩⟩⟩⟩)
set_option maxRecDepth 20000 in
theorem q_wsL_minimal_r6 : ∀ w ∈ wsL_minimal_r6, w ∈ lw_tbl := by
  unfold wsL_minimal_r6
  exact (List.forall_mem_cons.mpr ⟨mw_318, List.forall_mem_cons.mpr ⟨mw_319, List.forall_mem_cons.mpr ⟨mw_320, List.forall_mem_cons.mpr ⟨mw_321, List.forall_mem_cons.mpr ⟨mw_322, List.forall_mem_cons.mpr ⟨mw_323, List.forall_mem_cons.mpr ⟨mw_324, List.forall_mem_cons.mpr ⟨mw_325, List.forall_mem_cons.mpr ⟨mw_326, List.forall_mem_cons.mpr ⟨mw_327, List.forall_mem_cons.mpr ⟨mw_328, List.forall_mem_cons.mpr ⟨mw_73, List.forall_mem_cons.mpr ⟨mw_70, List.forall_mem_cons.mpr ⟨mw_329, List.forall_mem_cons.mpr ⟨mw_330, List.forall_mem_cons.mpr ⟨mw_331, List.forall_mem_cons.mpr ⟨mw_332, fun _ h => absurd h List.not_mem_nil⟩⟩⟩⟩⟩⟩⟩⟩⟩⟩⟩⟩⟩⟩⟩⟩⟩)
set_option maxRecDepth 20000 in
theorem q_wsL_minimal : ∀ w ∈ wsL_minimal, w ∈ lw_tbl := by
  unfold wsL_minimal
  exact (List.forall_mem_cons.mpr ⟨mw_577, (fun w h => (List.mem_append.mp h).elim ((fun w h => (List.mem_append.mp h).elim ((fun w h => (List.mem_append.mp h).elim ((fun w h => (List.mem_append.mp h).elim ((fun w h => (List.mem_append.mp h).elim ((fun w h => (List.mem_append.mp h).elim ((fun w h => (List.mem_append.mp h).elim ((fun w h => (List.mem_append.mp h).elim (q_wsL_minimal_r1 w) ((fun w h => (List.mem_append.mp h).elim (q_wsL_minimal_r2 w) ((fun w h => (List.mem_append.mp h).elim (q_wsL_minimal_r3 w) ((fun w h => (List.mem_append.mp h).elim (q_wsL_minimal_r4 w) ((fun w h => (List.mem_append.mp h).elim (q_wsL_minimal_r5 w) (q_wsL_minimal_r6 w)) w)) w)) w)) w)) w) (wi_wsX70 w)) w) (wi_wsX30 w)) w) (wi_wsX20 w)) w) (wi_wsX60 w)) w) (wi_wsX40 w)) w) (wi_wsX00 w)) w) (wsL_law_x1 w))⟩)
set_option maxRecDepth 20000 in
theorem q_wsX8_minimal_r1 : ∀ w ∈ wsX8_minimal_r1, w ∈ lw_tbl := by
  unfold wsX8_minimal_r1
  exact (List.forall_mem_cons.mpr ⟨mw_138, List.forall_mem_cons.mpr ⟨mw_552, List.forall_mem_cons.mpr ⟨mw_553, List.forall_mem_cons.mpr ⟨mw_554, List.forall_mem_cons.mpr ⟨mw_5, List.forall_mem_cons.mpr ⟨mw_555, List.forall_mem_cons.mpr ⟨mw_187, List.forall_mem_cons.mpr ⟨mw_188, List.forall_mem_cons.mpr ⟨mw_186, List.forall_mem_cons.mpr ⟨mw_586, List.forall_mem_cons.mpr ⟨mw_587, List.forall_mem_cons.mpr ⟨mw_588, List.forall_mem_cons.mpr ⟨mw_589, List.forall_mem_cons.mpr ⟨mw_137, List.forall_mem_cons.mpr ⟨mw_135, List.forall_mem_cons.mpr ⟨mw_139, List.forall_mem_cons.mpr ⟨mw_250, List.forall_mem_cons.mpr ⟨mw_136, List.forall_mem_cons.mpr ⟨mw_590, List.forall_mem_cons.mpr ⟨mw_591, List.forall_mem_cons.mpr ⟨mw_592, List.forall_mem_cons.mpr ⟨mw_593, List.forall_mem_cons.mpr ⟨mw_594, List.forall_mem_cons.mpr ⟨mw_595, fun _ h => absurd h List.not_mem_nil⟩⟩⟩⟩⟩⟩⟩⟩⟩⟩⟩⟩⟩⟩⟩⟩⟩⟩⟩⟩⟩⟩⟩⟩)
set_option maxRecDepth 20000 in
theorem q_wsX8_minimal_r2 : ∀ w ∈ wsX8_minimal_r2, w ∈ lw_tbl := by
  unfold wsX8_minimal_r2
  exact (List.forall_mem_cons.mpr ⟨mw_596, List.forall_mem_cons.mpr ⟨mw_597, List.forall_mem_cons.mpr ⟨mw_124, List.forall_mem_cons.mpr ⟨mw_598, List.forall_mem_cons.mpr ⟨mw_599, List.forall_mem_cons.mpr ⟨mw_600, List.forall_mem_cons.mpr ⟨mw_601, List.forall_mem_cons.mpr ⟨mw_247, List.forall_mem_cons.mpr ⟨mw_248, List.forall_mem_cons.mpr ⟨mw_249, List.forall_mem_cons.mpr ⟨mw_448, List.forall_mem_cons.mpr ⟨mw_449, List.forall_mem_cons.mpr ⟨mw_450, List.forall_mem_cons.mpr ⟨mw_244, List.forall_mem_cons.mpr ⟨mw_245, List.forall_mem_cons.mpr ⟨mw_246, fun _ h => absurd h List.not_mem_nil⟩⟩⟩⟩⟩⟩⟩⟩⟩⟩⟩⟩⟩⟩⟩⟩)
set_option maxRecDepth 20000 in
theorem q_wsX8_minimal : ∀ w ∈ wsX8_minimal, w ∈ lw_tbl := by
  unfold wsX8_minimal
  exact (List.forall_mem_cons.mpr ⟨mw_585, (fun w h => (List.mem_append.mp h).elim ((fun w h => (List.mem_append.mp h).elim (q_wsX8_minimal_r1 w) (q_wsX8_minimal_r2 w)) w) (wi_wsX80 w))⟩)
set_option maxRecDepth 20000 in
theorem q_wsL_root_r1 : ∀ w ∈ wsL_root_r1, w ∈ lw_tbl := by
  unfold wsL_root_r1
  exact (List.forall_mem_cons.mpr ⟨mw_497, List.forall_mem_cons.mpr ⟨mw_605, List.forall_mem_cons.mpr ⟨mw_606, List.forall_mem_cons.mpr ⟨mw_607, List.forall_mem_cons.mpr ⟨mw_2, List.forall_mem_cons.mpr ⟨mw_608, List.forall_mem_cons.mpr ⟨mw_26, List.forall_mem_cons.mpr ⟨mw_543, List.forall_mem_cons.mpr ⟨mw_544, List.forall_mem_cons.mpr ⟨mw_545, List.forall_mem_cons.mpr ⟨mw_546, List.forall_mem_cons.mpr ⟨mw_506, List.forall_mem_cons.mpr ⟨mw_507, List.forall_mem_cons.mpr ⟨mw_157, List.forall_mem_cons.mpr ⟨mw_158, List.forall_mem_cons.mpr ⟨mw_609, List.forall_mem_cons.mpr ⟨mw_610, List.forall_mem_cons.mpr ⟨mw_611, List.forall_mem_cons.mpr ⟨mw_612, List.forall_mem_cons.mpr ⟨mw_181, List.forall_mem_cons.mpr ⟨mw_22, List.forall_mem_cons.mpr ⟨mw_563, List.forall_mem_cons.mpr ⟨mw_564, List.forall_mem_cons.mpr ⟨mw_565, fun _ h => absurd h List.not_mem_nil⟩⟩⟩⟩⟩⟩⟩⟩⟩⟩⟩⟩⟩⟩⟩⟩⟩⟩⟩⟩⟩⟩⟩⟩)
set_option maxRecDepth 20000 in
theorem q_wsL_root_r2 : ∀ w ∈ wsL_root_r2, w ∈ lw_tbl := by
  unfold wsL_root_r2
  exact (List.forall_mem_cons.mpr ⟨mw_566, List.forall_mem_cons.mpr ⟨mw_180, List.forall_mem_cons.mpr ⟨mw_21, List.forall_mem_cons.mpr ⟨mw_16, List.forall_mem_cons.mpr ⟨mw_159, List.forall_mem_cons.mpr ⟨mw_160, List.forall_mem_cons.mpr ⟨mw_161, List.forall_mem_cons.mpr ⟨mw_15, List.forall_mem_cons.mpr ⟨mw_162, List.forall_mem_cons.mpr ⟨mw_47, List.forall_mem_cons.mpr ⟨mw_163, List.forall_mem_cons.mpr ⟨mw_164, List.forall_mem_cons.mpr ⟨mw_165, List.forall_mem_cons.mpr ⟨mw_49, List.forall_mem_cons.mpr ⟨mw_166, List.forall_mem_cons.mpr ⟨mw_55, List.forall_mem_cons.mpr ⟨mw_167, List.forall_mem_cons.mpr ⟨mw_168, List.forall_mem_cons.mpr ⟨mw_169, List.forall_mem_cons.mpr ⟨mw_40, List.forall_mem_cons.mpr ⟨mw_170, List.forall_mem_cons.mpr ⟨mw_62, List.forall_mem_cons.mpr ⟨mw_61, List.forall_mem_cons.mpr ⟨mw_211, fun _ h => absurd h List.not_mem_nil⟩⟩⟩⟩⟩⟩⟩⟩⟩⟩⟩⟩⟩⟩⟩⟩⟩⟩⟩⟩⟩⟩⟩⟩)
set_option maxRecDepth 20000 in
theorem q_wsL_root_r3 : ∀ w ∈ wsL_root_r3, w ∈ lw_tbl := by
  unfold wsL_root_r3
  exact (List.forall_mem_cons.mpr ⟨mw_212, List.forall_mem_cons.mpr ⟨mw_213, List.forall_mem_cons.mpr ⟨mw_214, List.forall_mem_cons.mpr ⟨mw_219, List.forall_mem_cons.mpr ⟨mw_220, List.forall_mem_cons.mpr ⟨mw_221, List.forall_mem_cons.mpr ⟨mw_222, List.forall_mem_cons.mpr ⟨mw_344, List.forall_mem_cons.mpr ⟨mw_345, List.forall_mem_cons.mpr ⟨mw_346, List.forall_mem_cons.mpr ⟨mw_223, List.forall_mem_cons.mpr ⟨mw_224, List.forall_mem_cons.mpr ⟨mw_225, List.forall_mem_cons.mpr ⟨mw_226, List.forall_mem_cons.mpr ⟨mw_227, List.forall_mem_cons.mpr ⟨mw_228, List.forall_mem_cons.mpr ⟨mw_229, List.forall_mem_cons.mpr ⟨mw_230, List.forall_mem_cons.mpr ⟨mw_231, List.forall_mem_cons.mpr ⟨mw_232, List.forall_mem_cons.mpr ⟨mw_233, List.forall_mem_cons.mpr ⟨mw_234, List.forall_mem_cons.mpr ⟨mw_277, List.forall_mem_cons.mpr ⟨mw_278, fun _ h => absurd h List.not_mem_nil⟩⟩⟩⟩⟩⟩⟩⟩⟩⟩⟩⟩⟩⟩⟩⟩⟩⟩⟩⟩⟩⟩⟩⟩)
set_option maxRecDepth 20000 in
theorem q_wsL_root_r4 : ∀ w ∈ wsL_root_r4, w ∈ lw_tbl := by
  unfold wsL_root_r4
  exact (List.forall_mem_cons.mpr ⟨mw_279, List.forall_mem_cons.mpr ⟨mw_19, List.forall_mem_cons.mpr ⟨mw_280, List.forall_mem_cons.mpr ⟨mw_69, List.forall_mem_cons.mpr ⟨mw_72, List.forall_mem_cons.mpr ⟨mw_281, List.forall_mem_cons.mpr ⟨mw_282, List.forall_mem_cons.mpr ⟨mw_283, List.forall_mem_cons.mpr ⟨mw_284, List.forall_mem_cons.mpr ⟨mw_68, List.forall_mem_cons.mpr ⟨mw_285, List.forall_mem_cons.mpr ⟨mw_286, List.forall_mem_cons.mpr ⟨mw_75, List.forall_mem_cons.mpr ⟨mw_76, List.forall_mem_cons.mpr ⟨mw_77, List.forall_mem_cons.mpr ⟨mw_78, List.forall_mem_cons.mpr ⟨mw_79, List.forall_mem_cons.mpr ⟨mw_80, List.forall_mem_cons.mpr ⟨mw_81, List.forall_mem_cons.mpr ⟨mw_287, List.forall_mem_cons.mpr ⟨mw_288, List.forall_mem_cons.mpr ⟨mw_289, List.forall_mem_cons.mpr ⟨mw_290, List.forall_mem_cons.mpr ⟨mw_291, fun _ h => absurd h List.not_mem_nil⟩⟩⟩⟩⟩⟩⟩⟩⟩⟩⟩⟩⟩⟩⟩⟩⟩⟩⟩⟩⟩⟩⟩⟩)
set_option maxRecDepth 20000 in
theorem q_wsL_root_r5 : ∀ w ∈ wsL_root_r5, w ∈ lw_tbl := by
  unfold wsL_root_r5
  exact (List.forall_mem_cons.mpr ⟨mw_292, List.forall_mem_cons.mpr ⟨mw_293, List.forall_mem_cons.mpr ⟨mw_294, List.forall_mem_cons.mpr ⟨mw_295, List.forall_mem_cons.mpr ⟨mw_296, List.forall_mem_cons.mpr ⟨mw_297, List.forall_mem_cons.mpr ⟨mw_298, List.forall_mem_cons.mpr ⟨mw_299, List.forall_mem_cons.mpr ⟨mw_300, List.forall_mem_cons.mpr ⟨mw_301, List.forall_mem_cons.mpr ⟨mw_302, List.forall_mem_cons.mpr ⟨mw_303, List.forall_mem_cons.mpr ⟨mw_304, List.forall_mem_cons.mpr ⟨mw_36, List.forall_mem_cons.mpr ⟨mw_305, List.forall_mem_cons.mpr ⟨mw_87, List.forall_mem_cons.mpr ⟨mw_88, List.forall_mem_cons.mpr ⟨mw_89, List.forall_mem_cons.mpr ⟨mw_306, List.forall_mem_cons.mpr ⟨mw_307, List.forall_mem_cons.mpr ⟨mw_308, List.forall_mem_cons.mpr ⟨mw_309, List.forall_mem_cons.mpr ⟨mw_310, List.forall_mem_cons.mpr ⟨mw_311, fun _ h => absurd h List.not_mem_nil⟩⟩⟩⟩⟩⟩⟩⟩⟩⟩⟩⟩⟩⟩⟩⟩⟩⟩⟩⟩⟩⟩⟩⟩)
set_option maxRecDepth 20000 in
theorem q_wsL_root_r6 : ∀ w ∈ wsL_root_r6, w ∈ lw_tbl := by
  unfold wsL_root_r6
  exact (List.forall_mem_cons.mpr ⟨mw_312, List.forall_mem_cons.mpr ⟨mw_313, List.forall_mem_cons.mpr ⟨mw_314, List.forall_mem_cons.mpr ⟨mw_315, List.forall_mem_cons.mpr ⟨mw_316, List.forall_mem_cons.mpr ⟨mw_317, List.forall_mem_cons.mpr ⟨mw_318, List.forall_mem_cons.mpr ⟨mw_319, List.forall_mem_cons.mpr ⟨mw_320, List.forall_mem_cons.mpr ⟨mw_321, List.forall_mem_cons.mpr ⟨mw_322, List.forall_mem_cons.mpr ⟨mw_323, List.forall_mem_cons.mpr ⟨mw_324, List.forall_mem_cons.mpr ⟨mw_325, List.forall_mem_cons.mpr ⟨mw_326, List.forall_mem_cons.mpr ⟨mw_327, List.forall_mem_cons.mpr ⟨mw_328, List.forall_mem_cons.mpr ⟨mw_73, List.forall_mem_cons.mpr ⟨mw_70, List.forall_mem_cons.mpr ⟨mw_329, List.forall_mem_cons.mpr ⟨mw_330, List.forall_mem_cons.mpr ⟨mw_331, List.forall_mem_cons.mpr ⟨mw_332, List.forall_mem_cons.mpr ⟨mw_337, fun _ h => absurd h List.not_mem_nil⟩⟩⟩⟩⟩⟩⟩⟩⟩⟩⟩⟩⟩⟩⟩⟩⟩⟩⟩⟩⟩⟩⟩⟩)
set_option maxRecDepth 20000 in
theorem q_wsL_root_r7 : ∀ w ∈ wsL_root_r7, w ∈ lw_tbl := by
  unfold wsL_root_r7
  exact (List.forall_mem_cons.mpr ⟨mw_338, List.forall_mem_cons.mpr ⟨mw_339, List.forall_mem_cons.mpr ⟨mw_340, List.forall_mem_cons.mpr ⟨mw_613, List.forall_mem_cons.mpr ⟨mw_614, List.forall_mem_cons.mpr ⟨mw_615, List.forall_mem_cons.mpr ⟨mw_25, List.forall_mem_cons.mpr ⟨mw_616, List.forall_mem_cons.mpr ⟨mw_617, List.forall_mem_cons.mpr ⟨mw_618, List.forall_mem_cons.mpr ⟨mw_99, List.forall_mem_cons.mpr ⟨mw_97, List.forall_mem_cons.mpr ⟨mw_103, List.forall_mem_cons.mpr ⟨mw_619, List.forall_mem_cons.mpr ⟨mw_620, List.forall_mem_cons.mpr ⟨mw_621, List.forall_mem_cons.mpr ⟨mw_622, List.forall_mem_cons.mpr ⟨mw_98, List.forall_mem_cons.mpr ⟨mw_100, List.forall_mem_cons.mpr ⟨mw_101, List.forall_mem_cons.mpr ⟨mw_623, List.forall_mem_cons.mpr ⟨mw_624, List.forall_mem_cons.mpr ⟨mw_625, List.forall_mem_cons.mpr ⟨mw_626, fun _ h => absurd h List.not_mem_nil⟩⟩⟩⟩⟩⟩⟩⟩⟩⟩⟩⟩⟩⟩⟩⟩⟩⟩⟩⟩⟩⟩⟩⟩)
set_option maxRecDepth 20000 in
theorem q_wsL_root_r8 : ∀ w ∈ wsL_root_r8, w ∈ lw_tbl := by
  unfold wsL_root_r8
  exact (List.forall_mem_cons.mpr ⟨mw_627, List.forall_mem_cons.mpr ⟨mw_628, List.forall_mem_cons.mpr ⟨mw_629, List.forall_mem_cons.mpr ⟨mw_216, List.forall_mem_cons.mpr ⟨mw_217, List.forall_mem_cons.mpr ⟨mw_218, List.forall_mem_cons.mpr ⟨mw_630, List.forall_mem_cons.mpr ⟨mw_631, List.forall_mem_cons.mpr ⟨mw_632, List.forall_mem_cons.mpr ⟨mw_633, List.forall_mem_cons.mpr ⟨mw_634, List.forall_mem_cons.mpr ⟨mw_635, List.forall_mem_cons.mpr ⟨mw_636, List.forall_mem_cons.mpr ⟨mw_637, List.forall_mem_cons.mpr ⟨mw_638, List.forall_mem_cons.mpr ⟨mw_639, List.forall_mem_cons.mpr ⟨mw_95, fun _ h => absurd h List.not_mem_nil⟩⟩⟩⟩⟩⟩⟩⟩⟩⟩⟩⟩⟩⟩⟩⟩⟩)
set_option maxRecDepth 20000 in
theorem q_wsL_root : ∀ w ∈ wsL_root, w ∈ lw_tbl := by
  unfold wsL_root
  exact (List.forall_mem_cons.mpr ⟨mw_604, (fun w h => (List.mem_append.mp h).elim ((fun w h => (List.mem_append.mp h).elim ((fun w h => (List.mem_append.mp h).elim ((fun w h => (List.mem_append.mp h).elim ((fun w h => (List.mem_append.mp h).elim ((fun w h => (List.mem_append.mp h).elim ((fun w h => (List.mem_append.mp h).elim ((fun w h => (List.mem_append.mp h).elim ((fun w h => (List.mem_append.mp h).elim (q_wsL_root_r1 w) ((fun w h => (List.mem_append.mp h).elim (q_wsL_root_r2 w) ((fun w h => (List.mem_append.mp h).elim (q_wsL_root_r3 w) ((fun w h => (List.mem_append.mp h).elim (q_wsL_root_r4 w) ((fun w h => (List.mem_append.mp h).elim (q_wsL_root_r5 w) ((fun w h => (List.mem_append.mp h).elim (q_wsL_root_r6 w) ((fun w h => (List.mem_append.mp h).elim (q_wsL_root_r7 w) (q_wsL_root_r8 w)) w)) w)) w)) w)) w)) w)) w) (wi_wsX70 w)) w) (wi_wsX50 w)) w) (wi_wsX20 w)) w) (wi_wsX60 w)) w) (wi_wsX40 w)) w) (wi_wsX30 w)) w) (wi_wsX00 w)) w) (wsL_law_x1 w))⟩)
set_option maxRecDepth 20000 in
theorem q_wsX8_root_r1 : ∀ w ∈ wsX8_root_r1, w ∈ lw_tbl := by
  unfold wsX8_root_r1
  exact (List.forall_mem_cons.mpr ⟨mw_552, List.forall_mem_cons.mpr ⟨mw_553, List.forall_mem_cons.mpr ⟨mw_554, List.forall_mem_cons.mpr ⟨mw_5, List.forall_mem_cons.mpr ⟨mw_555, List.forall_mem_cons.mpr ⟨mw_187, List.forall_mem_cons.mpr ⟨mw_188, List.forall_mem_cons.mpr ⟨mw_186, List.forall_mem_cons.mpr ⟨mw_644, List.forall_mem_cons.mpr ⟨mw_645, List.forall_mem_cons.mpr ⟨mw_646, List.forall_mem_cons.mpr ⟨mw_647, List.forall_mem_cons.mpr ⟨mw_127, List.forall_mem_cons.mpr ⟨mw_250, List.forall_mem_cons.mpr ⟨mw_571, List.forall_mem_cons.mpr ⟨mw_572, List.forall_mem_cons.mpr ⟨mw_573, List.forall_mem_cons.mpr ⟨mw_574, List.forall_mem_cons.mpr ⟨mw_128, List.forall_mem_cons.mpr ⟨mw_124, List.forall_mem_cons.mpr ⟨mw_399, List.forall_mem_cons.mpr ⟨mw_400, List.forall_mem_cons.mpr ⟨mw_401, List.forall_mem_cons.mpr ⟨mw_402, fun _ h => absurd h List.not_mem_nil⟩⟩⟩⟩⟩⟩⟩⟩⟩⟩⟩⟩⟩⟩⟩⟩⟩⟩⟩⟩⟩⟩⟩⟩)
set_option maxRecDepth 20000 in
theorem q_wsX8_root_r2 : ∀ w ∈ wsX8_root_r2, w ∈ lw_tbl := by
  unfold wsX8_root_r2
  exact (List.forall_mem_cons.mpr ⟨mw_403, List.forall_mem_cons.mpr ⟨mw_404, List.forall_mem_cons.mpr ⟨mw_405, List.forall_mem_cons.mpr ⟨mw_406, List.forall_mem_cons.mpr ⟨mw_407, List.forall_mem_cons.mpr ⟨mw_408, List.forall_mem_cons.mpr ⟨mw_409, List.forall_mem_cons.mpr ⟨mw_247, List.forall_mem_cons.mpr ⟨mw_248, List.forall_mem_cons.mpr ⟨mw_249, List.forall_mem_cons.mpr ⟨mw_490, List.forall_mem_cons.mpr ⟨mw_491, List.forall_mem_cons.mpr ⟨mw_492, List.forall_mem_cons.mpr ⟨mw_493, fun _ h => absurd h List.not_mem_nil⟩⟩⟩⟩⟩⟩⟩⟩⟩⟩⟩⟩⟩⟩)
set_option maxRecDepth 20000 in
theorem q_wsX8_root : ∀ w ∈ wsX8_root, w ∈ lw_tbl := by
  unfold wsX8_root
  exact (List.forall_mem_cons.mpr ⟨mw_643, (fun w h => (List.mem_append.mp h).elim ((fun w h => (List.mem_append.mp h).elim (q_wsX8_root_r1 w) (q_wsX8_root_r2 w)) w) (wi_wsX80 w))⟩)
set_option maxRecDepth 20000 in
theorem q_wsL_blocks_r1 : ∀ w ∈ wsL_blocks_r1, w ∈ lw_tbl := by
  unfold wsL_blocks_r1
  exact (List.forall_mem_cons.mpr ⟨mw_497, List.forall_mem_cons.mpr ⟨mw_147, List.forall_mem_cons.mpr ⟨mw_651, List.forall_mem_cons.mpr ⟨mw_652, List.forall_mem_cons.mpr ⟨mw_653, List.forall_mem_cons.mpr ⟨mw_2, List.forall_mem_cons.mpr ⟨mw_654, List.forall_mem_cons.mpr ⟨mw_152, List.forall_mem_cons.mpr ⟨mw_153, List.forall_mem_cons.mpr ⟨mw_26, List.forall_mem_cons.mpr ⟨mw_41, List.forall_mem_cons.mpr ⟨mw_157, List.forall_mem_cons.mpr ⟨mw_37, List.forall_mem_cons.mpr ⟨mw_22, List.forall_mem_cons.mpr ⟨mw_543, List.forall_mem_cons.mpr ⟨mw_544, List.forall_mem_cons.mpr ⟨mw_545, List.forall_mem_cons.mpr ⟨mw_546, List.forall_mem_cons.mpr ⟨mw_506, List.forall_mem_cons.mpr ⟨mw_507, List.forall_mem_cons.mpr ⟨mw_158, List.forall_mem_cons.mpr ⟨mw_609, List.forall_mem_cons.mpr ⟨mw_610, List.forall_mem_cons.mpr ⟨mw_611, fun _ h => absurd h List.not_mem_nil⟩⟩⟩⟩⟩⟩⟩⟩⟩⟩⟩⟩⟩⟩⟩⟩⟩⟩⟩⟩⟩⟩⟩⟩)
set_option maxRecDepth 20000 in
theorem q_wsL_blocks_r2 : ∀ w ∈ wsL_blocks_r2, w ∈ lw_tbl := by
  unfold wsL_blocks_r2
  exact (List.forall_mem_cons.mpr ⟨mw_612, List.forall_mem_cons.mpr ⟨mw_181, List.forall_mem_cons.mpr ⟨mw_563, List.forall_mem_cons.mpr ⟨mw_564, List.forall_mem_cons.mpr ⟨mw_565, List.forall_mem_cons.mpr ⟨mw_566, List.forall_mem_cons.mpr ⟨mw_180, List.forall_mem_cons.mpr ⟨mw_21, List.forall_mem_cons.mpr ⟨mw_16, List.forall_mem_cons.mpr ⟨mw_159, List.forall_mem_cons.mpr ⟨mw_160, List.forall_mem_cons.mpr ⟨mw_161, List.forall_mem_cons.mpr ⟨mw_15, List.forall_mem_cons.mpr ⟨mw_162, List.forall_mem_cons.mpr ⟨mw_47, List.forall_mem_cons.mpr ⟨mw_163, List.forall_mem_cons.mpr ⟨mw_164, List.forall_mem_cons.mpr ⟨mw_165, List.forall_mem_cons.mpr ⟨mw_49, List.forall_mem_cons.mpr ⟨mw_166, List.forall_mem_cons.mpr ⟨mw_55, List.forall_mem_cons.mpr ⟨mw_167, List.forall_mem_cons.mpr ⟨mw_168, List.forall_mem_cons.mpr ⟨mw_169, fun _ h => absurd h List.not_mem_nil⟩⟩⟩⟩⟩⟩⟩⟩⟩⟩⟩⟩⟩⟩⟩⟩⟩⟩⟩⟩⟩⟩⟩⟩)
set_option maxRecDepth 20000 in
theorem q_wsL_blocks_r3 : ∀ w ∈ wsL_blocks_r3, w ∈ lw_tbl := by
  unfold wsL_blocks_r3
  exact (List.forall_mem_cons.mpr ⟨mw_40, List.forall_mem_cons.mpr ⟨mw_170, List.forall_mem_cons.mpr ⟨mw_62, List.forall_mem_cons.mpr ⟨mw_61, List.forall_mem_cons.mpr ⟨mw_211, List.forall_mem_cons.mpr ⟨mw_212, List.forall_mem_cons.mpr ⟨mw_213, List.forall_mem_cons.mpr ⟨mw_214, List.forall_mem_cons.mpr ⟨mw_219, List.forall_mem_cons.mpr ⟨mw_220, List.forall_mem_cons.mpr ⟨mw_221, List.forall_mem_cons.mpr ⟨mw_222, List.forall_mem_cons.mpr ⟨mw_344, List.forall_mem_cons.mpr ⟨mw_345, List.forall_mem_cons.mpr ⟨mw_346, List.forall_mem_cons.mpr ⟨mw_223, List.forall_mem_cons.mpr ⟨mw_224, List.forall_mem_cons.mpr ⟨mw_225, List.forall_mem_cons.mpr ⟨mw_226, List.forall_mem_cons.mpr ⟨mw_227, List.forall_mem_cons.mpr ⟨mw_228, List.forall_mem_cons.mpr ⟨mw_229, List.forall_mem_cons.mpr ⟨mw_230, List.forall_mem_cons.mpr ⟨mw_231, fun _ h => absurd h List.not_mem_nil⟩⟩⟩⟩⟩⟩⟩⟩⟩⟩⟩⟩⟩⟩⟩⟩⟩⟩⟩⟩⟩⟩⟩⟩)
set_option maxRecDepth 20000 in
theorem q_wsL_blocks_r4 : ∀ w ∈ wsL_blocks_r4, w ∈ lw_tbl := by
  unfold wsL_blocks_r4
  exact (List.forall_mem_cons.mpr ⟨mw_232, List.forall_mem_cons.mpr ⟨mw_233, List.forall_mem_cons.mpr ⟨mw_234, List.forall_mem_cons.mpr ⟨mw_277, List.forall_mem_cons.mpr ⟨mw_278, List.forall_mem_cons.mpr ⟨mw_279, List.forall_mem_cons.mpr ⟨mw_19, List.forall_mem_cons.mpr ⟨mw_280, List.forall_mem_cons.mpr ⟨mw_69, List.forall_mem_cons.mpr ⟨mw_72, List.forall_mem_cons.mpr ⟨mw_281, List.forall_mem_cons.mpr ⟨mw_282, List.forall_mem_cons.mpr ⟨mw_283, List.forall_mem_cons.mpr ⟨mw_284, List.forall_mem_cons.mpr ⟨mw_68, List.forall_mem_cons.mpr ⟨mw_285, List.forall_mem_cons.mpr ⟨mw_286, List.forall_mem_cons.mpr ⟨mw_75, List.forall_mem_cons.mpr ⟨mw_76, List.forall_mem_cons.mpr ⟨mw_77, List.forall_mem_cons.mpr ⟨mw_78, List.forall_mem_cons.mpr ⟨mw_79, List.forall_mem_cons.mpr ⟨mw_80, List.forall_mem_cons.mpr ⟨mw_81, fun _ h => absurd h List.not_mem_nil⟩⟩⟩⟩⟩⟩⟩⟩⟩⟩⟩⟩⟩⟩⟩⟩⟩⟩⟩⟩⟩⟩⟩⟩)
set_option maxRecDepth 20000 in
theorem q_wsL_blocks_r5 : ∀ w ∈ wsL_blocks_r5, w ∈ lw_tbl := by
  unfold wsL_blocks_r5
  exact (List.forall_mem_cons.mpr ⟨mw_287, List.forall_mem_cons.mpr ⟨mw_288, List.forall_mem_cons.mpr ⟨mw_289, List.forall_mem_cons.mpr ⟨mw_290, List.forall_mem_cons.mpr ⟨mw_291, List.forall_mem_cons.mpr ⟨mw_292, List.forall_mem_cons.mpr ⟨mw_293, List.forall_mem_cons.mpr ⟨mw_294, List.forall_mem_cons.mpr ⟨mw_295, List.forall_mem_cons.mpr ⟨mw_296, List.forall_mem_cons.mpr ⟨mw_297, List.forall_mem_cons.mpr ⟨mw_298, List.forall_mem_cons.mpr ⟨mw_299, List.forall_mem_cons.mpr ⟨mw_300, List.forall_mem_cons.mpr ⟨mw_301, List.forall_mem_cons.mpr ⟨mw_302, List.forall_mem_cons.mpr ⟨mw_303, List.forall_mem_cons.mpr ⟨mw_304, List.forall_mem_cons.mpr ⟨mw_36, List.forall_mem_cons.mpr ⟨mw_305, List.forall_mem_cons.mpr ⟨mw_87, List.forall_mem_cons.mpr ⟨mw_88, List.forall_mem_cons.mpr ⟨mw_89, List.forall_mem_cons.mpr ⟨mw_306, fun _ h => absurd h List.not_mem_nil⟩⟩⟩⟩⟩⟩⟩⟩⟩⟩⟩⟩⟩⟩⟩⟩⟩⟩⟩⟩⟩⟩⟩⟩)
set_option maxRecDepth 20000 in
theorem q_wsL_blocks_r6 : ∀ w ∈ wsL_blocks_r6, w ∈ lw_tbl := by
  unfold wsL_blocks_r6
  exact (List.forall_mem_cons.mpr ⟨mw_307, List.forall_mem_cons.mpr ⟨mw_308, List.forall_mem_cons.mpr ⟨mw_309, List.forall_mem_cons.mpr ⟨mw_310, List.forall_mem_cons.mpr ⟨mw_311, List.forall_mem_cons.mpr ⟨mw_312, List.forall_mem_cons.mpr ⟨mw_313, List.forall_mem_cons.mpr ⟨mw_314, List.forall_mem_cons.mpr ⟨mw_315, List.forall_mem_cons.mpr ⟨mw_316, List.forall_mem_cons.mpr ⟨mw_317, List.forall_mem_cons.mpr ⟨mw_318, List.forall_mem_cons.mpr ⟨mw_319, List.forall_mem_cons.mpr ⟨mw_320, List.forall_mem_cons.mpr ⟨mw_321, List.forall_mem_cons.mpr ⟨mw_322, List.forall_mem_cons.mpr ⟨mw_323, List.forall_mem_cons.mpr ⟨mw_324, List.forall_mem_cons.mpr ⟨mw_325, List.forall_mem_cons.mpr ⟨mw_326, List.forall_mem_cons.mpr ⟨mw_327, List.forall_mem_cons.mpr ⟨mw_328, List.forall_mem_cons.mpr ⟨mw_73, List.forall_mem_cons.mpr ⟨mw_70, fun _ h => absurd h List.not_mem_nil⟩⟩⟩⟩⟩⟩⟩⟩⟩⟩⟩⟩⟩⟩⟩⟩⟩⟩⟩⟩⟩⟩⟩⟩)
set_option maxRecDepth 20000 in
theorem q_wsL_blocks_r7 : ∀ w ∈ wsL_blocks_r7, w ∈ lw_tbl := by
  unfold wsL_blocks_r7
  exact (List.forall_mem_cons.mpr ⟨mw_329, List.forall_mem_cons.mpr ⟨mw_330, List.forall_mem_cons.mpr ⟨mw_331, List.forall_mem_cons.mpr ⟨mw_332, List.forall_mem_cons.mpr ⟨mw_337, List.forall_mem_cons.mpr ⟨mw_338, List.forall_mem_cons.mpr ⟨mw_339, List.forall_mem_cons.mpr ⟨mw_340, List.forall_mem_cons.mpr ⟨mw_613, List.forall_mem_cons.mpr ⟨mw_614, List.forall_mem_cons.mpr ⟨mw_615, List.forall_mem_cons.mpr ⟨mw_25, List.forall_mem_cons.mpr ⟨mw_616, List.forall_mem_cons.mpr ⟨mw_617, List.forall_mem_cons.mpr ⟨mw_618, List.forall_mem_cons.mpr ⟨mw_99, List.forall_mem_cons.mpr ⟨mw_97, List.forall_mem_cons.mpr ⟨mw_103, List.forall_mem_cons.mpr ⟨mw_619, List.forall_mem_cons.mpr ⟨mw_620, List.forall_mem_cons.mpr ⟨mw_621, List.forall_mem_cons.mpr ⟨mw_622, List.forall_mem_cons.mpr ⟨mw_98, List.forall_mem_cons.mpr ⟨mw_100, fun _ h => absurd h List.not_mem_nil⟩⟩⟩⟩⟩⟩⟩⟩⟩⟩⟩⟩⟩⟩⟩⟩⟩⟩⟩⟩⟩⟩⟩⟩)
set_option maxRecDepth 20000 in
theorem q_wsL_blocks_r8 : ∀ w ∈ wsL_blocks_r8, w ∈ lw_tbl := by
  unfold wsL_blocks_r8
  exact (List.forall_mem_cons.mpr ⟨mw_101, List.forall_mem_cons.mpr ⟨mw_623, List.forall_mem_cons.mpr ⟨mw_624, List.forall_mem_cons.mpr ⟨mw_625, List.forall_mem_cons.mpr ⟨mw_626, List.forall_mem_cons.mpr ⟨mw_627, List.forall_mem_cons.mpr ⟨mw_628, List.forall_mem_cons.mpr ⟨mw_629, List.forall_mem_cons.mpr ⟨mw_216, List.forall_mem_cons.mpr ⟨mw_217, List.forall_mem_cons.mpr ⟨mw_218, List.forall_mem_cons.mpr ⟨mw_630, List.forall_mem_cons.mpr ⟨mw_631, List.forall_mem_cons.mpr ⟨mw_632, List.forall_mem_cons.mpr ⟨mw_633, List.forall_mem_cons.mpr ⟨mw_634, List.forall_mem_cons.mpr ⟨mw_635, List.forall_mem_cons.mpr ⟨mw_636, List.forall_mem_cons.mpr ⟨mw_637, List.forall_mem_cons.mpr ⟨mw_638, List.forall_mem_cons.mpr ⟨mw_639, List.forall_mem_cons.mpr ⟨mw_95, List.forall_mem_cons.mpr ⟨mw_655, List.forall_mem_cons.mpr ⟨mw_656, fun _ h => absurd h List.not_mem_nil⟩⟩⟩⟩⟩⟩⟩⟩⟩⟩⟩⟩⟩⟩⟩⟩⟩⟩⟩⟩⟩⟩⟩⟩)
set_option maxRecDepth 20000 in
theorem q_wsL_blocks_r9 : ∀ w ∈ wsL_blocks_r9, w ∈ lw_tbl := by
  unfold wsL_blocks_r9
  exact (List.forall_mem_cons.mpr ⟨mw_657, List.forall_mem_cons.mpr ⟨mw_658, fun _ h => absurd h List.not_mem_nil⟩⟩)
set_option maxRecDepth 20000 in
theorem q_wsL_blocks : ∀ w ∈ wsL_blocks, w ∈ lw_tbl := by
  unfold wsL_blocks
  exact (List.forall_mem_cons.mpr ⟨mw_650, (fun w h => (List.mem_append.mp h).elim ((fun w h => (List.mem_append.mp h).elim ((fun w h => (List.mem_append.mp h).elim ((fun w h => (List.mem_append.mp h).elim ((fun w h => (List.mem_append.mp h).elim ((fun w h => (List.mem_append.mp h).elim ((fun w h => (List.mem_append.mp h).elim ((fun w h => (List.mem_append.mp h).elim ((fun w h => (List.mem_append.mp h).elim ((fun w h => (List.mem_append.mp h).elim (q_wsL_blocks_r1 w) ((fun w h => (List.mem_append.mp h).elim (q_wsL_blocks_r2 w) ((fun w h => (List.mem_append.mp h).elim (q_wsL_blocks_r3 w) ((fun w h => (List.mem_append.mp h).elim (q_wsL_blocks_r4 w) ((fun w h => (List.mem_append.mp h).elim (q_wsL_blocks_r5 w) ((fun w h => (List.mem_append.mp h).elim (q_wsL_blocks_r6 w) ((fun w h => (List.mem_append.mp h).elim (q_wsL_blocks_r7 w) ((fun w h => (List.mem_append.mp h).elim (q_wsL_blocks_r8 w) (q_wsL_blocks_r9 w)) w)) w)) w)) w)) w)) w)) w)) w) (wi_wsX70 w)) w) (wi_wsX50 w)) w) (wi_wsX30 w)) w) (wi_wsX20 w)) w) (wi_wsX60 w)) w) (wi_wsX40 w)) w) (wi_wsX00 w)) w) (wsL_law_x0 w)) w) (wsL_law_x1 w))⟩)
set_option maxRecDepth 20000 in
theorem q_wsX8_blocks_r1 : ∀ w ∈ wsX8_blocks_r1, w ∈ lw_tbl := by
  unfold wsX8_blocks_r1
  exact (List.forall_mem_cons.mpr ⟨mw_552, List.forall_mem_cons.mpr ⟨mw_553, List.forall_mem_cons.mpr ⟨mw_554, List.forall_mem_cons.mpr ⟨mw_5, List.forall_mem_cons.mpr ⟨mw_555, List.forall_mem_cons.mpr ⟨mw_187, List.forall_mem_cons.mpr ⟨mw_188, List.forall_mem_cons.mpr ⟨mw_186, List.forall_mem_cons.mpr ⟨mw_644, List.forall_mem_cons.mpr ⟨mw_645, List.forall_mem_cons.mpr ⟨mw_646, List.forall_mem_cons.mpr ⟨mw_647, List.forall_mem_cons.mpr ⟨mw_127, List.forall_mem_cons.mpr ⟨mw_250, List.forall_mem_cons.mpr ⟨mw_571, List.forall_mem_cons.mpr ⟨mw_572, List.forall_mem_cons.mpr ⟨mw_573, List.forall_mem_cons.mpr ⟨mw_574, List.forall_mem_cons.mpr ⟨mw_128, List.forall_mem_cons.mpr ⟨mw_124, List.forall_mem_cons.mpr ⟨mw_399, List.forall_mem_cons.mpr ⟨mw_400, List.forall_mem_cons.mpr ⟨mw_401, List.forall_mem_cons.mpr ⟨mw_402, fun _ h => absurd h List.not_mem_nil⟩⟩⟩⟩⟩⟩⟩⟩⟩⟩⟩⟩⟩⟩⟩⟩⟩⟩⟩⟩⟩⟩⟩⟩)
set_option maxRecDepth 20000 in
theorem q_wsX8_blocks_r2 : ∀ w ∈ wsX8_blocks_r2, w ∈ lw_tbl := by
  unfold wsX8_blocks_r2
  exact (List.forall_mem_cons.mpr ⟨mw_403, List.forall_mem_cons.mpr ⟨mw_404, List.forall_mem_cons.mpr ⟨mw_405, List.forall_mem_cons.mpr ⟨mw_406, List.forall_mem_cons.mpr ⟨mw_407, List.forall_mem_cons.mpr ⟨mw_408, List.forall_mem_cons.mpr ⟨mw_409, List.forall_mem_cons.mpr ⟨mw_247, List.forall_mem_cons.mpr ⟨mw_248, List.forall_mem_cons.mpr ⟨mw_249, List.forall_mem_cons.mpr ⟨mw_490, List.forall_mem_cons.mpr ⟨mw_491, List.forall_mem_cons.mpr ⟨mw_492, List.forall_mem_cons.mpr ⟨mw_493, List.forall_mem_cons.mpr ⟨mw_663, List.forall_mem_cons.mpr ⟨mw_664, List.forall_mem_cons.mpr ⟨mw_665, List.forall_mem_cons.mpr ⟨mw_666, List.forall_mem_cons.mpr ⟨mw_667, List.forall_mem_cons.mpr ⟨mw_668, List.forall_mem_cons.mpr ⟨mw_669, List.forall_mem_cons.mpr ⟨mw_670, List.forall_mem_cons.mpr ⟨mw_140, List.forall_mem_cons.mpr ⟨mw_141, fun _ h => absurd h List.not_mem_nil⟩⟩⟩⟩⟩⟩⟩⟩⟩⟩⟩⟩⟩⟩⟩⟩⟩⟩⟩⟩⟩⟩⟩⟩)
set_option maxRecDepth 20000 in
theorem q_wsX8_blocks_r3 : ∀ w ∈ wsX8_blocks_r3, w ∈ lw_tbl := by
  unfold wsX8_blocks_r3
  exact (List.forall_mem_cons.mpr ⟨mw_594, List.forall_mem_cons.mpr ⟨mw_595, List.forall_mem_cons.mpr ⟨mw_596, List.forall_mem_cons.mpr ⟨mw_597, List.forall_mem_cons.mpr ⟨mw_471, List.forall_mem_cons.mpr ⟨mw_472, List.forall_mem_cons.mpr ⟨mw_473, List.forall_mem_cons.mpr ⟨mw_474, List.forall_mem_cons.mpr ⟨mw_475, List.forall_mem_cons.mpr ⟨mw_476, List.forall_mem_cons.mpr ⟨mw_477, List.forall_mem_cons.mpr ⟨mw_478, fun _ h => absurd h List.not_mem_nil⟩⟩⟩⟩⟩⟩⟩⟩⟩⟩⟩⟩)
set_option maxRecDepth 20000 in
theorem q_wsX8_blocks : ∀ w ∈ wsX8_blocks, w ∈ lw_tbl := by
  unfold wsX8_blocks
  exact (List.forall_mem_cons.mpr ⟨mw_662, (fun w h => (List.mem_append.mp h).elim ((fun w h => (List.mem_append.mp h).elim (q_wsX8_blocks_r1 w) ((fun w h => (List.mem_append.mp h).elim (q_wsX8_blocks_r2 w) (q_wsX8_blocks_r3 w)) w)) w) (wi_wsX80 w))⟩)
set_option maxRecDepth 20000 in
theorem q_wsX7_count : ∀ w ∈ wsX7_count, w ∈ lw_tbl := by
  unfold wsX7_count
  exact (List.forall_mem_cons.mpr ⟨mw_674, (fun w h => (List.mem_append.mp h).elim ((List.forall_mem_cons.mpr ⟨mw_157, List.forall_mem_cons.mpr ⟨mw_158, List.forall_mem_cons.mpr ⟨mw_33, fun _ h => absurd h List.not_mem_nil⟩⟩⟩) w) (wi_wsX70 w))⟩)
set_option maxRecDepth 20000 in
theorem q_wsX8_count : ∀ w ∈ wsX8_count, w ∈ lw_tbl := by
  unfold wsX8_count
  exact (List.forall_mem_cons.mpr ⟨mw_678, (fun w h => (List.mem_append.mp h).elim ((List.forall_mem_cons.mpr ⟨mw_186, List.forall_mem_cons.mpr ⟨mw_125, List.forall_mem_cons.mpr ⟨mw_187, List.forall_mem_cons.mpr ⟨mw_188, fun _ h => absurd h List.not_mem_nil⟩⟩⟩⟩) w) (wi_wsX80 w))⟩)
set_option maxRecDepth 20000 in
theorem gq_X7_init : GoodIn lw_tbl wsX7_init := gq_mk q_wsX7_init (by decide +kernel)
set_option maxRecDepth 20000 in
theorem gq_X8_init : GoodIn lw_tbl wsX8_init := gq_mk q_wsX8_init (by decide +kernel)
set_option maxRecDepth 20000 in
theorem gq_L_size : GoodIn lw_tbl (va_wsS RL 60 yL_size wtL_size) := gq_mk (fun w h => (List.mem_append.mp h).elim ((List.forall_mem_cons.mpr ⟨mw_142, List.forall_mem_cons.mpr ⟨mw_143, List.forall_mem_cons.mpr ⟨mw_144, fun _ h => absurd h List.not_mem_nil⟩⟩⟩) w) (fun h => (List.mem_append.mp h).elim (fun h => (List.mem_append.mp h).elim (q_wsL_size w) (exG_in w)) (exY_in w))) (by decide +kernel)
set_option maxRecDepth 20000 in
theorem gq_X8_size : GoodIn lw_tbl (wsV RL 65 RX8 yX8_size wsX8_size) := gq_mk (fun w h => (List.mem_append.mp h).elim ((List.forall_mem_cons.mpr ⟨mw_182, List.forall_mem_cons.mpr ⟨mw_183, List.forall_mem_cons.mpr ⟨mw_184, List.forall_mem_cons.mpr ⟨mw_5, fun _ h => absurd h List.not_mem_nil⟩⟩⟩⟩) w) (q_wsX8_size w)) (by decide +kernel)
set_option maxRecDepth 20000 in
theorem gq_X8_thrown : GoodIn lw_tbl (wsV RL 66 RX8 yX8_thrown wsX8_thrown) := gq_mk (fun w h => (List.mem_append.mp h).elim ((List.forall_mem_cons.mpr ⟨mw_189, List.forall_mem_cons.mpr ⟨mw_190, List.forall_mem_cons.mpr ⟨mw_191, List.forall_mem_cons.mpr ⟨mw_5, fun _ h => absurd h List.not_mem_nil⟩⟩⟩⟩) w) (q_wsX8_thrown w)) (by decide +kernel)
set_option maxRecDepth 20000 in
theorem gq_L_put : GoodIn lw_tbl (va_wsS RL 70 yL_put wtL_put) := gq_mk (fun w h => (List.mem_append.mp h).elim ((List.forall_mem_cons.mpr ⟨mw_193, List.forall_mem_cons.mpr ⟨mw_194, List.forall_mem_cons.mpr ⟨mw_144, fun _ h => absurd h List.not_mem_nil⟩⟩⟩) w) (fun h => (List.mem_append.mp h).elim (fun h => (List.mem_append.mp h).elim (q_wsL_put w) (exG_in w)) (exY_in w))) (by decide +kernel)
set_option maxRecDepth 20000 in
theorem gq_X8_put : GoodIn lw_tbl (wsV RL 73 RX8 yX8_put wsX8_put) := gq_mk (fun w h => (List.mem_append.mp h).elim ((List.forall_mem_cons.mpr ⟨mw_235, List.forall_mem_cons.mpr ⟨mw_236, List.forall_mem_cons.mpr ⟨mw_237, List.forall_mem_cons.mpr ⟨mw_5, fun _ h => absurd h List.not_mem_nil⟩⟩⟩⟩) w) (q_wsX8_put w)) (by decide +kernel)
set_option maxRecDepth 20000 in
theorem gq_L_entry : GoodIn lw_tbl (va_wsS RL 74 yL_entry wtL_entry) := gq_mk (fun w h => (List.mem_append.mp h).elim ((List.forall_mem_cons.mpr ⟨mw_251, List.forall_mem_cons.mpr ⟨mw_252, List.forall_mem_cons.mpr ⟨mw_144, fun _ h => absurd h List.not_mem_nil⟩⟩⟩) w) (fun h => (List.mem_append.mp h).elim (fun h => (List.mem_append.mp h).elim (q_wsL_entry w) (exG_in w)) (exY_in w))) (by decide +kernel)
set_option maxRecDepth 20000 in
theorem gq_X8_entry : GoodIn lw_tbl (wsV RL 77 RX8 yX8_entry wsX8_entry) := gq_mk (fun w h => (List.mem_append.mp h).elim ((List.forall_mem_cons.mpr ⟨mw_258, List.forall_mem_cons.mpr ⟨mw_259, List.forall_mem_cons.mpr ⟨mw_260, List.forall_mem_cons.mpr ⟨mw_5, fun _ h => absurd h List.not_mem_nil⟩⟩⟩⟩) w) (q_wsX8_entry w)) (by decide +kernel)
set_option maxRecDepth 20000 in
theorem gq_L_make : GoodIn lw_tbl (va_wsS RL 78 yL_make wtL_make) := gq_mk (fun w h => (List.mem_append.mp h).elim ((List.forall_mem_cons.mpr ⟨mw_262, List.forall_mem_cons.mpr ⟨mw_263, List.forall_mem_cons.mpr ⟨mw_144, fun _ h => absurd h List.not_mem_nil⟩⟩⟩) w) (fun h => (List.mem_append.mp h).elim (fun h => (List.mem_append.mp h).elim (q_wsL_make w) (exG_in w)) (exY_in w))) (by decide +kernel)
set_option maxRecDepth 20000 in
theorem gq_X8_make : GoodIn lw_tbl (wsV RL 81 RX8 yX8_make wsX8_make) := gq_mk (fun w h => (List.mem_append.mp h).elim ((List.forall_mem_cons.mpr ⟨mw_390, List.forall_mem_cons.mpr ⟨mw_391, List.forall_mem_cons.mpr ⟨mw_392, List.forall_mem_cons.mpr ⟨mw_5, fun _ h => absurd h List.not_mem_nil⟩⟩⟩⟩) w) (q_wsX8_make w)) (by decide +kernel)
set_option maxRecDepth 20000 in
theorem gq_L_degree : GoodIn lw_tbl (va_wsS RL 82 yL_degree wtL_degree) := gq_mk (fun w h => (List.mem_append.mp h).elim ((List.forall_mem_cons.mpr ⟨mw_494, List.forall_mem_cons.mpr ⟨mw_495, List.forall_mem_cons.mpr ⟨mw_144, fun _ h => absurd h List.not_mem_nil⟩⟩⟩) w) (fun h => (List.mem_append.mp h).elim (fun h => (List.mem_append.mp h).elim (q_wsL_degree w) (exG_in w)) (exY_in w))) (by decide +kernel)
set_option maxRecDepth 20000 in
theorem gq_X8_degree : GoodIn lw_tbl (wsV RL 84 RX8 yX8_degree wsX8_degree) := gq_mk (fun w h => (List.mem_append.mp h).elim ((List.forall_mem_cons.mpr ⟨mw_508, List.forall_mem_cons.mpr ⟨mw_509, List.forall_mem_cons.mpr ⟨mw_510, List.forall_mem_cons.mpr ⟨mw_5, fun _ h => absurd h List.not_mem_nil⟩⟩⟩⟩) w) (q_wsX8_degree w)) (by decide +kernel)
set_option maxRecDepth 20000 in
theorem gq_L_at : GoodIn lw_tbl (va_wsS RL 85 yL_at wtL_at) := gq_mk (fun w h => (List.mem_append.mp h).elim ((List.forall_mem_cons.mpr ⟨mw_516, List.forall_mem_cons.mpr ⟨mw_517, List.forall_mem_cons.mpr ⟨mw_144, fun _ h => absurd h List.not_mem_nil⟩⟩⟩) w) (fun h => (List.mem_append.mp h).elim (fun h => (List.mem_append.mp h).elim (q_wsL_at w) (exG_in w)) (exY_in w))) (by decide +kernel)
set_option maxRecDepth 20000 in
theorem gq_X8_at : GoodIn lw_tbl (wsV RL 87 RX8 yX8_at wsX8_at) := gq_mk (fun w h => (List.mem_append.mp h).elim ((List.forall_mem_cons.mpr ⟨mw_523, List.forall_mem_cons.mpr ⟨mw_524, List.forall_mem_cons.mpr ⟨mw_525, List.forall_mem_cons.mpr ⟨mw_5, fun _ h => absurd h List.not_mem_nil⟩⟩⟩⟩) w) (q_wsX8_at w)) (by decide +kernel)
set_option maxRecDepth 20000 in
theorem gq_X7_rank : GoodIn lw_tbl (wsV RL 88 RX7 yX7_rank wsX7_rank) := gq_mk (fun w h => (List.mem_append.mp h).elim ((List.forall_mem_cons.mpr ⟨mw_528, List.forall_mem_cons.mpr ⟨mw_529, List.forall_mem_cons.mpr ⟨mw_530, List.forall_mem_cons.mpr ⟨mw_2, fun _ h => absurd h List.not_mem_nil⟩⟩⟩⟩) w) (q_wsX7_rank w)) (by decide +kernel)
set_option maxRecDepth 20000 in
theorem gq_X8_rank : GoodIn lw_tbl (wsV RL 91 RX8 yX8_rank wsX8_rank) := gq_mk (fun w h => (List.mem_append.mp h).elim ((List.forall_mem_cons.mpr ⟨mw_532, List.forall_mem_cons.mpr ⟨mw_533, List.forall_mem_cons.mpr ⟨mw_534, List.forall_mem_cons.mpr ⟨mw_5, fun _ h => absurd h List.not_mem_nil⟩⟩⟩⟩) w) (q_wsX8_rank w)) (by decide +kernel)
set_option maxRecDepth 20000 in
theorem gq_L_determinant : GoodIn lw_tbl (va_wsS RL 92 yL_determinant wtL_determinant) := gq_mk (fun w h => (List.mem_append.mp h).elim ((List.forall_mem_cons.mpr ⟨mw_536, List.forall_mem_cons.mpr ⟨mw_537, List.forall_mem_cons.mpr ⟨mw_144, fun _ h => absurd h List.not_mem_nil⟩⟩⟩) w) (fun h => (List.mem_append.mp h).elim (fun h => (List.mem_append.mp h).elim (q_wsL_determinant w) (exG_in w)) (exY_in w))) (by decide +kernel)
set_option maxRecDepth 20000 in
theorem gq_X8_determinant : GoodIn lw_tbl (wsV RL 94 RX8 yX8_determinant wsX8_determinant) := gq_mk (fun w h => (List.mem_append.mp h).elim ((List.forall_mem_cons.mpr ⟨mw_547, List.forall_mem_cons.mpr ⟨mw_548, List.forall_mem_cons.mpr ⟨mw_549, List.forall_mem_cons.mpr ⟨mw_5, fun _ h => absurd h List.not_mem_nil⟩⟩⟩⟩) w) (q_wsX8_determinant w)) (by decide +kernel)
set_option maxRecDepth 20000 in
theorem gq_L_characteristic : GoodIn lw_tbl (va_wsS RL 95 yL_characteristic wtL_characteristic) := gq_mk (fun w h => (List.mem_append.mp h).elim ((List.forall_mem_cons.mpr ⟨mw_556, List.forall_mem_cons.mpr ⟨mw_557, List.forall_mem_cons.mpr ⟨mw_144, fun _ h => absurd h List.not_mem_nil⟩⟩⟩) w) (fun h => (List.mem_append.mp h).elim (fun h => (List.mem_append.mp h).elim (q_wsL_characteristic w) (exG_in w)) (exY_in w))) (by decide +kernel)
set_option maxRecDepth 20000 in
theorem gq_X8_characteristic : GoodIn lw_tbl (wsV RL 97 RX8 yX8_characteristic wsX8_characteristic) := gq_mk (fun w h => (List.mem_append.mp h).elim ((List.forall_mem_cons.mpr ⟨mw_567, List.forall_mem_cons.mpr ⟨mw_568, List.forall_mem_cons.mpr ⟨mw_569, List.forall_mem_cons.mpr ⟨mw_5, fun _ h => absurd h List.not_mem_nil⟩⟩⟩⟩) w) (q_wsX8_characteristic w)) (by decide +kernel)
set_option maxRecDepth 20000 in
theorem gq_L_minimal : GoodIn lw_tbl (va_wsS RL 98 yL_minimal wtL_minimal) := gq_mk (fun w h => (List.mem_append.mp h).elim ((List.forall_mem_cons.mpr ⟨mw_575, List.forall_mem_cons.mpr ⟨mw_576, List.forall_mem_cons.mpr ⟨mw_144, fun _ h => absurd h List.not_mem_nil⟩⟩⟩) w) (fun h => (List.mem_append.mp h).elim (fun h => (List.mem_append.mp h).elim (q_wsL_minimal w) (exG_in w)) (exY_in w))) (by decide +kernel)
set_option maxRecDepth 20000 in
theorem gq_X8_minimal : GoodIn lw_tbl (wsV RL 100 RX8 yX8_minimal wsX8_minimal) := gq_mk (fun w h => (List.mem_append.mp h).elim ((List.forall_mem_cons.mpr ⟨mw_582, List.forall_mem_cons.mpr ⟨mw_583, List.forall_mem_cons.mpr ⟨mw_584, List.forall_mem_cons.mpr ⟨mw_5, fun _ h => absurd h List.not_mem_nil⟩⟩⟩⟩) w) (q_wsX8_minimal w)) (by decide +kernel)
set_option maxRecDepth 20000 in
theorem gq_L_root : GoodIn lw_tbl (va_wsS RL 101 yL_root wtL_root) := gq_mk (fun w h => (List.mem_append.mp h).elim ((List.forall_mem_cons.mpr ⟨mw_602, List.forall_mem_cons.mpr ⟨mw_603, List.forall_mem_cons.mpr ⟨mw_144, fun _ h => absurd h List.not_mem_nil⟩⟩⟩) w) (fun h => (List.mem_append.mp h).elim (fun h => (List.mem_append.mp h).elim (q_wsL_root w) (exG_in w)) (exY_in w))) (by decide +kernel)
set_option maxRecDepth 20000 in
theorem gq_X8_root : GoodIn lw_tbl (wsV RL 103 RX8 yX8_root wsX8_root) := gq_mk (fun w h => (List.mem_append.mp h).elim ((List.forall_mem_cons.mpr ⟨mw_640, List.forall_mem_cons.mpr ⟨mw_641, List.forall_mem_cons.mpr ⟨mw_642, List.forall_mem_cons.mpr ⟨mw_5, fun _ h => absurd h List.not_mem_nil⟩⟩⟩⟩) w) (q_wsX8_root w)) (by decide +kernel)
set_option maxRecDepth 20000 in
theorem gq_L_blocks : GoodIn lw_tbl (va_wsS RL 104 yL_blocks wtL_blocks) := gq_mk (fun w h => (List.mem_append.mp h).elim ((List.forall_mem_cons.mpr ⟨mw_648, List.forall_mem_cons.mpr ⟨mw_649, List.forall_mem_cons.mpr ⟨mw_144, fun _ h => absurd h List.not_mem_nil⟩⟩⟩) w) (fun h => (List.mem_append.mp h).elim (fun h => (List.mem_append.mp h).elim (q_wsL_blocks w) (exG_in w)) (exY_in w))) (by decide +kernel)
set_option maxRecDepth 20000 in
theorem gq_X8_blocks : GoodIn lw_tbl (wsV RL 107 RX8 yX8_blocks wsX8_blocks) := gq_mk (fun w h => (List.mem_append.mp h).elim ((List.forall_mem_cons.mpr ⟨mw_659, List.forall_mem_cons.mpr ⟨mw_660, List.forall_mem_cons.mpr ⟨mw_661, List.forall_mem_cons.mpr ⟨mw_5, fun _ h => absurd h List.not_mem_nil⟩⟩⟩⟩) w) (q_wsX8_blocks w)) (by decide +kernel)
set_option maxRecDepth 20000 in
theorem gq_X7_count : GoodIn lw_tbl (wsV RL 108 RX7 yX7_count wsX7_count) := gq_mk (fun w h => (List.mem_append.mp h).elim ((List.forall_mem_cons.mpr ⟨mw_671, List.forall_mem_cons.mpr ⟨mw_672, List.forall_mem_cons.mpr ⟨mw_673, List.forall_mem_cons.mpr ⟨mw_2, fun _ h => absurd h List.not_mem_nil⟩⟩⟩⟩) w) (q_wsX7_count w)) (by decide +kernel)
set_option maxRecDepth 20000 in
theorem gq_X8_count : GoodIn lw_tbl (wsV RL 111 RX8 yX8_count wsX8_count) := gq_mk (fun w h => (List.mem_append.mp h).elim ((List.forall_mem_cons.mpr ⟨mw_675, List.forall_mem_cons.mpr ⟨mw_676, List.forall_mem_cons.mpr ⟨mw_677, List.forall_mem_cons.mpr ⟨mw_5, fun _ h => absurd h List.not_mem_nil⟩⟩⟩⟩) w) (q_wsX8_count w)) (by decide +kernel)
