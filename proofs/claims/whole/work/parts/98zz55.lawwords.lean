def wsL_law0_r1 : List Cond := [Cond.classLink RL 8 RX7, Cond.instantiable RX7 15, Cond.initialized RX7, Cond.classLink RL 57 RX8, Cond.instantiable RX8 21, Cond.initialized RX8, Cond.arrayClass .long, Cond.methodLink RL 56 yX7_init, Cond.instanceMethod yX7_init, Cond.code yX7_init cX7_init 2 none, Cond.methodLink RX7 3 objectInit, Cond.instanceMethod objectInit, Cond.code objectInit ⟨#[0xb1]⟩ 1 none, Cond.classLink RX7 9 RX2, Cond.instantiable RX2 1, Cond.initialized RX2, Cond.fieldLink RX7 14 "NormalForms" "entries" "LNormalForms$Matrix;", Cond.classLink RX7 18 RX3, Cond.instantiable RX3 5, Cond.initialized RX3, Cond.fieldLink RX7 21 "NormalForms" "minors" "LNormalForms$Minors;", Cond.fieldLink RX7 25 "NormalForms" "xLessNumbers" "LNormalForms$Matrix;", Cond.fieldLink RX7 28 "NormalForms" "numbersMinors" "LNormalForms$Minors;", Cond.classLink RX7 31 RX5]
def wsL_law0_r2 : List Cond := [Cond.instantiable RX5 9, Cond.initialized RX5, Cond.fieldLink RX7 34 "NormalForms" "roots" "LNormalForms$Roots;", Cond.classLink RX7 38 RX1, Cond.instantiable RX1 4, Cond.initialized RX1, Cond.fieldLink RX7 41 "NormalForms" "echelon" "LNormalForms$Echelon;", Cond.fieldLink RX7 45 "NormalForms" "forms" "[LNormalForms$Matrix;", Cond.arrayClass .boolean, Cond.fieldLink RX7 49 "NormalForms" "formThere" "[Z", Cond.classLink RX7 53 RX0, Cond.instantiable RX0 3, Cond.initialized RX0, Cond.fieldLink RX7 56 "NormalForms" "divider" "LNormalForms$Divider;", Cond.classLink RX7 60 RX4, Cond.instantiable RX4 2, Cond.initialized RX4, Cond.fieldLink RX7 63 "NormalForms" "linear" "LNormalForms$Polynomial;", Cond.methodLink RX7 11 yX2_init, Cond.instanceMethod yX2_init, Cond.code yX2_init cX2_init 3 none, Cond.methodLink RX2 3 objectInit, Cond.classLink RX2 9 RX6, Cond.fieldLink RX2 11 "NormalForms$Matrix" "rows" "[LNormalForms$Row;"]
def wsL_law0_r3 : List Cond := [Cond.instantiable RX6 1, Cond.initialized RX6, Cond.methodLink RX2 17 yX6_init, Cond.instanceMethod yX6_init, Cond.code yX6_init cX6_init 3 none, Cond.methodLink RX6 3 objectInit, Cond.classLink RX6 9 RX4, Cond.fieldLink RX6 11 "NormalForms$Row" "cells" "[LNormalForms$Polynomial;", Cond.methodLink RX6 17 yX4_init, Cond.instanceMethod yX4_init, Cond.code yX4_init cX4_init 2 none, Cond.methodLink RX4 3 objectInit, Cond.arrayClass .int, Cond.fieldLink RX4 9 "NormalForms$Polynomial" "numbers" "[I", Cond.fieldLink RX4 15 "NormalForms$Polynomial" "degree" "I", Cond.methodLink RX7 20 yX3_init, Cond.instanceMethod yX3_init, Cond.code yX3_init cX3_init 5 none, Cond.methodLink RX3 3 objectInit, Cond.classLink RX3 9 RX4, Cond.fieldLink RX3 11 "NormalForms$Minors" "minors" "[LNormalForms$Polynomial;", Cond.fieldLink RX3 26 "NormalForms$Minors" "divisors" "[LNormalForms$Polynomial;", Cond.fieldLink RX3 29 "NormalForms$Minors" "invariants" "[LNormalForms$Polynomial;", Cond.classLink RX3 32 RX0]
def wsL_law0_r4 : List Cond := [Cond.fieldLink RX3 35 "NormalForms$Minors" "divider" "LNormalForms$Divider;", Cond.fieldLink RX3 39 "NormalForms$Minors" "order" "I", Cond.methodLink RX3 17 yX4_init, Cond.methodLink RX3 20 yJ6_bitCount_0f7a4, Cond.static yJ6_bitCount_0f7a4, Cond.initialized RJ6, Cond.code yJ6_bitCount_0f7a4 cJ6_bitCount_0f7a4 1 (some .int), Cond.constant RJ6 265 (1431655765), Cond.constant RJ6 266 (858993459), Cond.constant RJ6 267 (252645135), Cond.methodLink RX3 34 yX0_init, Cond.instanceMethod yX0_init, Cond.code yX0_init cX0_init 1 none, Cond.methodLink RX0 3 objectInit, Cond.classLink RX0 9 RX4, Cond.fieldLink RX0 14 "NormalForms$Divider" "left" "LNormalForms$Polynomial;", Cond.fieldLink RX0 20 "NormalForms$Divider" "right" "LNormalForms$Polynomial;", Cond.fieldLink RX0 23 "NormalForms$Divider" "quotient" "LNormalForms$Polynomial;", Cond.methodLink RX0 11 yX4_init, Cond.methodLink RX7 33 yX5_init, Cond.instanceMethod yX5_init, Cond.code yX5_init cX5_init 2 none, Cond.methodLink RX5 3 objectInit, Cond.fieldLink RX5 9 "NormalForms$Roots" "values" "[I"]
def wsL_law0_r5 : List Cond := [Cond.classLink RX5 15 RX4, Cond.fieldLink RX5 17 "NormalForms$Roots" "parts" "[LNormalForms$Polynomial;", Cond.fieldLink RX5 24 "NormalForms$Roots" "base" "LNormalForms$Polynomial;", Cond.fieldLink RX5 28 "NormalForms$Roots" "power" "LNormalForms$Polynomial;", Cond.fieldLink RX5 31 "NormalForms$Roots" "product" "LNormalForms$Polynomial;", Cond.fieldLink RX5 34 "NormalForms$Roots" "quotient" "LNormalForms$Polynomial;", Cond.classLink RX5 37 RX0, Cond.fieldLink RX5 40 "NormalForms$Roots" "divider" "LNormalForms$Divider;", Cond.methodLink RX5 21 yX4_init, Cond.methodLink RX5 39 yX0_init, Cond.methodLink RX7 40 yX1_init, Cond.instanceMethod yX1_init, Cond.code yX1_init cX1_init 2 none, Cond.methodLink RX1 3 objectInit, Cond.classLink RX1 9 RX6, Cond.fieldLink RX1 11 "NormalForms$Echelon" "slots" "[LNormalForms$Row;", Cond.fieldLink RX1 20 "NormalForms$Echelon" "slotFull" "[Z", Cond.classLink RX1 24 RX4, Cond.fieldLink RX1 27 "NormalForms$Echelon" "quotient" "LNormalForms$Polynomial;", Cond.fieldLink RX1 31 "NormalForms$Echelon" "incoming" "LNormalForms$Row;", Cond.methodLink RX1 17 yX6_init, Cond.methodLink RX1 26 yX4_init, Cond.methodLink RX7 55 yX0_init, Cond.methodLink RX7 62 yX4_init]
def wsL_law0_r6 : List Cond := [Cond.methodLink RL 59 yX8_init, Cond.instanceMethod yX8_init, Cond.code yX8_init cX8_init 1 none, Cond.methodLink RX8 1 objectInit, Cond.fieldLink RX8 7 "NormalFormsModel" "entries" "[I", Cond.fieldLink RX8 13 "NormalFormsModel" "there" "[Z", Cond.fieldLink RX8 17 "NormalFormsModel" "forms" "[I", Cond.fieldLink RX8 20 "NormalFormsModel" "minors" "[I", Cond.fieldLink RX8 23 "NormalFormsModel" "work" "[I", Cond.fieldLink RX8 26 "NormalFormsModel" "made" "[I", Cond.fieldLink RX8 29 "NormalFormsModel" "pivot" "[I", Cond.fieldLink RX8 32 "NormalFormsModel" "a" "[I", Cond.fieldLink RX8 35 "NormalFormsModel" "b" "[I", Cond.fieldLink RX8 38 "NormalFormsModel" "c" "[I", Cond.fieldLink RX8 41 "NormalFormsModel" "before" "[I", Cond.fieldLink RX8 44 "NormalFormsModel" "powers" "[I", Cond.fieldLink RX8 47 "NormalFormsModel" "relation" "[I", Cond.fieldLink RX8 50 "NormalFormsModel" "row" "[I", Cond.fieldLink RX8 53 "NormalFormsModel" "mine" "[I", Cond.fieldLink RX8 56 "NormalFormsModel" "cleared" "[I", Cond.fieldLink RX8 59 "NormalFormsModel" "raised" "[I", Cond.fieldLink RX8 62 "NormalFormsModel" "next" "[I", Cond.methodLink RL 60 yL_size, Cond.static yL_size]
def wsL_law0_r7 : List Cond := [Cond.initialized RL, Cond.codeWith yL_size cL_size 4 (some .int) [(0, 6, 9, 13), (0, 6, 12, 15)], Cond.classLink RL 13 "java/lang/NegativeArraySizeException", Cond.classLink RL 15 "java/lang/IllegalArgumentException", Cond.methodLink RL 7 yX7_size, Cond.instanceMethod yX7_size, Cond.selects RX7 yX7_size yX7_size, Cond.code yX7_size cX7_size 3 none, Cond.classLink RX7 74 "java/lang/IllegalArgumentException", Cond.initialized "java/lang/IllegalArgumentException", Cond.classLink RX7 67 RJxde1cd, Cond.instantiable RJxde1cd 6, Cond.initialized RJxde1cd, Cond.fieldLink RX7 79 "NormalForms" "rowCount" "I", Cond.fieldLink RX7 83 "NormalForms" "columnCount" "I", Cond.methodLink RX7 86 yX2_clear, Cond.instanceMethod yX2_clear, Cond.selects RX2 yX2_clear yX2_clear, Cond.code yX2_clear cX2_clear 2 none, Cond.methodLink RX2 20 yX6_clear, Cond.instanceMethod yX6_clear, Cond.selects RX6 yX6_clear yX6_clear, Cond.code yX6_clear cX6_clear 2 none, Cond.methodLink RX6 20 yX4_clear]
def wsL_law0_r8 : List Cond := [Cond.instanceMethod yX4_clear, Cond.selects RX4 yX4_clear yX4_clear, Cond.code yX4_clear cX4_clear 2 none, Cond.methodLink RX7 89 yX7_forgetEntries, Cond.instanceMethod yX7_forgetEntries, Cond.selects RX7 yX7_forgetEntries yX7_forgetEntries, Cond.code yX7_forgetEntries cX7_forgetEntries 2 none, Cond.fieldLink RX7 201 "NormalForms" "minorsKnown" "Z", Cond.methodLink RX7 92 yX7_forgetNumbers, Cond.instanceMethod yX7_forgetNumbers, Cond.selects RX7 yX7_forgetNumbers yX7_forgetNumbers, Cond.code yX7_forgetNumbers cX7_forgetNumbers 1 none, Cond.fieldLink RX7 205 "NormalForms" "numbersMinorsKnown" "Z", Cond.fieldLink RX7 208 "NormalForms" "rootsKnown" "Z", Cond.methodLink RL 65 yX8_size, Cond.instanceMethod yX8_size, Cond.selects RX8 yX8_size yX8_size, Cond.code yX8_size cX8_size 4 none, Cond.fieldLink RX8 65 "NormalFormsModel" "code" "I", Cond.fieldLink RX8 71 "NormalFormsModel" "rows" "I", Cond.fieldLink RX8 74 "NormalFormsModel" "columns" "I", Cond.methodLink RL 66 yX8_thrown, Cond.instanceMethod yX8_thrown, Cond.selects RX8 yX8_thrown yX8_thrown]
def wsL_law0_r9 : List Cond := [Cond.code yX8_thrown cX8_thrown 1 (some .int), Cond.methodLink RL 70 yL_put, Cond.static yL_put, Cond.codeWith yL_put cL_put 7 (some .int) [(0, 21, 24, 21)], Cond.methodLink RL 17 yX7_put, Cond.instanceMethod yX7_put, Cond.selects RX7 yX7_put yX7_put, Cond.code yX7_put cX7_put 7 (some .boolean), Cond.methodLink RX7 95 yX7_needEntry, Cond.instanceMethod yX7_needEntry, Cond.selects RX7 yX7_needEntry yX7_needEntry, Cond.code yX7_needEntry cX7_needEntry 4 none, Cond.classLink RX7 185 RJx00060, Cond.instantiable RJx00060 6, Cond.initialized RJx00060, Cond.methodLink RX7 182 yX7_needCell, Cond.instanceMethod yX7_needCell, Cond.selects RX7 yX7_needCell yX7_needCell, Cond.code yX7_needCell cX7_needCell 3 none, Cond.methodLink RX7 99 yX2_cell, Cond.instanceMethod yX2_cell, Cond.selects RX2 yX2_cell yX2_cell, Cond.code yX2_cell cX2_cell 3 (some (.object "NormalForms$Polynomial")), Cond.methodLink RX7 103 yJ9_floorMod_7cf53]
def wsL_law0_r10 : List Cond := [Cond.static yJ9_floorMod_7cf53, Cond.initialized RJ9, Cond.code yJ9_floorMod_7cf53 cJ9_floorMod_7cf53 3 (some .int), Cond.methodLink RX7 109 yX4_numberAt, Cond.instanceMethod yX4_numberAt, Cond.selects RX4 yX4_numberAt yX4_numberAt, Cond.code yX4_numberAt cX4_numberAt 2 (some .int), Cond.methodLink RX7 113 yX4_setNumber, Cond.instanceMethod yX4_setNumber, Cond.selects RX4 yX4_setNumber yX4_setNumber, Cond.code yX4_setNumber cX4_setNumber 3 none, Cond.methodLink RX4 19 Lib.Math.max.name, Cond.static Lib.Math.max.name, Cond.initialized "java/lang/Math", Cond.code Lib.Math.max.name Lib.Math.max.code 2 (some .int), Cond.methodLink RX4 25 yX4_findDegree, Cond.instanceMethod yX4_findDegree, Cond.selects RX4 yX4_findDegree yX4_findDegree, Cond.code yX4_findDegree cX4_findDegree 2 none, Cond.methodLink RL 73 yX8_put, Cond.instanceMethod yX8_put, Cond.selects RX8 yX8_put yX8_put, Cond.code yX8_put cX8_put 7 (some .boolean), Cond.methodLink RX8 83 yX8_isPlace]
def wsL_law0_r11 : List Cond := [Cond.instanceMethod yX8_isPlace, Cond.selects RX8 yX8_isPlace yX8_isPlace, Cond.code yX8_isPlace cX8_isPlace 4 (some .boolean), Cond.constantLong RX8 81 (3), Cond.methodLink RX8 77 yX8_in, Cond.static yX8_in, Cond.code yX8_in cX8_in 6 (some .boolean), Cond.methodLink RX8 87 yX8_modulo, Cond.static yX8_modulo, Cond.code yX8_modulo cX8_modulo 4 (some .int), Cond.constantLong RX8 69 (32003), Cond.methodLink RL 74 yL_entry, Cond.static yL_entry, Cond.codeWith yL_entry cL_entry 6 (some .int) [(0, 12, 15, 21)], Cond.methodLink RL 23 yX7_entry, Cond.instanceMethod yX7_entry, Cond.selects RX7 yX7_entry yX7_entry, Cond.code yX7_entry cX7_entry 4 (some .int), Cond.methodLink RL 77 yX8_entry, Cond.instanceMethod yX8_entry, Cond.selects RX8 yX8_entry yX8_entry, Cond.code yX8_entry cX8_entry 4 (some .int), Cond.methodLink RL 78 yL_make, Cond.static yL_make]
def wsL_law0_r12 : List Cond := [Cond.codeWith yL_make cL_make 4 (some .int) [(0, 9, 12, 15)], Cond.methodLink RL 27 yX7_make, Cond.instanceMethod yX7_make, Cond.selects RX7 yX7_make yX7_make, Cond.code yX7_make cX7_make 2 (some .int), Cond.methodLink RX7 117 yX7_needForm, Cond.instanceMethod yX7_needForm, Cond.selects RX7 yX7_needForm yX7_needForm, Cond.code yX7_needForm cX7_needForm 2 none, Cond.methodLink RX7 120 yX7_knowMinors, Cond.instanceMethod yX7_knowMinors, Cond.selects RX7 yX7_knowMinors yX7_knowMinors, Cond.code yX7_knowMinors cX7_knowMinors 1 none, Cond.methodLink RX7 211 yX3_reckon, Cond.instanceMethod yX3_reckon, Cond.selects RX3 yX3_reckon yX3_reckon, Cond.code yX3_reckon cX3_reckon 5 none, Cond.methodLink RX3 43 yX3_of, Cond.instanceMethod yX3_of, Cond.selects RX3 yX3_of yX3_of, Cond.code yX3_of cX3_of 3 (some (.object "NormalForms$Polynomial")), Cond.methodLink RX3 47 yX4_setNumber, Cond.methodLink RX3 51 yX4_clear, Cond.methodLink RX3 54 yX3_expand]
def wsL_law0_r13 : List Cond := [Cond.instanceMethod yX3_expand, Cond.selects RX3 yX3_expand yX3_expand, Cond.code yX3_expand cX3_expand 9 none, Cond.methodLink RX3 65 yX3_lowestIn, Cond.static yX3_lowestIn, Cond.code yX3_lowestIn cX3_lowestIn 2 (some .int), Cond.methodLink RX3 68 yX2_cell, Cond.methodLink RX3 73 yX4_addProduct, Cond.instanceMethod yX4_addProduct, Cond.selects RX4 yX4_addProduct yX4_addProduct, Cond.code yX4_addProduct cX4_addProduct 8 none, Cond.methodLink RX4 32 Lib.Math.min.name, Cond.static Lib.Math.min.name, Cond.code Lib.Math.min.name Lib.Math.min.code 2 (some .int), Cond.methodLink RX3 58 yX0_shrinkToCommon, Cond.instanceMethod yX0_shrinkToCommon, Cond.selects RX0 yX0_shrinkToCommon yX0_shrinkToCommon, Cond.code yX0_shrinkToCommon cX0_shrinkToCommon 7 none, Cond.methodLink RX0 26 yX4_copyFrom, Cond.instanceMethod yX4_copyFrom, Cond.selects RX4 yX4_copyFrom yX4_copyFrom, Cond.code yX4_copyFrom cX4_copyFrom 4 none, Cond.methodLink RX4 29 yX4_clear, Cond.methodLink RX0 34 yX4_divideBy]
def wsL_law0_r14 : List Cond := [Cond.instanceMethod yX4_divideBy, Cond.selects RX4 yX4_divideBy yX4_divideBy, Cond.code yX4_divideBy cX4_divideBy 9 none, Cond.static yX7_inverseOf, Cond.code yX7_inverseOf cX7_inverseOf 4 (some .int), Cond.methodLink RX0 38 yX4_makeMonic, Cond.instanceMethod yX4_makeMonic, Cond.selects RX4 yX4_makeMonic yX4_makeMonic, Cond.code yX4_makeMonic cX4_makeMonic 1 none, Cond.methodLink RX4 39 yX4_multiply, Cond.instanceMethod yX4_multiply, Cond.selects RX4 yX4_multiply yX4_multiply, Cond.code yX4_multiply cX4_multiply 3 none, Cond.methodLink RX3 62 yX3_findInvariants, Cond.instanceMethod yX3_findInvariants, Cond.selects RX3 yX3_findInvariants yX3_findInvariants, Cond.code yX3_findInvariants cX3_findInvariants 2 none, Cond.methodLink RX3 80 yX0_writeQuotient, Cond.instanceMethod yX0_writeQuotient, Cond.selects RX0 yX0_writeQuotient yX0_writeQuotient, Cond.code yX0_writeQuotient cX0_writeQuotient 4 none, Cond.methodLink RX7 123 yX7_makeInverse, Cond.instanceMethod yX7_makeInverse, Cond.selects RX7 yX7_makeInverse yX7_makeInverse]
def wsL_law0_r15 : List Cond := [Cond.code yX7_makeInverse cX7_makeInverse 8 (some .int), Cond.methodLink RX7 150 yX3_leading, Cond.instanceMethod yX3_leading, Cond.selects RX3 yX3_leading yX3_leading, Cond.code yX3_leading cX3_leading 3 (some (.object "NormalForms$Polynomial")), Cond.methodLink RX7 218 yX7_inverseOf, Cond.methodLink RX7 221 yX3_of, Cond.methodLink RX7 215 yX4_copyFrom, Cond.methodLink RX7 175 yX7_negative, Cond.static yX7_negative, Cond.code yX7_negative cX7_negative 1 (some .int), Cond.methodLink RX7 224 yX4_multiply, Cond.methodLink RX7 127 yX1_reckon, Cond.instanceMethod yX1_reckon, Cond.selects RX1 yX1_reckon yX1_reckon, Cond.code yX1_reckon cX1_reckon 3 none, Cond.methodLink RX1 40 yX6_copyFrom, Cond.instanceMethod yX6_copyFrom, Cond.selects RX6 yX6_copyFrom yX6_copyFrom, Cond.code yX6_copyFrom cX6_copyFrom 3 none, Cond.methodLink RX6 23 yX4_copyFrom, Cond.methodLink RX1 44 yX1_insert, Cond.instanceMethod yX1_insert, Cond.selects RX1 yX1_insert yX1_insert]
def wsL_law0_r16 : List Cond := [Cond.code yX1_insert cX1_insert 3 none, Cond.methodLink RX1 61 yX1_exchange, Cond.instanceMethod yX1_exchange, Cond.selects RX1 yX1_exchange yX1_exchange, Cond.code yX1_exchange cX1_exchange 3 none, Cond.methodLink RX1 64 yX6_lowerBy, Cond.instanceMethod yX6_lowerBy, Cond.selects RX6 yX6_lowerBy yX6_lowerBy, Cond.code yX6_lowerBy cX6_lowerBy 5 none, Cond.methodLink RX6 27 yX4_divideBy, Cond.methodLink RX6 31 yX4_addProduct, Cond.methodLink RX1 47 yX1_reduce, Cond.instanceMethod yX1_reduce, Cond.selects RX1 yX1_reduce yX1_reduce, Cond.code yX1_reduce cX1_reduce 3 none, Cond.methodLink RX1 68 yX6_makeMonicAt, Cond.instanceMethod yX6_makeMonicAt, Cond.selects RX6 yX6_makeMonicAt yX6_makeMonicAt, Cond.code yX6_makeMonicAt cX6_makeMonicAt 5 none, Cond.methodLink RX6 39 yX4_numberAt, Cond.methodLink RX6 46 yX4_multiply, Cond.methodLink RX7 131 yX1_writeTo, Cond.instanceMethod yX1_writeTo, Cond.selects RX1 yX1_writeTo yX1_writeTo]
def wsL_law0_r17 : List Cond := [Cond.code yX1_writeTo cX1_writeTo 4 none, Cond.methodLink RX1 50 yX2_clear, Cond.methodLink RX7 134 yX7_makeSmith, Cond.instanceMethod yX7_makeSmith, Cond.selects RX7 yX7_makeSmith yX7_makeSmith, Cond.code yX7_makeSmith cX7_makeSmith 3 none, Cond.methodLink RL 81 yX8_make, Cond.instanceMethod yX8_make, Cond.selects RX8 yX8_make yX8_make, Cond.code yX8_make cX8_make 2 (some .int), Cond.constantLong RX8 140 (2), Cond.methodLink RX8 106 yX8_loadEntries, Cond.instanceMethod yX8_loadEntries, Cond.selects RX8 yX8_loadEntries yX8_loadEntries, Cond.code yX8_loadEntries cX8_loadEntries 2 none, Cond.methodLink RX8 99 yX8_findMinors, Cond.instanceMethod yX8_findMinors, Cond.selects RX8 yX8_findMinors yX8_findMinors, Cond.code yX8_findMinors cX8_findMinors 3 none, Cond.methodLink RX8 91 yX8_bits, Cond.static yX8_bits, Cond.code yX8_bits cX8_bits 1 (some .int), Cond.methodLink RX8 95 yX8_findMinor, Cond.instanceMethod yX8_findMinor]
def wsL_law0_r18 : List Cond := [Cond.selects RX8 yX8_findMinor yX8_findMinor, Cond.code yX8_findMinor cX8_findMinor 13 none, Cond.methodLink RX8 142 yX8_clearForm, Cond.instanceMethod yX8_clearForm, Cond.selects RX8 yX8_clearForm yX8_clearForm, Cond.code yX8_clearForm cX8_clearForm 3 none, Cond.methodLink RX8 146 yX8_makeHermite, Cond.instanceMethod yX8_makeHermite, Cond.selects RX8 yX8_makeHermite yX8_makeHermite, Cond.code yX8_makeHermite cX8_makeHermite 4 none, Cond.methodLink RX8 129 yX8_empty, Cond.static yX8_empty, Cond.code yX8_empty cX8_empty 2 none, Cond.methodLink RX8 181 yX8_give, Cond.instanceMethod yX8_give, Cond.selects RX8 yX8_give yX8_give, Cond.code yX8_give cX8_give 5 none, Cond.methodLink RX8 184 yX8_insert, Cond.instanceMethod yX8_insert, Cond.selects RX8 yX8_insert yX8_insert, Cond.code yX8_insert cX8_insert 3 none, Cond.methodLink RX8 166 yX8_isNone, Cond.instanceMethod yX8_isNone, Cond.selects RX8 yX8_isNone yX8_isNone]
def wsL_law0_r19 : List Cond := [Cond.code yX8_isNone cX8_isNone 3 (some .boolean), Cond.methodLink RX8 162 yX8_take, Cond.instanceMethod yX8_take, Cond.selects RX8 yX8_take yX8_take, Cond.code yX8_take cX8_take 5 none, Cond.methodLink RX8 122 yX8_high, Cond.static yX8_high, Cond.code yX8_high cX8_high 2 (some .int), Cond.methodLink RX8 169 yX8_exchange, Cond.instanceMethod yX8_exchange, Cond.selects RX8 yX8_exchange yX8_exchange, Cond.code yX8_exchange cX8_exchange 5 none, Cond.methodLink RX8 172 yX8_settle, Cond.instanceMethod yX8_settle, Cond.selects RX8 yX8_settle yX8_settle, Cond.code yX8_settle cX8_settle 5 none, Cond.methodLink RX8 126 yX8_inverse, Cond.static yX8_inverse, Cond.code yX8_inverse cX8_inverse 6 (some .int), Cond.methodLink RX8 178 yX8_lower, Cond.instanceMethod yX8_lower, Cond.selects RX8 yX8_lower yX8_lower, Cond.code yX8_lower cX8_lower 3 none, Cond.methodLink RX8 133 yX8_divide]
def wsL_law0_r20 : List Cond := [Cond.instanceMethod yX8_divide, Cond.selects RX8 yX8_divide yX8_divide, Cond.code yX8_divide cX8_divide 10 none, Cond.methodLink RX8 175 yX8_takeOff, Cond.instanceMethod yX8_takeOff, Cond.selects RX8 yX8_takeOff yX8_takeOff, Cond.code yX8_takeOff cX8_takeOff 11 none, Cond.methodLink RX8 158 yX8_put0, Cond.instanceMethod yX8_put0, Cond.selects RX8 yX8_put0 yX8_put0, Cond.code yX8_put0 cX8_put0 6 none, Cond.methodLink RX8 149 yX8_makeSmith, Cond.instanceMethod yX8_makeSmith, Cond.selects RX8 yX8_makeSmith yX8_makeSmith, Cond.code yX8_makeSmith cX8_makeSmith 6 none, Cond.methodLink RX8 109 yX8_rankNow, Cond.instanceMethod yX8_rankNow, Cond.selects RX8 yX8_rankNow yX8_rankNow, Cond.code yX8_rankNow cX8_rankNow 4 (some .int), Cond.methodLink RX8 102 yX8_isMinor, Cond.instanceMethod yX8_isMinor, Cond.selects RX8 yX8_isMinor yX8_isMinor, Cond.code yX8_isMinor cX8_isMinor 5 (some .boolean), Cond.methodLink RX8 155 yX8_common]
def wsL_law0_r21 : List Cond := [Cond.instanceMethod yX8_common, Cond.selects RX8 yX8_common yX8_common, Cond.code yX8_common cX8_common 3 none, Cond.methodLink RX8 137 yX8_makeMonic, Cond.static yX8_makeMonic, Cond.code yX8_makeMonic cX8_makeMonic 5 none, Cond.methodLink RX8 152 yX8_makeInverse, Cond.instanceMethod yX8_makeInverse, Cond.selects RX8 yX8_makeInverse yX8_makeInverse, Cond.code yX8_makeInverse cX8_makeInverse 10 (some .boolean), Cond.methodLink RX8 119 yX8_whole, Cond.instanceMethod yX8_whole, Cond.selects RX8 yX8_whole yX8_whole, Cond.code yX8_whole cX8_whole 2 (some .int), Cond.methodLink RL 82 yL_degree, Cond.static yL_degree, Cond.codeWith yL_degree cL_degree 6 (some .int) [(0, 12, 15, 15), (0, 12, 19, 34), (0, 12, 23, 21)], Cond.classLink RL 34 "java/lang/IllegalStateException", Cond.methodLink RL 31 yX7_degree, Cond.instanceMethod yX7_degree, Cond.selects RX7 yX7_degree yX7_degree, Cond.code yX7_degree cX7_degree 4 (some .int), Cond.methodLink RX7 140 yX7_formCell, Cond.instanceMethod yX7_formCell]
def wsL_law0_r22 : List Cond := [Cond.selects RX7 yX7_formCell yX7_formCell, Cond.code yX7_formCell cX7_formCell 4 (some (.object "NormalForms$Polynomial")), Cond.classLink RX7 194 "java/lang/IllegalStateException", Cond.initialized "java/lang/IllegalStateException", Cond.methodLink RL 84 yX8_degree, Cond.instanceMethod yX8_degree, Cond.selects RX8 yX8_degree yX8_degree, Cond.code yX8_degree cX8_degree 5 (some .int), Cond.methodLink RX8 187 yX8_isThere, Cond.instanceMethod yX8_isThere, Cond.selects RX8 yX8_isThere yX8_isThere, Cond.code yX8_isThere cX8_isThere 4 (some .boolean), Cond.methodLink RL 85 yL_at, Cond.static yL_at, Cond.codeWith yL_at cL_at 7 (some .int) [(0, 14, 17, 15), (0, 14, 21, 34), (0, 14, 25, 21)], Cond.methodLink RL 36 yX7_at, Cond.instanceMethod yX7_at, Cond.selects RX7 yX7_at yX7_at, Cond.code yX7_at cX7_at 5 (some .int), Cond.methodLink RL 87 yX8_at, Cond.instanceMethod yX8_at, Cond.selects RX8 yX8_at yX8_at, Cond.code yX8_at cX8_at 5 (some .int), Cond.constantLong RX8 190 (39)]
def wsL_law0_r23 : List Cond := [Cond.methodLink RL 88 yX7_rank, Cond.instanceMethod yX7_rank, Cond.selects RX7 yX7_rank yX7_rank, Cond.code yX7_rank cX7_rank 1 (some .int), Cond.methodLink RL 91 yX8_rank, Cond.instanceMethod yX8_rank, Cond.selects RX8 yX8_rank yX8_rank, Cond.code yX8_rank cX8_rank 1 (some .int), Cond.methodLink RL 92 yL_determinant, Cond.static yL_determinant, Cond.codeWith yL_determinant cL_determinant 4 (some .int) [(0, 9, 12, 34)], Cond.methodLink RL 40 yX7_determinant, Cond.instanceMethod yX7_determinant, Cond.selects RX7 yX7_determinant yX7_determinant, Cond.code yX7_determinant cX7_determinant 2 (some .int), Cond.methodLink RX7 147 yX7_needSquare, Cond.instanceMethod yX7_needSquare, Cond.selects RX7 yX7_needSquare yX7_needSquare, Cond.code yX7_needSquare cX7_needSquare 1 none, Cond.methodLink RL 94 yX8_determinant, Cond.instanceMethod yX8_determinant, Cond.selects RX8 yX8_determinant yX8_determinant, Cond.code yX8_determinant cX8_determinant 2 (some .int), Cond.constantLong RX8 117 (12)]
def wsL_law0_r24 : List Cond := [Cond.methodLink RX8 113 yX8_isSquare, Cond.instanceMethod yX8_isSquare, Cond.selects RX8 yX8_isSquare yX8_isSquare, Cond.code yX8_isSquare cX8_isSquare 1 (some .boolean), Cond.methodLink RL 95 yL_characteristic, Cond.static yL_characteristic, Cond.codeWith yL_characteristic cL_characteristic 4 (some .int) [(0, 9, 12, 34)], Cond.methodLink RL 43 yX7_characteristic, Cond.instanceMethod yX7_characteristic, Cond.selects RX7 yX7_characteristic yX7_characteristic, Cond.code yX7_characteristic cX7_characteristic 2 (some .int), Cond.methodLink RX7 154 yX7_knowNumbersMinors, Cond.instanceMethod yX7_knowNumbersMinors, Cond.selects RX7 yX7_knowNumbersMinors yX7_knowNumbersMinors, Cond.code yX7_knowNumbersMinors cX7_knowNumbersMinors 3 none, Cond.methodLink RL 97 yX8_characteristic, Cond.instanceMethod yX8_characteristic, Cond.selects RX8 yX8_characteristic yX8_characteristic, Cond.code yX8_characteristic cX8_characteristic 2 (some .int), Cond.methodLink RX8 192 yX8_loadNumbers, Cond.instanceMethod yX8_loadNumbers, Cond.selects RX8 yX8_loadNumbers yX8_loadNumbers, Cond.code yX8_loadNumbers cX8_loadNumbers 3 none, Cond.methodLink RL 98 yL_minimal]
def wsL_law0_r25 : List Cond := [Cond.static yL_minimal, Cond.codeWith yL_minimal cL_minimal 4 (some .int) [(0, 9, 12, 34)], Cond.methodLink RL 46 yX7_minimal, Cond.instanceMethod yX7_minimal, Cond.selects RX7 yX7_minimal yX7_minimal, Cond.code yX7_minimal cX7_minimal 2 (some .int), Cond.methodLink RL 100 yX8_minimal, Cond.instanceMethod yX8_minimal, Cond.selects RX8 yX8_minimal yX8_minimal, Cond.code yX8_minimal cX8_minimal 3 (some .int), Cond.methodLink RX8 206 yX8_findLeast, Cond.instanceMethod yX8_findLeast, Cond.selects RX8 yX8_findLeast yX8_findLeast, Cond.code yX8_findLeast cX8_findLeast 6 (some .int), Cond.methodLink RX8 195 yX8_timesNumbers, Cond.instanceMethod yX8_timesNumbers, Cond.selects RX8 yX8_timesNumbers yX8_timesNumbers, Cond.code yX8_timesNumbers cX8_timesNumbers 7 (some .int), Cond.methodLink RX8 202 yX8_numberAt, Cond.instanceMethod yX8_numberAt, Cond.selects RX8 yX8_numberAt yX8_numberAt, Cond.code yX8_numberAt cX8_numberAt 3 (some .int), Cond.methodLink RX8 199 yX8_clearBy, Cond.instanceMethod yX8_clearBy]
def wsL_law0_r26 : List Cond := [Cond.selects RX8 yX8_clearBy yX8_clearBy, Cond.code yX8_clearBy cX8_clearBy 6 none, Cond.methodLink RL 101 yL_root, Cond.static yL_root, Cond.codeWith yL_root cL_root 4 (some .int) [(0, 9, 12, 34)], Cond.methodLink RL 49 yX7_root, Cond.instanceMethod yX7_root, Cond.selects RX7 yX7_root yX7_root, Cond.code yX7_root cX7_root 2 (some .int), Cond.methodLink RX7 161 yX7_knowRoots, Cond.instanceMethod yX7_knowRoots, Cond.selects RX7 yX7_knowRoots yX7_knowRoots, Cond.code yX7_knowRoots cX7_knowRoots 1 none, Cond.methodLink RX7 212 yX5_reckon, Cond.instanceMethod yX5_reckon, Cond.selects RX5 yX5_reckon yX5_reckon, Cond.code yX5_reckon cX5_reckon 5 none, Cond.fieldLink RX5 44 "NormalForms$Roots" "found" "I", Cond.fieldLink RX5 48 "NormalForms$Roots" "partCount" "I", Cond.methodLink RX5 54 yX5_raise, Cond.instanceMethod yX5_raise, Cond.selects RX5 yX5_raise yX5_raise, Cond.code yX5_raise cX5_raise 5 none, Cond.methodLink RX5 68 yX4_setNumber]
def wsL_law0_r27 : List Cond := [Cond.methodLink RX5 94 yX4_clear, Cond.methodLink RX5 97 yX4_addProduct, Cond.methodLink RX5 101 yX4_divideBy, Cond.methodLink RX5 72 yX4_copyFrom, Cond.methodLink RX5 58 yX4_numberAt, Cond.methodLink RX5 62 yJ9_floorMod_7cf53, Cond.methodLink RX5 76 yX0_shrinkToCommon, Cond.methodLink RX5 80 yX5_split, Cond.instanceMethod yX5_split, Cond.selects RX5 yX5_split yX5_split, Cond.code yX5_split cX5_split 3 none, Cond.methodLink RX5 90 yX0_writeQuotient, Cond.methodLink RX5 87 yX5_insert, Cond.instanceMethod yX5_insert, Cond.selects RX5 yX5_insert yX5_insert, Cond.code yX5_insert cX5_insert 3 none, Cond.methodLink RL 103 yX8_root, Cond.instanceMethod yX8_root, Cond.selects RX8 yX8_root yX8_root, Cond.code yX8_root cX8_root 2 (some .int), Cond.methodLink RX8 209 yX8_findRoot, Cond.instanceMethod yX8_findRoot, Cond.selects RX8 yX8_findRoot yX8_findRoot, Cond.code yX8_findRoot cX8_findRoot 8 (some .int)]
def wsL_law0_r28 : List Cond := [Cond.methodLink RL 104 yL_blocks, Cond.static yL_blocks, Cond.codeWith yL_blocks cL_blocks 5 (some .int) [(0, 10, 13, 34), (0, 10, 17, 15)], Cond.methodLink RL 52 yX7_blocks, Cond.instanceMethod yX7_blocks, Cond.selects RX7 yX7_blocks yX7_blocks, Cond.code yX7_blocks cX7_blocks 5 (some .int), Cond.methodLink RX7 178 yX0_howOften, Cond.instanceMethod yX0_howOften, Cond.selects RX0 yX0_howOften yX0_howOften, Cond.code yX0_howOften cX0_howOften 4 (some .int), Cond.methodLink RL 107 yX8_blocks, Cond.instanceMethod yX8_blocks, Cond.selects RX8 yX8_blocks yX8_blocks, Cond.code yX8_blocks cX8_blocks 4 (some .int), Cond.methodLink RX8 212 yX8_raise, Cond.instanceMethod yX8_raise, Cond.selects RX8 yX8_raise yX8_raise, Cond.code yX8_raise cX8_raise 2 (some .int), Cond.methodLink RX8 215 yX8_rankOf, Cond.instanceMethod yX8_rankOf, Cond.selects RX8 yX8_rankOf yX8_rankOf, Cond.code yX8_rankOf cX8_rankOf 8 (some .int), Cond.methodLink RL 108 yX7_count]
def wsL_law0_r29 : List Cond := [Cond.instanceMethod yX7_count, Cond.selects RX7 yX7_count yX7_count, Cond.code yX7_count cX7_count 4 (some .int), Cond.methodLink RL 111 yX8_count, Cond.instanceMethod yX8_count, Cond.selects RX8 yX8_count yX8_count, Cond.code yX8_count cX8_count 4 (some .int)]
def wsL_law0 : List Cond := (wsL_law0_r1 ++ (wsL_law0_r2 ++ (wsL_law0_r3 ++ (wsL_law0_r4 ++ (wsL_law0_r5 ++ (wsL_law0_r6 ++ (wsL_law0_r7 ++ (wsL_law0_r8 ++ (wsL_law0_r9 ++ (wsL_law0_r10 ++ (wsL_law0_r11 ++ (wsL_law0_r12 ++ (wsL_law0_r13 ++ (wsL_law0_r14 ++ (wsL_law0_r15 ++ (wsL_law0_r16 ++ (wsL_law0_r17 ++ (wsL_law0_r18 ++ (wsL_law0_r19 ++ (wsL_law0_r20 ++ (wsL_law0_r21 ++ (wsL_law0_r22 ++ (wsL_law0_r23 ++ (wsL_law0_r24 ++ (wsL_law0_r25 ++ (wsL_law0_r26 ++ (wsL_law0_r27 ++ (wsL_law0_r28 ++ wsL_law0_r29)))))))))))))))))))))))))))) ++ wsX70 ++ wsX80 ++ wsX20 ++ wsX30 ++ wsX50 ++ wsX10 ++ wsX00 ++ wsX40 ++ wsX60 ++ wsJxde1cd0 ++ wsJx000600 ++ ([] : List Cond)
def wsL_law : List Cond := wsL_law0 ++ (vx_atS RX7 78 "java/lang/IllegalArgumentException" ["java/lang/RuntimeException", "java/lang/Exception"]).filter goodWord ++ (vx_atS RX7 198 "java/lang/IllegalStateException" ["java/lang/RuntimeException", "java/lang/Exception"]).filter goodWord
set_option maxRecDepth 20000 in
theorem wi_wsL_law0_r1 : ∀ w ∈ wsL_law0_r1, w ∈ lw_tbl := by decide +kernel
set_option maxRecDepth 20000 in
theorem wi_wsL_law0_r2 : ∀ w ∈ wsL_law0_r2, w ∈ lw_tbl := by decide +kernel
set_option maxRecDepth 20000 in
theorem wi_wsL_law0_r3 : ∀ w ∈ wsL_law0_r3, w ∈ lw_tbl := by decide +kernel
set_option maxRecDepth 20000 in
theorem wi_wsL_law0_r4 : ∀ w ∈ wsL_law0_r4, w ∈ lw_tbl := by decide +kernel
set_option maxRecDepth 20000 in
theorem wi_wsL_law0_r5 : ∀ w ∈ wsL_law0_r5, w ∈ lw_tbl := by decide +kernel
set_option maxRecDepth 20000 in
theorem wi_wsL_law0_r6 : ∀ w ∈ wsL_law0_r6, w ∈ lw_tbl := by decide +kernel
set_option maxRecDepth 20000 in
theorem wi_wsL_law0_r7 : ∀ w ∈ wsL_law0_r7, w ∈ lw_tbl := by decide +kernel
set_option maxRecDepth 20000 in
theorem wi_wsL_law0_r8 : ∀ w ∈ wsL_law0_r8, w ∈ lw_tbl := by decide +kernel
set_option maxRecDepth 20000 in
theorem wi_wsL_law0_r9 : ∀ w ∈ wsL_law0_r9, w ∈ lw_tbl := by decide +kernel
set_option maxRecDepth 20000 in
theorem wi_wsL_law0_r10 : ∀ w ∈ wsL_law0_r10, w ∈ lw_tbl := by decide +kernel
set_option maxRecDepth 20000 in
theorem wi_wsL_law0_r11 : ∀ w ∈ wsL_law0_r11, w ∈ lw_tbl := by decide +kernel
set_option maxRecDepth 20000 in
theorem wi_wsL_law0_r12 : ∀ w ∈ wsL_law0_r12, w ∈ lw_tbl := by decide +kernel
set_option maxRecDepth 20000 in
theorem wi_wsL_law0_r13 : ∀ w ∈ wsL_law0_r13, w ∈ lw_tbl := by decide +kernel
set_option maxRecDepth 20000 in
theorem wi_wsL_law0_r14 : ∀ w ∈ wsL_law0_r14, w ∈ lw_tbl := by decide +kernel
set_option maxRecDepth 20000 in
theorem wi_wsL_law0_r15 : ∀ w ∈ wsL_law0_r15, w ∈ lw_tbl := by decide +kernel
set_option maxRecDepth 20000 in
theorem wi_wsL_law0_r16 : ∀ w ∈ wsL_law0_r16, w ∈ lw_tbl := by decide +kernel
set_option maxRecDepth 20000 in
theorem wi_wsL_law0_r17 : ∀ w ∈ wsL_law0_r17, w ∈ lw_tbl := by decide +kernel
set_option maxRecDepth 20000 in
theorem wi_wsL_law0_r18 : ∀ w ∈ wsL_law0_r18, w ∈ lw_tbl := by decide +kernel
set_option maxRecDepth 20000 in
theorem wi_wsL_law0_r19 : ∀ w ∈ wsL_law0_r19, w ∈ lw_tbl := by decide +kernel
set_option maxRecDepth 20000 in
theorem wi_wsL_law0_r20 : ∀ w ∈ wsL_law0_r20, w ∈ lw_tbl := by decide +kernel
set_option maxRecDepth 20000 in
theorem wi_wsL_law0_r21 : ∀ w ∈ wsL_law0_r21, w ∈ lw_tbl := by decide +kernel
set_option maxRecDepth 20000 in
theorem wi_wsL_law0_r22 : ∀ w ∈ wsL_law0_r22, w ∈ lw_tbl := by decide +kernel
set_option maxRecDepth 20000 in
theorem wi_wsL_law0_r23 : ∀ w ∈ wsL_law0_r23, w ∈ lw_tbl := by decide +kernel
set_option maxRecDepth 20000 in
theorem wi_wsL_law0_r24 : ∀ w ∈ wsL_law0_r24, w ∈ lw_tbl := by decide +kernel
set_option maxRecDepth 20000 in
theorem wi_wsL_law0_r25 : ∀ w ∈ wsL_law0_r25, w ∈ lw_tbl := by decide +kernel
set_option maxRecDepth 20000 in
theorem wi_wsL_law0_r26 : ∀ w ∈ wsL_law0_r26, w ∈ lw_tbl := by decide +kernel
set_option maxRecDepth 20000 in
theorem wi_wsL_law0_r27 : ∀ w ∈ wsL_law0_r27, w ∈ lw_tbl := by decide +kernel
set_option maxRecDepth 20000 in
theorem wi_wsL_law0_r28 : ∀ w ∈ wsL_law0_r28, w ∈ lw_tbl := by decide +kernel
set_option maxRecDepth 20000 in
theorem wi_wsL_law0_r29 : ∀ w ∈ wsL_law0_r29, w ∈ lw_tbl := by decide +kernel
set_option maxRecDepth 20000 in
theorem wi_wsX70 : ∀ w ∈ wsX70, w ∈ lw_tbl := by decide +kernel
set_option maxRecDepth 20000 in
theorem wi_wsX80 : ∀ w ∈ wsX80, w ∈ lw_tbl := by decide +kernel
set_option maxRecDepth 20000 in
theorem wi_wsX20 : ∀ w ∈ wsX20, w ∈ lw_tbl := by decide +kernel
set_option maxRecDepth 20000 in
theorem wi_wsX30 : ∀ w ∈ wsX30, w ∈ lw_tbl := by decide +kernel
set_option maxRecDepth 20000 in
theorem wi_wsX50 : ∀ w ∈ wsX50, w ∈ lw_tbl := by decide +kernel
set_option maxRecDepth 20000 in
theorem wi_wsX10 : ∀ w ∈ wsX10, w ∈ lw_tbl := by decide +kernel
set_option maxRecDepth 20000 in
theorem wi_wsX00 : ∀ w ∈ wsX00, w ∈ lw_tbl := by decide +kernel
set_option maxRecDepth 20000 in
theorem wi_wsX40 : ∀ w ∈ wsX40, w ∈ lw_tbl := by decide +kernel
set_option maxRecDepth 20000 in
theorem wi_wsX60 : ∀ w ∈ wsX60, w ∈ lw_tbl := by decide +kernel
set_option maxRecDepth 20000 in
theorem wi_wsJxde1cd0 : ∀ w ∈ wsJxde1cd0, w ∈ lw_tbl := by decide +kernel
set_option maxRecDepth 20000 in
theorem wi_wsJx000600 : ∀ w ∈ wsJx000600, w ∈ lw_tbl := by decide +kernel
theorem wsL_law_in0 : ∀ w ∈ wsL_law0, w ∈ lw_tbl := by
  intro w h
  unfold wsL_law0 at h
  rcases List.mem_append.mp h with h | h
  rotate_left
  · cases h
  rcases List.mem_append.mp h with h | h
  rotate_left
  · exact wi_wsJx000600 w h
  rcases List.mem_append.mp h with h | h
  rotate_left
  · exact wi_wsJxde1cd0 w h
  rcases List.mem_append.mp h with h | h
  rotate_left
  · exact wi_wsX60 w h
  rcases List.mem_append.mp h with h | h
  rotate_left
  · exact wi_wsX40 w h
  rcases List.mem_append.mp h with h | h
  rotate_left
  · exact wi_wsX00 w h
  rcases List.mem_append.mp h with h | h
  rotate_left
  · exact wi_wsX10 w h
  rcases List.mem_append.mp h with h | h
  rotate_left
  · exact wi_wsX50 w h
  rcases List.mem_append.mp h with h | h
  rotate_left
  · exact wi_wsX30 w h
  rcases List.mem_append.mp h with h | h
  rotate_left
  · exact wi_wsX20 w h
  rcases List.mem_append.mp h with h | h
  rotate_left
  · exact wi_wsX80 w h
  rcases List.mem_append.mp h with h | h
  rotate_left
  · exact wi_wsX70 w h
  rcases List.mem_append.mp h with h | h
  · exact wi_wsL_law0_r1 w h
  rcases List.mem_append.mp h with h | h
  · exact wi_wsL_law0_r2 w h
  rcases List.mem_append.mp h with h | h
  · exact wi_wsL_law0_r3 w h
  rcases List.mem_append.mp h with h | h
  · exact wi_wsL_law0_r4 w h
  rcases List.mem_append.mp h with h | h
  · exact wi_wsL_law0_r5 w h
  rcases List.mem_append.mp h with h | h
  · exact wi_wsL_law0_r6 w h
  rcases List.mem_append.mp h with h | h
  · exact wi_wsL_law0_r7 w h
  rcases List.mem_append.mp h with h | h
  · exact wi_wsL_law0_r8 w h
  rcases List.mem_append.mp h with h | h
  · exact wi_wsL_law0_r9 w h
  rcases List.mem_append.mp h with h | h
  · exact wi_wsL_law0_r10 w h
  rcases List.mem_append.mp h with h | h
  · exact wi_wsL_law0_r11 w h
  rcases List.mem_append.mp h with h | h
  · exact wi_wsL_law0_r12 w h
  rcases List.mem_append.mp h with h | h
  · exact wi_wsL_law0_r13 w h
  rcases List.mem_append.mp h with h | h
  · exact wi_wsL_law0_r14 w h
  rcases List.mem_append.mp h with h | h
  · exact wi_wsL_law0_r15 w h
  rcases List.mem_append.mp h with h | h
  · exact wi_wsL_law0_r16 w h
  rcases List.mem_append.mp h with h | h
  · exact wi_wsL_law0_r17 w h
  rcases List.mem_append.mp h with h | h
  · exact wi_wsL_law0_r18 w h
  rcases List.mem_append.mp h with h | h
  · exact wi_wsL_law0_r19 w h
  rcases List.mem_append.mp h with h | h
  · exact wi_wsL_law0_r20 w h
  rcases List.mem_append.mp h with h | h
  · exact wi_wsL_law0_r21 w h
  rcases List.mem_append.mp h with h | h
  · exact wi_wsL_law0_r22 w h
  rcases List.mem_append.mp h with h | h
  · exact wi_wsL_law0_r23 w h
  rcases List.mem_append.mp h with h | h
  · exact wi_wsL_law0_r24 w h
  rcases List.mem_append.mp h with h | h
  · exact wi_wsL_law0_r25 w h
  rcases List.mem_append.mp h with h | h
  · exact wi_wsL_law0_r26 w h
  rcases List.mem_append.mp h with h | h
  · exact wi_wsL_law0_r27 w h
  rcases List.mem_append.mp h with h | h
  · exact wi_wsL_law0_r28 w h
  exact wi_wsL_law0_r29 w h
set_option maxRecDepth 20000 in
theorem wsL_law_x0 : ∀ w ∈ (vx_atS RX7 78 "java/lang/IllegalArgumentException" ["java/lang/RuntimeException", "java/lang/Exception"]).filter goodWord, w ∈ lw_tbl := by decide +kernel
set_option maxRecDepth 20000 in
theorem wsL_law_x1 : ∀ w ∈ (vx_atS RX7 198 "java/lang/IllegalStateException" ["java/lang/RuntimeException", "java/lang/Exception"]).filter goodWord, w ∈ lw_tbl := by decide +kernel
set_option maxRecDepth 20000 in
theorem wsL_law_in : ∀ w ∈ wsL_law, w ∈ lw_tbl := fun w h => (List.mem_append.mp h).elim (fun h => (List.mem_append.mp h).elim (fun h => wsL_law_in0 w h) (fun h => wsL_law_x0 w h)) (fun h => wsL_law_x1 w h)
set_option maxRecDepth 20000 in
theorem inlX0 : ∀ w ∈ wsX00, w ∈ wsL_law := fun _ h => List.mem_append_left _ (List.mem_append_left _ (List.mem_append_left _ (List.mem_append_left _ (List.mem_append_left _ (List.mem_append_left _ (List.mem_append_left _ (List.mem_append_right _ h)))))))
set_option maxRecDepth 20000 in
theorem inX0 : ∀ w ∈ wsX00, w ∈ lw_tbl := fun w h => wsL_law_in w (inlX0 w h)
set_option maxRecDepth 20000 in
theorem inlX1 : ∀ w ∈ wsX10, w ∈ wsL_law := fun _ h => List.mem_append_left _ (List.mem_append_left _ (List.mem_append_left _ (List.mem_append_left _ (List.mem_append_left _ (List.mem_append_left _ (List.mem_append_left _ (List.mem_append_left _ (List.mem_append_right _ h))))))))
set_option maxRecDepth 20000 in
theorem inX1 : ∀ w ∈ wsX10, w ∈ lw_tbl := fun w h => wsL_law_in w (inlX1 w h)
set_option maxRecDepth 20000 in
theorem inlX2 : ∀ w ∈ wsX20, w ∈ wsL_law := fun _ h => List.mem_append_left _ (List.mem_append_left _ (List.mem_append_left _ (List.mem_append_left _ (List.mem_append_left _ (List.mem_append_left _ (List.mem_append_left _ (List.mem_append_left _ (List.mem_append_left _ (List.mem_append_left _ (List.mem_append_left _ (List.mem_append_right _ h)))))))))))
set_option maxRecDepth 20000 in
theorem inX2 : ∀ w ∈ wsX20, w ∈ lw_tbl := fun w h => wsL_law_in w (inlX2 w h)
set_option maxRecDepth 20000 in
theorem inlX3 : ∀ w ∈ wsX30, w ∈ wsL_law := fun _ h => List.mem_append_left _ (List.mem_append_left _ (List.mem_append_left _ (List.mem_append_left _ (List.mem_append_left _ (List.mem_append_left _ (List.mem_append_left _ (List.mem_append_left _ (List.mem_append_left _ (List.mem_append_left _ (List.mem_append_right _ h))))))))))
set_option maxRecDepth 20000 in
theorem inX3 : ∀ w ∈ wsX30, w ∈ lw_tbl := fun w h => wsL_law_in w (inlX3 w h)
set_option maxRecDepth 20000 in
theorem inlX4 : ∀ w ∈ wsX40, w ∈ wsL_law := fun _ h => List.mem_append_left _ (List.mem_append_left _ (List.mem_append_left _ (List.mem_append_left _ (List.mem_append_left _ (List.mem_append_left _ (List.mem_append_right _ h))))))
set_option maxRecDepth 20000 in
theorem inX4 : ∀ w ∈ wsX40, w ∈ lw_tbl := fun w h => wsL_law_in w (inlX4 w h)
set_option maxRecDepth 20000 in
theorem inlX5 : ∀ w ∈ wsX50, w ∈ wsL_law := fun _ h => List.mem_append_left _ (List.mem_append_left _ (List.mem_append_left _ (List.mem_append_left _ (List.mem_append_left _ (List.mem_append_left _ (List.mem_append_left _ (List.mem_append_left _ (List.mem_append_left _ (List.mem_append_right _ h)))))))))
set_option maxRecDepth 20000 in
theorem inX5 : ∀ w ∈ wsX50, w ∈ lw_tbl := fun w h => wsL_law_in w (inlX5 w h)
set_option maxRecDepth 20000 in
theorem inlX6 : ∀ w ∈ wsX60, w ∈ wsL_law := fun _ h => List.mem_append_left _ (List.mem_append_left _ (List.mem_append_left _ (List.mem_append_left _ (List.mem_append_left _ (List.mem_append_right _ h)))))
set_option maxRecDepth 20000 in
theorem inX6 : ∀ w ∈ wsX60, w ∈ lw_tbl := fun w h => wsL_law_in w (inlX6 w h)
set_option maxRecDepth 20000 in
theorem inlX7 : ∀ w ∈ wsX70, w ∈ wsL_law := fun _ h => List.mem_append_left _ (List.mem_append_left _ (List.mem_append_left _ (List.mem_append_left _ (List.mem_append_left _ (List.mem_append_left _ (List.mem_append_left _ (List.mem_append_left _ (List.mem_append_left _ (List.mem_append_left _ (List.mem_append_left _ (List.mem_append_left _ (List.mem_append_left _ (List.mem_append_right _ h)))))))))))))
set_option maxRecDepth 20000 in
theorem inX7 : ∀ w ∈ wsX70, w ∈ lw_tbl := fun w h => wsL_law_in w (inlX7 w h)
set_option maxRecDepth 20000 in
theorem inlX8 : ∀ w ∈ wsX80, w ∈ wsL_law := fun _ h => List.mem_append_left _ (List.mem_append_left _ (List.mem_append_left _ (List.mem_append_left _ (List.mem_append_left _ (List.mem_append_left _ (List.mem_append_left _ (List.mem_append_left _ (List.mem_append_left _ (List.mem_append_left _ (List.mem_append_left _ (List.mem_append_left _ (List.mem_append_right _ h))))))))))))
set_option maxRecDepth 20000 in
theorem inX8 : ∀ w ∈ wsX80, w ∈ lw_tbl := fun w h => wsL_law_in w (inlX8 w h)
set_option maxRecDepth 20000 in
theorem inlJx00060 : ∀ w ∈ wsJx000600, w ∈ wsL_law := fun _ h => List.mem_append_left _ (List.mem_append_left _ (List.mem_append_left _ (List.mem_append_right _ h)))
set_option maxRecDepth 20000 in
theorem inJx00060 : ∀ w ∈ wsJx000600, w ∈ lw_tbl := fun w h => wsL_law_in w (inlJx00060 w h)
set_option maxRecDepth 20000 in
theorem inJ6 : ∀ w ∈ wsJ60, w ∈ lw_tbl := by decide +kernel
set_option maxRecDepth 20000 in
theorem inJ9 : ∀ w ∈ wsJ90, w ∈ lw_tbl := by decide +kernel
set_option maxRecDepth 20000 in
theorem inlJxde1cd : ∀ w ∈ wsJxde1cd0, w ∈ wsL_law := fun _ h => List.mem_append_left _ (List.mem_append_left _ (List.mem_append_left _ (List.mem_append_left _ (List.mem_append_right _ h))))
set_option maxRecDepth 20000 in
theorem inJxde1cd : ∀ w ∈ wsJxde1cd0, w ∈ lw_tbl := fun w h => wsL_law_in w (inlJxde1cd w h)
set_option maxRecDepth 20000 in
theorem inJ0 : ∀ w ∈ wsJ00, w ∈ lw_tbl := by decide +kernel
