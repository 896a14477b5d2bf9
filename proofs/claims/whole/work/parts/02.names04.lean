def wsX8_round : List Cond := .code yX8_round cX8_round 5 (some .int) :: ((wsX8_round_r1 ++ (wsX8_round_r2 ++ wsX8_round_r3)) ++ wsX80)
def wsX8_page_r1 : List Cond := [Cond.fieldLink RX8 53 "RingPagesModel" "row" "[I", Cond.fieldLink RX8 19 "RingPagesModel" "now" "[I", Cond.fieldLink RX8 221 "RingPagesModel" "cuts" "I", Cond.methodLink RX8 233 yX8_splits, Cond.instanceMethod yX8_splits, Cond.selects RX8 yX8_splits yX8_splits, Cond.initialized RX8, Cond.code yX8_splits cX8_splits 8 none, Cond.fieldLink RX8 215 "RingPagesModel" "rows" "I", Cond.fieldLink RX8 16 "RingPagesModel" "price" "[I", Cond.methodLink RX8 218 yX8_ranks, Cond.instanceMethod yX8_ranks, Cond.selects RX8 yX8_ranks yX8_ranks, Cond.code yX8_ranks cX8_ranks 4 none, Cond.fieldLink RX8 76 "RingPagesModel" "cells" "I", Cond.fieldLink RX8 40 "RingPagesModel" "trees" "[J", Cond.methodLink RX8 173 yX8_whereIs, Cond.instanceMethod yX8_whereIs, Cond.selects RX8 yX8_whereIs yX8_whereIs, Cond.code yX8_whereIs cX8_whereIs 7 (some .int), Cond.fieldLink RX8 34 "RingPagesModel" "can" "[I", Cond.fieldLink RX8 37 "RingPagesModel" "next" "[I", Cond.methodLink RX8 170 yX8_allowed, Cond.instanceMethod yX8_allowed]
def wsX8_page_r2 : List Cond := [Cond.selects RX8 yX8_allowed yX8_allowed, Cond.code yX8_allowed cX8_allowed 5 (some .int), Cond.methodLink RX8 158 yX8_far, Cond.instanceMethod yX8_far, Cond.selects RX8 yX8_far yX8_far, Cond.code yX8_far cX8_far 7 (some .int), Cond.methodLink RX8 152 yX8_joined, Cond.instanceMethod yX8_joined, Cond.selects RX8 yX8_joined yX8_joined, Cond.code yX8_joined cX8_joined 4 (some .int), Cond.fieldLink RX8 13 "RingPagesModel" "weight" "[I", Cond.methodLink RX8 186 yX8_grows, Cond.instanceMethod yX8_grows, Cond.selects RX8 yX8_grows yX8_grows, Cond.code yX8_grows cX8_grows 6 none, Cond.fieldLink RX8 44 "RingPagesModel" "table" "[J", Cond.methodLink RX8 146 yX8_out, Cond.instanceMethod yX8_out, Cond.selects RX8 yX8_out yX8_out, Cond.code yX8_out cX8_out 4 (some .int), Cond.methodLink RX8 176 yX8_determinant, Cond.instanceMethod yX8_determinant, Cond.selects RX8 yX8_determinant yX8_determinant, Cond.code yX8_determinant cX8_determinant 7 (some .long)]
def wsX8_page_r3 : List Cond := [Cond.methodLink RX8 149 yX8_sum, Cond.instanceMethod yX8_sum, Cond.selects RX8 yX8_sum yX8_sum, Cond.code yX8_sum cX8_sum 2 (some .int), Cond.methodLink RX8 224 yX8_paged, Cond.instanceMethod yX8_paged, Cond.selects RX8 yX8_paged yX8_paged, Cond.code yX8_paged cX8_paged 6 (some .long), Cond.methodLink RX8 227 yX8_bits, Cond.static yX8_bits, Cond.code yX8_bits cX8_bits 3 (some .int), Cond.methodLink RX8 230 yX8_isFirst, Cond.static yX8_isFirst, Cond.code yX8_isFirst cX8_isFirst 4 (some .boolean), Cond.methodLink RX8 139 yX8_keeps, Cond.instanceMethod yX8_keeps, Cond.selects RX8 yX8_keeps yX8_keeps, Cond.code yX8_keeps cX8_keeps 2 none, Cond.fieldLink RX8 82 "RingPagesModel" "changes" "I", Cond.fieldLink RX8 22 "RingPagesModel" "was" "[I", Cond.methodLink RX8 142 yX8_registers, Cond.static yX8_registers, Cond.code yX8_registers cX8_registers 1 none]
def wsX8_page : List Cond := .code yX8_page cX8_page 2 (some .int) :: ((wsX8_page_r1 ++ (wsX8_page_r2 ++ wsX8_page_r3)) ++ wsX80)
def wsX8_walk_r1 : List Cond := [Cond.fieldLink RX8 56 "RingPagesModel" "walker" "[I", Cond.fieldLink RX8 19 "RingPagesModel" "now" "[I", Cond.constantLong RX8 236 (7919), Cond.constantLong RX8 238 (6151), Cond.constantLong RX8 240 (65521), Cond.fieldLink RX8 76 "RingPagesModel" "cells" "I", Cond.fieldLink RX8 13 "RingPagesModel" "weight" "[I", Cond.methodLink RX8 98 yX8_isIn, Cond.static yX8_isIn, Cond.initialized RX8, Cond.code yX8_isIn cX8_isIn 3 (some .boolean), Cond.methodLink RX8 149 yX8_sum, Cond.instanceMethod yX8_sum, Cond.selects RX8 yX8_sum yX8_sum, Cond.code yX8_sum cX8_sum 2 (some .int), Cond.methodLink RX8 146 yX8_out, Cond.instanceMethod yX8_out, Cond.selects RX8 yX8_out yX8_out, Cond.code yX8_out cX8_out 4 (some .int), Cond.methodLink RX8 166 yX8_goes, Cond.instanceMethod yX8_goes, Cond.selects RX8 yX8_goes yX8_goes, Cond.code yX8_goes cX8_goes 3 (some .int), Cond.methodLink RX8 162 yX8_isDue]
def wsX8_walk_r2 : List Cond := [Cond.instanceMethod yX8_isDue, Cond.selects RX8 yX8_isDue yX8_isDue, Cond.code yX8_isDue cX8_isDue 2 (some .boolean), Cond.methodLink RX8 158 yX8_far, Cond.instanceMethod yX8_far, Cond.selects RX8 yX8_far yX8_far, Cond.code yX8_far cX8_far 7 (some .int), Cond.methodLink RX8 152 yX8_joined, Cond.instanceMethod yX8_joined, Cond.selects RX8 yX8_joined yX8_joined, Cond.code yX8_joined cX8_joined 4 (some .int), Cond.methodLink RX8 142 yX8_registers, Cond.static yX8_registers, Cond.code yX8_registers cX8_registers 1 none]
def wsX8_walk : List Cond := .code yX8_walk cX8_walk 13 (some .int) :: ((wsX8_walk_r1 ++ wsX8_walk_r2) ++ wsX80)
def wsX8_count : List Cond := .code yX8_count cX8_count 2 (some .int) :: ([.fieldLink RX8 76 "RingPagesModel" "cells" "I", .fieldLink RX8 79 "RingPagesModel" "joins" "I", .fieldLink RX8 19 "RingPagesModel" "now" "[I", .fieldLink RX8 16 "RingPagesModel" "price" "[I", .fieldLink RX8 82 "RingPagesModel" "changes" "I", .fieldLink RX8 85 "RingPagesModel" "length" "I"] ++ wsX80)
def wsJ9_max_7cf53 : List Cond := .code yJ9_max_7cf53 cJ9_max_7cf53 2 (some .int) :: ([])
def wsJ9_min_7cf53 : List Cond := .code yJ9_min_7cf53 cJ9_min_7cf53 2 (some .int) :: ([])
def wsL_law_r1 : List Cond := [Cond.classLink RL 7 RX7, Cond.instantiable RX7 10, Cond.initialized RX7, Cond.classLink RL 10 RX8, Cond.instantiable RX8 26, Cond.initialized RX8, Cond.methodLink RL 9 yX7_init, Cond.instanceMethod yX7_init, Cond.code yX7_init cX7_init 2 none, Cond.methodLink RX7 1 objectInit, Cond.instanceMethod objectInit, Cond.code objectInit ⟨#[0xb1]⟩ 1 none, Cond.classLink RX7 7 RX5, Cond.instantiable RX5 4, Cond.initialized RX5, Cond.fieldLink RX7 10 "RingPages" "text" "LRingPages$Text;", Cond.classLink RX7 16 RX2, Cond.instantiable RX2 3, Cond.initialized RX2, Cond.fieldLink RX7 19 "RingPages" "past" "LRingPages$Past;", Cond.classLink RX7 23 RX0, Cond.instantiable RX0 6, Cond.initialized RX0, Cond.fieldLink RX7 26 "RingPages" "longRun" "LRingPages$LongRun;"]
def wsL_law_r2 : List Cond := [Cond.classLink RX7 30 RX6, Cond.instantiable RX6 1, Cond.initialized RX6, Cond.fieldLink RX7 33 "RingPages" "whereabouts" "LRingPages$Whereabouts;", Cond.classLink RX7 37 RX3, Cond.instantiable RX3 4, Cond.initialized RX3, Cond.fieldLink RX7 40 "RingPages" "rounds" "LRingPages$Rounds;", Cond.classLink RX7 44 RX4, Cond.instantiable RX4 10, Cond.initialized RX4, Cond.fieldLink RX7 47 "RingPages" "walker" "LRingPages$State;", Cond.classLink RX7 51 RX1, Cond.instantiable RX1 12, Cond.initialized RX1, Cond.fieldLink RX7 54 "RingPages" "net" "LRingPages$Net;", Cond.fieldLink RX7 58 "RingPages" "state" "LRingPages$State;", Cond.fieldLink RX7 61 "RingPages" "draftNet" "LRingPages$Net;", Cond.fieldLink RX7 64 "RingPages" "draftState" "LRingPages$State;", Cond.fieldLink RX7 87 "RingPages$Text" "length" "I", Cond.instanceMethod yX5_init, Cond.code yX5_init cX5_init 1 none, Cond.methodLink RX5 3 objectInit, Cond.arrayClass .int]
def wsL_law_r3 : List Cond := [Cond.fieldLink RX5 9 "RingPages$Text" "letters" "[I", Cond.fieldLink RX5 15 "RingPages$Text" "numbers" "[I", Cond.methodLink RX7 18 yX2_init, Cond.instanceMethod yX2_init, Cond.code yX2_init cX2_init 2 none, Cond.methodLink RX2 3 objectInit, Cond.classLink RX2 9 RX4, Cond.fieldLink RX2 11 "RingPages$Past" "kept" "[LRingPages$State;", Cond.instanceMethod yX4_init, Cond.code yX4_init cX4_init 1 none, Cond.methodLink RX4 3 objectInit, Cond.fieldLink RX4 9 "RingPages$State" "stay" "[I", Cond.fieldLink RX4 15 "RingPages$State" "area" "[I", Cond.instanceMethod yX0_init, Cond.code yX0_init cX0_init 1 none, Cond.methodLink RX0 3 objectInit, Cond.arrayClass .long, Cond.fieldLink RX0 9 "RingPages$LongRun" "above" "[J", Cond.fieldLink RX0 15 "RingPages$LongRun" "best" "[I", Cond.fieldLink RX0 19 "RingPages$LongRun" "tried" "[I", Cond.instanceMethod yX6_init, Cond.code yX6_init cX6_init 1 none, Cond.methodLink RX6 3 objectInit, Cond.fieldLink RX6 9 "RingPages$Whereabouts" "reached" "[I"]
def wsL_law_r4 : List Cond := [Cond.instanceMethod yX3_init, Cond.code yX3_init cX3_init 1 none, Cond.methodLink RX3 3 objectInit, Cond.fieldLink RX3 9 "RingPages$Rounds" "row" "[I", Cond.instanceMethod yX1_init, Cond.code yX1_init cX1_init 1 none, Cond.methodLink RX1 3 objectInit, Cond.classLink RX1 9 "[[I", Cond.fieldLink RX1 11 "RingPages$Net" "weight" "[[I", Cond.fieldLink RX1 16 "RingPages$Net" "wide" "[[I", Cond.fieldLink RX1 19 "RingPages$Net" "near" "[I", Cond.fieldLink RX1 23 "RingPages$Net" "out" "[I", Cond.fieldLink RX1 26 "RingPages$Net" "trees" "[J", Cond.fieldLink RX1 30 "RingPages$Net" "minors" "[J", Cond.methodLink RX7 69 yJ0_length_8abf5, Cond.instanceMethod yJ0_length_8abf5, Cond.selects RJ0 yJ0_length_8abf5 yJ0_length_8abf5, Cond.initialized RJ0, Cond.code yJ0_length_8abf5 cJ0_length_8abf5 1 (some .int), Cond.fieldLink RJ0 9 "java/lang/String" "value" "[B", Cond.methodLink RJ0 335 yJ0_coder_7d493, Cond.instanceMethod yJ0_coder_7d493, Cond.selects RJ0 yJ0_coder_7d493 yJ0_coder_7d493, Cond.code yJ0_coder_7d493 cJ0_coder_7d493 1 (some .byte)]
def wsL_law_r5 : List Cond := [Cond.fieldLink RJ0 38 "java/lang/String" "COMPACT_STRINGS" "Z", Cond.fieldLink RJ0 15 "java/lang/String" "coder" "B", Cond.methodLink RX7 75 yJ0_charAt_5068e, Cond.instanceMethod yJ0_charAt_5068e, Cond.selects RJ0 yJ0_charAt_5068e yJ0_charAt_5068e, Cond.code yJ0_charAt_5068e cJ0_charAt_5068e 2 (some .char), Cond.methodLink RJ0 492 yJ0_isLatin1_aae02, Cond.instanceMethod yJ0_isLatin1_aae02, Cond.selects RJ0 yJ0_isLatin1_aae02 yJ0_isLatin1_aae02, Cond.code yJ0_isLatin1_aae02 cJ0_isLatin1_aae02 1 (some .boolean), Cond.methodLink RJ0 495 yJ1_charAt_3b067, Cond.static yJ1_charAt_3b067, Cond.initialized RJ1, Cond.code yJ1_charAt_3b067 cJ1_charAt_3b067 2 (some .char), Cond.methodLink RJ1 9 yJ0_checkIndex_df160, Cond.static yJ0_checkIndex_df160, Cond.code yJ0_checkIndex_df160 cJ0_checkIndex_df160 2 none, Cond.fieldLink RJ0 1053 "jdk/internal/util/Preconditions" "SIOOBE_FORMATTER" "Ljava/util/function/BiFunction;", Cond.methodLink RJ0 1059 yJ3_checkIndex_8e157, Cond.static yJ3_checkIndex_8e157, Cond.initialized RJ3, Cond.code yJ3_checkIndex_8e157 cJ3_checkIndex_8e157 3 (some .int), Cond.methodLink RJ0 498 yJ2_charAt_3b067, Cond.static yJ2_charAt_3b067]
def wsL_law_r6 : List Cond := [Cond.initialized RJ2, Cond.code yJ2_charAt_3b067 cJ2_charAt_3b067 2 (some .char), Cond.methodLink RJ2 67 yJ2_checkIndex_2214a, Cond.static yJ2_checkIndex_2214a, Cond.code yJ2_checkIndex_2214a cJ2_checkIndex_2214a 2 none, Cond.methodLink RJ2 48 yJ2_length_9d52b, Cond.static yJ2_length_9d52b, Cond.code yJ2_length_9d52b cJ2_length_9d52b 1 (some .int), Cond.methodLink RJ2 414 yJ0_checkIndex_df160, Cond.methodLink RJ2 71 yJ2_getChar_3b067, Cond.static yJ2_getChar_3b067, Cond.code yJ2_getChar_3b067 cJ2_getChar_3b067 2 (some .char), Cond.fieldLink RJ2 44 "java/lang/StringUTF16" "$assertionsDisabled" "Z", Cond.fieldLink RJ2 59 "java/lang/StringUTF16" "HI_BYTE_SHIFT" "I", Cond.fieldLink RJ2 63 "java/lang/StringUTF16" "LO_BYTE_SHIFT" "I", Cond.methodLink RX7 79 yX5_append, Cond.instanceMethod yX5_append, Cond.selects RX5 yX5_append yX5_append, Cond.code yX5_append cX5_append 2 (some .boolean), Cond.fieldLink RX5 18 "RingPages$Text" "length" "I", Cond.methodLink RX7 83 yX7_layText, Cond.instanceMethod yX7_layText, Cond.selects RX7 yX7_layText yX7_layText, Cond.code yX7_layText cX7_layText 3 (some .boolean)]
def wsL_law_r7 : List Cond := [Cond.fieldLink RX7 103 "RingPages$Past" "held" "I", Cond.methodLink RX7 90 yX5_readInto, Cond.instanceMethod yX5_readInto, Cond.selects RX5 yX5_readInto yX5_readInto, Cond.code yX5_readInto cX5_readInto 5 (some .int), Cond.fieldLink RX5 32 "RingPages$Text" "place" "I", Cond.methodLink RX5 22 yX1_begin, Cond.instanceMethod yX1_begin, Cond.selects RX1 yX1_begin yX1_begin, Cond.code yX1_begin cX1_begin 4 none, Cond.fieldLink RX1 33 "RingPages$Net" "cells" "I", Cond.fieldLink RX1 37 "RingPages$Net" "joins" "I", Cond.methodLink RX1 40 yX1_price, Cond.instanceMethod yX1_price, Cond.selects RX1 yX1_price yX1_price, Cond.code yX1_price cX1_price 5 none, Cond.fieldLink RX1 44 "RingPages$Net" "mostRounds" "I", Cond.fieldLink RX1 47 "RingPages$Net" "pageCost" "I", Cond.fieldLink RX1 50 "RingPages$Net" "updateCost" "I", Cond.fieldLink RX1 53 "RingPages$Net" "callChance" "I", Cond.methodLink RX5 28 yX4_begin, Cond.instanceMethod yX4_begin, Cond.selects RX4 yX4_begin yX4_begin, Cond.code yX4_begin cX4_begin 2 none]
def wsL_law_r8 : List Cond := [Cond.fieldLink RX4 18 "RingPages$State" "kind" "I", Cond.fieldLink RX4 22 "RingPages$State" "value" "I", Cond.fieldLink RX4 25 "RingPages$State" "cell" "I", Cond.fieldLink RX4 28 "RingPages$State" "updates" "I", Cond.fieldLink RX4 31 "RingPages$State" "paged" "I", Cond.methodLink RX4 34 yX4_register, Cond.instanceMethod yX4_register, Cond.selects RX4 yX4_register yX4_register, Cond.code yX4_register cX4_register 1 none, Cond.fieldLink RX4 43 "RingPages$State" "home" "I", Cond.fieldLink RX4 46 "RingPages$State" "moves" "I", Cond.fieldLink RX4 49 "RingPages$State" "ticks" "I", Cond.methodLink RX5 35 yX5_readItem, Cond.instanceMethod yX5_readItem, Cond.selects RX5 yX5_readItem yX5_readItem, Cond.code yX5_readItem cX5_readItem 5 (some .boolean), Cond.fieldLink RX5 43 "RingPages$Net" "cells" "I", Cond.fieldLink RX5 61 "RingPages$State" "stay" "[I", Cond.fieldLink RX5 68 "RingPages$State" "area" "[I", Cond.methodLink RX5 39 yX5_letterHere, Cond.instanceMethod yX5_letterHere, Cond.selects RX5 yX5_letterHere yX5_letterHere, Cond.code yX5_letterHere cX5_letterHere 1 (some .int), Cond.methodLink RX5 46 yX5_numbersBehind]
def wsL_law_r9 : List Cond := [Cond.instanceMethod yX5_numbersBehind, Cond.selects RX5 yX5_numbersBehind yX5_numbersBehind, Cond.code yX5_numbersBehind cX5_numbersBehind 2 (some .int), Cond.methodLink RX5 50 yX5_readNumbers, Cond.instanceMethod yX5_readNumbers, Cond.selects RX5 yX5_readNumbers yX5_readNumbers, Cond.code yX5_readNumbers cX5_readNumbers 3 (some .boolean), Cond.methodLink RX5 102 yX5_readNumber, Cond.instanceMethod yX5_readNumber, Cond.selects RX5 yX5_readNumber yX5_readNumber, Cond.code yX5_readNumber cX5_readNumber 3 (some .int), Cond.methodLink RX5 105 yX5_figureHere, Cond.instanceMethod yX5_figureHere, Cond.selects RX5 yX5_figureHere yX5_figureHere, Cond.code yX5_figureHere cX5_figureHere 2 (some .int), Cond.methodLink RX5 54 yX5_takeCells, Cond.instanceMethod yX5_takeCells, Cond.selects RX5 yX5_takeCells yX5_takeCells, Cond.code yX5_takeCells cX5_takeCells 2 (some .boolean), Cond.methodLink RX5 58 yX5_takeJoin, Cond.instanceMethod yX5_takeJoin, Cond.selects RX5 yX5_takeJoin yX5_takeJoin, Cond.code yX5_takeJoin cX5_takeJoin 4 (some .boolean), Cond.fieldLink RX5 78 "RingPages$Net" "weight" "[[I"]
def wsL_law_r10 : List Cond := [Cond.methodLink RX5 82 yX5_isWeight, Cond.instanceMethod yX5_isWeight, Cond.selects RX5 yX5_isWeight yX5_isWeight, Cond.code yX5_isWeight cX5_isWeight 2 (some .boolean), Cond.methodLink RX5 85 yX1_join, Cond.instanceMethod yX1_join, Cond.selects RX1 yX1_join yX1_join, Cond.code yX1_join cX1_join 5 none, Cond.methodLink RX1 56 yX1_lead, Cond.instanceMethod yX1_lead, Cond.selects RX1 yX1_lead yX1_lead, Cond.code yX1_lead cX1_lead 4 none, Cond.methodLink RX5 64 yX5_takeCellNumber, Cond.instanceMethod yX5_takeCellNumber, Cond.selects RX5 yX5_takeCellNumber yX5_takeCellNumber, Cond.code yX5_takeCellNumber cX5_takeCellNumber 4 (some .boolean), Cond.methodLink RX5 71 yX5_takeLaw, Cond.instanceMethod yX5_takeLaw, Cond.selects RX5 yX5_takeLaw yX5_takeLaw, Cond.code yX5_takeLaw cX5_takeLaw 2 (some .boolean), Cond.fieldLink RX5 93 "RingPages$State" "kind" "I", Cond.fieldLink RX5 96 "RingPages$State" "value" "I", Cond.static yX7_isLaw, Cond.code yX7_isLaw cX7_isLaw 2 (some .boolean)]
def wsL_law_r11 : List Cond := [Cond.methodLink RX5 75 yX5_takePrices, Cond.instanceMethod yX5_takePrices, Cond.selects RX5 yX5_takePrices yX5_takePrices, Cond.code yX5_takePrices cX5_takePrices 2 (some .boolean), Cond.methodLink RX5 99 yX1_price, Cond.methodLink RX7 97 yX1_isWhole, Cond.instanceMethod yX1_isWhole, Cond.selects RX1 yX1_isWhole yX1_isWhole, Cond.code yX1_isWhole cX1_isWhole 4 (some .boolean), Cond.methodLink RX1 60 Lib.Math.min.name, Cond.static Lib.Math.min.name, Cond.initialized "java/lang/Math", Cond.code Lib.Math.min.name Lib.Math.min.code 2 (some .int), Cond.methodLink RX7 100 yX1_growTrees, Cond.instanceMethod yX1_growTrees, Cond.selects RX1 yX1_growTrees yX1_growTrees, Cond.code yX1_growTrees cX1_growTrees 2 none, Cond.methodLink RX1 66 yX1_treesTo, Cond.instanceMethod yX1_treesTo, Cond.selects RX1 yX1_treesTo yX1_treesTo, Cond.code yX1_treesTo cX1_treesTo 4 (some .long), Cond.methodLink RX1 70 yJ6_bitCount_0f7a4, Cond.static yJ6_bitCount_0f7a4, Cond.initialized RJ6]
def wsL_law_r12 : List Cond := [Cond.code yJ6_bitCount_0f7a4 cJ6_bitCount_0f7a4 1 (some .int), Cond.constant RJ6 265 (1431655765), Cond.constant RJ6 266 (858993459), Cond.constant RJ6 267 (252645135), Cond.methodLink RX1 76 yX1_rowOf, Cond.instanceMethod yX1_rowOf, Cond.selects RX1 yX1_rowOf yX1_rowOf, Cond.code yX1_rowOf cX1_rowOf 3 (some .int), Cond.methodLink RX1 79 yX1_minorOf, Cond.instanceMethod yX1_minorOf, Cond.selects RX1 yX1_minorOf yX1_minorOf, Cond.code yX1_minorOf cX1_minorOf 9 (some .long), Cond.static yX7_holds, Cond.code yX7_holds cX7_holds 2 (some .boolean), Cond.methodLink RX7 106 yX0_reckon, Cond.instanceMethod yX0_reckon, Cond.selects RX0 yX0_reckon yX0_reckon, Cond.code yX0_reckon cX0_reckon 4 none, Cond.fieldLink RX0 22 "RingPages$LongRun" "below" "J", Cond.fieldLink RX0 26 "RingPages$Net" "cells" "I", Cond.fieldLink RX0 32 "RingPages$State" "stay" "[I", Cond.fieldLink RX0 37 "RingPages$Net" "out" "[I", Cond.fieldLink RX0 40 "RingPages$Net" "trees" "[J", Cond.fieldLink RX0 43 "RingPages$LongRun" "bestKnown" "Z"]
def wsL_law_r13 : List Cond := [Cond.methodLink RL 12 yX8_init, Cond.instanceMethod yX8_init, Cond.code yX8_init cX8_init 1 none, Cond.methodLink RX8 1 objectInit, Cond.fieldLink RX8 7 "RingPagesModel" "text" "[I", Cond.fieldLink RX8 13 "RingPagesModel" "weight" "[I", Cond.fieldLink RX8 16 "RingPagesModel" "price" "[I", Cond.fieldLink RX8 19 "RingPagesModel" "now" "[I", Cond.fieldLink RX8 22 "RingPagesModel" "was" "[I", Cond.fieldLink RX8 25 "RingPagesModel" "readWeight" "[I", Cond.fieldLink RX8 28 "RingPagesModel" "readPrice" "[I", Cond.fieldLink RX8 31 "RingPagesModel" "read" "[I", Cond.fieldLink RX8 34 "RingPagesModel" "can" "[I", Cond.fieldLink RX8 37 "RingPagesModel" "next" "[I", Cond.fieldLink RX8 40 "RingPagesModel" "trees" "[J", Cond.fieldLink RX8 44 "RingPagesModel" "table" "[J", Cond.fieldLink RX8 47 "RingPagesModel" "tried" "[I", Cond.fieldLink RX8 50 "RingPagesModel" "best" "[I", Cond.fieldLink RX8 53 "RingPagesModel" "row" "[I", Cond.fieldLink RX8 56 "RingPagesModel" "walker" "[I", Cond.fieldLink RX8 62 "RingPagesModel" "readCells" "I", Cond.methodLink RX8 59 yX8_clears, Cond.instanceMethod yX8_clears, Cond.selects RX8 yX8_clears yX8_clears]
def wsL_law_r14 : List Cond := [Cond.code yX8_clears cX8_clears 2 none, Cond.fieldLink RX8 73 "RingPagesModel" "readJoins" "I", Cond.methodLink RX8 66 yX8_joinOf, Cond.instanceMethod yX8_joinOf, Cond.selects RX8 yX8_joinOf yX8_joinOf, Cond.code yX8_joinOf cX8_joinOf 5 none, Cond.methodLink RX8 70 yX8_takes, Cond.instanceMethod yX8_takes, Cond.selects RX8 yX8_takes yX8_takes, Cond.code yX8_takes cX8_takes 2 none, Cond.fieldLink RX8 76 "RingPagesModel" "cells" "I", Cond.fieldLink RX8 79 "RingPagesModel" "joins" "I", Cond.fieldLink RX8 82 "RingPagesModel" "changes" "I", Cond.methodLink RL 13 yX7_write, Cond.instanceMethod yX7_write, Cond.selects RX7 yX7_write yX7_write, Cond.code yX7_write cX7_write 2 (some .int), Cond.methodLink RL 17 yX8_write, Cond.instanceMethod yX8_write, Cond.selects RX8 yX8_write yX8_write, Cond.code yX8_write cX8_write 2 (some .int), Cond.fieldLink RX8 85 "RingPagesModel" "length" "I", Cond.methodLink RL 18 yX7_wipe, Cond.instanceMethod yX7_wipe]
def wsL_law_r15 : List Cond := [Cond.selects RX7 yX7_wipe yX7_wipe, Cond.code yX7_wipe cX7_wipe 2 (some .int), Cond.methodLink RL 22 yX8_wipe, Cond.instanceMethod yX8_wipe, Cond.selects RX8 yX8_wipe yX8_wipe, Cond.code yX8_wipe cX8_wipe 2 (some .int), Cond.methodLink RL 23 yX7_fault, Cond.instanceMethod yX7_fault, Cond.selects RX7 yX7_fault yX7_fault, Cond.code yX7_fault cX7_fault 1 (some .int), Cond.methodLink RL 26 yX8_fault, Cond.instanceMethod yX8_fault, Cond.selects RX8 yX8_fault yX8_fault, Cond.code yX8_fault cX8_fault 1 (some .int), Cond.methodLink RX8 128 yX8_reads, Cond.instanceMethod yX8_reads, Cond.selects RX8 yX8_reads yX8_reads, Cond.code yX8_reads cX8_reads 2 (some .int), Cond.fieldLink RX8 91 "RingPagesModel" "ends" "I", Cond.methodLink RX8 125 yX8_readsItem, Cond.instanceMethod yX8_readsItem, Cond.selects RX8 yX8_readsItem yX8_readsItem, Cond.code yX8_readsItem cX8_readsItem 4 (some .boolean), Cond.fieldLink RX8 88 "RingPagesModel" "value" "I"]
def wsL_law_r16 : List Cond := [Cond.methodLink RX8 102 yX8_number, Cond.instanceMethod yX8_number, Cond.selects RX8 yX8_number yX8_number, Cond.code yX8_number cX8_number 4 (some .boolean), Cond.methodLink RX8 94 yX8_letterAt, Cond.instanceMethod yX8_letterAt, Cond.selects RX8 yX8_letterAt yX8_letterAt, Cond.code yX8_letterAt cX8_letterAt 2 (some .int), Cond.methodLink RX8 98 yX8_isIn, Cond.static yX8_isIn, Cond.code yX8_isIn cX8_isIn 3 (some .boolean), Cond.methodLink RX8 112 yX8_readsJoin, Cond.instanceMethod yX8_readsJoin, Cond.selects RX8 yX8_readsJoin yX8_readsJoin, Cond.code yX8_readsJoin cX8_readsJoin 5 (some .boolean), Cond.methodLink RX8 105 yX8_more, Cond.instanceMethod yX8_more, Cond.selects RX8 yX8_more yX8_more, Cond.code yX8_more cX8_more 3 (some .boolean), Cond.methodLink RX8 116 yX8_readsCell, Cond.instanceMethod yX8_readsCell, Cond.selects RX8 yX8_readsCell yX8_readsCell, Cond.code yX8_readsCell cX8_readsCell 5 (some .boolean), Cond.methodLink RX8 119 yX8_readsLaw]
def wsL_law_r17 : List Cond := [Cond.instanceMethod yX8_readsLaw, Cond.selects RX8 yX8_readsLaw yX8_readsLaw, Cond.code yX8_readsLaw cX8_readsLaw 4 (some .boolean), Cond.methodLink RX8 109 yX8_isLaw, Cond.static yX8_isLaw, Cond.code yX8_isLaw cX8_isLaw 2 (some .boolean), Cond.methodLink RX8 122 yX8_readsPrice, Cond.instanceMethod yX8_readsPrice, Cond.selects RX8 yX8_readsPrice yX8_readsPrice, Cond.code yX8_readsPrice cX8_readsPrice 5 (some .boolean), Cond.methodLink RL 27 yX7_lay, Cond.instanceMethod yX7_lay, Cond.selects RX7 yX7_lay yX7_lay, Cond.code yX7_lay cX7_lay 1 (some .int), Cond.fieldLink RX7 94 "RingPages$Net" "cells" "I", Cond.methodLink RL 30 yX8_lay, Cond.instanceMethod yX8_lay, Cond.selects RX8 yX8_lay yX8_lay, Cond.code yX8_lay cX8_lay 1 (some .int), Cond.methodLink RX8 132 yX8_hang, Cond.instanceMethod yX8_hang, Cond.selects RX8 yX8_hang yX8_hang, Cond.code yX8_hang cX8_hang 4 (some .boolean), Cond.methodLink RL 31 yX7_set]
def wsL_law_r18 : List Cond := [Cond.instanceMethod yX7_set, Cond.selects RX7 yX7_set yX7_set, Cond.code yX7_set cX7_set 5 (some .int), Cond.fieldLink RX7 113 "RingPages$State" "stay" "[I", Cond.fieldLink RX7 117 "RingPages$State" "area" "[I", Cond.methodLink RX7 110 yX7_isCell, Cond.instanceMethod yX7_isCell, Cond.selects RX7 yX7_isCell yX7_isCell, Cond.code yX7_isCell cX7_isCell 2 (some .boolean), Cond.methodLink RX7 120 yX2_keep, Cond.instanceMethod yX2_keep, Cond.selects RX2 yX2_keep yX2_keep, Cond.code yX2_keep cX2_keep 2 none, Cond.fieldLink RX2 18 "RingPages$Past" "next" "I", Cond.fieldLink RX2 26 "RingPages$Past" "held" "I", Cond.methodLink RX2 29 Lib.Math.min.name, Cond.methodLink RX2 22 yX4_copyFrom, Cond.instanceMethod yX4_copyFrom, Cond.selects RX4 yX4_copyFrom yX4_copyFrom, Cond.code yX4_copyFrom cX4_copyFrom 2 none, Cond.methodLink RX4 37 arraycopyName, Cond.native arraycopyName, Cond.static arraycopyName, Cond.initialized "java/lang/System"]
def wsL_law_r19 : List Cond := [Cond.methodLink RX7 124 yX4_register, Cond.methodLink RL 35 yX8_set, Cond.instanceMethod yX8_set, Cond.selects RX8 yX8_set yX8_set, Cond.code yX8_set cX8_set 5 (some .int), Cond.methodLink RX8 136 yX8_isCell, Cond.instanceMethod yX8_isCell, Cond.selects RX8 yX8_isCell yX8_isCell, Cond.code yX8_isCell cX8_isCell 2 (some .boolean), Cond.methodLink RX8 139 yX8_keeps, Cond.instanceMethod yX8_keeps, Cond.selects RX8 yX8_keeps yX8_keeps, Cond.code yX8_keeps cX8_keeps 2 none, Cond.methodLink RX8 142 yX8_registers, Cond.static yX8_registers, Cond.code yX8_registers cX8_registers 1 none, Cond.methodLink RL 36 yX7_law, Cond.instanceMethod yX7_law, Cond.selects RX7 yX7_law yX7_law, Cond.code yX7_law cX7_law 4 (some .int), Cond.fieldLink RX7 131 "RingPages$State" "kind" "I", Cond.fieldLink RX7 134 "RingPages$State" "value" "I", Cond.methodLink RX7 127 yX7_isLaw, Cond.methodLink RL 40 yX8_law]
def wsL_law_r20 : List Cond := [Cond.instanceMethod yX8_law, Cond.selects RX8 yX8_law yX8_law, Cond.code yX8_law cX8_law 4 (some .int), Cond.methodLink RL 41 yX7_give, Cond.instanceMethod yX7_give, Cond.selects RX7 yX7_give yX7_give, Cond.code yX7_give cX7_give 3 (some .int), Cond.fieldLink RX7 141 "RingPages$LongRun" "best" "[I", Cond.methodLink RX7 137 yX0_findBest, Cond.instanceMethod yX0_findBest, Cond.selects RX0 yX0_findBest yX0_findBest, Cond.code yX0_findBest cX0_findBest 5 none, Cond.fieldLink RX0 79 "RingPages$LongRun" "leastExpense" "J", Cond.methodLink RX0 68 yX0_expense, Cond.instanceMethod yX0_expense, Cond.selects RX0 yX0_expense yX0_expense, Cond.code yX0_expense cX0_expense 6 (some .long), Cond.fieldLink RX0 55 "RingPages$Net" "updateCost" "I", Cond.fieldLink RX0 62 "RingPages$Net" "pageCost" "I", Cond.fieldLink RX0 65 "RingPages$Net" "callChance" "I", Cond.static yX7_sameArea, Cond.code yX7_sameArea cX7_sameArea 5 (some .int), Cond.methodLink RX0 58 yX0_crosses, Cond.instanceMethod yX0_crosses]
def wsL_law_r21 : List Cond := [Cond.selects RX0 yX0_crosses yX0_crosses, Cond.code yX0_crosses cX0_crosses 7 (some .long), Cond.fieldLink RX0 47 "RingPages$Net" "weight" "[[I", Cond.methodLink RX0 71 yX0_takeTried, Cond.instanceMethod yX0_takeTried, Cond.selects RX0 yX0_takeTried yX0_takeTried, Cond.code yX0_takeTried cX0_takeTried 3 none, Cond.methodLink RX0 82 arraycopyName, Cond.methodLink RX0 75 yX0_nextTried, Cond.instanceMethod yX0_nextTried, Cond.selects RX0 yX0_nextTried yX0_nextTried, Cond.code yX0_nextTried cX0_nextTried 3 (some .boolean), Cond.methodLink RX0 88 yX0_highestAhead, Cond.instanceMethod yX0_highestAhead, Cond.selects RX0 yX0_highestAhead yX0_highestAhead, Cond.code yX0_highestAhead cX0_highestAhead 4 (some .int), Cond.methodLink RX0 92 Lib.Math.max.name, Cond.static Lib.Math.max.name, Cond.code Lib.Math.max.name Lib.Math.max.code 2 (some .int), Cond.methodLink RL 44 yX8_give, Cond.instanceMethod yX8_give, Cond.selects RX8 yX8_give yX8_give, Cond.code yX8_give cX8_give 3 (some .int), Cond.methodLink RX8 212 yX8_finds]
def wsL_law_r22 : List Cond := [Cond.instanceMethod yX8_finds, Cond.selects RX8 yX8_finds yX8_finds, Cond.code yX8_finds cX8_finds 6 (some .long), Cond.methodLink RX8 186 yX8_grows, Cond.instanceMethod yX8_grows, Cond.selects RX8 yX8_grows yX8_grows, Cond.code yX8_grows cX8_grows 6 none, Cond.methodLink RX8 146 yX8_out, Cond.instanceMethod yX8_out, Cond.selects RX8 yX8_out yX8_out, Cond.code yX8_out cX8_out 4 (some .int), Cond.methodLink RX8 176 yX8_determinant, Cond.instanceMethod yX8_determinant, Cond.selects RX8 yX8_determinant yX8_determinant, Cond.code yX8_determinant cX8_determinant 7 (some .long), Cond.methodLink RX8 203 yX8_expense, Cond.instanceMethod yX8_expense, Cond.selects RX8 yX8_expense yX8_expense, Cond.code yX8_expense cX8_expense 7 (some .long), Cond.constantLong RX8 197 (100), Cond.methodLink RX8 199 yX8_crossing, Cond.instanceMethod yX8_crossing, Cond.selects RX8 yX8_crossing yX8_crossing, Cond.code yX8_crossing cX8_crossing 8 (some .long)]
def wsL_law_r23 : List Cond := [Cond.methodLink RX8 149 yX8_sum, Cond.instanceMethod yX8_sum, Cond.selects RX8 yX8_sum yX8_sum, Cond.code yX8_sum cX8_sum 2 (some .int), Cond.methodLink RX8 209 yX8_goesOn, Cond.instanceMethod yX8_goesOn, Cond.selects RX8 yX8_goesOn yX8_goesOn, Cond.code yX8_goesOn cX8_goesOn 4 (some .boolean), Cond.methodLink RL 45 yX7_undo, Cond.instanceMethod yX7_undo, Cond.selects RX7 yX7_undo yX7_undo, Cond.code yX7_undo cX7_undo 1 (some .int), Cond.methodLink RX7 144 yX2_bringBack, Cond.instanceMethod yX2_bringBack, Cond.selects RX2 yX2_bringBack yX2_bringBack, Cond.code yX2_bringBack cX2_bringBack 2 (some .boolean), Cond.methodLink RL 48 yX8_undo, Cond.instanceMethod yX8_undo, Cond.selects RX8 yX8_undo yX8_undo, Cond.code yX8_undo cX8_undo 2 (some .int), Cond.methodLink RL 49 yX7_cell, Cond.instanceMethod yX7_cell, Cond.selects RX7 yX7_cell yX7_cell, Cond.code yX7_cell cX7_cell 3 (some .int)]
def wsL_law_r24 : List Cond := [Cond.fieldLink RX7 148 "RingPages$Net" "out" "[I", Cond.fieldLink RX7 151 "RingPages$Net" "near" "[I", Cond.methodLink RX7 154 yX7_sameArea, Cond.methodLink RL 52 yX8_cell, Cond.instanceMethod yX8_cell, Cond.selects RX8 yX8_cell yX8_cell, Cond.code yX8_cell cX8_cell 3 (some .int), Cond.methodLink RX8 152 yX8_joined, Cond.instanceMethod yX8_joined, Cond.selects RX8 yX8_joined yX8_joined, Cond.code yX8_joined cX8_joined 4 (some .int), Cond.methodLink RX8 155 yX8_likeArea, Cond.instanceMethod yX8_likeArea, Cond.selects RX8 yX8_likeArea yX8_likeArea, Cond.code yX8_likeArea cX8_likeArea 4 (some .int), Cond.methodLink RL 53 yX7_weight, Cond.instanceMethod yX7_weight, Cond.selects RX7 yX7_weight yX7_weight, Cond.code yX7_weight cX7_weight 3 (some .int), Cond.fieldLink RX7 158 "RingPages$Net" "weight" "[[I", Cond.methodLink RL 56 yX8_weight, Cond.instanceMethod yX8_weight, Cond.selects RX8 yX8_weight yX8_weight, Cond.code yX8_weight cX8_weight 3 (some .int)]
def wsL_law_r25 : List Cond := [Cond.methodLink RL 57 yX7_wide, Cond.instanceMethod yX7_wide, Cond.selects RX7 yX7_wide yX7_wide, Cond.code yX7_wide cX7_wide 3 (some .int), Cond.fieldLink RX7 162 "RingPages$Net" "wide" "[[I", Cond.methodLink RL 60 yX8_wide, Cond.instanceMethod yX8_wide, Cond.selects RX8 yX8_wide yX8_wide, Cond.code yX8_wide cX8_wide 3 (some .int), Cond.methodLink RX8 158 yX8_far, Cond.instanceMethod yX8_far, Cond.selects RX8 yX8_far yX8_far, Cond.code yX8_far cX8_far 7 (some .int), Cond.methodLink RL 61 yX7_tick, Cond.instanceMethod yX7_tick, Cond.selects RX7 yX7_tick yX7_tick, Cond.code yX7_tick cX7_tick 2 (some .int), Cond.methodLink RX7 165 yX4_canGo, Cond.instanceMethod yX4_canGo, Cond.selects RX4 yX4_canGo yX4_canGo, Cond.code yX4_canGo cX4_canGo 3 (some .boolean), Cond.fieldLink RX4 52 "RingPages$Net" "near" "[I", Cond.methodLink RX7 169 yX4_go, Cond.instanceMethod yX4_go]
def wsL_law_r26 : List Cond := [Cond.selects RX4 yX4_go yX4_go, Cond.code yX4_go cX4_go 3 (some .boolean), Cond.methodLink RX4 61 yX4_isDue, Cond.instanceMethod yX4_isDue, Cond.selects RX4 yX4_isDue yX4_isDue, Cond.code yX4_isDue cX4_isDue 2 (some .boolean), Cond.methodLink RX4 65 yX4_isOutside, Cond.instanceMethod yX4_isOutside, Cond.selects RX4 yX4_isOutside yX4_isOutside, Cond.code yX4_isOutside cX4_isOutside 3 (some .boolean), Cond.fieldLink RX4 69 "RingPages$Net" "wide" "[[I", Cond.methodLink RL 64 yX8_tick, Cond.instanceMethod yX8_tick, Cond.selects RX8 yX8_tick yX8_tick, Cond.code yX8_tick cX8_tick 3 (some .int), Cond.methodLink RX8 166 yX8_goes, Cond.instanceMethod yX8_goes, Cond.selects RX8 yX8_goes yX8_goes, Cond.code yX8_goes cX8_goes 3 (some .int), Cond.methodLink RX8 162 yX8_isDue, Cond.instanceMethod yX8_isDue, Cond.selects RX8 yX8_isDue yX8_isDue, Cond.code yX8_isDue cX8_isDue 2 (some .boolean), Cond.methodLink RL 65 yX7_page]
def wsL_law_r27 : List Cond := [Cond.instanceMethod yX7_page, Cond.selects RX7 yX7_page yX7_page, Cond.code yX7_page cX7_page 4 (some .int), Cond.fieldLink RX7 175 "RingPages$Rounds" "many" "I", Cond.fieldLink RX7 187 "RingPages$State" "cell" "I", Cond.fieldLink RX7 193 "RingPages$State" "paged" "I", Cond.methodLink RX7 172 yX7_seek, Cond.instanceMethod yX7_seek, Cond.selects RX7 yX7_seek yX7_seek, Cond.code yX7_seek cX7_seek 1 none, Cond.fieldLink RX7 217 "RingPages$LongRun" "above" "[J", Cond.fieldLink RX7 225 "RingPages$Net" "mostRounds" "I", Cond.methodLink RX7 214 yX6_find, Cond.instanceMethod yX6_find, Cond.selects RX6 yX6_find yX6_find, Cond.code yX6_find cX6_find 8 (some .int), Cond.fieldLink RX6 15 "RingPages$State" "kind" "I", Cond.fieldLink RX6 21 "RingPages$State" "value" "I", Cond.methodLink RX6 24 Lib.Math.min.name, Cond.fieldLink RX6 34 "RingPages$State" "home" "I", Cond.fieldLink RX6 37 "RingPages$State" "ticks" "I", Cond.methodLink RX6 30 yX6_insideOf, Cond.instanceMethod yX6_insideOf, Cond.selects RX6 yX6_insideOf yX6_insideOf]
def wsL_law_r28 : List Cond := [Cond.code yX6_insideOf cX6_insideOf 5 (some .int), Cond.fieldLink RX6 44 "RingPages$Net" "cells" "I", Cond.methodLink RX6 49 yX4_isOutside, Cond.methodLink RX6 40 yX6_step, Cond.instanceMethod yX6_step, Cond.selects RX6 yX6_step yX6_step, Cond.code yX6_step cX6_step 9 (some .boolean), Cond.methodLink RX6 53 yX6_movers, Cond.instanceMethod yX6_movers, Cond.selects RX6 yX6_movers yX6_movers, Cond.code yX6_movers cX6_movers 5 (some .int), Cond.fieldLink RX6 68 "RingPages$Net" "near" "[I", Cond.methodLink RX6 57 yX6_stayers, Cond.instanceMethod yX6_stayers, Cond.selects RX6 yX6_stayers yX6_stayers, Cond.code yX6_stayers cX6_stayers 6 (some .int), Cond.fieldLink RX6 65 "RingPages$State" "stay" "[I", Cond.methodLink RX7 221 yX3_lineUp, Cond.instanceMethod yX3_lineUp, Cond.selects RX3 yX3_lineUp yX3_lineUp, Cond.code yX3_lineUp cX3_lineUp 5 none, Cond.fieldLink RX3 15 "RingPages$Rounds" "length" "I", Cond.methodLink RX7 228 yX3_split, Cond.instanceMethod yX3_split]
def wsL_law_r29 : List Cond := [Cond.selects RX3 yX3_split yX3_split, Cond.code yX3_split cX3_split 10 none, Cond.constantLong RX3 23 (-1), Cond.fieldLink RX3 25 "RingPages$Rounds" "many" "I", Cond.fieldLink RX3 28 "RingPages$Rounds" "cuts" "I", Cond.methodLink RX3 31 yJ6_bitCount_0f7a4, Cond.methodLink RX3 37 yX3_meanPaged, Cond.instanceMethod yX3_meanPaged, Cond.selects RX3 yX3_meanPaged yX3_meanPaged, Cond.code yX3_meanPaged cX3_meanPaged 7 (some .long), Cond.methodLink RX3 41 yX3_isCutBehind, Cond.instanceMethod yX3_isCutBehind, Cond.selects RX3 yX3_isCutBehind yX3_isCutBehind, Cond.code yX3_isCutBehind cX3_isCutBehind 3 (some .boolean), Cond.methodLink RX7 178 yX3_cellsOf, Cond.instanceMethod yX3_cellsOf, Cond.selects RX3 yX3_cellsOf yX3_cellsOf, Cond.code yX3_cellsOf cX3_cellsOf 5 (some .int), Cond.methodLink RX7 182 yJ6_bitCount_0f7a4, Cond.methodLink RX7 190 yX7_holds, Cond.methodLink RL 68 yX8_page, Cond.instanceMethod yX8_page, Cond.selects RX8 yX8_page yX8_page, Cond.code yX8_page cX8_page 2 (some .int)]
def wsL_law_r30 : List Cond := [Cond.fieldLink RX8 221 "RingPagesModel" "cuts" "I", Cond.methodLink RX8 233 yX8_splits, Cond.instanceMethod yX8_splits, Cond.selects RX8 yX8_splits yX8_splits, Cond.code yX8_splits cX8_splits 8 none, Cond.fieldLink RX8 215 "RingPagesModel" "rows" "I", Cond.methodLink RX8 218 yX8_ranks, Cond.instanceMethod yX8_ranks, Cond.selects RX8 yX8_ranks yX8_ranks, Cond.code yX8_ranks cX8_ranks 4 none, Cond.methodLink RX8 173 yX8_whereIs, Cond.instanceMethod yX8_whereIs, Cond.selects RX8 yX8_whereIs yX8_whereIs, Cond.code yX8_whereIs cX8_whereIs 7 (some .int), Cond.methodLink RX8 170 yX8_allowed, Cond.instanceMethod yX8_allowed, Cond.selects RX8 yX8_allowed yX8_allowed, Cond.code yX8_allowed cX8_allowed 5 (some .int), Cond.methodLink RX8 224 yX8_paged, Cond.instanceMethod yX8_paged, Cond.selects RX8 yX8_paged yX8_paged, Cond.code yX8_paged cX8_paged 6 (some .long), Cond.methodLink RX8 227 yX8_bits, Cond.static yX8_bits]
def wsL_law_r31 : List Cond := [Cond.code yX8_bits cX8_bits 3 (some .int), Cond.methodLink RX8 230 yX8_isFirst, Cond.static yX8_isFirst, Cond.code yX8_isFirst cX8_isFirst 4 (some .boolean), Cond.methodLink RL 69 yX7_handset, Cond.instanceMethod yX7_handset, Cond.selects RX7 yX7_handset yX7_handset, Cond.code yX7_handset cX7_handset 2 (some .int), Cond.fieldLink RX7 196 "RingPages$State" "home" "I", Cond.fieldLink RX7 199 "RingPages$State" "moves" "I", Cond.fieldLink RX7 202 "RingPages$State" "ticks" "I", Cond.fieldLink RX7 205 "RingPages$State" "updates" "I", Cond.fieldLink RX7 208 "RingPages$Net" "pageCost" "I", Cond.fieldLink RX7 211 "RingPages$Net" "updateCost" "I", Cond.methodLink RL 72 yX8_handset, Cond.instanceMethod yX8_handset, Cond.selects RX8 yX8_handset yX8_handset, Cond.code yX8_handset cX8_handset 2 (some .int), Cond.methodLink RL 73 yX7_where, Cond.instanceMethod yX7_where, Cond.selects RX7 yX7_where yX7_where, Cond.code yX7_where cX7_where 1 (some .int), Cond.methodLink RL 76 yX8_where, Cond.instanceMethod yX8_where]
def wsL_law_r32 : List Cond := [Cond.selects RX8 yX8_where yX8_where, Cond.code yX8_where cX8_where 1 (some .int), Cond.methodLink RL 77 yX7_round, Cond.instanceMethod yX7_round, Cond.selects RX7 yX7_round yX7_round, Cond.code yX7_round cX7_round 2 (some .int), Cond.methodLink RL 80 yX8_round, Cond.instanceMethod yX8_round, Cond.selects RX8 yX8_round yX8_round, Cond.code yX8_round cX8_round 5 (some .int), Cond.methodLink RL 81 yX7_chance, Cond.instanceMethod yX7_chance, Cond.selects RX7 yX7_chance yX7_chance, Cond.code yX7_chance cX7_chance 3 (some .long), Cond.constantLong RX7 234 (-1), Cond.fieldLink RX7 236 "RingPages$LongRun" "below" "J", Cond.methodLink RX7 231 yX7_isPart, Cond.static yX7_isPart, Cond.code yX7_isPart cX7_isPart 1 (some .boolean), Cond.methodLink RX7 240 yX7_lowest, Cond.static yX7_lowest, Cond.code yX7_lowest cX7_lowest 7 (some .long), Cond.methodLink RX7 289 yX7_greatestShared, Cond.static yX7_greatestShared]
def wsL_law_r33 : List Cond := [Cond.code yX7_greatestShared cX7_greatestShared 7 (some .long), Cond.methodLink RL 85 yX8_chance, Cond.instanceMethod yX8_chance, Cond.selects RX8 yX8_chance yX8_chance, Cond.code yX8_chance cX8_chance 3 (some .long), Cond.constantLong RX8 184 (-1), Cond.methodLink RX8 189 yX8_below, Cond.instanceMethod yX8_below, Cond.selects RX8 yX8_below yX8_below, Cond.code yX8_below cX8_below 4 (some .long), Cond.methodLink RX8 193 yX8_term, Cond.static yX8_term, Cond.code yX8_term cX8_term 7 (some .long), Cond.methodLink RX8 180 yX8_common, Cond.static yX8_common, Cond.code yX8_common cX8_common 10 (some .long), Cond.methodLink RL 86 yX7_mean, Cond.instanceMethod yX7_mean, Cond.selects RX7 yX7_mean yX7_mean, Cond.code yX7_mean cX7_mean 3 (some .long), Cond.constantLong RX7 259 (100), Cond.methodLink RX7 244 yX0_crosses, Cond.methodLink RX7 248 yX0_movesOn, Cond.instanceMethod yX0_movesOn]
def wsL_law_r34 : List Cond := [Cond.selects RX0 yX0_movesOn yX0_movesOn, Cond.code yX0_movesOn cX0_movesOn 5 (some .long), Cond.methodLink RX7 252 yX7_rate, Cond.instanceMethod yX7_rate, Cond.selects RX7 yX7_rate yX7_rate, Cond.code yX7_rate cX7_rate 2 (some .long), Cond.constantLong RX7 261 (-4), Cond.methodLink RX7 256 yX0_expense, Cond.methodLink RL 89 yX8_mean, Cond.instanceMethod yX8_mean, Cond.selects RX8 yX8_mean yX8_mean, Cond.code yX8_mean cX8_mean 5 (some .long), Cond.constantLong RX8 207 (-4), Cond.methodLink RL 90 yX7_best, Cond.instanceMethod yX7_best, Cond.selects RX7 yX7_best yX7_best, Cond.code yX7_best cX7_best 2 (some .int), Cond.methodLink RL 93 yX8_best, Cond.instanceMethod yX8_best, Cond.selects RX8 yX8_best yX8_best, Cond.code yX8_best cX8_best 2 (some .int), Cond.methodLink RL 94 yX7_least, Cond.instanceMethod yX7_least, Cond.selects RX7 yX7_least yX7_least]
def wsL_law_r35 : List Cond := [Cond.code yX7_least cX7_least 2 (some .long), Cond.fieldLink RX7 263 "RingPages$LongRun" "leastExpense" "J", Cond.methodLink RL 98 yX8_least, Cond.instanceMethod yX8_least, Cond.selects RX8 yX8_least yX8_least, Cond.code yX8_least cX8_least 2 (some .long), Cond.methodLink RL 99 yX7_walk, Cond.instanceMethod yX7_walk, Cond.selects RX7 yX7_walk yX7_walk, Cond.code yX7_walk cX7_walk 8 (some .int), Cond.methodLink RX7 266 yX4_copyFrom, Cond.methodLink RX7 269 yX7_draw, Cond.static yX7_draw, Cond.code yX7_draw cX7_draw 4 (some .int), Cond.constantLong RX7 283 (7919), Cond.constantLong RX7 285 (6151), Cond.constantLong RX7 287 (65521), Cond.methodLink RX7 273 yX4_drawnCell, Cond.instanceMethod yX4_drawnCell, Cond.selects RX4 yX4_drawnCell yX4_drawnCell, Cond.code yX4_drawnCell cX4_drawnCell 7 (some .int), Cond.fieldLink RX4 73 "RingPages$Net" "out" "[I", Cond.fieldLink RX4 76 "RingPages$Net" "cells" "I", Cond.fieldLink RX4 79 "RingPages$Net" "weight" "[[I"]
def wsL_law_r36 : List Cond := [Cond.methodLink RL 102 yX8_walk, Cond.instanceMethod yX8_walk, Cond.selects RX8 yX8_walk yX8_walk, Cond.code yX8_walk cX8_walk 13 (some .int), Cond.constantLong RX8 236 (7919), Cond.constantLong RX8 238 (6151), Cond.constantLong RX8 240 (65521), Cond.methodLink RL 103 yX7_count, Cond.instanceMethod yX7_count, Cond.selects RX7 yX7_count yX7_count, Cond.code yX7_count cX7_count 2 (some .int), Cond.fieldLink RX7 277 "RingPages$Net" "joins" "I", Cond.fieldLink RX7 280 "RingPages$Net" "callChance" "I", Cond.methodLink RL 106 yX8_count, Cond.instanceMethod yX8_count, Cond.selects RX8 yX8_count yX8_count, Cond.code yX8_count cX8_count 2 (some .int)]
def wsL_law : List Cond := (wsL_law_r1 ++ (wsL_law_r2 ++ (wsL_law_r3 ++ (wsL_law_r4 ++ (wsL_law_r5 ++ (wsL_law_r6 ++ (wsL_law_r7 ++ (wsL_law_r8 ++ (wsL_law_r9 ++ (wsL_law_r10 ++ (wsL_law_r11 ++ (wsL_law_r12 ++ (wsL_law_r13 ++ (wsL_law_r14 ++ (wsL_law_r15 ++ (wsL_law_r16 ++ (wsL_law_r17 ++ (wsL_law_r18 ++ (wsL_law_r19 ++ (wsL_law_r20 ++ (wsL_law_r21 ++ (wsL_law_r22 ++ (wsL_law_r23 ++ (wsL_law_r24 ++ (wsL_law_r25 ++ (wsL_law_r26 ++ (wsL_law_r27 ++ (wsL_law_r28 ++ (wsL_law_r29 ++ (wsL_law_r30 ++ (wsL_law_r31 ++ (wsL_law_r32 ++ (wsL_law_r33 ++ (wsL_law_r34 ++ (wsL_law_r35 ++ wsL_law_r36))))))))))))))))))))))))))))))))))) ++ wsX70 ++ wsX80 ++ wsX50 ++ wsX20 ++ wsX00 ++ wsX60 ++ wsX30 ++ wsX40 ++ wsX10 ++ ([] : List Cond)
theorem dX0_init_0 : decode cX0_init 0 = .ok (.aload_n 0, 1) := by decide +kernel
theorem dX0_init_1 : decode cX0_init 1 = .ok (.invokespecial 3, 3) := by decide +kernel
theorem dX0_init_4 : decode cX0_init 4 = .ok (.aload_n 0, 1) := by decide +kernel
theorem dX0_init_5 : decode cX0_init 5 = .ok (.bipush 6, 2) := by decide +kernel
theorem dX0_init_7 : decode cX0_init 7 = .ok (.newarray .long, 2) := by decide +kernel
theorem dX0_init_9 : decode cX0_init 9 = .ok (.putfield 9, 3) := by decide +kernel
theorem dX0_init_12 : decode cX0_init 12 = .ok (.aload_n 0, 1) := by decide +kernel
theorem dX0_init_13 : decode cX0_init 13 = .ok (.bipush 6, 2) := by decide +kernel
theorem dX0_init_15 : decode cX0_init 15 = .ok (.newarray .int, 2) := by decide +kernel
theorem dX0_init_17 : decode cX0_init 17 = .ok (.putfield 15, 3) := by decide +kernel
theorem dX0_init_20 : decode cX0_init 20 = .ok (.aload_n 0, 1) := by decide +kernel
theorem dX0_init_21 : decode cX0_init 21 = .ok (.bipush 6, 2) := by decide +kernel
theorem dX0_init_23 : decode cX0_init 23 = .ok (.newarray .int, 2) := by decide +kernel
theorem dX0_init_25 : decode cX0_init 25 = .ok (.putfield 19, 3) := by decide +kernel
theorem dX0_init_28 : decode cX0_init 28 = .ok (.return_, 1) := by decide +kernel
theorem dX0_reckon_0 : decode cX0_reckon 0 = .ok (.aload_n 0, 1) := by decide +kernel
theorem dX0_reckon_1 : decode cX0_reckon 1 = .ok (.lconst 0, 1) := by decide +kernel
theorem dX0_reckon_2 : decode cX0_reckon 2 = .ok (.putfield 22, 3) := by decide +kernel
theorem dX0_reckon_5 : decode cX0_reckon 5 = .ok (.iconst 0, 1) := by decide +kernel
theorem dX0_reckon_6 : decode cX0_reckon 6 = .ok (.istore_n 3, 1) := by decide +kernel
theorem dX0_reckon_7 : decode cX0_reckon 7 = .ok (.iload_n 3, 1) := by decide +kernel
theorem dX0_reckon_8 : decode cX0_reckon 8 = .ok (.aload_n 1, 1) := by decide +kernel
theorem dX0_reckon_9 : decode cX0_reckon 9 = .ok (.getfield 26, 3) := by decide +kernel
theorem dX0_reckon_12 : decode cX0_reckon 12 = .ok (.if_icmp .ge 51, 3) := by decide +kernel
theorem dX0_reckon_15 : decode cX0_reckon 15 = .ok (.aload_n 0, 1) := by decide +kernel
theorem dX0_reckon_16 : decode cX0_reckon 16 = .ok (.getfield 9, 3) := by decide +kernel
theorem dX0_reckon_19 : decode cX0_reckon 19 = .ok (.iload_n 3, 1) := by decide +kernel
theorem dX0_reckon_20 : decode cX0_reckon 20 = .ok (.aload_n 2, 1) := by decide +kernel
theorem dX0_reckon_21 : decode cX0_reckon 21 = .ok (.getfield 32, 3) := by decide +kernel
theorem dX0_reckon_24 : decode cX0_reckon 24 = .ok (.iload_n 3, 1) := by decide +kernel
theorem dX0_reckon_25 : decode cX0_reckon 25 = .ok (.iaload, 1) := by decide +kernel
theorem dX0_reckon_26 : decode cX0_reckon 26 = .ok (.aload_n 1, 1) := by decide +kernel
theorem dX0_reckon_27 : decode cX0_reckon 27 = .ok (.getfield 37, 3) := by decide +kernel
theorem dX0_reckon_30 : decode cX0_reckon 30 = .ok (.iload_n 3, 1) := by decide +kernel
theorem dX0_reckon_31 : decode cX0_reckon 31 = .ok (.iaload, 1) := by decide +kernel
theorem dX0_reckon_32 : decode cX0_reckon 32 = .ok (.iadd, 1) := by decide +kernel
theorem dX0_reckon_33 : decode cX0_reckon 33 = .ok (.i2l, 1) := by decide +kernel
theorem dX0_reckon_34 : decode cX0_reckon 34 = .ok (.aload_n 1, 1) := by decide +kernel
theorem dX0_reckon_35 : decode cX0_reckon 35 = .ok (.getfield 40, 3) := by decide +kernel
theorem dX0_reckon_38 : decode cX0_reckon 38 = .ok (.iload_n 3, 1) := by decide +kernel
theorem dX0_reckon_39 : decode cX0_reckon 39 = .ok (.laload, 1) := by decide +kernel
theorem dX0_reckon_40 : decode cX0_reckon 40 = .ok (.lmul, 1) := by decide +kernel
theorem dX0_reckon_41 : decode cX0_reckon 41 = .ok (.lastore, 1) := by decide +kernel
theorem dX0_reckon_42 : decode cX0_reckon 42 = .ok (.aload_n 0, 1) := by decide +kernel
theorem dX0_reckon_43 : decode cX0_reckon 43 = .ok (.dup, 1) := by decide +kernel
theorem dX0_reckon_44 : decode cX0_reckon 44 = .ok (.getfield 22, 3) := by decide +kernel
theorem dX0_reckon_47 : decode cX0_reckon 47 = .ok (.aload_n 0, 1) := by decide +kernel
theorem dX0_reckon_48 : decode cX0_reckon 48 = .ok (.getfield 9, 3) := by decide +kernel
theorem dX0_reckon_51 : decode cX0_reckon 51 = .ok (.iload_n 3, 1) := by decide +kernel
theorem dX0_reckon_52 : decode cX0_reckon 52 = .ok (.laload, 1) := by decide +kernel
theorem dX0_reckon_53 : decode cX0_reckon 53 = .ok (.ladd, 1) := by decide +kernel
theorem dX0_reckon_54 : decode cX0_reckon 54 = .ok (.putfield 22, 3) := by decide +kernel
theorem dX0_reckon_57 : decode cX0_reckon 57 = .ok (.iinc 3 1, 3) := by decide +kernel
theorem dX0_reckon_60 : decode cX0_reckon 60 = .ok (.goto (-53), 3) := by decide +kernel
theorem dX0_reckon_63 : decode cX0_reckon 63 = .ok (.aload_n 0, 1) := by decide +kernel
theorem dX0_reckon_64 : decode cX0_reckon 64 = .ok (.iconst 0, 1) := by decide +kernel
theorem dX0_reckon_65 : decode cX0_reckon 65 = .ok (.putfield 43, 3) := by decide +kernel
theorem dX0_reckon_68 : decode cX0_reckon 68 = .ok (.return_, 1) := by decide +kernel
theorem dX0_crosses_0 : decode cX0_crosses 0 = .ok (.lconst 0, 1) := by decide +kernel
theorem dX0_crosses_1 : decode cX0_crosses 1 = .ok (.lstore_n 3, 1) := by decide +kernel
theorem dX0_crosses_2 : decode cX0_crosses 2 = .ok (.iconst 0, 1) := by decide +kernel
theorem dX0_crosses_3 : decode cX0_crosses 3 = .ok (.istore 5, 2) := by decide +kernel
theorem dX0_crosses_5 : decode cX0_crosses 5 = .ok (.iload 5, 2) := by decide +kernel
theorem dX0_crosses_7 : decode cX0_crosses 7 = .ok (.aload_n 1, 1) := by decide +kernel
theorem dX0_crosses_8 : decode cX0_crosses 8 = .ok (.getfield 26, 3) := by decide +kernel
theorem dX0_crosses_11 : decode cX0_crosses 11 = .ok (.if_icmp .ge 60, 3) := by decide +kernel
theorem dX0_crosses_14 : decode cX0_crosses 14 = .ok (.iconst 0, 1) := by decide +kernel
theorem dX0_crosses_15 : decode cX0_crosses 15 = .ok (.istore 6, 2) := by decide +kernel
theorem dX0_crosses_17 : decode cX0_crosses 17 = .ok (.iload 6, 2) := by decide +kernel
theorem dX0_crosses_19 : decode cX0_crosses 19 = .ok (.aload_n 1, 1) := by decide +kernel
theorem dX0_crosses_20 : decode cX0_crosses 20 = .ok (.getfield 26, 3) := by decide +kernel
theorem dX0_crosses_23 : decode cX0_crosses 23 = .ok (.if_icmp .ge 42, 3) := by decide +kernel
theorem dX0_crosses_26 : decode cX0_crosses 26 = .ok (.aload_n 2, 1) := by decide +kernel
theorem dX0_crosses_27 : decode cX0_crosses 27 = .ok (.iload 5, 2) := by decide +kernel
theorem dX0_crosses_29 : decode cX0_crosses 29 = .ok (.iaload, 1) := by decide +kernel
theorem dX0_crosses_30 : decode cX0_crosses 30 = .ok (.aload_n 2, 1) := by decide +kernel
theorem dX0_crosses_31 : decode cX0_crosses 31 = .ok (.iload 6, 2) := by decide +kernel
theorem dX0_crosses_33 : decode cX0_crosses 33 = .ok (.iaload, 1) := by decide +kernel
theorem dX0_crosses_34 : decode cX0_crosses 34 = .ok (.if_icmp .eq 25, 3) := by decide +kernel
theorem dX0_crosses_37 : decode cX0_crosses 37 = .ok (.lload_n 3, 1) := by decide +kernel
theorem dX0_crosses_38 : decode cX0_crosses 38 = .ok (.aload_n 1, 1) := by decide +kernel
theorem dX0_crosses_39 : decode cX0_crosses 39 = .ok (.getfield 40, 3) := by decide +kernel
theorem dX0_crosses_42 : decode cX0_crosses 42 = .ok (.iload 5, 2) := by decide +kernel
theorem dX0_crosses_44 : decode cX0_crosses 44 = .ok (.laload, 1) := by decide +kernel
theorem dX0_crosses_45 : decode cX0_crosses 45 = .ok (.aload_n 1, 1) := by decide +kernel
theorem dX0_crosses_46 : decode cX0_crosses 46 = .ok (.getfield 47, 3) := by decide +kernel
theorem dX0_crosses_49 : decode cX0_crosses 49 = .ok (.iload 5, 2) := by decide +kernel
theorem dX0_crosses_51 : decode cX0_crosses 51 = .ok (.aaload, 1) := by decide +kernel
theorem dX0_crosses_52 : decode cX0_crosses 52 = .ok (.iload 6, 2) := by decide +kernel
theorem dX0_crosses_54 : decode cX0_crosses 54 = .ok (.iaload, 1) := by decide +kernel
theorem dX0_crosses_55 : decode cX0_crosses 55 = .ok (.i2l, 1) := by decide +kernel
theorem dX0_crosses_56 : decode cX0_crosses 56 = .ok (.lmul, 1) := by decide +kernel
theorem dX0_crosses_57 : decode cX0_crosses 57 = .ok (.ladd, 1) := by decide +kernel
theorem dX0_crosses_58 : decode cX0_crosses 58 = .ok (.lstore_n 3, 1) := by decide +kernel
theorem dX0_crosses_59 : decode cX0_crosses 59 = .ok (.iinc 6 1, 3) := by decide +kernel
theorem dX0_crosses_62 : decode cX0_crosses 62 = .ok (.goto (-45), 3) := by decide +kernel
theorem dX0_crosses_65 : decode cX0_crosses 65 = .ok (.iinc 5 1, 3) := by decide +kernel
theorem dX0_crosses_68 : decode cX0_crosses 68 = .ok (.goto (-63), 3) := by decide +kernel
theorem dX0_crosses_71 : decode cX0_crosses 71 = .ok (.lload_n 3, 1) := by decide +kernel
theorem dX0_crosses_72 : decode cX0_crosses 72 = .ok (.lreturn, 1) := by decide +kernel
theorem dX0_movesOn_0 : decode cX0_movesOn 0 = .ok (.lconst 0, 1) := by decide +kernel
theorem dX0_movesOn_1 : decode cX0_movesOn 1 = .ok (.lstore_n 2, 1) := by decide +kernel
theorem dX0_movesOn_2 : decode cX0_movesOn 2 = .ok (.iconst 0, 1) := by decide +kernel
theorem dX0_movesOn_3 : decode cX0_movesOn 3 = .ok (.istore 4, 2) := by decide +kernel
theorem dX0_movesOn_5 : decode cX0_movesOn 5 = .ok (.iload 4, 2) := by decide +kernel
theorem dX0_movesOn_7 : decode cX0_movesOn 7 = .ok (.aload_n 1, 1) := by decide +kernel
theorem dX0_movesOn_8 : decode cX0_movesOn 8 = .ok (.getfield 26, 3) := by decide +kernel
theorem dX0_movesOn_11 : decode cX0_movesOn 11 = .ok (.if_icmp .ge 28, 3) := by decide +kernel
theorem dX0_movesOn_14 : decode cX0_movesOn 14 = .ok (.lload_n 2, 1) := by decide +kernel
theorem dX0_movesOn_15 : decode cX0_movesOn 15 = .ok (.aload_n 1, 1) := by decide +kernel
theorem dX0_movesOn_16 : decode cX0_movesOn 16 = .ok (.getfield 40, 3) := by decide +kernel
theorem dX0_movesOn_19 : decode cX0_movesOn 19 = .ok (.iload 4, 2) := by decide +kernel
theorem dX0_movesOn_21 : decode cX0_movesOn 21 = .ok (.laload, 1) := by decide +kernel
theorem dX0_movesOn_22 : decode cX0_movesOn 22 = .ok (.aload_n 1, 1) := by decide +kernel
theorem dX0_movesOn_23 : decode cX0_movesOn 23 = .ok (.getfield 37, 3) := by decide +kernel
theorem dX0_movesOn_26 : decode cX0_movesOn 26 = .ok (.iload 4, 2) := by decide +kernel
theorem dX0_movesOn_28 : decode cX0_movesOn 28 = .ok (.iaload, 1) := by decide +kernel
theorem dX0_movesOn_29 : decode cX0_movesOn 29 = .ok (.i2l, 1) := by decide +kernel
theorem dX0_movesOn_30 : decode cX0_movesOn 30 = .ok (.lmul, 1) := by decide +kernel
theorem dX0_movesOn_31 : decode cX0_movesOn 31 = .ok (.ladd, 1) := by decide +kernel
theorem dX0_movesOn_32 : decode cX0_movesOn 32 = .ok (.lstore_n 2, 1) := by decide +kernel
theorem dX0_movesOn_33 : decode cX0_movesOn 33 = .ok (.iinc 4 1, 3) := by decide +kernel
theorem dX0_movesOn_36 : decode cX0_movesOn 36 = .ok (.goto (-31), 3) := by decide +kernel
theorem dX0_movesOn_39 : decode cX0_movesOn 39 = .ok (.lload_n 2, 1) := by decide +kernel
theorem dX0_movesOn_40 : decode cX0_movesOn 40 = .ok (.lreturn, 1) := by decide +kernel
set_option maxRecDepth 20000 in
theorem ggX0_expense_X7_sameArea : GoodIn wsX0_expense wsX7_sameArea := goodIn_r _ [8] (by decide +kernel) (by decide +kernel)
set_option maxRecDepth 20000 in
theorem gX0_expense_X7_sameArea_n51 : GoodIn wsX0_expense (wsX7_sameArea) := ggX0_expense_X7_sameArea
set_option maxRecDepth 20000 in
theorem ggX0_expense_X0_crosses : GoodIn wsX0_expense wsX0_crosses := goodIn_r _ [13, 1, 14, 15, 16, 17, 18, 19, 20, 21, 22, 23, 24, 25, 26, 27] (by decide +kernel) (by decide +kernel)
set_option maxRecDepth 20000 in
theorem gX0_expense_X0_crosses : GoodIn wsX0_expense (wsV RX0 58 RX0 yX0_crosses wsX0_crosses) := goodIn_app (goodIn_of _ (by decide +kernel)) ggX0_expense_X0_crosses
theorem dX0_expense_0 : decode cX0_expense 0 = .ok (.lconst 0, 1) := by decide +kernel
theorem dX0_expense_1 : decode cX0_expense 1 = .ok (.lstore_n 3, 1) := by decide +kernel
theorem dX0_expense_2 : decode cX0_expense 2 = .ok (.iconst 0, 1) := by decide +kernel
theorem dX0_expense_3 : decode cX0_expense 3 = .ok (.istore 5, 2) := by decide +kernel
theorem dX0_expense_5 : decode cX0_expense 5 = .ok (.iload 5, 2) := by decide +kernel
theorem dX0_expense_7 : decode cX0_expense 7 = .ok (.aload_n 1, 1) := by decide +kernel
theorem dX0_expense_8 : decode cX0_expense 8 = .ok (.getfield 26, 3) := by decide +kernel
theorem dX0_expense_11 : decode cX0_expense 11 = .ok (.if_icmp .ge 31, 3) := by decide +kernel
theorem dX0_expense_14 : decode cX0_expense 14 = .ok (.lload_n 3, 1) := by decide +kernel
theorem dX0_expense_15 : decode cX0_expense 15 = .ok (.aload_n 0, 1) := by decide +kernel
theorem dX0_expense_16 : decode cX0_expense 16 = .ok (.getfield 9, 3) := by decide +kernel
theorem dX0_expense_19 : decode cX0_expense 19 = .ok (.iload 5, 2) := by decide +kernel
theorem dX0_expense_21 : decode cX0_expense 21 = .ok (.laload, 1) := by decide +kernel
theorem dX0_expense_22 : decode cX0_expense 22 = .ok (.aload_n 1, 1) := by decide +kernel
theorem dX0_expense_23 : decode cX0_expense 23 = .ok (.getfield 26, 3) := by decide +kernel
theorem dX0_expense_26 : decode cX0_expense 26 = .ok (.aload_n 2, 1) := by decide +kernel
theorem dX0_expense_27 : decode cX0_expense 27 = .ok (.iload 5, 2) := by decide +kernel
theorem dX0_expense_29 : decode cX0_expense 29 = .ok (.invokestatic 51, 3) := by decide +kernel
theorem dX0_expense_32 : decode cX0_expense 32 = .ok (.i2l, 1) := by decide +kernel
theorem dX0_expense_33 : decode cX0_expense 33 = .ok (.lmul, 1) := by decide +kernel
theorem dX0_expense_34 : decode cX0_expense 34 = .ok (.ladd, 1) := by decide +kernel
theorem dX0_expense_35 : decode cX0_expense 35 = .ok (.lstore_n 3, 1) := by decide +kernel
theorem dX0_expense_36 : decode cX0_expense 36 = .ok (.iinc 5 1, 3) := by decide +kernel
theorem dX0_expense_39 : decode cX0_expense 39 = .ok (.goto (-34), 3) := by decide +kernel
theorem dX0_expense_42 : decode cX0_expense 42 = .ok (.bipush 100, 2) := by decide +kernel
theorem dX0_expense_44 : decode cX0_expense 44 = .ok (.aload_n 1, 1) := by decide +kernel
theorem dX0_expense_45 : decode cX0_expense 45 = .ok (.getfield 55, 3) := by decide +kernel
theorem dX0_expense_48 : decode cX0_expense 48 = .ok (.imul, 1) := by decide +kernel
theorem dX0_expense_49 : decode cX0_expense 49 = .ok (.i2l, 1) := by decide +kernel
theorem dX0_expense_50 : decode cX0_expense 50 = .ok (.aload_n 0, 1) := by decide +kernel
theorem dX0_expense_51 : decode cX0_expense 51 = .ok (.aload_n 1, 1) := by decide +kernel
theorem dX0_expense_52 : decode cX0_expense 52 = .ok (.aload_n 2, 1) := by decide +kernel
theorem dX0_expense_53 : decode cX0_expense 53 = .ok (.invokevirtual 58, 3) := by decide +kernel
theorem dX0_expense_56 : decode cX0_expense 56 = .ok (.lmul, 1) := by decide +kernel
theorem dX0_expense_57 : decode cX0_expense 57 = .ok (.aload_n 1, 1) := by decide +kernel
theorem dX0_expense_58 : decode cX0_expense 58 = .ok (.getfield 62, 3) := by decide +kernel
theorem dX0_expense_61 : decode cX0_expense 61 = .ok (.aload_n 1, 1) := by decide +kernel
theorem dX0_expense_62 : decode cX0_expense 62 = .ok (.getfield 65, 3) := by decide +kernel
theorem dX0_expense_65 : decode cX0_expense 65 = .ok (.imul, 1) := by decide +kernel
theorem dX0_expense_66 : decode cX0_expense 66 = .ok (.i2l, 1) := by decide +kernel
theorem dX0_expense_67 : decode cX0_expense 67 = .ok (.lload_n 3, 1) := by decide +kernel
theorem dX0_expense_68 : decode cX0_expense 68 = .ok (.lmul, 1) := by decide +kernel
theorem dX0_expense_69 : decode cX0_expense 69 = .ok (.ladd, 1) := by decide +kernel
theorem dX0_expense_70 : decode cX0_expense 70 = .ok (.lreturn, 1) := by decide +kernel
set_option maxRecDepth 20000 in
theorem ggX0_findBest_X0_expense : GoodIn wsX0_findBest wsX0_expense := goodIn_r _ [9, 3, 10, 11, 12, 13, 14, 15, 16, 17, 18, 19, 8, 20, 21, 22, 50, 51, 52, 53, 54, 55, 56, 57, 58, 59, 60, 61, 44, 45, 46, 47, 48, 49] (by decide +kernel) (by decide +kernel)
set_option maxRecDepth 20000 in
theorem gX0_findBest_X0_expense : GoodIn wsX0_findBest (wsV RX0 68 RX0 yX0_expense wsX0_expense) := goodIn_app (goodIn_of _ (by decide +kernel)) ggX0_findBest_X0_expense
set_option maxRecDepth 20000 in
theorem ggX0_findBest_X0_takeTried : GoodIn wsX0_findBest wsX0_takeTried := goodIn_r _ [26, 4, 2, 27, 28, 29, 30, 31, 44, 45, 46, 47, 48, 49] (by decide +kernel) (by decide +kernel)
set_option maxRecDepth 20000 in
theorem gX0_findBest_X0_takeTried : GoodIn wsX0_findBest (wsV RX0 71 RX0 yX0_takeTried wsX0_takeTried) := goodIn_app (goodIn_of _ (by decide +kernel)) ggX0_findBest_X0_takeTried
set_option maxRecDepth 20000 in
theorem ggX0_findBest_X0_nextTried : GoodIn wsX0_findBest wsX0_nextTried := goodIn_r _ [35, 2, 36, 37, 38, 8, 39, 40, 41, 42, 43, 44, 45, 46, 47, 48, 49] (by decide +kernel) (by decide +kernel)
set_option maxRecDepth 20000 in
theorem gX0_findBest_X0_nextTried : GoodIn wsX0_findBest (wsV RX0 75 RX0 yX0_nextTried wsX0_nextTried) := goodIn_app (goodIn_of _ (by decide +kernel)) ggX0_findBest_X0_nextTried
theorem dX0_findBest_0 : decode cX0_findBest 0 = .ok (.aload_n 0, 1) := by decide +kernel
theorem dX0_findBest_1 : decode cX0_findBest 1 = .ok (.getfield 43, 3) := by decide +kernel
theorem dX0_findBest_4 : decode cX0_findBest 4 = .ok (.ifCond .eq 4, 3) := by decide +kernel
theorem dX0_findBest_7 : decode cX0_findBest 7 = .ok (.return_, 1) := by decide +kernel
theorem dX0_findBest_8 : decode cX0_findBest 8 = .ok (.aload_n 0, 1) := by decide +kernel
theorem dX0_findBest_9 : decode cX0_findBest 9 = .ok (.iconst 1, 1) := by decide +kernel
theorem dX0_findBest_10 : decode cX0_findBest 10 = .ok (.putfield 43, 3) := by decide +kernel
theorem dX0_findBest_13 : decode cX0_findBest 13 = .ok (.iconst 0, 1) := by decide +kernel
theorem dX0_findBest_14 : decode cX0_findBest 14 = .ok (.istore_n 2, 1) := by decide +kernel
theorem dX0_findBest_15 : decode cX0_findBest 15 = .ok (.iload_n 2, 1) := by decide +kernel
theorem dX0_findBest_16 : decode cX0_findBest 16 = .ok (.bipush 6, 2) := by decide +kernel
theorem dX0_findBest_18 : decode cX0_findBest 18 = .ok (.if_icmp .ge 16, 3) := by decide +kernel
theorem dX0_findBest_21 : decode cX0_findBest 21 = .ok (.aload_n 0, 1) := by decide +kernel
theorem dX0_findBest_22 : decode cX0_findBest 22 = .ok (.getfield 19, 3) := by decide +kernel
theorem dX0_findBest_25 : decode cX0_findBest 25 = .ok (.iload_n 2, 1) := by decide +kernel
theorem dX0_findBest_26 : decode cX0_findBest 26 = .ok (.iconst 0, 1) := by decide +kernel
theorem dX0_findBest_27 : decode cX0_findBest 27 = .ok (.iastore, 1) := by decide +kernel
theorem dX0_findBest_28 : decode cX0_findBest 28 = .ok (.iinc 2 1, 3) := by decide +kernel
theorem dX0_findBest_31 : decode cX0_findBest 31 = .ok (.goto (-16), 3) := by decide +kernel
theorem dX0_findBest_34 : decode cX0_findBest 34 = .ok (.aload_n 0, 1) := by decide +kernel
theorem dX0_findBest_35 : decode cX0_findBest 35 = .ok (.aload_n 0, 1) := by decide +kernel
theorem dX0_findBest_36 : decode cX0_findBest 36 = .ok (.aload_n 1, 1) := by decide +kernel
theorem dX0_findBest_37 : decode cX0_findBest 37 = .ok (.aload_n 0, 1) := by decide +kernel
theorem dX0_findBest_38 : decode cX0_findBest 38 = .ok (.getfield 19, 3) := by decide +kernel
theorem dX0_findBest_41 : decode cX0_findBest 41 = .ok (.invokevirtual 68, 3) := by decide +kernel
theorem dX0_findBest_44 : decode cX0_findBest 44 = .ok (.invokevirtual 71, 3) := by decide +kernel
theorem dX0_findBest_47 : decode cX0_findBest 47 = .ok (.iconst 0, 1) := by decide +kernel
theorem dX0_findBest_48 : decode cX0_findBest 48 = .ok (.istore_n 2, 1) := by decide +kernel
theorem dX0_findBest_49 : decode cX0_findBest 49 = .ok (.iload_n 2, 1) := by decide +kernel
theorem dX0_findBest_50 : decode cX0_findBest 50 = .ok (.sipush 1000, 3) := by decide +kernel
theorem dX0_findBest_53 : decode cX0_findBest 53 = .ok (.if_icmp .ge 44, 3) := by decide +kernel
theorem dX0_findBest_56 : decode cX0_findBest 56 = .ok (.aload_n 0, 1) := by decide +kernel
theorem dX0_findBest_57 : decode cX0_findBest 57 = .ok (.aload_n 1, 1) := by decide +kernel
theorem dX0_findBest_58 : decode cX0_findBest 58 = .ok (.getfield 26, 3) := by decide +kernel
theorem dX0_findBest_61 : decode cX0_findBest 61 = .ok (.invokevirtual 75, 3) := by decide +kernel
theorem dX0_findBest_64 : decode cX0_findBest 64 = .ok (.ifCond .eq 33, 3) := by decide +kernel
theorem dX0_findBest_67 : decode cX0_findBest 67 = .ok (.aload_n 0, 1) := by decide +kernel
theorem dX0_findBest_68 : decode cX0_findBest 68 = .ok (.aload_n 1, 1) := by decide +kernel
theorem dX0_findBest_69 : decode cX0_findBest 69 = .ok (.aload_n 0, 1) := by decide +kernel
theorem dX0_findBest_70 : decode cX0_findBest 70 = .ok (.getfield 19, 3) := by decide +kernel
theorem dX0_findBest_73 : decode cX0_findBest 73 = .ok (.invokevirtual 68, 3) := by decide +kernel
theorem dX0_findBest_76 : decode cX0_findBest 76 = .ok (.lstore_n 3, 1) := by decide +kernel
theorem dX0_findBest_77 : decode cX0_findBest 77 = .ok (.lload_n 3, 1) := by decide +kernel
theorem dX0_findBest_78 : decode cX0_findBest 78 = .ok (.aload_n 0, 1) := by decide +kernel
theorem dX0_findBest_79 : decode cX0_findBest 79 = .ok (.getfield 79, 3) := by decide +kernel
theorem dX0_findBest_82 : decode cX0_findBest 82 = .ok (.lcmp, 1) := by decide +kernel
theorem dX0_findBest_83 : decode cX0_findBest 83 = .ok (.ifCond .ge 8, 3) := by decide +kernel
theorem dX0_findBest_86 : decode cX0_findBest 86 = .ok (.aload_n 0, 1) := by decide +kernel
theorem dX0_findBest_87 : decode cX0_findBest 87 = .ok (.lload_n 3, 1) := by decide +kernel
theorem dX0_findBest_88 : decode cX0_findBest 88 = .ok (.invokevirtual 71, 3) := by decide +kernel
theorem dX0_findBest_91 : decode cX0_findBest 91 = .ok (.iinc 2 1, 3) := by decide +kernel
theorem dX0_findBest_94 : decode cX0_findBest 94 = .ok (.goto (-45), 3) := by decide +kernel
theorem dX0_findBest_97 : decode cX0_findBest 97 = .ok (.return_, 1) := by decide +kernel
theorem dX0_takeTried_0 : decode cX0_takeTried 0 = .ok (.aload_n 0, 1) := by decide +kernel
theorem dX0_takeTried_1 : decode cX0_takeTried 1 = .ok (.lload_n 1, 1) := by decide +kernel
theorem dX0_takeTried_2 : decode cX0_takeTried 2 = .ok (.putfield 79, 3) := by decide +kernel
theorem dX0_takeTried_5 : decode cX0_takeTried 5 = .ok (.aload_n 0, 1) := by decide +kernel
theorem dX0_takeTried_6 : decode cX0_takeTried 6 = .ok (.getfield 19, 3) := by decide +kernel
theorem dX0_takeTried_9 : decode cX0_takeTried 9 = .ok (.iconst 0, 1) := by decide +kernel
theorem dX0_takeTried_10 : decode cX0_takeTried 10 = .ok (.aload_n 0, 1) := by decide +kernel
theorem dX0_takeTried_11 : decode cX0_takeTried 11 = .ok (.getfield 15, 3) := by decide +kernel
theorem dX0_takeTried_14 : decode cX0_takeTried 14 = .ok (.iconst 0, 1) := by decide +kernel
theorem dX0_takeTried_15 : decode cX0_takeTried 15 = .ok (.bipush 6, 2) := by decide +kernel
theorem dX0_takeTried_17 : decode cX0_takeTried 17 = .ok (.invokestatic 82, 3) := by decide +kernel
theorem dX0_takeTried_20 : decode cX0_takeTried 20 = .ok (.return_, 1) := by decide +kernel
set_option maxRecDepth 20000 in
theorem ggX0_nextTried_X0_highestAhead : GoodIn wsX0_nextTried wsX0_highestAhead := goodIn_r _ [6, 1, 7, 8, 9, 10, 11, 12, 13, 14, 15, 16] (by decide +kernel) (by decide +kernel)
set_option maxRecDepth 20000 in
theorem gX0_nextTried_X0_highestAhead : GoodIn wsX0_nextTried (wsV RX0 88 RX0 yX0_highestAhead wsX0_highestAhead) := goodIn_app (goodIn_of _ (by decide +kernel)) ggX0_nextTried_X0_highestAhead
theorem dX0_nextTried_0 : decode cX0_nextTried 0 = .ok (.iload_n 1, 1) := by decide +kernel
theorem dX0_nextTried_1 : decode cX0_nextTried 1 = .ok (.iconst 1, 1) := by decide +kernel
theorem dX0_nextTried_2 : decode cX0_nextTried 2 = .ok (.isub, 1) := by decide +kernel
theorem dX0_nextTried_3 : decode cX0_nextTried 3 = .ok (.istore_n 2, 1) := by decide +kernel
theorem dX0_nextTried_4 : decode cX0_nextTried 4 = .ok (.iload_n 2, 1) := by decide +kernel
theorem dX0_nextTried_5 : decode cX0_nextTried 5 = .ok (.ifCond .le 42, 3) := by decide +kernel
theorem dX0_nextTried_8 : decode cX0_nextTried 8 = .ok (.aload_n 0, 1) := by decide +kernel
theorem dX0_nextTried_9 : decode cX0_nextTried 9 = .ok (.getfield 19, 3) := by decide +kernel
theorem dX0_nextTried_12 : decode cX0_nextTried 12 = .ok (.iload_n 2, 1) := by decide +kernel
theorem dX0_nextTried_13 : decode cX0_nextTried 13 = .ok (.iaload, 1) := by decide +kernel
theorem dX0_nextTried_14 : decode cX0_nextTried 14 = .ok (.aload_n 0, 1) := by decide +kernel
theorem dX0_nextTried_15 : decode cX0_nextTried 15 = .ok (.iload_n 2, 1) := by decide +kernel
theorem dX0_nextTried_16 : decode cX0_nextTried 16 = .ok (.invokevirtual 88, 3) := by decide +kernel
theorem dX0_nextTried_19 : decode cX0_nextTried 19 = .ok (.if_icmp .gt 15, 3) := by decide +kernel
theorem dX0_nextTried_22 : decode cX0_nextTried 22 = .ok (.aload_n 0, 1) := by decide +kernel
theorem dX0_nextTried_23 : decode cX0_nextTried 23 = .ok (.getfield 19, 3) := by decide +kernel
theorem dX0_nextTried_26 : decode cX0_nextTried 26 = .ok (.iload_n 2, 1) := by decide +kernel
theorem dX0_nextTried_27 : decode cX0_nextTried 27 = .ok (.dup2, 1) := by decide +kernel
theorem dX0_nextTried_28 : decode cX0_nextTried 28 = .ok (.iaload, 1) := by decide +kernel
theorem dX0_nextTried_29 : decode cX0_nextTried 29 = .ok (.iconst 1, 1) := by decide +kernel
theorem dX0_nextTried_30 : decode cX0_nextTried 30 = .ok (.iadd, 1) := by decide +kernel
theorem dX0_nextTried_31 : decode cX0_nextTried 31 = .ok (.iastore, 1) := by decide +kernel
theorem dX0_nextTried_32 : decode cX0_nextTried 32 = .ok (.iconst 1, 1) := by decide +kernel
theorem dX0_nextTried_33 : decode cX0_nextTried 33 = .ok (.ireturn, 1) := by decide +kernel
theorem dX0_nextTried_34 : decode cX0_nextTried 34 = .ok (.aload_n 0, 1) := by decide +kernel
theorem dX0_nextTried_35 : decode cX0_nextTried 35 = .ok (.getfield 19, 3) := by decide +kernel
theorem dX0_nextTried_38 : decode cX0_nextTried 38 = .ok (.iload_n 2, 1) := by decide +kernel
theorem dX0_nextTried_39 : decode cX0_nextTried 39 = .ok (.iconst 0, 1) := by decide +kernel
theorem dX0_nextTried_40 : decode cX0_nextTried 40 = .ok (.iastore, 1) := by decide +kernel
theorem dX0_nextTried_41 : decode cX0_nextTried 41 = .ok (.iinc 2 (-1), 3) := by decide +kernel
theorem dX0_nextTried_44 : decode cX0_nextTried 44 = .ok (.goto (-40), 3) := by decide +kernel
theorem dX0_nextTried_47 : decode cX0_nextTried 47 = .ok (.iconst 0, 1) := by decide +kernel
theorem dX0_nextTried_48 : decode cX0_nextTried 48 = .ok (.ireturn, 1) := by decide +kernel
theorem dX0_highestAhead_0 : decode cX0_highestAhead 0 = .ok (.iconst 0, 1) := by decide +kernel
theorem dX0_highestAhead_1 : decode cX0_highestAhead 1 = .ok (.istore_n 2, 1) := by decide +kernel
theorem dX0_highestAhead_2 : decode cX0_highestAhead 2 = .ok (.iconst 0, 1) := by decide +kernel
theorem dX0_highestAhead_3 : decode cX0_highestAhead 3 = .ok (.istore_n 3, 1) := by decide +kernel
theorem dX0_highestAhead_4 : decode cX0_highestAhead 4 = .ok (.iload_n 3, 1) := by decide +kernel
theorem dX0_highestAhead_5 : decode cX0_highestAhead 5 = .ok (.iload_n 1, 1) := by decide +kernel
theorem dX0_highestAhead_6 : decode cX0_highestAhead 6 = .ok (.if_icmp .ge 20, 3) := by decide +kernel
theorem dX0_highestAhead_9 : decode cX0_highestAhead 9 = .ok (.iload_n 2, 1) := by decide +kernel
theorem dX0_highestAhead_10 : decode cX0_highestAhead 10 = .ok (.aload_n 0, 1) := by decide +kernel
theorem dX0_highestAhead_11 : decode cX0_highestAhead 11 = .ok (.getfield 19, 3) := by decide +kernel
theorem dX0_highestAhead_14 : decode cX0_highestAhead 14 = .ok (.iload_n 3, 1) := by decide +kernel
theorem dX0_highestAhead_15 : decode cX0_highestAhead 15 = .ok (.iaload, 1) := by decide +kernel
theorem dX0_highestAhead_16 : decode cX0_highestAhead 16 = .ok (.invokestatic 92, 3) := by decide +kernel
theorem dX0_highestAhead_19 : decode cX0_highestAhead 19 = .ok (.istore_n 2, 1) := by decide +kernel
theorem dX0_highestAhead_20 : decode cX0_highestAhead 20 = .ok (.iinc 3 1, 3) := by decide +kernel
theorem dX0_highestAhead_23 : decode cX0_highestAhead 23 = .ok (.goto (-19), 3) := by decide +kernel
theorem dX0_highestAhead_26 : decode cX0_highestAhead 26 = .ok (.iload_n 2, 1) := by decide +kernel
theorem dX0_highestAhead_27 : decode cX0_highestAhead 27 = .ok (.ireturn, 1) := by decide +kernel
theorem dX1_init_0 : decode cX1_init 0 = .ok (.aload_n 0, 1) := by decide +kernel
theorem dX1_init_1 : decode cX1_init 1 = .ok (.invokespecial 3, 3) := by decide +kernel
theorem dX1_init_4 : decode cX1_init 4 = .ok (.aload_n 0, 1) := by decide +kernel
theorem dX1_init_5 : decode cX1_init 5 = .ok (.bipush 6, 2) := by decide +kernel
theorem dX1_init_7 : decode cX1_init 7 = .ok (.bipush 6, 2) := by decide +kernel
theorem dX1_init_9 : decode cX1_init 9 = .ok (.multianewarray 9 2, 4) := by decide +kernel
theorem dX1_init_13 : decode cX1_init 13 = .ok (.putfield 11, 3) := by decide +kernel
theorem dX1_init_16 : decode cX1_init 16 = .ok (.aload_n 0, 1) := by decide +kernel
