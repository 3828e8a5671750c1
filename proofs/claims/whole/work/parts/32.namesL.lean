def wsL_law_r1 : List Cond := [Cond.classLink RL 7 RX6, Cond.instantiable RX6 12, Cond.initialized RX6, Cond.classLink RL 10 RX7, Cond.instantiable RX7 28, Cond.initialized RX7, Cond.methodLink RL 9 yX6_init, Cond.instanceMethod yX6_init, Cond.code yX6_init cX6_init 1 none, Cond.methodLink RX6 1 objectInit, Cond.instanceMethod objectInit, Cond.code objectInit ⟨#[0xb1]⟩ 1 none, Cond.classLink RX6 7 RX1, Cond.instantiable RX1 6, Cond.initialized RX1, Cond.fieldLink RX6 10 "LightKeepers" "text" "LLightKeepers$Reader;", Cond.classLink RX6 16 RX4, Cond.instantiable RX4 6, Cond.initialized RX4, Cond.fieldLink RX6 19 "LightKeepers" "draft" "LLightKeepers$Told;", Cond.classLink RX6 23 RX3, Cond.instantiable RX3 2, Cond.initialized RX3, Cond.fieldLink RX6 26 "LightKeepers" "shore" "LLightKeepers$Shore;"]
def wsL_law_r2 : List Cond := [Cond.classLink RX6 30 RX2, Cond.instantiable RX2 7, Cond.initialized RX2, Cond.fieldLink RX6 35 "LightKeepers" "anyhow" "LLightKeepers$Search;", Cond.fieldLink RX6 39 "LightKeepers" "safely" "LLightKeepers$Search;", Cond.classLink RX6 42 RX0, Cond.instantiable RX0 7, Cond.initialized RX0, Cond.fieldLink RX6 45 "LightKeepers" "present" "LLightKeepers$Moment;", Cond.fieldLink RX6 49 "LightKeepers" "image0" "LLightKeepers$Moment;", Cond.fieldLink RX6 52 "LightKeepers" "image1" "LLightKeepers$Moment;", Cond.arrayClass .int, Cond.fieldLink RX6 55 "LightKeepers" "seenRock" "[I", Cond.fieldLink RX6 59 "LightKeepers" "seenFlash" "[I", Cond.instanceMethod yX1_init, Cond.code yX1_init cX1_init 1 none, Cond.methodLink RX1 3 objectInit, Cond.fieldLink RX1 9 "LightKeepers$Reader" "bytes" "[I", Cond.instanceMethod yX4_init, Cond.code yX4_init cX4_init 1 none, Cond.methodLink RX4 3 objectInit, Cond.fieldLink RX4 9 "LightKeepers$Told" "sight" "I", Cond.fieldLink RX4 15 "LightKeepers$Told" "flashes" "[I", Cond.fieldLink RX4 19 "LightKeepers$Told" "haters" "[I"]
def wsL_law_r3 : List Cond := [Cond.instanceMethod yX3_init, Cond.code yX3_init cX3_init 1 none, Cond.methodLink RX3 3 objectInit, Cond.classLink RX3 9 RX4, Cond.fieldLink RX3 12 "LightKeepers$Shore" "told" "LLightKeepers$Told;", Cond.classLink RX3 18 RX5, Cond.instantiable RX5 5, Cond.initialized RX5, Cond.fieldLink RX3 21 "LightKeepers$Shore" "ways" "LLightKeepers$Ways;", Cond.instanceMethod yX5_init, Cond.code yX5_init cX5_init 1 none, Cond.methodLink RX5 3 objectInit, Cond.fieldLink RX5 9 "LightKeepers$Ways" "many" "I", Cond.fieldLink RX5 15 "LightKeepers$Ways" "keepers" "[I", Cond.fieldLink RX5 19 "LightKeepers$Ways" "changed" "[I", Cond.fieldLink RX5 22 "LightKeepers$Ways" "row" "[I", Cond.methodLink RX6 32 yX2_init, Cond.instanceMethod yX2_init, Cond.code yX2_init cX2_init 3 none, Cond.methodLink RX2 3 objectInit, Cond.fieldLink RX2 9 "LightKeepers$Search" "moons" "[I", Cond.fieldLink RX2 15 "LightKeepers$Search" "firsts" "[I", Cond.fieldLink RX2 18 "LightKeepers$Search" "queue" "[I", Cond.fieldLink RX2 21 "LightKeepers$Search" "from" "I"]
def wsL_law_r4 : List Cond := [Cond.fieldLink RX2 25 "LightKeepers$Search" "shore" "LLightKeepers$Shore;", Cond.fieldLink RX2 29 "LightKeepers$Search" "safe" "Z", Cond.instanceMethod yX0_init, Cond.code yX0_init cX0_init 1 none, Cond.methodLink RX0 3 objectInit, Cond.fieldLink RX0 11 "LightKeepers$Moment" "past" "[I", Cond.methodLink RL 12 yX7_init, Cond.instanceMethod yX7_init, Cond.code yX7_init cX7_init 1 none, Cond.methodLink RX7 1 objectInit, Cond.fieldLink RX7 7 "LightKeepersModel" "flash" "[I", Cond.fieldLink RX7 13 "LightKeepersModel" "hates" "[I", Cond.fieldLink RX7 16 "LightKeepersModel" "sight" "I", Cond.fieldLink RX7 20 "LightKeepersModel" "st" "[I", Cond.fieldLink RX7 23 "LightKeepersModel" "images" "[I", Cond.arrayClass .boolean, Cond.fieldLink RX7 26 "LightKeepersModel" "isKept" "[Z", Cond.fieldLink RX7 30 "LightKeepersModel" "seen" "[I", Cond.fieldLink RX7 33 "LightKeepersModel" "text" "[I", Cond.fieldLink RX7 36 "LightKeepersModel" "saidFlash" "[I", Cond.fieldLink RX7 39 "LightKeepersModel" "saidHates" "[I", Cond.fieldLink RX7 42 "LightKeepersModel" "at" "[I", Cond.fieldLink RX7 45 "LightKeepersModel" "far" "[I", Cond.fieldLink RX7 48 "LightKeepersModel" "line" "[I"]
def wsL_law_r5 : List Cond := [Cond.fieldLink RX7 51 "LightKeepersModel" "of" "[I", Cond.methodLink RL 13 yX6_type, Cond.instanceMethod yX6_type, Cond.selects RX6 yX6_type yX6_type, Cond.code yX6_type cX6_type 2 (some .int), Cond.fieldLink RX6 66 "LightKeepers$Reader" "length" "I", Cond.methodLink RX6 62 yX1_add, Cond.instanceMethod yX1_add, Cond.selects RX1 yX1_add yX1_add, Cond.code yX1_add cX1_add 2 (some .boolean), Cond.fieldLink RX1 15 "LightKeepers$Reader" "length" "I", Cond.static yX6_put, Cond.code yX6_put cX6_put 3 none, Cond.methodLink RL 17 yX7_type, Cond.instanceMethod yX7_type, Cond.selects RX7 yX7_type yX7_type, Cond.code yX7_type cX7_type 2 (some .int), Cond.fieldLink RX7 61 "LightKeepersModel" "texted" "I", Cond.methodLink RX7 57 yX7_in, Cond.static yX7_in, Cond.code yX7_in cX7_in 3 (some .boolean), Cond.methodLink RL 18 yX6_clear, Cond.instanceMethod yX6_clear, Cond.selects RX6 yX6_clear yX6_clear]
def wsL_law_r6 : List Cond := [Cond.code yX6_clear cX6_clear 2 (some .int), Cond.methodLink RL 22 yX7_clear, Cond.instanceMethod yX7_clear, Cond.selects RX7 yX7_clear yX7_clear, Cond.code yX7_clear cX7_clear 2 (some .int), Cond.methodLink RL 23 yX6_coast, Cond.instanceMethod yX6_coast, Cond.selects RX6 yX6_coast yX6_coast, Cond.code yX6_coast cX6_coast 2 (some .int), Cond.fieldLink RX6 74 "LightKeepers$Reader" "place" "I", Cond.fieldLink RX6 87 "LightKeepers" "seen" "I", Cond.methodLink RX6 70 yX1_read, Cond.instanceMethod yX1_read, Cond.selects RX1 yX1_read yX1_read, Cond.code yX1_read cX1_read 4 (some .int), Cond.fieldLink RX1 28 "LightKeepers$Reader" "end" "I", Cond.fieldLink RX1 34 "LightKeepers$Reader" "token" "I", Cond.fieldLink RX1 37 "LightKeepers$Reader" "value" "I", Cond.methodLink RX1 23 yX4_begin, Cond.instanceMethod yX4_begin, Cond.selects RX4 yX4_begin yX4_begin, Cond.code yX4_begin cX4_begin 1 none, Cond.fieldLink RX4 22 "LightKeepers$Told" "keepers" "I", Cond.fieldLink RX4 25 "LightKeepers$Told" "hates" "I"]
def wsL_law_r7 : List Cond := [Cond.fieldLink RX4 28 "LightKeepers$Told" "sightTold" "Z", Cond.methodLink RX4 32 yJ7_fill_53178, Cond.static yJ7_fill_53178, Cond.initialized RJ7, Cond.code yJ7_fill_53178 cJ7_fill_53178 4 none, Cond.methodLink RX1 31 yX1_next, Cond.instanceMethod yX1_next, Cond.selects RX1 yX1_next yX1_next, Cond.code yX1_next cX1_next 2 none, Cond.fieldLink RX1 79 "LightKeepers$Reader" "place" "I", Cond.static yX6_item, Cond.code yX6_item cX6_item 2 (some .int), Cond.methodLink RX1 86 yX1_isLetter, Cond.static yX1_isLetter, Cond.code yX1_isLetter cX1_isLetter 1 (some .boolean), Cond.methodLink RX1 90 yX1_nextLetters, Cond.instanceMethod yX1_nextLetters, Cond.selects RX1 yX1_nextLetters yX1_nextLetters, Cond.code yX1_nextLetters cX1_nextLetters 2 none, Cond.methodLink RX1 93 yX1_isDigit, Cond.static yX1_isDigit, Cond.code yX1_isDigit cX1_isDigit 1 (some .boolean), Cond.methodLink RX1 96 yX1_nextDigits, Cond.instanceMethod yX1_nextDigits]
def wsL_law_r8 : List Cond := [Cond.selects RX1 yX1_nextDigits yX1_nextDigits, Cond.code yX1_nextDigits cX1_nextDigits 3 none, Cond.methodLink RX1 99 Lib.Math.min.name, Cond.static Lib.Math.min.name, Cond.initialized "java/lang/Math", Cond.code Lib.Math.min.name Lib.Math.min.code 2 (some .int), Cond.methodLink RX1 40 yX1_readKeeper, Cond.instanceMethod yX1_readKeeper, Cond.selects RX1 yX1_readKeeper yX1_readKeeper, Cond.code yX1_readKeeper cX1_readKeeper 2 (some .boolean), Cond.fieldLink RX1 50 "LightKeepers$Told" "keepers" "I", Cond.methodLink RX1 53 yX1_readNumber, Cond.instanceMethod yX1_readNumber, Cond.selects RX1 yX1_readNumber yX1_readNumber, Cond.code yX1_readNumber cX1_readNumber 3 (some .boolean), Cond.methodLink RX1 57 yX4_addKeeper, Cond.instanceMethod yX4_addKeeper, Cond.selects RX4 yX4_addKeeper yX4_addKeeper, Cond.code yX4_addKeeper cX4_addKeeper 2 none, Cond.methodLink RX1 61 yX1_readSemicolon, Cond.instanceMethod yX1_readSemicolon, Cond.selects RX1 yX1_readSemicolon yX1_readSemicolon, Cond.code yX1_readSemicolon cX1_readSemicolon 1 (some .boolean), Cond.methodLink RX1 44 yX1_readHate]
def wsL_law_r9 : List Cond := [Cond.instanceMethod yX1_readHate, Cond.selects RX1 yX1_readHate yX1_readHate, Cond.code yX1_readHate cX1_readHate 3 (some .boolean), Cond.fieldLink RX1 65 "LightKeepers$Told" "hates" "I", Cond.methodLink RX1 68 yX4_addHate, Cond.instanceMethod yX4_addHate, Cond.selects RX4 yX4_addHate yX4_addHate, Cond.code yX4_addHate cX4_addHate 3 none, Cond.methodLink RX4 48 yX4_hatersOf, Cond.instanceMethod yX4_hatersOf, Cond.selects RX4 yX4_hatersOf yX4_hatersOf, Cond.code yX4_hatersOf cX4_hatersOf 2 (some .int), Cond.methodLink RX1 47 yX1_readSight, Cond.instanceMethod yX1_readSight, Cond.selects RX1 yX1_readSight yX1_readSight, Cond.code yX1_readSight cX1_readSight 2 (some .boolean), Cond.fieldLink RX1 72 "LightKeepers$Told" "sightTold" "Z", Cond.methodLink RX1 76 yX4_tellSight, Cond.instanceMethod yX4_tellSight, Cond.selects RX4 yX4_tellSight yX4_tellSight, Cond.code yX4_tellSight cX4_tellSight 2 none, Cond.methodLink RX6 77 yX3_become, Cond.instanceMethod yX3_become, Cond.selects RX3 yX3_become yX3_become]
def wsL_law_r10 : List Cond := [Cond.code yX3_become cX3_become 2 none, Cond.fieldLink RX3 29 "LightKeepers$Told" "keepers" "I", Cond.methodLink RX3 25 yX4_become, Cond.instanceMethod yX4_become, Cond.selects RX4 yX4_become yX4_become, Cond.code yX4_become cX4_become 2 none, Cond.methodLink RX4 38 arraycopyName, Cond.native arraycopyName, Cond.static arraycopyName, Cond.initialized "java/lang/System", Cond.methodLink RX3 33 yX5_become, Cond.instanceMethod yX5_become, Cond.selects RX5 yX5_become yX5_become, Cond.code yX5_become cX5_become 4 none, Cond.fieldLink RX5 25 "LightKeepers$Ways" "rocks" "I", Cond.methodLink RX5 36 arraycopyName, Cond.methodLink RX5 28 yX5_factorial, Cond.static yX5_factorial, Cond.code yX5_factorial cX5_factorial 1 (some .int), Cond.fieldLink RX5 69 "LightKeepers$Ways" "FACTORIALS" "[I", Cond.methodLink RX5 32 yX5_fillRow, Cond.instanceMethod yX5_fillRow, Cond.selects RX5 yX5_fillRow yX5_fillRow, Cond.code yX5_fillRow cX5_fillRow 7 none]
def wsL_law_r11 : List Cond := [Cond.methodLink RX5 57 yX5_freeKeeper, Cond.static yX5_freeKeeper, Cond.code yX5_freeKeeper cX5_freeKeeper 4 (some .int), Cond.methodLink RX5 42 yX5_swapInRow, Cond.instanceMethod yX5_swapInRow, Cond.selects RX5 yX5_swapInRow yX5_swapInRow, Cond.code yX5_swapInRow cX5_swapInRow 3 none, Cond.methodLink RX5 45 yX5_numberOfRow, Cond.instanceMethod yX5_numberOfRow, Cond.selects RX5 yX5_numberOfRow yX5_numberOfRow, Cond.code yX5_numberOfRow cX5_numberOfRow 6 (some .int), Cond.methodLink RX5 64 yJ6_bitCount_0f7a4, Cond.static yJ6_bitCount_0f7a4, Cond.initialized RJ6, Cond.code yJ6_bitCount_0f7a4 cJ6_bitCount_0f7a4 1 (some .int), Cond.constant RJ6 265 (1431655765), Cond.constant RJ6 266 (858993459), Cond.constant RJ6 267 (252645135), Cond.methodLink RX6 81 yX2_renew, Cond.instanceMethod yX2_renew, Cond.selects RX2 yX2_renew yX2_renew, Cond.code yX2_renew cX2_renew 1 none, Cond.methodLink RX6 84 yX0_begin, Cond.instanceMethod yX0_begin]
def wsL_law_r12 : List Cond := [Cond.selects RX0 yX0_begin yX0_begin, Cond.code yX0_begin cX0_begin 1 none, Cond.fieldLink RX0 15 "LightKeepers$Moment" "way" "I", Cond.fieldLink RX0 19 "LightKeepers$Moment" "moons" "I", Cond.fieldLink RX0 22 "LightKeepers$Moment" "burnt" "I", Cond.fieldLink RX0 25 "LightKeepers$Moment" "out" "I", Cond.fieldLink RX0 28 "LightKeepers$Moment" "known" "I", Cond.fieldLink RX0 31 "LightKeepers$Moment" "isKept" "Z", Cond.methodLink RL 26 yX7_coast, Cond.instanceMethod yX7_coast, Cond.selects RX7 yX7_coast yX7_coast, Cond.code yX7_coast cX7_coast 1 (some .int), Cond.fieldLink RX7 64 "LightKeepersModel" "cursor" "I", Cond.fieldLink RX7 87 "LightKeepersModel" "isWrong" "Z", Cond.fieldLink RX7 116 "LightKeepersModel" "items" "I", Cond.fieldLink RX7 94 "LightKeepersModel" "saidKeepers" "I", Cond.fieldLink RX7 101 "LightKeepersModel" "saidMany" "I", Cond.fieldLink RX7 104 "LightKeepersModel" "saidSight" "I", Cond.fieldLink RX7 77 "LightKeepersModel" "token" "I", Cond.fieldLink RX7 71 "LightKeepersModel" "start" "I", Cond.methodLink RX7 91 yX7_next, Cond.instanceMethod yX7_next, Cond.selects RX7 yX7_next yX7_next, Cond.code yX7_next cX7_next 2 none]
def wsL_law_r13 : List Cond := [Cond.fieldLink RX7 74 "LightKeepersModel" "number" "I", Cond.methodLink RX7 67 yX7_letterAt, Cond.instanceMethod yX7_letterAt, Cond.selects RX7 yX7_letterAt yX7_letterAt, Cond.code yX7_letterAt cX7_letterAt 2 (some .int), Cond.methodLink RX7 80 yX7_isFigure, Cond.static yX7_isFigure, Cond.code yX7_isFigure cX7_isFigure 1 (some .boolean), Cond.methodLink RX7 84 yX7_isLetter, Cond.static yX7_isLetter, Cond.code yX7_isLetter cX7_isLetter 1 (some .boolean), Cond.methodLink RX7 119 yX7_readItem, Cond.instanceMethod yX7_readItem, Cond.selects RX7 yX7_readItem yX7_readItem, Cond.code yX7_readItem cX7_readItem 2 none, Cond.methodLink RX7 107 yX7_mayBegin, Cond.instanceMethod yX7_mayBegin, Cond.selects RX7 yX7_mayBegin yX7_mayBegin, Cond.code yX7_mayBegin cX7_mayBegin 2 (some .boolean), Cond.methodLink RX7 110 yX7_readKeeper, Cond.instanceMethod yX7_readKeeper, Cond.selects RX7 yX7_readKeeper yX7_readKeeper, Cond.code yX7_readKeeper cX7_readKeeper 1 none, Cond.methodLink RX7 97 yX7_takes]
def wsL_law_r14 : List Cond := [Cond.instanceMethod yX7_takes, Cond.selects RX7 yX7_takes yX7_takes, Cond.code yX7_takes cX7_takes 6 (some .int), Cond.methodLink RX7 113 yX7_readHate, Cond.instanceMethod yX7_readHate, Cond.selects RX7 yX7_readHate yX7_readHate, Cond.code yX7_readHate cX7_readHate 3 none, Cond.methodLink RX7 122 yX7_settles, Cond.instanceMethod yX7_settles, Cond.selects RX7 yX7_settles yX7_settles, Cond.code yX7_settles cX7_settles 2 none, Cond.fieldLink RX7 54 "LightKeepersModel" "keepers" "I", Cond.fieldLink RX7 125 "LightKeepersModel" "hatesMany" "I", Cond.fieldLink RX7 128 "LightKeepersModel" "seenMany" "I", Cond.methodLink RL 27 yX6_keeper, Cond.instanceMethod yX6_keeper, Cond.selects RX6 yX6_keeper yX6_keeper, Cond.code yX6_keeper cX6_keeper 3 (some .int), Cond.fieldLink RX6 93 "LightKeepers$Shore" "told" "LLightKeepers$Told;", Cond.fieldLink RX6 100 "LightKeepers$Shore" "ways" "LLightKeepers$Ways;", Cond.fieldLink RX6 104 "LightKeepers$Moment" "way" "I", Cond.methodLink RX6 90 yX6_isKeeper, Cond.instanceMethod yX6_isKeeper, Cond.selects RX6 yX6_isKeeper yX6_isKeeper]
def wsL_law_r15 : List Cond := [Cond.code yX6_isKeeper cX6_isKeeper 2 (some .boolean), Cond.fieldLink RX6 204 "LightKeepers$Told" "keepers" "I", Cond.methodLink RX6 96 yX4_flashOf, Cond.instanceMethod yX4_flashOf, Cond.selects RX4 yX4_flashOf yX4_flashOf, Cond.code yX4_flashOf cX4_flashOf 2 (some .int), Cond.methodLink RX6 107 yX5_rockOf, Cond.instanceMethod yX5_rockOf, Cond.selects RX5 yX5_rockOf yX5_rockOf, Cond.code yX5_rockOf cX5_rockOf 4 (some .int), Cond.methodLink RX5 53 yX5_who, Cond.instanceMethod yX5_who, Cond.selects RX5 yX5_who yX5_who, Cond.code yX5_who cX5_who 3 (some .int), Cond.methodLink RX6 113 yX6_driftOf, Cond.instanceMethod yX6_driftOf, Cond.selects RX6 yX6_driftOf yX6_driftOf, Cond.code yX6_driftOf cX6_driftOf 2 (some .int), Cond.methodLink RX6 269 Lib.Math.abs.name, Cond.static Lib.Math.abs.name, Cond.code Lib.Math.abs.name Lib.Math.abs.code 1 (some .int), Cond.methodLink RX6 116 yX6_isOut, Cond.instanceMethod yX6_isOut, Cond.selects RX6 yX6_isOut yX6_isOut]
def wsL_law_r16 : List Cond := [Cond.code yX6_isOut cX6_isOut 2 (some .boolean), Cond.fieldLink RX6 162 "LightKeepers$Moment" "out" "I", Cond.methodLink RX6 119 yX4_hatersOf, Cond.methodLink RL 31 yX7_keeper, Cond.instanceMethod yX7_keeper, Cond.selects RX7 yX7_keeper yX7_keeper, Cond.code yX7_keeper cX7_keeper 3 (some .int), Cond.methodLink RX7 139 yX7_isOne, Cond.instanceMethod yX7_isOne, Cond.selects RX7 yX7_isOne yX7_isOne, Cond.code yX7_isOne cX7_isOne 2 (some .boolean), Cond.methodLink RX7 131 yX7_rockOf, Cond.instanceMethod yX7_rockOf, Cond.selects RX7 yX7_rockOf yX7_rockOf, Cond.code yX7_rockOf cX7_rockOf 4 (some .int), Cond.methodLink RX7 142 yX7_driftOf, Cond.instanceMethod yX7_driftOf, Cond.selects RX7 yX7_driftOf yX7_driftOf, Cond.code yX7_driftOf cX7_driftOf 3 (some .int), Cond.methodLink RX7 135 yX7_has, Cond.static yX7_has, Cond.code yX7_has cX7_has 2 (some .boolean), Cond.methodLink RL 32 yX6_rock, Cond.instanceMethod yX6_rock]
def wsL_law_r17 : List Cond := [Cond.selects RX6 yX6_rock yX6_rock, Cond.code yX6_rock cX6_rock 2 (some .int), Cond.methodLink RX6 122 yX6_isRock, Cond.instanceMethod yX6_isRock, Cond.selects RX6 yX6_isRock yX6_isRock, Cond.code yX6_isRock cX6_isRock 2 (some .boolean), Cond.methodLink RX6 125 yX5_who, Cond.methodLink RL 35 yX7_rock, Cond.instanceMethod yX7_rock, Cond.selects RX7 yX7_rock yX7_rock, Cond.code yX7_rock cX7_rock 2 (some .int), Cond.methodLink RL 36 yX6_moon, Cond.instanceMethod yX6_moon, Cond.selects RX6 yX6_moon yX6_moon, Cond.code yX6_moon cX6_moon 2 (some .int), Cond.fieldLink RX6 132 "LightKeepers$Moment" "moons" "I", Cond.fieldLink RX6 148 "LightKeepers$Moment" "burnt" "I", Cond.methodLink RX6 128 yX3_changes, Cond.instanceMethod yX3_changes, Cond.selects RX3 yX3_changes yX3_changes, Cond.code yX3_changes cX3_changes 1 (some .int), Cond.methodLink RX6 135 yX3_willing, Cond.instanceMethod yX3_willing, Cond.selects RX3 yX3_willing yX3_willing]
def wsL_law_r18 : List Cond := [Cond.code yX3_willing cX3_willing 5 (some .int), Cond.methodLink RX3 36 yX5_who, Cond.methodLink RX3 40 yX4_hatersOf, Cond.methodLink RX6 138 yX3_allows, Cond.static yX3_allows, Cond.code yX3_allows cX3_allows 3 (some .boolean), Cond.methodLink RX6 142 yX0_remember, Cond.instanceMethod yX0_remember, Cond.selects RX0 yX0_remember yX0_remember, Cond.code yX0_remember cX0_remember 2 none, Cond.methodLink RX0 35 arraycopyName, Cond.methodLink RX6 145 yX3_after, Cond.instanceMethod yX3_after, Cond.selects RX3 yX3_after yX3_after, Cond.code yX3_after cX3_after 5 (some .int), Cond.methodLink RX3 44 yX5_changedAt, Cond.instanceMethod yX5_changedAt, Cond.selects RX5 yX5_changedAt yX5_changedAt, Cond.code yX5_changedAt cX5_changedAt 3 (some .int), Cond.methodLink RX6 151 yX6_flashesNotOut, Cond.instanceMethod yX6_flashesNotOut, Cond.selects RX6 yX6_flashesNotOut yX6_flashesNotOut, Cond.code yX6_flashesNotOut cX6_flashesNotOut 3 (some .int), Cond.methodLink RX6 154 yJ6_bitCount_0f7a4]
def wsL_law_r19 : List Cond := [Cond.methodLink RL 39 yX7_moon, Cond.instanceMethod yX7_moon, Cond.selects RX7 yX7_moon yX7_moon, Cond.code yX7_moon cX7_moon 3 (some .int), Cond.methodLink RX7 145 yX7_isChange, Cond.instanceMethod yX7_isChange, Cond.selects RX7 yX7_isChange yX7_isChange, Cond.code yX7_isChange cX7_isChange 2 (some .boolean), Cond.methodLink RX7 148 yX7_mayChange, Cond.instanceMethod yX7_mayChange, Cond.selects RX7 yX7_mayChange yX7_mayChange, Cond.code yX7_mayChange cX7_mayChange 5 (some .boolean), Cond.methodLink RX7 152 yX7_remembers, Cond.instanceMethod yX7_remembers, Cond.selects RX7 yX7_remembers yX7_remembers, Cond.code yX7_remembers cX7_remembers 3 none, Cond.methodLink RX7 155 yX7_changes, Cond.instanceMethod yX7_changes, Cond.selects RX7 yX7_changes yX7_changes, Cond.code yX7_changes cX7_changes 5 none, Cond.methodLink RX7 159 yX7_bits, Cond.static yX7_bits, Cond.code yX7_bits cX7_bits 3 (some .int), Cond.methodLink RL 40 yX6_puts]
def wsL_law_r20 : List Cond := [Cond.instanceMethod yX6_puts, Cond.selects RX6 yX6_puts yX6_puts, Cond.code yX6_puts cX6_puts 3 (some .int), Cond.methodLink RX6 159 yX6_isZeroOrOne, Cond.static yX6_isZeroOrOne, Cond.code yX6_isZeroOrOne cX6_isZeroOrOne 1 (some .boolean), Cond.methodLink RL 43 yX7_puts, Cond.instanceMethod yX7_puts, Cond.selects RX7 yX7_puts yX7_puts, Cond.code yX7_puts cX7_puts 3 (some .int), Cond.methodLink RL 44 yX6_undo, Cond.instanceMethod yX6_undo, Cond.selects RX6 yX6_undo yX6_undo, Cond.code yX6_undo cX6_undo 1 (some .int), Cond.fieldLink RX6 169 "LightKeepers$Moment" "known" "I", Cond.methodLink RX6 165 yX0_recall, Cond.instanceMethod yX0_recall, Cond.selects RX0 yX0_recall yX0_recall, Cond.code yX0_recall cX0_recall 2 (some .boolean), Cond.methodLink RL 47 yX7_undo, Cond.instanceMethod yX7_undo, Cond.selects RX7 yX7_undo yX7_undo, Cond.code yX7_undo cX7_undo 3 (some .int), Cond.methodLink RL 48 yX6_now]
def wsL_law_r21 : List Cond := [Cond.instanceMethod yX6_now, Cond.selects RX6 yX6_now yX6_now, Cond.code yX6_now cX6_now 2 (some .int), Cond.methodLink RX6 172 yX3_likes, Cond.instanceMethod yX3_likes, Cond.selects RX3 yX3_likes yX3_likes, Cond.code yX3_likes cX3_likes 7 (some .int), Cond.fieldLink RX3 53 "LightKeepers$Told" "sight" "I", Cond.methodLink RX3 56 Lib.Math.min.name, Cond.methodLink RX3 50 yX3_flashAt, Cond.instanceMethod yX3_flashAt, Cond.selects RX3 yX3_flashAt yX3_flashAt, Cond.code yX3_flashAt cX3_flashAt 3 (some .int), Cond.methodLink RX3 47 yX4_flashOf, Cond.methodLink RX6 175 yX6_drifts, Cond.instanceMethod yX6_drifts, Cond.selects RX6 yX6_drifts yX6_drifts, Cond.code yX6_drifts cX6_drifts 3 (some .int), Cond.methodLink RX6 178 yX3_calmest, Cond.instanceMethod yX3_calmest, Cond.selects RX3 yX3_calmest yX3_calmest, Cond.code yX3_calmest cX3_calmest 8 (some .int), Cond.methodLink RX3 61 yX3_willing, Cond.methodLink RX3 64 yX3_likes]
def wsL_law_r22 : List Cond := [Cond.methodLink RX3 67 yX3_changes, Cond.methodLink RX3 71 yX3_allows, Cond.methodLink RX3 75 yX3_after, Cond.methodLink RX3 78 yJ6_bitCount_0f7a4, Cond.methodLink RL 51 yX7_now, Cond.instanceMethod yX7_now, Cond.selects RX7 yX7_now yX7_now, Cond.code yX7_now cX7_now 4 (some .int), Cond.methodLink RX7 165 yX7_likesOf, Cond.instanceMethod yX7_likesOf, Cond.selects RX7 yX7_likesOf yX7_likesOf, Cond.code yX7_likesOf cX7_likesOf 5 (some .int), Cond.methodLink RX7 169 yX7_calm, Cond.instanceMethod yX7_calm, Cond.selects RX7 yX7_calm yX7_calm, Cond.code yX7_calm cX7_calm 6 (some .int), Cond.methodLink RX7 162 yX7_asItIs, Cond.instanceMethod yX7_asItIs, Cond.selects RX7 yX7_asItIs yX7_asItIs, Cond.code yX7_asItIs cX7_asItIs 2 none, Cond.methodLink RL 52 yX6_homeward, Cond.instanceMethod yX6_homeward, Cond.selects RX6 yX6_homeward yX6_homeward, Cond.code yX6_homeward cX6_homeward 5 (some .int)]
def wsL_law_r23 : List Cond := [Cond.methodLink RX6 181 yX6_searchOf, Cond.instanceMethod yX6_searchOf, Cond.selects RX6 yX6_searchOf yX6_searchOf, Cond.code yX6_searchOf cX6_searchOf 2 (some (.object "LightKeepers$Search")), Cond.methodLink RX6 185 yX2_spread, Cond.instanceMethod yX2_spread, Cond.selects RX2 yX2_spread yX2_spread, Cond.code yX2_spread cX2_spread 3 none, Cond.fieldLink RX2 33 "LightKeepers$Search" "queued" "I", Cond.methodLink RX2 36 yJ7_fill_53178, Cond.methodLink RX2 42 yX2_enter, Cond.instanceMethod yX2_enter, Cond.selects RX2 yX2_enter yX2_enter, Cond.code yX2_enter cX2_enter 4 none, Cond.methodLink RX2 50 yX2_step, Cond.instanceMethod yX2_step, Cond.selects RX2 yX2_step yX2_step, Cond.code yX2_step cX2_step 6 none, Cond.methodLink RX2 54 yX3_willing, Cond.methodLink RX2 60 yX3_changes, Cond.methodLink RX2 64 yX3_allows, Cond.methodLink RX2 68 yX3_after, Cond.methodLink RX2 72 yX2_reach, Cond.instanceMethod yX2_reach]
def wsL_law_r24 : List Cond := [Cond.selects RX2 yX2_reach yX2_reach, Cond.code yX2_reach cX2_reach 4 none, Cond.methodLink RX2 75 yX3_likes, Cond.methodLink RX6 189 yX2_moonsTo, Cond.instanceMethod yX2_moonsTo, Cond.selects RX2 yX2_moonsTo yX2_moonsTo, Cond.code yX2_moonsTo cX2_moonsTo 3 (some .int), Cond.methodLink RX6 192 yX2_firstTo, Cond.instanceMethod yX2_firstTo, Cond.selects RX2 yX2_firstTo yX2_firstTo, Cond.code yX2_firstTo cX2_firstTo 2 (some .int), Cond.methodLink RL 55 yX7_homeward, Cond.instanceMethod yX7_homeward, Cond.selects RX7 yX7_homeward yX7_homeward, Cond.code yX7_homeward cX7_homeward 8 (some .int), Cond.methodLink RX7 183 yX7_areHome, Cond.instanceMethod yX7_areHome, Cond.selects RX7 yX7_areHome yX7_areHome, Cond.code yX7_areHome cX7_areHome 3 (some .boolean), Cond.methodLink RX7 173 yX7_isWay, Cond.instanceMethod yX7_isWay, Cond.selects RX7 yX7_isWay yX7_isWay, Cond.code yX7_isWay cX7_isWay 7 none, Cond.methodLink RX7 180 yX7_isSafe]
def wsL_law_r25 : List Cond := [Cond.instanceMethod yX7_isSafe, Cond.selects RX7 yX7_isSafe yX7_isSafe, Cond.code yX7_isSafe cX7_isSafe 2 (some .boolean), Cond.methodLink RX7 187 yX7_findFar, Cond.instanceMethod yX7_findFar, Cond.selects RX7 yX7_findFar yX7_findFar, Cond.code yX7_findFar cX7_findFar 7 none, Cond.methodLink RX7 177 yX7_wayOf, Cond.instanceMethod yX7_wayOf, Cond.selects RX7 yX7_wayOf yX7_wayOf, Cond.code yX7_wayOf cX7_wayOf 6 (some .int), Cond.methodLink RL 56 yX6_trade, Cond.instanceMethod yX6_trade, Cond.selects RX6 yX6_trade yX6_trade, Cond.code yX6_trade cX6_trade 9 (some .int), Cond.fieldLink RX6 195 "LightKeepers$Ways" "many" "I", Cond.methodLink RX6 198 yX6_fewer, Cond.static yX6_fewer, Cond.code yX6_fewer cX6_fewer 2 (some .int), Cond.methodLink RX6 294 Lib.Math.min.name, Cond.methodLink RL 60 yX7_trade, Cond.instanceMethod yX7_trade, Cond.selects RX7 yX7_trade yX7_trade, Cond.code yX7_trade cX7_trade 8 (some .int)]
def wsL_law_r26 : List Cond := [Cond.methodLink RL 61 yX6_ship, Cond.instanceMethod yX6_ship, Cond.selects RX6 yX6_ship yX6_ship, Cond.code yX6_ship cX6_ship 5 (some .int), Cond.methodLink RX6 201 yX6_isFlash, Cond.static yX6_isFlash, Cond.code yX6_isFlash cX6_isFlash 1 (some .boolean), Cond.methodLink RX6 207 yX6_shines, Cond.instanceMethod yX6_shines, Cond.selects RX6 yX6_shines yX6_shines, Cond.code yX6_shines cX6_shines 4 (some .boolean), Cond.methodLink RL 64 yX7_ship, Cond.instanceMethod yX7_ship, Cond.selects RX7 yX7_ship yX7_ship, Cond.code yX7_ship cX7_ship 6 (some .int), Cond.methodLink RL 65 yX6_odds, Cond.instanceMethod yX6_odds, Cond.selects RX6 yX6_odds yX6_odds, Cond.code yX6_odds cX6_odds 8 (some .int), Cond.methodLink RX6 210 yX6_lightsInSight, Cond.instanceMethod yX6_lightsInSight, Cond.selects RX6 yX6_lightsInSight yX6_lightsInSight, Cond.code yX6_lightsInSight cX6_lightsInSight 5 (some .int), Cond.fieldLink RX6 262 "LightKeepers$Told" "sight" "I"]
def wsL_law_r27 : List Cond := [Cond.methodLink RX6 213 yX6_power, Cond.static yX6_power, Cond.code yX6_power cX6_power 4 (some .int), Cond.methodLink RX6 216 yX6_commonDivisor, Cond.static yX6_commonDivisor, Cond.code yX6_commonDivisor cX6_commonDivisor 6 (some .int), Cond.methodLink RL 68 yX7_odds, Cond.instanceMethod yX7_odds, Cond.selects RX7 yX7_odds yX7_odds, Cond.code yX7_odds cX7_odds 10 (some .int), Cond.methodLink RL 69 yX6_saw, Cond.instanceMethod yX6_saw, Cond.selects RX6 yX6_saw yX6_saw, Cond.code yX6_saw cX6_saw 3 (some .int), Cond.methodLink RX6 219 yX6_put, Cond.methodLink RL 72 yX7_saw, Cond.instanceMethod yX7_saw, Cond.selects RX7 yX7_saw yX7_saw, Cond.code yX7_saw cX7_saw 3 (some .int), Cond.methodLink RL 73 yX6_forget, Cond.instanceMethod yX6_forget, Cond.selects RX6 yX6_forget yX6_forget, Cond.code yX6_forget cX6_forget 2 (some .int), Cond.methodLink RL 76 yX7_forget]
def wsL_law_r28 : List Cond := [Cond.instanceMethod yX7_forget, Cond.selects RX7 yX7_forget yX7_forget, Cond.code yX7_forget cX7_forget 2 (some .int), Cond.methodLink RL 77 yX6_fits, Cond.instanceMethod yX6_fits, Cond.selects RX6 yX6_fits yX6_fits, Cond.code yX6_fits cX6_fits 2 (some .int), Cond.methodLink RX6 223 yX6_waysThatFit, Cond.instanceMethod yX6_waysThatFit, Cond.selects RX6 yX6_waysThatFit yX6_waysThatFit, Cond.code yX6_waysThatFit cX6_waysThatFit 3 (some .int), Cond.methodLink RX6 281 yX6_fitsSeen, Cond.instanceMethod yX6_fitsSeen, Cond.selects RX6 yX6_fitsSeen yX6_fitsSeen, Cond.code yX6_fitsSeen cX6_fitsSeen 3 (some .boolean), Cond.methodLink RX6 274 yX6_item, Cond.methodLink RX6 278 yX3_flashAt, Cond.methodLink RX6 226 yX6_sureOf, Cond.instanceMethod yX6_sureOf, Cond.selects RX6 yX6_sureOf yX6_sureOf, Cond.code yX6_sureOf cX6_sureOf 5 (some .int), Cond.methodLink RL 80 yX7_fits, Cond.instanceMethod yX7_fits, Cond.selects RX7 yX7_fits yX7_fits]
def wsL_law_r29 : List Cond := [Cond.code yX7_fits cX7_fits 7 (some .int), Cond.methodLink RX7 191 yX7_isSo, Cond.instanceMethod yX7_isSo, Cond.selects RX7 yX7_isSo yX7_isSo, Cond.code yX7_isSo cX7_isSo 3 (some .boolean), Cond.methodLink RL 81 yX6_mark, Cond.instanceMethod yX6_mark, Cond.selects RX6 yX6_mark yX6_mark, Cond.code yX6_mark cX6_mark 3 (some .int), Cond.constant RX6 229 (-1000000), Cond.methodLink RX6 230 yX6_markOfKeeper, Cond.instanceMethod yX6_markOfKeeper, Cond.selects RX6 yX6_markOfKeeper yX6_markOfKeeper, Cond.code yX6_markOfKeeper cX6_markOfKeeper 2 (some .int), Cond.fieldLink RX6 265 "LightKeepers" "traced" "J", Cond.methodLink RX6 233 yX6_markOfSleeper, Cond.instanceMethod yX6_markOfSleeper, Cond.selects RX6 yX6_markOfSleeper yX6_markOfSleeper, Cond.code yX6_markOfSleeper cX6_markOfSleeper 2 (some .int), Cond.constantLong RX6 284 (10), Cond.methodLink RX6 236 yX6_markOfPilot, Cond.instanceMethod yX6_markOfPilot, Cond.selects RX6 yX6_markOfPilot yX6_markOfPilot, Cond.code yX6_markOfPilot cX6_markOfPilot 2 (some .int)]
def wsL_law_r30 : List Cond := [Cond.constantLong RX6 286 (100), Cond.methodLink RX6 239 yX6_markOfHorn, Cond.instanceMethod yX6_markOfHorn, Cond.selects RX6 yX6_markOfHorn yX6_markOfHorn, Cond.code yX6_markOfHorn cX6_markOfHorn 2 (some .int), Cond.constantLong RX6 288 (1000), Cond.methodLink RX6 242 yX6_markOfCat, Cond.instanceMethod yX6_markOfCat, Cond.selects RX6 yX6_markOfCat yX6_markOfCat, Cond.code yX6_markOfCat cX6_markOfCat 2 (some .int), Cond.constantLong RX6 290 (10000), Cond.methodLink RX6 245 yX6_markOfWife, Cond.instanceMethod yX6_markOfWife, Cond.selects RX6 yX6_markOfWife yX6_markOfWife, Cond.code yX6_markOfWife cX6_markOfWife 2 (some .int), Cond.constantLong RX6 292 (100000), Cond.methodLink RL 84 yX7_mark, Cond.instanceMethod yX7_mark, Cond.selects RX7 yX7_mark yX7_mark, Cond.code yX7_mark cX7_mark 6 (some .int), Cond.constant RX7 194 (-1000000), Cond.fieldLink RX7 195 "LightKeepersModel" "trace" "J", Cond.constantLong RX7 199 (11), Cond.constantLong RX7 201 (101)]
def wsL_law_r31 : List Cond := [Cond.constantLong RX7 203 (1011), Cond.constantLong RX7 205 (10101), Cond.constantLong RX7 207 (100001), Cond.methodLink RL 85 yX6_keep, Cond.instanceMethod yX6_keep, Cond.selects RX6 yX6_keep yX6_keep, Cond.code yX6_keep cX6_keep 3 (some .int), Cond.fieldLink RX6 255 "LightKeepers$Moment" "isKept" "Z", Cond.methodLink RX6 248 yX6_imageOf, Cond.instanceMethod yX6_imageOf, Cond.selects RX6 yX6_imageOf yX6_imageOf, Cond.code yX6_imageOf cX6_imageOf 2 (some (.object "LightKeepers$Moment")), Cond.methodLink RX6 252 yX0_become, Cond.instanceMethod yX0_become, Cond.selects RX0 yX0_become yX0_become, Cond.code yX0_become cX0_become 2 none, Cond.methodLink RL 88 yX7_keep, Cond.instanceMethod yX7_keep, Cond.selects RX7 yX7_keep yX7_keep, Cond.code yX7_keep cX7_keep 3 (some .int), Cond.methodLink RL 89 yX6_back, Cond.instanceMethod yX6_back, Cond.selects RX6 yX6_back yX6_back, Cond.code yX6_back cX6_back 3 (some .int)]
def wsL_law_r32 : List Cond := [Cond.methodLink RL 92 yX7_back, Cond.instanceMethod yX7_back, Cond.selects RX7 yX7_back yX7_back, Cond.code yX7_back cX7_back 3 (some .int), Cond.methodLink RL 93 yX6_count, Cond.instanceMethod yX6_count, Cond.selects RX6 yX6_count yX6_count, Cond.code yX6_count cX6_count 2 (some .int), Cond.fieldLink RX6 259 "LightKeepers$Told" "hates" "I", Cond.methodLink RL 96 yX7_count, Cond.instanceMethod yX7_count, Cond.selects RX7 yX7_count yX7_count, Cond.code yX7_count cX7_count 2 (some .int), Cond.methodLink RL 97 yX6_trace, Cond.instanceMethod yX6_trace, Cond.selects RX6 yX6_trace yX6_trace, Cond.code yX6_trace cX6_trace 1 (some .long), Cond.methodLink RL 101 yX7_trace, Cond.instanceMethod yX7_trace, Cond.selects RX7 yX7_trace yX7_trace, Cond.code yX7_trace cX7_trace 1 (some .long)]
def wsL_law : List Cond := (wsL_law_r1 ++ (wsL_law_r2 ++ (wsL_law_r3 ++ (wsL_law_r4 ++ (wsL_law_r5 ++ (wsL_law_r6 ++ (wsL_law_r7 ++ (wsL_law_r8 ++ (wsL_law_r9 ++ (wsL_law_r10 ++ (wsL_law_r11 ++ (wsL_law_r12 ++ (wsL_law_r13 ++ (wsL_law_r14 ++ (wsL_law_r15 ++ (wsL_law_r16 ++ (wsL_law_r17 ++ (wsL_law_r18 ++ (wsL_law_r19 ++ (wsL_law_r20 ++ (wsL_law_r21 ++ (wsL_law_r22 ++ (wsL_law_r23 ++ (wsL_law_r24 ++ (wsL_law_r25 ++ (wsL_law_r26 ++ (wsL_law_r27 ++ (wsL_law_r28 ++ (wsL_law_r29 ++ (wsL_law_r30 ++ (wsL_law_r31 ++ wsL_law_r32))))))))))))))))))))))))))))))) ++ wsX60 ++ wsX70 ++ wsX10 ++ wsX40 ++ wsX30 ++ wsX20 ++ wsX00 ++ wsX50 ++ ([] : List Cond)
set_option maxRecDepth 20000 in
theorem wsL_law_in : ∀ w ∈ wsL_law, w ∈ lw_tbl := fun w h => (goodIn_p wsL_law [74, 77, 82, 110, 143, 151, 183, 211, 704, 281, 285, 288, 795, 798, 292, 802, 296, 300, 304, 307, 311, 314, 317, 321, 324, 328, 331, 335, 339, 343, 348, 352, 356, 360, 364, 368, 372, 376, 383, 386, 392, 395, 401, 406, 409, 416, 420, 806, 810, 814, 817, 820, 824, 828, 832, 836, 840, 844, 424, 428, 432, 436, 440, 444, 447, 451, 848, 852, 856, 860, 863, 456, 460, 867, 465, 469, 473, 478, 482, 488, 492, 496, 871, 875, 879, 883, 887, 890, 501, 504, 894, 508, 512, 898, 517, 521, 525, 531, 535, 902, 906, 910, 914, 545, 549, 553, 558, 564, 572, 577, 581, 918, 922, 926, 930, 934, 938, 585, 588, 942, 593, 596, 600, 946, 604, 608, 611, 614, 950, 618, 954, 623, 958, 627, 631, 635, 641, 962, 966, 645, 650, 654, 659, 664, 669, 674, 970, 679, 683, 687, 980, 691, 984, 695, 988, 699, 992] (by decide +kernel) (by decide +kernel) w h).1
theorem inlX0 : ∀ w ∈ wsX00, w ∈ wsL_law := fun _ h => List.mem_append_left _ (List.mem_append_left _ (List.mem_append_right _ h))
theorem inX0 : ∀ w ∈ wsX00, w ∈ lw_tbl := fun w h => wsL_law_in w (inlX0 w h)
theorem inlX1 : ∀ w ∈ wsX10, w ∈ wsL_law := fun _ h => List.mem_append_left _ (List.mem_append_left _ (List.mem_append_left _ (List.mem_append_left _ (List.mem_append_left _ (List.mem_append_left _ (List.mem_append_right _ h))))))
theorem inX1 : ∀ w ∈ wsX10, w ∈ lw_tbl := fun w h => wsL_law_in w (inlX1 w h)
theorem inlX2 : ∀ w ∈ wsX20, w ∈ wsL_law := fun _ h => List.mem_append_left _ (List.mem_append_left _ (List.mem_append_left _ (List.mem_append_right _ h)))
theorem inX2 : ∀ w ∈ wsX20, w ∈ lw_tbl := fun w h => wsL_law_in w (inlX2 w h)
theorem inlX3 : ∀ w ∈ wsX30, w ∈ wsL_law := fun _ h => List.mem_append_left _ (List.mem_append_left _ (List.mem_append_left _ (List.mem_append_left _ (List.mem_append_right _ h))))
theorem inX3 : ∀ w ∈ wsX30, w ∈ lw_tbl := fun w h => wsL_law_in w (inlX3 w h)
theorem inlX4 : ∀ w ∈ wsX40, w ∈ wsL_law := fun _ h => List.mem_append_left _ (List.mem_append_left _ (List.mem_append_left _ (List.mem_append_left _ (List.mem_append_left _ (List.mem_append_right _ h)))))
theorem inX4 : ∀ w ∈ wsX40, w ∈ lw_tbl := fun w h => wsL_law_in w (inlX4 w h)
theorem inlX5 : ∀ w ∈ wsX50, w ∈ wsL_law := fun _ h => List.mem_append_left _ (List.mem_append_right _ h)
theorem inX5 : ∀ w ∈ wsX50, w ∈ lw_tbl := fun w h => wsL_law_in w (inlX5 w h)
theorem inlX6 : ∀ w ∈ wsX60, w ∈ wsL_law := fun _ h => List.mem_append_left _ (List.mem_append_left _ (List.mem_append_left _ (List.mem_append_left _ (List.mem_append_left _ (List.mem_append_left _ (List.mem_append_left _ (List.mem_append_left _ (List.mem_append_right _ h))))))))
theorem inX6 : ∀ w ∈ wsX60, w ∈ lw_tbl := fun w h => wsL_law_in w (inlX6 w h)
theorem inlX7 : ∀ w ∈ wsX70, w ∈ wsL_law := fun _ h => List.mem_append_left _ (List.mem_append_left _ (List.mem_append_left _ (List.mem_append_left _ (List.mem_append_left _ (List.mem_append_left _ (List.mem_append_left _ (List.mem_append_right _ h)))))))
theorem inX7 : ∀ w ∈ wsX70, w ∈ lw_tbl := fun w h => wsL_law_in w (inlX7 w h)
theorem inJ6 : ∀ w ∈ wsJ60, w ∈ lw_tbl := by decide +kernel
theorem inJ9 : ∀ w ∈ wsJ90, w ∈ lw_tbl := by decide +kernel
theorem inJ10 : ∀ w ∈ wsJ100, w ∈ lw_tbl := by decide +kernel
theorem inJ7 : ∀ w ∈ wsJ70, w ∈ lw_tbl := by decide +kernel
set_option maxRecDepth 20000 in
theorem ggL_law_X6_init : GoodIn wsL_law wsX6_init := goodIn_r _ [8, 9, 10, 11, 12, 13, 14, 15, 16, 17, 18, 19, 20, 21, 22, 23, 24, 25, 26, 27, 28, 29, 30, 31, 32, 33, 34, 35, 36, 37, 38, 39, 40, 41, 42, 43, 44, 45, 46, 47, 48, 49, 50, 51, 52, 53, 54, 55, 56, 57, 58, 59, 60, 61, 62, 63, 64, 65, 66, 67, 68, 69, 70, 71, 72, 73, 74, 75, 76, 77, 805, 806, 807, 808, 809, 810, 765, 766, 767, 768, 769, 770, 771, 772, 773, 774, 775, 776, 811, 812, 813, 814, 815, 816, 817, 818, 819, 820, 821, 822, 823, 824, 825, 826, 827, 828, 829, 830, 831, 832, 833, 834, 835, 836, 837] (by decide +kernel) (by decide +kernel)
set_option maxRecDepth 20000 in
theorem gL_law_X6_init : GoodIn wsL_law (wsX6_init) := ggL_law_X6_init
set_option maxRecDepth 20000 in
theorem ggL_law_X7_init : GoodIn wsL_law wsX7_init := goodIn_r _ [80, 81, 10, 11, 35, 82, 83, 84, 85, 86, 87, 88, 89, 90, 91, 92, 93, 94, 95, 96, 777, 778, 779, 780, 781, 782, 783, 784, 785, 786, 787, 788, 789, 790, 791, 792, 793, 794, 795, 796, 797, 798, 799, 800, 801, 802, 803, 804] (by decide +kernel) (by decide +kernel)
set_option maxRecDepth 20000 in
theorem gL_law_X7_init : GoodIn wsL_law (wsX7_init) := ggL_law_X7_init
set_option maxRecDepth 20000 in
theorem ggL_law_X6_type : GoodIn wsL_law wsX6_type := goodIn_r _ [100, 15, 101, 102, 103, 104, 14, 105, 106, 41, 107, 2, 108, 765, 766, 767, 768, 769, 770, 771, 772, 773, 774, 775, 776, 805, 806, 807, 808, 809, 810] (by decide +kernel) (by decide +kernel)
set_option maxRecDepth 20000 in
theorem gL_law_X6_type : GoodIn wsL_law (wsV RL 13 RX6 yX6_type wsX6_type) := goodIn_app (goodIn_of _ (by decide +kernel)) ggL_law_X6_type
set_option maxRecDepth 20000 in
theorem ggL_law_X7_type : GoodIn wsL_law wsX7_type := goodIn_r _ [112, 113, 90, 114, 115, 5, 116, 777, 778, 779, 780, 781, 782, 783, 784, 785, 786, 787, 788, 789, 790, 791, 792, 793, 794, 795, 796, 797, 798, 799, 800, 801, 802, 803, 804] (by decide +kernel) (by decide +kernel)
set_option maxRecDepth 20000 in
theorem gL_law_X7_type : GoodIn wsL_law (wsV RL 17 RX7 yX7_type wsX7_type) := goodIn_app (goodIn_of _ (by decide +kernel)) ggL_law_X7_type
set_option maxRecDepth 20000 in
theorem ggL_law_X6_clear : GoodIn wsL_law wsX6_clear := goodIn_r _ [120, 15, 101, 765, 766, 767, 768, 769, 770, 771, 772, 773, 774, 775, 776, 805, 806, 807, 808, 809, 810] (by decide +kernel) (by decide +kernel)
set_option maxRecDepth 20000 in
theorem gL_law_X6_clear : GoodIn wsL_law (wsV RL 18 RX6 yX6_clear wsX6_clear) := goodIn_app (goodIn_of _ (by decide +kernel)) ggL_law_X6_clear
set_option maxRecDepth 20000 in
theorem ggL_law_X7_clear : GoodIn wsL_law wsX7_clear := goodIn_r _ [124, 113, 777, 778, 779, 780, 781, 782, 783, 784, 785, 786, 787, 788, 789, 790, 791, 792, 793, 794, 795, 796, 797, 798, 799, 800, 801, 802, 803, 804] (by decide +kernel) (by decide +kernel)
set_option maxRecDepth 20000 in
theorem gL_law_X7_clear : GoodIn wsL_law (wsV RL 22 RX7 yX7_clear wsX7_clear) := goodIn_app (goodIn_of _ (by decide +kernel)) ggL_law_X7_clear
set_option maxRecDepth 20000 in
theorem ggL_law_X6_coast : GoodIn wsL_law wsX6_coast := goodIn_r _ [128, 15, 19, 129, 101, 23, 27, 28, 32, 33, 34, 130, 131, 132, 133, 14, 134, 135, 136, 137, 138, 139, 140, 18, 141, 142, 143, 45, 144, 47, 145, 146, 147, 148, 149, 150, 151, 152, 153, 106, 41, 154, 2, 155, 156, 157, 158, 159, 160, 161, 162, 163, 164, 165, 166, 167, 168, 169, 170, 171, 172, 173, 174, 175, 176, 177, 178, 179, 180, 181, 182, 183, 184, 185, 186, 46, 107, 108, 187, 188, 189, 190, 191, 192, 193, 194, 195, 196, 197, 198, 199, 200, 201, 202, 203, 204, 205, 206, 207, 208, 209, 210, 211, 212, 213, 214, 215, 22, 216, 52, 56, 217, 218, 219, 220, 221, 222, 223, 224, 225, 226, 227, 228, 55, 229, 230, 60, 63, 61, 231, 62, 232, 233, 234, 235, 236, 237, 238, 239, 240, 241, 242, 243, 244, 245, 246, 247, 248, 249, 250, 251, 252, 253, 254, 255, 256, 257, 258, 259, 260, 26, 261, 71, 262, 263, 264, 31, 265, 266, 267, 268, 269, 270, 271, 765, 766, 767, 768, 769, 770, 771, 772, 773, 774, 775, 776, 805, 806, 807, 808, 809, 810, 811, 812, 813, 814, 815, 816, 817, 818, 833, 834, 835, 836, 837, 819, 820, 821, 822, 823, 824, 825, 826, 827, 828, 829, 830, 831, 832] (by decide +kernel) (by decide +kernel)
set_option maxRecDepth 20000 in
theorem gL_law_X6_coast : GoodIn wsL_law (wsV RL 23 RX6 yX6_coast wsX6_coast) := goodIn_app (goodIn_of _ (by decide +kernel)) ggL_law_X6_coast
set_option maxRecDepth 20000 in
theorem ggL_law_X7_coast : GoodIn wsL_law wsX7_coast := goodIn_r _ [275, 276, 277, 278, 279, 280, 281, 282, 283, 284, 285, 286, 5, 287, 288, 289, 290, 291, 292, 113, 90, 293, 294, 295, 114, 115, 116, 296, 297, 298, 299, 300, 301, 302, 303, 304, 305, 306, 307, 308, 309, 310, 91, 92, 311, 312, 313, 314, 315, 316, 317, 318, 319, 320, 321, 322, 323, 324, 84, 82, 83, 85, 325, 88, 777, 778, 779, 780, 781, 782, 783, 784, 785, 786, 787, 788, 789, 790, 791, 792, 793, 794, 795, 796, 797, 798, 799, 800, 801, 802, 803, 804] (by decide +kernel) (by decide +kernel)
set_option maxRecDepth 20000 in
theorem gL_law_X7_coast : GoodIn wsL_law (wsV RL 26 RX7 yX7_coast wsX7_coast) := goodIn_app (goodIn_of _ (by decide +kernel)) ggL_law_X7_coast
set_option maxRecDepth 20000 in
theorem ggL_law_X6_keeper : GoodIn wsL_law wsX6_keeper := goodIn_r _ [329, 23, 330, 331, 32, 332, 333, 334, 335, 2, 336, 337, 338, 339, 340, 18, 341, 46, 342, 343, 344, 55, 345, 230, 346, 347, 348, 349, 61, 350, 351, 352, 353, 354, 355, 172, 356, 357, 358, 359, 360, 361, 362, 201, 202, 203, 47, 765, 766, 767, 768, 769, 770, 771, 772, 773, 774, 775, 776, 817, 818, 826, 827, 828, 829, 830, 831, 832, 811, 812, 813, 814, 815, 816, 833, 834, 835, 836, 837] (by decide +kernel) (by decide +kernel)
set_option maxRecDepth 20000 in
theorem gL_law_X6_keeper : GoodIn wsL_law (wsV RL 27 RX6 yX6_keeper wsX6_keeper) := goodIn_app (goodIn_of _ (by decide +kernel)) ggL_law_X6_keeper
set_option maxRecDepth 20000 in
theorem ggL_law_X7_keeper : GoodIn wsL_law wsX7_keeper := goodIn_r _ [366, 82, 85, 83, 367, 368, 369, 5, 370, 323, 114, 115, 116, 371, 372, 373, 374, 375, 376, 377, 378, 379, 380, 381, 777, 778, 779, 780, 781, 782, 783, 784, 785, 786, 787, 788, 789, 790, 791, 792, 793, 794, 795, 796, 797, 798, 799, 800, 801, 802, 803, 804] (by decide +kernel) (by decide +kernel)
set_option maxRecDepth 20000 in
theorem gL_law_X7_keeper : GoodIn wsL_law (wsV RL 31 RX7 yX7_keeper wsX7_keeper) := goodIn_app (goodIn_of _ (by decide +kernel)) ggL_law_X7_keeper
set_option maxRecDepth 20000 in
theorem ggL_law_X6_rock : GoodIn wsL_law wsX6_rock := goodIn_r _ [385, 23, 331, 32, 332, 386, 387, 388, 2, 389, 333, 334, 335, 336, 330, 337, 390, 347, 348, 55, 349, 61, 765, 766, 767, 768, 769, 770, 771, 772, 773, 774, 775, 776, 817, 818, 826, 827, 828, 829, 830, 831, 832, 811, 812, 813, 814, 815, 816, 833, 834, 835, 836, 837] (by decide +kernel) (by decide +kernel)
set_option maxRecDepth 20000 in
theorem gL_law_X6_rock : GoodIn wsL_law (wsV RL 32 RX6 yX6_rock wsX6_rock) := goodIn_app (goodIn_of _ (by decide +kernel)) ggL_law_X6_rock
set_option maxRecDepth 20000 in
theorem ggL_law_X7_rock : GoodIn wsL_law wsX7_rock := goodIn_r _ [394, 85, 367, 368, 369, 5, 370, 323, 114, 115, 116, 777, 778, 779, 780, 781, 782, 783, 784, 785, 786, 787, 788, 789, 790, 791, 792, 793, 794, 795, 796, 797, 798, 799, 800, 801, 802, 803, 804] (by decide +kernel) (by decide +kernel)
set_option maxRecDepth 20000 in
theorem gL_law_X7_rock : GoodIn wsL_law (wsV RL 35 RX7 yX7_rock wsX7_rock) := goodIn_app (goodIn_of _ (by decide +kernel)) ggL_law_X7_rock
set_option maxRecDepth 20000 in
theorem ggL_law_X6_moon : GoodIn wsL_law wsX6_moon := goodIn_r _ [398, 23, 32, 399, 332, 400, 401, 402, 403, 22, 404, 52, 217, 405, 406, 407, 408, 56, 409, 347, 348, 55, 349, 61, 410, 201, 202, 18, 203, 47, 411, 412, 413, 414, 415, 416, 31, 417, 270, 77, 418, 223, 224, 225, 266, 267, 268, 269, 107, 2, 108, 419, 420, 421, 422, 423, 424, 425, 426, 62, 427, 428, 429, 430, 330, 337, 357, 358, 359, 360, 361, 338, 339, 340, 341, 46, 431, 252, 253, 254, 255, 256, 257, 765, 766, 767, 768, 769, 770, 771, 772, 773, 774, 775, 776, 826, 827, 828, 829, 830, 831, 832, 817, 818, 811, 812, 813, 814, 815, 816, 833, 834, 835, 836, 837] (by decide +kernel) (by decide +kernel)
set_option maxRecDepth 20000 in
theorem gL_law_X6_moon : GoodIn wsL_law (wsV RL 36 RX6 yX6_moon wsX6_moon) := goodIn_app (goodIn_of _ (by decide +kernel)) ggL_law_X6_moon
set_option maxRecDepth 20000 in
theorem ggL_law_X7_moon : GoodIn wsL_law wsX7_moon := goodIn_r _ [435, 85, 323, 82, 436, 437, 438, 5, 439, 114, 115, 116, 440, 441, 442, 443, 83, 379, 380, 381, 444, 445, 446, 447, 448, 449, 450, 451, 452, 453, 454, 777, 778, 779, 780, 781, 782, 783, 784, 785, 786, 787, 788, 789, 790, 791, 792, 793, 794, 795, 796, 797, 798, 799, 800, 801, 802, 803, 804] (by decide +kernel) (by decide +kernel)
set_option maxRecDepth 20000 in
theorem gL_law_X7_moon : GoodIn wsL_law (wsV RL 39 RX7 yX7_moon wsX7_moon) := goodIn_app (goodIn_of _ (by decide +kernel)) ggL_law_X7_moon
set_option maxRecDepth 20000 in
theorem ggL_law_X6_puts : GoodIn wsL_law wsX6_puts := goodIn_r _ [458, 32, 361, 333, 334, 335, 2, 336, 23, 330, 337, 459, 460, 461, 357, 358, 359, 360, 414, 415, 416, 31, 417, 270, 77, 418, 223, 224, 225, 266, 267, 268, 269, 107, 108, 431, 252, 253, 254, 255, 256, 257, 765, 766, 767, 768, 769, 770, 771, 772, 773, 774, 775, 776, 826, 827, 828, 829, 830, 831, 832, 817, 818, 811, 812, 813, 814, 815, 816] (by decide +kernel) (by decide +kernel)
set_option maxRecDepth 20000 in
theorem gL_law_X6_puts : GoodIn wsL_law (wsV RL 40 RX6 yX6_puts wsX6_puts) := goodIn_app (goodIn_of _ (by decide +kernel)) ggL_law_X6_puts
set_option maxRecDepth 20000 in
theorem ggL_law_X7_puts : GoodIn wsL_law wsX7_puts := goodIn_r _ [465, 85, 367, 368, 369, 5, 370, 323, 114, 115, 116, 379, 380, 381, 444, 445, 446, 447, 452, 453, 454, 777, 778, 779, 780, 781, 782, 783, 784, 785, 786, 787, 788, 789, 790, 791, 792, 793, 794, 795, 796, 797, 798, 799, 800, 801, 802, 803, 804] (by decide +kernel) (by decide +kernel)
set_option maxRecDepth 20000 in
theorem gL_law_X7_puts : GoodIn wsL_law (wsV RL 43 RX7 yX7_puts wsX7_puts) := goodIn_app (goodIn_of _ (by decide +kernel)) ggL_law_X7_puts
set_option maxRecDepth 20000 in
theorem ggL_law_X6_undo : GoodIn wsL_law wsX6_undo := goodIn_r _ [469, 32, 470, 471, 472, 473, 31, 474, 270, 77, 266, 267, 268, 269, 154, 2, 155, 765, 766, 767, 768, 769, 770, 771, 772, 773, 774, 775, 776, 826, 827, 828, 829, 830, 831, 832] (by decide +kernel) (by decide +kernel)
set_option maxRecDepth 20000 in
theorem gL_law_X6_undo : GoodIn wsL_law (wsV RL 44 RX6 yX6_undo wsX6_undo) := goodIn_app (goodIn_of _ (by decide +kernel)) ggL_law_X6_undo
set_option maxRecDepth 20000 in
theorem ggL_law_X7_undo : GoodIn wsL_law wsX7_undo := goodIn_r _ [478, 85, 777, 778, 779, 780, 781, 782, 783, 784, 785, 786, 787, 788, 789, 790, 791, 792, 793, 794, 795, 796, 797, 798, 799, 800, 801, 802, 803, 804] (by decide +kernel) (by decide +kernel)
set_option maxRecDepth 20000 in
theorem gL_law_X7_undo : GoodIn wsL_law (wsV RL 47 RX7 yX7_undo wsX7_undo) := goodIn_app (goodIn_of _ (by decide +kernel)) ggL_law_X7_undo
set_option maxRecDepth 20000 in
theorem ggL_law_X6_now : GoodIn wsL_law wsX6_now := goodIn_r _ [482, 32, 399, 400, 361, 23, 332, 483, 484, 485, 22, 486, 52, 217, 487, 488, 171, 172, 173, 489, 490, 491, 492, 56, 409, 347, 348, 55, 349, 61, 493, 339, 340, 18, 341, 46, 494, 495, 496, 2, 497, 330, 337, 350, 351, 352, 353, 331, 354, 355, 356, 342, 343, 344, 345, 230, 346, 498, 499, 500, 501, 502, 406, 407, 408, 410, 201, 202, 203, 47, 503, 504, 402, 403, 404, 505, 412, 413, 506, 420, 421, 422, 423, 424, 425, 426, 62, 507, 252, 253, 254, 255, 256, 257, 765, 766, 767, 768, 769, 770, 771, 772, 773, 774, 775, 776, 826, 827, 828, 829, 830, 831, 832, 817, 818, 811, 812, 813, 814, 815, 816, 833, 834, 835, 836, 837] (by decide +kernel) (by decide +kernel)
set_option maxRecDepth 20000 in
theorem gL_law_X6_now : GoodIn wsL_law (wsV RL 48 RX6 yX6_now wsX6_now) := goodIn_app (goodIn_of _ (by decide +kernel)) ggL_law_X6_now
set_option maxRecDepth 20000 in
theorem ggL_law_X7_now : GoodIn wsL_law wsX7_now := goodIn_r _ [511, 323, 85, 375, 376, 377, 5, 378, 371, 372, 373, 374, 512, 513, 514, 515, 84, 82, 516, 517, 518, 519, 93, 436, 437, 438, 439, 114, 115, 116, 440, 441, 442, 443, 83, 379, 380, 381, 520, 521, 522, 523, 448, 449, 450, 451, 452, 453, 454, 777, 778, 779, 780, 781, 782, 783, 784, 785, 786, 787, 788, 789, 790, 791, 792, 793, 794, 795, 796, 797, 798, 799, 800, 801, 802, 803, 804] (by decide +kernel) (by decide +kernel)
set_option maxRecDepth 20000 in
theorem gL_law_X7_now : GoodIn wsL_law (wsV RL 51 RX7 yX7_now wsX7_now) := goodIn_app (goodIn_of _ (by decide +kernel)) ggL_law_X7_now
set_option maxRecDepth 20000 in
theorem ggL_law_X6_homeward : GoodIn wsL_law wsX6_homeward := goodIn_r _ [527, 32, 332, 528, 529, 530, 2, 531, 27, 28, 459, 460, 461, 532, 533, 534, 26, 535, 71, 536, 68, 70, 537, 146, 147, 148, 538, 539, 540, 541, 69, 107, 108, 154, 155, 542, 543, 544, 545, 72, 546, 406, 407, 22, 408, 52, 217, 56, 409, 347, 348, 55, 349, 61, 410, 201, 202, 18, 203, 47, 547, 402, 403, 404, 548, 412, 413, 549, 420, 421, 422, 423, 424, 425, 426, 62, 550, 551, 552, 553, 73, 554, 484, 485, 486, 487, 488, 171, 172, 173, 489, 490, 491, 492, 493, 339, 340, 341, 46, 555, 556, 557, 558, 559, 560, 561, 562, 765, 766, 767, 768, 769, 770, 771, 772, 773, 774, 775, 776, 826, 827, 828, 829, 830, 831, 832, 819, 820, 821, 822, 823, 824, 825, 817, 818, 811, 812, 813, 814, 815, 816, 833, 834, 835, 836, 837] (by decide +kernel) (by decide +kernel)
set_option maxRecDepth 20000 in
theorem gL_law_X6_homeward : GoodIn wsL_law (wsV RL 52 RX6 yX6_homeward wsX6_homeward) := goodIn_app (goodIn_of _ (by decide +kernel)) ggL_law_X6_homeward
set_option maxRecDepth 20000 in
theorem ggL_law_X7_homeward : GoodIn wsL_law wsX7_homeward := goodIn_r _ [566, 85, 93, 94, 114, 115, 5, 116, 567, 568, 569, 570, 323, 571, 572, 573, 574, 96, 379, 380, 381, 575, 576, 577, 578, 512, 513, 514, 515, 84, 82, 579, 580, 581, 582, 95, 436, 437, 438, 439, 440, 441, 442, 443, 83, 448, 449, 450, 451, 583, 584, 585, 586, 520, 521, 522, 523, 777, 778, 779, 780, 781, 782, 783, 784, 785, 786, 787, 788, 789, 790, 791, 792, 793, 794, 795, 796, 797, 798, 799, 800, 801, 802, 803, 804] (by decide +kernel) (by decide +kernel)
set_option maxRecDepth 20000 in
theorem gL_law_X7_homeward : GoodIn wsL_law (wsV RL 55 RX7 yX7_homeward wsX7_homeward) := goodIn_app (goodIn_of _ (by decide +kernel)) ggL_law_X7_homeward
set_option maxRecDepth 20000 in
theorem ggL_law_X6_trade : GoodIn wsL_law wsX6_trade := goodIn_r _ [590, 32, 332, 23, 331, 591, 528, 529, 530, 2, 531, 27, 28, 333, 334, 335, 336, 330, 337, 532, 533, 534, 26, 535, 71, 536, 68, 70, 537, 146, 147, 148, 538, 539, 540, 541, 69, 107, 108, 154, 155, 542, 543, 544, 545, 72, 546, 406, 407, 22, 408, 52, 217, 56, 409, 347, 348, 55, 349, 61, 410, 201, 202, 18, 203, 47, 547, 402, 403, 404, 548, 412, 413, 549, 420, 421, 422, 423, 424, 425, 426, 62, 550, 551, 552, 553, 73, 554, 484, 485, 486, 487, 488, 171, 172, 173, 489, 490, 491, 492, 493, 339, 340, 341, 46, 342, 343, 344, 345, 230, 346, 390, 555, 556, 557, 558, 592, 593, 594, 595, 765, 766, 767, 768, 769, 770, 771, 772, 773, 774, 775, 776, 826, 827, 828, 829, 830, 831, 832, 817, 818, 833, 834, 835, 836, 837, 811, 812, 813, 814, 815, 816, 819, 820, 821, 822, 823, 824, 825] (by decide +kernel) (by decide +kernel)
set_option maxRecDepth 20000 in
theorem gL_law_X6_trade : GoodIn wsL_law (wsV RL 56 RX6 yX6_trade wsX6_trade) := goodIn_app (goodIn_of _ (by decide +kernel)) ggL_law_X6_trade
set_option maxRecDepth 20000 in
theorem ggL_law_X7_trade : GoodIn wsL_law wsX7_trade := goodIn_r _ [599, 85, 94, 93, 367, 368, 369, 5, 370, 323, 114, 115, 116, 371, 372, 373, 374, 583, 584, 585, 586, 579, 580, 581, 582, 95, 571, 572, 573, 574, 96, 379, 380, 381, 436, 437, 438, 439, 440, 441, 442, 443, 83, 448, 449, 450, 451, 575, 576, 577, 578, 512, 513, 514, 515, 84, 82, 777, 778, 779, 780, 781, 782, 783, 784, 785, 786, 787, 788, 789, 790, 791, 792, 793, 794, 795, 796, 797, 798, 799, 800, 801, 802, 803, 804] (by decide +kernel) (by decide +kernel)
set_option maxRecDepth 20000 in
theorem gL_law_X7_trade : GoodIn wsL_law (wsV RL 60 RX7 yX7_trade wsX7_trade) := goodIn_app (goodIn_of _ (by decide +kernel)) ggL_law_X7_trade
set_option maxRecDepth 20000 in
theorem ggL_law_X6_ship : GoodIn wsL_law wsX6_ship := goodIn_r _ [603, 23, 330, 337, 604, 605, 2, 606, 607, 608, 609, 610, 331, 32, 332, 390, 347, 348, 55, 349, 61, 338, 339, 340, 18, 341, 46, 357, 358, 359, 360, 361, 765, 766, 767, 768, 769, 770, 771, 772, 773, 774, 775, 776, 817, 818, 811, 812, 813, 814, 815, 816, 826, 827, 828, 829, 830, 831, 832, 833, 834, 835, 836, 837] (by decide +kernel) (by decide +kernel)
set_option maxRecDepth 20000 in
theorem gL_law_X6_ship : GoodIn wsL_law (wsV RL 61 RX6 yX6_ship wsX6_ship) := goodIn_app (goodIn_of _ (by decide +kernel)) ggL_law_X6_ship
set_option maxRecDepth 20000 in
theorem ggL_law_X7_ship : GoodIn wsL_law wsX7_ship := goodIn_r _ [614, 323, 82, 85, 114, 115, 5, 116, 379, 380, 381, 777, 778, 779, 780, 781, 782, 783, 784, 785, 786, 787, 788, 789, 790, 791, 792, 793, 794, 795, 796, 797, 798, 799, 800, 801, 802, 803, 804] (by decide +kernel) (by decide +kernel)
set_option maxRecDepth 20000 in
theorem gL_law_X7_ship : GoodIn wsL_law (wsV RL 64 RX7 yX7_ship wsX7_ship) := goodIn_app (goodIn_of _ (by decide +kernel)) ggL_law_X7_ship
set_option maxRecDepth 20000 in
theorem ggL_law_X6_odds : GoodIn wsL_law wsX6_odds := goodIn_r _ [618, 386, 387, 388, 2, 389, 333, 334, 335, 336, 23, 330, 337, 459, 460, 461, 619, 620, 621, 622, 354, 355, 172, 356, 623, 331, 32, 332, 390, 347, 348, 55, 349, 61, 357, 358, 359, 360, 361, 624, 625, 626, 627, 628, 629, 765, 766, 767, 768, 769, 770, 771, 772, 773, 774, 775, 776, 817, 818, 811, 812, 813, 814, 815, 816, 826, 827, 828, 829, 830, 831, 832, 833, 834, 835, 836, 837] (by decide +kernel) (by decide +kernel)
set_option maxRecDepth 20000 in
theorem gL_law_X6_odds : GoodIn wsL_law (wsV RL 65 RX6 yX6_odds wsX6_odds) := goodIn_app (goodIn_of _ (by decide +kernel)) ggL_law_X6_odds
set_option maxRecDepth 20000 in
theorem ggL_law_X7_odds : GoodIn wsL_law wsX7_odds := goodIn_r _ [633, 323, 84, 85, 367, 368, 369, 5, 370, 114, 115, 116, 379, 380, 381, 777, 778, 779, 780, 781, 782, 783, 784, 785, 786, 787, 788, 789, 790, 791, 792, 793, 794, 795, 796, 797, 798, 799, 800, 801, 802, 803, 804] (by decide +kernel) (by decide +kernel)
set_option maxRecDepth 20000 in
theorem gL_law_X7_odds : GoodIn wsL_law (wsV RL 68 RX7 yX7_odds wsX7_odds) := goodIn_app (goodIn_of _ (by decide +kernel)) ggL_law_X7_odds
set_option maxRecDepth 20000 in
theorem ggL_law_X6_saw : GoodIn wsL_law wsX6_saw := goodIn_r _ [637, 130, 36, 37, 386, 387, 388, 2, 389, 333, 334, 335, 336, 23, 330, 337, 604, 605, 606, 638, 107, 108, 765, 766, 767, 768, 769, 770, 771, 772, 773, 774, 775, 776, 817, 818, 811, 812, 813, 814, 815, 816] (by decide +kernel) (by decide +kernel)
set_option maxRecDepth 20000 in
theorem gL_law_X6_saw : GoodIn wsL_law (wsV RL 69 RX6 yX6_saw wsX6_saw) := goodIn_app (goodIn_of _ (by decide +kernel)) ggL_law_X6_saw
set_option maxRecDepth 20000 in
theorem ggL_law_X7_saw : GoodIn wsL_law wsX7_saw := goodIn_r _ [642, 325, 89, 367, 368, 369, 5, 370, 323, 114, 115, 116, 777, 778, 779, 780, 781, 782, 783, 784, 785, 786, 787, 788, 789, 790, 791, 792, 793, 794, 795, 796, 797, 798, 799, 800, 801, 802, 803, 804] (by decide +kernel) (by decide +kernel)
set_option maxRecDepth 20000 in
theorem gL_law_X7_saw : GoodIn wsL_law (wsV RL 72 RX7 yX7_saw wsX7_saw) := goodIn_app (goodIn_of _ (by decide +kernel)) ggL_law_X7_saw
set_option maxRecDepth 20000 in
theorem ggL_law_X6_forget : GoodIn wsL_law wsX6_forget := goodIn_r _ [646, 130, 765, 766, 767, 768, 769, 770, 771, 772, 773, 774, 775, 776] (by decide +kernel) (by decide +kernel)
set_option maxRecDepth 20000 in
theorem gL_law_X6_forget : GoodIn wsL_law (wsV RL 73 RX6 yX6_forget wsX6_forget) := goodIn_app (goodIn_of _ (by decide +kernel)) ggL_law_X6_forget
set_option maxRecDepth 20000 in
theorem ggL_law_X7_forget : GoodIn wsL_law wsX7_forget := goodIn_r _ [650, 325, 777, 778, 779, 780, 781, 782, 783, 784, 785, 786, 787, 788, 789, 790, 791, 792, 793, 794, 795, 796, 797, 798, 799, 800, 801, 802, 803, 804] (by decide +kernel) (by decide +kernel)
set_option maxRecDepth 20000 in
theorem gL_law_X7_forget : GoodIn wsL_law (wsV RL 76 RX7 yX7_forget wsX7_forget) := goodIn_app (goodIn_of _ (by decide +kernel)) ggL_law_X7_forget
set_option maxRecDepth 20000 in
theorem ggL_law_X6_fits : GoodIn wsL_law wsX6_fits := goodIn_r _ [654, 655, 656, 657, 2, 658, 23, 331, 591, 659, 660, 661, 662, 130, 36, 37, 663, 154, 155, 664, 490, 491, 22, 492, 52, 56, 409, 347, 348, 55, 349, 61, 493, 339, 340, 18, 341, 46, 386, 387, 388, 389, 333, 334, 335, 336, 330, 337, 665, 666, 667, 668, 390, 765, 766, 767, 768, 769, 770, 771, 772, 773, 774, 775, 776, 817, 818, 833, 834, 835, 836, 837, 811, 812, 813, 814, 815, 816] (by decide +kernel) (by decide +kernel)
set_option maxRecDepth 20000 in
theorem gL_law_X6_fits : GoodIn wsL_law (wsV RL 77 RX6 yX6_fits wsX6_fits) := goodIn_app (goodIn_of _ (by decide +kernel)) ggL_law_X6_fits
set_option maxRecDepth 20000 in
theorem ggL_law_X7_fits : GoodIn wsL_law wsX7_fits := goodIn_r _ [672, 323, 93, 367, 368, 369, 5, 370, 114, 115, 116, 571, 572, 573, 574, 96, 379, 380, 381, 673, 674, 675, 676, 325, 82, 89, 777, 778, 779, 780, 781, 782, 783, 784, 785, 786, 787, 788, 789, 790, 791, 792, 793, 794, 795, 796, 797, 798, 799, 800, 801, 802, 803, 804] (by decide +kernel) (by decide +kernel)
set_option maxRecDepth 20000 in
theorem gL_law_X7_fits : GoodIn wsL_law (wsV RL 80 RX7 yX7_fits wsX7_fits) := goodIn_app (goodIn_of _ (by decide +kernel)) ggL_law_X7_fits
set_option maxRecDepth 20000 in
theorem ggL_law_X6_mark : GoodIn wsL_law wsX6_mark := goodIn_r _ [680, 681, 333, 334, 335, 2, 336, 23, 330, 337, 682, 683, 684, 685, 686, 338, 339, 340, 18, 341, 46, 687, 688, 689, 690, 691, 350, 351, 352, 353, 331, 32, 332, 354, 355, 172, 356, 342, 343, 344, 55, 345, 230, 346, 347, 348, 349, 61, 692, 693, 694, 695, 696, 697, 698, 699, 700, 701, 702, 703, 704, 705, 706, 707, 708, 709, 710, 711, 399, 765, 766, 767, 768, 769, 770, 771, 772, 773, 774, 775, 776, 817, 818, 811, 812, 813, 814, 815, 816, 826, 827, 828, 829, 830, 831, 832, 833, 834, 835, 836, 837] (by decide +kernel) (by decide +kernel)
set_option maxRecDepth 20000 in
theorem gL_law_X6_mark : GoodIn wsL_law (wsV RL 81 RX6 yX6_mark wsX6_mark) := goodIn_app (goodIn_of _ (by decide +kernel)) ggL_law_X6_mark
set_option maxRecDepth 20000 in
theorem ggL_law_X7_mark : GoodIn wsL_law wsX7_mark := goodIn_r _ [715, 716, 82, 85, 717, 718, 719, 720, 721, 722, 114, 115, 5, 116, 367, 368, 369, 370, 323, 375, 376, 377, 378, 371, 372, 373, 374, 777, 778, 779, 780, 781, 782, 783, 784, 785, 786, 787, 788, 789, 790, 791, 792, 793, 794, 795, 796, 797, 798, 799, 800, 801, 802, 803, 804] (by decide +kernel) (by decide +kernel)
set_option maxRecDepth 20000 in
theorem gL_law_X7_mark : GoodIn wsL_law (wsV RL 84 RX7 yX7_mark wsX7_mark) := goodIn_app (goodIn_of _ (by decide +kernel)) ggL_law_X7_mark
set_option maxRecDepth 20000 in
theorem ggL_law_X6_keep : GoodIn wsL_law wsX6_keep := goodIn_r _ [726, 32, 727, 399, 728, 729, 730, 2, 731, 33, 34, 732, 733, 734, 31, 735, 266, 267, 268, 269, 270, 77, 418, 223, 224, 225, 765, 766, 767, 768, 769, 770, 771, 772, 773, 774, 775, 776, 826, 827, 828, 829, 830, 831, 832] (by decide +kernel) (by decide +kernel)
set_option maxRecDepth 20000 in
theorem gL_law_X6_keep : GoodIn wsL_law (wsV RL 85 RX6 yX6_keep wsX6_keep) := goodIn_app (goodIn_of _ (by decide +kernel)) ggL_law_X6_keep
set_option maxRecDepth 20000 in
theorem ggL_law_X7_keep : GoodIn wsL_law wsX7_keep := goodIn_r _ [739, 86, 85, 88, 114, 115, 5, 116, 777, 778, 779, 780, 781, 782, 783, 784, 785, 786, 787, 788, 789, 790, 791, 792, 793, 794, 795, 796, 797, 798, 799, 800, 801, 802, 803, 804] (by decide +kernel) (by decide +kernel)
set_option maxRecDepth 20000 in
theorem gL_law_X7_keep : GoodIn wsL_law (wsV RL 88 RX7 yX7_keep wsX7_keep) := goodIn_app (goodIn_of _ (by decide +kernel)) ggL_law_X7_keep
set_option maxRecDepth 20000 in
theorem ggL_law_X6_back : GoodIn wsL_law wsX6_back := goodIn_r _ [743, 727, 32, 399, 728, 729, 730, 2, 731, 33, 34, 732, 733, 734, 31, 735, 266, 267, 268, 269, 270, 77, 418, 223, 224, 225, 826, 827, 828, 829, 830, 831, 832, 765, 766, 767, 768, 769, 770, 771, 772, 773, 774, 775, 776] (by decide +kernel) (by decide +kernel)
set_option maxRecDepth 20000 in
theorem gL_law_X6_back : GoodIn wsL_law (wsV RL 89 RX6 yX6_back wsX6_back) := goodIn_app (goodIn_of _ (by decide +kernel)) ggL_law_X6_back
set_option maxRecDepth 20000 in
theorem ggL_law_X7_back : GoodIn wsL_law wsX7_back := goodIn_r _ [747, 88, 85, 86, 114, 115, 5, 116, 777, 778, 779, 780, 781, 782, 783, 784, 785, 786, 787, 788, 789, 790, 791, 792, 793, 794, 795, 796, 797, 798, 799, 800, 801, 802, 803, 804] (by decide +kernel) (by decide +kernel)
set_option maxRecDepth 20000 in
theorem gL_law_X7_back : GoodIn wsL_law (wsV RL 92 RX7 yX7_back wsX7_back) := goodIn_app (goodIn_of _ (by decide +kernel)) ggL_law_X7_back
set_option maxRecDepth 20000 in
theorem ggL_law_X6_count : GoodIn wsL_law wsX6_count := goodIn_r _ [751, 23, 330, 337, 752, 623, 130, 32, 470, 15, 101, 765, 766, 767, 768, 769, 770, 771, 772, 773, 774, 775, 776, 817, 818, 811, 812, 813, 814, 815, 816, 826, 827, 828, 829, 830, 831, 832, 805, 806, 807, 808, 809, 810] (by decide +kernel) (by decide +kernel)
set_option maxRecDepth 20000 in
theorem gL_law_X6_count : GoodIn wsL_law (wsV RL 93 RX6 yX6_count wsX6_count) := goodIn_app (goodIn_of _ (by decide +kernel)) ggL_law_X6_count
set_option maxRecDepth 20000 in
theorem ggL_law_X7_count : GoodIn wsL_law wsX7_count := goodIn_r _ [756, 323, 324, 84, 325, 85, 113, 777, 778, 779, 780, 781, 782, 783, 784, 785, 786, 787, 788, 789, 790, 791, 792, 793, 794, 795, 796, 797, 798, 799, 800, 801, 802, 803, 804] (by decide +kernel) (by decide +kernel)
set_option maxRecDepth 20000 in
theorem gL_law_X7_count : GoodIn wsL_law (wsV RL 96 RX7 yX7_count wsX7_count) := goodIn_app (goodIn_of _ (by decide +kernel)) ggL_law_X7_count
set_option maxRecDepth 20000 in
theorem ggL_law_X6_trace : GoodIn wsL_law wsX6_trace := goodIn_r _ [760, 686, 765, 766, 767, 768, 769, 770, 771, 772, 773, 774, 775, 776] (by decide +kernel) (by decide +kernel)
set_option maxRecDepth 20000 in
theorem gL_law_X6_trace : GoodIn wsL_law (wsV RL 97 RX6 yX6_trace wsX6_trace) := goodIn_app (goodIn_of _ (by decide +kernel)) ggL_law_X6_trace
set_option maxRecDepth 20000 in
theorem ggL_law_X7_trace : GoodIn wsL_law wsX7_trace := goodIn_r _ [764, 717, 777, 778, 779, 780, 781, 782, 783, 784, 785, 786, 787, 788, 789, 790, 791, 792, 793, 794, 795, 796, 797, 798, 799, 800, 801, 802, 803, 804] (by decide +kernel) (by decide +kernel)
set_option maxRecDepth 20000 in
theorem gL_law_X7_trace : GoodIn wsL_law (wsV RL 101 RX7 yX7_trace wsX7_trace) := goodIn_app (goodIn_of _ (by decide +kernel)) ggL_law_X7_trace
theorem dL_law_0 : decode cL_law 0 = .ok (.new 7, 3) := by decide +kernel
theorem dL_law_3 : decode cL_law 3 = .ok (.dup, 1) := by decide +kernel
theorem dL_law_4 : decode cL_law 4 = .ok (.invokespecial 9, 3) := by decide +kernel
theorem dL_law_7 : decode cL_law 7 = .ok (.astore_n 1, 1) := by decide +kernel
theorem dL_law_8 : decode cL_law 8 = .ok (.new 10, 3) := by decide +kernel
theorem dL_law_11 : decode cL_law 11 = .ok (.dup, 1) := by decide +kernel
theorem dL_law_12 : decode cL_law 12 = .ok (.invokespecial 12, 3) := by decide +kernel
theorem dL_law_15 : decode cL_law 15 = .ok (.astore_n 2, 1) := by decide +kernel
theorem dL_law_16 : decode cL_law 16 = .ok (.iconst 0, 1) := by decide +kernel
theorem dL_law_17 : decode cL_law 17 = .ok (.istore_n 3, 1) := by decide +kernel
theorem dL_law_18 : decode cL_law 18 = .ok (.iload_n 3, 1) := by decide +kernel
theorem dL_law_19 : decode cL_law 19 = .ok (.aload_n 0, 1) := by decide +kernel
theorem dL_law_20 : decode cL_law 20 = .ok (.arraylength, 1) := by decide +kernel
theorem dL_law_21 : decode cL_law 21 = .ok (.iconst 4, 1) := by decide +kernel
theorem dL_law_22 : decode cL_law 22 = .ok (.isub, 1) := by decide +kernel
theorem dL_law_23 : decode cL_law 23 = .ok (.if_icmp .gt 649, 3) := by decide +kernel
theorem dL_law_26 : decode cL_law 26 = .ok (.aload_n 0, 1) := by decide +kernel
theorem dL_law_27 : decode cL_law 27 = .ok (.iload_n 3, 1) := by decide +kernel
theorem dL_law_28 : decode cL_law 28 = .ok (.iaload, 1) := by decide +kernel
theorem dL_law_29 : decode cL_law 29 = .ok (.bipush 31, 2) := by decide +kernel
theorem dL_law_31 : decode cL_law 31 = .ok (.iand, 1) := by decide +kernel
theorem dL_law_32 : decode cL_law 32 = .ok (.tableswitch 634 0 20 #[100, 123, 136, 149, 182, 205, 228, 261, 274, 297, 330, 373, 406, 449, 482, 495, 518, 551, 574, 597, 620], 100) := by decide +kernel
theorem dL_law_132 : decode cL_law 132 = .ok (.aload_n 1, 1) := by decide +kernel
theorem dL_law_133 : decode cL_law 133 = .ok (.aload_n 0, 1) := by decide +kernel
theorem dL_law_134 : decode cL_law 134 = .ok (.iload_n 3, 1) := by decide +kernel
theorem dL_law_135 : decode cL_law 135 = .ok (.iconst 1, 1) := by decide +kernel
theorem dL_law_136 : decode cL_law 136 = .ok (.iadd, 1) := by decide +kernel
theorem dL_law_137 : decode cL_law 137 = .ok (.iaload, 1) := by decide +kernel
theorem dL_law_138 : decode cL_law 138 = .ok (.invokevirtual 13, 3) := by decide +kernel
theorem dL_law_141 : decode cL_law 141 = .ok (.aload_n 2, 1) := by decide +kernel
theorem dL_law_142 : decode cL_law 142 = .ok (.aload_n 0, 1) := by decide +kernel
theorem dL_law_143 : decode cL_law 143 = .ok (.iload_n 3, 1) := by decide +kernel
theorem dL_law_144 : decode cL_law 144 = .ok (.iconst 1, 1) := by decide +kernel
theorem dL_law_145 : decode cL_law 145 = .ok (.iadd, 1) := by decide +kernel
theorem dL_law_146 : decode cL_law 146 = .ok (.iaload, 1) := by decide +kernel
theorem dL_law_147 : decode cL_law 147 = .ok (.invokevirtual 17, 3) := by decide +kernel
theorem dL_law_150 : decode cL_law 150 = .ok (.if_icmp .eq 516, 3) := by decide +kernel
theorem dL_law_153 : decode cL_law 153 = .ok (.iconst 0, 1) := by decide +kernel
theorem dL_law_154 : decode cL_law 154 = .ok (.ireturn, 1) := by decide +kernel
theorem dL_law_155 : decode cL_law 155 = .ok (.aload_n 1, 1) := by decide +kernel
theorem dL_law_156 : decode cL_law 156 = .ok (.invokevirtual 18, 3) := by decide +kernel
theorem dL_law_159 : decode cL_law 159 = .ok (.aload_n 2, 1) := by decide +kernel
theorem dL_law_160 : decode cL_law 160 = .ok (.invokevirtual 22, 3) := by decide +kernel
theorem dL_law_163 : decode cL_law 163 = .ok (.if_icmp .eq 503, 3) := by decide +kernel
theorem dL_law_166 : decode cL_law 166 = .ok (.iconst 0, 1) := by decide +kernel
theorem dL_law_167 : decode cL_law 167 = .ok (.ireturn, 1) := by decide +kernel
theorem dL_law_168 : decode cL_law 168 = .ok (.aload_n 1, 1) := by decide +kernel
theorem dL_law_169 : decode cL_law 169 = .ok (.invokevirtual 23, 3) := by decide +kernel
theorem dL_law_172 : decode cL_law 172 = .ok (.aload_n 2, 1) := by decide +kernel
theorem dL_law_173 : decode cL_law 173 = .ok (.invokevirtual 26, 3) := by decide +kernel
theorem dL_law_176 : decode cL_law 176 = .ok (.if_icmp .eq 490, 3) := by decide +kernel
theorem dL_law_179 : decode cL_law 179 = .ok (.iconst 0, 1) := by decide +kernel
theorem dL_law_180 : decode cL_law 180 = .ok (.ireturn, 1) := by decide +kernel
theorem dL_law_181 : decode cL_law 181 = .ok (.aload_n 1, 1) := by decide +kernel
theorem dL_law_182 : decode cL_law 182 = .ok (.aload_n 0, 1) := by decide +kernel
theorem dL_law_183 : decode cL_law 183 = .ok (.iload_n 3, 1) := by decide +kernel
theorem dL_law_184 : decode cL_law 184 = .ok (.iconst 1, 1) := by decide +kernel
theorem dL_law_185 : decode cL_law 185 = .ok (.iadd, 1) := by decide +kernel
theorem dL_law_186 : decode cL_law 186 = .ok (.iaload, 1) := by decide +kernel
theorem dL_law_187 : decode cL_law 187 = .ok (.aload_n 0, 1) := by decide +kernel
theorem dL_law_188 : decode cL_law 188 = .ok (.iload_n 3, 1) := by decide +kernel
theorem dL_law_189 : decode cL_law 189 = .ok (.iconst 2, 1) := by decide +kernel
theorem dL_law_190 : decode cL_law 190 = .ok (.iadd, 1) := by decide +kernel
theorem dL_law_191 : decode cL_law 191 = .ok (.iaload, 1) := by decide +kernel
theorem dL_law_192 : decode cL_law 192 = .ok (.invokevirtual 27, 3) := by decide +kernel
theorem dL_law_195 : decode cL_law 195 = .ok (.aload_n 2, 1) := by decide +kernel
theorem dL_law_196 : decode cL_law 196 = .ok (.aload_n 0, 1) := by decide +kernel
theorem dL_law_197 : decode cL_law 197 = .ok (.iload_n 3, 1) := by decide +kernel
theorem dL_law_198 : decode cL_law 198 = .ok (.iconst 1, 1) := by decide +kernel
theorem dL_law_199 : decode cL_law 199 = .ok (.iadd, 1) := by decide +kernel
theorem dL_law_200 : decode cL_law 200 = .ok (.iaload, 1) := by decide +kernel
theorem dL_law_201 : decode cL_law 201 = .ok (.aload_n 0, 1) := by decide +kernel
theorem dL_law_202 : decode cL_law 202 = .ok (.iload_n 3, 1) := by decide +kernel
theorem dL_law_203 : decode cL_law 203 = .ok (.iconst 2, 1) := by decide +kernel
theorem dL_law_204 : decode cL_law 204 = .ok (.iadd, 1) := by decide +kernel
theorem dL_law_205 : decode cL_law 205 = .ok (.iaload, 1) := by decide +kernel
theorem dL_law_206 : decode cL_law 206 = .ok (.invokevirtual 31, 3) := by decide +kernel
theorem dL_law_209 : decode cL_law 209 = .ok (.if_icmp .eq 457, 3) := by decide +kernel
theorem dL_law_212 : decode cL_law 212 = .ok (.iconst 0, 1) := by decide +kernel
theorem dL_law_213 : decode cL_law 213 = .ok (.ireturn, 1) := by decide +kernel
theorem dL_law_214 : decode cL_law 214 = .ok (.aload_n 1, 1) := by decide +kernel
theorem dL_law_215 : decode cL_law 215 = .ok (.aload_n 0, 1) := by decide +kernel
theorem dL_law_216 : decode cL_law 216 = .ok (.iload_n 3, 1) := by decide +kernel
theorem dL_law_217 : decode cL_law 217 = .ok (.iconst 1, 1) := by decide +kernel
theorem dL_law_218 : decode cL_law 218 = .ok (.iadd, 1) := by decide +kernel
theorem dL_law_219 : decode cL_law 219 = .ok (.iaload, 1) := by decide +kernel
theorem dL_law_220 : decode cL_law 220 = .ok (.invokevirtual 32, 3) := by decide +kernel
theorem dL_law_223 : decode cL_law 223 = .ok (.aload_n 2, 1) := by decide +kernel
theorem dL_law_224 : decode cL_law 224 = .ok (.aload_n 0, 1) := by decide +kernel
theorem dL_law_225 : decode cL_law 225 = .ok (.iload_n 3, 1) := by decide +kernel
theorem dL_law_226 : decode cL_law 226 = .ok (.iconst 1, 1) := by decide +kernel
theorem dL_law_227 : decode cL_law 227 = .ok (.iadd, 1) := by decide +kernel
theorem dL_law_228 : decode cL_law 228 = .ok (.iaload, 1) := by decide +kernel
theorem dL_law_229 : decode cL_law 229 = .ok (.invokevirtual 35, 3) := by decide +kernel
theorem dL_law_232 : decode cL_law 232 = .ok (.if_icmp .eq 434, 3) := by decide +kernel
theorem dL_law_235 : decode cL_law 235 = .ok (.iconst 0, 1) := by decide +kernel
theorem dL_law_236 : decode cL_law 236 = .ok (.ireturn, 1) := by decide +kernel
theorem dL_law_237 : decode cL_law 237 = .ok (.aload_n 1, 1) := by decide +kernel
theorem dL_law_238 : decode cL_law 238 = .ok (.aload_n 0, 1) := by decide +kernel
theorem dL_law_239 : decode cL_law 239 = .ok (.iload_n 3, 1) := by decide +kernel
theorem dL_law_240 : decode cL_law 240 = .ok (.iconst 1, 1) := by decide +kernel
theorem dL_law_241 : decode cL_law 241 = .ok (.iadd, 1) := by decide +kernel
theorem dL_law_242 : decode cL_law 242 = .ok (.iaload, 1) := by decide +kernel
theorem dL_law_243 : decode cL_law 243 = .ok (.invokevirtual 36, 3) := by decide +kernel
theorem dL_law_246 : decode cL_law 246 = .ok (.aload_n 2, 1) := by decide +kernel
theorem dL_law_247 : decode cL_law 247 = .ok (.aload_n 0, 1) := by decide +kernel
theorem dL_law_248 : decode cL_law 248 = .ok (.iload_n 3, 1) := by decide +kernel
theorem dL_law_249 : decode cL_law 249 = .ok (.iconst 1, 1) := by decide +kernel
theorem dL_law_250 : decode cL_law 250 = .ok (.iadd, 1) := by decide +kernel
theorem dL_law_251 : decode cL_law 251 = .ok (.iaload, 1) := by decide +kernel
theorem dL_law_252 : decode cL_law 252 = .ok (.invokevirtual 39, 3) := by decide +kernel
theorem dL_law_255 : decode cL_law 255 = .ok (.if_icmp .eq 411, 3) := by decide +kernel
theorem dL_law_258 : decode cL_law 258 = .ok (.iconst 0, 1) := by decide +kernel
theorem dL_law_259 : decode cL_law 259 = .ok (.ireturn, 1) := by decide +kernel
theorem dL_law_260 : decode cL_law 260 = .ok (.aload_n 1, 1) := by decide +kernel
theorem dL_law_261 : decode cL_law 261 = .ok (.aload_n 0, 1) := by decide +kernel
theorem dL_law_262 : decode cL_law 262 = .ok (.iload_n 3, 1) := by decide +kernel
theorem dL_law_263 : decode cL_law 263 = .ok (.iconst 1, 1) := by decide +kernel
theorem dL_law_264 : decode cL_law 264 = .ok (.iadd, 1) := by decide +kernel
theorem dL_law_265 : decode cL_law 265 = .ok (.iaload, 1) := by decide +kernel
theorem dL_law_266 : decode cL_law 266 = .ok (.aload_n 0, 1) := by decide +kernel
theorem dL_law_267 : decode cL_law 267 = .ok (.iload_n 3, 1) := by decide +kernel
theorem dL_law_268 : decode cL_law 268 = .ok (.iconst 2, 1) := by decide +kernel
theorem dL_law_269 : decode cL_law 269 = .ok (.iadd, 1) := by decide +kernel
theorem dL_law_270 : decode cL_law 270 = .ok (.iaload, 1) := by decide +kernel
theorem dL_law_271 : decode cL_law 271 = .ok (.invokevirtual 40, 3) := by decide +kernel
theorem dL_law_274 : decode cL_law 274 = .ok (.aload_n 2, 1) := by decide +kernel
theorem dL_law_275 : decode cL_law 275 = .ok (.aload_n 0, 1) := by decide +kernel
theorem dL_law_276 : decode cL_law 276 = .ok (.iload_n 3, 1) := by decide +kernel
theorem dL_law_277 : decode cL_law 277 = .ok (.iconst 1, 1) := by decide +kernel
theorem dL_law_278 : decode cL_law 278 = .ok (.iadd, 1) := by decide +kernel
theorem dL_law_279 : decode cL_law 279 = .ok (.iaload, 1) := by decide +kernel
theorem dL_law_280 : decode cL_law 280 = .ok (.aload_n 0, 1) := by decide +kernel
theorem dL_law_281 : decode cL_law 281 = .ok (.iload_n 3, 1) := by decide +kernel
theorem dL_law_282 : decode cL_law 282 = .ok (.iconst 2, 1) := by decide +kernel
theorem dL_law_283 : decode cL_law 283 = .ok (.iadd, 1) := by decide +kernel
theorem dL_law_284 : decode cL_law 284 = .ok (.iaload, 1) := by decide +kernel
theorem dL_law_285 : decode cL_law 285 = .ok (.invokevirtual 43, 3) := by decide +kernel
theorem dL_law_288 : decode cL_law 288 = .ok (.if_icmp .eq 378, 3) := by decide +kernel
theorem dL_law_291 : decode cL_law 291 = .ok (.iconst 0, 1) := by decide +kernel
theorem dL_law_292 : decode cL_law 292 = .ok (.ireturn, 1) := by decide +kernel
theorem dL_law_293 : decode cL_law 293 = .ok (.aload_n 1, 1) := by decide +kernel
theorem dL_law_294 : decode cL_law 294 = .ok (.invokevirtual 44, 3) := by decide +kernel
theorem dL_law_297 : decode cL_law 297 = .ok (.aload_n 2, 1) := by decide +kernel
theorem dL_law_298 : decode cL_law 298 = .ok (.invokevirtual 47, 3) := by decide +kernel
theorem dL_law_301 : decode cL_law 301 = .ok (.if_icmp .eq 365, 3) := by decide +kernel
theorem dL_law_304 : decode cL_law 304 = .ok (.iconst 0, 1) := by decide +kernel
theorem dL_law_305 : decode cL_law 305 = .ok (.ireturn, 1) := by decide +kernel
theorem dL_law_306 : decode cL_law 306 = .ok (.aload_n 1, 1) := by decide +kernel
theorem dL_law_307 : decode cL_law 307 = .ok (.aload_n 0, 1) := by decide +kernel
theorem dL_law_308 : decode cL_law 308 = .ok (.iload_n 3, 1) := by decide +kernel
theorem dL_law_309 : decode cL_law 309 = .ok (.iconst 1, 1) := by decide +kernel
theorem dL_law_310 : decode cL_law 310 = .ok (.iadd, 1) := by decide +kernel
theorem dL_law_311 : decode cL_law 311 = .ok (.iaload, 1) := by decide +kernel
theorem dL_law_312 : decode cL_law 312 = .ok (.invokevirtual 48, 3) := by decide +kernel
theorem dL_law_315 : decode cL_law 315 = .ok (.aload_n 2, 1) := by decide +kernel
theorem dL_law_316 : decode cL_law 316 = .ok (.aload_n 0, 1) := by decide +kernel
theorem dL_law_317 : decode cL_law 317 = .ok (.iload_n 3, 1) := by decide +kernel
theorem dL_law_318 : decode cL_law 318 = .ok (.iconst 1, 1) := by decide +kernel
theorem dL_law_319 : decode cL_law 319 = .ok (.iadd, 1) := by decide +kernel
theorem dL_law_320 : decode cL_law 320 = .ok (.iaload, 1) := by decide +kernel
theorem dL_law_321 : decode cL_law 321 = .ok (.invokevirtual 51, 3) := by decide +kernel
theorem dL_law_324 : decode cL_law 324 = .ok (.if_icmp .eq 342, 3) := by decide +kernel
theorem dL_law_327 : decode cL_law 327 = .ok (.iconst 0, 1) := by decide +kernel
theorem dL_law_328 : decode cL_law 328 = .ok (.ireturn, 1) := by decide +kernel
theorem dL_law_329 : decode cL_law 329 = .ok (.aload_n 1, 1) := by decide +kernel
theorem dL_law_330 : decode cL_law 330 = .ok (.aload_n 0, 1) := by decide +kernel
theorem dL_law_331 : decode cL_law 331 = .ok (.iload_n 3, 1) := by decide +kernel
theorem dL_law_332 : decode cL_law 332 = .ok (.iconst 1, 1) := by decide +kernel
theorem dL_law_333 : decode cL_law 333 = .ok (.iadd, 1) := by decide +kernel
theorem dL_law_334 : decode cL_law 334 = .ok (.iaload, 1) := by decide +kernel
theorem dL_law_335 : decode cL_law 335 = .ok (.aload_n 0, 1) := by decide +kernel
theorem dL_law_336 : decode cL_law 336 = .ok (.iload_n 3, 1) := by decide +kernel
theorem dL_law_337 : decode cL_law 337 = .ok (.iconst 2, 1) := by decide +kernel
theorem dL_law_338 : decode cL_law 338 = .ok (.iadd, 1) := by decide +kernel
theorem dL_law_339 : decode cL_law 339 = .ok (.iaload, 1) := by decide +kernel
theorem dL_law_340 : decode cL_law 340 = .ok (.invokevirtual 52, 3) := by decide +kernel
theorem dL_law_343 : decode cL_law 343 = .ok (.aload_n 2, 1) := by decide +kernel
theorem dL_law_344 : decode cL_law 344 = .ok (.aload_n 0, 1) := by decide +kernel
theorem dL_law_345 : decode cL_law 345 = .ok (.iload_n 3, 1) := by decide +kernel
theorem dL_law_346 : decode cL_law 346 = .ok (.iconst 1, 1) := by decide +kernel
theorem dL_law_347 : decode cL_law 347 = .ok (.iadd, 1) := by decide +kernel
theorem dL_law_348 : decode cL_law 348 = .ok (.iaload, 1) := by decide +kernel
theorem dL_law_349 : decode cL_law 349 = .ok (.aload_n 0, 1) := by decide +kernel
theorem dL_law_350 : decode cL_law 350 = .ok (.iload_n 3, 1) := by decide +kernel
theorem dL_law_351 : decode cL_law 351 = .ok (.iconst 2, 1) := by decide +kernel
theorem dL_law_352 : decode cL_law 352 = .ok (.iadd, 1) := by decide +kernel
theorem dL_law_353 : decode cL_law 353 = .ok (.iaload, 1) := by decide +kernel
theorem dL_law_354 : decode cL_law 354 = .ok (.invokevirtual 55, 3) := by decide +kernel
theorem dL_law_357 : decode cL_law 357 = .ok (.if_icmp .eq 309, 3) := by decide +kernel
theorem dL_law_360 : decode cL_law 360 = .ok (.iconst 0, 1) := by decide +kernel
theorem dL_law_361 : decode cL_law 361 = .ok (.ireturn, 1) := by decide +kernel
theorem dL_law_362 : decode cL_law 362 = .ok (.aload_n 1, 1) := by decide +kernel
theorem dL_law_363 : decode cL_law 363 = .ok (.aload_n 0, 1) := by decide +kernel
theorem dL_law_364 : decode cL_law 364 = .ok (.iload_n 3, 1) := by decide +kernel
theorem dL_law_365 : decode cL_law 365 = .ok (.iconst 1, 1) := by decide +kernel
theorem dL_law_366 : decode cL_law 366 = .ok (.iadd, 1) := by decide +kernel
theorem dL_law_367 : decode cL_law 367 = .ok (.iaload, 1) := by decide +kernel
theorem dL_law_368 : decode cL_law 368 = .ok (.aload_n 0, 1) := by decide +kernel
theorem dL_law_369 : decode cL_law 369 = .ok (.iload_n 3, 1) := by decide +kernel
theorem dL_law_370 : decode cL_law 370 = .ok (.iconst 2, 1) := by decide +kernel
theorem dL_law_371 : decode cL_law 371 = .ok (.iadd, 1) := by decide +kernel
theorem dL_law_372 : decode cL_law 372 = .ok (.iaload, 1) := by decide +kernel
theorem dL_law_373 : decode cL_law 373 = .ok (.aload_n 0, 1) := by decide +kernel
theorem dL_law_374 : decode cL_law 374 = .ok (.iload_n 3, 1) := by decide +kernel
theorem dL_law_375 : decode cL_law 375 = .ok (.iconst 3, 1) := by decide +kernel
theorem dL_law_376 : decode cL_law 376 = .ok (.iadd, 1) := by decide +kernel
theorem dL_law_377 : decode cL_law 377 = .ok (.iaload, 1) := by decide +kernel
theorem dL_law_378 : decode cL_law 378 = .ok (.invokevirtual 56, 3) := by decide +kernel
theorem dL_law_381 : decode cL_law 381 = .ok (.aload_n 2, 1) := by decide +kernel
theorem dL_law_382 : decode cL_law 382 = .ok (.aload_n 0, 1) := by decide +kernel
theorem dL_law_383 : decode cL_law 383 = .ok (.iload_n 3, 1) := by decide +kernel
theorem dL_law_384 : decode cL_law 384 = .ok (.iconst 1, 1) := by decide +kernel
theorem dL_law_385 : decode cL_law 385 = .ok (.iadd, 1) := by decide +kernel
theorem dL_law_386 : decode cL_law 386 = .ok (.iaload, 1) := by decide +kernel
theorem dL_law_387 : decode cL_law 387 = .ok (.aload_n 0, 1) := by decide +kernel
theorem dL_law_388 : decode cL_law 388 = .ok (.iload_n 3, 1) := by decide +kernel
theorem dL_law_389 : decode cL_law 389 = .ok (.iconst 2, 1) := by decide +kernel
theorem dL_law_390 : decode cL_law 390 = .ok (.iadd, 1) := by decide +kernel
theorem dL_law_391 : decode cL_law 391 = .ok (.iaload, 1) := by decide +kernel
theorem dL_law_392 : decode cL_law 392 = .ok (.aload_n 0, 1) := by decide +kernel
theorem dL_law_393 : decode cL_law 393 = .ok (.iload_n 3, 1) := by decide +kernel
theorem dL_law_394 : decode cL_law 394 = .ok (.iconst 3, 1) := by decide +kernel
theorem dL_law_395 : decode cL_law 395 = .ok (.iadd, 1) := by decide +kernel
theorem dL_law_396 : decode cL_law 396 = .ok (.iaload, 1) := by decide +kernel
theorem dL_law_397 : decode cL_law 397 = .ok (.invokevirtual 60, 3) := by decide +kernel
theorem dL_law_400 : decode cL_law 400 = .ok (.if_icmp .eq 266, 3) := by decide +kernel
theorem dL_law_403 : decode cL_law 403 = .ok (.iconst 0, 1) := by decide +kernel
theorem dL_law_404 : decode cL_law 404 = .ok (.ireturn, 1) := by decide +kernel
theorem dL_law_405 : decode cL_law 405 = .ok (.aload_n 1, 1) := by decide +kernel
theorem dL_law_406 : decode cL_law 406 = .ok (.aload_n 0, 1) := by decide +kernel
theorem dL_law_407 : decode cL_law 407 = .ok (.iload_n 3, 1) := by decide +kernel
theorem dL_law_408 : decode cL_law 408 = .ok (.iconst 1, 1) := by decide +kernel
theorem dL_law_409 : decode cL_law 409 = .ok (.iadd, 1) := by decide +kernel
theorem dL_law_410 : decode cL_law 410 = .ok (.iaload, 1) := by decide +kernel
theorem dL_law_411 : decode cL_law 411 = .ok (.aload_n 0, 1) := by decide +kernel
theorem dL_law_412 : decode cL_law 412 = .ok (.iload_n 3, 1) := by decide +kernel
theorem dL_law_413 : decode cL_law 413 = .ok (.iconst 2, 1) := by decide +kernel
theorem dL_law_414 : decode cL_law 414 = .ok (.iadd, 1) := by decide +kernel
theorem dL_law_415 : decode cL_law 415 = .ok (.iaload, 1) := by decide +kernel
theorem dL_law_416 : decode cL_law 416 = .ok (.invokevirtual 61, 3) := by decide +kernel
theorem dL_law_419 : decode cL_law 419 = .ok (.aload_n 2, 1) := by decide +kernel
theorem dL_law_420 : decode cL_law 420 = .ok (.aload_n 0, 1) := by decide +kernel
theorem dL_law_421 : decode cL_law 421 = .ok (.iload_n 3, 1) := by decide +kernel
theorem dL_law_422 : decode cL_law 422 = .ok (.iconst 1, 1) := by decide +kernel
theorem dL_law_423 : decode cL_law 423 = .ok (.iadd, 1) := by decide +kernel
theorem dL_law_424 : decode cL_law 424 = .ok (.iaload, 1) := by decide +kernel
theorem dL_law_425 : decode cL_law 425 = .ok (.aload_n 0, 1) := by decide +kernel
theorem dL_law_426 : decode cL_law 426 = .ok (.iload_n 3, 1) := by decide +kernel
theorem dL_law_427 : decode cL_law 427 = .ok (.iconst 2, 1) := by decide +kernel
theorem dL_law_428 : decode cL_law 428 = .ok (.iadd, 1) := by decide +kernel
theorem dL_law_429 : decode cL_law 429 = .ok (.iaload, 1) := by decide +kernel
theorem dL_law_430 : decode cL_law 430 = .ok (.invokevirtual 64, 3) := by decide +kernel
theorem dL_law_433 : decode cL_law 433 = .ok (.if_icmp .eq 233, 3) := by decide +kernel
theorem dL_law_436 : decode cL_law 436 = .ok (.iconst 0, 1) := by decide +kernel
theorem dL_law_437 : decode cL_law 437 = .ok (.ireturn, 1) := by decide +kernel
theorem dL_law_438 : decode cL_law 438 = .ok (.aload_n 1, 1) := by decide +kernel
theorem dL_law_439 : decode cL_law 439 = .ok (.aload_n 0, 1) := by decide +kernel
theorem dL_law_440 : decode cL_law 440 = .ok (.iload_n 3, 1) := by decide +kernel
theorem dL_law_441 : decode cL_law 441 = .ok (.iconst 1, 1) := by decide +kernel
theorem dL_law_442 : decode cL_law 442 = .ok (.iadd, 1) := by decide +kernel
theorem dL_law_443 : decode cL_law 443 = .ok (.iaload, 1) := by decide +kernel
theorem dL_law_444 : decode cL_law 444 = .ok (.aload_n 0, 1) := by decide +kernel
theorem dL_law_445 : decode cL_law 445 = .ok (.iload_n 3, 1) := by decide +kernel
theorem dL_law_446 : decode cL_law 446 = .ok (.iconst 2, 1) := by decide +kernel
theorem dL_law_447 : decode cL_law 447 = .ok (.iadd, 1) := by decide +kernel
theorem dL_law_448 : decode cL_law 448 = .ok (.iaload, 1) := by decide +kernel
theorem dL_law_449 : decode cL_law 449 = .ok (.aload_n 0, 1) := by decide +kernel
theorem dL_law_450 : decode cL_law 450 = .ok (.iload_n 3, 1) := by decide +kernel
theorem dL_law_451 : decode cL_law 451 = .ok (.iconst 3, 1) := by decide +kernel
theorem dL_law_452 : decode cL_law 452 = .ok (.iadd, 1) := by decide +kernel
theorem dL_law_453 : decode cL_law 453 = .ok (.iaload, 1) := by decide +kernel
theorem dL_law_454 : decode cL_law 454 = .ok (.invokevirtual 65, 3) := by decide +kernel
theorem dL_law_457 : decode cL_law 457 = .ok (.aload_n 2, 1) := by decide +kernel
theorem dL_law_458 : decode cL_law 458 = .ok (.aload_n 0, 1) := by decide +kernel
theorem dL_law_459 : decode cL_law 459 = .ok (.iload_n 3, 1) := by decide +kernel
theorem dL_law_460 : decode cL_law 460 = .ok (.iconst 1, 1) := by decide +kernel
theorem dL_law_461 : decode cL_law 461 = .ok (.iadd, 1) := by decide +kernel
theorem dL_law_462 : decode cL_law 462 = .ok (.iaload, 1) := by decide +kernel
theorem dL_law_463 : decode cL_law 463 = .ok (.aload_n 0, 1) := by decide +kernel
theorem dL_law_464 : decode cL_law 464 = .ok (.iload_n 3, 1) := by decide +kernel
theorem dL_law_465 : decode cL_law 465 = .ok (.iconst 2, 1) := by decide +kernel
theorem dL_law_466 : decode cL_law 466 = .ok (.iadd, 1) := by decide +kernel
theorem dL_law_467 : decode cL_law 467 = .ok (.iaload, 1) := by decide +kernel
theorem dL_law_468 : decode cL_law 468 = .ok (.aload_n 0, 1) := by decide +kernel
theorem dL_law_469 : decode cL_law 469 = .ok (.iload_n 3, 1) := by decide +kernel
theorem dL_law_470 : decode cL_law 470 = .ok (.iconst 3, 1) := by decide +kernel
theorem dL_law_471 : decode cL_law 471 = .ok (.iadd, 1) := by decide +kernel
theorem dL_law_472 : decode cL_law 472 = .ok (.iaload, 1) := by decide +kernel
theorem dL_law_473 : decode cL_law 473 = .ok (.invokevirtual 68, 3) := by decide +kernel
theorem dL_law_476 : decode cL_law 476 = .ok (.if_icmp .eq 190, 3) := by decide +kernel
theorem dL_law_479 : decode cL_law 479 = .ok (.iconst 0, 1) := by decide +kernel
theorem dL_law_480 : decode cL_law 480 = .ok (.ireturn, 1) := by decide +kernel
theorem dL_law_481 : decode cL_law 481 = .ok (.aload_n 1, 1) := by decide +kernel
theorem dL_law_482 : decode cL_law 482 = .ok (.aload_n 0, 1) := by decide +kernel
theorem dL_law_483 : decode cL_law 483 = .ok (.iload_n 3, 1) := by decide +kernel
theorem dL_law_484 : decode cL_law 484 = .ok (.iconst 1, 1) := by decide +kernel
theorem dL_law_485 : decode cL_law 485 = .ok (.iadd, 1) := by decide +kernel
theorem dL_law_486 : decode cL_law 486 = .ok (.iaload, 1) := by decide +kernel
theorem dL_law_487 : decode cL_law 487 = .ok (.aload_n 0, 1) := by decide +kernel
theorem dL_law_488 : decode cL_law 488 = .ok (.iload_n 3, 1) := by decide +kernel
theorem dL_law_489 : decode cL_law 489 = .ok (.iconst 2, 1) := by decide +kernel
theorem dL_law_490 : decode cL_law 490 = .ok (.iadd, 1) := by decide +kernel
theorem dL_law_491 : decode cL_law 491 = .ok (.iaload, 1) := by decide +kernel
theorem dL_law_492 : decode cL_law 492 = .ok (.invokevirtual 69, 3) := by decide +kernel
theorem dL_law_495 : decode cL_law 495 = .ok (.aload_n 2, 1) := by decide +kernel
theorem dL_law_496 : decode cL_law 496 = .ok (.aload_n 0, 1) := by decide +kernel
theorem dL_law_497 : decode cL_law 497 = .ok (.iload_n 3, 1) := by decide +kernel
theorem dL_law_498 : decode cL_law 498 = .ok (.iconst 1, 1) := by decide +kernel
theorem dL_law_499 : decode cL_law 499 = .ok (.iadd, 1) := by decide +kernel
theorem dL_law_500 : decode cL_law 500 = .ok (.iaload, 1) := by decide +kernel
theorem dL_law_501 : decode cL_law 501 = .ok (.aload_n 0, 1) := by decide +kernel
theorem dL_law_502 : decode cL_law 502 = .ok (.iload_n 3, 1) := by decide +kernel
theorem dL_law_503 : decode cL_law 503 = .ok (.iconst 2, 1) := by decide +kernel
theorem dL_law_504 : decode cL_law 504 = .ok (.iadd, 1) := by decide +kernel
theorem dL_law_505 : decode cL_law 505 = .ok (.iaload, 1) := by decide +kernel
theorem dL_law_506 : decode cL_law 506 = .ok (.invokevirtual 72, 3) := by decide +kernel
theorem dL_law_509 : decode cL_law 509 = .ok (.if_icmp .eq 157, 3) := by decide +kernel
theorem dL_law_512 : decode cL_law 512 = .ok (.iconst 0, 1) := by decide +kernel
theorem dL_law_513 : decode cL_law 513 = .ok (.ireturn, 1) := by decide +kernel
theorem dL_law_514 : decode cL_law 514 = .ok (.aload_n 1, 1) := by decide +kernel
theorem dL_law_515 : decode cL_law 515 = .ok (.invokevirtual 73, 3) := by decide +kernel
theorem dL_law_518 : decode cL_law 518 = .ok (.aload_n 2, 1) := by decide +kernel
theorem dL_law_519 : decode cL_law 519 = .ok (.invokevirtual 76, 3) := by decide +kernel
theorem dL_law_522 : decode cL_law 522 = .ok (.if_icmp .eq 144, 3) := by decide +kernel
theorem dL_law_525 : decode cL_law 525 = .ok (.iconst 0, 1) := by decide +kernel
theorem dL_law_526 : decode cL_law 526 = .ok (.ireturn, 1) := by decide +kernel
theorem dL_law_527 : decode cL_law 527 = .ok (.aload_n 1, 1) := by decide +kernel
theorem dL_law_528 : decode cL_law 528 = .ok (.aload_n 0, 1) := by decide +kernel
theorem dL_law_529 : decode cL_law 529 = .ok (.iload_n 3, 1) := by decide +kernel
theorem dL_law_530 : decode cL_law 530 = .ok (.iconst 1, 1) := by decide +kernel
theorem dL_law_531 : decode cL_law 531 = .ok (.iadd, 1) := by decide +kernel
theorem dL_law_532 : decode cL_law 532 = .ok (.iaload, 1) := by decide +kernel
theorem dL_law_533 : decode cL_law 533 = .ok (.invokevirtual 77, 3) := by decide +kernel
theorem dL_law_536 : decode cL_law 536 = .ok (.aload_n 2, 1) := by decide +kernel
theorem dL_law_537 : decode cL_law 537 = .ok (.aload_n 0, 1) := by decide +kernel
theorem dL_law_538 : decode cL_law 538 = .ok (.iload_n 3, 1) := by decide +kernel
theorem dL_law_539 : decode cL_law 539 = .ok (.iconst 1, 1) := by decide +kernel
theorem dL_law_540 : decode cL_law 540 = .ok (.iadd, 1) := by decide +kernel
theorem dL_law_541 : decode cL_law 541 = .ok (.iaload, 1) := by decide +kernel
theorem dL_law_542 : decode cL_law 542 = .ok (.invokevirtual 80, 3) := by decide +kernel
theorem dL_law_545 : decode cL_law 545 = .ok (.if_icmp .eq 121, 3) := by decide +kernel
theorem dL_law_548 : decode cL_law 548 = .ok (.iconst 0, 1) := by decide +kernel
theorem dL_law_549 : decode cL_law 549 = .ok (.ireturn, 1) := by decide +kernel
theorem dL_law_550 : decode cL_law 550 = .ok (.aload_n 1, 1) := by decide +kernel
theorem dL_law_551 : decode cL_law 551 = .ok (.aload_n 0, 1) := by decide +kernel
theorem dL_law_552 : decode cL_law 552 = .ok (.iload_n 3, 1) := by decide +kernel
theorem dL_law_553 : decode cL_law 553 = .ok (.iconst 1, 1) := by decide +kernel
theorem dL_law_554 : decode cL_law 554 = .ok (.iadd, 1) := by decide +kernel
theorem dL_law_555 : decode cL_law 555 = .ok (.iaload, 1) := by decide +kernel
theorem dL_law_556 : decode cL_law 556 = .ok (.aload_n 0, 1) := by decide +kernel
theorem dL_law_557 : decode cL_law 557 = .ok (.iload_n 3, 1) := by decide +kernel
theorem dL_law_558 : decode cL_law 558 = .ok (.iconst 2, 1) := by decide +kernel
theorem dL_law_559 : decode cL_law 559 = .ok (.iadd, 1) := by decide +kernel
theorem dL_law_560 : decode cL_law 560 = .ok (.iaload, 1) := by decide +kernel
theorem dL_law_561 : decode cL_law 561 = .ok (.invokevirtual 81, 3) := by decide +kernel
theorem dL_law_564 : decode cL_law 564 = .ok (.aload_n 2, 1) := by decide +kernel
theorem dL_law_565 : decode cL_law 565 = .ok (.aload_n 0, 1) := by decide +kernel
theorem dL_law_566 : decode cL_law 566 = .ok (.iload_n 3, 1) := by decide +kernel
theorem dL_law_567 : decode cL_law 567 = .ok (.iconst 1, 1) := by decide +kernel
theorem dL_law_568 : decode cL_law 568 = .ok (.iadd, 1) := by decide +kernel
theorem dL_law_569 : decode cL_law 569 = .ok (.iaload, 1) := by decide +kernel
theorem dL_law_570 : decode cL_law 570 = .ok (.aload_n 0, 1) := by decide +kernel
theorem dL_law_571 : decode cL_law 571 = .ok (.iload_n 3, 1) := by decide +kernel
theorem dL_law_572 : decode cL_law 572 = .ok (.iconst 2, 1) := by decide +kernel
theorem dL_law_573 : decode cL_law 573 = .ok (.iadd, 1) := by decide +kernel
theorem dL_law_574 : decode cL_law 574 = .ok (.iaload, 1) := by decide +kernel
theorem dL_law_575 : decode cL_law 575 = .ok (.invokevirtual 84, 3) := by decide +kernel
theorem dL_law_578 : decode cL_law 578 = .ok (.if_icmp .eq 88, 3) := by decide +kernel
theorem dL_law_581 : decode cL_law 581 = .ok (.iconst 0, 1) := by decide +kernel
theorem dL_law_582 : decode cL_law 582 = .ok (.ireturn, 1) := by decide +kernel
theorem dL_law_583 : decode cL_law 583 = .ok (.aload_n 1, 1) := by decide +kernel
theorem dL_law_584 : decode cL_law 584 = .ok (.aload_n 0, 1) := by decide +kernel
theorem dL_law_585 : decode cL_law 585 = .ok (.iload_n 3, 1) := by decide +kernel
theorem dL_law_586 : decode cL_law 586 = .ok (.iconst 1, 1) := by decide +kernel
theorem dL_law_587 : decode cL_law 587 = .ok (.iadd, 1) := by decide +kernel
theorem dL_law_588 : decode cL_law 588 = .ok (.iaload, 1) := by decide +kernel
theorem dL_law_589 : decode cL_law 589 = .ok (.invokevirtual 85, 3) := by decide +kernel
theorem dL_law_592 : decode cL_law 592 = .ok (.aload_n 2, 1) := by decide +kernel
theorem dL_law_593 : decode cL_law 593 = .ok (.aload_n 0, 1) := by decide +kernel
theorem dL_law_594 : decode cL_law 594 = .ok (.iload_n 3, 1) := by decide +kernel
theorem dL_law_595 : decode cL_law 595 = .ok (.iconst 1, 1) := by decide +kernel
theorem dL_law_596 : decode cL_law 596 = .ok (.iadd, 1) := by decide +kernel
theorem dL_law_597 : decode cL_law 597 = .ok (.iaload, 1) := by decide +kernel
theorem dL_law_598 : decode cL_law 598 = .ok (.invokevirtual 88, 3) := by decide +kernel
theorem dL_law_601 : decode cL_law 601 = .ok (.if_icmp .eq 65, 3) := by decide +kernel
theorem dL_law_604 : decode cL_law 604 = .ok (.iconst 0, 1) := by decide +kernel
theorem dL_law_605 : decode cL_law 605 = .ok (.ireturn, 1) := by decide +kernel
theorem dL_law_606 : decode cL_law 606 = .ok (.aload_n 1, 1) := by decide +kernel
theorem dL_law_607 : decode cL_law 607 = .ok (.aload_n 0, 1) := by decide +kernel
theorem dL_law_608 : decode cL_law 608 = .ok (.iload_n 3, 1) := by decide +kernel
theorem dL_law_609 : decode cL_law 609 = .ok (.iconst 1, 1) := by decide +kernel
theorem dL_law_610 : decode cL_law 610 = .ok (.iadd, 1) := by decide +kernel
theorem dL_law_611 : decode cL_law 611 = .ok (.iaload, 1) := by decide +kernel
theorem dL_law_612 : decode cL_law 612 = .ok (.invokevirtual 89, 3) := by decide +kernel
theorem dL_law_615 : decode cL_law 615 = .ok (.aload_n 2, 1) := by decide +kernel
theorem dL_law_616 : decode cL_law 616 = .ok (.aload_n 0, 1) := by decide +kernel
theorem dL_law_617 : decode cL_law 617 = .ok (.iload_n 3, 1) := by decide +kernel
theorem dL_law_618 : decode cL_law 618 = .ok (.iconst 1, 1) := by decide +kernel
theorem dL_law_619 : decode cL_law 619 = .ok (.iadd, 1) := by decide +kernel
theorem dL_law_620 : decode cL_law 620 = .ok (.iaload, 1) := by decide +kernel
theorem dL_law_621 : decode cL_law 621 = .ok (.invokevirtual 92, 3) := by decide +kernel
theorem dL_law_624 : decode cL_law 624 = .ok (.if_icmp .eq 42, 3) := by decide +kernel
theorem dL_law_627 : decode cL_law 627 = .ok (.iconst 0, 1) := by decide +kernel
theorem dL_law_628 : decode cL_law 628 = .ok (.ireturn, 1) := by decide +kernel
theorem dL_law_629 : decode cL_law 629 = .ok (.aload_n 1, 1) := by decide +kernel
theorem dL_law_630 : decode cL_law 630 = .ok (.aload_n 0, 1) := by decide +kernel
theorem dL_law_631 : decode cL_law 631 = .ok (.iload_n 3, 1) := by decide +kernel
theorem dL_law_632 : decode cL_law 632 = .ok (.iconst 1, 1) := by decide +kernel
theorem dL_law_633 : decode cL_law 633 = .ok (.iadd, 1) := by decide +kernel
theorem dL_law_634 : decode cL_law 634 = .ok (.iaload, 1) := by decide +kernel
theorem dL_law_635 : decode cL_law 635 = .ok (.invokevirtual 93, 3) := by decide +kernel
theorem dL_law_638 : decode cL_law 638 = .ok (.aload_n 2, 1) := by decide +kernel
theorem dL_law_639 : decode cL_law 639 = .ok (.aload_n 0, 1) := by decide +kernel
theorem dL_law_640 : decode cL_law 640 = .ok (.iload_n 3, 1) := by decide +kernel
theorem dL_law_641 : decode cL_law 641 = .ok (.iconst 1, 1) := by decide +kernel
theorem dL_law_642 : decode cL_law 642 = .ok (.iadd, 1) := by decide +kernel
theorem dL_law_643 : decode cL_law 643 = .ok (.iaload, 1) := by decide +kernel
theorem dL_law_644 : decode cL_law 644 = .ok (.invokevirtual 96, 3) := by decide +kernel
theorem dL_law_647 : decode cL_law 647 = .ok (.if_icmp .eq 19, 3) := by decide +kernel
theorem dL_law_650 : decode cL_law 650 = .ok (.iconst 0, 1) := by decide +kernel
theorem dL_law_651 : decode cL_law 651 = .ok (.ireturn, 1) := by decide +kernel
theorem dL_law_652 : decode cL_law 652 = .ok (.aload_n 1, 1) := by decide +kernel
theorem dL_law_653 : decode cL_law 653 = .ok (.invokevirtual 97, 3) := by decide +kernel
theorem dL_law_656 : decode cL_law 656 = .ok (.aload_n 2, 1) := by decide +kernel
theorem dL_law_657 : decode cL_law 657 = .ok (.invokevirtual 101, 3) := by decide +kernel
theorem dL_law_660 : decode cL_law 660 = .ok (.lcmp, 1) := by decide +kernel
theorem dL_law_661 : decode cL_law 661 = .ok (.ifCond .eq 5, 3) := by decide +kernel
theorem dL_law_664 : decode cL_law 664 = .ok (.iconst 0, 1) := by decide +kernel
theorem dL_law_665 : decode cL_law 665 = .ok (.ireturn, 1) := by decide +kernel
theorem dL_law_666 : decode cL_law 666 = .ok (.iinc 3 4, 3) := by decide +kernel
theorem dL_law_669 : decode cL_law 669 = .ok (.goto (-651), 3) := by decide +kernel
theorem dL_law_672 : decode cL_law 672 = .ok (.iconst 1, 1) := by decide +kernel
theorem dL_law_673 : decode cL_law 673 = .ok (.ireturn, 1) := by decide +kernel
