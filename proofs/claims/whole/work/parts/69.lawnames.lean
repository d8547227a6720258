def wsL_law_r1 : List Cond := [Cond.classLink RL 7 RX6, Cond.instantiable RX6 10, Cond.initialized RX6, Cond.classLink RL 10 RX7, Cond.instantiable RX7 23, Cond.initialized RX7, Cond.methodLink RL 9 yX6_init, Cond.instanceMethod yX6_init, Cond.code yX6_init cX6_init 2 none, Cond.methodLink RX6 1 objectInit, Cond.instanceMethod objectInit, Cond.code objectInit ⟨#[0xb1]⟩ 1 none, Cond.classLink RX6 7 RX1, Cond.instantiable RX1 5, Cond.initialized RX1, Cond.fieldLink RX6 10 "PulseTurns" "now" "LPulseTurns$Hearing;", Cond.fieldLink RX6 16 "PulseTurns" "trial" "LPulseTurns$Hearing;", Cond.classLink RX6 19 RX3, Cond.instantiable RX3 3, Cond.initialized RX3, Cond.fieldLink RX6 22 "PulseTurns" "past" "LPulseTurns$Past;", Cond.fieldLink RX6 26 "PulseTurns" "images" "[LPulseTurns$Hearing;", Cond.arrayClass .boolean, Cond.fieldLink RX6 30 "PulseTurns" "kept" "[Z"]
def wsL_law_r2 : List Cond := [Cond.classLink RX6 34 RX5, Cond.instantiable RX5 5, Cond.initialized RX5, Cond.fieldLink RX6 37 "PulseTurns" "text" "LPulseTurns$Reader;", Cond.classLink RX6 41 RX2, Cond.instantiable RX2 8, Cond.initialized RX2, Cond.fieldLink RX6 44 "PulseTurns" "numberings" "LPulseTurns$Numberings;", Cond.classLink RX6 48 RX4, Cond.instantiable RX4 4, Cond.initialized RX4, Cond.fieldLink RX6 51 "PulseTurns" "cutting" "LPulseTurns$Periods;", Cond.arrayClass .int, Cond.fieldLink RX6 55 "PulseTurns" "firstNumbers" "[I", Cond.fieldLink RX6 59 "PulseTurns" "leftBy" "[I", Cond.methodLink RX6 9 yX1_init, Cond.instanceMethod yX1_init, Cond.code yX1_init cX1_init 1 none, Cond.methodLink RX1 3 objectInit, Cond.fieldLink RX1 9 "PulseTurns$Hearing" "times" "[I", Cond.methodLink RX1 15 yX1_reset, Cond.instanceMethod yX1_reset, Cond.selects RX1 yX1_reset yX1_reset, Cond.code yX1_reset cX1_reset 1 none]
def wsL_law_r3 : List Cond := [Cond.fieldLink RX1 18 "PulseTurns$Hearing" "size" "I", Cond.fieldLink RX1 22 "PulseTurns$Hearing" "low" "I", Cond.fieldLink RX1 25 "PulseTurns$Hearing" "high" "I", Cond.fieldLink RX1 28 "PulseTurns$Hearing" "slack" "I", Cond.methodLink RX6 21 yX3_init, Cond.instanceMethod yX3_init, Cond.code yX3_init cX3_init 2 none, Cond.methodLink RX3 3 objectInit, Cond.classLink RX3 9 RX1, Cond.fieldLink RX3 11 "PulseTurns$Past" "ring" "[LPulseTurns$Hearing;", Cond.methodLink RX3 17 yX1_init, Cond.instanceMethod yX5_init, Cond.code yX5_init cX5_init 1 none, Cond.methodLink RX5 3 objectInit, Cond.arrayClass .char, Cond.fieldLink RX5 9 "PulseTurns$Reader" "letters" "[C", Cond.methodLink RX6 43 yX2_init, Cond.instanceMethod yX2_init, Cond.code yX2_init cX2_init 2 none, Cond.methodLink RX2 3 objectInit, Cond.fieldLink RX2 9 "PulseTurns$Numberings" "times" "[I", Cond.fieldLink RX2 15 "PulseTurns$Numberings" "numbers" "[I", Cond.fieldLink RX2 18 "PulseTurns$Numberings" "greatest" "[I", Cond.classLink RX2 21 RX4]
def wsL_law_r4 : List Cond := [Cond.fieldLink RX2 23 "PulseTurns$Numberings" "leaves" "[LPulseTurns$Periods;", Cond.instanceMethod yX4_init, Cond.code yX4_init cX4_init 1 none, Cond.methodLink RX4 3 objectInit, Cond.fieldLink RX4 9 "PulseTurns$Periods" "lowUpper" "I", Cond.fieldLink RX4 15 "PulseTurns$Periods" "lowLower" "I", Cond.fieldLink RX4 18 "PulseTurns$Periods" "highUpper" "I", Cond.fieldLink RX4 21 "PulseTurns$Periods" "highLower" "I", Cond.methodLink RL 12 yX7_init, Cond.instanceMethod yX7_init, Cond.code yX7_init cX7_init 1 none, Cond.methodLink RX7 40 objectInit, Cond.fieldLink RX7 16 "PulseTurnsModel" "text" "[I", Cond.fieldLink RX7 46 "PulseTurnsModel" "now" "[I", Cond.fieldLink RX7 49 "PulseTurnsModel" "fresh" "[I", Cond.fieldLink RX7 52 "PulseTurnsModel" "was" "[I", Cond.fieldLink RX7 55 "PulseTurnsModel" "isKept" "[Z", Cond.fieldLink RX7 59 "PulseTurnsModel" "kept" "[I", Cond.fieldLink RX7 62 "PulseTurnsModel" "heard" "[I", Cond.fieldLink RX7 65 "PulseTurnsModel" "number" "[I", Cond.fieldLink RX7 68 "PulseTurnsModel" "lowUp" "[I", Cond.fieldLink RX7 71 "PulseTurnsModel" "lowDown" "[I", Cond.fieldLink RX7 74 "PulseTurnsModel" "highUp" "[I", Cond.fieldLink RX7 77 "PulseTurnsModel" "highDown" "[I"]
def wsL_law_r5 : List Cond := [Cond.fieldLink RX7 80 "PulseTurnsModel" "seen" "[Z", Cond.fieldLink RX7 83 "PulseTurnsModel" "first" "[I", Cond.methodLink RL 13 yX6_type, Cond.instanceMethod yX6_type, Cond.selects RX6 yX6_type yX6_type, Cond.code yX6_type cX6_type 2 (some .int), Cond.methodLink RX6 62 yX5_put, Cond.instanceMethod yX5_put, Cond.selects RX5 yX5_put yX5_put, Cond.code yX5_put cX5_put 2 (some .int), Cond.fieldLink RX5 15 "PulseTurns$Reader" "length" "I", Cond.methodLink RL 17 yX7_type, Cond.instanceMethod yX7_type, Cond.selects RX7 yX7_type yX7_type, Cond.code yX7_type cX7_type 2 (some .int), Cond.fieldLink RX7 1 "PulseTurnsModel" "thrown" "I", Cond.constantLong RX7 7 (255), Cond.fieldLink RX7 13 "PulseTurnsModel" "many" "I", Cond.methodLink RX7 9 yX7_in, Cond.static yX7_in, Cond.code yX7_in cX7_in 6 (some .boolean), Cond.methodLink RL 18 yX6_clear, Cond.instanceMethod yX6_clear, Cond.selects RX6 yX6_clear yX6_clear]
def wsL_law_r6 : List Cond := [Cond.code yX6_clear cX6_clear 1 (some .int), Cond.methodLink RX6 66 yX5_wipe, Cond.instanceMethod yX5_wipe, Cond.selects RX5 yX5_wipe yX5_wipe, Cond.code yX5_wipe cX5_wipe 2 (some .int), Cond.methodLink RL 22 yX7_clear, Cond.instanceMethod yX7_clear, Cond.selects RX7 yX7_clear yX7_clear, Cond.code yX7_clear cX7_clear 2 (some .int), Cond.methodLink RL 23 yX6_heard, Cond.instanceMethod yX6_heard, Cond.selects RX6 yX6_heard yX6_heard, Cond.code yX6_heard cX6_heard 3 (some .int), Cond.methodLink RX6 70 yX5_read, Cond.instanceMethod yX5_read, Cond.selects RX5 yX5_read yX5_read, Cond.code yX5_read cX5_read 4 (some .int), Cond.fieldLink RX5 24 "PulseTurns$Reader" "awaited" "I", Cond.fieldLink RX5 27 "PulseTurns$Reader" "boxTold" "Z", Cond.fieldLink RX5 31 "PulseTurns$Reader" "items" "I", Cond.methodLink RX5 19 yX1_reset, Cond.methodLink RX5 34 yX5_lastOfToken, Cond.instanceMethod yX5_lastOfToken, Cond.selects RX5 yX5_lastOfToken yX5_lastOfToken]
def wsL_law_r7 : List Cond := [Cond.code yX5_lastOfToken cX5_lastOfToken 4 (some .int), Cond.methodLink RX5 46 yX5_isDigit, Cond.instanceMethod yX5_isDigit, Cond.selects RX5 yX5_isDigit yX5_isDigit, Cond.code yX5_isDigit cX5_isDigit 2 (some .boolean), Cond.methodLink RX5 38 yX5_valueOfToken, Cond.instanceMethod yX5_valueOfToken, Cond.selects RX5 yX5_valueOfToken yX5_valueOfToken, Cond.code yX5_valueOfToken cX5_valueOfToken 5 (some .int), Cond.methodLink RX5 42 yX5_takes, Cond.instanceMethod yX5_takes, Cond.selects RX5 yX5_takes yX5_takes, Cond.code yX5_takes cX5_takes 4 (some .boolean), Cond.fieldLink RX5 54 "PulseTurns$Hearing" "low" "I", Cond.fieldLink RX5 60 "PulseTurns$Hearing" "high" "I", Cond.fieldLink RX5 67 "PulseTurns$Hearing" "slack" "I", Cond.methodLink RX5 50 yX5_takesItem, Cond.instanceMethod yX5_takesItem, Cond.selects RX5 yX5_takesItem yX5_takesItem, Cond.code yX5_takesItem cX5_takesItem 3 (some .boolean), Cond.fieldLink RX5 77 "PulseTurns$Hearing" "size" "I", Cond.static yX6_isLow, Cond.code yX6_isLow cX6_isLow 1 (some .boolean), Cond.static yX6_isHigh]
def wsL_law_r8 : List Cond := [Cond.code yX6_isHigh cX6_isHigh 2 (some .boolean), Cond.static yX6_isSlack, Cond.code yX6_isSlack cX6_isSlack 2 (some .boolean), Cond.methodLink RX5 73 yX5_takesTime, Cond.instanceMethod yX5_takesTime, Cond.selects RX5 yX5_takesTime yX5_takesTime, Cond.code yX5_takesTime cX5_takesTime 3 (some .boolean), Cond.static yX6_isTime, Cond.code yX6_isTime cX6_isTime 1 (some .boolean), Cond.methodLink RX5 83 yX1_hears, Cond.instanceMethod yX1_hears, Cond.selects RX1 yX1_hears yX1_hears, Cond.code yX1_hears cX1_hears 3 (some .boolean), Cond.methodLink RX5 86 yX1_place, Cond.instanceMethod yX1_place, Cond.selects RX1 yX1_place yX1_place, Cond.code yX1_place cX1_place 4 (some .int), Cond.methodLink RX6 74 yX1_take, Cond.instanceMethod yX1_take, Cond.selects RX1 yX1_take yX1_take, Cond.code yX1_take cX1_take 3 none, Cond.methodLink RX6 78 yX3_forget, Cond.instanceMethod yX3_forget, Cond.selects RX3 yX3_forget yX3_forget]
def wsL_law_r9 : List Cond := [Cond.code yX3_forget cX3_forget 1 none, Cond.fieldLink RX3 26 "PulseTurns$Past" "size" "I", Cond.methodLink RL 26 yX7_heard, Cond.instanceMethod yX7_heard, Cond.selects RX7 yX7_heard yX7_heard, Cond.code yX7_heard cX7_heard 4 (some .int), Cond.fieldLink RX7 20 "PulseTurnsModel" "cursor" "I", Cond.fieldLink RX7 34 "PulseTurnsModel" "token" "I", Cond.fieldLink RX7 27 "PulseTurnsModel" "start" "I", Cond.fieldLink RX7 116 "PulseTurnsModel" "acts" "I", Cond.methodLink RX7 90 yX7_next, Cond.instanceMethod yX7_next, Cond.selects RX7 yX7_next yX7_next, Cond.code yX7_next cX7_next 2 none, Cond.constantLong RX7 30 (48), Cond.constantLong RX7 32 (57), Cond.fieldLink RX7 37 "PulseTurnsModel" "value" "I", Cond.methodLink RX7 23 yX7_letterAt, Cond.instanceMethod yX7_letterAt, Cond.selects RX7 yX7_letterAt yX7_letterAt, Cond.code yX7_letterAt cX7_letterAt 2 (some .int), Cond.methodLink RX7 108 yX7_readOne, Cond.instanceMethod yX7_readOne, Cond.selects RX7 yX7_readOne yX7_readOne]
def wsL_law_r10 : List Cond := [Cond.code yX7_readOne cX7_readOne 3 (some .boolean), Cond.methodLink RX7 101 yX7_readBox, Cond.instanceMethod yX7_readBox, Cond.selects RX7 yX7_readBox yX7_readBox, Cond.code yX7_readBox cX7_readBox 1 (some .boolean), Cond.methodLink RX7 93 yX7_isNumber, Cond.instanceMethod yX7_isNumber, Cond.selects RX7 yX7_isNumber yX7_isNumber, Cond.code yX7_isNumber cX7_isNumber 3 (some .boolean), Cond.methodLink RX7 105 yX7_readTime, Cond.instanceMethod yX7_readTime, Cond.selects RX7 yX7_readTime yX7_readTime, Cond.code yX7_readTime cX7_readTime 1 (some .boolean), Cond.methodLink RX7 86 yX7_placeOf, Cond.static yX7_placeOf, Cond.code yX7_placeOf cX7_placeOf 3 (some .int), Cond.methodLink RX7 97 yX7_put, Cond.static yX7_put, Cond.code yX7_put cX7_put 4 none, Cond.methodLink RX7 112 yX7_copyAll, Cond.static yX7_copyAll, Cond.code yX7_copyAll cX7_copyAll 3 none, Cond.methodLink RL 27 yX6_time, Cond.instanceMethod yX6_time]
def wsL_law_r11 : List Cond := [Cond.selects RX6 yX6_time yX6_time, Cond.code yX6_time cX6_time 2 (some .int), Cond.fieldLink RX6 85 "PulseTurns$Hearing" "times" "[I", Cond.methodLink RX6 81 yX1_hasArrival, Cond.instanceMethod yX1_hasArrival, Cond.selects RX1 yX1_hasArrival yX1_hasArrival, Cond.code yX1_hasArrival cX1_hasArrival 2 (some .boolean), Cond.methodLink RL 30 yX7_time, Cond.instanceMethod yX7_time, Cond.selects RX7 yX7_time yX7_time, Cond.code yX7_time cX7_time 2 (some .int), Cond.methodLink RX7 119 yX7_isArrival, Cond.instanceMethod yX7_isArrival, Cond.selects RX7 yX7_isArrival yX7_isArrival, Cond.code yX7_isArrival cX7_isArrival 2 (some .boolean), Cond.methodLink RL 31 yX6_adds, Cond.instanceMethod yX6_adds, Cond.selects RX6 yX6_adds yX6_adds, Cond.code yX6_adds cX6_adds 3 (some .int), Cond.methodLink RX6 88 yX6_refusesNew, Cond.instanceMethod yX6_refusesNew, Cond.selects RX6 yX6_refusesNew yX6_refusesNew, Cond.code yX6_refusesNew cX6_refusesNew 2 (some .int), Cond.fieldLink RX6 166 "PulseTurns$Hearing" "size" "I"]
def wsL_law_r12 : List Cond := [Cond.methodLink RX6 207 yX6_isTime, Cond.methodLink RX6 210 yX1_hears, Cond.methodLink RX6 91 yX3_push, Cond.instanceMethod yX3_push, Cond.selects RX3 yX3_push yX3_push, Cond.code yX3_push cX3_push 2 none, Cond.fieldLink RX3 18 "PulseTurns$Past" "next" "I", Cond.methodLink RX3 29 Lib.Math.min.name, Cond.static Lib.Math.min.name, Cond.initialized "java/lang/Math", Cond.code Lib.Math.min.name Lib.Math.min.code 2 (some .int), Cond.methodLink RX3 22 yX1_take, Cond.methodLink RX6 94 yX1_place, Cond.methodLink RL 34 yX7_adds, Cond.instanceMethod yX7_adds, Cond.selects RX7 yX7_adds yX7_adds, Cond.code yX7_adds cX7_adds 2 (some .int), Cond.constantLong RX7 123 (2999), Cond.methodLink RX7 125 yX7_keepAct, Cond.instanceMethod yX7_keepAct, Cond.selects RX7 yX7_keepAct yX7_keepAct, Cond.code yX7_keepAct cX7_keepAct 2 none, Cond.methodLink RL 35 yX6_strikes, Cond.instanceMethod yX6_strikes]
def wsL_law_r13 : List Cond := [Cond.selects RX6 yX6_strikes yX6_strikes, Cond.code yX6_strikes cX6_strikes 2 (some .int), Cond.methodLink RX6 97 yX1_drop, Cond.instanceMethod yX1_drop, Cond.selects RX1 yX1_drop yX1_drop, Cond.code yX1_drop cX1_drop 4 (some .int), Cond.methodLink RX1 31 yX1_hasArrival, Cond.methodLink RL 38 yX7_strikes, Cond.instanceMethod yX7_strikes, Cond.selects RX7 yX7_strikes yX7_strikes, Cond.code yX7_strikes cX7_strikes 3 (some .int), Cond.methodLink RX7 128 yX7_drop, Cond.static yX7_drop, Cond.code yX7_drop cX7_drop 3 none, Cond.methodLink RL 39 yX6_boxes, Cond.instanceMethod yX6_boxes, Cond.selects RX6 yX6_boxes yX6_boxes, Cond.code yX6_boxes cX6_boxes 4 (some .int), Cond.fieldLink RX6 110 "PulseTurns$Hearing" "low" "I", Cond.fieldLink RX6 114 "PulseTurns$Hearing" "high" "I", Cond.fieldLink RX6 117 "PulseTurns$Hearing" "slack" "I", Cond.methodLink RX6 100 yX6_isLow, Cond.methodLink RX6 103 yX6_isHigh, Cond.methodLink RX6 107 yX6_isSlack]
def wsL_law_r14 : List Cond := [Cond.methodLink RX6 120 yX6_standing, Cond.instanceMethod yX6_standing, Cond.selects RX6 yX6_standing yX6_standing, Cond.code yX6_standing cX6_standing 2 (some .int), Cond.constant RX6 170 (1000000), Cond.methodLink RX6 167 yX2_begin, Cond.instanceMethod yX2_begin, Cond.selects RX2 yX2_begin yX2_begin, Cond.code yX2_begin cX2_begin 3 none, Cond.fieldLink RX2 28 "PulseTurns$Hearing" "times" "[I", Cond.fieldLink RX2 31 "PulseTurns$Hearing" "size" "I", Cond.fieldLink RX2 35 "PulseTurns$Numberings" "size" "I", Cond.fieldLink RX2 36 "PulseTurns$Hearing" "slack" "I", Cond.fieldLink RX2 39 "PulseTurns$Numberings" "room" "I", Cond.fieldLink RX2 42 "PulseTurns$Numberings" "begun" "Z", Cond.fieldLink RX2 46 "PulseTurns$Numberings" "ended" "Z", Cond.fieldLink RX2 49 "PulseTurns$Hearing" "low" "I", Cond.fieldLink RX2 52 "PulseTurns$Hearing" "high" "I", Cond.methodLink RX2 55 yX4_spread, Cond.instanceMethod yX4_spread, Cond.selects RX4 yX4_spread yX4_spread, Cond.code yX4_spread cX4_spread 3 none, Cond.methodLink RX6 213 yX2_tally, Cond.instanceMethod yX2_tally]
def wsL_law_r15 : List Cond := [Cond.selects RX2 yX2_tally yX2_tally, Cond.code yX2_tally cX2_tally 3 (some .int), Cond.methodLink RX2 71 yX2_next, Cond.instanceMethod yX2_next, Cond.selects RX2 yX2_next yX2_next, Cond.code yX2_next cX2_next 2 (some .boolean), Cond.methodLink RX2 59 yX2_open, Cond.instanceMethod yX2_open, Cond.selects RX2 yX2_open yX2_open, Cond.code yX2_open cX2_open 4 none, Cond.methodLink RX2 83 Lib.Math.max.name, Cond.static Lib.Math.max.name, Cond.code Lib.Math.max.name Lib.Math.max.code 2 (some .int), Cond.methodLink RX2 79 yX4_leastTurns, Cond.instanceMethod yX4_leastTurns, Cond.selects RX4 yX4_leastTurns yX4_leastTurns, Cond.code yX4_leastTurns cX4_leastTurns 3 (some .int), Cond.methodLink RX2 88 yX4_greatestTurns, Cond.instanceMethod yX4_greatestTurns, Cond.selects RX4 yX4_greatestTurns yX4_greatestTurns, Cond.code yX4_greatestTurns cX4_greatestTurns 3 (some .int), Cond.methodLink RX2 63 yX2_search, Cond.instanceMethod yX2_search, Cond.selects RX2 yX2_search yX2_search]
def wsL_law_r16 : List Cond := [Cond.code yX2_search cX2_search 4 (some .boolean), Cond.constant RX2 67 (1000000), Cond.methodLink RX2 68 yX2_fits, Cond.instanceMethod yX2_fits, Cond.selects RX2 yX2_fits yX2_fits, Cond.code yX2_fits cX2_fits 4 (some .boolean), Cond.methodLink RX2 91 yX4_take, Cond.instanceMethod yX4_take, Cond.selects RX4 yX4_take yX4_take, Cond.code yX4_take cX4_take 2 none, Cond.methodLink RX2 95 yX4_cut, Cond.instanceMethod yX4_cut, Cond.selects RX4 yX4_cut yX4_cut, Cond.code yX4_cut cX4_cut 5 (some .boolean), Cond.methodLink RX2 99 yX4_isEmpty, Cond.instanceMethod yX4_isEmpty, Cond.selects RX4 yX4_isEmpty yX4_isEmpty, Cond.code yX4_isEmpty cX4_isEmpty 1 (some .boolean), Cond.methodLink RL 43 yX7_boxes, Cond.instanceMethod yX7_boxes, Cond.selects RX7 yX7_boxes yX7_boxes, Cond.code yX7_boxes cX7_boxes 4 (some .int), Cond.constantLong RX7 131 (10), Cond.constantLong RX7 133 (999)]
def wsL_law_r17 : List Cond := [Cond.constantLong RX7 135 (99), Cond.methodLink RX7 137 yX7_standing, Cond.instanceMethod yX7_standing, Cond.selects RX7 yX7_standing yX7_standing, Cond.code yX7_standing cX7_standing 3 (some .int), Cond.methodLink RX7 154 yX7_begin, Cond.instanceMethod yX7_begin, Cond.selects RX7 yX7_begin yX7_begin, Cond.code yX7_begin cX7_begin 2 none, Cond.fieldLink RX7 141 "PulseTurnsModel" "level" "I", Cond.methodLink RX7 158 yX7_goesOn, Cond.instanceMethod yX7_goesOn, Cond.selects RX7 yX7_goesOn yX7_goesOn, Cond.code yX7_goesOn cX7_goesOn 3 (some .boolean), Cond.methodLink RX7 148 yX7_isBeyond, Cond.instanceMethod yX7_isBeyond, Cond.selects RX7 yX7_isBeyond yX7_isBeyond, Cond.code yX7_isBeyond cX7_isBeyond 2 (some .boolean), Cond.methodLink RX7 144 yX7_apart, Cond.static yX7_apart, Cond.code yX7_apart cX7_apart 3 (some .int), Cond.methodLink RX7 151 yX7_doesCut, Cond.instanceMethod yX7_doesCut, Cond.selects RX7 yX7_doesCut yX7_doesCut]
def wsL_law_r18 : List Cond := [Cond.code yX7_doesCut cX7_doesCut 7 (some .boolean), Cond.methodLink RL 44 yX6_undo, Cond.instanceMethod yX6_undo, Cond.selects RX6 yX6_undo yX6_undo, Cond.code yX6_undo cX6_undo 1 (some .int), Cond.fieldLink RX6 127 "PulseTurns$Past" "size" "I", Cond.methodLink RX6 123 yX3_pull, Cond.instanceMethod yX3_pull, Cond.selects RX3 yX3_pull yX3_pull, Cond.code yX3_pull cX3_pull 2 (some .boolean), Cond.methodLink RL 47 yX7_undo, Cond.instanceMethod yX7_undo, Cond.selects RX7 yX7_undo yX7_undo, Cond.code yX7_undo cX7_undo 2 (some .int), Cond.methodLink RL 48 yX6_counts, Cond.instanceMethod yX6_counts, Cond.selects RX6 yX6_counts yX6_counts, Cond.code yX6_counts cX6_counts 7 (some .int), Cond.methodLink RX6 144 Lib.Math.max.name, Cond.methodLink RX6 130 yX4_spread, Cond.methodLink RX6 134 yX4_narrow, Cond.instanceMethod yX4_narrow, Cond.selects RX4 yX4_narrow yX4_narrow, Cond.code yX4_narrow cX4_narrow 6 (some .boolean)]
def wsL_law_r19 : List Cond := [Cond.fieldLink RX4 45 "PulseTurns$Hearing" "low" "I", Cond.fieldLink RX4 48 "PulseTurns$Hearing" "high" "I", Cond.fieldLink RX4 55 "PulseTurns$Hearing" "size" "I", Cond.methodLink RX4 51 yX4_spread, Cond.methodLink RX4 58 yX4_leastCount, Cond.instanceMethod yX4_leastCount, Cond.selects RX4 yX4_leastCount yX4_leastCount, Cond.code yX4_leastCount cX4_leastCount 5 (some .int), Cond.fieldLink RX4 24 "PulseTurns$Hearing" "times" "[I", Cond.fieldLink RX4 30 "PulseTurns$Hearing" "slack" "I", Cond.methodLink RX4 37 Lib.Math.max.name, Cond.methodLink RX4 33 yX4_leastTurns, Cond.methodLink RX4 62 yX4_greatestCount, Cond.instanceMethod yX4_greatestCount, Cond.selects RX4 yX4_greatestCount yX4_greatestCount, Cond.code yX4_greatestCount cX4_greatestCount 4 (some .int), Cond.methodLink RX4 42 yX4_greatestTurns, Cond.methodLink RX4 65 yX4_cutByTwo, Cond.instanceMethod yX4_cutByTwo, Cond.selects RX4 yX4_cutByTwo yX4_cutByTwo, Cond.code yX4_cutByTwo cX4_cutByTwo 5 (some .boolean), Cond.methodLink RX4 73 yX4_cut, Cond.methodLink RX4 69 yX4_isEmpty, Cond.methodLink RX6 137 yX4_leastCount]
def wsL_law_r20 : List Cond := [Cond.methodLink RX6 141 yX4_greatestCount, Cond.methodLink RX6 150 yX6_ofRange, Cond.static yX6_ofRange, Cond.code yX6_ofRange cX6_ofRange 4 (some .int), Cond.methodLink RL 52 yX7_counts, Cond.instanceMethod yX7_counts, Cond.selects RX7 yX7_counts yX7_counts, Cond.code yX7_counts cX7_counts 6 (some .int), Cond.constantLong RX7 178 (2), Cond.fieldLink RX7 190 "PulseTurnsModel" "empty" "Z", Cond.methodLink RX7 200 yX7_narrow, Cond.instanceMethod yX7_narrow, Cond.selects RX7 yX7_narrow yX7_narrow, Cond.code yX7_narrow cX7_narrow 5 none, Cond.methodLink RX7 194 yX7_countsOf, Cond.instanceMethod yX7_countsOf, Cond.selects RX7 yX7_countsOf yX7_countsOf, Cond.code yX7_countsOf cX7_countsOf 4 (some .int), Cond.methodLink RX7 184 yX7_greatestOf, Cond.instanceMethod yX7_greatestOf, Cond.selects RX7 yX7_greatestOf yX7_greatestOf, Cond.code yX7_greatestOf cX7_greatestOf 3 (some .int), Cond.methodLink RX7 187 yX7_leastOf, Cond.instanceMethod yX7_leastOf]
def wsL_law_r21 : List Cond := [Cond.selects RX7 yX7_leastOf yX7_leastOf, Cond.code yX7_leastOf cX7_leastOf 5 (some .int), Cond.methodLink RX7 197 yX7_isNarrower, Cond.instanceMethod yX7_isNarrower, Cond.selects RX7 yX7_isNarrower yX7_isNarrower, Cond.code yX7_isNarrower cX7_isNarrower 7 (some .boolean), Cond.methodLink RL 53 yX6_narrowed, Cond.instanceMethod yX6_narrowed, Cond.selects RX6 yX6_narrowed yX6_narrowed, Cond.code yX6_narrowed cX6_narrowed 2 (some .int), Cond.methodLink RX6 154 yX4_part, Cond.instanceMethod yX4_part, Cond.selects RX4 yX4_part yX4_part, Cond.code yX4_part cX4_part 2 (some .int), Cond.methodLink RX4 77 yX0_part, Cond.static yX0_part, Cond.initialized RX0, Cond.code yX0_part cX0_part 4 (some .int), Cond.methodLink RX0 9 Lib.Math.abs.name, Cond.static Lib.Math.abs.name, Cond.code Lib.Math.abs.name Lib.Math.abs.code 1 (some .int), Cond.methodLink RX0 15 yX0_commonDivisor, Cond.static yX0_commonDivisor, Cond.code yX0_commonDivisor cX0_commonDivisor 6 (some .int)]
def wsL_law_r22 : List Cond := [Cond.constant RX0 21 (1000000), Cond.methodLink RL 56 yX7_narrowed, Cond.instanceMethod yX7_narrowed, Cond.selects RX7 yX7_narrowed yX7_narrowed, Cond.code yX7_narrowed cX7_narrowed 2 (some .int), Cond.constantLong RX7 172 (3), Cond.methodLink RX7 174 yX7_ends, Cond.static yX7_ends, Cond.code yX7_ends cX7_ends 5 (some .int), Cond.methodLink RX7 168 yX7_least, Cond.static yX7_least, Cond.code yX7_least cX7_least 3 (some .int), Cond.methodLink RX7 164 yX7_common, Cond.static yX7_common, Cond.code yX7_common cX7_common 5 (some .int), Cond.methodLink RL 57 yX6_number, Cond.instanceMethod yX6_number, Cond.selects RX6 yX6_number yX6_number, Cond.code yX6_number cX6_number 3 (some .int), Cond.fieldLink RX6 160 "PulseTurns$Numberings" "numbers" "[I", Cond.methodLink RX6 157 yX6_goesTo, Cond.instanceMethod yX6_goesTo, Cond.selects RX6 yX6_goesTo yX6_goesTo, Cond.code yX6_goesTo cX6_goesTo 2 (some .boolean)]
def wsL_law_r23 : List Cond := [Cond.methodLink RL 61 yX7_number, Cond.instanceMethod yX7_number, Cond.selects RX7 yX7_number yX7_number, Cond.code yX7_number cX7_number 3 (some .int), Cond.methodLink RX7 161 yX7_isNumbered, Cond.instanceMethod yX7_isNumbered, Cond.selects RX7 yX7_isNumbered yX7_isNumbered, Cond.code yX7_isNumbered cX7_isNumbered 3 (some .boolean), Cond.methodLink RL 62 yX6_box, Cond.instanceMethod yX6_box, Cond.selects RX6 yX6_box yX6_box, Cond.code yX6_box cX6_box 3 (some .int), Cond.methodLink RX6 163 yX2_boxPart, Cond.instanceMethod yX2_boxPart, Cond.selects RX2 yX2_boxPart yX2_boxPart, Cond.code yX2_boxPart cX2_boxPart 2 (some .int), Cond.methodLink RX2 75 yX4_part, Cond.methodLink RL 65 yX7_box, Cond.instanceMethod yX7_box, Cond.selects RX7 yX7_box yX7_box, Cond.code yX7_box cX7_box 4 (some .int), Cond.methodLink RL 66 yX6_held, Cond.instanceMethod yX6_held, Cond.selects RX6 yX6_held yX6_held]
def wsL_law_r24 : List Cond := [Cond.code yX6_held cX6_held 8 (some .int), Cond.methodLink RX6 171 yX2_next, Cond.methodLink RL 69 yX7_held, Cond.instanceMethod yX7_held, Cond.selects RX7 yX7_held yX7_held, Cond.code yX7_held cX7_held 7 (some .int), Cond.methodLink RL 70 yX6_bend, Cond.instanceMethod yX6_bend, Cond.selects RX6 yX6_bend yX6_bend, Cond.code yX6_bend cX6_bend 10 (some .int), Cond.constant RX6 175 (-1000000), Cond.methodLink RX6 176 yX0_part, Cond.methodLink RL 73 yX7_bend, Cond.instanceMethod yX7_bend, Cond.selects RX7 yX7_bend yX7_bend, Cond.code yX7_bend cX7_bend 8 (some .int), Cond.constant RX7 180 (-1000000), Cond.methodLink RL 74 yX6_left, Cond.instanceMethod yX6_left, Cond.selects RX6 yX6_left yX6_left, Cond.code yX6_left cX6_left 3 (some .int), Cond.methodLink RL 77 yX7_left, Cond.instanceMethod yX7_left, Cond.selects RX7 yX7_left yX7_left]
def wsL_law_r25 : List Cond := [Cond.code yX7_left cX7_left 2 (some .int), Cond.methodLink RX7 181 yX7_leftBy, Cond.instanceMethod yX7_leftBy, Cond.selects RX7 yX7_leftBy yX7_leftBy, Cond.code yX7_leftBy cX7_leftBy 2 (some .int), Cond.methodLink RL 78 yX6_listen, Cond.instanceMethod yX6_listen, Cond.selects RX6 yX6_listen yX6_listen, Cond.code yX6_listen cX6_listen 6 (some .int), Cond.methodLink RX6 181 Lib.Math.min.name, Cond.methodLink RX6 184 yX6_tellLeftBy, Cond.instanceMethod yX6_tellLeftBy, Cond.selects RX6 yX6_tellLeftBy yX6_tellLeftBy, Cond.code yX6_tellLeftBy cX6_tellLeftBy 5 none, Cond.methodLink RX6 216 yX2_further, Cond.instanceMethod yX2_further, Cond.selects RX2 yX2_further yX2_further, Cond.code yX2_further cX2_further 4 (some .int), Cond.methodLink RL 81 yX7_listen, Cond.instanceMethod yX7_listen, Cond.selects RX7 yX7_listen yX7_listen, Cond.code yX7_listen cX7_listen 6 (some .int), Cond.methodLink RL 82 yX6_odds, Cond.instanceMethod yX6_odds]
def wsL_law_r26 : List Cond := [Cond.selects RX6 yX6_odds yX6_odds, Cond.code yX6_odds cX6_odds 7 (some .int), Cond.methodLink RX6 187 yJ6_bitCount_0f7a4, Cond.static yJ6_bitCount_0f7a4, Cond.initialized RJ6, Cond.code yJ6_bitCount_0f7a4 cJ6_bitCount_0f7a4 1 (some .int), Cond.constant RJ6 265 (1431655765), Cond.constant RJ6 266 (858993459), Cond.constant RJ6 267 (252645135), Cond.methodLink RX6 192 yX6_power, Cond.static yX6_power, Cond.code yX6_power cX6_power 4 (some .int), Cond.methodLink RX6 195 yX6_leavesOne, Cond.instanceMethod yX6_leavesOne, Cond.selects RX6 yX6_leavesOne yX6_leavesOne, Cond.code yX6_leavesOne cX6_leavesOne 3 (some .boolean), Cond.methodLink RL 85 yX7_odds, Cond.instanceMethod yX7_odds, Cond.selects RX7 yX7_odds yX7_odds, Cond.code yX7_odds cX7_odds 9 (some .int), Cond.methodLink RL 86 yX6_keep, Cond.instanceMethod yX6_keep, Cond.selects RX6 yX6_keep yX6_keep, Cond.code yX6_keep cX6_keep 2 (some .int)]
def wsL_law_r27 : List Cond := [Cond.methodLink RX6 198 yX6_isImage, Cond.static yX6_isImage, Cond.code yX6_isImage cX6_isImage 1 (some .boolean), Cond.methodLink RL 89 yX7_keep, Cond.instanceMethod yX7_keep, Cond.selects RX7 yX7_keep yX7_keep, Cond.code yX7_keep cX7_keep 3 (some .int), Cond.methodLink RL 90 yX6_back, Cond.instanceMethod yX6_back, Cond.selects RX6 yX6_back yX6_back, Cond.code yX6_back cX6_back 2 (some .int), Cond.methodLink RL 93 yX7_back, Cond.instanceMethod yX7_back, Cond.selects RX7 yX7_back yX7_back, Cond.code yX7_back cX7_back 3 (some .int), Cond.methodLink RL 94 yX6_count, Cond.instanceMethod yX6_count, Cond.selects RX6 yX6_count yX6_count, Cond.code yX6_count cX6_count 2 (some .int), Cond.fieldLink RX6 204 "PulseTurns$Reader" "length" "I", Cond.methodLink RX6 201 yX6_certain, Cond.instanceMethod yX6_certain, Cond.selects RX6 yX6_certain yX6_certain, Cond.code yX6_certain cX6_certain 4 (some .int)]
def wsL_law_r28 : List Cond := [Cond.methodLink RL 97 yX7_count, Cond.instanceMethod yX7_count, Cond.selects RX7 yX7_count yX7_count, Cond.code yX7_count cX7_count 2 (some .int), Cond.methodLink RX7 203 yX7_certain, Cond.instanceMethod yX7_certain, Cond.selects RX7 yX7_certain yX7_certain, Cond.code yX7_certain cX7_certain 4 (some .int)]
def wsL_law : List Cond := (wsL_law_r1 ++ (wsL_law_r2 ++ (wsL_law_r3 ++ (wsL_law_r4 ++ (wsL_law_r5 ++ (wsL_law_r6 ++ (wsL_law_r7 ++ (wsL_law_r8 ++ (wsL_law_r9 ++ (wsL_law_r10 ++ (wsL_law_r11 ++ (wsL_law_r12 ++ (wsL_law_r13 ++ (wsL_law_r14 ++ (wsL_law_r15 ++ (wsL_law_r16 ++ (wsL_law_r17 ++ (wsL_law_r18 ++ (wsL_law_r19 ++ (wsL_law_r20 ++ (wsL_law_r21 ++ (wsL_law_r22 ++ (wsL_law_r23 ++ (wsL_law_r24 ++ (wsL_law_r25 ++ (wsL_law_r26 ++ (wsL_law_r27 ++ wsL_law_r28))))))))))))))))))))))))))) ++ wsX60 ++ wsX70 ++ wsX10 ++ wsX30 ++ wsX50 ++ wsX20 ++ wsX40 ++ ([] : List Cond)
set_option maxRecDepth 20000 in
theorem wsLin_1 : GoodIn lw_tbl wsL_law_r1 := goodIn_r _ [48, 49, 38, 561, 562, 44, 50, 51, 52, 53, 54, 55, 56, 57, 39, 201, 202, 102, 103, 40, 203, 204, 145, 205] (by decide +kernel) (by decide +kernel)
set_option maxRecDepth 20000 in
theorem wsLin_2 : GoodIn lw_tbl wsL_law_r2 := goodIn_r _ [122, 123, 41, 206, 147, 148, 42, 207, 199, 155, 43, 208, 101, 209, 210, 58, 59, 60, 61, 66, 62, 63, 64, 65] (by decide +kernel) (by decide +kernel)
set_option maxRecDepth 20000 in
theorem wsLin_3 : GoodIn lw_tbl wsL_law_r3 := goodIn_r _ [70, 75, 80, 85, 104, 105, 106, 107, 108, 111, 110, 125, 126, 127, 146, 128, 149, 150, 151, 152, 173, 174, 176, 153] (by decide +kernel) (by decide +kernel)
set_option maxRecDepth 20000 in
theorem wsLin_4 : GoodIn lw_tbl wsL_law_r4 := goodIn_r _ [177, 157, 158, 159, 160, 161, 162, 163, 563, 564, 565, 566, 568, 574, 575, 576, 578, 579, 580, 581, 582, 583, 584, 585] (by decide +kernel) (by decide +kernel)
set_option maxRecDepth 20000 in
theorem wsLin_5 : GoodIn lw_tbl wsL_law_r5 := goodIn_r _ [587, 589, 232, 233, 234, 235, 236, 237, 238, 239, 129, 549, 550, 551, 552, 567, 553, 569, 554, 555, 556, 240, 241, 242] (by decide +kernel) (by decide +kernel)
set_option maxRecDepth 20000 in
theorem wsLin_6 : GoodIn lw_tbl wsL_law_r6 := goodIn_r _ [243, 244, 245, 246, 247, 557, 558, 559, 560, 248, 249, 250, 251, 252, 253, 254, 255, 131, 132, 133, 256, 257, 259, 0] (by decide +kernel) (by decide +kernel)
set_option maxRecDepth 20000 in
theorem wsLin_7 : GoodIn lw_tbl wsL_law_r7 := goodIn_r _ [260, 261, 263, 1, 264, 265, 267, 2, 268, 269, 271, 3, 272, 78, 83, 89, 273, 275, 4, 276, 72, 278, 279, 281] (by decide +kernel) (by decide +kernel)
set_option maxRecDepth 20000 in
theorem wsLin_8 : GoodIn lw_tbl wsL_law_r8 := goodIn_r _ [282, 284, 285, 286, 288, 5, 289, 291, 292, 293, 294, 295, 296, 297, 298, 299, 300, 301, 302, 303, 304, 305, 306, 307] (by decide +kernel) (by decide +kernel)
set_option maxRecDepth 20000 in
theorem wsLin_9 : GoodIn lw_tbl wsL_law_r9 := goodIn_r _ [308, 113, 637, 638, 639, 640, 570, 572, 571, 577, 641, 643, 16, 644, 649, 650, 573, 645, 647, 17, 648, 651, 653, 18] (by decide +kernel) (by decide +kernel)
set_option maxRecDepth 20000 in
theorem wsLin_10 : GoodIn lw_tbl wsL_law_r10 := goodIn_r _ [654, 655, 657, 19, 658, 659, 661, 20, 662, 663, 665, 21, 666, 667, 668, 669, 670, 671, 672, 673, 674, 675, 309, 310] (by decide +kernel) (by decide +kernel)
set_option maxRecDepth 20000 in
theorem wsLin_11 : GoodIn lw_tbl wsL_law_r11 := goodIn_r _ [311, 312, 68, 313, 314, 315, 316, 676, 677, 678, 679, 680, 682, 22, 683, 317, 318, 319, 320, 321, 323, 6, 324, 74] (by decide +kernel) (by decide +kernel)
set_option maxRecDepth 20000 in
theorem wsLin_12 : GoodIn lw_tbl wsL_law_r12 := goodIn_r _ [325, 326, 327, 328, 329, 330, 112, 332, 333, 45, 334, 331, 335, 684, 685, 686, 687, 688, 689, 691, 23, 692, 336, 337] (by decide +kernel) (by decide +kernel)
set_option maxRecDepth 20000 in
theorem wsLin_13 : GoodIn lw_tbl wsL_law_r13 := goodIn_r _ [338, 339, 340, 341, 342, 343, 344, 693, 694, 695, 696, 697, 698, 699, 345, 346, 347, 348, 77, 82, 88, 349, 350, 351] (by decide +kernel) (by decide +kernel)
set_option maxRecDepth 20000 in
theorem wsLin_14 : GoodIn lw_tbl wsL_law_r14 := goodIn_r _ [352, 354, 7, 355, 364, 356, 357, 358, 359, 67, 71, 178, 86, 179, 180, 181, 76, 81, 360, 361, 362, 363, 365, 366] (by decide +kernel) (by decide +kernel)
set_option maxRecDepth 20000 in
theorem wsLin_15 : GoodIn lw_tbl wsL_law_r15 := goodIn_r _ [367, 368, 369, 370, 371, 372, 373, 375, 8, 376, 381, 382, 383, 377, 378, 379, 380, 384, 385, 386, 387, 388, 390, 9] (by decide +kernel) (by decide +kernel)
set_option maxRecDepth 20000 in
theorem wsLin_16 : GoodIn lw_tbl wsL_law_r16 := goodIn_r _ [391, 392, 393, 395, 10, 396, 397, 398, 399, 400, 401, 402, 403, 404, 405, 406, 407, 408, 700, 701, 702, 703, 704, 705] (by decide +kernel) (by decide +kernel)
set_option maxRecDepth 20000 in
theorem wsLin_17 : GoodIn lw_tbl wsL_law_r17 := goodIn_r _ [706, 707, 709, 24, 710, 711, 713, 25, 714, 586, 715, 717, 26, 718, 719, 721, 27, 722, 723, 724, 725, 726, 728, 28] (by decide +kernel) (by decide +kernel)
set_option maxRecDepth 20000 in
theorem wsLin_18 : GoodIn lw_tbl wsL_law_r18 := goodIn_r _ [729, 409, 410, 411, 412, 114, 413, 414, 415, 416, 730, 731, 732, 733, 417, 418, 419, 420, 446, 421, 422, 423, 424, 425] (by decide +kernel) (by decide +kernel)
set_option maxRecDepth 20000 in
theorem wsLin_19 : GoodIn lw_tbl wsL_law_r19 := goodIn_r _ [79, 84, 73, 426, 427, 428, 429, 430, 69, 87, 432, 431, 433, 434, 435, 436, 437, 438, 440, 11, 441, 442, 443, 444] (by decide +kernel) (by decide +kernel)
set_option maxRecDepth 20000 in
theorem wsLin_20 : GoodIn lw_tbl wsL_law_r20 := goodIn_r _ [445, 447, 448, 449, 782, 783, 784, 785, 760, 588, 786, 788, 31, 789, 790, 792, 32, 793, 794, 796, 33, 797, 798, 800] (by decide +kernel) (by decide +kernel)
set_option maxRecDepth 20000 in
theorem wsLin_21 : GoodIn lw_tbl wsL_law_r21 := goodIn_r _ [34, 801, 802, 804, 35, 805, 450, 451, 452, 453, 454, 455, 456, 457, 458, 459, 46, 460, 461, 462, 463, 464, 465, 466] (by decide +kernel) (by decide +kernel)
set_option maxRecDepth 20000 in
theorem wsLin_22 : GoodIn lw_tbl wsL_law_r22 := goodIn_r _ [467, 806, 807, 808, 809, 746, 747, 748, 749, 750, 751, 752, 753, 754, 755, 468, 469, 470, 471, 175, 472, 474, 12, 475] (by decide +kernel) (by decide +kernel)
set_option maxRecDepth 20000 in
theorem wsLin_23 : GoodIn lw_tbl wsL_law_r23 := goodIn_r _ [734, 735, 736, 737, 738, 740, 29, 741, 476, 477, 478, 479, 480, 481, 482, 483, 484, 742, 743, 744, 745, 485, 486, 487] (by decide +kernel) (by decide +kernel)
set_option maxRecDepth 20000 in
theorem wsLin_24 : GoodIn lw_tbl wsL_law_r24 := goodIn_r _ [488, 489, 756, 757, 758, 759, 490, 491, 492, 493, 494, 495, 761, 762, 763, 764, 765, 496, 497, 498, 499, 766, 767, 768] (by decide +kernel) (by decide +kernel)
set_option maxRecDepth 20000 in
theorem wsLin_25 : GoodIn lw_tbl wsL_law_r25 := goodIn_r _ [769, 770, 772, 30, 773, 500, 501, 502, 503, 504, 505, 507, 13, 508, 509, 510, 511, 512, 774, 775, 776, 777, 513, 514] (by decide +kernel) (by decide +kernel)
set_option maxRecDepth 20000 in
theorem wsLin_26 : GoodIn lw_tbl wsL_law_r26 := goodIn_r _ [515, 516, 517, 518, 47, 519, 520, 521, 522, 523, 524, 525, 526, 528, 14, 529, 778, 779, 780, 781, 530, 531, 532, 533] (by decide +kernel) (by decide +kernel)
set_option maxRecDepth 20000 in
theorem wsLin_27 : GoodIn lw_tbl wsL_law_r27 := goodIn_r _ [534, 535, 536, 810, 811, 812, 813, 537, 538, 539, 540, 814, 815, 816, 817, 541, 542, 543, 544, 130, 545, 547, 15, 548] (by decide +kernel) (by decide +kernel)
set_option maxRecDepth 20000 in
theorem wsLin_28 : GoodIn lw_tbl wsL_law_r28 := goodIn_r _ [818, 819, 820, 821, 822, 824, 36, 825] (by decide +kernel) (by decide +kernel)
set_option maxRecDepth 20000 in
theorem wsLin_X6 : GoodIn lw_tbl wsX60 := goodIn_r _ [211, 213, 215, 217, 219, 221, 223, 225, 227, 229] (by decide +kernel) (by decide +kernel)
set_option maxRecDepth 20000 in
theorem wsLin_X7 : GoodIn lw_tbl wsX70 := goodIn_r _ [590, 592, 594, 596, 598, 600, 602, 604, 606, 608, 610, 612, 614, 616, 618, 620, 622, 624, 626, 628, 630, 632, 634] (by decide +kernel) (by decide +kernel)
set_option maxRecDepth 20000 in
theorem wsLin_X1 : GoodIn lw_tbl wsX10 := goodIn_r _ [90, 92, 94, 96, 98] (by decide +kernel) (by decide +kernel)
set_option maxRecDepth 20000 in
theorem wsLin_X3 : GoodIn lw_tbl wsX30 := goodIn_r _ [115, 117, 119] (by decide +kernel) (by decide +kernel)
set_option maxRecDepth 20000 in
theorem wsLin_X5 : GoodIn lw_tbl wsX50 := goodIn_r _ [134, 136, 138, 140, 142] (by decide +kernel) (by decide +kernel)
set_option maxRecDepth 20000 in
theorem wsLin_X2 : GoodIn lw_tbl wsX20 := goodIn_r _ [182, 184, 186, 188, 190, 192, 194, 196] (by decide +kernel) (by decide +kernel)
set_option maxRecDepth 20000 in
theorem wsLin_X4 : GoodIn lw_tbl wsX40 := goodIn_r _ [164, 166, 168, 170] (by decide +kernel) (by decide +kernel)
theorem wsL_law_good : GoodIn lw_tbl wsL_law := (goodIn_app (goodIn_app (goodIn_app (goodIn_app (goodIn_app (goodIn_app (goodIn_app (goodIn_app (goodIn_app wsLin_1 (goodIn_app wsLin_2 (goodIn_app wsLin_3 (goodIn_app wsLin_4 (goodIn_app wsLin_5 (goodIn_app wsLin_6 (goodIn_app wsLin_7 (goodIn_app wsLin_8 (goodIn_app wsLin_9 (goodIn_app wsLin_10 (goodIn_app wsLin_11 (goodIn_app wsLin_12 (goodIn_app wsLin_13 (goodIn_app wsLin_14 (goodIn_app wsLin_15 (goodIn_app wsLin_16 (goodIn_app wsLin_17 (goodIn_app wsLin_18 (goodIn_app wsLin_19 (goodIn_app wsLin_20 (goodIn_app wsLin_21 (goodIn_app wsLin_22 (goodIn_app wsLin_23 (goodIn_app wsLin_24 (goodIn_app wsLin_25 (goodIn_app wsLin_26 (goodIn_app wsLin_27 wsLin_28))))))))))))))))))))))))))) wsLin_X6) wsLin_X7) wsLin_X1) wsLin_X3) wsLin_X5) wsLin_X2) wsLin_X4) (fun w h => absurd h List.not_mem_nil))
theorem wsL_law_in : ∀ w ∈ wsL_law, w ∈ lw_tbl := fun w h => (wsL_law_good w h).1
theorem inX0 : ∀ w ∈ wsX00, w ∈ lw_tbl := by decide +kernel
theorem inlX1 : ∀ w ∈ wsX10, w ∈ wsL_law := fun _ h => List.mem_append_left _ (List.mem_append_left _ (List.mem_append_left _ (List.mem_append_left _ (List.mem_append_left _ (List.mem_append_right _ h)))))
theorem inX1 : ∀ w ∈ wsX10, w ∈ lw_tbl := fun w h => wsL_law_in w (inlX1 w h)
theorem inlX2 : ∀ w ∈ wsX20, w ∈ wsL_law := fun _ h => List.mem_append_left _ (List.mem_append_left _ (List.mem_append_right _ h))
theorem inX2 : ∀ w ∈ wsX20, w ∈ lw_tbl := fun w h => wsL_law_in w (inlX2 w h)
theorem inlX3 : ∀ w ∈ wsX30, w ∈ wsL_law := fun _ h => List.mem_append_left _ (List.mem_append_left _ (List.mem_append_left _ (List.mem_append_left _ (List.mem_append_right _ h))))
theorem inX3 : ∀ w ∈ wsX30, w ∈ lw_tbl := fun w h => wsL_law_in w (inlX3 w h)
theorem inlX4 : ∀ w ∈ wsX40, w ∈ wsL_law := fun _ h => List.mem_append_left _ (List.mem_append_right _ h)
theorem inX4 : ∀ w ∈ wsX40, w ∈ lw_tbl := fun w h => wsL_law_in w (inlX4 w h)
theorem inlX5 : ∀ w ∈ wsX50, w ∈ wsL_law := fun _ h => List.mem_append_left _ (List.mem_append_left _ (List.mem_append_left _ (List.mem_append_right _ h)))
theorem inX5 : ∀ w ∈ wsX50, w ∈ lw_tbl := fun w h => wsL_law_in w (inlX5 w h)
theorem inlX6 : ∀ w ∈ wsX60, w ∈ wsL_law := fun _ h => List.mem_append_left _ (List.mem_append_left _ (List.mem_append_left _ (List.mem_append_left _ (List.mem_append_left _ (List.mem_append_left _ (List.mem_append_left _ (List.mem_append_right _ h)))))))
theorem inX6 : ∀ w ∈ wsX60, w ∈ lw_tbl := fun w h => wsL_law_in w (inlX6 w h)
theorem inlX7 : ∀ w ∈ wsX70, w ∈ wsL_law := fun _ h => List.mem_append_left _ (List.mem_append_left _ (List.mem_append_left _ (List.mem_append_left _ (List.mem_append_left _ (List.mem_append_left _ (List.mem_append_right _ h))))))
theorem inX7 : ∀ w ∈ wsX70, w ∈ lw_tbl := fun w h => wsL_law_in w (inlX7 w h)
theorem inJ6 : ∀ w ∈ wsJ60, w ∈ lw_tbl := by decide +kernel
theorem inJ9 : ∀ w ∈ wsJ90, w ∈ lw_tbl := by decide +kernel
set_option maxRecDepth 20000 in
theorem ggL_law_X6_init : GoodIn wsL_law wsX6_init := goodIn_r _ [8, 9, 10, 11, 12, 13, 14, 15, 16, 17, 18, 19, 20, 21, 22, 23, 24, 25, 26, 27, 28, 29, 30, 31, 32, 33, 34, 35, 36, 37, 38, 39, 40, 41, 42, 43, 44, 45, 46, 47, 48, 49, 50, 51, 52, 53, 54, 55, 56, 57, 58, 59, 60, 61, 62, 63, 64, 65, 66, 67, 68, 69, 70, 71, 72, 73, 74, 75, 76, 77, 78, 79, 689, 690, 691, 692, 693, 656, 657, 658, 659, 660, 661, 662, 663, 664, 665, 694, 695, 696, 697, 698, 699, 700, 701, 702, 703, 704, 705, 706, 707, 708, 709, 710, 711, 712, 713] (by decide +kernel) (by decide +kernel)
set_option maxRecDepth 20000 in
theorem gL_law_X6_init : GoodIn wsL_law (wsX6_init) := ggL_law_X6_init
set_option maxRecDepth 20000 in
theorem ggL_law_X7_init : GoodIn wsL_law wsX7_init := goodIn_r _ [82, 83, 10, 11, 36, 84, 85, 86, 87, 22, 88, 89, 90, 91, 92, 93, 94, 95, 96, 97, 666, 667, 668, 669, 670, 671, 672, 673, 674, 675, 676, 677, 678, 679, 680, 681, 682, 683, 684, 685, 686, 687, 688] (by decide +kernel) (by decide +kernel)
set_option maxRecDepth 20000 in
theorem gL_law_X7_init : GoodIn wsL_law (wsX7_init) := ggL_law_X7_init
set_option maxRecDepth 20000 in
theorem ggL_law_X6_type : GoodIn wsL_law wsX6_type := goodIn_r _ [101, 27, 102, 103, 104, 26, 105, 106, 63, 656, 657, 658, 659, 660, 661, 662, 663, 664, 665, 697, 698, 699, 700, 701] (by decide +kernel) (by decide +kernel)
set_option maxRecDepth 20000 in
theorem gL_law_X6_type : GoodIn wsL_law (wsV RL 13 RX6 yX6_type wsX6_type) := goodIn_app (goodIn_of _ (by decide +kernel)) ggL_law_X6_type
set_option maxRecDepth 20000 in
theorem ggL_law_X7_type : GoodIn wsL_law wsX7_type := goodIn_r _ [110, 111, 112, 113, 84, 114, 115, 5, 116, 666, 667, 668, 669, 670, 671, 672, 673, 674, 675, 676, 677, 678, 679, 680, 681, 682, 683, 684, 685, 686, 687, 688] (by decide +kernel) (by decide +kernel)
set_option maxRecDepth 20000 in
theorem gL_law_X7_type : GoodIn wsL_law (wsV RL 17 RX7 yX7_type wsX7_type) := goodIn_app (goodIn_of _ (by decide +kernel)) ggL_law_X7_type
set_option maxRecDepth 20000 in
theorem ggL_law_X6_clear : GoodIn wsL_law wsX6_clear := goodIn_r _ [120, 27, 121, 122, 123, 26, 124, 106, 656, 657, 658, 659, 660, 661, 662, 663, 664, 665, 697, 698, 699, 700, 701] (by decide +kernel) (by decide +kernel)
set_option maxRecDepth 20000 in
theorem gL_law_X6_clear : GoodIn wsL_law (wsV RL 18 RX6 yX6_clear wsX6_clear) := goodIn_app (goodIn_of _ (by decide +kernel)) ggL_law_X6_clear
set_option maxRecDepth 20000 in
theorem ggL_law_X7_clear : GoodIn wsL_law wsX7_clear := goodIn_r _ [128, 111, 113, 666, 667, 668, 669, 670, 671, 672, 673, 674, 675, 676, 677, 678, 679, 680, 681, 682, 683, 684, 685, 686, 687, 688] (by decide +kernel) (by decide +kernel)
set_option maxRecDepth 20000 in
theorem gL_law_X7_clear : GoodIn wsL_law (wsV RL 22 RX7 yX7_clear wsX7_clear) := goodIn_app (goodIn_of _ (by decide +kernel)) ggL_law_X7_clear
set_option maxRecDepth 20000 in
theorem ggL_law_X6_heard : GoodIn wsL_law wsX6_heard := goodIn_r _ [132, 27, 16, 15, 20, 23, 133, 134, 135, 26, 136, 137, 138, 139, 106, 63, 140, 45, 46, 14, 47, 48, 49, 50, 51, 141, 142, 143, 144, 145, 146, 147, 148, 149, 150, 151, 152, 153, 154, 155, 156, 157, 158, 159, 160, 161, 162, 163, 164, 165, 2, 166, 167, 168, 169, 170, 171, 172, 173, 174, 175, 176, 177, 178, 179, 180, 43, 181, 182, 183, 184, 185, 186, 187, 188, 189, 190, 191, 19, 192, 193, 121, 122, 123, 124, 656, 657, 658, 659, 660, 661, 662, 663, 664, 665, 697, 698, 699, 700, 701, 689, 690, 691, 692, 693, 694, 695, 696] (by decide +kernel) (by decide +kernel)
set_option maxRecDepth 20000 in
theorem gL_law_X6_heard : GoodIn wsL_law (wsV RL 23 RX6 yX6_heard wsX6_heard) := goodIn_app (goodIn_of _ (by decide +kernel)) ggL_law_X6_heard
set_option maxRecDepth 20000 in
theorem ggL_law_X7_heard : GoodIn wsL_law wsX7_heard := goodIn_r _ [197, 111, 198, 86, 199, 200, 113, 85, 201, 88, 202, 203, 204, 5, 205, 206, 207, 208, 209, 210, 211, 212, 84, 114, 115, 116, 213, 214, 215, 216, 217, 218, 219, 220, 221, 222, 223, 224, 225, 226, 227, 228, 229, 230, 231, 232, 233, 234, 235, 236, 237, 666, 667, 668, 669, 670, 671, 672, 673, 674, 675, 676, 677, 678, 679, 680, 681, 682, 683, 684, 685, 686, 687, 688] (by decide +kernel) (by decide +kernel)
set_option maxRecDepth 20000 in
theorem gL_law_X7_heard : GoodIn wsL_law (wsV RL 26 RX7 yX7_heard wsX7_heard) := goodIn_app (goodIn_of _ (by decide +kernel)) ggL_law_X7_heard
set_option maxRecDepth 20000 in
theorem ggL_law_X6_time : GoodIn wsL_law wsX6_time := goodIn_r _ [241, 15, 242, 243, 244, 245, 14, 246, 48, 656, 657, 658, 659, 660, 661, 662, 663, 664, 665, 689, 690, 691, 692, 693] (by decide +kernel) (by decide +kernel)
set_option maxRecDepth 20000 in
theorem gL_law_X6_time : GoodIn wsL_law (wsV RL 27 RX6 yX6_time wsX6_time) := goodIn_app (goodIn_of _ (by decide +kernel)) ggL_law_X6_time
set_option maxRecDepth 20000 in
theorem ggL_law_X7_time : GoodIn wsL_law wsX7_time := goodIn_r _ [250, 111, 85, 251, 252, 253, 5, 254, 114, 115, 116, 666, 667, 668, 669, 670, 671, 672, 673, 674, 675, 676, 677, 678, 679, 680, 681, 682, 683, 684, 685, 686, 687, 688] (by decide +kernel) (by decide +kernel)
set_option maxRecDepth 20000 in
theorem gL_law_X7_time : GoodIn wsL_law (wsV RL 30 RX7 yX7_time wsX7_time) := goodIn_app (goodIn_of _ (by decide +kernel)) ggL_law_X7_time
set_option maxRecDepth 20000 in
theorem ggL_law_X6_adds : GoodIn wsL_law wsX6_adds := goodIn_r _ [258, 20, 15, 259, 260, 261, 2, 262, 263, 264, 175, 176, 265, 178, 179, 14, 180, 48, 43, 266, 267, 268, 19, 269, 57, 270, 193, 271, 272, 273, 274, 275, 186, 187, 188, 49, 50, 51, 276, 182, 183, 184, 656, 657, 658, 659, 660, 661, 662, 663, 664, 665, 689, 690, 691, 692, 693, 694, 695, 696] (by decide +kernel) (by decide +kernel)
set_option maxRecDepth 20000 in
theorem gL_law_X6_adds : GoodIn wsL_law (wsV RL 31 RX6 yX6_adds wsX6_adds) := goodIn_app (goodIn_of _ (by decide +kernel)) ggL_law_X6_adds
set_option maxRecDepth 20000 in
theorem ggL_law_X7_adds : GoodIn wsL_law wsX7_adds := goodIn_r _ [280, 111, 281, 85, 114, 115, 5, 116, 229, 230, 231, 282, 283, 284, 285, 201, 87, 232, 233, 234, 666, 667, 668, 669, 670, 671, 672, 673, 674, 675, 676, 677, 678, 679, 680, 681, 682, 683, 684, 685, 686, 687, 688] (by decide +kernel) (by decide +kernel)
set_option maxRecDepth 20000 in
theorem gL_law_X7_adds : GoodIn wsL_law (wsV RL 34 RX7 yX7_adds wsX7_adds) := goodIn_app (goodIn_of _ (by decide +kernel)) ggL_law_X7_adds
set_option maxRecDepth 20000 in
theorem ggL_law_X6_strikes : GoodIn wsL_law wsX6_strikes := goodIn_r _ [289, 15, 20, 243, 244, 245, 14, 246, 48, 266, 267, 268, 19, 269, 57, 270, 193, 271, 272, 273, 274, 275, 186, 187, 188, 43, 49, 50, 51, 290, 291, 292, 293, 294, 656, 657, 658, 659, 660, 661, 662, 663, 664, 665, 689, 690, 691, 692, 693, 694, 695, 696] (by decide +kernel) (by decide +kernel)
set_option maxRecDepth 20000 in
theorem gL_law_X6_strikes : GoodIn wsL_law (wsV RL 35 RX6 yX6_strikes wsX6_strikes) := goodIn_app (goodIn_of _ (by decide +kernel)) ggL_law_X6_strikes
set_option maxRecDepth 20000 in
theorem ggL_law_X7_strikes : GoodIn wsL_law wsX7_strikes := goodIn_r _ [298, 111, 85, 251, 252, 253, 5, 254, 114, 115, 116, 282, 283, 284, 285, 201, 87, 299, 300, 301, 666, 667, 668, 669, 670, 671, 672, 673, 674, 675, 676, 677, 678, 679, 680, 681, 682, 683, 684, 685, 686, 687, 688] (by decide +kernel) (by decide +kernel)
set_option maxRecDepth 20000 in
theorem gL_law_X7_strikes : GoodIn wsL_law (wsV RL 38 RX7 yX7_strikes wsX7_strikes) := goodIn_app (goodIn_of _ (by decide +kernel)) ggL_law_X7_strikes
set_option maxRecDepth 20000 in
theorem ggL_law_X6_boxes : GoodIn wsL_law wsX6_boxes := goodIn_r _ [305, 20, 15, 306, 307, 308, 309, 165, 2, 166, 310, 167, 168, 311, 169, 170, 266, 267, 268, 19, 269, 57, 270, 193, 271, 272, 273, 274, 275, 186, 187, 14, 188, 43, 48, 49, 50, 51, 312, 313, 314, 315, 31, 316, 317, 318, 319, 30, 320, 68, 321, 322, 323, 324, 325, 326, 327, 69, 72, 328, 329, 330, 331, 332, 34, 333, 76, 77, 78, 79, 334, 335, 336, 337, 338, 339, 340, 341, 342, 343, 344, 345, 346, 347, 348, 70, 349, 350, 351, 352, 353, 354, 355, 356, 357, 358, 359, 360, 361, 362, 363, 364, 365, 366, 367, 368, 369, 370, 371, 372, 373, 374, 375, 376, 377, 656, 657, 658, 659, 660, 661, 662, 663, 664, 665, 689, 690, 691, 692, 693, 694, 695, 696, 702, 703, 704, 705, 706, 707, 708, 709, 710, 711, 712, 713] (by decide +kernel) (by decide +kernel)
set_option maxRecDepth 20000 in
theorem gL_law_X6_boxes : GoodIn wsL_law (wsV RL 39 RX6 yX6_boxes wsX6_boxes) := goodIn_app (goodIn_of _ (by decide +kernel)) ggL_law_X6_boxes
set_option maxRecDepth 20000 in
theorem ggL_law_X7_boxes : GoodIn wsL_law wsX7_boxes := goodIn_r _ [381, 111, 382, 383, 384, 85, 114, 115, 5, 116, 282, 283, 284, 285, 201, 87, 385, 386, 387, 388, 389, 390, 391, 392, 90, 393, 91, 92, 93, 94, 95, 235, 236, 237, 394, 395, 396, 397, 398, 399, 400, 401, 402, 403, 404, 405, 406, 407, 408, 666, 667, 668, 669, 670, 671, 672, 673, 674, 675, 676, 677, 678, 679, 680, 681, 682, 683, 684, 685, 686, 687, 688] (by decide +kernel) (by decide +kernel)
set_option maxRecDepth 20000 in
theorem gL_law_X7_boxes : GoodIn wsL_law (wsV RL 43 RX7 yX7_boxes wsX7_boxes) := goodIn_app (goodIn_of _ (by decide +kernel)) ggL_law_X7_boxes
set_option maxRecDepth 20000 in
theorem ggL_law_X6_undo : GoodIn wsL_law wsX6_undo := goodIn_r _ [412, 20, 15, 413, 414, 415, 416, 19, 417, 193, 270, 57, 275, 186, 187, 14, 188, 43, 48, 49, 50, 51, 656, 657, 658, 659, 660, 661, 662, 663, 664, 665, 694, 695, 696, 689, 690, 691, 692, 693] (by decide +kernel) (by decide +kernel)
set_option maxRecDepth 20000 in
theorem gL_law_X6_undo : GoodIn wsL_law (wsV RL 44 RX6 yX6_undo wsX6_undo) := goodIn_app (goodIn_of _ (by decide +kernel)) ggL_law_X6_undo
set_option maxRecDepth 20000 in
theorem ggL_law_X7_undo : GoodIn wsL_law wsX7_undo := goodIn_r _ [421, 111, 201, 85, 87, 666, 667, 668, 669, 670, 671, 672, 673, 674, 675, 676, 677, 678, 679, 680, 681, 682, 683, 684, 685, 686, 687, 688] (by decide +kernel) (by decide +kernel)
set_option maxRecDepth 20000 in
theorem gL_law_X7_undo : GoodIn wsL_law (wsV RL 47 RX7 yX7_undo wsX7_undo) := goodIn_app (goodIn_of _ (by decide +kernel)) ggL_law_X7_undo
set_option maxRecDepth 20000 in
theorem ggL_law_X6_counts : GoodIn wsL_law wsX6_counts := goodIn_r _ [425, 15, 35, 306, 307, 426, 347, 273, 348, 243, 244, 245, 14, 246, 48, 427, 331, 332, 34, 333, 76, 77, 78, 79, 428, 429, 430, 431, 432, 433, 434, 435, 436, 437, 438, 439, 440, 441, 442, 443, 350, 351, 352, 444, 445, 446, 447, 448, 354, 355, 356, 449, 450, 451, 452, 453, 371, 372, 373, 454, 375, 376, 377, 455, 456, 457, 458, 2, 459, 656, 657, 658, 659, 660, 661, 662, 663, 664, 665, 689, 690, 691, 692, 693, 710, 711, 712, 713] (by decide +kernel) (by decide +kernel)
set_option maxRecDepth 20000 in
theorem gL_law_X6_counts : GoodIn wsL_law (wsV RL 48 RX6 yX6_counts wsX6_counts) := goodIn_app (goodIn_of _ (by decide +kernel)) ggL_law_X6_counts
set_option maxRecDepth 20000 in
theorem ggL_law_X7_counts : GoodIn wsL_law wsX7_counts := goodIn_r _ [463, 111, 464, 465, 85, 251, 252, 253, 5, 254, 114, 115, 116, 466, 467, 468, 469, 92, 95, 94, 93, 389, 390, 391, 392, 90, 393, 91, 235, 236, 237, 470, 471, 472, 473, 474, 475, 476, 477, 402, 403, 404, 478, 479, 480, 481, 482, 483, 484, 485, 666, 667, 668, 669, 670, 671, 672, 673, 674, 675, 676, 677, 678, 679, 680, 681, 682, 683, 684, 685, 686, 687, 688] (by decide +kernel) (by decide +kernel)
set_option maxRecDepth 20000 in
theorem gL_law_X7_counts : GoodIn wsL_law (wsV RL 52 RX7 yX7_counts wsX7_counts) := goodIn_app (goodIn_of _ (by decide +kernel)) ggL_law_X7_counts
set_option maxRecDepth 20000 in
theorem ggL_law_X6_narrowed : GoodIn wsL_law wsX6_narrowed := goodIn_r _ [489, 35, 15, 428, 429, 430, 34, 431, 432, 433, 434, 435, 331, 332, 333, 76, 77, 78, 79, 436, 437, 438, 439, 440, 441, 442, 347, 273, 348, 443, 350, 351, 352, 444, 445, 446, 447, 448, 354, 355, 356, 449, 450, 451, 452, 453, 371, 372, 373, 454, 375, 376, 377, 490, 491, 492, 493, 494, 495, 496, 497, 498, 499, 500, 501, 502, 503, 504, 656, 657, 658, 659, 660, 661, 662, 663, 664, 665, 689, 690, 691, 692, 693, 710, 711, 712, 713] (by decide +kernel) (by decide +kernel)
set_option maxRecDepth 20000 in
theorem gL_law_X6_narrowed : GoodIn wsL_law (wsV RL 53 RX6 yX6_narrowed wsX6_narrowed) := goodIn_app (goodIn_of _ (by decide +kernel)) ggL_law_X6_narrowed
set_option maxRecDepth 20000 in
theorem ggL_law_X7_narrowed : GoodIn wsL_law wsX7_narrowed := goodIn_r _ [508, 111, 509, 465, 92, 93, 94, 95, 114, 115, 5, 116, 466, 467, 468, 469, 85, 389, 390, 391, 392, 90, 393, 91, 235, 236, 237, 470, 471, 472, 473, 474, 475, 476, 477, 402, 403, 404, 478, 479, 480, 481, 482, 483, 484, 485, 510, 511, 512, 513, 514, 515, 516, 517, 518, 666, 667, 668, 669, 670, 671, 672, 673, 674, 675, 676, 677, 678, 679, 680, 681, 682, 683, 684, 685, 686, 687, 688] (by decide +kernel) (by decide +kernel)
set_option maxRecDepth 20000 in
theorem gL_law_X7_narrowed : GoodIn wsL_law (wsV RL 56 RX7 yX7_narrowed wsX7_narrowed) := goodIn_app (goodIn_of _ (by decide +kernel)) ggL_law_X7_narrowed
set_option maxRecDepth 20000 in
theorem ggL_law_X6_number : GoodIn wsL_law wsX6_number := goodIn_r _ [522, 15, 31, 523, 243, 244, 245, 14, 246, 48, 524, 525, 526, 2, 527, 316, 317, 318, 319, 30, 320, 68, 321, 322, 323, 324, 325, 326, 327, 69, 72, 328, 329, 330, 331, 332, 34, 333, 76, 77, 78, 79, 334, 335, 336, 337, 338, 339, 340, 341, 342, 343, 344, 345, 346, 347, 273, 348, 70, 349, 350, 351, 352, 353, 354, 355, 356, 357, 358, 359, 360, 361, 362, 363, 364, 365, 366, 367, 368, 369, 370, 371, 372, 373, 374, 375, 376, 377, 656, 657, 658, 659, 660, 661, 662, 663, 664, 665, 702, 703, 704, 705, 706, 707, 708, 709, 689, 690, 691, 692, 693, 710, 711, 712, 713] (by decide +kernel) (by decide +kernel)
set_option maxRecDepth 20000 in
theorem gL_law_X6_number : GoodIn wsL_law (wsV RL 57 RX6 yX6_number wsX6_number) := goodIn_app (goodIn_of _ (by decide +kernel)) ggL_law_X6_number
set_option maxRecDepth 20000 in
theorem ggL_law_X7_number : GoodIn wsL_law wsX7_number := goodIn_r _ [531, 111, 91, 251, 252, 253, 5, 254, 85, 114, 115, 116, 532, 533, 534, 535, 389, 390, 391, 392, 90, 393, 92, 93, 94, 95, 235, 236, 237, 394, 395, 396, 397, 398, 399, 400, 401, 402, 403, 404, 405, 406, 407, 408, 666, 667, 668, 669, 670, 671, 672, 673, 674, 675, 676, 677, 678, 679, 680, 681, 682, 683, 684, 685, 686, 687, 688] (by decide +kernel) (by decide +kernel)
set_option maxRecDepth 20000 in
theorem gL_law_X7_number : GoodIn wsL_law (wsV RL 61 RX7 yX7_number wsX7_number) := goodIn_app (goodIn_of _ (by decide +kernel)) ggL_law_X7_number
set_option maxRecDepth 20000 in
theorem ggL_law_X6_box : GoodIn wsL_law wsX6_box := goodIn_r _ [539, 31, 524, 525, 526, 2, 527, 316, 15, 317, 318, 319, 30, 320, 68, 321, 322, 323, 324, 325, 326, 327, 69, 72, 328, 329, 330, 331, 332, 34, 333, 76, 77, 78, 79, 334, 335, 336, 337, 338, 339, 340, 341, 342, 343, 344, 345, 346, 347, 273, 348, 70, 349, 350, 351, 352, 353, 354, 355, 356, 357, 358, 359, 360, 361, 362, 363, 364, 365, 366, 367, 368, 369, 370, 371, 372, 373, 374, 375, 376, 377, 540, 541, 542, 543, 544, 491, 492, 493, 494, 495, 496, 497, 498, 499, 500, 501, 502, 503, 504, 656, 657, 658, 659, 660, 661, 662, 663, 664, 665, 702, 703, 704, 705, 706, 707, 708, 709, 689, 690, 691, 692, 693, 710, 711, 712, 713] (by decide +kernel) (by decide +kernel)
set_option maxRecDepth 20000 in
theorem gL_law_X6_box : GoodIn wsL_law (wsV RL 62 RX6 yX6_box wsX6_box) := goodIn_app (goodIn_of _ (by decide +kernel)) ggL_law_X6_box
set_option maxRecDepth 20000 in
theorem ggL_law_X7_box : GoodIn wsL_law wsX7_box := goodIn_r _ [548, 111, 509, 85, 92, 93, 94, 95, 114, 115, 5, 116, 532, 533, 534, 535, 389, 390, 391, 392, 90, 393, 91, 235, 236, 237, 394, 395, 396, 397, 398, 399, 400, 401, 402, 403, 404, 405, 406, 407, 408, 510, 511, 512, 513, 514, 515, 516, 517, 518, 666, 667, 668, 669, 670, 671, 672, 673, 674, 675, 676, 677, 678, 679, 680, 681, 682, 683, 684, 685, 686, 687, 688] (by decide +kernel) (by decide +kernel)
set_option maxRecDepth 20000 in
theorem gL_law_X7_box : GoodIn wsL_law (wsV RL 65 RX7 yX7_box wsX7_box) := goodIn_app (goodIn_of _ (by decide +kernel)) ggL_law_X7_box
set_option maxRecDepth 20000 in
theorem ggL_law_X6_held : GoodIn wsL_law wsX6_held := goodIn_r _ [552, 15, 263, 31, 316, 523, 317, 318, 319, 30, 320, 68, 321, 322, 323, 324, 325, 326, 327, 69, 72, 328, 329, 330, 331, 332, 34, 333, 76, 77, 78, 79, 553, 339, 340, 341, 342, 343, 344, 345, 346, 347, 273, 348, 70, 349, 350, 351, 352, 353, 354, 355, 356, 357, 358, 359, 360, 361, 362, 363, 364, 365, 366, 367, 368, 369, 370, 371, 372, 373, 374, 375, 376, 377, 457, 458, 2, 459, 656, 657, 658, 659, 660, 661, 662, 663, 664, 665, 689, 690, 691, 692, 693, 702, 703, 704, 705, 706, 707, 708, 709, 710, 711, 712, 713] (by decide +kernel) (by decide +kernel)
set_option maxRecDepth 20000 in
theorem gL_law_X6_held : GoodIn wsL_law (wsV RL 66 RX6 yX6_held wsX6_held) := goodIn_app (goodIn_of _ (by decide +kernel)) ggL_law_X6_held
set_option maxRecDepth 20000 in
theorem ggL_law_X7_held : GoodIn wsL_law wsX7_held := goodIn_r _ [557, 111, 85, 464, 96, 91, 114, 115, 5, 116, 389, 390, 391, 392, 90, 393, 92, 93, 94, 95, 235, 236, 237, 394, 395, 396, 397, 398, 399, 400, 401, 402, 403, 404, 405, 406, 407, 408, 666, 667, 668, 669, 670, 671, 672, 673, 674, 675, 676, 677, 678, 679, 680, 681, 682, 683, 684, 685, 686, 687, 688] (by decide +kernel) (by decide +kernel)
set_option maxRecDepth 20000 in
theorem gL_law_X7_held : GoodIn wsL_law (wsV RL 69 RX7 yX7_held wsX7_held) := goodIn_app (goodIn_of _ (by decide +kernel)) ggL_law_X7_held
set_option maxRecDepth 20000 in
theorem ggL_law_X6_bend : GoodIn wsL_law wsX6_bend := goodIn_r _ [561, 15, 562, 242, 31, 523, 243, 244, 245, 14, 246, 48, 524, 525, 526, 2, 527, 316, 317, 318, 319, 30, 320, 68, 321, 322, 323, 324, 325, 326, 327, 69, 72, 328, 329, 330, 331, 332, 34, 333, 76, 77, 78, 79, 334, 335, 336, 337, 338, 339, 340, 341, 342, 343, 344, 345, 346, 347, 273, 348, 70, 349, 350, 351, 352, 353, 354, 355, 356, 357, 358, 359, 360, 361, 362, 363, 364, 365, 366, 367, 368, 369, 370, 371, 372, 373, 374, 375, 376, 377, 563, 495, 496, 497, 498, 499, 500, 501, 502, 503, 504, 656, 657, 658, 659, 660, 661, 662, 663, 664, 665, 689, 690, 691, 692, 693, 702, 703, 704, 705, 706, 707, 708, 709, 710, 711, 712, 713] (by decide +kernel) (by decide +kernel)
set_option maxRecDepth 20000 in
theorem gL_law_X6_bend : GoodIn wsL_law (wsV RL 70 RX6 yX6_bend wsX6_bend) := goodIn_app (goodIn_of _ (by decide +kernel)) ggL_law_X6_bend
set_option maxRecDepth 20000 in
theorem ggL_law_X7_bend : GoodIn wsL_law wsX7_bend := goodIn_r _ [567, 111, 568, 91, 85, 251, 252, 253, 5, 254, 114, 115, 116, 532, 533, 534, 535, 389, 390, 391, 392, 90, 393, 92, 93, 94, 95, 235, 236, 237, 394, 395, 396, 397, 398, 399, 400, 401, 402, 403, 404, 405, 406, 407, 408, 513, 514, 515, 516, 517, 518, 666, 667, 668, 669, 670, 671, 672, 673, 674, 675, 676, 677, 678, 679, 680, 681, 682, 683, 684, 685, 686, 687, 688] (by decide +kernel) (by decide +kernel)
set_option maxRecDepth 20000 in
theorem gL_law_X7_bend : GoodIn wsL_law (wsV RL 73 RX7 yX7_bend wsX7_bend) := goodIn_app (goodIn_of _ (by decide +kernel)) ggL_law_X7_bend
set_option maxRecDepth 20000 in
theorem ggL_law_X6_left : GoodIn wsL_law wsX6_left := goodIn_r _ [572, 16, 15, 259, 260, 261, 2, 262, 263, 264, 175, 176, 265, 178, 179, 14, 180, 48, 43, 185, 186, 187, 188, 49, 50, 51, 276, 182, 183, 184, 312, 313, 314, 315, 31, 316, 317, 318, 319, 30, 320, 68, 321, 322, 323, 324, 325, 326, 327, 69, 72, 328, 329, 330, 331, 332, 34, 333, 76, 77, 78, 79, 334, 335, 336, 337, 338, 339, 340, 341, 342, 343, 344, 345, 346, 347, 273, 348, 70, 349, 350, 351, 352, 353, 354, 355, 356, 357, 358, 359, 360, 361, 362, 363, 364, 365, 366, 367, 368, 369, 370, 371, 372, 373, 374, 375, 376, 377, 656, 657, 658, 659, 660, 661, 662, 663, 664, 665, 689, 690, 691, 692, 693, 702, 703, 704, 705, 706, 707, 708, 709, 710, 711, 712, 713] (by decide +kernel) (by decide +kernel)
set_option maxRecDepth 20000 in
theorem gL_law_X6_left : GoodIn wsL_law (wsV RL 74 RX6 yX6_left wsX6_left) := goodIn_app (goodIn_of _ (by decide +kernel)) ggL_law_X6_left
set_option maxRecDepth 20000 in
theorem ggL_law_X7_left : GoodIn wsL_law wsX7_left := goodIn_r _ [576, 111, 281, 85, 114, 115, 5, 116, 229, 230, 231, 577, 578, 579, 580, 86, 235, 236, 237, 232, 233, 234, 385, 386, 387, 388, 389, 390, 391, 392, 90, 393, 91, 92, 93, 94, 95, 394, 395, 396, 397, 398, 399, 400, 401, 402, 403, 404, 405, 406, 407, 408, 666, 667, 668, 669, 670, 671, 672, 673, 674, 675, 676, 677, 678, 679, 680, 681, 682, 683, 684, 685, 686, 687, 688] (by decide +kernel) (by decide +kernel)
set_option maxRecDepth 20000 in
theorem gL_law_X7_left : GoodIn wsL_law (wsV RL 77 RX7 yX7_left wsX7_left) := goodIn_app (goodIn_of _ (by decide +kernel)) ggL_law_X7_left
set_option maxRecDepth 20000 in
theorem ggL_law_X6_listen : GoodIn wsL_law wsX6_listen := goodIn_r _ [584, 15, 263, 242, 585, 272, 273, 274, 38, 586, 587, 588, 2, 589, 31, 316, 317, 318, 319, 30, 320, 68, 321, 322, 323, 324, 325, 326, 327, 69, 72, 328, 329, 330, 331, 332, 34, 333, 76, 77, 78, 79, 553, 339, 340, 341, 342, 343, 344, 345, 346, 347, 348, 70, 349, 350, 351, 352, 353, 354, 355, 356, 357, 358, 359, 360, 361, 362, 363, 364, 365, 366, 367, 368, 369, 370, 371, 372, 373, 374, 375, 376, 377, 590, 591, 592, 593, 656, 657, 658, 659, 660, 661, 662, 663, 664, 665, 689, 690, 691, 692, 693, 702, 703, 704, 705, 706, 707, 708, 709, 710, 711, 712, 713] (by decide +kernel) (by decide +kernel)
set_option maxRecDepth 20000 in
theorem gL_law_X6_listen : GoodIn wsL_law (wsV RL 78 RX6 yX6_listen wsX6_listen) := goodIn_app (goodIn_of _ (by decide +kernel)) ggL_law_X6_listen
set_option maxRecDepth 20000 in
theorem ggL_law_X7_listen : GoodIn wsL_law wsX7_listen := goodIn_r _ [597, 111, 85, 577, 578, 579, 5, 580, 86, 235, 236, 237, 232, 233, 234, 229, 230, 231, 385, 386, 387, 388, 389, 390, 391, 392, 90, 393, 91, 92, 93, 94, 95, 394, 395, 396, 397, 398, 399, 400, 401, 402, 403, 404, 405, 406, 407, 408, 666, 667, 668, 669, 670, 671, 672, 673, 674, 675, 676, 677, 678, 679, 680, 681, 682, 683, 684, 685, 686, 687, 688] (by decide +kernel) (by decide +kernel)
set_option maxRecDepth 20000 in
theorem gL_law_X7_listen : GoodIn wsL_law (wsV RL 81 RX7 yX7_listen wsX7_listen) := goodIn_app (goodIn_of _ (by decide +kernel)) ggL_law_X7_listen
set_option maxRecDepth 20000 in
theorem ggL_law_X6_odds : GoodIn wsL_law wsX6_odds := goodIn_r _ [601, 15, 263, 602, 603, 604, 605, 606, 607, 608, 609, 610, 2, 611, 612, 613, 614, 615, 16, 242, 31, 185, 186, 187, 14, 188, 43, 48, 49, 50, 51, 276, 182, 183, 184, 317, 318, 319, 30, 320, 68, 321, 322, 323, 324, 325, 326, 327, 69, 72, 328, 329, 330, 331, 332, 34, 333, 76, 77, 78, 79, 334, 335, 336, 337, 338, 339, 340, 341, 342, 343, 344, 345, 346, 347, 273, 348, 70, 349, 350, 351, 352, 353, 354, 355, 356, 357, 358, 359, 360, 361, 362, 363, 364, 365, 366, 367, 368, 369, 370, 371, 372, 373, 374, 375, 376, 377, 563, 495, 496, 497, 498, 499, 500, 501, 502, 503, 504, 656, 657, 658, 659, 660, 661, 662, 663, 664, 665, 689, 690, 691, 692, 693, 702, 703, 704, 705, 706, 707, 708, 709, 710, 711, 712, 713] (by decide +kernel) (by decide +kernel)
set_option maxRecDepth 20000 in
theorem gL_law_X6_odds : GoodIn wsL_law (wsV RL 82 RX6 yX6_odds wsX6_odds) := goodIn_app (goodIn_of _ (by decide +kernel)) ggL_law_X6_odds
set_option maxRecDepth 20000 in
theorem ggL_law_X7_odds : GoodIn wsL_law wsX7_odds := goodIn_r _ [619, 111, 382, 85, 86, 114, 115, 5, 116, 235, 236, 237, 299, 300, 301, 385, 386, 387, 388, 389, 390, 391, 392, 90, 393, 91, 92, 93, 94, 95, 394, 395, 396, 397, 398, 399, 400, 401, 402, 403, 404, 405, 406, 407, 408, 513, 514, 515, 516, 517, 518, 666, 667, 668, 669, 670, 671, 672, 673, 674, 675, 676, 677, 678, 679, 680, 681, 682, 683, 684, 685, 686, 687, 688] (by decide +kernel) (by decide +kernel)
set_option maxRecDepth 20000 in
theorem gL_law_X7_odds : GoodIn wsL_law (wsV RL 85 RX7 yX7_odds wsX7_odds) := goodIn_app (goodIn_of _ (by decide +kernel)) ggL_law_X7_odds
set_option maxRecDepth 20000 in
theorem ggL_law_X6_keep : GoodIn wsL_law wsX6_keep := goodIn_r _ [623, 21, 15, 23, 263, 624, 625, 2, 626, 185, 186, 187, 14, 188, 43, 48, 49, 50, 51, 656, 657, 658, 659, 660, 661, 662, 663, 664, 665, 689, 690, 691, 692, 693] (by decide +kernel) (by decide +kernel)
set_option maxRecDepth 20000 in
theorem gL_law_X6_keep : GoodIn wsL_law (wsV RL 86 RX6 yX6_keep wsX6_keep) := goodIn_app (goodIn_of _ (by decide +kernel)) ggL_law_X6_keep
set_option maxRecDepth 20000 in
theorem ggL_law_X7_keep : GoodIn wsL_law wsX7_keep := goodIn_r _ [630, 111, 89, 85, 88, 114, 115, 5, 116, 666, 667, 668, 669, 670, 671, 672, 673, 674, 675, 676, 677, 678, 679, 680, 681, 682, 683, 684, 685, 686, 687, 688] (by decide +kernel) (by decide +kernel)
set_option maxRecDepth 20000 in
theorem gL_law_X7_keep : GoodIn wsL_law (wsV RL 89 RX7 yX7_keep wsX7_keep) := goodIn_app (goodIn_of _ (by decide +kernel)) ggL_law_X7_keep
set_option maxRecDepth 20000 in
theorem ggL_law_X6_back : GoodIn wsL_law wsX6_back := goodIn_r _ [634, 23, 15, 21, 20, 263, 624, 625, 2, 626, 185, 186, 187, 14, 188, 43, 48, 49, 50, 51, 189, 190, 191, 19, 192, 193, 656, 657, 658, 659, 660, 661, 662, 663, 664, 665, 689, 690, 691, 692, 693, 694, 695, 696] (by decide +kernel) (by decide +kernel)
set_option maxRecDepth 20000 in
theorem gL_law_X6_back : GoodIn wsL_law (wsV RL 90 RX6 yX6_back wsX6_back) := goodIn_app (goodIn_of _ (by decide +kernel)) ggL_law_X6_back
set_option maxRecDepth 20000 in
theorem ggL_law_X7_back : GoodIn wsL_law wsX7_back := goodIn_r _ [638, 111, 88, 85, 89, 201, 114, 115, 5, 116, 666, 667, 668, 669, 670, 671, 672, 673, 674, 675, 676, 677, 678, 679, 680, 681, 682, 683, 684, 685, 686, 687, 688] (by decide +kernel) (by decide +kernel)
set_option maxRecDepth 20000 in
theorem gL_law_X7_back : GoodIn wsL_law (wsV RL 93 RX7 yX7_back wsX7_back) := goodIn_app (goodIn_of _ (by decide +kernel)) ggL_law_X7_back
set_option maxRecDepth 20000 in
theorem ggL_law_X6_count : GoodIn wsL_law wsX6_count := goodIn_r _ [642, 15, 263, 306, 307, 308, 27, 643, 20, 413, 312, 313, 314, 2, 315, 31, 316, 317, 318, 319, 30, 320, 68, 321, 322, 323, 324, 325, 326, 327, 69, 72, 328, 329, 330, 331, 332, 34, 333, 76, 77, 78, 79, 334, 335, 336, 337, 338, 339, 340, 341, 342, 343, 344, 345, 346, 347, 273, 348, 70, 349, 350, 351, 352, 353, 354, 355, 356, 357, 358, 359, 360, 361, 362, 363, 364, 365, 366, 367, 368, 369, 370, 371, 372, 373, 374, 375, 376, 377, 644, 645, 646, 647, 37, 523, 553, 656, 657, 658, 659, 660, 661, 662, 663, 664, 665, 689, 690, 691, 692, 693, 697, 698, 699, 700, 701, 694, 695, 696, 702, 703, 704, 705, 706, 707, 708, 709, 710, 711, 712, 713] (by decide +kernel) (by decide +kernel)
set_option maxRecDepth 20000 in
theorem gL_law_X6_count : GoodIn wsL_law (wsV RL 94 RX6 yX6_count wsX6_count) := goodIn_app (goodIn_of _ (by decide +kernel)) ggL_law_X6_count
set_option maxRecDepth 20000 in
theorem ggL_law_X7_count : GoodIn wsL_law wsX7_count := goodIn_r _ [651, 111, 85, 113, 201, 385, 386, 387, 5, 388, 389, 390, 391, 392, 90, 393, 91, 92, 93, 94, 95, 235, 236, 237, 394, 395, 396, 397, 398, 399, 400, 401, 402, 403, 404, 405, 406, 407, 408, 652, 653, 654, 655, 97, 666, 667, 668, 669, 670, 671, 672, 673, 674, 675, 676, 677, 678, 679, 680, 681, 682, 683, 684, 685, 686, 687, 688] (by decide +kernel) (by decide +kernel)
set_option maxRecDepth 20000 in
theorem gL_law_X7_count : GoodIn wsL_law (wsV RL 97 RX7 yX7_count wsX7_count) := goodIn_app (goodIn_of _ (by decide +kernel)) ggL_law_X7_count
theorem dL_law_0 : decode cL_law 0 = .ok (.new 7, 3) := by decide +kernel
theorem dL_law_3 : decode cL_law 3 = .ok (.dup, 1) := by decide +kernel
theorem dL_law_4 : decode cL_law 4 = .ok (.invokespecial 9, 3) := by decide +kernel
theorem dL_law_7 : decode cL_law 7 = .ok (.astore_n 1, 1) := by decide +kernel
theorem dL_law_8 : decode cL_law 8 = .ok (.new 10, 3) := by decide +kernel
theorem dL_law_11 : decode cL_law 11 = .ok (.dup, 1) := by decide +kernel
theorem dL_law_12 : decode cL_law 12 = .ok (.invokespecial 12, 3) := by decide +kernel
theorem dL_law_15 : decode cL_law 15 = .ok (.astore_n 2, 1) := by decide +kernel
theorem dL_law_16 : decode cL_law 16 = .ok (.iconst 0, 1) := by decide +kernel
theorem dL_law_17 : decode cL_law 17 = .ok (.istore_n 3, 1) := by decide +kernel
theorem dL_law_18 : decode cL_law 18 = .ok (.iload_n 3, 1) := by decide +kernel
theorem dL_law_19 : decode cL_law 19 = .ok (.aload_n 0, 1) := by decide +kernel
theorem dL_law_20 : decode cL_law 20 = .ok (.arraylength, 1) := by decide +kernel
theorem dL_law_21 : decode cL_law 21 = .ok (.iconst 5, 1) := by decide +kernel
theorem dL_law_22 : decode cL_law 22 = .ok (.isub, 1) := by decide +kernel
theorem dL_law_23 : decode cL_law 23 = .ok (.if_icmp .gt 651, 3) := by decide +kernel
theorem dL_law_26 : decode cL_law 26 = .ok (.aload_n 0, 1) := by decide +kernel
theorem dL_law_27 : decode cL_law 27 = .ok (.iload_n 3, 1) := by decide +kernel
theorem dL_law_28 : decode cL_law 28 = .ok (.iaload, 1) := by decide +kernel
theorem dL_law_29 : decode cL_law 29 = .ok (.bipush 31, 2) := by decide +kernel
theorem dL_law_31 : decode cL_law 31 = .ok (.iand, 1) := by decide +kernel
theorem dL_law_32 : decode cL_law 32 = .ok (.tableswitch 636 0 19 #[96, 119, 132, 145, 168, 191, 214, 257, 270, 323, 346, 379, 412, 445, 498, 521, 534, 567, 590, 613], 96) := by decide +kernel
theorem dL_law_128 : decode cL_law 128 = .ok (.aload_n 1, 1) := by decide +kernel
theorem dL_law_129 : decode cL_law 129 = .ok (.aload_n 0, 1) := by decide +kernel
theorem dL_law_130 : decode cL_law 130 = .ok (.iload_n 3, 1) := by decide +kernel
theorem dL_law_131 : decode cL_law 131 = .ok (.iconst 1, 1) := by decide +kernel
theorem dL_law_132 : decode cL_law 132 = .ok (.iadd, 1) := by decide +kernel
theorem dL_law_133 : decode cL_law 133 = .ok (.iaload, 1) := by decide +kernel
theorem dL_law_134 : decode cL_law 134 = .ok (.invokevirtual 13, 3) := by decide +kernel
theorem dL_law_137 : decode cL_law 137 = .ok (.aload_n 2, 1) := by decide +kernel
theorem dL_law_138 : decode cL_law 138 = .ok (.aload_n 0, 1) := by decide +kernel
theorem dL_law_139 : decode cL_law 139 = .ok (.iload_n 3, 1) := by decide +kernel
theorem dL_law_140 : decode cL_law 140 = .ok (.iconst 1, 1) := by decide +kernel
theorem dL_law_141 : decode cL_law 141 = .ok (.iadd, 1) := by decide +kernel
theorem dL_law_142 : decode cL_law 142 = .ok (.iaload, 1) := by decide +kernel
theorem dL_law_143 : decode cL_law 143 = .ok (.invokevirtual 17, 3) := by decide +kernel
theorem dL_law_146 : decode cL_law 146 = .ok (.if_icmp .eq 522, 3) := by decide +kernel
theorem dL_law_149 : decode cL_law 149 = .ok (.iconst 0, 1) := by decide +kernel
theorem dL_law_150 : decode cL_law 150 = .ok (.ireturn, 1) := by decide +kernel
theorem dL_law_151 : decode cL_law 151 = .ok (.aload_n 1, 1) := by decide +kernel
theorem dL_law_152 : decode cL_law 152 = .ok (.invokevirtual 18, 3) := by decide +kernel
theorem dL_law_155 : decode cL_law 155 = .ok (.aload_n 2, 1) := by decide +kernel
theorem dL_law_156 : decode cL_law 156 = .ok (.invokevirtual 22, 3) := by decide +kernel
theorem dL_law_159 : decode cL_law 159 = .ok (.if_icmp .eq 509, 3) := by decide +kernel
theorem dL_law_162 : decode cL_law 162 = .ok (.iconst 0, 1) := by decide +kernel
theorem dL_law_163 : decode cL_law 163 = .ok (.ireturn, 1) := by decide +kernel
theorem dL_law_164 : decode cL_law 164 = .ok (.aload_n 1, 1) := by decide +kernel
theorem dL_law_165 : decode cL_law 165 = .ok (.invokevirtual 23, 3) := by decide +kernel
theorem dL_law_168 : decode cL_law 168 = .ok (.aload_n 2, 1) := by decide +kernel
theorem dL_law_169 : decode cL_law 169 = .ok (.invokevirtual 26, 3) := by decide +kernel
theorem dL_law_172 : decode cL_law 172 = .ok (.if_icmp .eq 496, 3) := by decide +kernel
theorem dL_law_175 : decode cL_law 175 = .ok (.iconst 0, 1) := by decide +kernel
theorem dL_law_176 : decode cL_law 176 = .ok (.ireturn, 1) := by decide +kernel
theorem dL_law_177 : decode cL_law 177 = .ok (.aload_n 1, 1) := by decide +kernel
theorem dL_law_178 : decode cL_law 178 = .ok (.aload_n 0, 1) := by decide +kernel
theorem dL_law_179 : decode cL_law 179 = .ok (.iload_n 3, 1) := by decide +kernel
theorem dL_law_180 : decode cL_law 180 = .ok (.iconst 1, 1) := by decide +kernel
theorem dL_law_181 : decode cL_law 181 = .ok (.iadd, 1) := by decide +kernel
theorem dL_law_182 : decode cL_law 182 = .ok (.iaload, 1) := by decide +kernel
theorem dL_law_183 : decode cL_law 183 = .ok (.invokevirtual 27, 3) := by decide +kernel
theorem dL_law_186 : decode cL_law 186 = .ok (.aload_n 2, 1) := by decide +kernel
theorem dL_law_187 : decode cL_law 187 = .ok (.aload_n 0, 1) := by decide +kernel
theorem dL_law_188 : decode cL_law 188 = .ok (.iload_n 3, 1) := by decide +kernel
theorem dL_law_189 : decode cL_law 189 = .ok (.iconst 1, 1) := by decide +kernel
theorem dL_law_190 : decode cL_law 190 = .ok (.iadd, 1) := by decide +kernel
theorem dL_law_191 : decode cL_law 191 = .ok (.iaload, 1) := by decide +kernel
theorem dL_law_192 : decode cL_law 192 = .ok (.invokevirtual 30, 3) := by decide +kernel
theorem dL_law_195 : decode cL_law 195 = .ok (.if_icmp .eq 473, 3) := by decide +kernel
theorem dL_law_198 : decode cL_law 198 = .ok (.iconst 0, 1) := by decide +kernel
theorem dL_law_199 : decode cL_law 199 = .ok (.ireturn, 1) := by decide +kernel
theorem dL_law_200 : decode cL_law 200 = .ok (.aload_n 1, 1) := by decide +kernel
theorem dL_law_201 : decode cL_law 201 = .ok (.aload_n 0, 1) := by decide +kernel
theorem dL_law_202 : decode cL_law 202 = .ok (.iload_n 3, 1) := by decide +kernel
theorem dL_law_203 : decode cL_law 203 = .ok (.iconst 1, 1) := by decide +kernel
theorem dL_law_204 : decode cL_law 204 = .ok (.iadd, 1) := by decide +kernel
theorem dL_law_205 : decode cL_law 205 = .ok (.iaload, 1) := by decide +kernel
theorem dL_law_206 : decode cL_law 206 = .ok (.invokevirtual 31, 3) := by decide +kernel
theorem dL_law_209 : decode cL_law 209 = .ok (.aload_n 2, 1) := by decide +kernel
theorem dL_law_210 : decode cL_law 210 = .ok (.aload_n 0, 1) := by decide +kernel
theorem dL_law_211 : decode cL_law 211 = .ok (.iload_n 3, 1) := by decide +kernel
theorem dL_law_212 : decode cL_law 212 = .ok (.iconst 1, 1) := by decide +kernel
theorem dL_law_213 : decode cL_law 213 = .ok (.iadd, 1) := by decide +kernel
theorem dL_law_214 : decode cL_law 214 = .ok (.iaload, 1) := by decide +kernel
theorem dL_law_215 : decode cL_law 215 = .ok (.invokevirtual 34, 3) := by decide +kernel
theorem dL_law_218 : decode cL_law 218 = .ok (.if_icmp .eq 450, 3) := by decide +kernel
theorem dL_law_221 : decode cL_law 221 = .ok (.iconst 0, 1) := by decide +kernel
theorem dL_law_222 : decode cL_law 222 = .ok (.ireturn, 1) := by decide +kernel
theorem dL_law_223 : decode cL_law 223 = .ok (.aload_n 1, 1) := by decide +kernel
theorem dL_law_224 : decode cL_law 224 = .ok (.aload_n 0, 1) := by decide +kernel
theorem dL_law_225 : decode cL_law 225 = .ok (.iload_n 3, 1) := by decide +kernel
theorem dL_law_226 : decode cL_law 226 = .ok (.iconst 1, 1) := by decide +kernel
theorem dL_law_227 : decode cL_law 227 = .ok (.iadd, 1) := by decide +kernel
theorem dL_law_228 : decode cL_law 228 = .ok (.iaload, 1) := by decide +kernel
theorem dL_law_229 : decode cL_law 229 = .ok (.invokevirtual 35, 3) := by decide +kernel
theorem dL_law_232 : decode cL_law 232 = .ok (.aload_n 2, 1) := by decide +kernel
theorem dL_law_233 : decode cL_law 233 = .ok (.aload_n 0, 1) := by decide +kernel
theorem dL_law_234 : decode cL_law 234 = .ok (.iload_n 3, 1) := by decide +kernel
theorem dL_law_235 : decode cL_law 235 = .ok (.iconst 1, 1) := by decide +kernel
theorem dL_law_236 : decode cL_law 236 = .ok (.iadd, 1) := by decide +kernel
theorem dL_law_237 : decode cL_law 237 = .ok (.iaload, 1) := by decide +kernel
theorem dL_law_238 : decode cL_law 238 = .ok (.invokevirtual 38, 3) := by decide +kernel
theorem dL_law_241 : decode cL_law 241 = .ok (.if_icmp .eq 427, 3) := by decide +kernel
theorem dL_law_244 : decode cL_law 244 = .ok (.iconst 0, 1) := by decide +kernel
theorem dL_law_245 : decode cL_law 245 = .ok (.ireturn, 1) := by decide +kernel
theorem dL_law_246 : decode cL_law 246 = .ok (.aload_n 1, 1) := by decide +kernel
theorem dL_law_247 : decode cL_law 247 = .ok (.aload_n 0, 1) := by decide +kernel
theorem dL_law_248 : decode cL_law 248 = .ok (.iload_n 3, 1) := by decide +kernel
theorem dL_law_249 : decode cL_law 249 = .ok (.iconst 1, 1) := by decide +kernel
theorem dL_law_250 : decode cL_law 250 = .ok (.iadd, 1) := by decide +kernel
theorem dL_law_251 : decode cL_law 251 = .ok (.iaload, 1) := by decide +kernel
theorem dL_law_252 : decode cL_law 252 = .ok (.aload_n 0, 1) := by decide +kernel
theorem dL_law_253 : decode cL_law 253 = .ok (.iload_n 3, 1) := by decide +kernel
theorem dL_law_254 : decode cL_law 254 = .ok (.iconst 2, 1) := by decide +kernel
theorem dL_law_255 : decode cL_law 255 = .ok (.iadd, 1) := by decide +kernel
theorem dL_law_256 : decode cL_law 256 = .ok (.iaload, 1) := by decide +kernel
theorem dL_law_257 : decode cL_law 257 = .ok (.aload_n 0, 1) := by decide +kernel
theorem dL_law_258 : decode cL_law 258 = .ok (.iload_n 3, 1) := by decide +kernel
theorem dL_law_259 : decode cL_law 259 = .ok (.iconst 3, 1) := by decide +kernel
theorem dL_law_260 : decode cL_law 260 = .ok (.iadd, 1) := by decide +kernel
theorem dL_law_261 : decode cL_law 261 = .ok (.iaload, 1) := by decide +kernel
theorem dL_law_262 : decode cL_law 262 = .ok (.invokevirtual 39, 3) := by decide +kernel
theorem dL_law_265 : decode cL_law 265 = .ok (.aload_n 2, 1) := by decide +kernel
theorem dL_law_266 : decode cL_law 266 = .ok (.aload_n 0, 1) := by decide +kernel
theorem dL_law_267 : decode cL_law 267 = .ok (.iload_n 3, 1) := by decide +kernel
theorem dL_law_268 : decode cL_law 268 = .ok (.iconst 1, 1) := by decide +kernel
theorem dL_law_269 : decode cL_law 269 = .ok (.iadd, 1) := by decide +kernel
theorem dL_law_270 : decode cL_law 270 = .ok (.iaload, 1) := by decide +kernel
theorem dL_law_271 : decode cL_law 271 = .ok (.aload_n 0, 1) := by decide +kernel
theorem dL_law_272 : decode cL_law 272 = .ok (.iload_n 3, 1) := by decide +kernel
theorem dL_law_273 : decode cL_law 273 = .ok (.iconst 2, 1) := by decide +kernel
theorem dL_law_274 : decode cL_law 274 = .ok (.iadd, 1) := by decide +kernel
theorem dL_law_275 : decode cL_law 275 = .ok (.iaload, 1) := by decide +kernel
theorem dL_law_276 : decode cL_law 276 = .ok (.aload_n 0, 1) := by decide +kernel
theorem dL_law_277 : decode cL_law 277 = .ok (.iload_n 3, 1) := by decide +kernel
theorem dL_law_278 : decode cL_law 278 = .ok (.iconst 3, 1) := by decide +kernel
theorem dL_law_279 : decode cL_law 279 = .ok (.iadd, 1) := by decide +kernel
theorem dL_law_280 : decode cL_law 280 = .ok (.iaload, 1) := by decide +kernel
theorem dL_law_281 : decode cL_law 281 = .ok (.invokevirtual 43, 3) := by decide +kernel
theorem dL_law_284 : decode cL_law 284 = .ok (.if_icmp .eq 384, 3) := by decide +kernel
theorem dL_law_287 : decode cL_law 287 = .ok (.iconst 0, 1) := by decide +kernel
theorem dL_law_288 : decode cL_law 288 = .ok (.ireturn, 1) := by decide +kernel
theorem dL_law_289 : decode cL_law 289 = .ok (.aload_n 1, 1) := by decide +kernel
theorem dL_law_290 : decode cL_law 290 = .ok (.invokevirtual 44, 3) := by decide +kernel
theorem dL_law_293 : decode cL_law 293 = .ok (.aload_n 2, 1) := by decide +kernel
theorem dL_law_294 : decode cL_law 294 = .ok (.invokevirtual 47, 3) := by decide +kernel
theorem dL_law_297 : decode cL_law 297 = .ok (.if_icmp .eq 371, 3) := by decide +kernel
theorem dL_law_300 : decode cL_law 300 = .ok (.iconst 0, 1) := by decide +kernel
theorem dL_law_301 : decode cL_law 301 = .ok (.ireturn, 1) := by decide +kernel
theorem dL_law_302 : decode cL_law 302 = .ok (.aload_n 1, 1) := by decide +kernel
theorem dL_law_303 : decode cL_law 303 = .ok (.aload_n 0, 1) := by decide +kernel
theorem dL_law_304 : decode cL_law 304 = .ok (.iload_n 3, 1) := by decide +kernel
theorem dL_law_305 : decode cL_law 305 = .ok (.iconst 1, 1) := by decide +kernel
theorem dL_law_306 : decode cL_law 306 = .ok (.iadd, 1) := by decide +kernel
theorem dL_law_307 : decode cL_law 307 = .ok (.iaload, 1) := by decide +kernel
theorem dL_law_308 : decode cL_law 308 = .ok (.aload_n 0, 1) := by decide +kernel
theorem dL_law_309 : decode cL_law 309 = .ok (.iload_n 3, 1) := by decide +kernel
theorem dL_law_310 : decode cL_law 310 = .ok (.iconst 2, 1) := by decide +kernel
theorem dL_law_311 : decode cL_law 311 = .ok (.iadd, 1) := by decide +kernel
theorem dL_law_312 : decode cL_law 312 = .ok (.iaload, 1) := by decide +kernel
theorem dL_law_313 : decode cL_law 313 = .ok (.aload_n 0, 1) := by decide +kernel
theorem dL_law_314 : decode cL_law 314 = .ok (.iload_n 3, 1) := by decide +kernel
theorem dL_law_315 : decode cL_law 315 = .ok (.iconst 3, 1) := by decide +kernel
theorem dL_law_316 : decode cL_law 316 = .ok (.iadd, 1) := by decide +kernel
theorem dL_law_317 : decode cL_law 317 = .ok (.iaload, 1) := by decide +kernel
theorem dL_law_318 : decode cL_law 318 = .ok (.aload_n 0, 1) := by decide +kernel
theorem dL_law_319 : decode cL_law 319 = .ok (.iload_n 3, 1) := by decide +kernel
theorem dL_law_320 : decode cL_law 320 = .ok (.iconst 4, 1) := by decide +kernel
theorem dL_law_321 : decode cL_law 321 = .ok (.iadd, 1) := by decide +kernel
theorem dL_law_322 : decode cL_law 322 = .ok (.iaload, 1) := by decide +kernel
theorem dL_law_323 : decode cL_law 323 = .ok (.invokevirtual 48, 3) := by decide +kernel
theorem dL_law_326 : decode cL_law 326 = .ok (.aload_n 2, 1) := by decide +kernel
theorem dL_law_327 : decode cL_law 327 = .ok (.aload_n 0, 1) := by decide +kernel
theorem dL_law_328 : decode cL_law 328 = .ok (.iload_n 3, 1) := by decide +kernel
theorem dL_law_329 : decode cL_law 329 = .ok (.iconst 1, 1) := by decide +kernel
theorem dL_law_330 : decode cL_law 330 = .ok (.iadd, 1) := by decide +kernel
theorem dL_law_331 : decode cL_law 331 = .ok (.iaload, 1) := by decide +kernel
theorem dL_law_332 : decode cL_law 332 = .ok (.aload_n 0, 1) := by decide +kernel
theorem dL_law_333 : decode cL_law 333 = .ok (.iload_n 3, 1) := by decide +kernel
theorem dL_law_334 : decode cL_law 334 = .ok (.iconst 2, 1) := by decide +kernel
theorem dL_law_335 : decode cL_law 335 = .ok (.iadd, 1) := by decide +kernel
theorem dL_law_336 : decode cL_law 336 = .ok (.iaload, 1) := by decide +kernel
theorem dL_law_337 : decode cL_law 337 = .ok (.aload_n 0, 1) := by decide +kernel
theorem dL_law_338 : decode cL_law 338 = .ok (.iload_n 3, 1) := by decide +kernel
theorem dL_law_339 : decode cL_law 339 = .ok (.iconst 3, 1) := by decide +kernel
theorem dL_law_340 : decode cL_law 340 = .ok (.iadd, 1) := by decide +kernel
theorem dL_law_341 : decode cL_law 341 = .ok (.iaload, 1) := by decide +kernel
theorem dL_law_342 : decode cL_law 342 = .ok (.aload_n 0, 1) := by decide +kernel
theorem dL_law_343 : decode cL_law 343 = .ok (.iload_n 3, 1) := by decide +kernel
theorem dL_law_344 : decode cL_law 344 = .ok (.iconst 4, 1) := by decide +kernel
theorem dL_law_345 : decode cL_law 345 = .ok (.iadd, 1) := by decide +kernel
theorem dL_law_346 : decode cL_law 346 = .ok (.iaload, 1) := by decide +kernel
theorem dL_law_347 : decode cL_law 347 = .ok (.invokevirtual 52, 3) := by decide +kernel
theorem dL_law_350 : decode cL_law 350 = .ok (.if_icmp .eq 318, 3) := by decide +kernel
theorem dL_law_353 : decode cL_law 353 = .ok (.iconst 0, 1) := by decide +kernel
theorem dL_law_354 : decode cL_law 354 = .ok (.ireturn, 1) := by decide +kernel
theorem dL_law_355 : decode cL_law 355 = .ok (.aload_n 1, 1) := by decide +kernel
theorem dL_law_356 : decode cL_law 356 = .ok (.aload_n 0, 1) := by decide +kernel
theorem dL_law_357 : decode cL_law 357 = .ok (.iload_n 3, 1) := by decide +kernel
theorem dL_law_358 : decode cL_law 358 = .ok (.iconst 1, 1) := by decide +kernel
theorem dL_law_359 : decode cL_law 359 = .ok (.iadd, 1) := by decide +kernel
theorem dL_law_360 : decode cL_law 360 = .ok (.iaload, 1) := by decide +kernel
theorem dL_law_361 : decode cL_law 361 = .ok (.invokevirtual 53, 3) := by decide +kernel
theorem dL_law_364 : decode cL_law 364 = .ok (.aload_n 2, 1) := by decide +kernel
theorem dL_law_365 : decode cL_law 365 = .ok (.aload_n 0, 1) := by decide +kernel
theorem dL_law_366 : decode cL_law 366 = .ok (.iload_n 3, 1) := by decide +kernel
theorem dL_law_367 : decode cL_law 367 = .ok (.iconst 1, 1) := by decide +kernel
theorem dL_law_368 : decode cL_law 368 = .ok (.iadd, 1) := by decide +kernel
theorem dL_law_369 : decode cL_law 369 = .ok (.iaload, 1) := by decide +kernel
theorem dL_law_370 : decode cL_law 370 = .ok (.invokevirtual 56, 3) := by decide +kernel
theorem dL_law_373 : decode cL_law 373 = .ok (.if_icmp .eq 295, 3) := by decide +kernel
theorem dL_law_376 : decode cL_law 376 = .ok (.iconst 0, 1) := by decide +kernel
theorem dL_law_377 : decode cL_law 377 = .ok (.ireturn, 1) := by decide +kernel
theorem dL_law_378 : decode cL_law 378 = .ok (.aload_n 1, 1) := by decide +kernel
theorem dL_law_379 : decode cL_law 379 = .ok (.aload_n 0, 1) := by decide +kernel
theorem dL_law_380 : decode cL_law 380 = .ok (.iload_n 3, 1) := by decide +kernel
theorem dL_law_381 : decode cL_law 381 = .ok (.iconst 1, 1) := by decide +kernel
theorem dL_law_382 : decode cL_law 382 = .ok (.iadd, 1) := by decide +kernel
theorem dL_law_383 : decode cL_law 383 = .ok (.iaload, 1) := by decide +kernel
theorem dL_law_384 : decode cL_law 384 = .ok (.aload_n 0, 1) := by decide +kernel
theorem dL_law_385 : decode cL_law 385 = .ok (.iload_n 3, 1) := by decide +kernel
theorem dL_law_386 : decode cL_law 386 = .ok (.iconst 2, 1) := by decide +kernel
theorem dL_law_387 : decode cL_law 387 = .ok (.iadd, 1) := by decide +kernel
theorem dL_law_388 : decode cL_law 388 = .ok (.iaload, 1) := by decide +kernel
theorem dL_law_389 : decode cL_law 389 = .ok (.invokevirtual 57, 3) := by decide +kernel
theorem dL_law_392 : decode cL_law 392 = .ok (.aload_n 2, 1) := by decide +kernel
theorem dL_law_393 : decode cL_law 393 = .ok (.aload_n 0, 1) := by decide +kernel
theorem dL_law_394 : decode cL_law 394 = .ok (.iload_n 3, 1) := by decide +kernel
theorem dL_law_395 : decode cL_law 395 = .ok (.iconst 1, 1) := by decide +kernel
theorem dL_law_396 : decode cL_law 396 = .ok (.iadd, 1) := by decide +kernel
theorem dL_law_397 : decode cL_law 397 = .ok (.iaload, 1) := by decide +kernel
theorem dL_law_398 : decode cL_law 398 = .ok (.aload_n 0, 1) := by decide +kernel
theorem dL_law_399 : decode cL_law 399 = .ok (.iload_n 3, 1) := by decide +kernel
theorem dL_law_400 : decode cL_law 400 = .ok (.iconst 2, 1) := by decide +kernel
theorem dL_law_401 : decode cL_law 401 = .ok (.iadd, 1) := by decide +kernel
theorem dL_law_402 : decode cL_law 402 = .ok (.iaload, 1) := by decide +kernel
theorem dL_law_403 : decode cL_law 403 = .ok (.invokevirtual 61, 3) := by decide +kernel
theorem dL_law_406 : decode cL_law 406 = .ok (.if_icmp .eq 262, 3) := by decide +kernel
theorem dL_law_409 : decode cL_law 409 = .ok (.iconst 0, 1) := by decide +kernel
theorem dL_law_410 : decode cL_law 410 = .ok (.ireturn, 1) := by decide +kernel
theorem dL_law_411 : decode cL_law 411 = .ok (.aload_n 1, 1) := by decide +kernel
theorem dL_law_412 : decode cL_law 412 = .ok (.aload_n 0, 1) := by decide +kernel
theorem dL_law_413 : decode cL_law 413 = .ok (.iload_n 3, 1) := by decide +kernel
theorem dL_law_414 : decode cL_law 414 = .ok (.iconst 1, 1) := by decide +kernel
theorem dL_law_415 : decode cL_law 415 = .ok (.iadd, 1) := by decide +kernel
theorem dL_law_416 : decode cL_law 416 = .ok (.iaload, 1) := by decide +kernel
theorem dL_law_417 : decode cL_law 417 = .ok (.aload_n 0, 1) := by decide +kernel
theorem dL_law_418 : decode cL_law 418 = .ok (.iload_n 3, 1) := by decide +kernel
theorem dL_law_419 : decode cL_law 419 = .ok (.iconst 2, 1) := by decide +kernel
theorem dL_law_420 : decode cL_law 420 = .ok (.iadd, 1) := by decide +kernel
theorem dL_law_421 : decode cL_law 421 = .ok (.iaload, 1) := by decide +kernel
theorem dL_law_422 : decode cL_law 422 = .ok (.invokevirtual 62, 3) := by decide +kernel
theorem dL_law_425 : decode cL_law 425 = .ok (.aload_n 2, 1) := by decide +kernel
theorem dL_law_426 : decode cL_law 426 = .ok (.aload_n 0, 1) := by decide +kernel
theorem dL_law_427 : decode cL_law 427 = .ok (.iload_n 3, 1) := by decide +kernel
theorem dL_law_428 : decode cL_law 428 = .ok (.iconst 1, 1) := by decide +kernel
theorem dL_law_429 : decode cL_law 429 = .ok (.iadd, 1) := by decide +kernel
theorem dL_law_430 : decode cL_law 430 = .ok (.iaload, 1) := by decide +kernel
theorem dL_law_431 : decode cL_law 431 = .ok (.aload_n 0, 1) := by decide +kernel
theorem dL_law_432 : decode cL_law 432 = .ok (.iload_n 3, 1) := by decide +kernel
theorem dL_law_433 : decode cL_law 433 = .ok (.iconst 2, 1) := by decide +kernel
theorem dL_law_434 : decode cL_law 434 = .ok (.iadd, 1) := by decide +kernel
theorem dL_law_435 : decode cL_law 435 = .ok (.iaload, 1) := by decide +kernel
theorem dL_law_436 : decode cL_law 436 = .ok (.invokevirtual 65, 3) := by decide +kernel
theorem dL_law_439 : decode cL_law 439 = .ok (.if_icmp .eq 229, 3) := by decide +kernel
theorem dL_law_442 : decode cL_law 442 = .ok (.iconst 0, 1) := by decide +kernel
theorem dL_law_443 : decode cL_law 443 = .ok (.ireturn, 1) := by decide +kernel
theorem dL_law_444 : decode cL_law 444 = .ok (.aload_n 1, 1) := by decide +kernel
theorem dL_law_445 : decode cL_law 445 = .ok (.aload_n 0, 1) := by decide +kernel
theorem dL_law_446 : decode cL_law 446 = .ok (.iload_n 3, 1) := by decide +kernel
theorem dL_law_447 : decode cL_law 447 = .ok (.iconst 1, 1) := by decide +kernel
theorem dL_law_448 : decode cL_law 448 = .ok (.iadd, 1) := by decide +kernel
theorem dL_law_449 : decode cL_law 449 = .ok (.iaload, 1) := by decide +kernel
theorem dL_law_450 : decode cL_law 450 = .ok (.aload_n 0, 1) := by decide +kernel
theorem dL_law_451 : decode cL_law 451 = .ok (.iload_n 3, 1) := by decide +kernel
theorem dL_law_452 : decode cL_law 452 = .ok (.iconst 2, 1) := by decide +kernel
theorem dL_law_453 : decode cL_law 453 = .ok (.iadd, 1) := by decide +kernel
theorem dL_law_454 : decode cL_law 454 = .ok (.iaload, 1) := by decide +kernel
theorem dL_law_455 : decode cL_law 455 = .ok (.invokevirtual 66, 3) := by decide +kernel
theorem dL_law_458 : decode cL_law 458 = .ok (.aload_n 2, 1) := by decide +kernel
theorem dL_law_459 : decode cL_law 459 = .ok (.aload_n 0, 1) := by decide +kernel
theorem dL_law_460 : decode cL_law 460 = .ok (.iload_n 3, 1) := by decide +kernel
theorem dL_law_461 : decode cL_law 461 = .ok (.iconst 1, 1) := by decide +kernel
theorem dL_law_462 : decode cL_law 462 = .ok (.iadd, 1) := by decide +kernel
theorem dL_law_463 : decode cL_law 463 = .ok (.iaload, 1) := by decide +kernel
theorem dL_law_464 : decode cL_law 464 = .ok (.aload_n 0, 1) := by decide +kernel
theorem dL_law_465 : decode cL_law 465 = .ok (.iload_n 3, 1) := by decide +kernel
theorem dL_law_466 : decode cL_law 466 = .ok (.iconst 2, 1) := by decide +kernel
theorem dL_law_467 : decode cL_law 467 = .ok (.iadd, 1) := by decide +kernel
theorem dL_law_468 : decode cL_law 468 = .ok (.iaload, 1) := by decide +kernel
theorem dL_law_469 : decode cL_law 469 = .ok (.invokevirtual 69, 3) := by decide +kernel
theorem dL_law_472 : decode cL_law 472 = .ok (.if_icmp .eq 196, 3) := by decide +kernel
theorem dL_law_475 : decode cL_law 475 = .ok (.iconst 0, 1) := by decide +kernel
theorem dL_law_476 : decode cL_law 476 = .ok (.ireturn, 1) := by decide +kernel
theorem dL_law_477 : decode cL_law 477 = .ok (.aload_n 1, 1) := by decide +kernel
theorem dL_law_478 : decode cL_law 478 = .ok (.aload_n 0, 1) := by decide +kernel
theorem dL_law_479 : decode cL_law 479 = .ok (.iload_n 3, 1) := by decide +kernel
theorem dL_law_480 : decode cL_law 480 = .ok (.iconst 1, 1) := by decide +kernel
theorem dL_law_481 : decode cL_law 481 = .ok (.iadd, 1) := by decide +kernel
theorem dL_law_482 : decode cL_law 482 = .ok (.iaload, 1) := by decide +kernel
theorem dL_law_483 : decode cL_law 483 = .ok (.aload_n 0, 1) := by decide +kernel
theorem dL_law_484 : decode cL_law 484 = .ok (.iload_n 3, 1) := by decide +kernel
theorem dL_law_485 : decode cL_law 485 = .ok (.iconst 2, 1) := by decide +kernel
theorem dL_law_486 : decode cL_law 486 = .ok (.iadd, 1) := by decide +kernel
theorem dL_law_487 : decode cL_law 487 = .ok (.iaload, 1) := by decide +kernel
theorem dL_law_488 : decode cL_law 488 = .ok (.aload_n 0, 1) := by decide +kernel
theorem dL_law_489 : decode cL_law 489 = .ok (.iload_n 3, 1) := by decide +kernel
theorem dL_law_490 : decode cL_law 490 = .ok (.iconst 3, 1) := by decide +kernel
theorem dL_law_491 : decode cL_law 491 = .ok (.iadd, 1) := by decide +kernel
theorem dL_law_492 : decode cL_law 492 = .ok (.iaload, 1) := by decide +kernel
theorem dL_law_493 : decode cL_law 493 = .ok (.aload_n 0, 1) := by decide +kernel
theorem dL_law_494 : decode cL_law 494 = .ok (.iload_n 3, 1) := by decide +kernel
theorem dL_law_495 : decode cL_law 495 = .ok (.iconst 4, 1) := by decide +kernel
theorem dL_law_496 : decode cL_law 496 = .ok (.iadd, 1) := by decide +kernel
theorem dL_law_497 : decode cL_law 497 = .ok (.iaload, 1) := by decide +kernel
theorem dL_law_498 : decode cL_law 498 = .ok (.invokevirtual 70, 3) := by decide +kernel
theorem dL_law_501 : decode cL_law 501 = .ok (.aload_n 2, 1) := by decide +kernel
theorem dL_law_502 : decode cL_law 502 = .ok (.aload_n 0, 1) := by decide +kernel
theorem dL_law_503 : decode cL_law 503 = .ok (.iload_n 3, 1) := by decide +kernel
theorem dL_law_504 : decode cL_law 504 = .ok (.iconst 1, 1) := by decide +kernel
theorem dL_law_505 : decode cL_law 505 = .ok (.iadd, 1) := by decide +kernel
theorem dL_law_506 : decode cL_law 506 = .ok (.iaload, 1) := by decide +kernel
theorem dL_law_507 : decode cL_law 507 = .ok (.aload_n 0, 1) := by decide +kernel
theorem dL_law_508 : decode cL_law 508 = .ok (.iload_n 3, 1) := by decide +kernel
theorem dL_law_509 : decode cL_law 509 = .ok (.iconst 2, 1) := by decide +kernel
theorem dL_law_510 : decode cL_law 510 = .ok (.iadd, 1) := by decide +kernel
theorem dL_law_511 : decode cL_law 511 = .ok (.iaload, 1) := by decide +kernel
theorem dL_law_512 : decode cL_law 512 = .ok (.aload_n 0, 1) := by decide +kernel
theorem dL_law_513 : decode cL_law 513 = .ok (.iload_n 3, 1) := by decide +kernel
theorem dL_law_514 : decode cL_law 514 = .ok (.iconst 3, 1) := by decide +kernel
theorem dL_law_515 : decode cL_law 515 = .ok (.iadd, 1) := by decide +kernel
theorem dL_law_516 : decode cL_law 516 = .ok (.iaload, 1) := by decide +kernel
theorem dL_law_517 : decode cL_law 517 = .ok (.aload_n 0, 1) := by decide +kernel
theorem dL_law_518 : decode cL_law 518 = .ok (.iload_n 3, 1) := by decide +kernel
theorem dL_law_519 : decode cL_law 519 = .ok (.iconst 4, 1) := by decide +kernel
theorem dL_law_520 : decode cL_law 520 = .ok (.iadd, 1) := by decide +kernel
theorem dL_law_521 : decode cL_law 521 = .ok (.iaload, 1) := by decide +kernel
theorem dL_law_522 : decode cL_law 522 = .ok (.invokevirtual 73, 3) := by decide +kernel
theorem dL_law_525 : decode cL_law 525 = .ok (.if_icmp .eq 143, 3) := by decide +kernel
theorem dL_law_528 : decode cL_law 528 = .ok (.iconst 0, 1) := by decide +kernel
theorem dL_law_529 : decode cL_law 529 = .ok (.ireturn, 1) := by decide +kernel
theorem dL_law_530 : decode cL_law 530 = .ok (.aload_n 1, 1) := by decide +kernel
theorem dL_law_531 : decode cL_law 531 = .ok (.aload_n 0, 1) := by decide +kernel
theorem dL_law_532 : decode cL_law 532 = .ok (.iload_n 3, 1) := by decide +kernel
theorem dL_law_533 : decode cL_law 533 = .ok (.iconst 1, 1) := by decide +kernel
theorem dL_law_534 : decode cL_law 534 = .ok (.iadd, 1) := by decide +kernel
theorem dL_law_535 : decode cL_law 535 = .ok (.iaload, 1) := by decide +kernel
theorem dL_law_536 : decode cL_law 536 = .ok (.invokevirtual 74, 3) := by decide +kernel
theorem dL_law_539 : decode cL_law 539 = .ok (.aload_n 2, 1) := by decide +kernel
theorem dL_law_540 : decode cL_law 540 = .ok (.aload_n 0, 1) := by decide +kernel
theorem dL_law_541 : decode cL_law 541 = .ok (.iload_n 3, 1) := by decide +kernel
theorem dL_law_542 : decode cL_law 542 = .ok (.iconst 1, 1) := by decide +kernel
theorem dL_law_543 : decode cL_law 543 = .ok (.iadd, 1) := by decide +kernel
theorem dL_law_544 : decode cL_law 544 = .ok (.iaload, 1) := by decide +kernel
theorem dL_law_545 : decode cL_law 545 = .ok (.invokevirtual 77, 3) := by decide +kernel
theorem dL_law_548 : decode cL_law 548 = .ok (.if_icmp .eq 120, 3) := by decide +kernel
theorem dL_law_551 : decode cL_law 551 = .ok (.iconst 0, 1) := by decide +kernel
theorem dL_law_552 : decode cL_law 552 = .ok (.ireturn, 1) := by decide +kernel
theorem dL_law_553 : decode cL_law 553 = .ok (.aload_n 1, 1) := by decide +kernel
theorem dL_law_554 : decode cL_law 554 = .ok (.invokevirtual 78, 3) := by decide +kernel
theorem dL_law_557 : decode cL_law 557 = .ok (.aload_n 2, 1) := by decide +kernel
theorem dL_law_558 : decode cL_law 558 = .ok (.invokevirtual 81, 3) := by decide +kernel
theorem dL_law_561 : decode cL_law 561 = .ok (.if_icmp .eq 107, 3) := by decide +kernel
theorem dL_law_564 : decode cL_law 564 = .ok (.iconst 0, 1) := by decide +kernel
theorem dL_law_565 : decode cL_law 565 = .ok (.ireturn, 1) := by decide +kernel
theorem dL_law_566 : decode cL_law 566 = .ok (.aload_n 1, 1) := by decide +kernel
theorem dL_law_567 : decode cL_law 567 = .ok (.aload_n 0, 1) := by decide +kernel
theorem dL_law_568 : decode cL_law 568 = .ok (.iload_n 3, 1) := by decide +kernel
theorem dL_law_569 : decode cL_law 569 = .ok (.iconst 1, 1) := by decide +kernel
theorem dL_law_570 : decode cL_law 570 = .ok (.iadd, 1) := by decide +kernel
theorem dL_law_571 : decode cL_law 571 = .ok (.iaload, 1) := by decide +kernel
theorem dL_law_572 : decode cL_law 572 = .ok (.aload_n 0, 1) := by decide +kernel
theorem dL_law_573 : decode cL_law 573 = .ok (.iload_n 3, 1) := by decide +kernel
theorem dL_law_574 : decode cL_law 574 = .ok (.iconst 2, 1) := by decide +kernel
theorem dL_law_575 : decode cL_law 575 = .ok (.iadd, 1) := by decide +kernel
theorem dL_law_576 : decode cL_law 576 = .ok (.iaload, 1) := by decide +kernel
theorem dL_law_577 : decode cL_law 577 = .ok (.invokevirtual 82, 3) := by decide +kernel
theorem dL_law_580 : decode cL_law 580 = .ok (.aload_n 2, 1) := by decide +kernel
theorem dL_law_581 : decode cL_law 581 = .ok (.aload_n 0, 1) := by decide +kernel
theorem dL_law_582 : decode cL_law 582 = .ok (.iload_n 3, 1) := by decide +kernel
theorem dL_law_583 : decode cL_law 583 = .ok (.iconst 1, 1) := by decide +kernel
theorem dL_law_584 : decode cL_law 584 = .ok (.iadd, 1) := by decide +kernel
theorem dL_law_585 : decode cL_law 585 = .ok (.iaload, 1) := by decide +kernel
theorem dL_law_586 : decode cL_law 586 = .ok (.aload_n 0, 1) := by decide +kernel
theorem dL_law_587 : decode cL_law 587 = .ok (.iload_n 3, 1) := by decide +kernel
theorem dL_law_588 : decode cL_law 588 = .ok (.iconst 2, 1) := by decide +kernel
theorem dL_law_589 : decode cL_law 589 = .ok (.iadd, 1) := by decide +kernel
theorem dL_law_590 : decode cL_law 590 = .ok (.iaload, 1) := by decide +kernel
theorem dL_law_591 : decode cL_law 591 = .ok (.invokevirtual 85, 3) := by decide +kernel
theorem dL_law_594 : decode cL_law 594 = .ok (.if_icmp .eq 74, 3) := by decide +kernel
theorem dL_law_597 : decode cL_law 597 = .ok (.iconst 0, 1) := by decide +kernel
theorem dL_law_598 : decode cL_law 598 = .ok (.ireturn, 1) := by decide +kernel
theorem dL_law_599 : decode cL_law 599 = .ok (.aload_n 1, 1) := by decide +kernel
theorem dL_law_600 : decode cL_law 600 = .ok (.aload_n 0, 1) := by decide +kernel
theorem dL_law_601 : decode cL_law 601 = .ok (.iload_n 3, 1) := by decide +kernel
theorem dL_law_602 : decode cL_law 602 = .ok (.iconst 1, 1) := by decide +kernel
theorem dL_law_603 : decode cL_law 603 = .ok (.iadd, 1) := by decide +kernel
theorem dL_law_604 : decode cL_law 604 = .ok (.iaload, 1) := by decide +kernel
theorem dL_law_605 : decode cL_law 605 = .ok (.invokevirtual 86, 3) := by decide +kernel
theorem dL_law_608 : decode cL_law 608 = .ok (.aload_n 2, 1) := by decide +kernel
theorem dL_law_609 : decode cL_law 609 = .ok (.aload_n 0, 1) := by decide +kernel
theorem dL_law_610 : decode cL_law 610 = .ok (.iload_n 3, 1) := by decide +kernel
theorem dL_law_611 : decode cL_law 611 = .ok (.iconst 1, 1) := by decide +kernel
theorem dL_law_612 : decode cL_law 612 = .ok (.iadd, 1) := by decide +kernel
theorem dL_law_613 : decode cL_law 613 = .ok (.iaload, 1) := by decide +kernel
theorem dL_law_614 : decode cL_law 614 = .ok (.invokevirtual 89, 3) := by decide +kernel
theorem dL_law_617 : decode cL_law 617 = .ok (.if_icmp .eq 51, 3) := by decide +kernel
theorem dL_law_620 : decode cL_law 620 = .ok (.iconst 0, 1) := by decide +kernel
theorem dL_law_621 : decode cL_law 621 = .ok (.ireturn, 1) := by decide +kernel
theorem dL_law_622 : decode cL_law 622 = .ok (.aload_n 1, 1) := by decide +kernel
theorem dL_law_623 : decode cL_law 623 = .ok (.aload_n 0, 1) := by decide +kernel
theorem dL_law_624 : decode cL_law 624 = .ok (.iload_n 3, 1) := by decide +kernel
theorem dL_law_625 : decode cL_law 625 = .ok (.iconst 1, 1) := by decide +kernel
theorem dL_law_626 : decode cL_law 626 = .ok (.iadd, 1) := by decide +kernel
theorem dL_law_627 : decode cL_law 627 = .ok (.iaload, 1) := by decide +kernel
theorem dL_law_628 : decode cL_law 628 = .ok (.invokevirtual 90, 3) := by decide +kernel
theorem dL_law_631 : decode cL_law 631 = .ok (.aload_n 2, 1) := by decide +kernel
theorem dL_law_632 : decode cL_law 632 = .ok (.aload_n 0, 1) := by decide +kernel
theorem dL_law_633 : decode cL_law 633 = .ok (.iload_n 3, 1) := by decide +kernel
theorem dL_law_634 : decode cL_law 634 = .ok (.iconst 1, 1) := by decide +kernel
theorem dL_law_635 : decode cL_law 635 = .ok (.iadd, 1) := by decide +kernel
theorem dL_law_636 : decode cL_law 636 = .ok (.iaload, 1) := by decide +kernel
theorem dL_law_637 : decode cL_law 637 = .ok (.invokevirtual 93, 3) := by decide +kernel
theorem dL_law_640 : decode cL_law 640 = .ok (.if_icmp .eq 28, 3) := by decide +kernel
theorem dL_law_643 : decode cL_law 643 = .ok (.iconst 0, 1) := by decide +kernel
theorem dL_law_644 : decode cL_law 644 = .ok (.ireturn, 1) := by decide +kernel
theorem dL_law_645 : decode cL_law 645 = .ok (.aload_n 1, 1) := by decide +kernel
theorem dL_law_646 : decode cL_law 646 = .ok (.aload_n 0, 1) := by decide +kernel
theorem dL_law_647 : decode cL_law 647 = .ok (.iload_n 3, 1) := by decide +kernel
theorem dL_law_648 : decode cL_law 648 = .ok (.iconst 1, 1) := by decide +kernel
theorem dL_law_649 : decode cL_law 649 = .ok (.iadd, 1) := by decide +kernel
theorem dL_law_650 : decode cL_law 650 = .ok (.iaload, 1) := by decide +kernel
theorem dL_law_651 : decode cL_law 651 = .ok (.invokevirtual 94, 3) := by decide +kernel
theorem dL_law_654 : decode cL_law 654 = .ok (.aload_n 2, 1) := by decide +kernel
theorem dL_law_655 : decode cL_law 655 = .ok (.aload_n 0, 1) := by decide +kernel
theorem dL_law_656 : decode cL_law 656 = .ok (.iload_n 3, 1) := by decide +kernel
theorem dL_law_657 : decode cL_law 657 = .ok (.iconst 1, 1) := by decide +kernel
theorem dL_law_658 : decode cL_law 658 = .ok (.iadd, 1) := by decide +kernel
theorem dL_law_659 : decode cL_law 659 = .ok (.iaload, 1) := by decide +kernel
theorem dL_law_660 : decode cL_law 660 = .ok (.invokevirtual 97, 3) := by decide +kernel
theorem dL_law_663 : decode cL_law 663 = .ok (.if_icmp .eq 5, 3) := by decide +kernel
theorem dL_law_666 : decode cL_law 666 = .ok (.iconst 0, 1) := by decide +kernel
theorem dL_law_667 : decode cL_law 667 = .ok (.ireturn, 1) := by decide +kernel
theorem dL_law_668 : decode cL_law 668 = .ok (.iinc 3 5, 3) := by decide +kernel
theorem dL_law_671 : decode cL_law 671 = .ok (.goto (-653), 3) := by decide +kernel
theorem dL_law_674 : decode cL_law 674 = .ok (.iconst 1, 1) := by decide +kernel
theorem dL_law_675 : decode cL_law 675 = .ok (.ireturn, 1) := by decide +kernel

