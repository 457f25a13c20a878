set_option maxRecDepth 20000 in
theorem ggX0_weigh_X0_startWithByte : GoodIn wsX0_weigh wsX0_startWithByte := goodIn_r _ [11, 2, 12, 3, 4, 13, 49, 50, 51, 52, 53, 54, 55, 56, 57, 58, 59, 60] (by decide +kernel) (by decide +kernel)
set_option maxRecDepth 20000 in
theorem gX0_weigh_X0_startWithByte : GoodIn wsX0_weigh (wsV RX0 33 RX0 yX0_startWithByte wsX0_startWithByte) := goodIn_app (goodIn_of _ (by decide +kernel)) ggX0_weigh_X0_startWithByte
set_option maxRecDepth 20000 in
theorem ggX0_weigh_X4_standsAt : GoodIn wsX0_weigh wsX4_standsAt := goodIn_r _ [18, 19, 20, 21, 22, 23, 17, 24, 25, 26, 27, 28, 29, 30, 31, 32, 33, 34, 35, 36, 47, 48, 53, 54, 55, 56, 57, 58, 59, 60] (by decide +kernel) (by decide +kernel)
set_option maxRecDepth 20000 in
theorem gX0_weigh_X4_standsAt : GoodIn wsX0_weigh (wsV RX0 42 RX4 yX4_standsAt wsX4_standsAt) := goodIn_app (goodIn_of _ (by decide +kernel)) ggX0_weigh_X4_standsAt
set_option maxRecDepth 20000 in
theorem ggX0_weigh_X0_startWithLearned : GoodIn wsX0_weigh wsX0_startWithLearned := goodIn_r _ [40, 12, 2, 3, 4, 41, 42, 43, 44, 45, 13, 46, 22, 23, 17, 24, 25, 26, 27, 28, 29, 30, 53, 54, 55, 56, 57, 58, 59, 60, 49, 50, 51, 52] (by decide +kernel) (by decide +kernel)
set_option maxRecDepth 20000 in
theorem gX0_weigh_X0_startWithLearned : GoodIn wsX0_weigh (wsV RX0 46 RX0 yX0_startWithLearned wsX0_startWithLearned) := goodIn_app (goodIn_of _ (by decide +kernel)) ggX0_weigh_X0_startWithLearned
set_option maxRecDepth 20000 in
theorem ggX0_chosenAfter_X4_sizeOf : GoodIn wsX0_chosenAfter wsX4_sizeOf := goodIn_r _ [6, 7, 8, 9, 10, 5, 11, 12, 17, 18, 19, 20, 21, 22, 23, 24] (by decide +kernel) (by decide +kernel)
set_option maxRecDepth 20000 in
theorem gX0_chosenAfter_X4_sizeOf : GoodIn wsX0_chosenAfter (wsV RX0 49 RX4 yX4_sizeOf wsX4_sizeOf) := goodIn_app (goodIn_of _ (by decide +kernel)) ggX0_chosenAfter_X4_sizeOf
set_option maxRecDepth 20000 in
theorem ggX0_startWithLearned_X4_sizeOf : GoodIn wsX0_startWithLearned wsX4_sizeOf := goodIn_r _ [15, 16, 17, 18, 19, 14, 20, 21, 22, 23, 24, 25, 26, 27, 28, 29] (by decide +kernel) (by decide +kernel)
set_option maxRecDepth 20000 in
theorem gX0_startWithLearned_X4_sizeOf : GoodIn wsX0_startWithLearned (wsV RX0 49 RX4 yX4_sizeOf wsX4_sizeOf) := goodIn_app (goodIn_of _ (by decide +kernel)) ggX0_startWithLearned_X4_sizeOf
set_option maxRecDepth 20000 in
theorem ggX1_countPairs_J7_fill_53178 : GoodIn wsX1_countPairs wsJ7_fill_53178 := goodIn_r _ [8] (by decide +kernel) (by decide +kernel)
set_option maxRecDepth 20000 in
theorem gX1_countPairs_J7_fill_53178 : GoodIn wsX1_countPairs (va_wsS RX1 21 yJ7_fill_53178 wsJ7_fill_53178) := goodIn_app (goodIn_of _ (by decide +kernel)) ggX1_countPairs_J7_fill_53178
set_option maxRecDepth 20000 in
theorem ggX1_countPairs_X2_hasNext : GoodIn wsX1_countPairs wsX2_hasNext := goodIn_r _ [13, 14, 15, 26, 27, 28, 29] (by decide +kernel) (by decide +kernel)
set_option maxRecDepth 20000 in
theorem gX1_countPairs_X2_hasNext : GoodIn wsX1_countPairs (wsV RX1 33 RX2 yX2_hasNext wsX2_hasNext) := goodIn_app (goodIn_of _ (by decide +kernel)) ggX1_countPairs_X2_hasNext
set_option maxRecDepth 20000 in
theorem ggX1_countPairs_X1_add : GoodIn wsX1_countPairs wsX1_add := goodIn_r _ [20, 1, 21, 22, 23, 24, 25] (by decide +kernel) (by decide +kernel)
set_option maxRecDepth 20000 in
theorem gX1_countPairs_X1_add : GoodIn wsX1_countPairs (wsV RX1 43 RX1 yX1_add wsX1_add) := goodIn_app (goodIn_of _ (by decide +kernel)) ggX1_countPairs_X1_add
set_option maxRecDepth 20000 in
theorem ggX1_mostFrequent_X1_isAhead : GoodIn wsX1_mostFrequent wsX1_isAhead := goodIn_r _ [6, 1, 7, 8, 9, 10] (by decide +kernel) (by decide +kernel)
set_option maxRecDepth 20000 in
theorem gX1_mostFrequent_X1_isAhead : GoodIn wsX1_mostFrequent (wsV RX1 47 RX1 yX1_isAhead wsX1_isAhead) := goodIn_app (goodIn_of _ (by decide +kernel)) ggX1_mostFrequent_X1_isAhead
set_option maxRecDepth 20000 in
theorem ggX2_spell_X3_beginsWord : GoodIn wsX2_spell wsX3_beginsWord := goodIn_r _ [11, 12, 13, 14, 15] (by decide +kernel) (by decide +kernel)
set_option maxRecDepth 20000 in
theorem gX2_spell_X3_beginsWord : GoodIn wsX2_spell (wsV RX2 32 RX3 yX3_beginsWord wsX3_beginsWord) := goodIn_app (goodIn_of _ (by decide +kernel)) ggX2_spell_X3_beginsWord
set_option maxRecDepth 20000 in
theorem ggX2_merge_X2_hasNext : GoodIn wsX2_merge wsX2_hasNext := goodIn_r _ [9, 1, 4, 10, 11, 12, 13] (by decide +kernel) (by decide +kernel)
set_option maxRecDepth 20000 in
theorem gX2_merge_X2_hasNext : GoodIn wsX2_merge (wsV RX2 36 RX2 yX2_hasNext wsX2_hasNext) := goodIn_app (goodIn_of _ (by decide +kernel)) ggX2_merge_X2_hasNext
set_option maxRecDepth 20000 in
theorem ggX4_init_J7_fill_53178 : GoodIn wsX4_init wsJ7_fill_53178 := goodIn_r _ [16] (by decide +kernel) (by decide +kernel)
set_option maxRecDepth 20000 in
theorem gX4_init_J7_fill_53178 : GoodIn wsX4_init (va_wsS RX4 37 yJ7_fill_53178 wsJ7_fill_53178) := goodIn_app (goodIn_of _ (by decide +kernel)) ggX4_init_J7_fill_53178
set_option maxRecDepth 20000 in
theorem ggX4_add_X4_sizeOf : GoodIn wsX4_add wsX4_sizeOf := goodIn_r _ [12, 5, 13, 14, 15, 11, 16, 1, 17, 18, 19, 20, 21, 22, 23, 24] (by decide +kernel) (by decide +kernel)
set_option maxRecDepth 20000 in
theorem gX4_add_X4_sizeOf : GoodIn wsX4_add (wsV RX4 54 RX4 yX4_sizeOf wsX4_sizeOf) := goodIn_app (goodIn_of _ (by decide +kernel)) ggX4_add_X4_sizeOf
set_option maxRecDepth 20000 in
theorem ggX4_sizeOf_X4_isLearned : GoodIn wsX4_sizeOf wsX4_isLearned := goodIn_r _ [6, 7, 8, 9, 10, 11, 12, 13, 14, 15] (by decide +kernel) (by decide +kernel)
set_option maxRecDepth 20000 in
theorem gX4_sizeOf_X4_isLearned : GoodIn wsX4_sizeOf (wsV RX4 58 RX4 yX4_isLearned wsX4_isLearned) := goodIn_app (goodIn_of _ (by decide +kernel)) ggX4_sizeOf_X4_isLearned
set_option maxRecDepth 20000 in
theorem ggX4_byteOf_X4_isLearned : GoodIn wsX4_byteOf wsX4_isLearned := goodIn_r _ [7, 8, 9, 10, 11, 12, 13, 14, 15, 16] (by decide +kernel) (by decide +kernel)
set_option maxRecDepth 20000 in
theorem gX4_byteOf_X4_isLearned : GoodIn wsX4_byteOf (wsV RX4 58 RX4 yX4_isLearned wsX4_isLearned) := goodIn_app (goodIn_of _ (by decide +kernel)) ggX4_byteOf_X4_isLearned
set_option maxRecDepth 20000 in
theorem ggX4_standsAt_X4_sizeOf : GoodIn wsX4_standsAt wsX4_sizeOf := goodIn_r _ [7, 8, 9, 10, 11, 6, 12, 13, 22, 23, 24, 25, 26, 27, 28, 29] (by decide +kernel) (by decide +kernel)
set_option maxRecDepth 20000 in
theorem gX4_standsAt_X4_sizeOf : GoodIn wsX4_standsAt (wsV RX4 54 RX4 yX4_sizeOf wsX4_sizeOf) := goodIn_app (goodIn_of _ (by decide +kernel)) ggX4_standsAt_X4_sizeOf
set_option maxRecDepth 20000 in
theorem ggX4_standsAt_X4_byteOf : GoodIn wsX4_standsAt wsX4_byteOf := goodIn_r _ [17, 18, 19, 9, 10, 11, 6, 12, 13, 22, 23, 24, 25, 26, 27, 28, 29] (by decide +kernel) (by decide +kernel)
set_option maxRecDepth 20000 in
theorem gX4_standsAt_X4_byteOf : GoodIn wsX4_standsAt (wsV RX4 65 RX4 yX4_byteOf wsX4_byteOf) := goodIn_app (goodIn_of _ (by decide +kernel)) ggX4_standsAt_X4_byteOf
set_option maxRecDepth 20000 in
theorem ggX5_init_X3_init : GoodIn wsX5_init wsX3_init := goodIn_r _ [26, 27, 2, 3, 28, 29, 30, 71, 72] (by decide +kernel) (by decide +kernel)
set_option maxRecDepth 20000 in
theorem gX5_init_X3_init : GoodIn wsX5_init (wsX3_init) := ggX5_init_X3_init
set_option maxRecDepth 20000 in
theorem ggX5_init_X4_init : GoodIn wsX5_init wsX4_init := goodIn_r _ [33, 34, 2, 3, 28, 35, 36, 37, 38, 39, 40, 41, 42, 43, 44, 45, 46, 78, 79, 80, 81, 82, 83, 84, 85] (by decide +kernel) (by decide +kernel)
set_option maxRecDepth 20000 in
theorem gX5_init_X4_init : GoodIn wsX5_init (wsX4_init) := ggX5_init_X4_init
set_option maxRecDepth 20000 in
theorem ggX5_init_X2_init : GoodIn wsX5_init wsX2_init := goodIn_r _ [49, 50, 2, 3, 28, 51, 52, 53, 54, 55, 86, 87, 88, 89] (by decide +kernel) (by decide +kernel)
set_option maxRecDepth 20000 in
theorem gX5_init_X2_init : GoodIn wsX5_init (wsX2_init) := ggX5_init_X2_init
set_option maxRecDepth 20000 in
theorem ggX5_init_X1_init : GoodIn wsX5_init wsX1_init := goodIn_r _ [58, 59, 2, 3, 28, 60, 61, 62, 90, 91, 92] (by decide +kernel) (by decide +kernel)
set_option maxRecDepth 20000 in
theorem gX5_init_X1_init : GoodIn wsX5_init (wsX1_init) := ggX5_init_X1_init
set_option maxRecDepth 20000 in
theorem ggX5_init_X0_init : GoodIn wsX5_init wsX0_init := goodIn_r _ [65, 66, 2, 3, 28, 67, 68, 69, 70, 93, 94, 95, 96] (by decide +kernel) (by decide +kernel)
set_option maxRecDepth 20000 in
theorem gX5_init_X0_init : GoodIn wsX5_init (wsX0_init) := ggX5_init_X0_init
set_option maxRecDepth 20000 in
theorem ggX5_octet_X3_append : GoodIn wsX5_octet wsX3_append := goodIn_r _ [7, 8, 9, 15, 16] (by decide +kernel) (by decide +kernel)
set_option maxRecDepth 20000 in
theorem gX5_octet_X3_append : GoodIn wsX5_octet (wsV RX5 48 RX3 yX3_append wsX3_append) := goodIn_app (goodIn_of _ (by decide +kernel)) ggX5_octet_X3_append
set_option maxRecDepth 20000 in
theorem ggX5_words_X3_beginsWord : GoodIn wsX5_words wsX3_beginsWord := goodIn_r _ [7, 8, 9, 15, 16] (by decide +kernel) (by decide +kernel)
set_option maxRecDepth 20000 in
theorem gX5_words_X3_beginsWord : GoodIn wsX5_words (wsV RX5 56 RX3 yX3_beginsWord wsX3_beginsWord) := goodIn_app (goodIn_of _ (by decide +kernel)) ggX5_words_X3_beginsWord
set_option maxRecDepth 20000 in
theorem ggX5_learn_X4_startFrom : GoodIn wsX5_learn wsX4_startFrom := goodIn_r _ [9, 10, 11, 12, 13, 14, 15, 16, 111, 112, 103, 104, 105, 106, 107, 108, 109, 110] (by decide +kernel) (by decide +kernel)
set_option maxRecDepth 20000 in
theorem gX5_learn_X4_startFrom : GoodIn wsX5_learn (wsV RX5 60 RX4 yX4_startFrom wsX4_startFrom) := goodIn_app (goodIn_of _ (by decide +kernel)) ggX5_learn_X4_startFrom
set_option maxRecDepth 20000 in
theorem ggX5_learn_X2_spell : GoodIn wsX5_learn wsX2_spell := goodIn_r _ [21, 22, 23, 24, 25, 26, 27, 28, 29, 30, 31, 32, 33, 34, 111, 112, 113, 114, 115, 116] (by decide +kernel) (by decide +kernel)
set_option maxRecDepth 20000 in
theorem gX5_learn_X2_spell : GoodIn wsX5_learn (wsV RX5 64 RX2 yX2_spell wsX2_spell) := goodIn_app (goodIn_of _ (by decide +kernel)) ggX5_learn_X2_spell
set_option maxRecDepth 20000 in
theorem ggX5_learn_X5_learnNext : GoodIn wsX5_learn wsX5_learnNext := goodIn_r _ [39, 40, 3, 41, 1, 4, 42, 43, 44, 45, 46, 47, 48, 49, 50, 51, 52, 53, 54, 55, 56, 57, 58, 59, 20, 60, 23, 27, 61, 62, 63, 64, 65, 66, 67, 68, 69, 70, 71, 72, 73, 74, 75, 76, 77, 8, 78, 16, 79, 80, 81, 82, 83, 84, 85, 86, 87, 88, 89, 90, 91, 92, 93, 94, 95, 96, 24, 26, 97, 98, 99, 100, 101, 102, 117, 118, 119, 103, 104, 105, 106, 107, 108, 109, 110, 113, 114, 115, 116] (by decide +kernel) (by decide +kernel)
set_option maxRecDepth 20000 in
theorem gX5_learn_X5_learnNext : GoodIn wsX5_learn (wsV RX5 67 RX5 yX5_learnNext wsX5_learnNext) := goodIn_app (goodIn_of _ (by decide +kernel)) ggX5_learn_X5_learnNext
set_option maxRecDepth 20000 in
theorem ggX5_pair_X4_isLearned : GoodIn wsX5_pair wsX4_isLearned := goodIn_r _ [8, 9, 15, 16, 17, 18, 19, 20, 21, 22] (by decide +kernel) (by decide +kernel)
set_option maxRecDepth 20000 in
theorem gX5_pair_X4_isLearned : GoodIn wsX5_pair (wsV RX5 74 RX4 yX4_isLearned wsX4_isLearned) := goodIn_app (goodIn_of _ (by decide +kernel)) ggX5_pair_X4_isLearned
set_option maxRecDepth 20000 in
theorem ggX5_count_X4_isLearned : GoodIn wsX5_count wsX4_isLearned := goodIn_r _ [7, 8, 14, 15, 16, 17, 18, 19, 20, 21] (by decide +kernel) (by decide +kernel)
set_option maxRecDepth 20000 in
theorem gX5_count_X4_isLearned : GoodIn wsX5_count (wsV RX5 74 RX4 yX4_isLearned wsX4_isLearned) := goodIn_app (goodIn_of _ (by decide +kernel)) ggX5_count_X4_isLearned
set_option maxRecDepth 20000 in
theorem ggX5_size_X4_isToken : GoodIn wsX5_size wsX4_isToken := goodIn_r _ [6, 7, 22, 23, 24, 25, 26, 27, 28, 29] (by decide +kernel) (by decide +kernel)
set_option maxRecDepth 20000 in
theorem gX5_size_X4_isToken : GoodIn wsX5_size (wsV RX5 86 RX4 yX4_isToken wsX4_isToken) := goodIn_app (goodIn_of _ (by decide +kernel)) ggX5_size_X4_isToken
set_option maxRecDepth 20000 in
theorem ggX5_size_X4_sizeOf : GoodIn wsX5_size wsX4_sizeOf := goodIn_r _ [11, 12, 13, 14, 15, 5, 16, 7, 22, 23, 24, 25, 26, 27, 28, 29] (by decide +kernel) (by decide +kernel)
set_option maxRecDepth 20000 in
theorem gX5_size_X4_sizeOf : GoodIn wsX5_size (wsV RX5 89 RX4 yX4_sizeOf wsX4_sizeOf) := goodIn_app (goodIn_of _ (by decide +kernel)) ggX5_size_X4_sizeOf
set_option maxRecDepth 20000 in
theorem ggX5_decode_X4_isToken : GoodIn wsX5_decode wsX4_isToken := goodIn_r _ [9, 10, 37, 38, 39, 40, 41, 42, 43, 44] (by decide +kernel) (by decide +kernel)
set_option maxRecDepth 20000 in
theorem gX5_decode_X4_isToken : GoodIn wsX5_decode (wsV RX5 86 RX4 yX4_isToken wsX4_isToken) := goodIn_app (goodIn_of _ (by decide +kernel)) ggX5_decode_X4_isToken
set_option maxRecDepth 20000 in
theorem ggX5_decode_X4_sizeOf : GoodIn wsX5_decode wsX4_sizeOf := goodIn_r _ [14, 15, 16, 17, 18, 8, 19, 10, 37, 38, 39, 40, 41, 42, 43, 44] (by decide +kernel) (by decide +kernel)
set_option maxRecDepth 20000 in
theorem gX5_decode_X4_sizeOf : GoodIn wsX5_decode (wsV RX5 89 RX4 yX4_sizeOf wsX4_sizeOf) := goodIn_app (goodIn_of _ (by decide +kernel)) ggX5_decode_X4_sizeOf
set_option maxRecDepth 20000 in
theorem ggX5_decode_X4_byteOf : GoodIn wsX5_decode wsX4_byteOf := goodIn_r _ [23, 24, 25, 16, 17, 18, 8, 19, 10, 37, 38, 39, 40, 41, 42, 43, 44] (by decide +kernel) (by decide +kernel)
set_option maxRecDepth 20000 in
theorem gX5_decode_X4_byteOf : GoodIn wsX5_decode (wsV RX5 100 RX4 yX4_byteOf wsX4_byteOf) := goodIn_app (goodIn_of _ (by decide +kernel)) ggX5_decode_X4_byteOf
set_option maxRecDepth 20000 in
theorem ggX5_tokens_X5_tellText : GoodIn wsX5_tokens wsX5_tellText := goodIn_r _ [7, 1, 8, 9, 10, 11, 12, 13, 14, 15, 16, 17, 18, 19, 20, 21, 22, 23, 24, 25, 26, 27, 28, 29, 30, 31, 32, 33, 34, 35, 36, 37, 38, 39, 40, 41, 42, 43, 48, 49, 50, 51, 52, 53, 54, 55, 56, 57, 44, 45, 46, 47] (by decide +kernel) (by decide +kernel)
set_option maxRecDepth 20000 in
theorem gX5_tokens_X5_tellText : GoodIn wsX5_tokens (wsV RX5 104 RX5 yX5_tellText wsX5_tellText) := goodIn_app (goodIn_of _ (by decide +kernel)) ggX5_tokens_X5_tellText
set_option maxRecDepth 20000 in
theorem ggX5_at_X5_tellText : GoodIn wsX5_at wsX5_tellText := goodIn_r _ [8, 1, 9, 10, 11, 12, 13, 14, 15, 16, 17, 18, 19, 20, 21, 22, 23, 24, 25, 26, 27, 28, 29, 30, 31, 32, 33, 34, 35, 36, 37, 38, 39, 40, 41, 42, 43, 44, 49, 50, 51, 52, 53, 54, 55, 56, 57, 58, 45, 46, 47, 48] (by decide +kernel) (by decide +kernel)
set_option maxRecDepth 20000 in
theorem gX5_at_X5_tellText : GoodIn wsX5_at (wsV RX5 104 RX5 yX5_tellText wsX5_tellText) := goodIn_app (goodIn_of _ (by decide +kernel)) ggX5_at_X5_tellText
set_option maxRecDepth 20000 in
theorem ggX5_from_X5_tellText : GoodIn wsX5_from wsX5_tellText := goodIn_r _ [8, 1, 9, 10, 11, 12, 13, 14, 15, 16, 17, 18, 19, 20, 21, 22, 23, 24, 25, 26, 27, 28, 29, 30, 31, 32, 33, 34, 35, 36, 37, 38, 39, 40, 41, 42, 43, 44, 49, 50, 51, 52, 53, 54, 55, 56, 57, 58, 45, 46, 47, 48] (by decide +kernel) (by decide +kernel)
set_option maxRecDepth 20000 in
theorem gX5_from_X5_tellText : GoodIn wsX5_from (wsV RX5 104 RX5 yX5_tellText wsX5_tellText) := goodIn_app (goodIn_of _ (by decide +kernel)) ggX5_from_X5_tellText
set_option maxRecDepth 20000 in
theorem ggX5_points_X4_isToken : GoodIn wsX5_points wsX4_isToken := goodIn_r _ [7, 8, 14, 15, 16, 17, 18, 19, 20, 21] (by decide +kernel) (by decide +kernel)
set_option maxRecDepth 20000 in
theorem gX5_points_X4_isToken : GoodIn wsX5_points (wsV RX5 86 RX4 yX4_isToken wsX4_isToken) := goodIn_app (goodIn_of _ (by decide +kernel)) ggX5_points_X4_isToken
set_option maxRecDepth 20000 in
theorem ggX5_best_X0_weigh : GoodIn wsX5_best wsX0_weigh := goodIn_r _ [9, 10, 11, 12, 13, 14, 15, 16, 17, 18, 8, 19, 20, 21, 22, 23, 24, 25, 26, 27, 28, 29, 30, 31, 32, 33, 34, 35, 36, 37, 38, 39, 40, 41, 42, 43, 44, 45, 46, 47, 48, 49, 50, 51, 52, 53, 54, 64, 65, 60, 61, 62, 63, 66, 67, 68, 69, 70, 71, 72, 73] (by decide +kernel) (by decide +kernel)
set_option maxRecDepth 20000 in
theorem gX5_best_X0_weigh : GoodIn wsX5_best (wsV RX5 117 RX0 yX0_weigh wsX0_weigh) := goodIn_app (goodIn_of _ (by decide +kernel)) ggX5_best_X0_weigh
set_option maxRecDepth 20000 in
theorem ggX5_bestAt_X0_weigh : GoodIn wsX5_bestAt wsX0_weigh := goodIn_r _ [9, 10, 11, 12, 13, 14, 15, 16, 17, 18, 8, 19, 20, 21, 22, 23, 24, 25, 26, 27, 28, 29, 30, 31, 32, 33, 34, 35, 36, 37, 38, 39, 40, 41, 42, 43, 44, 45, 46, 47, 48, 49, 50, 51, 52, 53, 54, 68, 69, 64, 65, 66, 67, 70, 71, 72, 73, 74, 75, 76, 77] (by decide +kernel) (by decide +kernel)
set_option maxRecDepth 20000 in
theorem gX5_bestAt_X0_weigh : GoodIn wsX5_bestAt (wsV RX5 117 RX0 yX0_weigh wsX0_weigh) := goodIn_app (goodIn_of _ (by decide +kernel)) ggX5_bestAt_X0_weigh
set_option maxRecDepth 20000 in
theorem ggX5_bestAt_X0_chosenAfter : GoodIn wsX5_bestAt wsX0_chosenAfter := goodIn_r _ [58, 21, 54, 30, 31, 25, 32, 33, 34, 35, 36, 37, 38, 64, 65, 66, 67, 70, 71, 72, 73, 74, 75, 76, 77] (by decide +kernel) (by decide +kernel)
set_option maxRecDepth 20000 in
theorem gX5_bestAt_X0_chosenAfter : GoodIn wsX5_bestAt (wsV RX5 124 RX0 yX0_chosenAfter wsX0_chosenAfter) := goodIn_app (goodIn_of _ (by decide +kernel)) ggX5_bestAt_X0_chosenAfter
set_option maxRecDepth 20000 in
theorem ggX5_sum_X0_weigh : GoodIn wsX5_sum wsX0_weigh := goodIn_r _ [9, 10, 11, 12, 13, 14, 15, 16, 17, 18, 8, 19, 20, 21, 22, 23, 24, 25, 26, 27, 28, 29, 30, 31, 32, 33, 34, 35, 36, 37, 38, 39, 40, 41, 42, 43, 44, 45, 46, 47, 48, 49, 50, 51, 52, 53, 54, 64, 65, 60, 61, 62, 63, 66, 67, 68, 69, 70, 71, 72, 73] (by decide +kernel) (by decide +kernel)
set_option maxRecDepth 20000 in
theorem gX5_sum_X0_weigh : GoodIn wsX5_sum (wsV RX5 117 RX0 yX0_weigh wsX0_weigh) := goodIn_app (goodIn_of _ (by decide +kernel)) ggX5_sum_X0_weigh
set_option maxRecDepth 20000 in
theorem ggX5_ways_X0_weigh : GoodIn wsX5_ways wsX0_weigh := goodIn_r _ [9, 10, 11, 12, 13, 14, 15, 16, 17, 18, 8, 19, 20, 21, 22, 23, 24, 25, 26, 27, 28, 29, 30, 31, 32, 33, 34, 35, 36, 37, 38, 39, 40, 41, 42, 43, 44, 45, 46, 47, 48, 49, 50, 51, 52, 53, 54, 64, 65, 60, 61, 62, 63, 66, 67, 68, 69, 70, 71, 72, 73] (by decide +kernel) (by decide +kernel)
set_option maxRecDepth 20000 in
theorem gX5_ways_X0_weigh : GoodIn wsX5_ways (wsV RX5 117 RX0 yX0_weigh wsX0_weigh) := goodIn_app (goodIn_of _ (by decide +kernel)) ggX5_ways_X0_weigh
set_option maxRecDepth 20000 in
theorem ggX5_learnNext_X1_countPairs : GoodIn wsX5_learnNext wsX1_countPairs := goodIn_r _ [12, 13, 14, 15, 16, 17, 18, 19, 20, 21, 22, 23, 24, 25, 26, 27, 28, 29, 30, 11, 31, 32, 33, 74, 75, 76, 85, 86, 87, 88] (by decide +kernel) (by decide +kernel)
set_option maxRecDepth 20000 in
theorem gX5_learnNext_X1_countPairs : GoodIn wsX5_learnNext (wsV RX5 134 RX1 yX1_countPairs wsX1_countPairs) := goodIn_app (goodIn_of _ (by decide +kernel)) ggX5_learnNext_X1_countPairs
set_option maxRecDepth 20000 in
theorem ggX5_learnNext_X1_mostFrequent : GoodIn wsX5_learnNext wsX1_mostFrequent := goodIn_r _ [37, 13, 38, 39, 40, 11, 41, 32, 74, 75, 76] (by decide +kernel) (by decide +kernel)
set_option maxRecDepth 20000 in
theorem gX5_learnNext_X1_mostFrequent : GoodIn wsX5_learnNext (wsV RX5 138 RX1 yX1_mostFrequent wsX1_mostFrequent) := goodIn_app (goodIn_of _ (by decide +kernel)) ggX5_learnNext_X1_mostFrequent
set_option maxRecDepth 20000 in
theorem ggX5_learnNext_X4_add : GoodIn wsX5_learnNext wsX4_add := goodIn_r _ [46, 47, 48, 49, 50, 51, 52, 53, 54, 55, 56, 45, 57, 58, 59, 60, 61, 77, 78, 79, 80, 81, 82, 83, 84] (by decide +kernel) (by decide +kernel)
set_option maxRecDepth 20000 in
theorem gX5_learnNext_X4_add : GoodIn wsX5_learnNext (wsV RX5 149 RX4 yX4_add wsX4_add) := goodIn_app (goodIn_of _ (by decide +kernel)) ggX5_learnNext_X4_add
set_option maxRecDepth 20000 in
theorem ggX5_learnNext_X2_merge : GoodIn wsX5_learnNext wsX2_merge := goodIn_r _ [65, 26, 66, 67, 27, 68, 22, 23, 24, 25, 85, 86, 87, 88] (by decide +kernel) (by decide +kernel)
set_option maxRecDepth 20000 in
theorem gX5_learnNext_X2_merge : GoodIn wsX5_learnNext (wsV RX5 153 RX2 yX2_merge wsX2_merge) := goodIn_app (goodIn_of _ (by decide +kernel)) ggX5_learnNext_X2_merge
set_option maxRecDepth 20000 in
theorem ggX5_tellText_X2_spell : GoodIn wsX5_tellText wsX2_spell := goodIn_r _ [11, 12, 13, 14, 15, 16, 17, 18, 19, 20, 21, 22, 23, 24, 46, 47, 48, 49, 50, 51] (by decide +kernel) (by decide +kernel)
set_option maxRecDepth 20000 in
theorem gX5_tellText_X2_spell : GoodIn wsX5_tellText (wsV RX5 64 RX2 yX2_spell wsX2_spell) := goodIn_app (goodIn_of _ (by decide +kernel)) ggX5_tellText_X2_spell
set_option maxRecDepth 20000 in
theorem ggX5_tellText_X2_merge : GoodIn wsX5_tellText wsX2_merge := goodIn_r _ [28, 13, 14, 16, 17, 29, 30, 31, 10, 32, 48, 49, 50, 51] (by decide +kernel) (by decide +kernel)
set_option maxRecDepth 20000 in
theorem gX5_tellText_X2_merge : GoodIn wsX5_tellText (wsV RX5 153 RX2 yX2_merge wsX2_merge) := goodIn_app (goodIn_of _ (by decide +kernel)) ggX5_tellText_X2_merge
set_option maxRecDepth 20000 in
theorem ggX6_octet_X6_in : GoodIn wsX6_octet wsX6_in := goodIn_r _ [7] (by decide +kernel) (by decide +kernel)
set_option maxRecDepth 20000 in
theorem gX6_octet_X6_in : GoodIn wsX6_octet (va_wsS RX6 53 yX6_in wsX6_in) := goodIn_app (goodIn_of _ (by decide +kernel)) ggX6_octet_X6_in
set_option maxRecDepth 20000 in
theorem ggX6_cut_X6_in : GoodIn wsX6_cut wsX6_in := goodIn_r _ [6] (by decide +kernel) (by decide +kernel)
set_option maxRecDepth 20000 in
theorem gX6_cut_X6_in : GoodIn wsX6_cut (va_wsS RX6 53 yX6_in wsX6_in) := goodIn_app (goodIn_of _ (by decide +kernel)) ggX6_cut_X6_in
set_option maxRecDepth 20000 in
theorem ggX6_byteAt_X6_in : GoodIn wsX6_byteAt wsX6_in := goodIn_r _ [7] (by decide +kernel) (by decide +kernel)
set_option maxRecDepth 20000 in
theorem gX6_byteAt_X6_in : GoodIn wsX6_byteAt (va_wsS RX6 53 yX6_in wsX6_in) := goodIn_app (goodIn_of _ (by decide +kernel)) ggX6_byteAt_X6_in
set_option maxRecDepth 20000 in
theorem ggX6_words_X6_beginsWord : GoodIn wsX6_words wsX6_beginsWord := goodIn_r _ [7, 8, 9, 10, 11, 12, 13, 14, 15, 16, 17, 18, 19, 20, 21, 22, 23, 24, 25] (by decide +kernel) (by decide +kernel)
set_option maxRecDepth 20000 in
theorem gX6_words_X6_beginsWord : GoodIn wsX6_words (wsV RX6 60 RX6 yX6_beginsWord wsX6_beginsWord) := goodIn_app (goodIn_of _ (by decide +kernel)) ggX6_words_X6_beginsWord
set_option maxRecDepth 20000 in
theorem ggX6_isPair_X6_beginsWord : GoodIn wsX6_isPair wsX6_beginsWord := goodIn_r _ [8, 9, 10, 11, 12, 13, 14, 15, 16, 17, 18, 19, 20, 21, 22, 23, 24, 25, 26] (by decide +kernel) (by decide +kernel)
set_option maxRecDepth 20000 in
theorem gX6_isPair_X6_beginsWord : GoodIn wsX6_isPair (wsV RX6 60 RX6 yX6_beginsWord wsX6_beginsWord) := goodIn_app (goodIn_of _ (by decide +kernel)) ggX6_isPair_X6_beginsWord
set_option maxRecDepth 20000 in
theorem ggX6_join_X6_isPair : GoodIn wsX6_join wsX6_isPair := goodIn_r _ [8, 1, 3, 2, 9, 10, 11, 7, 12, 13, 14, 15, 16, 17, 18, 19, 20, 21, 22, 23, 24, 25, 26, 27, 28, 29, 30] (by decide +kernel) (by decide +kernel)
set_option maxRecDepth 20000 in
theorem gX6_join_X6_isPair : GoodIn wsX6_join (wsV RX6 67 RX6 yX6_isPair wsX6_isPair) := goodIn_app (goodIn_of _ (by decide +kernel)) ggX6_join_X6_isPair
set_option maxRecDepth 20000 in
theorem ggX6_keep_X6_sizeOf : GoodIn wsX6_keep wsX6_sizeOf := goodIn_r _ [12, 5, 17, 18, 19, 20, 21, 22, 23, 24, 25, 26, 27, 28, 29, 30, 31, 32, 33] (by decide +kernel) (by decide +kernel)
set_option maxRecDepth 20000 in
theorem gX6_keep_X6_sizeOf : GoodIn wsX6_keep (wsV RX6 73 RX6 yX6_sizeOf wsX6_sizeOf) := goodIn_app (goodIn_of _ (by decide +kernel)) ggX6_keep_X6_sizeOf
set_option maxRecDepth 20000 in
theorem ggX6_keep_X6_byteOf : GoodIn wsX6_keep wsX6_byteOf := goodIn_r _ [16, 6, 17, 18, 19, 20, 21, 22, 23, 24, 25, 26, 27, 28, 29, 30, 31, 32, 33] (by decide +kernel) (by decide +kernel)
set_option maxRecDepth 20000 in
theorem gX6_keep_X6_byteOf : GoodIn wsX6_keep (wsV RX6 77 RX6 yX6_byteOf wsX6_byteOf) := goodIn_app (goodIn_of _ (by decide +kernel)) ggX6_keep_X6_byteOf
set_option maxRecDepth 20000 in
theorem ggX6_countOf_X6_isPair : GoodIn wsX6_countOf wsX6_isPair := goodIn_r _ [6, 1, 7, 8, 9, 10, 11, 5, 12, 13, 14, 15, 16, 17, 18, 19, 20, 21, 22, 23, 24, 25, 26, 27, 28, 29, 30] (by decide +kernel) (by decide +kernel)
set_option maxRecDepth 20000 in
theorem gX6_countOf_X6_isPair : GoodIn wsX6_countOf (wsV RX6 67 RX6 yX6_isPair wsX6_isPair) := goodIn_app (goodIn_of _ (by decide +kernel)) ggX6_countOf_X6_isPair
set_option maxRecDepth 20000 in
theorem ggX6_learn_X6_in : GoodIn wsX6_learn wsX6_in := goodIn_r _ [8] (by decide +kernel) (by decide +kernel)
set_option maxRecDepth 20000 in
theorem gX6_learn_X6_in : GoodIn wsX6_learn (va_wsS RX6 53 yX6_in wsX6_in) := goodIn_app (goodIn_of _ (by decide +kernel)) ggX6_learn_X6_in
set_option maxRecDepth 20000 in
theorem ggX6_learn_X6_layBytes : GoodIn wsX6_learn wsX6_layBytes := goodIn_r _ [12, 13, 3, 4, 14, 15, 50, 51, 52, 53, 54, 55, 56, 57, 58, 59, 60, 61, 62, 63, 64, 65, 66] (by decide +kernel) (by decide +kernel)
set_option maxRecDepth 20000 in
theorem gX6_learn_X6_layBytes : GoodIn wsX6_learn (wsV RX6 81 RX6 yX6_layBytes wsX6_layBytes) := goodIn_app (goodIn_of _ (by decide +kernel)) ggX6_learn_X6_layBytes
set_option maxRecDepth 20000 in
theorem ggX6_learn_X6_isPair : GoodIn wsX6_learn wsX6_isPair := goodIn_r _ [19, 3, 4, 15, 20, 21, 22, 7, 23, 14, 50, 51, 52, 53, 54, 55, 56, 57, 58, 59, 60, 61, 62, 63, 64, 65, 66] (by decide +kernel) (by decide +kernel)
set_option maxRecDepth 20000 in
theorem gX6_learn_X6_isPair : GoodIn wsX6_learn (wsV RX6 67 RX6 yX6_isPair wsX6_isPair) := goodIn_app (goodIn_of _ (by decide +kernel)) ggX6_learn_X6_isPair
set_option maxRecDepth 20000 in
theorem ggX6_learn_X6_countOf : GoodIn wsX6_learn wsX6_countOf := goodIn_r _ [27, 3, 16, 17, 18, 7, 19, 4, 15, 20, 21, 22, 23, 14, 50, 51, 52, 53, 54, 55, 56, 57, 58, 59, 60, 61, 62, 63, 64, 65, 66] (by decide +kernel) (by decide +kernel)
set_option maxRecDepth 20000 in
theorem gX6_learn_X6_countOf : GoodIn wsX6_learn (wsV RX6 84 RX6 yX6_countOf wsX6_countOf) := goodIn_app (goodIn_of _ (by decide +kernel)) ggX6_learn_X6_countOf
set_option maxRecDepth 20000 in
theorem ggX6_learn_X6_keep : GoodIn wsX6_learn wsX6_keep := goodIn_r _ [31, 2, 32, 33, 34, 35, 36, 37, 38, 39, 40, 7, 41, 42, 43, 44, 45, 50, 51, 52, 53, 54, 55, 56, 57, 58, 59, 60, 61, 62, 63, 64, 65, 66] (by decide +kernel) (by decide +kernel)
set_option maxRecDepth 20000 in
theorem gX6_learn_X6_keep : GoodIn wsX6_learn (wsV RX6 87 RX6 yX6_keep wsX6_keep) := goodIn_app (goodIn_of _ (by decide +kernel)) ggX6_learn_X6_keep
set_option maxRecDepth 20000 in
theorem ggX6_learn_X6_join : GoodIn wsX6_learn wsX6_join := goodIn_r _ [49, 3, 15, 4, 16, 17, 18, 7, 19, 20, 21, 22, 23, 14, 50, 51, 52, 53, 54, 55, 56, 57, 58, 59, 60, 61, 62, 63, 64, 65, 66] (by decide +kernel) (by decide +kernel)
set_option maxRecDepth 20000 in
theorem gX6_learn_X6_join : GoodIn wsX6_learn (wsV RX6 91 RX6 yX6_join wsX6_join) := goodIn_app (goodIn_of _ (by decide +kernel)) ggX6_learn_X6_join
set_option maxRecDepth 20000 in
theorem ggX6_isLearned_X6_in : GoodIn wsX6_isLearned wsX6_in := goodIn_r _ [5] (by decide +kernel) (by decide +kernel)
set_option maxRecDepth 20000 in
theorem gX6_isLearned_X6_in : GoodIn wsX6_isLearned (va_wsS RX6 53 yX6_in wsX6_in) := goodIn_app (goodIn_of _ (by decide +kernel)) ggX6_isLearned_X6_in
set_option maxRecDepth 20000 in
theorem ggX6_isToken_X6_in : GoodIn wsX6_isToken wsX6_in := goodIn_r _ [5] (by decide +kernel) (by decide +kernel)
set_option maxRecDepth 20000 in
theorem gX6_isToken_X6_in : GoodIn wsX6_isToken (va_wsS RX6 53 yX6_in wsX6_in) := goodIn_app (goodIn_of _ (by decide +kernel)) ggX6_isToken_X6_in
set_option maxRecDepth 20000 in
theorem ggX6_pair_X6_isLearned : GoodIn wsX6_pair wsX6_isLearned := goodIn_r _ [8, 9, 10, 11, 7, 12, 13, 14, 15, 16, 17, 18, 19, 20, 21, 22, 23, 24, 25, 26, 27, 28, 29] (by decide +kernel) (by decide +kernel)
set_option maxRecDepth 20000 in
theorem gX6_pair_X6_isLearned : GoodIn wsX6_pair (wsV RX6 94 RX6 yX6_isLearned wsX6_isLearned) := goodIn_app (goodIn_of _ (by decide +kernel)) ggX6_pair_X6_isLearned
set_option maxRecDepth 20000 in
theorem ggX6_count_X6_isLearned : GoodIn wsX6_count wsX6_isLearned := goodIn_r _ [7, 8, 9, 10, 6, 11, 12, 13, 14, 15, 16, 17, 18, 19, 20, 21, 22, 23, 24, 25, 26, 27, 28] (by decide +kernel) (by decide +kernel)
set_option maxRecDepth 20000 in
theorem gX6_count_X6_isLearned : GoodIn wsX6_count (wsV RX6 94 RX6 yX6_isLearned wsX6_isLearned) := goodIn_app (goodIn_of _ (by decide +kernel)) ggX6_count_X6_isLearned
set_option maxRecDepth 20000 in
theorem ggX6_size_X6_isToken : GoodIn wsX6_size wsX6_isToken := goodIn_r _ [6, 7, 8, 9, 5, 10, 16, 17, 18, 19, 20, 21, 22, 23, 24, 25, 26, 27, 28, 29, 30, 31, 32] (by decide +kernel) (by decide +kernel)
set_option maxRecDepth 20000 in
theorem gX6_size_X6_isToken : GoodIn wsX6_size (wsV RX6 97 RX6 yX6_isToken wsX6_isToken) := goodIn_app (goodIn_of _ (by decide +kernel)) ggX6_size_X6_isToken
set_option maxRecDepth 20000 in
theorem ggX6_size_X6_sizeOf : GoodIn wsX6_size wsX6_sizeOf := goodIn_r _ [14, 15, 16, 17, 18, 19, 20, 21, 22, 23, 24, 25, 26, 27, 28, 29, 30, 31, 32] (by decide +kernel) (by decide +kernel)
set_option maxRecDepth 20000 in
theorem gX6_size_X6_sizeOf : GoodIn wsX6_size (wsV RX6 73 RX6 yX6_sizeOf wsX6_sizeOf) := goodIn_app (goodIn_of _ (by decide +kernel)) ggX6_size_X6_sizeOf
set_option maxRecDepth 20000 in
theorem ggX6_decode_X6_isToken : GoodIn wsX6_decode wsX6_isToken := goodIn_r _ [6, 7, 8, 9, 5, 10, 21, 22, 23, 24, 25, 26, 27, 28, 29, 30, 31, 32, 33, 34, 35, 36, 37] (by decide +kernel) (by decide +kernel)
set_option maxRecDepth 20000 in
theorem gX6_decode_X6_isToken : GoodIn wsX6_decode (wsV RX6 97 RX6 yX6_isToken wsX6_isToken) := goodIn_app (goodIn_of _ (by decide +kernel)) ggX6_decode_X6_isToken
set_option maxRecDepth 20000 in
theorem ggX6_decode_X6_sizeOf : GoodIn wsX6_decode wsX6_sizeOf := goodIn_r _ [14, 15, 21, 22, 23, 24, 25, 26, 27, 28, 29, 30, 31, 32, 33, 34, 35, 36, 37] (by decide +kernel) (by decide +kernel)
set_option maxRecDepth 20000 in
theorem gX6_decode_X6_sizeOf : GoodIn wsX6_decode (wsV RX6 73 RX6 yX6_sizeOf wsX6_sizeOf) := goodIn_app (goodIn_of _ (by decide +kernel)) ggX6_decode_X6_sizeOf
set_option maxRecDepth 20000 in
theorem ggX6_decode_X6_in : GoodIn wsX6_decode wsX6_in := goodIn_r _ [10] (by decide +kernel) (by decide +kernel)
set_option maxRecDepth 20000 in
theorem gX6_decode_X6_in : GoodIn wsX6_decode (va_wsS RX6 53 yX6_in wsX6_in) := goodIn_app (goodIn_of _ (by decide +kernel)) ggX6_decode_X6_in
set_option maxRecDepth 20000 in
theorem ggX6_decode_X6_byteOf : GoodIn wsX6_decode wsX6_byteOf := goodIn_r _ [19, 20, 21, 22, 23, 24, 25, 26, 27, 28, 29, 30, 31, 32, 33, 34, 35, 36, 37] (by decide +kernel) (by decide +kernel)
set_option maxRecDepth 20000 in
theorem gX6_decode_X6_byteOf : GoodIn wsX6_decode (wsV RX6 77 RX6 yX6_byteOf wsX6_byteOf) := goodIn_app (goodIn_of _ (by decide +kernel)) ggX6_decode_X6_byteOf
set_option maxRecDepth 20000 in
theorem ggX6_tell_X6_layBytes : GoodIn wsX6_tell wsX6_layBytes := goodIn_r _ [8, 9, 10, 11, 12, 13, 26, 27, 28, 29, 30, 31, 32, 33, 34, 35, 36, 37, 38, 39, 40, 41, 42] (by decide +kernel) (by decide +kernel)
set_option maxRecDepth 20000 in
theorem gX6_tell_X6_layBytes : GoodIn wsX6_tell (wsV RX6 81 RX6 yX6_layBytes wsX6_layBytes) := goodIn_app (goodIn_of _ (by decide +kernel)) ggX6_tell_X6_layBytes
set_option maxRecDepth 20000 in
theorem ggX6_tell_X6_join : GoodIn wsX6_tell wsX6_join := goodIn_r _ [17, 10, 13, 11, 18, 19, 20, 7, 21, 22, 23, 24, 25, 12, 26, 27, 28, 29, 30, 31, 32, 33, 34, 35, 36, 37, 38, 39, 40, 41, 42] (by decide +kernel) (by decide +kernel)
set_option maxRecDepth 20000 in
theorem gX6_tell_X6_join : GoodIn wsX6_tell (wsV RX6 91 RX6 yX6_join wsX6_join) := goodIn_app (goodIn_of _ (by decide +kernel)) ggX6_tell_X6_join
set_option maxRecDepth 20000 in
theorem ggX6_tokens_X6_tell : GoodIn wsX6_tokens wsX6_tell := goodIn_r _ [7, 8, 9, 10, 11, 12, 13, 6, 14, 15, 2, 16, 17, 18, 19, 20, 21, 22, 23, 24, 25, 26, 27, 28, 29, 30, 31, 32, 33, 34, 35, 36, 37, 38, 39, 40, 41, 42, 43, 44, 45, 46, 47] (by decide +kernel) (by decide +kernel)
set_option maxRecDepth 20000 in
theorem gX6_tokens_X6_tell : GoodIn wsX6_tokens (wsV RX6 100 RX6 yX6_tell wsX6_tell) := goodIn_app (goodIn_of _ (by decide +kernel)) ggX6_tokens_X6_tell
set_option maxRecDepth 20000 in
theorem ggX6_at_X6_tell : GoodIn wsX6_at wsX6_tell := goodIn_r _ [8, 9, 10, 11, 12, 13, 14, 7, 15, 16, 2, 3, 17, 18, 19, 20, 21, 22, 23, 24, 25, 26, 27, 28, 29, 30, 34, 35, 36, 37, 38, 39, 40, 41, 42, 43, 44, 45, 46, 47, 48, 49, 50] (by decide +kernel) (by decide +kernel)
set_option maxRecDepth 20000 in
theorem gX6_at_X6_tell : GoodIn wsX6_at (wsV RX6 100 RX6 yX6_tell wsX6_tell) := goodIn_app (goodIn_of _ (by decide +kernel)) ggX6_at_X6_tell
set_option maxRecDepth 20000 in
theorem ggX6_at_X6_in : GoodIn wsX6_at wsX6_in := goodIn_r _ [33] (by decide +kernel) (by decide +kernel)
set_option maxRecDepth 20000 in
theorem gX6_at_X6_in : GoodIn wsX6_at (va_wsS RX6 53 yX6_in wsX6_in) := goodIn_app (goodIn_of _ (by decide +kernel)) ggX6_at_X6_in
set_option maxRecDepth 20000 in
theorem ggX6_from_X6_tell : GoodIn wsX6_from wsX6_tell := goodIn_r _ [8, 9, 10, 11, 12, 13, 14, 7, 15, 16, 2, 17, 18, 3, 19, 20, 21, 22, 23, 24, 25, 26, 27, 28, 29, 30, 34, 35, 36, 37, 38, 39, 40, 41, 42, 43, 44, 45, 46, 47, 48, 49, 50] (by decide +kernel) (by decide +kernel)
set_option maxRecDepth 20000 in
theorem gX6_from_X6_tell : GoodIn wsX6_from (wsV RX6 100 RX6 yX6_tell wsX6_tell) := goodIn_app (goodIn_of _ (by decide +kernel)) ggX6_from_X6_tell
set_option maxRecDepth 20000 in
theorem ggX6_from_X6_in : GoodIn wsX6_from wsX6_in := goodIn_r _ [33] (by decide +kernel) (by decide +kernel)
set_option maxRecDepth 20000 in
theorem gX6_from_X6_in : GoodIn wsX6_from (va_wsS RX6 53 yX6_in wsX6_in) := goodIn_app (goodIn_of _ (by decide +kernel)) ggX6_from_X6_in
set_option maxRecDepth 20000 in
theorem ggX6_points_X6_isToken : GoodIn wsX6_points wsX6_isToken := goodIn_r _ [7, 8, 9, 10, 6, 11, 12, 13, 14, 15, 16, 17, 18, 19, 20, 21, 22, 23, 24, 25, 26, 27, 28] (by decide +kernel) (by decide +kernel)
set_option maxRecDepth 20000 in
theorem gX6_points_X6_isToken : GoodIn wsX6_points (wsV RX6 97 RX6 yX6_isToken wsX6_isToken) := goodIn_app (goodIn_of _ (by decide +kernel)) ggX6_points_X6_isToken
set_option maxRecDepth 20000 in
theorem ggX6_points_X6_in : GoodIn wsX6_points wsX6_in := goodIn_r _ [11] (by decide +kernel) (by decide +kernel)
set_option maxRecDepth 20000 in
theorem gX6_points_X6_in : GoodIn wsX6_points (va_wsS RX6 53 yX6_in wsX6_in) := goodIn_app (goodIn_of _ (by decide +kernel)) ggX6_points_X6_in
set_option maxRecDepth 20000 in
theorem ggX6_fits_X6_sizeOf : GoodIn wsX6_fits wsX6_sizeOf := goodIn_r _ [7, 8, 18, 19, 20, 21, 22, 23, 24, 25, 26, 27, 28, 29, 30, 31, 32, 33, 34] (by decide +kernel) (by decide +kernel)
set_option maxRecDepth 20000 in
theorem gX6_fits_X6_sizeOf : GoodIn wsX6_fits (wsV RX6 73 RX6 yX6_sizeOf wsX6_sizeOf) := goodIn_app (goodIn_of _ (by decide +kernel)) ggX6_fits_X6_sizeOf
set_option maxRecDepth 20000 in
theorem ggX6_fits_X6_byteOf : GoodIn wsX6_fits wsX6_byteOf := goodIn_r _ [12, 13, 18, 19, 20, 21, 22, 23, 24, 25, 26, 27, 28, 29, 30, 31, 32, 33, 34] (by decide +kernel) (by decide +kernel)
set_option maxRecDepth 20000 in
theorem gX6_fits_X6_byteOf : GoodIn wsX6_fits (wsV RX6 77 RX6 yX6_byteOf wsX6_byteOf) := goodIn_app (goodIn_of _ (by decide +kernel)) ggX6_fits_X6_byteOf
set_option maxRecDepth 20000 in
theorem ggX6_fits_X6_beginsWord : GoodIn wsX6_fits wsX6_beginsWord := goodIn_r _ [17, 2, 18, 19, 20, 21, 22, 23, 24, 25, 26, 27, 28, 29, 30, 31, 32, 33, 34] (by decide +kernel) (by decide +kernel)
set_option maxRecDepth 20000 in
theorem gX6_fits_X6_beginsWord : GoodIn wsX6_fits (wsV RX6 60 RX6 yX6_beginsWord wsX6_beginsWord) := goodIn_app (goodIn_of _ (by decide +kernel)) ggX6_fits_X6_beginsWord
set_option maxRecDepth 20000 in
theorem ggX6_come_X6_sizeOf : GoodIn wsX6_come wsX6_sizeOf := goodIn_r _ [11, 12, 17, 18, 19, 20, 21, 22, 23, 24, 25, 26, 27, 28, 29, 30, 31, 32, 33] (by decide +kernel) (by decide +kernel)
set_option maxRecDepth 20000 in
theorem gX6_come_X6_sizeOf : GoodIn wsX6_come (wsV RX6 73 RX6 yX6_sizeOf wsX6_sizeOf) := goodIn_app (goodIn_of _ (by decide +kernel)) ggX6_come_X6_sizeOf
set_option maxRecDepth 20000 in
theorem ggX6_come_X6_isBefore : GoodIn wsX6_come wsX6_isBefore := goodIn_r _ [16, 3, 6, 17, 18, 19, 20, 21, 22, 23, 24, 25, 26, 27, 28, 29, 30, 31, 32, 33] (by decide +kernel) (by decide +kernel)
set_option maxRecDepth 20000 in
theorem gX6_come_X6_isBefore : GoodIn wsX6_come (wsV RX6 104 RX6 yX6_isBefore wsX6_isBefore) := goodIn_app (goodIn_of _ (by decide +kernel)) ggX6_come_X6_isBefore
set_option maxRecDepth 20000 in
theorem ggX6_findBest_X6_come : GoodIn wsX6_findBest wsX6_come := goodIn_r _ [11, 2, 12, 3, 4, 13, 14, 15, 16, 17, 10, 18, 19, 20, 21, 22, 23, 37, 38, 39, 40, 41, 42, 43, 44, 45, 46, 47, 48, 49, 50, 51, 52, 53] (by decide +kernel) (by decide +kernel)
set_option maxRecDepth 20000 in
theorem gX6_findBest_X6_come : GoodIn wsX6_findBest (wsV RX6 107 RX6 yX6_come wsX6_come) := goodIn_app (goodIn_of _ (by decide +kernel)) ggX6_findBest_X6_come
set_option maxRecDepth 20000 in
theorem ggX6_findBest_X6_fits : GoodIn wsX6_findBest wsX6_fits := goodIn_r _ [27, 1, 5, 15, 16, 17, 10, 18, 19, 28, 29, 30, 31, 32, 33, 34, 35, 36, 37, 38, 39, 40, 41, 42, 43, 44, 45, 46, 47, 48, 49, 50, 51, 52, 53] (by decide +kernel) (by decide +kernel)
set_option maxRecDepth 20000 in
theorem gX6_findBest_X6_fits : GoodIn wsX6_findBest (wsV RX6 111 RX6 yX6_fits wsX6_fits) := goodIn_app (goodIn_of _ (by decide +kernel)) ggX6_findBest_X6_fits
set_option maxRecDepth 20000 in
theorem ggX6_best_X6_findBest : GoodIn wsX6_best wsX6_findBest := goodIn_r _ [8, 3, 9, 2, 10, 11, 12, 13, 14, 15, 7, 16, 17, 18, 19, 20, 21, 22, 23, 24, 25, 26, 27, 28, 29, 30, 31, 32, 33, 34, 35, 36, 37, 38, 39, 40, 41, 42, 43, 44, 45, 46, 47, 48, 49, 50, 51, 52, 53, 54, 55, 56, 57, 58] (by decide +kernel) (by decide +kernel)
set_option maxRecDepth 20000 in
theorem gX6_best_X6_findBest : GoodIn wsX6_best (wsV RX6 115 RX6 yX6_findBest wsX6_findBest) := goodIn_app (goodIn_of _ (by decide +kernel)) ggX6_best_X6_findBest
set_option maxRecDepth 20000 in
theorem ggX6_bestAt_X6_findBest : GoodIn wsX6_bestAt wsX6_findBest := goodIn_r _ [9, 3, 10, 2, 11, 12, 13, 14, 15, 16, 8, 17, 18, 19, 4, 20, 21, 22, 23, 24, 25, 26, 27, 28, 29, 30, 31, 32, 33, 34, 35, 36, 37, 38, 39, 40, 41, 45, 46, 47, 48, 49, 50, 51, 52, 53, 54, 55, 56, 57, 58, 59, 60, 61] (by decide +kernel) (by decide +kernel)
set_option maxRecDepth 20000 in
theorem gX6_bestAt_X6_findBest : GoodIn wsX6_bestAt (wsV RX6 115 RX6 yX6_findBest wsX6_findBest) := goodIn_app (goodIn_of _ (by decide +kernel)) ggX6_bestAt_X6_findBest
set_option maxRecDepth 20000 in
theorem ggX6_bestAt_X6_in : GoodIn wsX6_bestAt wsX6_in := goodIn_r _ [44] (by decide +kernel) (by decide +kernel)
set_option maxRecDepth 20000 in
theorem gX6_bestAt_X6_in : GoodIn wsX6_bestAt (va_wsS RX6 53 yX6_in wsX6_in) := goodIn_app (goodIn_of _ (by decide +kernel)) ggX6_bestAt_X6_in
set_option maxRecDepth 20000 in
theorem ggX6_sum_X6_findBest : GoodIn wsX6_sum wsX6_findBest := goodIn_r _ [8, 3, 2, 9, 10, 11, 12, 13, 14, 15, 7, 16, 17, 18, 19, 20, 21, 22, 23, 24, 25, 26, 27, 28, 29, 30, 31, 32, 33, 34, 35, 36, 37, 38, 39, 40, 41, 42, 43, 44, 45, 46, 47, 48, 49, 50, 51, 52, 53, 54, 55, 56, 57, 58] (by decide +kernel) (by decide +kernel)
set_option maxRecDepth 20000 in
theorem gX6_sum_X6_findBest : GoodIn wsX6_sum (wsV RX6 115 RX6 yX6_findBest wsX6_findBest) := goodIn_app (goodIn_of _ (by decide +kernel)) ggX6_sum_X6_findBest
set_option maxRecDepth 20000 in
theorem ggX6_ways_X6_findBest : GoodIn wsX6_ways wsX6_findBest := goodIn_r _ [8, 3, 9, 10, 2, 11, 12, 13, 14, 15, 7, 16, 17, 18, 19, 20, 21, 22, 23, 24, 25, 26, 27, 28, 29, 30, 31, 32, 33, 34, 35, 36, 37, 38, 39, 40, 41, 42, 43, 44, 45, 46, 47, 48, 49, 50, 51, 52, 53, 54, 55, 56, 57, 58] (by decide +kernel) (by decide +kernel)
set_option maxRecDepth 20000 in
theorem gX6_ways_X6_findBest : GoodIn wsX6_ways (wsV RX6 115 RX6 yX6_findBest wsX6_findBest) := goodIn_app (goodIn_of _ (by decide +kernel)) ggX6_ways_X6_findBest
set_option maxRecDepth 20000 in
theorem ggL_decode_X5_decode : GoodIn wsL_decode wsX5_decode := goodIn_r _ [5, 6, 7, 8, 9, 10, 11, 12, 13, 14, 15, 16, 17, 18, 19, 20, 21, 22, 23, 24, 25, 26, 27, 28, 29, 30, 31, 32, 33, 34, 35, 36, 37, 38, 39, 40, 41, 42, 43, 44, 45, 46, 47, 48, 49] (by decide +kernel) (by decide +kernel)
set_option maxRecDepth 20000 in
theorem gL_decode_X5_decode : GoodIn wsL_decode (wsV RL 7 RX5 yX5_decode wsX5_decode) := goodIn_app (goodIn_of _ (by decide +kernel)) ggL_decode_X5_decode
