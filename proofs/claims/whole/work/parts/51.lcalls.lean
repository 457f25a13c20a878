set_option maxRecDepth 20000 in
theorem ggL_law_X5_init : GoodIn wsL_law wsX5_init := goodIn_r _ [9, 10, 11, 12, 13, 14, 15, 16, 17, 18, 19, 20, 21, 22, 23, 24, 25, 26, 27, 28, 29, 30, 31, 32, 33, 34, 35, 36, 37, 38, 39, 40, 41, 42, 43, 44, 45, 46, 47, 48, 49, 50, 51, 52, 53, 54, 55, 56, 57, 58, 59, 60, 61, 62, 63, 64, 65, 66, 67, 68, 69, 70, 71, 72, 73, 74, 75, 76, 77, 78, 79, 465, 466, 443, 444, 445, 446, 447, 467, 468, 469, 470, 471, 472, 473, 474, 475, 476, 477, 478, 479, 480, 481, 482, 483, 484, 485] (by decide +kernel) (by decide +kernel)
set_option maxRecDepth 20000 in
theorem gL_law_X5_init : GoodIn wsL_law (wsX5_init) := ggL_law_X5_init
set_option maxRecDepth 20000 in
theorem ggL_law_X6_init : GoodIn wsL_law wsX6_init := goodIn_r _ [82, 83, 11, 12, 37, 84, 85, 86, 87, 88, 89, 90, 91, 92, 93, 94, 95, 96, 448, 449, 450, 451, 452, 453, 454, 455, 456, 457, 458, 459, 460, 461, 462, 463, 464] (by decide +kernel) (by decide +kernel)
set_option maxRecDepth 20000 in
theorem gL_law_X6_init : GoodIn wsL_law (wsX6_init) := ggL_law_X6_init
set_option maxRecDepth 20000 in
theorem ggL_law_X5_octet : GoodIn wsL_law wsX5_octet := goodIn_r _ [100, 16, 101, 102, 103, 104, 15, 105, 39, 38, 443, 444, 445, 446, 447, 465, 466] (by decide +kernel) (by decide +kernel)
set_option maxRecDepth 20000 in
theorem gL_law_X5_octet : GoodIn wsL_law (wsV RL 19 RX5 yX5_octet wsX5_octet) := goodIn_app (goodIn_of _ (by decide +kernel)) ggL_law_X5_octet
set_option maxRecDepth 20000 in
theorem ggL_law_X6_octet : GoodIn wsL_law wsX6_octet := goodIn_r _ [109, 110, 111, 84, 112, 113, 5, 114, 448, 449, 450, 451, 452, 453, 454, 455, 456, 457, 458, 459, 460, 461, 462, 463, 464] (by decide +kernel) (by decide +kernel)
set_option maxRecDepth 20000 in
theorem gL_law_X6_octet : GoodIn wsL_law (wsV RL 23 RX6 yX6_octet wsX6_octet) := goodIn_app (goodIn_of _ (by decide +kernel)) ggL_law_X6_octet
set_option maxRecDepth 20000 in
theorem ggL_law_X5_cut : GoodIn wsL_law wsX5_cut := goodIn_r _ [118, 16, 101, 443, 444, 445, 446, 447, 465, 466] (by decide +kernel) (by decide +kernel)
set_option maxRecDepth 20000 in
theorem gL_law_X5_cut : GoodIn wsL_law (wsV RL 24 RX5 yX5_cut wsX5_cut) := goodIn_app (goodIn_of _ (by decide +kernel)) ggL_law_X5_cut
set_option maxRecDepth 20000 in
theorem ggL_law_X6_cut : GoodIn wsL_law wsX6_cut := goodIn_r _ [122, 110, 111, 112, 113, 5, 114, 448, 449, 450, 451, 452, 453, 454, 455, 456, 457, 458, 459, 460, 461, 462, 463, 464] (by decide +kernel) (by decide +kernel)
set_option maxRecDepth 20000 in
theorem gL_law_X6_cut : GoodIn wsL_law (wsV RL 27 RX6 yX6_cut wsX6_cut) := goodIn_app (goodIn_of _ (by decide +kernel)) ggL_law_X6_cut
set_option maxRecDepth 20000 in
theorem ggL_law_X5_byteAt : GoodIn wsL_law wsX5_byteAt := goodIn_r _ [126, 16, 101, 127, 443, 444, 445, 446, 447, 465, 466] (by decide +kernel) (by decide +kernel)
set_option maxRecDepth 20000 in
theorem gL_law_X5_byteAt : GoodIn wsL_law (wsV RL 28 RX5 yX5_byteAt wsX5_byteAt) := goodIn_app (goodIn_of _ (by decide +kernel)) ggL_law_X5_byteAt
set_option maxRecDepth 20000 in
theorem ggL_law_X6_byteAt : GoodIn wsL_law wsX6_byteAt := goodIn_r _ [131, 110, 111, 84, 112, 113, 5, 114, 448, 449, 450, 451, 452, 453, 454, 455, 456, 457, 458, 459, 460, 461, 462, 463, 464] (by decide +kernel) (by decide +kernel)
set_option maxRecDepth 20000 in
theorem gL_law_X6_byteAt : GoodIn wsL_law (wsV RL 31 RX6 yX6_byteAt wsX6_byteAt) := goodIn_app (goodIn_of _ (by decide +kernel)) ggL_law_X6_byteAt
set_option maxRecDepth 20000 in
theorem ggL_law_X5_words : GoodIn wsL_law wsX5_words := goodIn_r _ [135, 16, 101, 136, 137, 138, 15, 139, 39, 38, 443, 444, 445, 446, 447, 465, 466] (by decide +kernel) (by decide +kernel)
set_option maxRecDepth 20000 in
theorem gL_law_X5_words : GoodIn wsL_law (wsV RL 32 RX5 yX5_words wsX5_words) := goodIn_app (goodIn_of _ (by decide +kernel)) ggL_law_X5_words
set_option maxRecDepth 20000 in
theorem ggL_law_X6_words : GoodIn wsL_law wsX6_words := goodIn_r _ [143, 110, 111, 144, 145, 146, 5, 147, 84, 448, 449, 450, 451, 452, 453, 454, 455, 456, 457, 458, 459, 460, 461, 462, 463, 464] (by decide +kernel) (by decide +kernel)
set_option maxRecDepth 20000 in
theorem gL_law_X6_words : GoodIn wsL_law (wsV RL 36 RX6 yX6_words wsX6_words) := goodIn_app (goodIn_of _ (by decide +kernel)) ggL_law_X6_words
set_option maxRecDepth 20000 in
theorem ggL_law_X5_learn : GoodIn wsL_law wsX5_learn := goodIn_r _ [151, 20, 16, 24, 152, 153, 154, 155, 19, 156, 157, 50, 158, 159, 160, 161, 49, 162, 163, 164, 23, 165, 166, 62, 60, 167, 61, 64, 168, 137, 138, 15, 139, 39, 38, 169, 170, 171, 2, 172, 28, 173, 174, 175, 176, 177, 178, 27, 179, 70, 180, 181, 182, 183, 53, 54, 55, 184, 185, 186, 187, 188, 189, 190, 191, 69, 71, 192, 193, 194, 195, 196, 197, 198, 199, 200, 201, 202, 203, 44, 45, 46, 47, 51, 48, 204, 205, 206, 207, 208, 209, 210, 211, 212, 213, 214, 215, 216, 443, 444, 445, 446, 447, 467, 468, 469, 470, 471, 472, 473, 474, 465, 466, 475, 476, 477, 478, 479, 480, 481] (by decide +kernel) (by decide +kernel)
set_option maxRecDepth 20000 in
theorem gL_law_X5_learn : GoodIn wsL_law (wsV RL 37 RX5 yX5_learn wsX5_learn) := goodIn_app (goodIn_of _ (by decide +kernel)) ggL_law_X5_learn
set_option maxRecDepth 20000 in
theorem ggL_law_X6_learn : GoodIn wsL_law wsX6_learn := goodIn_r _ [220, 110, 221, 222, 91, 112, 113, 5, 114, 223, 224, 225, 226, 111, 84, 92, 227, 228, 229, 230, 144, 145, 146, 147, 231, 232, 233, 234, 235, 236, 237, 238, 85, 86, 87, 88, 89, 90, 239, 240, 241, 242, 243, 244, 245, 246, 247, 248, 249, 250, 448, 449, 450, 451, 452, 453, 454, 455, 456, 457, 458, 459, 460, 461, 462, 463, 464] (by decide +kernel) (by decide +kernel)
set_option maxRecDepth 20000 in
theorem gL_law_X6_learn : GoodIn wsL_law (wsV RL 40 RX6 yX6_learn wsX6_learn) := goodIn_app (goodIn_of _ (by decide +kernel)) ggL_law_X6_learn
set_option maxRecDepth 20000 in
theorem ggL_law_X5_pair : GoodIn wsL_law wsX5_pair := goodIn_r _ [254, 20, 255, 256, 257, 209, 210, 19, 211, 49, 443, 444, 445, 446, 447, 467, 468, 469, 470, 471, 472, 473, 474] (by decide +kernel) (by decide +kernel)
set_option maxRecDepth 20000 in
theorem gL_law_X5_pair : GoodIn wsL_law (wsV RL 41 RX5 yX5_pair wsX5_pair) := goodIn_app (goodIn_of _ (by decide +kernel)) ggL_law_X5_pair
set_option maxRecDepth 20000 in
theorem ggL_law_X6_pair : GoodIn wsL_law wsX6_pair := goodIn_r _ [261, 110, 85, 86, 262, 263, 264, 5, 265, 221, 112, 113, 114, 448, 449, 450, 451, 452, 453, 454, 455, 456, 457, 458, 459, 460, 461, 462, 463, 464] (by decide +kernel) (by decide +kernel)
set_option maxRecDepth 20000 in
theorem gL_law_X6_pair : GoodIn wsL_law (wsV RL 44 RX6 yX6_pair wsX6_pair) := goodIn_app (goodIn_of _ (by decide +kernel)) ggL_law_X6_pair
set_option maxRecDepth 20000 in
theorem ggL_law_X5_count : GoodIn wsL_law wsX5_count := goodIn_r _ [269, 20, 270, 257, 209, 210, 19, 211, 49, 443, 444, 445, 446, 447, 467, 468, 469, 470, 471, 472, 473, 474] (by decide +kernel) (by decide +kernel)
set_option maxRecDepth 20000 in
theorem gL_law_X5_count : GoodIn wsL_law (wsV RL 45 RX5 yX5_count wsX5_count) := goodIn_app (goodIn_of _ (by decide +kernel)) ggL_law_X5_count
set_option maxRecDepth 20000 in
theorem ggL_law_X6_count : GoodIn wsL_law wsX6_count := goodIn_r _ [274, 110, 87, 262, 263, 264, 5, 265, 221, 112, 113, 114, 448, 449, 450, 451, 452, 453, 454, 455, 456, 457, 458, 459, 460, 461, 462, 463, 464] (by decide +kernel) (by decide +kernel)
set_option maxRecDepth 20000 in
theorem gL_law_X6_count : GoodIn wsL_law (wsV RL 48 RX6 yX6_count wsX6_count) := goodIn_app (goodIn_of _ (by decide +kernel)) ggL_law_X6_count
set_option maxRecDepth 20000 in
theorem ggL_law_X5_size : GoodIn wsL_law wsX5_size := goodIn_r _ [278, 20, 279, 280, 281, 19, 282, 49, 283, 205, 206, 207, 47, 208, 209, 210, 211, 443, 444, 445, 446, 447, 467, 468, 469, 470, 471, 472, 473, 474] (by decide +kernel) (by decide +kernel)
set_option maxRecDepth 20000 in
theorem gL_law_X5_size : GoodIn wsL_law (wsV RL 49 RX5 yX5_size wsX5_size) := goodIn_app (goodIn_of _ (by decide +kernel)) ggL_law_X5_size
set_option maxRecDepth 20000 in
theorem ggL_law_X6_size : GoodIn wsL_law wsX6_size := goodIn_r _ [287, 110, 288, 289, 290, 5, 291, 221, 112, 113, 114, 239, 240, 241, 242, 88, 448, 449, 450, 451, 452, 453, 454, 455, 456, 457, 458, 459, 460, 461, 462, 463, 464] (by decide +kernel) (by decide +kernel)
set_option maxRecDepth 20000 in
theorem gL_law_X6_size : GoodIn wsL_law (wsV RL 52 RX6 yX6_size wsX6_size) := goodIn_app (goodIn_of _ (by decide +kernel)) ggL_law_X6_size
set_option maxRecDepth 20000 in
theorem ggL_law_L_decode : GoodIn wsL_law wsL_decode := goodIn_r _ [295, 296, 297, 298, 2, 299, 20, 300, 301, 302, 279, 280, 281, 19, 282, 49, 283, 205, 206, 207, 47, 208, 209, 210, 211, 303, 304, 305, 306, 51, 50, 443, 444, 445, 446, 447, 486, 487, 488, 489, 490, 491, 467, 468, 469, 470, 471, 472, 473, 474] (by decide +kernel) (by decide +kernel)
set_option maxRecDepth 20000 in
theorem gL_law_L_decode : GoodIn wsL_law (va_wsS RL 53 yL_decode wsL_decode) := goodIn_app (goodIn_of _ (by decide +kernel)) ggL_law_L_decode
set_option maxRecDepth 20000 in
theorem ggL_law_X6_decode : GoodIn wsL_law wsX6_decode := goodIn_r _ [310, 110, 288, 289, 290, 5, 291, 221, 112, 113, 114, 239, 240, 241, 242, 88, 243, 244, 245, 246, 89, 448, 449, 450, 451, 452, 453, 454, 455, 456, 457, 458, 459, 460, 461, 462, 463, 464] (by decide +kernel) (by decide +kernel)
set_option maxRecDepth 20000 in
theorem gL_law_X6_decode : GoodIn wsL_law (wsV RL 58 RX6 yX6_decode wsX6_decode) := goodIn_app (goodIn_of _ (by decide +kernel)) ggL_law_X6_decode
set_option maxRecDepth 20000 in
theorem ggL_law_X6_thrown : GoodIn wsL_law wsX6_thrown := goodIn_r _ [314, 110, 448, 449, 450, 451, 452, 453, 454, 455, 456, 457, 458, 459, 460, 461, 462, 463, 464] (by decide +kernel) (by decide +kernel)
set_option maxRecDepth 20000 in
theorem gL_law_X6_thrown : GoodIn wsL_law (wsV RL 59 RX6 yX6_thrown wsX6_thrown) := goodIn_app (goodIn_of _ (by decide +kernel)) ggL_law_X6_thrown
set_option maxRecDepth 20000 in
theorem ggL_law_X5_tokens : GoodIn wsL_law wsX5_tokens := goodIn_r _ [318, 24, 319, 320, 321, 322, 2, 323, 16, 20, 152, 255, 256, 162, 163, 164, 23, 165, 166, 62, 60, 167, 61, 64, 168, 137, 138, 15, 139, 39, 38, 212, 213, 214, 215, 216, 185, 186, 187, 443, 444, 445, 446, 447, 475, 476, 477, 478, 467, 468, 469, 470, 471, 472, 473, 474, 465, 466] (by decide +kernel) (by decide +kernel)
set_option maxRecDepth 20000 in
theorem gL_law_X5_tokens : GoodIn wsL_law (wsV RL 62 RX5 yX5_tokens wsX5_tokens) := goodIn_app (goodIn_of _ (by decide +kernel)) ggL_law_X5_tokens
set_option maxRecDepth 20000 in
theorem ggL_law_X6_tokens : GoodIn wsL_law wsX6_tokens := goodIn_r _ [327, 110, 222, 328, 329, 330, 5, 331, 221, 85, 86, 223, 224, 225, 226, 111, 91, 84, 92, 247, 248, 249, 250, 227, 228, 229, 230, 144, 145, 146, 147, 448, 449, 450, 451, 452, 453, 454, 455, 456, 457, 458, 459, 460, 461, 462, 463, 464] (by decide +kernel) (by decide +kernel)
set_option maxRecDepth 20000 in
theorem gL_law_X6_tokens : GoodIn wsL_law (wsV RL 65 RX6 yX6_tokens wsX6_tokens) := goodIn_app (goodIn_of _ (by decide +kernel)) ggL_law_X6_tokens
set_option maxRecDepth 20000 in
theorem ggL_law_X5_at : GoodIn wsL_law wsX5_at := goodIn_r _ [335, 24, 319, 336, 320, 321, 322, 2, 323, 16, 20, 152, 255, 256, 162, 163, 164, 23, 165, 166, 62, 60, 167, 61, 64, 168, 137, 138, 15, 139, 39, 38, 212, 213, 214, 215, 216, 185, 186, 187, 443, 444, 445, 446, 447, 475, 476, 477, 478, 467, 468, 469, 470, 471, 472, 473, 474, 465, 466] (by decide +kernel) (by decide +kernel)
set_option maxRecDepth 20000 in
theorem gL_law_X5_at : GoodIn wsL_law (wsV RL 66 RX5 yX5_at wsX5_at) := goodIn_app (goodIn_of _ (by decide +kernel)) ggL_law_X5_at
set_option maxRecDepth 20000 in
theorem ggL_law_X6_at : GoodIn wsL_law wsX6_at := goodIn_r _ [340, 110, 222, 91, 328, 329, 330, 5, 331, 221, 85, 86, 223, 224, 225, 226, 111, 84, 92, 247, 248, 249, 250, 227, 228, 229, 230, 144, 145, 146, 147, 112, 113, 114, 448, 449, 450, 451, 452, 453, 454, 455, 456, 457, 458, 459, 460, 461, 462, 463, 464] (by decide +kernel) (by decide +kernel)
set_option maxRecDepth 20000 in
theorem gL_law_X6_at : GoodIn wsL_law (wsV RL 69 RX6 yX6_at wsX6_at) := goodIn_app (goodIn_of _ (by decide +kernel)) ggL_law_X6_at
set_option maxRecDepth 20000 in
theorem ggL_law_X5_from : GoodIn wsL_law wsX5_from := goodIn_r _ [344, 24, 319, 345, 320, 321, 322, 2, 323, 16, 20, 152, 255, 256, 162, 163, 164, 23, 165, 166, 62, 60, 167, 61, 64, 168, 137, 138, 15, 139, 39, 38, 212, 213, 214, 215, 216, 185, 186, 187, 443, 444, 445, 446, 447, 475, 476, 477, 478, 467, 468, 469, 470, 471, 472, 473, 474, 465, 466] (by decide +kernel) (by decide +kernel)
set_option maxRecDepth 20000 in
theorem gL_law_X5_from : GoodIn wsL_law (wsV RL 70 RX5 yX5_from wsX5_from) := goodIn_app (goodIn_of _ (by decide +kernel)) ggL_law_X5_from
set_option maxRecDepth 20000 in
theorem ggL_law_X6_from : GoodIn wsL_law wsX6_from := goodIn_r _ [349, 110, 222, 92, 328, 329, 330, 5, 331, 221, 85, 86, 223, 224, 225, 226, 111, 91, 84, 247, 248, 249, 250, 227, 228, 229, 230, 144, 145, 146, 147, 112, 113, 114, 448, 449, 450, 451, 452, 453, 454, 455, 456, 457, 458, 459, 460, 461, 462, 463, 464] (by decide +kernel) (by decide +kernel)
set_option maxRecDepth 20000 in
theorem gL_law_X6_from : GoodIn wsL_law (wsV RL 73 RX6 yX6_from wsX6_from) := goodIn_app (goodIn_of _ (by decide +kernel)) ggL_law_X6_from
set_option maxRecDepth 20000 in
theorem ggL_law_X5_points : GoodIn wsL_law wsX5_points := goodIn_r _ [353, 20, 354, 279, 280, 281, 19, 282, 49, 443, 444, 445, 446, 447, 467, 468, 469, 470, 471, 472, 473, 474] (by decide +kernel) (by decide +kernel)
set_option maxRecDepth 20000 in
theorem gL_law_X5_points : GoodIn wsL_law (wsV RL 74 RX5 yX5_points wsX5_points) := goodIn_app (goodIn_of _ (by decide +kernel)) ggL_law_X5_points
set_option maxRecDepth 20000 in
theorem ggL_law_X6_points : GoodIn wsL_law wsX6_points := goodIn_r _ [358, 110, 90, 288, 289, 290, 5, 291, 221, 112, 113, 114, 448, 449, 450, 451, 452, 453, 454, 455, 456, 457, 458, 459, 460, 461, 462, 463, 464] (by decide +kernel) (by decide +kernel)
set_option maxRecDepth 20000 in
theorem gL_law_X6_points : GoodIn wsL_law (wsV RL 77 RX6 yX6_points wsX6_points) := goodIn_app (goodIn_of _ (by decide +kernel)) ggL_law_X6_points
set_option maxRecDepth 20000 in
theorem ggL_law_X5_best : GoodIn wsL_law wsX5_best := goodIn_r _ [362, 32, 16, 20, 363, 364, 365, 366, 31, 367, 368, 76, 77, 78, 369, 370, 371, 372, 373, 374, 375, 79, 376, 377, 378, 19, 379, 380, 157, 204, 205, 206, 207, 47, 208, 209, 210, 211, 49, 381, 304, 305, 306, 51, 50, 382, 383, 384, 385, 386, 387, 388, 389, 390, 391, 443, 444, 445, 446, 447, 482, 483, 484, 485, 465, 466, 467, 468, 469, 470, 471, 472, 473, 474] (by decide +kernel) (by decide +kernel)
set_option maxRecDepth 20000 in
theorem gL_law_X5_best : GoodIn wsL_law (wsV RL 78 RX5 yX5_best wsX5_best) := goodIn_app (goodIn_of _ (by decide +kernel)) ggL_law_X5_best
set_option maxRecDepth 20000 in
theorem ggL_law_X6_best : GoodIn wsL_law wsX6_best := goodIn_r _ [395, 110, 94, 111, 396, 397, 398, 5, 399, 93, 96, 84, 221, 400, 401, 402, 403, 90, 404, 95, 239, 240, 241, 242, 88, 405, 406, 407, 408, 409, 410, 411, 412, 243, 244, 245, 246, 89, 144, 145, 146, 147, 448, 449, 450, 451, 452, 453, 454, 455, 456, 457, 458, 459, 460, 461, 462, 463, 464] (by decide +kernel) (by decide +kernel)
set_option maxRecDepth 20000 in
theorem gL_law_X6_best : GoodIn wsL_law (wsV RL 81 RX6 yX6_best wsX6_best) := goodIn_app (goodIn_of _ (by decide +kernel)) ggL_law_X6_best
set_option maxRecDepth 20000 in
theorem ggL_law_X5_bestAt : GoodIn wsL_law wsX5_bestAt := goodIn_r _ [416, 32, 16, 20, 363, 364, 365, 366, 31, 367, 368, 76, 77, 78, 369, 370, 371, 372, 373, 374, 375, 79, 376, 377, 378, 19, 379, 380, 157, 204, 205, 206, 207, 47, 208, 209, 210, 211, 49, 381, 304, 305, 306, 51, 50, 382, 383, 384, 385, 386, 387, 388, 389, 390, 391, 417, 418, 419, 420, 443, 444, 445, 446, 447, 482, 483, 484, 485, 465, 466, 467, 468, 469, 470, 471, 472, 473, 474] (by decide +kernel) (by decide +kernel)
set_option maxRecDepth 20000 in
theorem gL_law_X5_bestAt : GoodIn wsL_law (wsV RL 82 RX5 yX5_bestAt wsX5_bestAt) := goodIn_app (goodIn_of _ (by decide +kernel)) ggL_law_X5_bestAt
set_option maxRecDepth 20000 in
theorem ggL_law_X6_bestAt : GoodIn wsL_law wsX6_bestAt := goodIn_r _ [424, 110, 94, 111, 95, 396, 397, 398, 5, 399, 93, 96, 84, 221, 400, 401, 402, 403, 90, 404, 239, 240, 241, 242, 88, 405, 406, 407, 408, 409, 410, 411, 412, 243, 244, 245, 246, 89, 144, 145, 146, 147, 112, 113, 114, 448, 449, 450, 451, 452, 453, 454, 455, 456, 457, 458, 459, 460, 461, 462, 463, 464] (by decide +kernel) (by decide +kernel)
set_option maxRecDepth 20000 in
theorem gL_law_X6_bestAt : GoodIn wsL_law (wsV RL 85 RX6 yX6_bestAt wsX6_bestAt) := goodIn_app (goodIn_of _ (by decide +kernel)) ggL_law_X6_bestAt
set_option maxRecDepth 20000 in
theorem ggL_law_X5_sum : GoodIn wsL_law wsX5_sum := goodIn_r _ [428, 32, 16, 20, 429, 364, 365, 366, 31, 367, 368, 76, 77, 78, 369, 370, 371, 372, 373, 374, 375, 79, 376, 377, 378, 19, 379, 380, 157, 204, 205, 206, 207, 47, 208, 209, 210, 211, 49, 381, 304, 305, 306, 51, 50, 382, 383, 384, 385, 386, 387, 388, 389, 390, 391, 443, 444, 445, 446, 447, 482, 483, 484, 485, 465, 466, 467, 468, 469, 470, 471, 472, 473, 474] (by decide +kernel) (by decide +kernel)
set_option maxRecDepth 20000 in
theorem gL_law_X5_sum : GoodIn wsL_law (wsV RL 86 RX5 yX5_sum wsX5_sum) := goodIn_app (goodIn_of _ (by decide +kernel)) ggL_law_X5_sum
set_option maxRecDepth 20000 in
theorem ggL_law_X6_sum : GoodIn wsL_law wsX6_sum := goodIn_r _ [433, 110, 93, 111, 396, 397, 398, 5, 399, 94, 96, 84, 221, 400, 401, 402, 403, 90, 404, 95, 239, 240, 241, 242, 88, 405, 406, 407, 408, 409, 410, 411, 412, 243, 244, 245, 246, 89, 144, 145, 146, 147, 448, 449, 450, 451, 452, 453, 454, 455, 456, 457, 458, 459, 460, 461, 462, 463, 464] (by decide +kernel) (by decide +kernel)
set_option maxRecDepth 20000 in
theorem gL_law_X6_sum : GoodIn wsL_law (wsV RL 89 RX6 yX6_sum wsX6_sum) := goodIn_app (goodIn_of _ (by decide +kernel)) ggL_law_X6_sum
set_option maxRecDepth 20000 in
theorem ggL_law_X5_ways : GoodIn wsL_law wsX5_ways := goodIn_r _ [437, 32, 16, 20, 438, 364, 365, 366, 31, 367, 368, 76, 77, 78, 369, 370, 371, 372, 373, 374, 375, 79, 376, 377, 378, 19, 379, 380, 157, 204, 205, 206, 207, 47, 208, 209, 210, 211, 49, 381, 304, 305, 306, 51, 50, 382, 383, 384, 385, 386, 387, 388, 389, 390, 391, 443, 444, 445, 446, 447, 482, 483, 484, 485, 465, 466, 467, 468, 469, 470, 471, 472, 473, 474] (by decide +kernel) (by decide +kernel)
set_option maxRecDepth 20000 in
theorem gL_law_X5_ways : GoodIn wsL_law (wsV RL 90 RX5 yX5_ways wsX5_ways) := goodIn_app (goodIn_of _ (by decide +kernel)) ggL_law_X5_ways
set_option maxRecDepth 20000 in
theorem ggL_law_X6_ways : GoodIn wsL_law wsX6_ways := goodIn_r _ [442, 110, 96, 111, 396, 397, 398, 5, 399, 93, 94, 84, 221, 400, 401, 402, 403, 90, 404, 95, 239, 240, 241, 242, 88, 405, 406, 407, 408, 409, 410, 411, 412, 243, 244, 245, 246, 89, 144, 145, 146, 147, 448, 449, 450, 451, 452, 453, 454, 455, 456, 457, 458, 459, 460, 461, 462, 463, 464] (by decide +kernel) (by decide +kernel)
set_option maxRecDepth 20000 in
theorem gL_law_X6_ways : GoodIn wsL_law (wsV RL 93 RX6 yX6_ways wsX6_ways) := goodIn_app (goodIn_of _ (by decide +kernel)) ggL_law_X6_ways
