set_option maxRecDepth 20000 in
theorem ggL_law_X5_init : GoodIn wsL_law wsX5_init := goodIn_r _ [8, 9, 10, 11, 12, 13, 14, 15, 16, 17, 18, 19, 20, 21, 22, 23, 24, 25, 26, 27, 28, 29, 30, 31, 32, 33, 34, 35, 36, 37, 38, 39, 40, 41, 42, 43, 44, 45, 46, 47, 48, 49, 50, 51, 52, 53, 54, 55, 56, 57, 58, 59, 60, 61, 62, 63, 64, 65, 66, 67, 68, 69, 495, 496, 497, 498, 499, 500, 501, 468, 469, 470, 471, 472, 473, 474, 502, 503, 504, 505, 506, 507, 508, 509, 510, 511, 512, 513, 514, 515, 516, 517, 518] (by decide +kernel) (by decide +kernel)
set_option maxRecDepth 20000 in
theorem gL_law_X5_init : GoodIn wsL_law (wsX5_init) := ggL_law_X5_init
set_option maxRecDepth 20000 in
theorem ggL_law_X6_init : GoodIn wsL_law wsX6_init := goodIn_r _ [72, 73, 10, 11, 37, 74, 75, 76, 77, 78, 79, 80, 81, 82, 83, 84, 85, 86, 87, 88, 89, 90, 475, 476, 477, 478, 479, 480, 481, 482, 483, 484, 485, 486, 487, 488, 489, 490, 491, 492, 493, 494] (by decide +kernel) (by decide +kernel)
set_option maxRecDepth 20000 in
theorem gL_law_X6_init : GoodIn wsL_law (wsX6_init) := ggL_law_X6_init
set_option maxRecDepth 20000 in
theorem ggL_law_X5_leaf : GoodIn wsL_law wsX5_leaf := goodIn_r _ [94, 15, 95, 33, 96, 97, 2, 98, 99, 100, 101, 102, 103, 104, 14, 105, 106, 38, 39, 40, 468, 469, 470, 471, 472, 473, 474, 495, 496, 497, 498, 499, 500, 501] (by decide +kernel) (by decide +kernel)
set_option maxRecDepth 20000 in
theorem gL_law_X5_leaf : GoodIn wsL_law (wsV RL 13 RX5 yX5_leaf wsX5_leaf) := goodIn_app (goodIn_of _ (by decide +kernel)) ggL_law_X5_leaf
set_option maxRecDepth 20000 in
theorem ggL_law_X6_leaf : GoodIn wsL_law wsX6_leaf := goodIn_r _ [110, 111, 74, 75, 76, 112, 113, 5, 114, 475, 476, 477, 478, 479, 480, 481, 482, 483, 484, 485, 486, 487, 488, 489, 490, 491, 492, 493, 494] (by decide +kernel) (by decide +kernel)
set_option maxRecDepth 20000 in
theorem gL_law_X6_leaf : GoodIn wsL_law (wsV RL 17 RX6 yX6_leaf wsX6_leaf) := goodIn_app (goodIn_of _ (by decide +kernel)) ggL_law_X6_leaf
set_option maxRecDepth 20000 in
theorem ggL_law_X5_catchword : GoodIn wsL_law wsX5_catchword := goodIn_r _ [118, 15, 119, 33, 120, 121, 122, 14, 123, 124, 125, 126, 127, 106, 100, 2, 101, 96, 97, 98, 99, 468, 469, 470, 471, 472, 473, 474, 495, 496, 497, 498, 499, 500, 501] (by decide +kernel) (by decide +kernel)
set_option maxRecDepth 20000 in
theorem gL_law_X5_catchword : GoodIn wsL_law (wsV RL 18 RX5 yX5_catchword wsX5_catchword) := goodIn_app (goodIn_of _ (by decide +kernel)) ggL_law_X5_catchword
set_option maxRecDepth 20000 in
theorem ggL_law_X6_catchword : GoodIn wsL_law wsX6_catchword := goodIn_r _ [131, 76, 132, 133, 134, 5, 135, 111, 112, 113, 114, 475, 476, 477, 478, 479, 480, 481, 482, 483, 484, 485, 486, 487, 488, 489, 490, 491, 492, 493, 494] (by decide +kernel) (by decide +kernel)
set_option maxRecDepth 20000 in
theorem gL_law_X6_catchword : GoodIn wsL_law (wsV RL 22 RX6 yX6_catchword wsX6_catchword) := goodIn_app (goodIn_of _ (by decide +kernel)) ggL_law_X6_catchword
set_option maxRecDepth 20000 in
theorem ggL_law_X5_cut : GoodIn wsL_law wsX5_cut := goodIn_r _ [139, 15, 140, 141, 33, 120, 121, 122, 14, 123, 124, 125, 126, 127, 106, 100, 2, 101, 96, 97, 98, 99, 468, 469, 470, 471, 472, 473, 474, 495, 496, 497, 498, 499, 500, 501] (by decide +kernel) (by decide +kernel)
set_option maxRecDepth 20000 in
theorem gL_law_X5_cut : GoodIn wsL_law (wsV RL 23 RX5 yX5_cut wsX5_cut) := goodIn_app (goodIn_of _ (by decide +kernel)) ggL_law_X5_cut
set_option maxRecDepth 20000 in
theorem ggL_law_X6_cut : GoodIn wsL_law wsX6_cut := goodIn_r _ [145, 77, 78, 132, 133, 134, 5, 135, 111, 112, 113, 114, 475, 476, 477, 478, 479, 480, 481, 482, 483, 484, 485, 486, 487, 488, 489, 490, 491, 492, 493, 494] (by decide +kernel) (by decide +kernel)
set_option maxRecDepth 20000 in
theorem gL_law_X6_cut : GoodIn wsL_law (wsV RL 27 RX6 yX6_cut wsX6_cut) := goodIn_app (goodIn_of _ (by decide +kernel)) ggL_law_X6_cut
set_option maxRecDepth 20000 in
theorem ggL_law_X5_stain : GoodIn wsL_law wsX5_stain := goodIn_r _ [149, 15, 150, 33, 151, 125, 126, 14, 127, 106, 99, 100, 2, 101, 96, 97, 98, 468, 469, 470, 471, 472, 473, 474, 495, 496, 497, 498, 499, 500, 501] (by decide +kernel) (by decide +kernel)
set_option maxRecDepth 20000 in
theorem gL_law_X5_stain : GoodIn wsL_law (wsV RL 28 RX5 yX5_stain wsX5_stain) := goodIn_app (goodIn_of _ (by decide +kernel)) ggL_law_X5_stain
set_option maxRecDepth 20000 in
theorem ggL_law_X6_stain : GoodIn wsL_law wsX6_stain := goodIn_r _ [155, 79, 132, 133, 134, 5, 135, 111, 112, 113, 114, 475, 476, 477, 478, 479, 480, 481, 482, 483, 484, 485, 486, 487, 488, 489, 490, 491, 492, 493, 494] (by decide +kernel) (by decide +kernel)
set_option maxRecDepth 20000 in
theorem gL_law_X6_stain : GoodIn wsL_law (wsV RL 31 RX6 yX6_stain wsX6_stain) := goodIn_app (goodIn_of _ (by decide +kernel)) ggL_law_X6_stain
set_option maxRecDepth 20000 in
theorem ggL_law_X5_weights : GoodIn wsL_law wsX5_weights := goodIn_r _ [159, 19, 160, 33, 99, 100, 2, 101, 468, 469, 470, 471, 472, 473, 474, 502, 503] (by decide +kernel) (by decide +kernel)
set_option maxRecDepth 20000 in
theorem gL_law_X5_weights : GoodIn wsL_law (wsV RL 32 RX5 yX5_weights wsX5_weights) := goodIn_app (goodIn_of _ (by decide +kernel)) ggL_law_X5_weights
set_option maxRecDepth 20000 in
theorem ggL_law_X6_weights : GoodIn wsL_law wsX6_weights := goodIn_r _ [164, 80, 112, 113, 5, 114, 475, 476, 477, 478, 479, 480, 481, 482, 483, 484, 485, 486, 487, 488, 489, 490, 491, 492, 493, 494] (by decide +kernel) (by decide +kernel)
set_option maxRecDepth 20000 in
theorem gL_law_X6_weights : GoodIn wsL_law (wsV RL 36 RX6 yX6_weights wsX6_weights) := goodIn_app (goodIn_of _ (by decide +kernel)) ggL_law_X6_weights
set_option maxRecDepth 20000 in
theorem ggL_law_X5_turnable : GoodIn wsL_law wsX5_turnable := goodIn_r _ [168, 32, 33, 468, 469, 470, 471, 472, 473, 474] (by decide +kernel) (by decide +kernel)
set_option maxRecDepth 20000 in
theorem gL_law_X5_turnable : GoodIn wsL_law (wsV RL 37 RX5 yX5_turnable wsX5_turnable) := goodIn_app (goodIn_of _ (by decide +kernel)) ggL_law_X5_turnable
set_option maxRecDepth 20000 in
theorem ggL_law_X6_turnable : GoodIn wsL_law wsX6_turnable := goodIn_r _ [172, 81, 475, 476, 477, 478, 479, 480, 481, 482, 483, 484, 485, 486, 487, 488, 489, 490, 491, 492, 493, 494] (by decide +kernel) (by decide +kernel)
set_option maxRecDepth 20000 in
theorem gL_law_X6_turnable : GoodIn wsL_law (wsV RL 41 RX6 yX6_turnable wsX6_turnable) := goodIn_app (goodIn_of _ (by decide +kernel)) ggL_law_X6_turnable
set_option maxRecDepth 20000 in
theorem ggL_law_X5_must : GoodIn wsL_law wsX5_must := goodIn_r _ [176, 23, 33, 177, 178, 179, 2, 180, 15, 151, 125, 126, 14, 127, 106, 181, 182, 183, 22, 184, 54, 55, 185, 186, 187, 188, 189, 190, 191, 53, 468, 469, 470, 471, 472, 473, 474, 495, 496, 497, 498, 499, 500, 501, 504, 505, 506] (by decide +kernel) (by decide +kernel)
set_option maxRecDepth 20000 in
theorem gL_law_X5_must : GoodIn wsL_law (wsV RL 42 RX5 yX5_must wsX5_must) := goodIn_app (goodIn_of _ (by decide +kernel)) ggL_law_X5_must
set_option maxRecDepth 20000 in
theorem ggL_law_X6_must : GoodIn wsL_law wsX6_must := goodIn_r _ [195, 84, 83, 132, 133, 134, 5, 135, 111, 112, 113, 114, 475, 476, 477, 478, 479, 480, 481, 482, 483, 484, 485, 486, 487, 488, 489, 490, 491, 492, 493, 494] (by decide +kernel) (by decide +kernel)
set_option maxRecDepth 20000 in
theorem gL_law_X6_must : GoodIn wsL_law (wsV RL 46 RX6 yX6_must wsX6_must) := goodIn_app (goodIn_of _ (by decide +kernel)) ggL_law_X6_must
set_option maxRecDepth 20000 in
theorem ggL_law_X5_join : GoodIn wsL_law wsX5_join := goodIn_r _ [199, 32, 19, 177, 178, 179, 2, 180, 15, 151, 125, 126, 14, 127, 106, 200, 201, 202, 203, 204, 205, 18, 206, 48, 207, 208, 209, 210, 49, 211, 212, 213, 214, 215, 216, 217, 218, 219, 220, 221, 222, 223, 43, 224, 225, 226, 227, 228, 468, 469, 470, 471, 472, 473, 474, 495, 496, 497, 498, 499, 500, 501, 502, 503] (by decide +kernel) (by decide +kernel)
set_option maxRecDepth 20000 in
theorem gL_law_X5_join : GoodIn wsL_law (wsV RL 47 RX5 yX5_join wsX5_join) := goodIn_app (goodIn_of _ (by decide +kernel)) ggL_law_X5_join
set_option maxRecDepth 20000 in
theorem ggL_law_X6_join : GoodIn wsL_law wsX6_join := goodIn_r _ [232, 81, 132, 133, 134, 5, 135, 111, 112, 113, 114, 233, 234, 235, 236, 80, 237, 238, 239, 240, 241, 242, 243, 244, 75, 74, 76, 78, 77, 79, 245, 246, 247, 475, 476, 477, 478, 479, 480, 481, 482, 483, 484, 485, 486, 487, 488, 489, 490, 491, 492, 493, 494] (by decide +kernel) (by decide +kernel)
set_option maxRecDepth 20000 in
theorem gL_law_X6_join : GoodIn wsL_law (wsV RL 51 RX6 yX6_join wsX6_join) := goodIn_app (goodIn_of _ (by decide +kernel)) ggL_law_X6_join
set_option maxRecDepth 20000 in
theorem ggL_law_X5_best : GoodIn wsL_law wsX5_best := goodIn_r _ [251, 27, 252, 253, 254, 255, 2, 256, 33, 19, 32, 31, 257, 258, 259, 26, 260, 261, 262, 263, 264, 265, 266, 60, 267, 204, 205, 18, 206, 48, 207, 208, 209, 210, 49, 211, 212, 213, 214, 215, 216, 217, 218, 219, 220, 221, 222, 14, 223, 43, 224, 225, 226, 227, 228, 268, 269, 270, 271, 62, 272, 273, 274, 275, 276, 277, 64, 278, 279, 280, 281, 282, 283, 284, 22, 285, 55, 286, 287, 288, 289, 290, 291, 292, 293, 294, 295, 296, 297, 298, 299, 61, 300, 301, 302, 303, 53, 54, 304, 305, 306, 307, 308, 309, 310, 311, 312, 313, 314, 315, 63, 316, 317, 318, 319, 320, 321, 322, 323, 324, 325, 326, 30, 327, 328, 329, 330, 69, 331, 332, 333, 334, 335, 336, 337, 338, 339, 340, 468, 469, 470, 471, 472, 473, 474, 507, 508, 509, 510, 511, 512, 513, 514, 515, 502, 503, 495, 496, 497, 498, 499, 500, 501, 504, 505, 506, 516, 517, 518] (by decide +kernel) (by decide +kernel)
set_option maxRecDepth 20000 in
theorem gL_law_X5_best : GoodIn wsL_law (wsV RL 52 RX5 yX5_best wsX5_best) := goodIn_app (goodIn_of _ (by decide +kernel)) ggL_law_X5_best
set_option maxRecDepth 20000 in
theorem ggL_law_X6_best : GoodIn wsL_law wsX6_best := goodIn_r _ [344, 345, 346, 347, 348, 5, 349, 111, 81, 85, 350, 86, 80, 351, 352, 353, 354, 355, 356, 357, 358, 359, 360, 361, 362, 83, 84, 87, 88, 233, 234, 235, 236, 237, 238, 239, 240, 241, 242, 243, 244, 75, 74, 76, 78, 77, 79, 245, 246, 247, 363, 364, 365, 366, 367, 368, 369, 370, 371, 372, 373, 374, 375, 376, 377, 378, 379, 475, 476, 477, 478, 479, 480, 481, 482, 483, 484, 485, 486, 487, 488, 489, 490, 491, 492, 493, 494] (by decide +kernel) (by decide +kernel)
set_option maxRecDepth 20000 in
theorem gL_law_X6_best : GoodIn wsL_law (wsV RL 56 RX6 yX6_best wsX6_best) := goodIn_app (goodIn_of _ (by decide +kernel)) ggL_law_X6_best
set_option maxRecDepth 20000 in
theorem ggL_law_X5_at : GoodIn wsL_law wsX5_at := goodIn_r _ [383, 27, 252, 340, 15, 95, 384, 19, 253, 254, 255, 2, 256, 33, 32, 31, 257, 258, 259, 26, 260, 261, 262, 263, 264, 265, 266, 60, 267, 204, 205, 18, 206, 48, 207, 208, 209, 210, 49, 211, 212, 213, 214, 215, 216, 217, 218, 219, 220, 221, 222, 14, 223, 43, 224, 225, 226, 227, 228, 268, 269, 270, 271, 62, 272, 273, 274, 275, 276, 277, 64, 278, 279, 280, 281, 282, 283, 284, 22, 285, 55, 286, 287, 288, 289, 290, 291, 292, 293, 294, 295, 296, 297, 298, 299, 61, 300, 301, 302, 303, 53, 54, 304, 305, 306, 307, 308, 309, 310, 311, 312, 313, 314, 315, 63, 316, 317, 318, 319, 320, 321, 322, 323, 324, 325, 326, 30, 327, 328, 329, 330, 69, 331, 332, 333, 334, 335, 336, 385, 386, 387, 388, 468, 469, 470, 471, 472, 473, 474, 507, 508, 509, 510, 511, 512, 513, 514, 515, 495, 496, 497, 498, 499, 500, 501, 502, 503, 504, 505, 506, 516, 517, 518] (by decide +kernel) (by decide +kernel)
set_option maxRecDepth 20000 in
theorem gL_law_X5_at : GoodIn wsL_law (wsV RL 57 RX5 yX5_at wsX5_at) := goodIn_app (goodIn_of _ (by decide +kernel)) ggL_law_X5_at
set_option maxRecDepth 20000 in
theorem ggL_law_X6_at : GoodIn wsL_law wsX6_at := goodIn_r _ [392, 111, 89, 90, 112, 113, 5, 114, 393, 394, 395, 396, 85, 350, 80, 397, 342, 343, 344, 345, 346, 347, 348, 349, 81, 86, 351, 352, 353, 354, 355, 356, 357, 358, 359, 360, 361, 362, 83, 84, 87, 88, 233, 234, 235, 236, 237, 238, 239, 240, 241, 242, 243, 244, 75, 74, 76, 78, 77, 79, 245, 246, 247, 363, 364, 365, 366, 367, 368, 369, 370, 371, 372, 373, 374, 375, 376, 377, 378, 379, 475, 476, 477, 478, 479, 480, 481, 482, 483, 484, 485, 486, 487, 488, 489, 490, 491, 492, 493, 494] (by decide +kernel) (by decide +kernel)
set_option maxRecDepth 20000 in
theorem gL_law_X6_at : GoodIn wsL_law (wsV RL 61 RX6 yX6_at wsX6_at) := goodIn_app (goodIn_of _ (by decide +kernel)) ggL_law_X6_at
set_option maxRecDepth 20000 in
theorem ggL_law_X5_next : GoodIn wsL_law wsX5_next := goodIn_r _ [401, 27, 402, 253, 254, 255, 2, 256, 33, 19, 32, 31, 257, 258, 259, 26, 260, 261, 262, 263, 264, 265, 266, 60, 267, 204, 205, 18, 206, 48, 207, 208, 209, 210, 49, 211, 212, 213, 214, 215, 216, 217, 218, 219, 220, 221, 222, 14, 223, 43, 224, 225, 226, 227, 228, 268, 269, 270, 271, 62, 272, 273, 274, 275, 276, 277, 64, 278, 279, 280, 281, 282, 283, 284, 22, 285, 55, 286, 287, 288, 289, 290, 291, 292, 293, 294, 295, 296, 297, 298, 299, 61, 300, 301, 302, 303, 53, 54, 304, 305, 306, 307, 308, 309, 310, 311, 312, 313, 314, 315, 63, 316, 317, 318, 319, 320, 321, 322, 323, 324, 325, 326, 30, 327, 328, 329, 330, 69, 331, 332, 333, 334, 335, 336, 337, 338, 339, 340, 468, 469, 470, 471, 472, 473, 474, 507, 508, 509, 510, 511, 512, 513, 514, 515, 502, 503, 495, 496, 497, 498, 499, 500, 501, 504, 505, 506, 516, 517, 518] (by decide +kernel) (by decide +kernel)
set_option maxRecDepth 20000 in
theorem gL_law_X5_next : GoodIn wsL_law (wsV RL 62 RX5 yX5_next wsX5_next) := goodIn_app (goodIn_of _ (by decide +kernel)) ggL_law_X5_next
set_option maxRecDepth 20000 in
theorem ggL_law_X6_next : GoodIn wsL_law wsX6_next := goodIn_r _ [406, 375, 346, 347, 348, 5, 349, 111, 81, 85, 350, 86, 80, 351, 352, 353, 354, 355, 356, 357, 358, 359, 360, 361, 362, 83, 84, 87, 88, 233, 234, 235, 236, 237, 238, 239, 240, 241, 242, 243, 244, 75, 74, 76, 78, 77, 79, 245, 246, 247, 363, 364, 365, 366, 367, 368, 369, 370, 371, 372, 373, 374, 345, 376, 377, 378, 379, 475, 476, 477, 478, 479, 480, 481, 482, 483, 484, 485, 486, 487, 488, 489, 490, 491, 492, 493, 494] (by decide +kernel) (by decide +kernel)
set_option maxRecDepth 20000 in
theorem gL_law_X6_next : GoodIn wsL_law (wsV RL 65 RX6 yX6_next wsX6_next) := goodIn_app (goodIn_of _ (by decide +kernel)) ggL_law_X6_next
set_option maxRecDepth 20000 in
theorem ggL_law_X5_sure : GoodIn wsL_law wsX5_sure := goodIn_r _ [410, 27, 252, 340, 177, 178, 179, 2, 180, 15, 151, 125, 126, 14, 127, 106, 99, 100, 101, 253, 254, 255, 256, 33, 19, 32, 31, 257, 258, 259, 26, 260, 261, 262, 263, 264, 265, 266, 60, 267, 204, 205, 18, 206, 48, 207, 208, 209, 210, 49, 211, 212, 213, 214, 215, 216, 217, 218, 219, 220, 221, 222, 223, 43, 224, 225, 226, 227, 228, 268, 269, 270, 271, 62, 272, 273, 274, 275, 276, 277, 64, 278, 279, 280, 281, 282, 283, 284, 22, 285, 55, 286, 287, 288, 289, 290, 291, 292, 293, 294, 295, 296, 297, 298, 299, 61, 300, 301, 302, 303, 53, 54, 304, 305, 306, 307, 308, 309, 310, 311, 312, 313, 314, 315, 63, 316, 317, 318, 319, 320, 321, 322, 323, 324, 325, 326, 30, 327, 328, 329, 330, 69, 331, 332, 333, 334, 335, 336, 411, 412, 413, 414, 415, 416, 417, 418, 468, 469, 470, 471, 472, 473, 474, 507, 508, 509, 510, 511, 512, 513, 514, 515, 495, 496, 497, 498, 499, 500, 501, 502, 503, 504, 505, 506, 516, 517, 518] (by decide +kernel) (by decide +kernel)
set_option maxRecDepth 20000 in
theorem gL_law_X5_sure : GoodIn wsL_law (wsV RL 66 RX5 yX5_sure wsX5_sure) := goodIn_app (goodIn_of _ (by decide +kernel)) ggL_law_X5_sure
set_option maxRecDepth 20000 in
theorem ggL_law_X6_sure : GoodIn wsL_law wsX6_sure := goodIn_r _ [422, 87, 88, 132, 133, 134, 5, 135, 111, 112, 113, 114, 397, 342, 343, 344, 345, 346, 347, 348, 349, 81, 85, 350, 86, 80, 351, 352, 353, 354, 355, 356, 357, 358, 359, 360, 361, 362, 83, 84, 233, 234, 235, 236, 237, 238, 239, 240, 241, 242, 243, 244, 75, 74, 76, 78, 77, 79, 245, 246, 247, 363, 364, 365, 366, 367, 368, 369, 370, 371, 372, 373, 374, 375, 376, 377, 378, 379, 475, 476, 477, 478, 479, 480, 481, 482, 483, 484, 485, 486, 487, 488, 489, 490, 491, 492, 493, 494] (by decide +kernel) (by decide +kernel)
set_option maxRecDepth 20000 in
theorem gL_law_X6_sure : GoodIn wsL_law (wsV RL 70 RX6 yX6_sure wsX6_sure) := goodIn_app (goodIn_of _ (by decide +kernel)) ggL_law_X6_sure
set_option maxRecDepth 20000 in
theorem ggL_law_X5_two : GoodIn wsL_law wsX5_two := goodIn_r _ [426, 31, 427, 253, 254, 255, 2, 256, 33, 27, 19, 32, 257, 258, 259, 26, 260, 261, 262, 263, 264, 265, 266, 60, 267, 204, 205, 18, 206, 48, 207, 208, 209, 210, 49, 211, 212, 213, 214, 215, 216, 217, 218, 219, 220, 221, 222, 14, 223, 43, 224, 225, 226, 227, 228, 268, 269, 270, 271, 62, 272, 273, 274, 275, 276, 277, 64, 278, 279, 280, 281, 282, 283, 284, 22, 285, 55, 286, 287, 288, 289, 290, 291, 292, 293, 294, 295, 296, 297, 298, 299, 61, 300, 301, 302, 303, 53, 54, 304, 305, 306, 307, 308, 309, 310, 311, 312, 313, 314, 315, 63, 316, 317, 318, 319, 320, 321, 322, 323, 324, 325, 326, 30, 327, 328, 329, 330, 69, 331, 332, 333, 334, 335, 336, 337, 338, 339, 340, 468, 469, 470, 471, 472, 473, 474, 516, 517, 518, 502, 503, 495, 496, 497, 498, 499, 500, 501, 507, 508, 509, 510, 511, 512, 513, 514, 515, 504, 505, 506] (by decide +kernel) (by decide +kernel)
set_option maxRecDepth 20000 in
theorem gL_law_X5_two : GoodIn wsL_law (wsV RL 71 RX5 yX5_two wsX5_two) := goodIn_app (goodIn_of _ (by decide +kernel)) ggL_law_X5_two
set_option maxRecDepth 20000 in
theorem ggL_law_X6_two : GoodIn wsL_law wsX6_two := goodIn_r _ [431, 111, 346, 347, 348, 5, 349, 81, 85, 350, 86, 80, 351, 352, 353, 354, 355, 356, 357, 358, 359, 360, 361, 362, 83, 84, 87, 88, 233, 234, 235, 236, 237, 238, 239, 240, 241, 242, 243, 244, 75, 74, 76, 78, 77, 79, 245, 246, 247, 363, 364, 365, 366, 432, 433, 434, 435, 345, 436, 367, 368, 369, 370, 371, 372, 373, 374, 375, 376, 377, 378, 379, 475, 476, 477, 478, 479, 480, 481, 482, 483, 484, 485, 486, 487, 488, 489, 490, 491, 492, 493, 494] (by decide +kernel) (by decide +kernel)
set_option maxRecDepth 20000 in
theorem gL_law_X6_two : GoodIn wsL_law (wsV RL 74 RX6 yX6_two wsX6_two) := goodIn_app (goodIn_of _ (by decide +kernel)) ggL_law_X6_two
set_option maxRecDepth 20000 in
theorem ggL_law_X5_book : GoodIn wsL_law wsX5_book := goodIn_r _ [440, 15, 31, 427, 340, 441, 253, 254, 255, 2, 256, 33, 27, 19, 32, 257, 258, 259, 26, 260, 261, 262, 263, 264, 265, 266, 60, 267, 204, 205, 18, 206, 48, 207, 208, 209, 210, 49, 211, 212, 213, 214, 215, 216, 217, 218, 219, 220, 221, 222, 14, 223, 43, 224, 225, 226, 227, 228, 268, 269, 270, 271, 62, 272, 273, 274, 275, 276, 277, 64, 278, 279, 280, 281, 282, 283, 284, 22, 285, 55, 286, 287, 288, 289, 290, 291, 292, 293, 294, 295, 296, 297, 298, 299, 61, 300, 301, 302, 303, 53, 54, 304, 305, 306, 307, 308, 309, 310, 311, 312, 313, 314, 315, 63, 316, 317, 318, 319, 320, 321, 322, 323, 324, 325, 326, 30, 327, 328, 329, 330, 69, 331, 332, 333, 334, 335, 336, 151, 125, 126, 127, 106, 468, 469, 470, 471, 472, 473, 474, 516, 517, 518, 502, 503, 495, 496, 497, 498, 499, 500, 501, 507, 508, 509, 510, 511, 512, 513, 514, 515, 504, 505, 506] (by decide +kernel) (by decide +kernel)
set_option maxRecDepth 20000 in
theorem gL_law_X5_book : GoodIn wsL_law (wsV RL 75 RX5 yX5_book wsX5_book) := goodIn_app (goodIn_of _ (by decide +kernel)) ggL_law_X5_book
set_option maxRecDepth 20000 in
theorem ggL_law_X6_book : GoodIn wsL_law wsX6_book := goodIn_r _ [445, 436, 132, 133, 134, 5, 135, 111, 112, 113, 114, 446, 429, 430, 431, 346, 347, 348, 349, 81, 85, 350, 86, 80, 351, 352, 353, 354, 355, 356, 357, 358, 359, 360, 361, 362, 83, 84, 87, 88, 233, 234, 235, 236, 237, 238, 239, 240, 241, 242, 243, 244, 75, 74, 76, 78, 77, 79, 245, 246, 247, 363, 364, 365, 366, 432, 433, 434, 435, 345, 367, 368, 369, 370, 371, 372, 373, 374, 375, 376, 377, 378, 379, 475, 476, 477, 478, 479, 480, 481, 482, 483, 484, 485, 486, 487, 488, 489, 490, 491, 492, 493, 494] (by decide +kernel) (by decide +kernel)
set_option maxRecDepth 20000 in
theorem gL_law_X6_book : GoodIn wsL_law (wsV RL 79 RX6 yX6_book wsX6_book) := goodIn_app (goodIn_of _ (by decide +kernel)) ggL_law_X6_book
set_option maxRecDepth 20000 in
theorem ggL_law_X5_doubt : GoodIn wsL_law wsX5_doubt := goodIn_r _ [450, 15, 31, 427, 340, 151, 125, 126, 14, 127, 106, 99, 100, 2, 101, 253, 254, 255, 256, 33, 27, 19, 32, 257, 258, 259, 26, 260, 261, 262, 263, 264, 265, 266, 60, 267, 204, 205, 18, 206, 48, 207, 208, 209, 210, 49, 211, 212, 213, 214, 215, 216, 217, 218, 219, 220, 221, 222, 223, 43, 224, 225, 226, 227, 228, 268, 269, 270, 271, 62, 272, 273, 274, 275, 276, 277, 64, 278, 279, 280, 281, 282, 283, 284, 22, 285, 55, 286, 287, 288, 289, 290, 291, 292, 293, 294, 295, 296, 297, 298, 299, 61, 300, 301, 302, 303, 53, 54, 304, 305, 306, 307, 308, 309, 310, 311, 312, 313, 314, 315, 63, 316, 317, 318, 319, 320, 321, 322, 323, 324, 325, 326, 30, 327, 328, 329, 330, 69, 331, 332, 333, 334, 335, 336, 451, 452, 453, 454, 455, 468, 469, 470, 471, 472, 473, 474, 516, 517, 518, 495, 496, 497, 498, 499, 500, 501, 502, 503, 507, 508, 509, 510, 511, 512, 513, 514, 515, 504, 505, 506] (by decide +kernel) (by decide +kernel)
set_option maxRecDepth 20000 in
theorem gL_law_X5_doubt : GoodIn wsL_law (wsV RL 80 RX5 yX5_doubt wsX5_doubt) := goodIn_app (goodIn_of _ (by decide +kernel)) ggL_law_X5_doubt
set_option maxRecDepth 20000 in
theorem ggL_law_X6_doubt : GoodIn wsL_law wsX6_doubt := goodIn_r _ [459, 436, 132, 133, 134, 5, 135, 111, 112, 113, 114, 446, 429, 430, 431, 346, 347, 348, 349, 81, 85, 350, 86, 80, 351, 352, 353, 354, 355, 356, 357, 358, 359, 360, 361, 362, 83, 84, 87, 88, 233, 234, 235, 236, 237, 238, 239, 240, 241, 242, 243, 244, 75, 74, 76, 78, 77, 79, 245, 246, 247, 363, 364, 365, 366, 432, 433, 434, 435, 345, 367, 368, 369, 370, 371, 372, 373, 374, 375, 376, 377, 378, 379, 475, 476, 477, 478, 479, 480, 481, 482, 483, 484, 485, 486, 487, 488, 489, 490, 491, 492, 493, 494] (by decide +kernel) (by decide +kernel)
set_option maxRecDepth 20000 in
theorem gL_law_X6_doubt : GoodIn wsL_law (wsV RL 83 RX6 yX6_doubt wsX6_doubt) := goodIn_app (goodIn_of _ (by decide +kernel)) ggL_law_X6_doubt
set_option maxRecDepth 20000 in
theorem ggL_law_X5_about : GoodIn wsL_law wsX5_about := goodIn_r _ [463, 15, 95, 19, 160, 32, 468, 469, 470, 471, 472, 473, 474, 495, 496, 497, 498, 499, 500, 501, 502, 503] (by decide +kernel) (by decide +kernel)
set_option maxRecDepth 20000 in
theorem gL_law_X5_about : GoodIn wsL_law (wsV RL 84 RX5 yX5_about wsX5_about) := goodIn_app (goodIn_of _ (by decide +kernel)) ggL_law_X5_about
set_option maxRecDepth 20000 in
theorem ggL_law_X6_about : GoodIn wsL_law wsX6_about := goodIn_r _ [467, 111, 80, 81, 112, 113, 5, 114, 475, 476, 477, 478, 479, 480, 481, 482, 483, 484, 485, 486, 487, 488, 489, 490, 491, 492, 493, 494] (by decide +kernel) (by decide +kernel)
set_option maxRecDepth 20000 in
theorem gL_law_X6_about : GoodIn wsL_law (wsV RL 87 RX6 yX6_about wsX6_about) := goodIn_app (goodIn_of _ (by decide +kernel)) ggL_law_X6_about

