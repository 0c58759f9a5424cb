set_option maxRecDepth 20000 in
theorem ggL_law_X8_init : GoodIn wsL_law wsX8_init := goodIn_r _ [8, 9, 10, 11, 12, 13, 14, 15, 16, 17, 18, 19, 20, 21, 22, 23, 24, 25, 26, 27, 28, 29, 30, 31, 32, 33, 34, 35, 36, 37, 38, 39, 40, 41, 42, 43, 44, 45, 46, 47, 48, 49, 50, 51, 52, 53, 54, 55, 56, 57, 58, 59, 60, 61, 62, 63, 64, 65, 66, 67, 68, 69, 70, 71, 72, 73, 74, 75, 76, 77, 78, 79, 80, 81, 82, 83, 84, 85, 86, 87, 88, 89, 90, 91, 92, 93, 94, 95, 96, 97, 98, 99, 100, 101, 102, 103, 104, 105, 106, 107, 108, 109, 110, 111, 112, 113, 114, 115, 116, 117, 118, 119, 120, 121, 122, 123, 124, 125, 126, 127, 128, 129, 130, 131, 132, 133, 134, 135, 136, 137, 138, 139, 140, 141, 142, 812, 813, 814, 815, 816, 817, 818, 819, 787, 788, 789, 790, 791, 792, 793, 794, 820, 821, 822, 823, 824, 825, 826, 827, 828, 829, 830, 831, 832, 833, 834, 835] (by decide +kernel) (by decide +kernel)
set_option maxRecDepth 20000 in
theorem gL_law_X8_init : GoodIn wsL_law (wsX8_init) := ggL_law_X8_init
set_option maxRecDepth 20000 in
theorem ggL_law_X9_init : GoodIn wsL_law wsX9_init := goodIn_r _ [145, 146, 10, 11, 48, 147, 148, 149, 150, 151, 152, 153, 154, 155, 156, 157, 158, 159, 160, 161, 162, 163, 164, 5, 165, 795, 796, 797, 798, 799, 800, 801, 802, 803, 804, 805, 806, 807, 808, 809, 810, 811] (by decide +kernel) (by decide +kernel)
set_option maxRecDepth 20000 in
theorem gL_law_X9_init : GoodIn wsL_law (wsX9_init) := ggL_law_X9_init
set_option maxRecDepth 20000 in
theorem ggL_law_X8_told : GoodIn wsL_law wsX8_told := goodIn_r _ [169, 15, 170, 171, 172, 173, 174, 175, 39, 35, 23, 176, 19, 177, 43, 178, 179, 180, 181, 182, 14, 183, 64, 50, 184, 185, 186, 187, 188, 189, 190, 191, 192, 193, 2, 194, 31, 195, 89, 90, 91, 196, 93, 94, 38, 95, 58, 59, 197, 198, 199, 30, 200, 201, 202, 203, 204, 205, 206, 207, 208, 209, 210, 211, 212, 213, 126, 214, 215, 216, 217, 218, 219, 220, 221, 222, 223, 224, 225, 226, 227, 228, 229, 230, 231, 232, 233, 234, 235, 236, 237, 238, 239, 240, 241, 242, 243, 51, 80, 81, 82, 83, 84, 85, 86, 87, 65, 244, 245, 246, 247, 248, 249, 250, 251, 252, 253, 254, 255, 256, 257, 258, 259, 260, 261, 262, 263, 264, 265, 266, 267, 268, 269, 270, 271, 272, 66, 273, 274, 275, 276, 49, 277, 278, 279, 280, 281, 282, 34, 283, 134, 284, 132, 135, 285, 286, 287, 288, 289, 290, 291, 292, 293, 294, 295, 296, 297, 298, 299, 300, 301, 302, 303, 304, 305, 306, 307, 308, 309, 310, 311, 312, 313, 314, 315, 316, 317, 318, 319, 320, 321, 22, 322, 111, 109, 323, 110, 324, 325, 326, 327, 328, 787, 788, 789, 790, 791, 792, 793, 794, 812, 813, 814, 815, 816, 817, 818, 819, 833, 834, 823, 824, 825, 820, 821, 822, 835, 829, 830, 831, 832] (by decide +kernel) (by decide +kernel)
set_option maxRecDepth 20000 in
theorem gL_law_X8_told : GoodIn wsL_law (wsV RL 13 RX8 yX8_told wsX8_told) := goodIn_app (goodIn_of _ (by decide +kernel)) ggL_law_X8_told
set_option maxRecDepth 20000 in
theorem ggL_law_X9_told : GoodIn wsL_law wsX9_told := goodIn_r _ [332, 147, 333, 334, 335, 336, 337, 338, 339, 5, 340, 341, 342, 343, 344, 345, 346, 347, 348, 349, 350, 351, 157, 352, 353, 354, 355, 356, 357, 358, 359, 360, 361, 362, 363, 155, 156, 154, 364, 365, 366, 367, 368, 369, 370, 371, 372, 373, 374, 375, 376, 377, 378, 379, 380, 381, 382, 383, 384, 385, 386, 387, 388, 389, 390, 391, 392, 393, 394, 395, 396, 397, 398, 399, 400, 401, 402, 403, 404, 405, 406, 407, 408, 409, 161, 410, 411, 412, 413, 414, 415, 416, 417, 418, 419, 420, 421, 422, 423, 424, 425, 152, 153, 426, 427, 428, 429, 430, 431, 432, 795, 796, 797, 798, 799, 800, 801, 802, 803, 804, 805, 806, 807, 808, 809, 810, 811] (by decide +kernel) (by decide +kernel)
set_option maxRecDepth 20000 in
theorem gL_law_X9_told : GoodIn wsL_law (wsV RL 17 RX9 yX9_told wsX9_told) := goodIn_app (goodIn_of _ (by decide +kernel)) ggL_law_X9_told
set_option maxRecDepth 20000 in
theorem ggL_law_X8_item : GoodIn wsL_law wsX8_item := goodIn_r _ [436, 15, 437, 438, 439, 171, 179, 440, 81, 82, 14, 83, 64, 441, 326, 327, 38, 328, 59, 58, 442, 229, 230, 231, 232, 233, 234, 235, 443, 185, 186, 187, 188, 189, 190, 444, 85, 86, 87, 65, 445, 241, 242, 243, 51, 80, 84, 787, 788, 789, 790, 791, 792, 793, 794, 812, 813, 814, 815, 816, 817, 818, 819, 833, 834] (by decide +kernel) (by decide +kernel)
set_option maxRecDepth 20000 in
theorem gL_law_X8_item : GoodIn wsL_law (wsV RL 18 RX8 yX8_item wsX8_item) := goodIn_app (goodIn_of _ (by decide +kernel)) ggL_law_X8_item
set_option maxRecDepth 20000 in
theorem ggL_law_X9_item : GoodIn wsL_law wsX9_item := goodIn_r _ [449, 450, 147, 336, 426, 427, 428, 5, 429, 430, 431, 432, 378, 379, 380, 381, 345, 346, 347, 795, 796, 797, 798, 799, 800, 801, 802, 803, 804, 805, 806, 807, 808, 809, 810, 811] (by decide +kernel) (by decide +kernel)
set_option maxRecDepth 20000 in
theorem gL_law_X9_item : GoodIn wsL_law (wsV RL 22 RX9 yX9_item wsX9_item) := goodIn_app (goodIn_of _ (by decide +kernel)) ggL_law_X9_item
set_option maxRecDepth 20000 in
theorem ggL_law_X8_classAt : GoodIn wsL_law wsX8_classAt := goodIn_r _ [454, 15, 171, 437, 455, 233, 234, 38, 235, 59, 442, 229, 230, 231, 58, 232, 787, 788, 789, 790, 791, 792, 793, 794, 812, 813, 814, 815, 816, 817, 818, 819, 833, 834] (by decide +kernel) (by decide +kernel)
set_option maxRecDepth 20000 in
theorem gL_law_X8_classAt : GoodIn wsL_law (wsV RL 23 RX8 yX8_classAt wsX8_classAt) := goodIn_app (goodIn_of _ (by decide +kernel)) ggL_law_X8_classAt
set_option maxRecDepth 20000 in
theorem ggL_law_X9_classAt : GoodIn wsL_law wsX9_classAt := goodIn_r _ [459, 147, 450, 337, 338, 339, 5, 340, 430, 431, 432, 378, 379, 380, 381, 795, 796, 797, 798, 799, 800, 801, 802, 803, 804, 805, 806, 807, 808, 809, 810, 811] (by decide +kernel) (by decide +kernel)
set_option maxRecDepth 20000 in
theorem gL_law_X9_classAt : GoodIn wsL_law (wsV RL 26 RX9 yX9_classAt wsX9_classAt) := goodIn_app (goodIn_of _ (by decide +kernel)) ggL_law_X9_classAt
set_option maxRecDepth 20000 in
theorem ggL_law_X8_setBy : GoodIn wsL_law wsX8_setBy := goodIn_r _ [463, 15, 171, 464, 465, 466, 2, 467, 437, 179, 440, 81, 82, 14, 83, 64, 444, 85, 86, 87, 65, 455, 233, 234, 38, 235, 59, 468, 270, 271, 272, 50, 66, 80, 273, 274, 275, 276, 49, 277, 229, 230, 231, 58, 232, 278, 237, 238, 239, 240, 241, 242, 243, 51, 84, 279, 250, 251, 252, 184, 185, 186, 187, 188, 189, 190, 787, 788, 789, 790, 791, 792, 793, 794, 812, 813, 814, 815, 816, 817, 818, 819, 833, 834] (by decide +kernel) (by decide +kernel)
set_option maxRecDepth 20000 in
theorem gL_law_X8_setBy : GoodIn wsL_law (wsV RL 27 RX8 yX8_setBy wsX8_setBy) := goodIn_app (goodIn_of _ (by decide +kernel)) ggL_law_X8_setBy
set_option maxRecDepth 20000 in
theorem ggL_law_X9_setBy : GoodIn wsL_law wsX9_setBy := goodIn_r _ [472, 473, 474, 475, 5, 476, 147, 450, 336, 337, 338, 339, 340, 426, 427, 428, 429, 430, 431, 432, 386, 387, 388, 389, 390, 391, 392, 393, 364, 365, 366, 394, 395, 396, 397, 398, 399, 400, 401, 378, 379, 380, 381, 345, 346, 347, 795, 796, 797, 798, 799, 800, 801, 802, 803, 804, 805, 806, 807, 808, 809, 810, 811] (by decide +kernel) (by decide +kernel)
set_option maxRecDepth 20000 in
theorem gL_law_X9_setBy : GoodIn wsL_law (wsV RL 31 RX9 yX9_setBy wsX9_setBy) := goodIn_app (goodIn_of _ (by decide +kernel)) ggL_law_X9_setBy
set_option maxRecDepth 20000 in
theorem ggL_law_X8_alike : GoodIn wsL_law wsX8_alike := goodIn_r _ [480, 15, 437, 179, 39, 440, 81, 82, 14, 83, 64, 481, 482, 2, 483, 191, 192, 193, 194, 31, 195, 89, 90, 91, 196, 93, 94, 38, 95, 58, 59, 197, 198, 199, 30, 200, 201, 202, 203, 204, 205, 206, 207, 208, 209, 210, 211, 212, 213, 126, 214, 215, 216, 217, 218, 219, 220, 221, 222, 223, 224, 225, 226, 227, 228, 229, 230, 231, 232, 233, 234, 235, 236, 237, 238, 239, 240, 241, 242, 243, 51, 80, 84, 85, 86, 87, 65, 244, 245, 246, 247, 248, 185, 186, 187, 188, 189, 190, 249, 250, 251, 252, 50, 184, 253, 254, 255, 256, 257, 258, 259, 260, 261, 262, 263, 264, 265, 266, 267, 268, 269, 270, 271, 272, 66, 273, 274, 275, 276, 49, 277, 278, 279, 441, 326, 327, 328, 787, 788, 789, 790, 791, 792, 793, 794, 812, 813, 814, 815, 816, 817, 818, 819, 833, 834, 829] (by decide +kernel) (by decide +kernel)
set_option maxRecDepth 20000 in
theorem gL_law_X8_alike : GoodIn wsL_law (wsV RL 32 RX8 yX8_alike wsX8_alike) := goodIn_app (goodIn_of _ (by decide +kernel)) ggL_law_X8_alike
set_option maxRecDepth 20000 in
theorem ggL_law_X9_alike : GoodIn wsL_law wsX9_alike := goodIn_r _ [487, 450, 336, 157, 426, 427, 428, 5, 429, 147, 430, 431, 432, 352, 353, 354, 355, 356, 357, 358, 359, 360, 361, 362, 363, 155, 156, 154, 364, 365, 366, 367, 368, 369, 370, 345, 346, 347, 371, 372, 373, 374, 375, 376, 377, 378, 379, 380, 381, 382, 383, 384, 385, 386, 387, 388, 389, 390, 391, 392, 393, 394, 395, 396, 397, 398, 399, 400, 401, 402, 403, 404, 405, 337, 338, 339, 340, 795, 796, 797, 798, 799, 800, 801, 802, 803, 804, 805, 806, 807, 808, 809, 810, 811] (by decide +kernel) (by decide +kernel)
set_option maxRecDepth 20000 in
theorem gL_law_X9_alike : GoodIn wsL_law (wsV RL 35 RX9 yX9_alike wsX9_alike) := goodIn_app (goodIn_of _ (by decide +kernel)) ggL_law_X9_alike
set_option maxRecDepth 20000 in
theorem ggL_law_X8_apart : GoodIn wsL_law wsX8_apart := goodIn_r _ [491, 15, 437, 31, 39, 440, 81, 82, 14, 83, 64, 492, 493, 494, 30, 495, 201, 126, 214, 496, 89, 90, 91, 497, 93, 94, 38, 95, 58, 59, 202, 203, 204, 205, 206, 207, 208, 209, 498, 326, 327, 328, 215, 216, 217, 218, 219, 220, 221, 222, 223, 224, 225, 226, 227, 228, 229, 230, 231, 232, 233, 234, 235, 236, 237, 238, 239, 240, 241, 242, 243, 51, 80, 84, 85, 86, 87, 65, 787, 788, 789, 790, 791, 792, 793, 794, 812, 813, 814, 815, 816, 817, 818, 819, 829, 833, 834] (by decide +kernel) (by decide +kernel)
set_option maxRecDepth 20000 in
theorem gL_law_X8_apart : GoodIn wsL_law (wsV RL 36 RX8 yX8_apart wsX8_apart) := goodIn_app (goodIn_of _ (by decide +kernel)) ggL_law_X8_apart
set_option maxRecDepth 20000 in
theorem ggL_law_X9_apart : GoodIn wsL_law wsX9_apart := goodIn_r _ [502, 450, 160, 158, 159, 147, 426, 427, 428, 5, 429, 430, 431, 432, 364, 365, 366, 795, 796, 797, 798, 799, 800, 801, 802, 803, 804, 805, 806, 807, 808, 809, 810, 811] (by decide +kernel) (by decide +kernel)
set_option maxRecDepth 20000 in
theorem gL_law_X9_apart : GoodIn wsL_law (wsV RL 39 RX9 yX9_apart wsX9_apart) := goodIn_app (goodIn_of _ (by decide +kernel)) ggL_law_X9_apart
set_option maxRecDepth 20000 in
theorem ggL_law_X8_search : GoodIn wsL_law wsX8_search := goodIn_r _ [506, 15, 437, 35, 507, 440, 81, 82, 14, 83, 64, 280, 281, 282, 34, 283, 134, 284, 132, 135, 285, 286, 89, 90, 91, 287, 93, 94, 38, 95, 58, 59, 288, 203, 204, 205, 206, 207, 208, 209, 289, 290, 291, 292, 257, 258, 259, 260, 261, 186, 262, 263, 293, 294, 295, 296, 297, 787, 788, 789, 790, 791, 792, 793, 794, 830, 831, 832, 812, 813, 814, 815, 816, 817, 818, 819, 833, 834] (by decide +kernel) (by decide +kernel)
set_option maxRecDepth 20000 in
theorem gL_law_X8_search : GoodIn wsL_law (wsV RL 40 RX8 yX8_search wsX8_search) := goodIn_app (goodIn_of _ (by decide +kernel)) ggL_law_X8_search
set_option maxRecDepth 20000 in
theorem ggL_law_X9_search : GoodIn wsL_law wsX9_search := goodIn_r _ [511, 450, 161, 426, 427, 428, 5, 429, 147, 430, 431, 432, 410, 411, 412, 413, 157, 378, 379, 380, 381, 414, 415, 416, 417, 364, 365, 366, 402, 403, 404, 405, 154, 337, 338, 339, 340, 371, 372, 373, 382, 383, 384, 385, 795, 796, 797, 798, 799, 800, 801, 802, 803, 804, 805, 806, 807, 808, 809, 810, 811] (by decide +kernel) (by decide +kernel)
set_option maxRecDepth 20000 in
theorem gL_law_X9_search : GoodIn wsL_law (wsV RL 43 RX9 yX9_search wsX9_search) := goodIn_app (goodIn_of _ (by decide +kernel)) ggL_law_X9_search
set_option maxRecDepth 20000 in
theorem ggL_law_X8_items : GoodIn wsL_law wsX8_items := goodIn_r _ [515, 179, 15, 170, 19, 516, 517, 518, 18, 519, 101, 102, 103, 520, 521, 316, 522, 523, 524, 525, 14, 526, 64, 65, 66, 67, 49, 527, 220, 221, 222, 50, 51, 53, 528, 216, 217, 38, 218, 58, 219, 59, 529, 61, 62, 63, 68, 69, 70, 71, 72, 73, 74, 75, 76, 77, 78, 79, 80, 81, 82, 83, 84, 85, 86, 87, 88, 89, 90, 91, 92, 93, 94, 95, 787, 788, 789, 790, 791, 792, 793, 794, 812, 813, 814, 815, 816, 817, 818, 819, 820, 821, 822, 833, 834] (by decide +kernel) (by decide +kernel)
set_option maxRecDepth 20000 in
theorem gL_law_X8_items : GoodIn wsL_law (wsV RL 44 RX8 yX8_items wsX8_items) := goodIn_app (goodIn_of _ (by decide +kernel)) ggL_law_X8_items
set_option maxRecDepth 20000 in
theorem ggL_law_X9_items : GoodIn wsL_law wsX9_items := goodIn_r _ [533, 336, 147, 430, 431, 5, 432, 534, 535, 536, 537, 334, 148, 371, 372, 373, 162, 163, 164, 165, 795, 796, 797, 798, 799, 800, 801, 802, 803, 804, 805, 806, 807, 808, 809, 810, 811] (by decide +kernel) (by decide +kernel)
set_option maxRecDepth 20000 in
theorem gL_law_X9_items : GoodIn wsL_law (wsV RL 47 RX9 yX9_items wsX9_items) := goodIn_app (goodIn_of _ (by decide +kernel)) ggL_law_X9_items
set_option maxRecDepth 20000 in
theorem ggL_law_X8_edge : GoodIn wsL_law wsX8_edge := goodIn_r _ [541, 15, 437, 179, 19, 440, 81, 82, 14, 83, 64, 516, 517, 518, 18, 519, 101, 102, 103, 520, 521, 316, 522, 523, 524, 525, 526, 65, 66, 67, 49, 527, 220, 221, 222, 50, 51, 53, 528, 216, 217, 38, 218, 58, 219, 59, 542, 543, 544, 545, 80, 546, 547, 548, 549, 180, 181, 182, 183, 184, 185, 186, 187, 188, 189, 190, 787, 788, 789, 790, 791, 792, 793, 794, 812, 813, 814, 815, 816, 817, 818, 819, 820, 821, 822, 833, 834] (by decide +kernel) (by decide +kernel)
set_option maxRecDepth 20000 in
theorem gL_law_X8_edge : GoodIn wsL_law (wsV RL 48 RX8 yX8_edge wsX8_edge) := goodIn_app (goodIn_of _ (by decide +kernel)) ggL_law_X8_edge
set_option maxRecDepth 20000 in
theorem ggL_law_X9_edge : GoodIn wsL_law wsX9_edge := goodIn_r _ [553, 450, 336, 147, 426, 427, 428, 5, 429, 430, 431, 432, 534, 535, 536, 537, 334, 148, 371, 372, 373, 364, 365, 366, 554, 555, 556, 557, 341, 342, 343, 344, 345, 346, 347, 795, 796, 797, 798, 799, 800, 801, 802, 803, 804, 805, 806, 807, 808, 809, 810, 811] (by decide +kernel) (by decide +kernel)
set_option maxRecDepth 20000 in
theorem gL_law_X9_edge : GoodIn wsL_law (wsV RL 51 RX9 yX9_edge wsX9_edge) := goodIn_app (goodIn_of _ (by decide +kernel)) ggL_law_X9_edge
set_option maxRecDepth 20000 in
theorem ggL_law_X8_columns : GoodIn wsL_law wsX8_columns := goodIn_r _ [561, 15, 437, 179, 438, 19, 440, 81, 82, 14, 83, 64, 516, 517, 518, 18, 519, 101, 102, 103, 520, 521, 316, 522, 523, 524, 525, 526, 65, 66, 67, 49, 527, 220, 221, 222, 50, 51, 53, 528, 216, 217, 38, 218, 58, 219, 59, 787, 788, 789, 790, 791, 792, 793, 794, 812, 813, 814, 815, 816, 817, 818, 819, 820, 821, 822, 833, 834] (by decide +kernel) (by decide +kernel)
set_option maxRecDepth 20000 in
theorem gL_law_X8_columns : GoodIn wsL_law (wsV RL 52 RX8 yX8_columns wsX8_columns) := goodIn_app (goodIn_of _ (by decide +kernel)) ggL_law_X8_columns
set_option maxRecDepth 20000 in
theorem ggL_law_X9_columns : GoodIn wsL_law wsX9_columns := goodIn_r _ [565, 450, 336, 147, 426, 427, 428, 5, 429, 430, 431, 432, 534, 535, 536, 537, 334, 148, 371, 372, 373, 795, 796, 797, 798, 799, 800, 801, 802, 803, 804, 805, 806, 807, 808, 809, 810, 811] (by decide +kernel) (by decide +kernel)
set_option maxRecDepth 20000 in
theorem gL_law_X9_columns : GoodIn wsL_law (wsV RL 55 RX9 yX9_columns wsX9_columns) := goodIn_app (goodIn_of _ (by decide +kernel)) ggL_law_X9_columns
set_option maxRecDepth 20000 in
theorem ggL_law_X8_letters : GoodIn wsL_law wsX8_letters := goodIn_r _ [569, 179, 15, 174, 19, 516, 517, 518, 18, 519, 101, 102, 103, 520, 521, 316, 522, 523, 524, 525, 14, 526, 64, 65, 66, 67, 49, 527, 220, 221, 222, 50, 51, 53, 528, 216, 217, 38, 218, 58, 219, 59, 570, 73, 74, 75, 76, 77, 78, 79, 80, 81, 82, 83, 84, 85, 86, 87, 787, 788, 789, 790, 791, 792, 793, 794, 812, 813, 814, 815, 816, 817, 818, 819, 820, 821, 822, 833, 834] (by decide +kernel) (by decide +kernel)
set_option maxRecDepth 20000 in
theorem gL_law_X8_letters : GoodIn wsL_law (wsV RL 56 RX8 yX8_letters wsX8_letters) := goodIn_app (goodIn_of _ (by decide +kernel)) ggL_law_X8_letters
set_option maxRecDepth 20000 in
theorem ggL_law_X9_letters : GoodIn wsL_law wsX9_letters := goodIn_r _ [574, 336, 147, 430, 431, 5, 432, 534, 535, 536, 537, 334, 148, 371, 372, 373, 795, 796, 797, 798, 799, 800, 801, 802, 803, 804, 805, 806, 807, 808, 809, 810, 811] (by decide +kernel) (by decide +kernel)
set_option maxRecDepth 20000 in
theorem gL_law_X9_letters : GoodIn wsL_law (wsV RL 59 RX9 yX9_letters wsX9_letters) := goodIn_app (goodIn_of _ (by decide +kernel)) ggL_law_X9_letters
set_option maxRecDepth 20000 in
theorem ggL_law_X8_goes : GoodIn wsL_law wsX8_goes := goodIn_r _ [578, 15, 437, 19, 440, 81, 82, 14, 83, 64, 444, 85, 86, 87, 65, 445, 241, 242, 243, 51, 80, 84, 516, 517, 518, 18, 519, 101, 102, 103, 520, 521, 316, 522, 523, 524, 525, 526, 66, 67, 49, 527, 220, 221, 222, 50, 53, 528, 216, 217, 38, 218, 58, 219, 59, 579, 77, 78, 79, 787, 788, 789, 790, 791, 792, 793, 794, 812, 813, 814, 815, 816, 817, 818, 819, 820, 821, 822, 833, 834] (by decide +kernel) (by decide +kernel)
set_option maxRecDepth 20000 in
theorem gL_law_X8_goes : GoodIn wsL_law (wsV RL 60 RX8 yX8_goes wsX8_goes) := goodIn_app (goodIn_of _ (by decide +kernel)) ggL_law_X8_goes
set_option maxRecDepth 20000 in
theorem ggL_law_X9_goes : GoodIn wsL_law wsX9_goes := goodIn_r _ [583, 147, 450, 426, 427, 428, 5, 429, 430, 431, 432, 534, 535, 536, 537, 334, 148, 371, 372, 373, 795, 796, 797, 798, 799, 800, 801, 802, 803, 804, 805, 806, 807, 808, 809, 810, 811] (by decide +kernel) (by decide +kernel)
set_option maxRecDepth 20000 in
theorem gL_law_X9_goes : GoodIn wsL_law (wsV RL 63 RX9 yX9_goes wsX9_goes) := goodIn_app (goodIn_of _ (by decide +kernel)) ggL_law_X9_goes
set_option maxRecDepth 20000 in
theorem ggL_law_X8_finals : GoodIn wsL_law wsX8_finals := goodIn_r _ [587, 15, 437, 175, 19, 588, 589, 590, 14, 591, 88, 89, 90, 91, 64, 516, 517, 518, 18, 519, 101, 102, 103, 520, 521, 316, 522, 523, 524, 525, 526, 65, 66, 67, 49, 527, 220, 221, 222, 50, 51, 53, 528, 216, 217, 38, 218, 58, 219, 59, 787, 788, 789, 790, 791, 792, 793, 794, 812, 813, 814, 815, 816, 817, 818, 819, 820, 821, 822, 833, 834] (by decide +kernel) (by decide +kernel)
set_option maxRecDepth 20000 in
theorem gL_law_X8_finals : GoodIn wsL_law (wsV RL 64 RX8 yX8_finals wsX8_finals) := goodIn_app (goodIn_of _ (by decide +kernel)) ggL_law_X8_finals
set_option maxRecDepth 20000 in
theorem ggL_law_X9_finals : GoodIn wsL_law wsX9_finals := goodIn_r _ [595, 450, 147, 596, 597, 598, 5, 599, 430, 431, 432, 534, 535, 536, 537, 334, 148, 371, 372, 373, 795, 796, 797, 798, 799, 800, 801, 802, 803, 804, 805, 806, 807, 808, 809, 810, 811] (by decide +kernel) (by decide +kernel)
set_option maxRecDepth 20000 in
theorem gL_law_X9_finals : GoodIn wsL_law (wsV RL 67 RX9 yX9_finals wsX9_finals) := goodIn_app (goodIn_of _ (by decide +kernel)) ggL_law_X9_finals
set_option maxRecDepth 20000 in
theorem ggL_law_X8_begin : GoodIn wsL_law wsX8_begin := goodIn_r _ [603, 15, 171, 172, 19, 173, 516, 517, 518, 18, 519, 101, 102, 103, 520, 521, 316, 522, 523, 524, 525, 14, 526, 64, 65, 66, 67, 49, 527, 220, 221, 222, 50, 51, 53, 528, 216, 217, 38, 218, 58, 219, 59, 195, 89, 90, 91, 196, 93, 94, 95, 787, 788, 789, 790, 791, 792, 793, 794, 812, 813, 814, 815, 816, 817, 818, 819, 833, 834, 820, 821, 822] (by decide +kernel) (by decide +kernel)
set_option maxRecDepth 20000 in
theorem gL_law_X8_begin : GoodIn wsL_law (wsV RL 68 RX8 yX8_begin wsX8_begin) := goodIn_app (goodIn_of _ (by decide +kernel)) ggL_law_X8_begin
set_option maxRecDepth 20000 in
theorem ggL_law_X9_begin : GoodIn wsL_law wsX9_begin := goodIn_r _ [607, 147, 534, 535, 536, 5, 537, 334, 148, 371, 372, 373, 337, 338, 339, 340, 795, 796, 797, 798, 799, 800, 801, 802, 803, 804, 805, 806, 807, 808, 809, 810, 811] (by decide +kernel) (by decide +kernel)
set_option maxRecDepth 20000 in
theorem gL_law_X9_begin : GoodIn wsL_law (wsV RL 72 RX9 yX9_begin wsX9_begin) := goodIn_app (goodIn_of _ (by decide +kernel)) ggL_law_X9_begin
set_option maxRecDepth 20000 in
theorem ggL_law_X8_split : GoodIn wsL_law wsX8_split := goodIn_r _ [611, 15, 437, 588, 589, 590, 14, 591, 88, 89, 90, 91, 64, 612, 613, 614, 2, 615, 19, 171, 173, 172, 516, 517, 518, 18, 519, 101, 102, 103, 520, 521, 316, 522, 523, 524, 525, 526, 65, 66, 67, 49, 527, 220, 221, 222, 50, 51, 53, 528, 216, 217, 38, 218, 58, 219, 59, 616, 203, 204, 205, 206, 207, 208, 209, 443, 185, 186, 187, 188, 189, 190, 787, 788, 789, 790, 791, 792, 793, 794, 812, 813, 814, 815, 816, 817, 818, 819, 833, 834, 820, 821, 822] (by decide +kernel) (by decide +kernel)
set_option maxRecDepth 20000 in
theorem gL_law_X8_split : GoodIn wsL_law (wsV RL 73 RX8 yX8_split wsX8_split) := goodIn_app (goodIn_of _ (by decide +kernel)) ggL_law_X8_split
set_option maxRecDepth 20000 in
theorem ggL_law_X9_split : GoodIn wsL_law wsX9_split := goodIn_r _ [620, 450, 596, 597, 598, 5, 599, 147, 430, 431, 432, 621, 622, 623, 624, 534, 535, 536, 537, 334, 148, 371, 372, 373, 345, 346, 347, 402, 403, 404, 405, 154, 337, 338, 339, 340, 378, 379, 380, 381, 382, 383, 384, 385, 364, 365, 366, 795, 796, 797, 798, 799, 800, 801, 802, 803, 804, 805, 806, 807, 808, 809, 810, 811] (by decide +kernel) (by decide +kernel)
set_option maxRecDepth 20000 in
theorem gL_law_X9_split : GoodIn wsL_law (wsV RL 76 RX9 yX9_split wsX9_split) := goodIn_app (goodIn_of _ (by decide +kernel)) ggL_law_X9_split
set_option maxRecDepth 20000 in
theorem ggL_law_X8_by : GoodIn wsL_law wsX8_by := goodIn_r _ [628, 15, 171, 464, 465, 466, 2, 467, 437, 179, 440, 81, 82, 14, 83, 64, 444, 85, 86, 87, 65, 455, 233, 234, 38, 235, 59, 468, 270, 271, 272, 50, 66, 80, 273, 274, 275, 276, 49, 277, 229, 230, 231, 58, 232, 278, 237, 238, 239, 240, 241, 242, 243, 51, 84, 279, 250, 251, 252, 184, 185, 186, 187, 188, 189, 190, 612, 613, 614, 615, 19, 173, 172, 516, 517, 518, 18, 519, 101, 102, 103, 520, 521, 316, 522, 523, 524, 525, 526, 67, 527, 220, 221, 222, 53, 528, 216, 217, 218, 219, 616, 203, 204, 205, 206, 207, 208, 209, 443, 787, 788, 789, 790, 791, 792, 793, 794, 812, 813, 814, 815, 816, 817, 818, 819, 833, 834, 820, 821, 822] (by decide +kernel) (by decide +kernel)
set_option maxRecDepth 20000 in
theorem gL_law_X8_by : GoodIn wsL_law (wsV RL 77 RX8 yX8_by wsX8_by) := goodIn_app (goodIn_of _ (by decide +kernel)) ggL_law_X8_by
set_option maxRecDepth 20000 in
theorem ggL_law_X9_by : GoodIn wsL_law wsX9_by := goodIn_r _ [632, 473, 474, 475, 5, 476, 147, 450, 336, 337, 338, 339, 340, 426, 427, 428, 429, 430, 431, 432, 386, 387, 388, 389, 390, 391, 392, 393, 364, 365, 366, 394, 395, 396, 397, 398, 399, 400, 401, 378, 379, 380, 381, 345, 346, 347, 621, 622, 623, 624, 534, 535, 536, 537, 334, 148, 371, 372, 373, 402, 403, 404, 405, 154, 382, 383, 384, 385, 795, 796, 797, 798, 799, 800, 801, 802, 803, 804, 805, 806, 807, 808, 809, 810, 811] (by decide +kernel) (by decide +kernel)
set_option maxRecDepth 20000 in
theorem gL_law_X9_by : GoodIn wsL_law (wsV RL 80 RX9 yX9_by wsX9_by) := goodIn_app (goodIn_of _ (by decide +kernel)) ggL_law_X9_by
set_option maxRecDepth 20000 in
theorem ggL_law_X8_refine : GoodIn wsL_law wsX8_refine := goodIn_r _ [636, 179, 19, 15, 31, 171, 172, 481, 482, 2, 483, 516, 517, 518, 18, 519, 101, 102, 103, 520, 521, 316, 522, 523, 524, 525, 14, 526, 64, 65, 66, 67, 49, 527, 220, 221, 222, 50, 51, 53, 528, 216, 217, 38, 218, 58, 219, 59, 197, 198, 199, 30, 200, 201, 202, 203, 204, 205, 206, 207, 208, 209, 210, 211, 212, 213, 126, 214, 215, 223, 224, 225, 226, 227, 228, 229, 230, 231, 232, 233, 234, 235, 236, 237, 238, 239, 240, 241, 242, 243, 80, 81, 82, 83, 84, 85, 86, 87, 244, 245, 246, 247, 248, 185, 186, 187, 188, 189, 190, 249, 250, 251, 252, 184, 253, 254, 255, 256, 257, 258, 259, 260, 261, 262, 263, 264, 265, 266, 267, 268, 269, 270, 271, 272, 273, 274, 275, 276, 277, 278, 279, 787, 788, 789, 790, 791, 792, 793, 794, 812, 813, 814, 815, 816, 817, 818, 819, 833, 834, 820, 821, 822, 829] (by decide +kernel) (by decide +kernel)
set_option maxRecDepth 20000 in
theorem gL_law_X8_refine : GoodIn wsL_law (wsV RL 81 RX8 yX8_refine wsX8_refine) := goodIn_app (goodIn_of _ (by decide +kernel)) ggL_law_X8_refine
set_option maxRecDepth 20000 in
theorem ggL_law_X9_refine : GoodIn wsL_law wsX9_refine := goodIn_r _ [640, 336, 147, 430, 431, 5, 432, 534, 535, 536, 537, 334, 148, 371, 372, 373, 356, 357, 358, 359, 360, 361, 362, 363, 155, 156, 154, 364, 365, 366, 367, 368, 369, 370, 345, 346, 347, 374, 375, 376, 377, 378, 379, 380, 381, 382, 383, 384, 385, 386, 387, 388, 389, 390, 391, 392, 393, 394, 395, 396, 397, 398, 399, 400, 401, 402, 403, 404, 405, 337, 338, 339, 340, 795, 796, 797, 798, 799, 800, 801, 802, 803, 804, 805, 806, 807, 808, 809, 810, 811] (by decide +kernel) (by decide +kernel)
set_option maxRecDepth 20000 in
theorem gL_law_X9_refine : GoodIn wsL_law (wsV RL 84 RX9 yX9_refine wsX9_refine) := goodIn_app (goodIn_of _ (by decide +kernel)) ggL_law_X9_refine
set_option maxRecDepth 20000 in
theorem ggL_law_X8_join : GoodIn wsL_law wsX8_join := goodIn_r _ [644, 15, 171, 172, 437, 19, 516, 517, 518, 18, 519, 101, 102, 103, 520, 521, 316, 522, 523, 524, 525, 14, 526, 64, 65, 66, 67, 49, 527, 220, 221, 222, 50, 51, 53, 528, 216, 217, 38, 218, 58, 219, 59, 645, 646, 647, 648, 232, 233, 234, 235, 293, 294, 295, 296, 787, 788, 789, 790, 791, 792, 793, 794, 812, 813, 814, 815, 816, 817, 818, 819, 833, 834, 820, 821, 822] (by decide +kernel) (by decide +kernel)
set_option maxRecDepth 20000 in
theorem gL_law_X8_join : GoodIn wsL_law (wsV RL 85 RX8 yX8_join wsX8_join) := goodIn_app (goodIn_of _ (by decide +kernel)) ggL_law_X8_join
set_option maxRecDepth 20000 in
theorem ggL_law_X9_join : GoodIn wsL_law wsX9_join := goodIn_r _ [652, 147, 450, 337, 338, 339, 5, 340, 430, 431, 432, 534, 535, 536, 537, 334, 148, 371, 372, 373, 795, 796, 797, 798, 799, 800, 801, 802, 803, 804, 805, 806, 807, 808, 809, 810, 811] (by decide +kernel) (by decide +kernel)
set_option maxRecDepth 20000 in
theorem gL_law_X9_join : GoodIn wsL_law (wsV RL 88 RX9 yX9_join wsX9_join) := goodIn_app (goodIn_of _ (by decide +kernel)) ggL_law_X9_join
set_option maxRecDepth 20000 in
theorem ggL_law_X8_arrange : GoodIn wsL_law wsX8_arrange := goodIn_r _ [656, 19, 15, 39, 171, 516, 517, 518, 18, 519, 101, 102, 103, 520, 521, 316, 522, 523, 524, 525, 14, 526, 64, 65, 66, 67, 49, 527, 220, 221, 222, 50, 51, 53, 528, 216, 217, 38, 218, 58, 219, 59, 657, 658, 254, 255, 256, 257, 258, 259, 260, 261, 186, 262, 263, 659, 660, 661, 662, 663, 229, 230, 231, 232, 233, 234, 235, 787, 788, 789, 790, 791, 792, 793, 794, 812, 813, 814, 815, 816, 817, 818, 819, 820, 821, 822, 833, 834] (by decide +kernel) (by decide +kernel)
set_option maxRecDepth 20000 in
theorem gL_law_X8_arrange : GoodIn wsL_law (wsV RL 89 RX8 yX8_arrange wsX8_arrange) := goodIn_app (goodIn_of _ (by decide +kernel)) ggL_law_X8_arrange
set_option maxRecDepth 20000 in
theorem ggL_law_X9_arrange : GoodIn wsL_law wsX9_arrange := goodIn_r _ [667, 147, 157, 534, 535, 536, 5, 537, 334, 148, 371, 372, 373, 374, 375, 376, 377, 154, 378, 379, 380, 381, 382, 383, 384, 385, 364, 365, 366, 337, 338, 339, 340, 414, 415, 416, 417, 795, 796, 797, 798, 799, 800, 801, 802, 803, 804, 805, 806, 807, 808, 809, 810, 811] (by decide +kernel) (by decide +kernel)
set_option maxRecDepth 20000 in
theorem gL_law_X9_arrange : GoodIn wsL_law (wsV RL 92 RX9 yX9_arrange wsX9_arrange) := goodIn_app (goodIn_of _ (by decide +kernel)) ggL_law_X9_arrange
set_option maxRecDepth 20000 in
theorem ggL_law_X8_drift : GoodIn wsL_law wsX8_drift := goodIn_r _ [671, 179, 19, 15, 43, 516, 517, 518, 18, 519, 101, 102, 103, 520, 521, 316, 522, 523, 524, 525, 14, 526, 64, 65, 66, 67, 49, 527, 220, 221, 222, 50, 51, 53, 528, 216, 217, 38, 218, 58, 219, 59, 672, 673, 674, 42, 675, 676, 677, 678, 679, 680, 681, 142, 682, 683, 684, 685, 686, 687, 688, 689, 690, 547, 548, 549, 80, 81, 82, 83, 691, 692, 693, 694, 695, 696, 697, 698, 699, 700, 701, 702, 77, 78, 79, 84, 85, 86, 87, 180, 181, 182, 183, 184, 185, 186, 187, 188, 189, 190, 787, 788, 789, 790, 791, 792, 793, 794, 820, 821, 822, 812, 813, 814, 815, 816, 817, 818, 819, 833, 834, 835] (by decide +kernel) (by decide +kernel)
set_option maxRecDepth 20000 in
theorem gL_law_X8_drift : GoodIn wsL_law (wsV RL 93 RX8 yX8_drift wsX8_drift) := goodIn_app (goodIn_of _ (by decide +kernel)) ggL_law_X8_drift
set_option maxRecDepth 20000 in
theorem ggL_law_X9_drift : GoodIn wsL_law wsX9_drift := goodIn_r _ [706, 336, 430, 431, 5, 432, 707, 708, 709, 710, 147, 534, 535, 536, 537, 334, 148, 371, 372, 373, 711, 712, 713, 714, 335, 715, 716, 717, 718, 554, 555, 556, 557, 341, 342, 343, 344, 345, 346, 347, 795, 796, 797, 798, 799, 800, 801, 802, 803, 804, 805, 806, 807, 808, 809, 810, 811] (by decide +kernel) (by decide +kernel)
set_option maxRecDepth 20000 in
theorem gL_law_X9_drift : GoodIn wsL_law (wsV RL 96 RX9 yX9_drift wsX9_drift) := goodIn_app (goodIn_of _ (by decide +kernel)) ggL_law_X9_drift
set_option maxRecDepth 20000 in
theorem ggL_law_X8_undo : GoodIn wsL_law wsX8_undo := goodIn_r _ [722, 179, 19, 177, 723, 15, 724, 725, 726, 18, 727, 102, 101, 103, 728, 729, 730, 731, 523, 524, 525, 14, 526, 64, 65, 66, 67, 49, 527, 220, 221, 222, 50, 51, 53, 528, 216, 217, 38, 218, 58, 219, 59, 787, 788, 789, 790, 791, 792, 793, 794, 820, 821, 822, 812, 813, 814, 815, 816, 817, 818, 819, 833, 834] (by decide +kernel) (by decide +kernel)
set_option maxRecDepth 20000 in
theorem gL_law_X8_undo : GoodIn wsL_law (wsV RL 97 RX8 yX8_undo wsX8_undo) := goodIn_app (goodIn_of _ (by decide +kernel)) ggL_law_X8_undo
set_option maxRecDepth 20000 in
theorem ggL_law_X9_undo : GoodIn wsL_law wsX9_undo := goodIn_r _ [735, 336, 334, 736, 148, 147, 430, 431, 5, 432, 371, 372, 373, 795, 796, 797, 798, 799, 800, 801, 802, 803, 804, 805, 806, 807, 808, 809, 810, 811] (by decide +kernel) (by decide +kernel)
set_option maxRecDepth 20000 in
theorem gL_law_X9_undo : GoodIn wsL_law (wsV RL 100 RX9 yX9_undo wsX9_undo) := goodIn_app (goodIn_of _ (by decide +kernel)) ggL_law_X9_undo
set_option maxRecDepth 20000 in
theorem ggL_law_X8_write : GoodIn wsL_law wsX8_write := goodIn_r _ [740, 15, 437, 23, 176, 741, 440, 81, 82, 14, 83, 64, 742, 743, 744, 22, 745, 111, 109, 110, 787, 788, 789, 790, 791, 792, 793, 794, 823, 824, 825, 812, 813, 814, 815, 816, 817, 818, 819] (by decide +kernel) (by decide +kernel)
set_option maxRecDepth 20000 in
theorem gL_law_X8_write : GoodIn wsL_law (wsV RL 101 RX8 yX8_write wsX8_write) := goodIn_app (goodIn_of _ (by decide +kernel)) ggL_law_X8_write
set_option maxRecDepth 20000 in
theorem ggL_law_X9_write : GoodIn wsL_law wsX9_write := goodIn_r _ [749, 450, 333, 750, 152, 153, 426, 427, 428, 5, 429, 147, 430, 431, 432, 795, 796, 797, 798, 799, 800, 801, 802, 803, 804, 805, 806, 807, 808, 809, 810, 811] (by decide +kernel) (by decide +kernel)
set_option maxRecDepth 20000 in
theorem gL_law_X9_write : GoodIn wsL_law (wsV RL 104 RX9 yX9_write wsX9_write) := goodIn_app (goodIn_of _ (by decide +kernel)) ggL_law_X9_write
set_option maxRecDepth 20000 in
theorem ggL_law_X8_tear : GoodIn wsL_law wsX8_tear := goodIn_r _ [754, 23, 176, 787, 788, 789, 790, 791, 792, 793, 794, 823, 824, 825] (by decide +kernel) (by decide +kernel)
set_option maxRecDepth 20000 in
theorem gL_law_X8_tear : GoodIn wsL_law (wsV RL 105 RX8 yX8_tear wsX8_tear) := goodIn_app (goodIn_of _ (by decide +kernel)) ggL_law_X8_tear
set_option maxRecDepth 20000 in
theorem ggL_law_X9_tear : GoodIn wsL_law wsX9_tear := goodIn_r _ [758, 333, 795, 796, 797, 798, 799, 800, 801, 802, 803, 804, 805, 806, 807, 808, 809, 810, 811] (by decide +kernel) (by decide +kernel)
set_option maxRecDepth 20000 in
theorem gL_law_X9_tear : GoodIn wsL_law (wsV RL 108 RX9 yX9_tear wsX9_tear) := goodIn_app (goodIn_of _ (by decide +kernel)) ggL_law_X9_tear
set_option maxRecDepth 20000 in
theorem ggL_law_X8_seed : GoodIn wsL_law wsX8_seed := goodIn_r _ [762, 179, 43, 178, 787, 788, 789, 790, 791, 792, 793, 794, 835] (by decide +kernel) (by decide +kernel)
set_option maxRecDepth 20000 in
theorem gL_law_X8_seed : GoodIn wsL_law (wsV RL 109 RX8 yX8_seed wsX8_seed) := goodIn_app (goodIn_of _ (by decide +kernel)) ggL_law_X8_seed
set_option maxRecDepth 20000 in
theorem ggL_law_X9_seed : GoodIn wsL_law wsX9_seed := goodIn_r _ [766, 336, 335, 795, 796, 797, 798, 799, 800, 801, 802, 803, 804, 805, 806, 807, 808, 809, 810, 811] (by decide +kernel) (by decide +kernel)
set_option maxRecDepth 20000 in
theorem gL_law_X9_seed : GoodIn wsL_law (wsV RL 112 RX9 yX9_seed wsX9_seed) := goodIn_app (goodIn_of _ (by decide +kernel)) ggL_law_X9_seed
set_option maxRecDepth 20000 in
theorem ggL_law_X8_keep : GoodIn wsL_law wsX8_keep := goodIn_r _ [770, 437, 25, 771, 772, 15, 43, 178, 773, 19, 177, 774, 524, 525, 14, 526, 64, 65, 66, 67, 49, 527, 220, 221, 222, 50, 51, 53, 528, 216, 217, 38, 218, 58, 219, 59, 787, 788, 789, 790, 791, 792, 793, 794, 826, 827, 828, 835, 820, 821, 822, 812, 813, 814, 815, 816, 817, 818, 819, 833, 834] (by decide +kernel) (by decide +kernel)
set_option maxRecDepth 20000 in
theorem gL_law_X8_keep : GoodIn wsL_law (wsV RL 113 RX8 yX8_keep wsX8_keep) := goodIn_app (goodIn_of _ (by decide +kernel)) ggL_law_X8_keep
set_option maxRecDepth 20000 in
theorem ggL_law_X9_keep : GoodIn wsL_law wsX9_keep := goodIn_r _ [778, 450, 151, 147, 149, 335, 334, 430, 431, 5, 432, 371, 372, 373, 795, 796, 797, 798, 799, 800, 801, 802, 803, 804, 805, 806, 807, 808, 809, 810, 811] (by decide +kernel) (by decide +kernel)
set_option maxRecDepth 20000 in
theorem gL_law_X9_keep : GoodIn wsL_law (wsV RL 116 RX9 yX9_keep wsX9_keep) := goodIn_app (goodIn_of _ (by decide +kernel)) ggL_law_X9_keep
set_option maxRecDepth 20000 in
theorem ggL_law_X8_goBack : GoodIn wsL_law wsX8_goBack := goodIn_r _ [782, 437, 25, 771, 723, 15, 772, 43, 773, 178, 19, 177, 774, 524, 525, 14, 526, 64, 65, 66, 67, 49, 527, 220, 221, 222, 50, 51, 53, 528, 216, 217, 38, 218, 58, 219, 59, 787, 788, 789, 790, 791, 792, 793, 794, 826, 827, 828, 835, 820, 821, 822, 812, 813, 814, 815, 816, 817, 818, 819, 833, 834] (by decide +kernel) (by decide +kernel)
set_option maxRecDepth 20000 in
theorem gL_law_X8_goBack : GoodIn wsL_law (wsV RL 117 RX8 yX8_goBack wsX8_goBack) := goodIn_app (goodIn_of _ (by decide +kernel)) ggL_law_X8_goBack
set_option maxRecDepth 20000 in
theorem ggL_law_X9_goBack : GoodIn wsL_law wsX9_goBack := goodIn_r _ [786, 450, 151, 736, 149, 147, 335, 334, 430, 431, 5, 432, 371, 372, 373, 795, 796, 797, 798, 799, 800, 801, 802, 803, 804, 805, 806, 807, 808, 809, 810, 811] (by decide +kernel) (by decide +kernel)
set_option maxRecDepth 20000 in
theorem gL_law_X9_goBack : GoodIn wsL_law (wsV RL 120 RX9 yX9_goBack wsX9_goBack) := goodIn_app (goodIn_of _ (by decide +kernel)) ggL_law_X9_goBack
