set_option maxRecDepth 20000 in
theorem ggL_law_X7_init : GoodIn wsL_law wsX7_init := goodIn_r _ [9, 10, 11, 12, 13, 14, 15, 16, 17, 18, 19, 20, 21, 22, 23, 24, 25, 26, 27, 28, 29, 30, 31, 32, 33, 34, 35, 36, 37, 38, 39, 40, 41, 42, 43, 44, 45, 46, 47, 48, 49, 50, 51, 52, 53, 54, 55, 56, 57, 58, 59, 60, 61, 62, 63, 64, 65, 66, 67, 68, 803, 804, 805, 776, 777, 778, 779, 780, 781, 782, 783, 806, 807, 808, 809, 810, 811, 812, 813, 814, 815, 816, 817, 818, 819, 820, 821, 822, 823, 824, 825] (by decide +kernel) (by decide +kernel)
set_option maxRecDepth 20000 in
theorem gL_law_X7_init : GoodIn wsL_law (wsX7_init) := ggL_law_X7_init
set_option maxRecDepth 20000 in
theorem ggL_law_X8_init : GoodIn wsL_law wsX8_init := goodIn_r _ [71, 72, 11, 12, 73, 74, 29, 75, 76, 77, 78, 79, 40, 80, 81, 82, 83, 84, 85, 86, 87, 88, 89, 90, 784, 785, 786, 787, 788, 789, 790, 791, 792, 793, 794, 795, 796, 797, 798, 799, 800, 801, 802] (by decide +kernel) (by decide +kernel)
set_option maxRecDepth 20000 in
theorem gL_law_X8_init : GoodIn wsL_law (wsX8_init) := ggL_law_X8_init
set_option maxRecDepth 20000 in
theorem ggL_law_X7_type : GoodIn wsL_law wsX7_type := goodIn_r _ [94, 16, 95, 96, 97, 2, 98, 99, 100, 15, 101, 102, 103, 104, 105, 106, 107, 108, 109, 41, 776, 777, 778, 779, 780, 781, 782, 783, 803, 804, 805] (by decide +kernel) (by decide +kernel)
set_option maxRecDepth 20000 in
theorem gL_law_X7_type : GoodIn wsL_law (wsV RL 15 RX7 yX7_type wsX7_type) := goodIn_app (goodIn_of _ (by decide +kernel)) ggL_law_X7_type
set_option maxRecDepth 20000 in
theorem ggL_law_X8_type : GoodIn wsL_law wsX8_type := goodIn_r _ [113, 114, 115, 116, 117, 118, 80, 119, 120, 5, 121, 784, 785, 786, 787, 788, 789, 790, 791, 792, 793, 794, 795, 796, 797, 798, 799, 800, 801, 802] (by decide +kernel) (by decide +kernel)
set_option maxRecDepth 20000 in
theorem gL_law_X8_type : GoodIn wsL_law (wsV RL 19 RX8 yX8_type wsX8_type) := goodIn_app (goodIn_of _ (by decide +kernel)) ggL_law_X8_type
set_option maxRecDepth 20000 in
theorem ggL_law_X7_line : GoodIn wsL_law wsX7_line := goodIn_r _ [125, 16, 30, 126, 95, 24, 127, 128, 2, 129, 96, 97, 98, 130, 131, 132, 15, 133, 134, 135, 136, 137, 138, 139, 140, 141, 142, 143, 144, 145, 146, 109, 41, 147, 148, 149, 150, 151, 152, 153, 154, 155, 156, 157, 158, 159, 160, 161, 162, 163, 164, 165, 166, 167, 168, 169, 170, 171, 172, 23, 173, 45, 46, 174, 175, 176, 177, 178, 179, 180, 181, 182, 183, 184, 185, 186, 187, 188, 189, 190, 191, 192, 193, 194, 195, 196, 197, 198, 199, 200, 201, 202, 203, 204, 205, 206, 207, 208, 209, 210, 211, 212, 213, 47, 214, 215, 216, 217, 218, 219, 220, 221, 222, 223, 224, 18, 225, 226, 227, 28, 228, 229, 230, 231, 27, 232, 233, 234, 235, 236, 237, 238, 239, 240, 34, 241, 60, 242, 243, 244, 245, 246, 247, 51, 248, 249, 250, 251, 52, 53, 54, 252, 253, 254, 255, 256, 257, 258, 259, 260, 55, 261, 262, 263, 264, 265, 266, 267, 268, 269, 270, 271, 272, 273, 274, 275, 276, 277, 278, 279, 280, 281, 282, 283, 284, 285, 286, 287, 288, 289, 290, 291, 292, 293, 294, 295, 296, 297, 298, 299, 300, 301, 302, 303, 304, 305, 306, 307, 308, 309, 310, 311, 56, 312, 313, 314, 315, 316, 317, 318, 319, 320, 321, 322, 323, 324, 325, 326, 327, 328, 329, 330, 331, 332, 333, 334, 335, 336, 337, 338, 776, 777, 778, 779, 780, 781, 782, 783, 803, 804, 805, 806, 807, 808, 815, 816, 817, 818, 819, 820, 821, 822, 809, 810, 811, 812, 813, 814] (by decide +kernel) (by decide +kernel)
set_option maxRecDepth 20000 in
theorem gL_law_X7_line : GoodIn wsL_law (wsV RL 20 RX7 yX7_line wsX7_line) := goodIn_app (goodIn_of _ (by decide +kernel)) ggL_law_X7_line
set_option maxRecDepth 20000 in
theorem ggL_law_X8_line : GoodIn wsL_law wsX8_line := goodIn_r _ [342, 118, 343, 344, 345, 5, 346, 347, 119, 120, 121, 348, 349, 350, 351, 76, 352, 353, 354, 355, 356, 357, 358, 359, 80, 360, 361, 362, 363, 364, 365, 366, 367, 368, 369, 77, 78, 370, 371, 75, 74, 372, 373, 374, 375, 376, 377, 378, 379, 380, 381, 382, 383, 384, 385, 386, 387, 388, 389, 390, 391, 392, 393, 394, 395, 396, 397, 398, 399, 400, 401, 402, 403, 404, 405, 406, 407, 408, 409, 410, 411, 412, 413, 414, 79, 415, 416, 417, 418, 419, 420, 421, 422, 784, 785, 786, 787, 788, 789, 790, 791, 792, 793, 794, 795, 796, 797, 798, 799, 800, 801, 802] (by decide +kernel) (by decide +kernel)
set_option maxRecDepth 20000 in
theorem gL_law_X8_line : GoodIn wsL_law (wsV RL 24 RX8 yX8_line wsX8_line) := goodIn_app (goodIn_of _ (by decide +kernel)) ggL_law_X8_line
set_option maxRecDepth 20000 in
theorem ggL_law_X7_drop : GoodIn wsL_law wsX7_drop := goodIn_r _ [426, 18, 227, 228, 427, 428, 429, 2, 430, 127, 128, 129, 96, 97, 98, 776, 777, 778, 779, 780, 781, 782, 783, 815, 816, 817, 818, 819, 820, 821, 822] (by decide +kernel) (by decide +kernel)
set_option maxRecDepth 20000 in
theorem gL_law_X7_drop : GoodIn wsL_law (wsV RL 25 RX7 yX7_drop wsX7_drop) := goodIn_app (goodIn_of _ (by decide +kernel)) ggL_law_X7_drop
set_option maxRecDepth 20000 in
theorem ggL_law_X8_drop : GoodIn wsL_law wsX8_drop := goodIn_r _ [434, 74, 435, 436, 437, 5, 438, 344, 345, 346, 347, 119, 120, 121, 403, 404, 405, 406, 407, 408, 409, 410, 75, 372, 373, 374, 411, 412, 413, 414, 79, 415, 416, 417, 418, 419, 420, 421, 422, 784, 785, 786, 787, 788, 789, 790, 791, 792, 793, 794, 795, 796, 797, 798, 799, 800, 801, 802] (by decide +kernel) (by decide +kernel)
set_option maxRecDepth 20000 in
theorem gL_law_X8_drop : GoodIn wsL_law (wsV RL 28 RX8 yX8_drop wsX8_drop) := goodIn_app (goodIn_of _ (by decide +kernel)) ggL_law_X8_drop
set_option maxRecDepth 20000 in
theorem ggL_law_X7_kind : GoodIn wsL_law wsX7_kind := goodIn_r _ [442, 18, 228, 427, 428, 429, 2, 430, 227, 127, 128, 129, 96, 97, 98, 776, 777, 778, 779, 780, 781, 782, 783, 815, 816, 817, 818, 819, 820, 821, 822] (by decide +kernel) (by decide +kernel)
set_option maxRecDepth 20000 in
theorem gL_law_X7_kind : GoodIn wsL_law (wsV RL 29 RX7 yX7_kind wsX7_kind) := goodIn_app (goodIn_of _ (by decide +kernel)) ggL_law_X7_kind
set_option maxRecDepth 20000 in
theorem ggL_law_X8_kind : GoodIn wsL_law wsX8_kind := goodIn_r _ [446, 435, 436, 437, 5, 438, 74, 344, 345, 346, 347, 119, 120, 121, 403, 404, 405, 406, 407, 408, 409, 410, 75, 372, 373, 374, 411, 412, 413, 414, 79, 415, 416, 417, 418, 419, 420, 421, 422, 784, 785, 786, 787, 788, 789, 790, 791, 792, 793, 794, 795, 796, 797, 798, 799, 800, 801, 802] (by decide +kernel) (by decide +kernel)
set_option maxRecDepth 20000 in
theorem gL_law_X8_kind : GoodIn wsL_law (wsV RL 32 RX8 yX8_kind wsX8_kind) := goodIn_app (goodIn_of _ (by decide +kernel)) ggL_law_X8_kind
set_option maxRecDepth 20000 in
theorem ggL_law_X7_degree : GoodIn wsL_law wsX7_degree := goodIn_r _ [450, 18, 451, 427, 428, 429, 2, 430, 227, 127, 128, 129, 96, 97, 98, 776, 777, 778, 779, 780, 781, 782, 783, 815, 816, 817, 818, 819, 820, 821, 822] (by decide +kernel) (by decide +kernel)
set_option maxRecDepth 20000 in
theorem gL_law_X7_degree : GoodIn wsL_law (wsV RL 33 RX7 yX7_degree wsX7_degree) := goodIn_app (goodIn_of _ (by decide +kernel)) ggL_law_X7_degree
set_option maxRecDepth 20000 in
theorem ggL_law_X8_degree : GoodIn wsL_law wsX8_degree := goodIn_r _ [455, 435, 436, 437, 5, 438, 74, 344, 345, 346, 347, 119, 120, 121, 407, 408, 409, 410, 75, 372, 373, 374, 784, 785, 786, 787, 788, 789, 790, 791, 792, 793, 794, 795, 796, 797, 798, 799, 800, 801, 802] (by decide +kernel) (by decide +kernel)
set_option maxRecDepth 20000 in
theorem gL_law_X8_degree : GoodIn wsL_law (wsV RL 36 RX8 yX8_degree wsX8_degree) := goodIn_app (goodIn_of _ (by decide +kernel)) ggL_law_X8_degree
set_option maxRecDepth 20000 in
theorem ggL_law_X7_told : GoodIn wsL_law wsX7_told := goodIn_r _ [459, 18, 96, 97, 2, 98, 427, 428, 429, 430, 227, 127, 128, 129, 460, 239, 240, 34, 241, 60, 776, 777, 778, 779, 780, 781, 782, 783, 815, 816, 817, 818, 819, 820, 821, 822] (by decide +kernel) (by decide +kernel)
set_option maxRecDepth 20000 in
theorem gL_law_X7_told : GoodIn wsL_law (wsV RL 37 RX7 yX7_told wsX7_told) := goodIn_app (goodIn_of _ (by decide +kernel)) ggL_law_X7_told
set_option maxRecDepth 20000 in
theorem ggL_law_X8_told : GoodIn wsL_law wsX8_told := goodIn_r _ [464, 465, 347, 75, 119, 120, 5, 121, 435, 436, 437, 438, 74, 344, 345, 346, 784, 785, 786, 787, 788, 789, 790, 791, 792, 793, 794, 795, 796, 797, 798, 799, 800, 801, 802] (by decide +kernel) (by decide +kernel)
set_option maxRecDepth 20000 in
theorem gL_law_X8_told : GoodIn wsL_law (wsV RL 41 RX8 yX8_told wsX8_told) := goodIn_app (goodIn_of _ (by decide +kernel)) ggL_law_X8_told
set_option maxRecDepth 20000 in
theorem ggL_law_X7_at : GoodIn wsL_law wsX7_at := goodIn_r _ [469, 470, 471, 18, 472, 473, 474, 2, 475, 96, 97, 98, 427, 428, 429, 430, 227, 127, 128, 129, 476, 477, 478, 34, 479, 269, 239, 240, 241, 60, 480, 190, 183, 191, 192, 193, 164, 194, 776, 777, 778, 779, 780, 781, 782, 783, 815, 816, 817, 818, 819, 820, 821, 822] (by decide +kernel) (by decide +kernel)
set_option maxRecDepth 20000 in
theorem gL_law_X7_at : GoodIn wsL_law (wsV RL 42 RX7 yX7_at wsX7_at) := goodIn_app (goodIn_of _ (by decide +kernel)) ggL_law_X7_at
set_option maxRecDepth 20000 in
theorem ggL_law_X8_at : GoodIn wsL_law wsX8_at := goodIn_r _ [484, 485, 486, 487, 488, 5, 489, 490, 491, 119, 120, 121, 435, 436, 437, 438, 74, 344, 345, 346, 347, 492, 493, 494, 495, 75, 382, 383, 384, 784, 785, 786, 787, 788, 789, 790, 791, 792, 793, 794, 795, 796, 797, 798, 799, 800, 801, 802] (by decide +kernel) (by decide +kernel)
set_option maxRecDepth 20000 in
theorem gL_law_X8_at : GoodIn wsL_law (wsV RL 46 RX8 yX8_at wsX8_at) := goodIn_app (goodIn_of _ (by decide +kernel)) ggL_law_X8_at
set_option maxRecDepth 20000 in
theorem ggL_law_X7_far : GoodIn wsL_law wsX7_far := goodIn_r _ [499, 18, 451, 96, 97, 2, 98, 427, 428, 429, 430, 227, 127, 128, 129, 460, 239, 240, 34, 241, 60, 776, 777, 778, 779, 780, 781, 782, 783, 815, 816, 817, 818, 819, 820, 821, 822] (by decide +kernel) (by decide +kernel)
set_option maxRecDepth 20000 in
theorem gL_law_X7_far : GoodIn wsL_law (wsV RL 47 RX7 yX7_far wsX7_far) := goodIn_app (goodIn_of _ (by decide +kernel)) ggL_law_X7_far
set_option maxRecDepth 20000 in
theorem ggL_law_X8_far : GoodIn wsL_law wsX8_far := goodIn_r _ [503, 465, 75, 119, 120, 5, 121, 435, 436, 437, 438, 74, 344, 345, 346, 347, 407, 408, 409, 410, 372, 373, 374, 784, 785, 786, 787, 788, 789, 790, 791, 792, 793, 794, 795, 796, 797, 798, 799, 800, 801, 802] (by decide +kernel) (by decide +kernel)
set_option maxRecDepth 20000 in
theorem gL_law_X8_far : GoodIn wsL_law (wsV RL 51 RX8 yX8_far wsX8_far) := goodIn_app (goodIn_of _ (by decide +kernel)) ggL_law_X8_far
set_option maxRecDepth 20000 in
theorem ggL_law_X7_equation : GoodIn wsL_law wsX7_equation := goodIn_r _ [507, 508, 509, 18, 510, 96, 97, 2, 98, 511, 512, 513, 514, 228, 427, 428, 429, 430, 227, 127, 128, 129, 776, 777, 778, 779, 780, 781, 782, 783, 815, 816, 817, 818, 819, 820, 821, 822] (by decide +kernel) (by decide +kernel)
set_option maxRecDepth 20000 in
theorem gL_law_X7_equation : GoodIn wsL_law (wsV RL 52 RX7 yX7_equation wsX7_equation) := goodIn_app (goodIn_of _ (by decide +kernel)) ggL_law_X7_equation
set_option maxRecDepth 20000 in
theorem ggL_law_X8_equation : GoodIn wsL_law wsX8_equation := goodIn_r _ [518, 371, 519, 83, 119, 120, 5, 121, 435, 436, 437, 438, 74, 344, 345, 346, 347, 403, 404, 405, 406, 407, 408, 409, 410, 75, 372, 373, 374, 411, 412, 413, 414, 79, 415, 416, 417, 418, 419, 420, 421, 422, 520, 521, 522, 523, 82, 524, 465, 525, 526, 527, 528, 529, 530, 531, 532, 533, 534, 535, 382, 383, 384, 784, 785, 786, 787, 788, 789, 790, 791, 792, 793, 794, 795, 796, 797, 798, 799, 800, 801, 802] (by decide +kernel) (by decide +kernel)
set_option maxRecDepth 20000 in
theorem gL_law_X8_equation : GoodIn wsL_law (wsV RL 56 RX8 yX8_equation wsX8_equation) := goodIn_app (goodIn_of _ (by decide +kernel)) ggL_law_X8_equation
set_option maxRecDepth 20000 in
theorem ggL_law_X7_bends : GoodIn wsL_law wsX7_bends := goodIn_r _ [539, 18, 511, 512, 513, 2, 514, 228, 427, 428, 429, 430, 227, 127, 128, 129, 96, 97, 98, 540, 541, 542, 34, 543, 544, 545, 776, 777, 778, 779, 780, 781, 782, 783, 815, 816, 817, 818, 819, 820, 821, 822] (by decide +kernel) (by decide +kernel)
set_option maxRecDepth 20000 in
theorem gL_law_X7_bends : GoodIn wsL_law (wsV RL 57 RX7 yX7_bends wsX7_bends) := goodIn_app (goodIn_of _ (by decide +kernel)) ggL_law_X7_bends
set_option maxRecDepth 20000 in
theorem ggL_law_X8_bends : GoodIn wsL_law wsX8_bends := goodIn_r _ [549, 435, 436, 437, 5, 438, 74, 344, 345, 346, 347, 119, 120, 121, 403, 404, 405, 406, 407, 408, 409, 410, 75, 372, 373, 374, 411, 412, 413, 414, 79, 415, 416, 417, 418, 419, 420, 421, 422, 784, 785, 786, 787, 788, 789, 790, 791, 792, 793, 794, 795, 796, 797, 798, 799, 800, 801, 802] (by decide +kernel) (by decide +kernel)
set_option maxRecDepth 20000 in
theorem gL_law_X8_bends : GoodIn wsL_law (wsV RL 60 RX8 yX8_bends wsX8_bends) := goodIn_app (goodIn_of _ (by decide +kernel)) ggL_law_X8_bends
set_option maxRecDepth 20000 in
theorem ggL_law_X7_times : GoodIn wsL_law wsX7_times := goodIn_r _ [553, 18, 228, 451, 511, 512, 513, 2, 514, 427, 428, 429, 430, 227, 127, 128, 129, 96, 97, 98, 776, 777, 778, 779, 780, 781, 782, 783, 815, 816, 817, 818, 819, 820, 821, 822] (by decide +kernel) (by decide +kernel)
set_option maxRecDepth 20000 in
theorem gL_law_X7_times : GoodIn wsL_law (wsV RL 61 RX7 yX7_times wsX7_times) := goodIn_app (goodIn_of _ (by decide +kernel)) ggL_law_X7_times
set_option maxRecDepth 20000 in
theorem ggL_law_X8_times : GoodIn wsL_law wsX8_times := goodIn_r _ [557, 558, 547, 548, 5, 549, 435, 436, 437, 438, 74, 344, 345, 346, 347, 119, 120, 121, 403, 404, 405, 406, 407, 408, 409, 410, 75, 372, 373, 374, 411, 412, 413, 414, 79, 415, 416, 417, 418, 419, 420, 421, 422, 784, 785, 786, 787, 788, 789, 790, 791, 792, 793, 794, 795, 796, 797, 798, 799, 800, 801, 802] (by decide +kernel) (by decide +kernel)
set_option maxRecDepth 20000 in
theorem gL_law_X8_times : GoodIn wsL_law (wsV RL 64 RX8 yX8_times wsX8_times) := goodIn_app (goodIn_of _ (by decide +kernel)) ggL_law_X8_times
set_option maxRecDepth 20000 in
theorem ggL_law_X7_lies : GoodIn wsL_law wsX7_lies := goodIn_r _ [562, 18, 96, 97, 2, 98, 427, 428, 429, 430, 227, 127, 128, 129, 563, 564, 565, 34, 566, 544, 61, 269, 239, 240, 241, 60, 567, 297, 298, 299, 300, 301, 164, 302, 303, 304, 305, 568, 569, 570, 776, 777, 778, 779, 780, 781, 782, 783, 815, 816, 817, 818, 819, 820, 821, 822] (by decide +kernel) (by decide +kernel)
set_option maxRecDepth 20000 in
theorem gL_law_X7_lies : GoodIn wsL_law (wsV RL 65 RX7 yX7_lies wsX7_lies) := goodIn_app (goodIn_of _ (by decide +kernel)) ggL_law_X7_lies
set_option maxRecDepth 20000 in
theorem ggL_law_X8_lies : GoodIn wsL_law wsX8_lies := goodIn_r _ [574, 490, 491, 75, 83, 119, 120, 5, 121, 435, 436, 437, 438, 74, 344, 345, 346, 347, 403, 404, 405, 406, 407, 408, 409, 410, 372, 373, 374, 411, 412, 413, 414, 79, 415, 416, 417, 418, 419, 420, 421, 422, 520, 521, 522, 523, 82, 524, 465, 525, 526, 527, 528, 529, 530, 531, 532, 533, 534, 535, 382, 383, 384, 784, 785, 786, 787, 788, 789, 790, 791, 792, 793, 794, 795, 796, 797, 798, 799, 800, 801, 802] (by decide +kernel) (by decide +kernel)
set_option maxRecDepth 20000 in
theorem gL_law_X8_lies : GoodIn wsL_law (wsV RL 69 RX8 yX8_lies wsX8_lies) := goodIn_app (goodIn_of _ (by decide +kernel)) ggL_law_X8_lies
set_option maxRecDepth 20000 in
theorem ggL_law_X7_law : GoodIn wsL_law wsX7_law := goodIn_r _ [578, 470, 471, 18, 579, 96, 97, 2, 98, 580, 581, 582, 583, 228, 427, 428, 429, 430, 227, 127, 128, 129, 776, 777, 778, 779, 780, 781, 782, 783, 815, 816, 817, 818, 819, 820, 821, 822] (by decide +kernel) (by decide +kernel)
set_option maxRecDepth 20000 in
theorem gL_law_X7_law : GoodIn wsL_law (wsV RL 70 RX7 yX7_law wsX7_law) := goodIn_app (goodIn_of _ (by decide +kernel)) ggL_law_X7_law
set_option maxRecDepth 20000 in
theorem ggL_law_X8_law : GoodIn wsL_law wsX8_law := goodIn_r _ [587, 588, 485, 86, 119, 120, 5, 121, 589, 590, 591, 592, 435, 436, 437, 438, 74, 344, 345, 346, 347, 403, 404, 405, 406, 407, 408, 409, 410, 75, 372, 373, 374, 411, 412, 413, 414, 79, 415, 416, 417, 418, 419, 420, 421, 422, 593, 594, 595, 596, 84, 524, 597, 598, 599, 600, 85, 382, 383, 384, 784, 785, 786, 787, 788, 789, 790, 791, 792, 793, 794, 795, 796, 797, 798, 799, 800, 801, 802] (by decide +kernel) (by decide +kernel)
set_option maxRecDepth 20000 in
theorem gL_law_X8_law : GoodIn wsL_law (wsV RL 73 RX8 yX8_law wsX8_law) := goodIn_app (goodIn_of _ (by decide +kernel)) ggL_law_X8_law
set_option maxRecDepth 20000 in
theorem ggL_law_X7_knot : GoodIn wsL_law wsX7_knot := goodIn_r _ [604, 470, 471, 18, 605, 96, 97, 2, 98, 580, 581, 582, 583, 228, 427, 428, 429, 430, 227, 127, 128, 129, 776, 777, 778, 779, 780, 781, 782, 783, 815, 816, 817, 818, 819, 820, 821, 822] (by decide +kernel) (by decide +kernel)
set_option maxRecDepth 20000 in
theorem gL_law_X7_knot : GoodIn wsL_law (wsV RL 74 RX7 yX7_knot wsX7_knot) := goodIn_app (goodIn_of _ (by decide +kernel)) ggL_law_X7_knot
set_option maxRecDepth 20000 in
theorem ggL_law_X8_knot : GoodIn wsL_law wsX8_knot := goodIn_r _ [609, 465, 485, 81, 119, 120, 5, 121, 589, 590, 591, 592, 435, 436, 437, 438, 74, 344, 345, 346, 347, 403, 404, 405, 406, 407, 408, 409, 410, 75, 372, 373, 374, 411, 412, 413, 414, 79, 415, 416, 417, 418, 419, 420, 421, 422, 610, 611, 612, 613, 86, 593, 594, 595, 596, 84, 524, 597, 598, 599, 600, 85, 382, 383, 384, 614, 615, 616, 617, 784, 785, 786, 787, 788, 789, 790, 791, 792, 793, 794, 795, 796, 797, 798, 799, 800, 801, 802] (by decide +kernel) (by decide +kernel)
set_option maxRecDepth 20000 in
theorem gL_law_X8_knot : GoodIn wsL_law (wsV RL 77 RX8 yX8_knot wsX8_knot) := goodIn_app (goodIn_of _ (by decide +kernel)) ggL_law_X8_knot
set_option maxRecDepth 20000 in
theorem ggL_law_X7_crosses : GoodIn wsL_law wsX7_crosses := goodIn_r _ [621, 18, 622, 580, 581, 582, 2, 583, 228, 427, 428, 429, 430, 227, 127, 128, 129, 96, 97, 98, 776, 777, 778, 779, 780, 781, 782, 783, 815, 816, 817, 818, 819, 820, 821, 822] (by decide +kernel) (by decide +kernel)
set_option maxRecDepth 20000 in
theorem gL_law_X7_crosses : GoodIn wsL_law (wsV RL 78 RX7 yX7_crosses wsX7_crosses) := goodIn_app (goodIn_of _ (by decide +kernel)) ggL_law_X7_crosses
set_option maxRecDepth 20000 in
theorem ggL_law_X8_crosses : GoodIn wsL_law wsX8_crosses := goodIn_r _ [626, 86, 77, 81, 75, 79, 627, 589, 590, 591, 5, 592, 435, 436, 437, 438, 74, 344, 345, 346, 347, 119, 120, 121, 403, 404, 405, 406, 407, 408, 409, 410, 372, 373, 374, 411, 412, 413, 414, 415, 416, 417, 418, 419, 420, 421, 422, 610, 611, 612, 613, 593, 594, 595, 596, 84, 524, 597, 598, 599, 600, 85, 382, 383, 384, 614, 615, 616, 617, 784, 785, 786, 787, 788, 789, 790, 791, 792, 793, 794, 795, 796, 797, 798, 799, 800, 801, 802] (by decide +kernel) (by decide +kernel)
set_option maxRecDepth 20000 in
theorem gL_law_X8_crosses : GoodIn wsL_law (wsV RL 81 RX8 yX8_crosses wsX8_crosses) := goodIn_app (goodIn_of _ (by decide +kernel)) ggL_law_X8_crosses
set_option maxRecDepth 20000 in
theorem ggL_law_X7_meets : GoodIn wsL_law wsX7_meets := goodIn_r _ [631, 31, 18, 96, 97, 2, 98, 427, 428, 429, 430, 227, 127, 128, 129, 632, 266, 267, 34, 268, 269, 239, 240, 241, 60, 633, 275, 183, 276, 634, 635, 636, 637, 638, 639, 182, 184, 640, 641, 642, 643, 644, 645, 646, 336, 337, 338, 776, 777, 778, 779, 780, 781, 782, 783, 815, 816, 817, 818, 819, 820, 821, 822] (by decide +kernel) (by decide +kernel)
set_option maxRecDepth 20000 in
theorem gL_law_X7_meets : GoodIn wsL_law (wsV RL 82 RX7 yX7_meets wsX7_meets) := goodIn_app (goodIn_of _ (by decide +kernel)) ggL_law_X7_meets
set_option maxRecDepth 20000 in
theorem ggL_law_X8_meets : GoodIn wsL_law wsX8_meets := goodIn_r _ [650, 490, 491, 77, 75, 119, 120, 5, 121, 435, 436, 437, 438, 74, 344, 345, 346, 347, 651, 652, 653, 654, 627, 655, 784, 785, 786, 787, 788, 789, 790, 791, 792, 793, 794, 795, 796, 797, 798, 799, 800, 801, 802] (by decide +kernel) (by decide +kernel)
set_option maxRecDepth 20000 in
theorem gL_law_X8_meets : GoodIn wsL_law (wsV RL 85 RX8 yX8_meets wsX8_meets) := goodIn_app (goodIn_of _ (by decide +kernel)) ggL_law_X8_meets
set_option maxRecDepth 20000 in
theorem ggL_law_X7_touch : GoodIn wsL_law wsX7_touch := goodIn_r _ [659, 470, 471, 28, 18, 32, 472, 473, 474, 2, 475, 96, 97, 98, 427, 428, 429, 430, 227, 127, 128, 129, 660, 661, 662, 27, 663, 52, 53, 54, 252, 175, 176, 177, 664, 477, 478, 34, 479, 269, 239, 240, 241, 60, 665, 666, 667, 668, 669, 670, 253, 254, 255, 256, 306, 187, 183, 188, 189, 190, 191, 192, 193, 164, 194, 274, 275, 276, 307, 219, 220, 633, 776, 777, 778, 779, 780, 781, 782, 783, 815, 816, 817, 818, 819, 820, 821, 822, 809, 810, 811, 812, 813, 814] (by decide +kernel) (by decide +kernel)
set_option maxRecDepth 20000 in
theorem gL_law_X7_touch : GoodIn wsL_law (wsV RL 86 RX7 yX7_touch wsX7_touch) := goodIn_app (goodIn_of _ (by decide +kernel)) ggL_law_X7_touch
set_option maxRecDepth 20000 in
theorem ggL_law_X8_touch : GoodIn wsL_law wsX8_touch := goodIn_r _ [674, 465, 485, 81, 79, 486, 487, 488, 5, 489, 490, 491, 119, 120, 121, 435, 436, 437, 438, 74, 344, 345, 346, 347, 492, 493, 494, 495, 75, 675, 676, 677, 678, 419, 420, 421, 422, 614, 615, 616, 617, 382, 383, 384, 784, 785, 786, 787, 788, 789, 790, 791, 792, 793, 794, 795, 796, 797, 798, 799, 800, 801, 802] (by decide +kernel) (by decide +kernel)
set_option maxRecDepth 20000 in
theorem gL_law_X8_touch : GoodIn wsL_law (wsV RL 90 RX8 yX8_touch wsX8_touch) := goodIn_app (goodIn_of _ (by decide +kernel)) ggL_law_X8_touch
set_option maxRecDepth 20000 in
theorem ggL_law_X7_same : GoodIn wsL_law wsX7_same := goodIn_r _ [682, 18, 227, 228, 225, 510, 127, 128, 2, 129, 96, 97, 98, 683, 684, 183, 685, 776, 777, 778, 779, 780, 781, 782, 783, 815, 816, 817, 818, 819, 820, 821, 822] (by decide +kernel) (by decide +kernel)
set_option maxRecDepth 20000 in
theorem gL_law_X7_same : GoodIn wsL_law (wsV RL 91 RX7 yX7_same wsX7_same) := goodIn_app (goodIn_of _ (by decide +kernel)) ggL_law_X7_same
set_option maxRecDepth 20000 in
theorem ggL_law_X8_same : GoodIn wsL_law wsX8_same := goodIn_r _ [689, 74, 75, 87, 83, 344, 345, 5, 346, 347, 119, 120, 121, 403, 404, 405, 406, 407, 408, 409, 410, 372, 373, 374, 411, 412, 413, 414, 79, 415, 416, 417, 418, 419, 420, 421, 422, 520, 521, 522, 523, 82, 524, 465, 525, 526, 527, 528, 529, 530, 531, 532, 533, 534, 535, 382, 383, 384, 784, 785, 786, 787, 788, 789, 790, 791, 792, 793, 794, 795, 796, 797, 798, 799, 800, 801, 802] (by decide +kernel) (by decide +kernel)
set_option maxRecDepth 20000 in
theorem gL_law_X8_same : GoodIn wsL_law (wsV RL 94 RX8 yX8_same wsX8_same) := goodIn_app (goodIn_of _ (by decide +kernel)) ggL_law_X8_same
set_option maxRecDepth 20000 in
theorem ggL_law_X7_anew : GoodIn wsL_law wsX7_anew := goodIn_r _ [693, 30, 18, 451, 31, 96, 97, 2, 98, 427, 428, 429, 430, 227, 127, 128, 129, 694, 136, 137, 138, 695, 696, 697, 460, 239, 240, 34, 241, 60, 698, 215, 23, 216, 217, 178, 179, 180, 181, 182, 183, 184, 186, 187, 188, 189, 190, 191, 192, 193, 164, 194, 218, 219, 220, 200, 201, 202, 203, 204, 205, 221, 222, 223, 224, 225, 226, 175, 176, 177, 28, 228, 229, 230, 231, 27, 232, 233, 234, 235, 236, 237, 238, 242, 243, 244, 245, 246, 247, 51, 248, 249, 250, 251, 52, 53, 54, 252, 253, 254, 255, 256, 257, 258, 259, 260, 55, 261, 262, 263, 264, 265, 266, 267, 268, 269, 270, 271, 272, 273, 274, 275, 276, 277, 278, 279, 280, 281, 282, 283, 284, 285, 286, 287, 288, 289, 290, 291, 292, 293, 294, 295, 296, 297, 298, 299, 300, 301, 302, 303, 304, 305, 306, 307, 308, 309, 310, 311, 56, 312, 313, 314, 315, 316, 317, 318, 319, 320, 321, 322, 323, 324, 325, 326, 327, 328, 329, 330, 331, 332, 333, 334, 335, 336, 337, 338, 776, 777, 778, 779, 780, 781, 782, 783, 815, 816, 817, 818, 819, 820, 821, 822, 809, 810, 811, 812, 813, 814] (by decide +kernel) (by decide +kernel)
set_option maxRecDepth 20000 in
theorem gL_law_X7_anew : GoodIn wsL_law (wsV RL 95 RX7 yX7_anew wsX7_anew) := goodIn_app (goodIn_of _ (by decide +kernel)) ggL_law_X7_anew
set_option maxRecDepth 20000 in
theorem ggL_law_X8_anew : GoodIn wsL_law wsX8_anew := goodIn_r _ [702, 703, 588, 76, 78, 75, 119, 120, 5, 121, 435, 436, 437, 438, 74, 344, 345, 346, 347, 407, 408, 409, 410, 372, 373, 374, 704, 705, 706, 707, 366, 367, 368, 369, 77, 370, 371, 375, 376, 377, 378, 379, 380, 381, 382, 383, 384, 385, 386, 387, 388, 389, 390, 391, 392, 393, 394, 395, 396, 397, 398, 399, 400, 401, 402, 403, 404, 405, 406, 411, 412, 413, 414, 79, 415, 416, 417, 418, 419, 420, 421, 422, 784, 785, 786, 787, 788, 789, 790, 791, 792, 793, 794, 795, 796, 797, 798, 799, 800, 801, 802] (by decide +kernel) (by decide +kernel)
set_option maxRecDepth 20000 in
theorem gL_law_X8_anew : GoodIn wsL_law (wsV RL 99 RX8 yX8_anew wsX8_anew) := goodIn_app (goodIn_of _ (by decide +kernel)) ggL_law_X8_anew
set_option maxRecDepth 20000 in
theorem ggL_law_X7_move : GoodIn wsL_law wsX7_move := goodIn_r _ [711, 30, 18, 96, 97, 2, 98, 427, 428, 429, 430, 227, 127, 128, 129, 632, 266, 267, 34, 268, 269, 239, 240, 241, 60, 460, 698, 215, 23, 216, 217, 178, 179, 180, 181, 182, 183, 184, 186, 187, 188, 189, 190, 191, 192, 193, 164, 194, 218, 219, 220, 200, 201, 202, 203, 204, 205, 221, 222, 223, 224, 225, 226, 175, 176, 177, 28, 228, 229, 230, 231, 27, 232, 233, 234, 235, 236, 237, 238, 242, 243, 244, 245, 246, 247, 51, 248, 249, 250, 251, 52, 53, 54, 252, 253, 254, 255, 256, 257, 258, 259, 260, 55, 261, 262, 263, 264, 265, 270, 271, 272, 273, 274, 275, 276, 277, 278, 279, 280, 281, 282, 283, 284, 136, 137, 138, 285, 286, 287, 288, 289, 290, 291, 292, 293, 294, 295, 296, 297, 298, 299, 300, 301, 302, 303, 304, 305, 306, 307, 308, 309, 310, 311, 56, 312, 313, 314, 315, 316, 317, 318, 319, 320, 321, 322, 323, 324, 325, 326, 327, 328, 329, 330, 331, 332, 333, 334, 335, 336, 337, 338, 776, 777, 778, 779, 780, 781, 782, 783, 815, 816, 817, 818, 819, 820, 821, 822, 809, 810, 811, 812, 813, 814] (by decide +kernel) (by decide +kernel)
set_option maxRecDepth 20000 in
theorem gL_law_X7_move : GoodIn wsL_law (wsV RL 100 RX7 yX7_move wsX7_move) := goodIn_app (goodIn_of _ (by decide +kernel)) ggL_law_X7_move
set_option maxRecDepth 20000 in
theorem ggL_law_X8_move : GoodIn wsL_law wsX8_move := goodIn_r _ [715, 370, 371, 76, 75, 119, 120, 5, 121, 435, 436, 437, 438, 74, 344, 345, 346, 347, 366, 367, 368, 369, 77, 78, 372, 373, 374, 375, 376, 377, 378, 379, 380, 381, 382, 383, 384, 385, 386, 387, 388, 389, 390, 391, 392, 393, 394, 395, 396, 397, 398, 399, 400, 401, 402, 403, 404, 405, 406, 407, 408, 409, 410, 411, 412, 413, 414, 79, 415, 416, 417, 418, 419, 420, 421, 422, 784, 785, 786, 787, 788, 789, 790, 791, 792, 793, 794, 795, 796, 797, 798, 799, 800, 801, 802] (by decide +kernel) (by decide +kernel)
set_option maxRecDepth 20000 in
theorem gL_law_X8_move : GoodIn wsL_law (wsV RL 104 RX8 yX8_move wsX8_move) := goodIn_app (goodIn_of _ (by decide +kernel)) ggL_law_X8_move
set_option maxRecDepth 20000 in
theorem ggL_law_X7_copy : GoodIn wsL_law wsX7_copy := goodIn_r _ [719, 18, 225, 30, 226, 175, 176, 177, 127, 128, 2, 129, 96, 97, 98, 427, 428, 429, 430, 227, 221, 222, 223, 224, 28, 228, 229, 230, 231, 27, 232, 233, 234, 235, 236, 237, 238, 239, 240, 34, 241, 60, 242, 243, 244, 245, 246, 247, 51, 248, 249, 250, 251, 52, 53, 54, 252, 253, 254, 255, 256, 257, 258, 259, 260, 55, 261, 262, 263, 264, 265, 266, 267, 268, 269, 270, 271, 272, 273, 274, 275, 183, 276, 277, 278, 279, 280, 281, 282, 283, 284, 136, 137, 138, 285, 286, 287, 288, 289, 290, 291, 292, 293, 294, 295, 296, 297, 298, 299, 300, 301, 164, 302, 303, 304, 305, 306, 187, 188, 189, 190, 191, 192, 193, 194, 307, 219, 220, 308, 309, 310, 311, 56, 312, 313, 314, 315, 316, 317, 318, 319, 320, 321, 322, 323, 324, 325, 326, 327, 328, 329, 330, 331, 332, 333, 334, 182, 184, 335, 336, 337, 338, 776, 777, 778, 779, 780, 781, 782, 783, 815, 816, 817, 818, 819, 820, 821, 822, 809, 810, 811, 812, 813, 814] (by decide +kernel) (by decide +kernel)
set_option maxRecDepth 20000 in
theorem gL_law_X7_copy : GoodIn wsL_law (wsV RL 105 RX7 yX7_copy wsX7_copy) := goodIn_app (goodIn_of _ (by decide +kernel)) ggL_law_X7_copy
set_option maxRecDepth 20000 in
theorem ggL_law_X8_copy : GoodIn wsL_law wsX8_copy := goodIn_r _ [723, 74, 75, 344, 345, 5, 346, 347, 119, 120, 121, 403, 404, 405, 406, 407, 408, 409, 410, 372, 373, 374, 411, 412, 413, 414, 79, 415, 416, 417, 418, 419, 420, 421, 422, 784, 785, 786, 787, 788, 789, 790, 791, 792, 793, 794, 795, 796, 797, 798, 799, 800, 801, 802] (by decide +kernel) (by decide +kernel)
set_option maxRecDepth 20000 in
theorem gL_law_X8_copy : GoodIn wsL_law (wsV RL 108 RX8 yX8_copy wsX8_copy) := goodIn_app (goodIn_of _ (by decide +kernel)) ggL_law_X8_copy
set_option maxRecDepth 20000 in
theorem ggL_law_X7_sheet : GoodIn wsL_law wsX7_sheet := goodIn_r _ [727, 20, 728, 729, 730, 731, 732, 2, 733, 96, 97, 98, 734, 735, 736, 694, 136, 137, 138, 776, 777, 778, 779, 780, 781, 782, 783, 823, 824, 825] (by decide +kernel) (by decide +kernel)
set_option maxRecDepth 20000 in
theorem gL_law_X7_sheet : GoodIn wsL_law (wsV RL 109 RX7 yX7_sheet wsX7_sheet) := goodIn_app (goodIn_of _ (by decide +kernel)) ggL_law_X7_sheet
set_option maxRecDepth 20000 in
theorem ggL_law_X8_sheet : GoodIn wsL_law wsX8_sheet := goodIn_r _ [740, 88, 89, 90, 741, 742, 5, 743, 347, 465, 119, 120, 121, 784, 785, 786, 787, 788, 789, 790, 791, 792, 793, 794, 795, 796, 797, 798, 799, 800, 801, 802] (by decide +kernel) (by decide +kernel)
set_option maxRecDepth 20000 in
theorem gL_law_X8_sheet : GoodIn wsL_law (wsV RL 112 RX8 yX8_sheet wsX8_sheet) := goodIn_app (goodIn_of _ (by decide +kernel)) ggL_law_X8_sheet
set_option maxRecDepth 20000 in
theorem ggL_law_X7_away : GoodIn wsL_law wsX7_away := goodIn_r _ [747, 20, 728, 729, 731, 732, 2, 733, 96, 97, 98, 776, 777, 778, 779, 780, 781, 782, 783, 823, 824, 825] (by decide +kernel) (by decide +kernel)
set_option maxRecDepth 20000 in
theorem gL_law_X7_away : GoodIn wsL_law (wsV RL 113 RX7 yX7_away wsX7_away) := goodIn_app (goodIn_of _ (by decide +kernel)) ggL_law_X7_away
set_option maxRecDepth 20000 in
theorem ggL_law_X8_away : GoodIn wsL_law wsX8_away := goodIn_r _ [751, 347, 88, 89, 119, 120, 5, 121, 784, 785, 786, 787, 788, 789, 790, 791, 792, 793, 794, 795, 796, 797, 798, 799, 800, 801, 802] (by decide +kernel) (by decide +kernel)
set_option maxRecDepth 20000 in
theorem gL_law_X8_away : GoodIn wsL_law (wsV RL 116 RX8 yX8_away wsX8_away) := goodIn_app (goodIn_of _ (by decide +kernel)) ggL_law_X8_away
set_option maxRecDepth 20000 in
theorem ggL_law_X7_item : GoodIn wsL_law wsX7_item := goodIn_r _ [755, 20, 730, 756, 757, 758, 2, 759, 728, 729, 731, 732, 733, 96, 97, 98, 734, 735, 736, 776, 777, 778, 779, 780, 781, 782, 783, 823, 824, 825] (by decide +kernel) (by decide +kernel)
set_option maxRecDepth 20000 in
theorem gL_law_X7_item : GoodIn wsL_law (wsV RL 117 RX7 yX7_item wsX7_item) := goodIn_app (goodIn_of _ (by decide +kernel)) ggL_law_X7_item
set_option maxRecDepth 20000 in
theorem ggL_law_X8_item : GoodIn wsL_law wsX8_item := goodIn_r _ [763, 88, 89, 90, 741, 742, 5, 743, 347, 465, 119, 120, 121, 784, 785, 786, 787, 788, 789, 790, 791, 792, 793, 794, 795, 796, 797, 798, 799, 800, 801, 802] (by decide +kernel) (by decide +kernel)
set_option maxRecDepth 20000 in
theorem gL_law_X8_item : GoodIn wsL_law (wsV RL 120 RX8 yX8_item wsX8_item) := goodIn_app (goodIn_of _ (by decide +kernel)) ggL_law_X8_item
set_option maxRecDepth 20000 in
theorem ggL_law_X7_terms : GoodIn wsL_law wsX7_terms := goodIn_r _ [767, 20, 730, 30, 226, 175, 176, 177, 768, 24, 127, 128, 2, 129, 96, 97, 98, 756, 757, 758, 759, 728, 729, 731, 732, 733, 734, 735, 736, 769, 201, 183, 202, 192, 193, 164, 194, 203, 204, 205, 170, 171, 172, 23, 173, 45, 46, 174, 178, 179, 180, 181, 182, 184, 185, 136, 137, 138, 186, 187, 188, 189, 190, 191, 195, 196, 197, 198, 199, 200, 206, 207, 208, 209, 210, 211, 212, 213, 47, 214, 215, 216, 217, 218, 219, 220, 221, 222, 223, 224, 18, 225, 227, 28, 228, 229, 230, 231, 27, 232, 233, 234, 235, 236, 237, 238, 239, 240, 34, 241, 60, 242, 243, 244, 245, 246, 247, 51, 248, 249, 250, 251, 52, 53, 54, 252, 253, 254, 255, 256, 257, 258, 259, 260, 55, 261, 262, 263, 264, 265, 266, 267, 268, 269, 270, 271, 272, 273, 274, 275, 276, 277, 278, 279, 280, 281, 282, 283, 284, 285, 286, 287, 288, 289, 290, 291, 292, 293, 294, 295, 296, 297, 298, 299, 300, 301, 302, 303, 304, 305, 306, 307, 308, 309, 310, 311, 56, 312, 313, 314, 315, 316, 317, 318, 319, 320, 321, 322, 323, 324, 325, 326, 327, 328, 329, 330, 331, 332, 333, 334, 335, 336, 337, 338, 776, 777, 778, 779, 780, 781, 782, 783, 823, 824, 825, 806, 807, 808, 815, 816, 817, 818, 819, 820, 821, 822, 809, 810, 811, 812, 813, 814] (by decide +kernel) (by decide +kernel)
set_option maxRecDepth 20000 in
theorem gL_law_X7_terms : GoodIn wsL_law (wsV RL 121 RX7 yX7_terms wsX7_terms) := goodIn_app (goodIn_of _ (by decide +kernel)) ggL_law_X7_terms
set_option maxRecDepth 20000 in
theorem ggL_law_X8_terms : GoodIn wsL_law wsX8_terms := goodIn_r _ [773, 88, 89, 76, 90, 774, 775, 344, 345, 5, 346, 347, 119, 120, 121, 741, 742, 743, 465, 366, 367, 368, 369, 77, 78, 370, 371, 75, 74, 372, 373, 374, 375, 376, 377, 378, 379, 380, 381, 382, 383, 384, 385, 386, 387, 388, 389, 390, 391, 392, 393, 394, 395, 396, 397, 398, 399, 400, 401, 402, 403, 404, 405, 406, 407, 408, 409, 410, 411, 412, 413, 414, 79, 415, 416, 417, 418, 419, 420, 421, 422, 784, 785, 786, 787, 788, 789, 790, 791, 792, 793, 794, 795, 796, 797, 798, 799, 800, 801, 802] (by decide +kernel) (by decide +kernel)
set_option maxRecDepth 20000 in
theorem gL_law_X8_terms : GoodIn wsL_law (wsV RL 124 RX8 yX8_terms wsX8_terms) := goodIn_app (goodIn_of _ (by decide +kernel)) ggL_law_X8_terms
