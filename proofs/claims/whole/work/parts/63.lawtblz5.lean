set_option maxRecDepth 20000 in
theorem ggL_law_X8_sheet : GoodIn wsL_law wsX8_sheet := goodIn_r _ [740, 88, 89, 90, 741, 742, 5, 743, 347, 465, 119, 120, 121, 784, 785, 786, 787, 788, 789, 790, 791, 792, 793, 794, 795, 796, 797, 798, 799, 800, 801, 802] rfl (by decide +kernel)
set_option maxRecDepth 20000 in
theorem gL_law_X8_sheet : GoodIn wsL_law (wsV RL 112 RX8 yX8_sheet wsX8_sheet) := goodIn_app (goodIn_of _ (by decide +kernel)) ggL_law_X8_sheet
set_option maxRecDepth 20000 in
theorem ggL_law_X7_away : GoodIn wsL_law wsX7_away := goodIn_r _ [747, 20, 728, 729, 731, 732, 2, 733, 96, 97, 98, 776, 777, 778, 779, 780, 781, 782, 783, 823, 824, 825] rfl (by decide +kernel)
set_option maxRecDepth 20000 in
theorem gL_law_X7_away : GoodIn wsL_law (wsV RL 113 RX7 yX7_away wsX7_away) := goodIn_app (goodIn_of _ (by decide +kernel)) ggL_law_X7_away
set_option maxRecDepth 20000 in
theorem ggL_law_X8_away : GoodIn wsL_law wsX8_away := goodIn_r _ [751, 347, 88, 89, 119, 120, 5, 121, 784, 785, 786, 787, 788, 789, 790, 791, 792, 793, 794, 795, 796, 797, 798, 799, 800, 801, 802] rfl (by decide +kernel)
set_option maxRecDepth 20000 in
theorem gL_law_X8_away : GoodIn wsL_law (wsV RL 116 RX8 yX8_away wsX8_away) := goodIn_app (goodIn_of _ (by decide +kernel)) ggL_law_X8_away
set_option maxRecDepth 20000 in
theorem ggL_law_X7_item : GoodIn wsL_law wsX7_item := goodIn_r _ [755, 20, 730, 756, 757, 758, 2, 759, 728, 729, 731, 732, 733, 96, 97, 98, 734, 735, 736, 776, 777, 778, 779, 780, 781, 782, 783, 823, 824, 825] rfl (by decide +kernel)
set_option maxRecDepth 20000 in
theorem gL_law_X7_item : GoodIn wsL_law (wsV RL 117 RX7 yX7_item wsX7_item) := goodIn_app (goodIn_of _ (by decide +kernel)) ggL_law_X7_item
set_option maxRecDepth 20000 in
theorem ggL_law_X8_item : GoodIn wsL_law wsX8_item := goodIn_r _ [763, 88, 89, 90, 741, 742, 5, 743, 347, 465, 119, 120, 121, 784, 785, 786, 787, 788, 789, 790, 791, 792, 793, 794, 795, 796, 797, 798, 799, 800, 801, 802] rfl (by decide +kernel)
set_option maxRecDepth 20000 in
theorem gL_law_X8_item : GoodIn wsL_law (wsV RL 120 RX8 yX8_item wsX8_item) := goodIn_app (goodIn_of _ (by decide +kernel)) ggL_law_X8_item
set_option maxRecDepth 20000 in
theorem ggL_law_X7_terms : GoodIn wsL_law wsX7_terms := goodIn_r _ [767, 20, 730, 30, 226, 175, 176, 177, 768, 24, 127, 128, 2, 129, 96, 97, 98, 756, 757, 758, 759, 728, 729, 731, 732, 733, 734, 735, 736, 769, 201, 183, 202, 192, 193, 164, 194, 203, 204, 205, 170, 171, 172, 23, 173, 45, 46, 174, 178, 179, 180, 181, 182, 184, 185, 136, 137, 138, 186, 187, 188, 189, 190, 191, 195, 196, 197, 198, 199, 200, 206, 207, 208, 209, 210, 211, 212, 213, 47, 214, 215, 216, 217, 218, 219, 220, 221, 222, 223, 224, 18, 225, 227, 28, 228, 229, 230, 231, 27, 232, 233, 234, 235, 236, 237, 238, 239, 240, 34, 241, 60, 242, 243, 244, 245, 246, 247, 51, 248, 249, 250, 251, 52, 53, 54, 252, 253, 254, 255, 256, 257, 258, 259, 260, 55, 261, 262, 263, 264, 265, 266, 267, 268, 269, 270, 271, 272, 273, 274, 275, 276, 277, 278, 279, 280, 281, 282, 283, 284, 285, 286, 287, 288, 289, 290, 291, 292, 293, 294, 295, 296, 297, 298, 299, 300, 301, 302, 303, 304, 305, 306, 307, 308, 309, 310, 311, 56, 312, 313, 314, 315, 316, 317, 318, 319, 320, 321, 322, 323, 324, 325, 326, 327, 328, 329, 330, 331, 332, 333, 334, 335, 336, 337, 338, 776, 777, 778, 779, 780, 781, 782, 783, 823, 824, 825, 806, 807, 808, 815, 816, 817, 818, 819, 820, 821, 822, 809, 810, 811, 812, 813, 814] rfl (by decide +kernel)
set_option maxRecDepth 20000 in
theorem gL_law_X7_terms : GoodIn wsL_law (wsV RL 121 RX7 yX7_terms wsX7_terms) := goodIn_app (goodIn_of _ (by decide +kernel)) ggL_law_X7_terms
set_option maxRecDepth 20000 in
theorem ggL_law_X8_terms : GoodIn wsL_law wsX8_terms := goodIn_r _ [773, 88, 89, 76, 90, 774, 775, 344, 345, 5, 346, 347, 119, 120, 121, 741, 742, 743, 465, 366, 367, 368, 369, 77, 78, 370, 371, 75, 74, 372, 373, 374, 375, 376, 377, 378, 379, 380, 381, 382, 383, 384, 385, 386, 387, 388, 389, 390, 391, 392, 393, 394, 395, 396, 397, 398, 399, 400, 401, 402, 403, 404, 405, 406, 407, 408, 409, 410, 411, 412, 413, 414, 79, 415, 416, 417, 418, 419, 420, 421, 422, 784, 785, 786, 787, 788, 789, 790, 791, 792, 793, 794, 795, 796, 797, 798, 799, 800, 801, 802] rfl (by decide +kernel)
set_option maxRecDepth 20000 in
theorem gL_law_X8_terms : GoodIn wsL_law (wsV RL 124 RX8 yX8_terms wsX8_terms) := goodIn_app (goodIn_of _ (by decide +kernel)) ggL_law_X8_terms
