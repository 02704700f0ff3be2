set_option maxRecDepth 20000 in
theorem ggL_law_X8_kind : GoodIn wsL_law wsX8_kind := goodIn_r _ [446, 435, 436, 437, 5, 438, 74, 344, 345, 346, 347, 119, 120, 121, 403, 404, 405, 406, 407, 408, 409, 410, 75, 372, 373, 374, 411, 412, 413, 414, 79, 415, 416, 417, 418, 419, 420, 421, 422, 784, 785, 786, 787, 788, 789, 790, 791, 792, 793, 794, 795, 796, 797, 798, 799, 800, 801, 802] rfl (by decide +kernel)
set_option maxRecDepth 20000 in
theorem gL_law_X8_kind : GoodIn wsL_law (wsV RL 32 RX8 yX8_kind wsX8_kind) := goodIn_app (goodIn_of _ (by decide +kernel)) ggL_law_X8_kind
set_option maxRecDepth 20000 in
theorem ggL_law_X7_degree : GoodIn wsL_law wsX7_degree := goodIn_r _ [450, 18, 451, 427, 428, 429, 2, 430, 227, 127, 128, 129, 96, 97, 98, 776, 777, 778, 779, 780, 781, 782, 783, 815, 816, 817, 818, 819, 820, 821, 822] rfl (by decide +kernel)
set_option maxRecDepth 20000 in
theorem gL_law_X7_degree : GoodIn wsL_law (wsV RL 33 RX7 yX7_degree wsX7_degree) := goodIn_app (goodIn_of _ (by decide +kernel)) ggL_law_X7_degree
set_option maxRecDepth 20000 in
theorem ggL_law_X8_degree : GoodIn wsL_law wsX8_degree := goodIn_r _ [455, 435, 436, 437, 5, 438, 74, 344, 345, 346, 347, 119, 120, 121, 407, 408, 409, 410, 75, 372, 373, 374, 784, 785, 786, 787, 788, 789, 790, 791, 792, 793, 794, 795, 796, 797, 798, 799, 800, 801, 802] rfl (by decide +kernel)
set_option maxRecDepth 20000 in
theorem gL_law_X8_degree : GoodIn wsL_law (wsV RL 36 RX8 yX8_degree wsX8_degree) := goodIn_app (goodIn_of _ (by decide +kernel)) ggL_law_X8_degree
set_option maxRecDepth 20000 in
theorem ggL_law_X7_told : GoodIn wsL_law wsX7_told := goodIn_r _ [459, 18, 96, 97, 2, 98, 427, 428, 429, 430, 227, 127, 128, 129, 460, 239, 240, 34, 241, 60, 776, 777, 778, 779, 780, 781, 782, 783, 815, 816, 817, 818, 819, 820, 821, 822] rfl (by decide +kernel)
set_option maxRecDepth 20000 in
theorem gL_law_X7_told : GoodIn wsL_law (wsV RL 37 RX7 yX7_told wsX7_told) := goodIn_app (goodIn_of _ (by decide +kernel)) ggL_law_X7_told
set_option maxRecDepth 20000 in
theorem ggL_law_X8_told : GoodIn wsL_law wsX8_told := goodIn_r _ [464, 465, 347, 75, 119, 120, 5, 121, 435, 436, 437, 438, 74, 344, 345, 346, 784, 785, 786, 787, 788, 789, 790, 791, 792, 793, 794, 795, 796, 797, 798, 799, 800, 801, 802] rfl (by decide +kernel)
set_option maxRecDepth 20000 in
theorem gL_law_X8_told : GoodIn wsL_law (wsV RL 41 RX8 yX8_told wsX8_told) := goodIn_app (goodIn_of _ (by decide +kernel)) ggL_law_X8_told
set_option maxRecDepth 20000 in
theorem ggL_law_X7_at : GoodIn wsL_law wsX7_at := goodIn_r _ [469, 470, 471, 18, 472, 473, 474, 2, 475, 96, 97, 98, 427, 428, 429, 430, 227, 127, 128, 129, 476, 477, 478, 34, 479, 269, 239, 240, 241, 60, 480, 190, 183, 191, 192, 193, 164, 194, 776, 777, 778, 779, 780, 781, 782, 783, 815, 816, 817, 818, 819, 820, 821, 822] rfl (by decide +kernel)
set_option maxRecDepth 20000 in
theorem gL_law_X7_at : GoodIn wsL_law (wsV RL 42 RX7 yX7_at wsX7_at) := goodIn_app (goodIn_of _ (by decide +kernel)) ggL_law_X7_at
set_option maxRecDepth 20000 in
theorem ggL_law_X8_at : GoodIn wsL_law wsX8_at := goodIn_r _ [484, 485, 486, 487, 488, 5, 489, 490, 491, 119, 120, 121, 435, 436, 437, 438, 74, 344, 345, 346, 347, 492, 493, 494, 495, 75, 382, 383, 384, 784, 785, 786, 787, 788, 789, 790, 791, 792, 793, 794, 795, 796, 797, 798, 799, 800, 801, 802] rfl (by decide +kernel)
set_option maxRecDepth 20000 in
theorem gL_law_X8_at : GoodIn wsL_law (wsV RL 46 RX8 yX8_at wsX8_at) := goodIn_app (goodIn_of _ (by decide +kernel)) ggL_law_X8_at
set_option maxRecDepth 20000 in
theorem ggL_law_X7_far : GoodIn wsL_law wsX7_far := goodIn_r _ [499, 18, 451, 96, 97, 2, 98, 427, 428, 429, 430, 227, 127, 128, 129, 460, 239, 240, 34, 241, 60, 776, 777, 778, 779, 780, 781, 782, 783, 815, 816, 817, 818, 819, 820, 821, 822] rfl (by decide +kernel)
set_option maxRecDepth 20000 in
theorem gL_law_X7_far : GoodIn wsL_law (wsV RL 47 RX7 yX7_far wsX7_far) := goodIn_app (goodIn_of _ (by decide +kernel)) ggL_law_X7_far
set_option maxRecDepth 20000 in
theorem ggL_law_X8_far : GoodIn wsL_law wsX8_far := goodIn_r _ [503, 465, 75, 119, 120, 5, 121, 435, 436, 437, 438, 74, 344, 345, 346, 347, 407, 408, 409, 410, 372, 373, 374, 784, 785, 786, 787, 788, 789, 790, 791, 792, 793, 794, 795, 796, 797, 798, 799, 800, 801, 802] rfl (by decide +kernel)
set_option maxRecDepth 20000 in
theorem gL_law_X8_far : GoodIn wsL_law (wsV RL 51 RX8 yX8_far wsX8_far) := goodIn_app (goodIn_of _ (by decide +kernel)) ggL_law_X8_far
