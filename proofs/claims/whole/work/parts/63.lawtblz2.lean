set_option maxRecDepth 20000 in
theorem ggL_law_X7_equation : GoodIn wsL_law wsX7_equation := goodIn_r _ [507, 508, 509, 18, 510, 96, 97, 2, 98, 511, 512, 513, 514, 228, 427, 428, 429, 430, 227, 127, 128, 129, 776, 777, 778, 779, 780, 781, 782, 783, 815, 816, 817, 818, 819, 820, 821, 822] rfl (by decide +kernel)
set_option maxRecDepth 20000 in
theorem gL_law_X7_equation : GoodIn wsL_law (wsV RL 52 RX7 yX7_equation wsX7_equation) := goodIn_app (goodIn_of _ (by decide +kernel)) ggL_law_X7_equation
set_option maxRecDepth 20000 in
theorem ggL_law_X8_equation : GoodIn wsL_law wsX8_equation := goodIn_r _ [518, 371, 519, 83, 119, 120, 5, 121, 435, 436, 437, 438, 74, 344, 345, 346, 347, 403, 404, 405, 406, 407, 408, 409, 410, 75, 372, 373, 374, 411, 412, 413, 414, 79, 415, 416, 417, 418, 419, 420, 421, 422, 520, 521, 522, 523, 82, 524, 465, 525, 526, 527, 528, 529, 530, 531, 532, 533, 534, 535, 382, 383, 384, 784, 785, 786, 787, 788, 789, 790, 791, 792, 793, 794, 795, 796, 797, 798, 799, 800, 801, 802] rfl (by decide +kernel)
set_option maxRecDepth 20000 in
theorem gL_law_X8_equation : GoodIn wsL_law (wsV RL 56 RX8 yX8_equation wsX8_equation) := goodIn_app (goodIn_of _ (by decide +kernel)) ggL_law_X8_equation
set_option maxRecDepth 20000 in
theorem ggL_law_X7_bends : GoodIn wsL_law wsX7_bends := goodIn_r _ [539, 18, 511, 512, 513, 2, 514, 228, 427, 428, 429, 430, 227, 127, 128, 129, 96, 97, 98, 540, 541, 542, 34, 543, 544, 545, 776, 777, 778, 779, 780, 781, 782, 783, 815, 816, 817, 818, 819, 820, 821, 822] rfl (by decide +kernel)
set_option maxRecDepth 20000 in
theorem gL_law_X7_bends : GoodIn wsL_law (wsV RL 57 RX7 yX7_bends wsX7_bends) := goodIn_app (goodIn_of _ (by decide +kernel)) ggL_law_X7_bends
set_option maxRecDepth 20000 in
theorem ggL_law_X8_bends : GoodIn wsL_law wsX8_bends := goodIn_r _ [549, 435, 436, 437, 5, 438, 74, 344, 345, 346, 347, 119, 120, 121, 403, 404, 405, 406, 407, 408, 409, 410, 75, 372, 373, 374, 411, 412, 413, 414, 79, 415, 416, 417, 418, 419, 420, 421, 422, 784, 785, 786, 787, 788, 789, 790, 791, 792, 793, 794, 795, 796, 797, 798, 799, 800, 801, 802] rfl (by decide +kernel)
set_option maxRecDepth 20000 in
theorem gL_law_X8_bends : GoodIn wsL_law (wsV RL 60 RX8 yX8_bends wsX8_bends) := goodIn_app (goodIn_of _ (by decide +kernel)) ggL_law_X8_bends
set_option maxRecDepth 20000 in
theorem ggL_law_X7_times : GoodIn wsL_law wsX7_times := goodIn_r _ [553, 18, 228, 451, 511, 512, 513, 2, 514, 427, 428, 429, 430, 227, 127, 128, 129, 96, 97, 98, 776, 777, 778, 779, 780, 781, 782, 783, 815, 816, 817, 818, 819, 820, 821, 822] rfl (by decide +kernel)
set_option maxRecDepth 20000 in
theorem gL_law_X7_times : GoodIn wsL_law (wsV RL 61 RX7 yX7_times wsX7_times) := goodIn_app (goodIn_of _ (by decide +kernel)) ggL_law_X7_times
set_option maxRecDepth 20000 in
theorem ggL_law_X8_times : GoodIn wsL_law wsX8_times := goodIn_r _ [557, 558, 547, 548, 5, 549, 435, 436, 437, 438, 74, 344, 345, 346, 347, 119, 120, 121, 403, 404, 405, 406, 407, 408, 409, 410, 75, 372, 373, 374, 411, 412, 413, 414, 79, 415, 416, 417, 418, 419, 420, 421, 422, 784, 785, 786, 787, 788, 789, 790, 791, 792, 793, 794, 795, 796, 797, 798, 799, 800, 801, 802] rfl (by decide +kernel)
set_option maxRecDepth 20000 in
theorem gL_law_X8_times : GoodIn wsL_law (wsV RL 64 RX8 yX8_times wsX8_times) := goodIn_app (goodIn_of _ (by decide +kernel)) ggL_law_X8_times
set_option maxRecDepth 20000 in
theorem ggL_law_X7_lies : GoodIn wsL_law wsX7_lies := goodIn_r _ [562, 18, 96, 97, 2, 98, 427, 428, 429, 430, 227, 127, 128, 129, 563, 564, 565, 34, 566, 544, 61, 269, 239, 240, 241, 60, 567, 297, 298, 299, 300, 301, 164, 302, 303, 304, 305, 568, 569, 570, 776, 777, 778, 779, 780, 781, 782, 783, 815, 816, 817, 818, 819, 820, 821, 822] rfl (by decide +kernel)
set_option maxRecDepth 20000 in
theorem gL_law_X7_lies : GoodIn wsL_law (wsV RL 65 RX7 yX7_lies wsX7_lies) := goodIn_app (goodIn_of _ (by decide +kernel)) ggL_law_X7_lies
set_option maxRecDepth 20000 in
theorem ggL_law_X8_lies : GoodIn wsL_law wsX8_lies := goodIn_r _ [574, 490, 491, 75, 83, 119, 120, 5, 121, 435, 436, 437, 438, 74, 344, 345, 346, 347, 403, 404, 405, 406, 407, 408, 409, 410, 372, 373, 374, 411, 412, 413, 414, 79, 415, 416, 417, 418, 419, 420, 421, 422, 520, 521, 522, 523, 82, 524, 465, 525, 526, 527, 528, 529, 530, 531, 532, 533, 534, 535, 382, 383, 384, 784, 785, 786, 787, 788, 789, 790, 791, 792, 793, 794, 795, 796, 797, 798, 799, 800, 801, 802] rfl (by decide +kernel)
set_option maxRecDepth 20000 in
theorem gL_law_X8_lies : GoodIn wsL_law (wsV RL 69 RX8 yX8_lies wsX8_lies) := goodIn_app (goodIn_of _ (by decide +kernel)) ggL_law_X8_lies
set_option maxRecDepth 20000 in
theorem ggL_law_X7_law : GoodIn wsL_law wsX7_law := goodIn_r _ [578, 470, 471, 18, 579, 96, 97, 2, 98, 580, 581, 582, 583, 228, 427, 428, 429, 430, 227, 127, 128, 129, 776, 777, 778, 779, 780, 781, 782, 783, 815, 816, 817, 818, 819, 820, 821, 822] rfl (by decide +kernel)
set_option maxRecDepth 20000 in
theorem gL_law_X7_law : GoodIn wsL_law (wsV RL 70 RX7 yX7_law wsX7_law) := goodIn_app (goodIn_of _ (by decide +kernel)) ggL_law_X7_law
