set_option maxRecDepth 20000 in
theorem ggL_law_X8_law : GoodIn wsL_law wsX8_law := goodIn_r _ [587, 588, 485, 86, 119, 120, 5, 121, 589, 590, 591, 592, 435, 436, 437, 438, 74, 344, 345, 346, 347, 403, 404, 405, 406, 407, 408, 409, 410, 75, 372, 373, 374, 411, 412, 413, 414, 79, 415, 416, 417, 418, 419, 420, 421, 422, 593, 594, 595, 596, 84, 524, 597, 598, 599, 600, 85, 382, 383, 384, 784, 785, 786, 787, 788, 789, 790, 791, 792, 793, 794, 795, 796, 797, 798, 799, 800, 801, 802] rfl (by decide +kernel)
set_option maxRecDepth 20000 in
theorem gL_law_X8_law : GoodIn wsL_law (wsV RL 73 RX8 yX8_law wsX8_law) := goodIn_app (goodIn_of _ (by decide +kernel)) ggL_law_X8_law
set_option maxRecDepth 20000 in
theorem ggL_law_X7_knot : GoodIn wsL_law wsX7_knot := goodIn_r _ [604, 470, 471, 18, 605, 96, 97, 2, 98, 580, 581, 582, 583, 228, 427, 428, 429, 430, 227, 127, 128, 129, 776, 777, 778, 779, 780, 781, 782, 783, 815, 816, 817, 818, 819, 820, 821, 822] rfl (by decide +kernel)
set_option maxRecDepth 20000 in
theorem gL_law_X7_knot : GoodIn wsL_law (wsV RL 74 RX7 yX7_knot wsX7_knot) := goodIn_app (goodIn_of _ (by decide +kernel)) ggL_law_X7_knot
set_option maxRecDepth 20000 in
theorem ggL_law_X8_knot : GoodIn wsL_law wsX8_knot := goodIn_r _ [609, 465, 485, 81, 119, 120, 5, 121, 589, 590, 591, 592, 435, 436, 437, 438, 74, 344, 345, 346, 347, 403, 404, 405, 406, 407, 408, 409, 410, 75, 372, 373, 374, 411, 412, 413, 414, 79, 415, 416, 417, 418, 419, 420, 421, 422, 610, 611, 612, 613, 86, 593, 594, 595, 596, 84, 524, 597, 598, 599, 600, 85, 382, 383, 384, 614, 615, 616, 617, 784, 785, 786, 787, 788, 789, 790, 791, 792, 793, 794, 795, 796, 797, 798, 799, 800, 801, 802] rfl (by decide +kernel)
set_option maxRecDepth 20000 in
theorem gL_law_X8_knot : GoodIn wsL_law (wsV RL 77 RX8 yX8_knot wsX8_knot) := goodIn_app (goodIn_of _ (by decide +kernel)) ggL_law_X8_knot
set_option maxRecDepth 20000 in
theorem ggL_law_X7_crosses : GoodIn wsL_law wsX7_crosses := goodIn_r _ [621, 18, 622, 580, 581, 582, 2, 583, 228, 427, 428, 429, 430, 227, 127, 128, 129, 96, 97, 98, 776, 777, 778, 779, 780, 781, 782, 783, 815, 816, 817, 818, 819, 820, 821, 822] rfl (by decide +kernel)
set_option maxRecDepth 20000 in
theorem gL_law_X7_crosses : GoodIn wsL_law (wsV RL 78 RX7 yX7_crosses wsX7_crosses) := goodIn_app (goodIn_of _ (by decide +kernel)) ggL_law_X7_crosses
set_option maxRecDepth 20000 in
theorem ggL_law_X8_crosses : GoodIn wsL_law wsX8_crosses := goodIn_r _ [626, 86, 77, 81, 75, 79, 627, 589, 590, 591, 5, 592, 435, 436, 437, 438, 74, 344, 345, 346, 347, 119, 120, 121, 403, 404, 405, 406, 407, 408, 409, 410, 372, 373, 374, 411, 412, 413, 414, 415, 416, 417, 418, 419, 420, 421, 422, 610, 611, 612, 613, 593, 594, 595, 596, 84, 524, 597, 598, 599, 600, 85, 382, 383, 384, 614, 615, 616, 617, 784, 785, 786, 787, 788, 789, 790, 791, 792, 793, 794, 795, 796, 797, 798, 799, 800, 801, 802] rfl (by decide +kernel)
set_option maxRecDepth 20000 in
theorem gL_law_X8_crosses : GoodIn wsL_law (wsV RL 81 RX8 yX8_crosses wsX8_crosses) := goodIn_app (goodIn_of _ (by decide +kernel)) ggL_law_X8_crosses
set_option maxRecDepth 20000 in
theorem ggL_law_X7_meets : GoodIn wsL_law wsX7_meets := goodIn_r _ [631, 31, 18, 96, 97, 2, 98, 427, 428, 429, 430, 227, 127, 128, 129, 632, 266, 267, 34, 268, 269, 239, 240, 241, 60, 633, 275, 183, 276, 634, 635, 636, 637, 638, 639, 182, 184, 640, 641, 642, 643, 644, 645, 646, 336, 337, 338, 776, 777, 778, 779, 780, 781, 782, 783, 815, 816, 817, 818, 819, 820, 821, 822] rfl (by decide +kernel)
set_option maxRecDepth 20000 in
theorem gL_law_X7_meets : GoodIn wsL_law (wsV RL 82 RX7 yX7_meets wsX7_meets) := goodIn_app (goodIn_of _ (by decide +kernel)) ggL_law_X7_meets
set_option maxRecDepth 20000 in
theorem ggL_law_X8_meets : GoodIn wsL_law wsX8_meets := goodIn_r _ [650, 490, 491, 77, 75, 119, 120, 5, 121, 435, 436, 437, 438, 74, 344, 345, 346, 347, 651, 652, 653, 654, 627, 655, 784, 785, 786, 787, 788, 789, 790, 791, 792, 793, 794, 795, 796, 797, 798, 799, 800, 801, 802] rfl (by decide +kernel)
set_option maxRecDepth 20000 in
theorem gL_law_X8_meets : GoodIn wsL_law (wsV RL 85 RX8 yX8_meets wsX8_meets) := goodIn_app (goodIn_of _ (by decide +kernel)) ggL_law_X8_meets
set_option maxRecDepth 20000 in
theorem ggL_law_X7_touch : GoodIn wsL_law wsX7_touch := goodIn_r _ [659, 470, 471, 28, 18, 32, 472, 473, 474, 2, 475, 96, 97, 98, 427, 428, 429, 430, 227, 127, 128, 129, 660, 661, 662, 27, 663, 52, 53, 54, 252, 175, 176, 177, 664, 477, 478, 34, 479, 269, 239, 240, 241, 60, 665, 666, 667, 668, 669, 670, 253, 254, 255, 256, 306, 187, 183, 188, 189, 190, 191, 192, 193, 164, 194, 274, 275, 276, 307, 219, 220, 633, 776, 777, 778, 779, 780, 781, 782, 783, 815, 816, 817, 818, 819, 820, 821, 822, 809, 810, 811, 812, 813, 814] rfl (by decide +kernel)
set_option maxRecDepth 20000 in
theorem gL_law_X7_touch : GoodIn wsL_law (wsV RL 86 RX7 yX7_touch wsX7_touch) := goodIn_app (goodIn_of _ (by decide +kernel)) ggL_law_X7_touch
set_option maxRecDepth 20000 in
theorem ggL_law_X8_touch : GoodIn wsL_law wsX8_touch := goodIn_r _ [674, 465, 485, 81, 79, 486, 487, 488, 5, 489, 490, 491, 119, 120, 121, 435, 436, 437, 438, 74, 344, 345, 346, 347, 492, 493, 494, 495, 75, 675, 676, 677, 678, 419, 420, 421, 422, 614, 615, 616, 617, 382, 383, 384, 784, 785, 786, 787, 788, 789, 790, 791, 792, 793, 794, 795, 796, 797, 798, 799, 800, 801, 802] rfl (by decide +kernel)
set_option maxRecDepth 20000 in
theorem gL_law_X8_touch : GoodIn wsL_law (wsV RL 90 RX8 yX8_touch wsX8_touch) := goodIn_app (goodIn_of _ (by decide +kernel)) ggL_law_X8_touch
