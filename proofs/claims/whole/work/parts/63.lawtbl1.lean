set_option maxRecDepth 100000 in
theorem in_wsL_law_r13 : ∀ w ∈ wsL_law_r13, w ∈ lw_tbl := fun w h => (goodIn_p wsL_law_r13 [397, 401, 404, 407, 412, 415, 423] (by decide +kernel) (by decide +kernel) w h).1
set_option maxRecDepth 100000 in
theorem in_wsL_law_r14 : ∀ w ∈ wsL_law_r14, w ∈ lw_tbl := fun w h => (goodIn_p wsL_law_r14 [427, 434, 438, 442] (by decide +kernel) (by decide +kernel) w h).1
set_option maxRecDepth 100000 in
theorem in_wsL_law_r15 : ∀ w ∈ wsL_law_r15, w ∈ lw_tbl := fun w h => (goodIn_p wsL_law_r15 [447, 702, 705, 710, 714, 718] (by decide +kernel) (by decide +kernel) w h).1
set_option maxRecDepth 100000 in
theorem in_wsL_law_r16 : ∀ w ∈ wsL_law_r16, w ∈ lw_tbl := fun w h => (goodIn_p wsL_law_r16 [722, 728, 731, 735, 738] (by decide +kernel) (by decide +kernel) w h).1
set_option maxRecDepth 100000 in
theorem in_wsL_law_r17 : ∀ w ∈ wsL_law_r17, w ∈ lw_tbl := fun w h => (goodIn_p wsL_law_r17 [741, 745, 749, 753, 759, 765] (by decide +kernel) (by decide +kernel) w h).1
set_option maxRecDepth 100000 in
theorem in_wsL_law_r18 : ∀ w ∈ wsL_law_r18, w ∈ lw_tbl := fun w h => (goodIn_p wsL_law_r18 [769, 773, 777, 781, 451, 455] (by decide +kernel) (by decide +kernel) w h).1
set_option maxRecDepth 100000 in
theorem in_wsL_law_r19 : ∀ w ∈ wsL_law_r19, w ∈ lw_tbl := fun w h => (goodIn_p wsL_law_r19 [785, 789, 459, 793, 463, 797] (by decide +kernel) (by decide +kernel) w h).1
set_option maxRecDepth 100000 in
theorem in_wsL_law_r20 : ∀ w ∈ wsL_law_r20, w ∈ lw_tbl := fun w h => (goodIn_p wsL_law_r20 [467, 801, 472, 475, 481] (by decide +kernel) (by decide +kernel) w h).1
set_option maxRecDepth 100000 in
theorem in_wsL_law_r21 : ∀ w ∈ wsL_law_r21, w ∈ lw_tbl := fun w h => (goodIn_p wsL_law_r21 [806, 809, 816, 487, 821] (by decide +kernel) (by decide +kernel) w h).1
set_option maxRecDepth 100000 in
theorem in_wsL_law_r22 : ∀ w ∈ wsL_law_r22, w ∈ lw_tbl := fun w h => (goodIn_p wsL_law_r22 [491, 496, 825, 830] (by decide +kernel) (by decide +kernel) w h).1
set_option maxRecDepth 100000 in
theorem in_wsL_law_r23 : ∀ w ∈ wsL_law_r23, w ∈ lw_tbl := fun w h => (goodIn_p wsL_law_r23 [834, 838, 841, 501, 505, 846] (by decide +kernel) (by decide +kernel) w h).1
set_option maxRecDepth 100000 in
theorem in_wsL_law_r24 : ∀ w ∈ wsL_law_r24, w ∈ lw_tbl := fun w h => (goodIn_p wsL_law_r24 [509, 850, 513, 517, 521, 855] (by decide +kernel) (by decide +kernel) w h).1
