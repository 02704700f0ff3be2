set_option maxRecDepth 100000 in
theorem in_wsL_law_r25 : ∀ w ∈ wsL_law_r25, w ∈ lw_tbl := fun w h => (goodIn_p wsL_law_r25 [525, 529, 859, 864, 868] (by decide +kernel) (by decide +kernel) w h).1
set_option maxRecDepth 100000 in
theorem in_wsL_law_r26 : ∀ w ∈ wsL_law_r26, w ∈ lw_tbl := fun w h => (goodIn_p wsL_law_r26 [872, 533, 876, 880, 884, 537] (by decide +kernel) (by decide +kernel) w h).1
set_option maxRecDepth 100000 in
theorem in_wsL_law_r27 : ∀ w ∈ wsL_law_r27, w ∈ lw_tbl := fun w h => (goodIn_p wsL_law_r27 [888, 541, 546, 550] (by decide +kernel) (by decide +kernel) w h).1
set_option maxRecDepth 100000 in
theorem in_wsL_law_r28 : ∀ w ∈ wsL_law_r28, w ∈ lw_tbl := fun w h => (goodIn_p wsL_law_r28 [893, 896, 559, 563, 568] (by decide +kernel) (by decide +kernel) w h).1
set_option maxRecDepth 100000 in
theorem in_wsL_law_r29 : ∀ w ∈ wsL_law_r29, w ∈ lw_tbl := fun w h => (goodIn_p wsL_law_r29 [902, 906, 574, 577, 910, 581] (by decide +kernel) (by decide +kernel) w h).1
set_option maxRecDepth 100000 in
theorem in_wsL_law_r30 : ∀ w ∈ wsL_law_r30, w ∈ lw_tbl := fun w h => (goodIn_p wsL_law_r30 [585, 914, 919, 590, 923, 594] (by decide +kernel) (by decide +kernel) w h).1
set_option maxRecDepth 100000 in
theorem in_wsL_law_r31 : ∀ w ∈ wsL_law_r31, w ∈ lw_tbl := fun w h => (goodIn_p wsL_law_r31 [927, 598, 601, 604, 931, 934] (by decide +kernel) (by decide +kernel) w h).1
set_option maxRecDepth 100000 in
theorem in_wsL_law_r32 : ∀ w ∈ wsL_law_r32, w ∈ lw_tbl := fun w h => (goodIn_p wsL_law_r32 [608, 938, 612, 616, 942, 620] (by decide +kernel) (by decide +kernel) w h).1
set_option maxRecDepth 100000 in
theorem in_wsL_law_r33 : ∀ w ∈ wsL_law_r33, w ∈ lw_tbl := fun w h => (goodIn_p wsL_law_r33 [946] (by decide +kernel) (by decide +kernel) w h).1
set_option maxRecDepth 100000 in
theorem in_wsX70 : ∀ w ∈ wsX70, w ∈ lw_tbl := fun w h => (goodIn_p wsX70 [] (by decide +kernel) (by decide +kernel) w h).1
set_option maxRecDepth 100000 in
theorem in_wsX80 : ∀ w ∈ wsX80, w ∈ lw_tbl := fun w h => (goodIn_p wsX80 [] (by decide +kernel) (by decide +kernel) w h).1
set_option maxRecDepth 100000 in
theorem in_wsX50 : ∀ w ∈ wsX50, w ∈ lw_tbl := fun w h => (goodIn_p wsX50 [] (by decide +kernel) (by decide +kernel) w h).1
set_option maxRecDepth 100000 in
theorem in_wsX10 : ∀ w ∈ wsX10, w ∈ lw_tbl := fun w h => (goodIn_p wsX10 [] (by decide +kernel) (by decide +kernel) w h).1
set_option maxRecDepth 100000 in
theorem in_wsX40 : ∀ w ∈ wsX40, w ∈ lw_tbl := fun w h => (goodIn_p wsX40 [] (by decide +kernel) (by decide +kernel) w h).1
set_option maxRecDepth 100000 in
theorem in_wsX00 : ∀ w ∈ wsX00, w ∈ lw_tbl := fun w h => (goodIn_p wsX00 [] (by decide +kernel) (by decide +kernel) w h).1
set_option maxRecDepth 100000 in
theorem in_wsX30 : ∀ w ∈ wsX30, w ∈ lw_tbl := fun w h => (goodIn_p wsX30 [] (by decide +kernel) (by decide +kernel) w h).1
theorem wsL_law_in : ∀ w ∈ wsL_law, w ∈ lw_tbl := (in_app2 (in_app2 (in_app2 (in_app2 (in_app2 (in_app2 (in_app2 (in_app2 (in_app2 in_wsL_law_r1 (in_app2 in_wsL_law_r2 (in_app2 in_wsL_law_r3 (in_app2 in_wsL_law_r4 (in_app2 in_wsL_law_r5 (in_app2 in_wsL_law_r6 (in_app2 in_wsL_law_r7 (in_app2 in_wsL_law_r8 (in_app2 in_wsL_law_r9 (in_app2 in_wsL_law_r10 (in_app2 in_wsL_law_r11 (in_app2 in_wsL_law_r12 (in_app2 in_wsL_law_r13 (in_app2 in_wsL_law_r14 (in_app2 in_wsL_law_r15 (in_app2 in_wsL_law_r16 (in_app2 in_wsL_law_r17 (in_app2 in_wsL_law_r18 (in_app2 in_wsL_law_r19 (in_app2 in_wsL_law_r20 (in_app2 in_wsL_law_r21 (in_app2 in_wsL_law_r22 (in_app2 in_wsL_law_r23 (in_app2 in_wsL_law_r24 (in_app2 in_wsL_law_r25 (in_app2 in_wsL_law_r26 (in_app2 in_wsL_law_r27 (in_app2 in_wsL_law_r28 (in_app2 in_wsL_law_r29 (in_app2 in_wsL_law_r30 (in_app2 in_wsL_law_r31 (in_app2 in_wsL_law_r32 in_wsL_law_r33)))))))))))))))))))))))))))))))) in_wsX70) in_wsX80) in_wsX50) in_wsX10) in_wsX40) in_wsX00) in_wsX30) (fun _ h => absurd h List.not_mem_nil))
