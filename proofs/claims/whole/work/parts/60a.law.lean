/-! the law's words among the tables', by chunks (the printed row wants more memory than there is) -/
set_option maxRecDepth 20000 in
theorem wl_r1 : ∀ w ∈ wsL_law_r1, w ∈ lw_tbl := fun w h => (goodIn_p wsL_law_r1 [41, 44] rfl (by decide +kernel) w h).1
set_option maxRecDepth 20000 in
theorem wl_r2 : ∀ w ∈ wsL_law_r2, w ∈ lw_tbl := fun w h => (goodIn_p wsL_law_r2 [49, 89] rfl (by decide +kernel) w h).1
set_option maxRecDepth 20000 in
theorem wl_r3 : ∀ w ∈ wsL_law_r3, w ∈ lw_tbl := fun w h => (goodIn_p wsL_law_r3 [105, 121, 159] rfl (by decide +kernel) w h).1
set_option maxRecDepth 20000 in
theorem wl_r4 : ∀ w ∈ wsL_law_r4, w ∈ lw_tbl := fun w h => (goodIn_p wsL_law_r4 [415, 198] rfl (by decide +kernel) w h).1
set_option maxRecDepth 20000 in
theorem wl_r5 : ∀ w ∈ wsL_law_r5, w ∈ lw_tbl := fun w h => (goodIn_p wsL_law_r5 [201, 204, 208, 482, 485, 212] rfl (by decide +kernel) w h).1
set_option maxRecDepth 20000 in
theorem wl_r6 : ∀ w ∈ wsL_law_r6, w ∈ lw_tbl := fun w h => (goodIn_p wsL_law_r6 [216, 220, 489, 493, 225] rfl (by decide +kernel) w h).1
set_option maxRecDepth 20000 in
theorem wl_r7 : ∀ w ∈ wsL_law_r7, w ∈ lw_tbl := fun w h => (goodIn_p wsL_law_r7 [497, 229, 501, 234, 505] rfl (by decide +kernel) w h).1
set_option maxRecDepth 20000 in
theorem wl_r8 : ∀ w ∈ wsL_law_r8, w ∈ lw_tbl := fun w h => (goodIn_p wsL_law_r8 [238, 509, 242, 246, 250, 253, 257] rfl (by decide +kernel) w h).1
set_option maxRecDepth 20000 in
theorem wl_r9 : ∀ w ∈ wsL_law_r9, w ∈ lw_tbl := fun w h => (goodIn_p wsL_law_r9 [513, 261, 264, 268, 272] rfl (by decide +kernel) w h).1
set_option maxRecDepth 20000 in
theorem wl_r10 : ∀ w ∈ wsL_law_r10, w ∈ lw_tbl := fun w h => (goodIn_p wsL_law_r10 [275, 279, 284, 517, 521] rfl (by decide +kernel) w h).1
set_option maxRecDepth 20000 in
theorem wl_r11 : ∀ w ∈ wsL_law_r11, w ∈ lw_tbl := fun w h => (goodIn_p wsL_law_r11 [525, 529, 532, 288, 292, 296] rfl (by decide +kernel) w h).1
set_option maxRecDepth 20000 in
theorem wl_r12 : ∀ w ∈ wsL_law_r12, w ∈ lw_tbl := fun w h => (goodIn_p wsL_law_r12 [302, 306, 310, 314] rfl (by decide +kernel) w h).1
set_option maxRecDepth 20000 in
theorem wl_r13 : ∀ w ∈ wsL_law_r13, w ∈ lw_tbl := fun w h => (goodIn_p wsL_law_r13 [317, 324, 335, 328, 332, 339] rfl (by decide +kernel) w h).1
set_option maxRecDepth 20000 in
theorem wl_r14 : ∀ w ∈ wsL_law_r14, w ∈ lw_tbl := fun w h => (goodIn_p wsL_law_r14 [343, 347, 351, 355, 361] rfl (by decide +kernel) w h).1
set_option maxRecDepth 20000 in
theorem wl_r15 : ∀ w ∈ wsL_law_r15, w ∈ lw_tbl := fun w h => (goodIn_p wsL_law_r15 [364, 536, 540, 545, 549] rfl (by decide +kernel) w h).1
set_option maxRecDepth 20000 in
theorem wl_r16 : ∀ w ∈ wsL_law_r16, w ∈ lw_tbl := fun w h => (goodIn_p wsL_law_r16 [553, 557, 561, 565, 569, 369] rfl (by decide +kernel) w h).1
set_option maxRecDepth 20000 in
theorem wl_r17 : ∀ w ∈ wsL_law_r17, w ∈ lw_tbl := fun w h => (goodIn_p wsL_law_r17 [373, 573, 577, 377, 582] rfl (by decide +kernel) w h).1
set_option maxRecDepth 20000 in
theorem wl_r18 : ∀ w ∈ wsL_law_r18, w ∈ lw_tbl := fun w h => (goodIn_p wsL_law_r18 [381, 385, 389, 586, 393, 590] rfl (by decide +kernel) w h).1
set_option maxRecDepth 20000 in
theorem wl_r19 : ∀ w ∈ wsL_law_r19, w ∈ lw_tbl := fun w h => (goodIn_p wsL_law_r19 [594, 397, 598, 401, 405] rfl (by decide +kernel) w h).1
set_option maxRecDepth 20000 in
theorem wl_r20 : ∀ w ∈ wsL_law_r20, w ∈ lw_tbl := fun w h => (goodIn_p wsL_law_r20 [603, 410, 607] rfl (by decide +kernel) w h).1
set_option maxRecDepth 20000 in
theorem wl_x5 : ∀ w ∈ wsX50, w ∈ lw_tbl := by decide +kernel
set_option maxRecDepth 20000 in
theorem wl_x6 : ∀ w ∈ wsX60, w ∈ lw_tbl := by decide +kernel
set_option maxRecDepth 20000 in
theorem wl_x1 : ∀ w ∈ wsX10, w ∈ lw_tbl := by decide +kernel
set_option maxRecDepth 20000 in
theorem wl_x3 : ∀ w ∈ wsX30, w ∈ lw_tbl := by decide +kernel
set_option maxRecDepth 20000 in
theorem wl_x2 : ∀ w ∈ wsX20, w ∈ lw_tbl := by decide +kernel
set_option maxRecDepth 20000 in
theorem wl_x4 : ∀ w ∈ wsX40, w ∈ lw_tbl := by decide +kernel
set_option maxRecDepth 20000 in
theorem wl_x0 : ∀ w ∈ wsX00, w ∈ lw_tbl := by decide +kernel
theorem wl_app {a b : List Cond} (ha : ∀ w ∈ a, w ∈ lw_tbl) (hb : ∀ w ∈ b, w ∈ lw_tbl) : ∀ w ∈ a ++ b, w ∈ lw_tbl := fun w h => (List.mem_append.mp h).elim (ha w) (hb w)
theorem wsL_law_in : ∀ w ∈ wsL_law, w ∈ lw_tbl := (wl_app (wl_app (wl_app (wl_app (wl_app (wl_app (wl_app (wl_app (wl_app wl_r1 (wl_app wl_r2 (wl_app wl_r3 (wl_app wl_r4 (wl_app wl_r5 (wl_app wl_r6 (wl_app wl_r7 (wl_app wl_r8 (wl_app wl_r9 (wl_app wl_r10 (wl_app wl_r11 (wl_app wl_r12 (wl_app wl_r13 (wl_app wl_r14 (wl_app wl_r15 (wl_app wl_r16 (wl_app wl_r17 (wl_app wl_r18 (wl_app wl_r19 wl_r20))))))))))))))))))) wl_x5) wl_x6) wl_x1) wl_x3) wl_x2) wl_x4) wl_x0) (fun _ h => absurd h List.not_mem_nil))
theorem inlX0 : ∀ w ∈ wsX00, w ∈ wsL_law := fun _ h => List.mem_append_left _ (List.mem_append_right _ h)
theorem inX0 : ∀ w ∈ wsX00, w ∈ lw_tbl := fun w h => wsL_law_in w (inlX0 w h)
theorem inlX1 : ∀ w ∈ wsX10, w ∈ wsL_law := fun _ h => List.mem_append_left _ (List.mem_append_left _ (List.mem_append_left _ (List.mem_append_left _ (List.mem_append_left _ (List.mem_append_right _ h)))))
theorem inX1 : ∀ w ∈ wsX10, w ∈ lw_tbl := fun w h => wsL_law_in w (inlX1 w h)
theorem inlX2 : ∀ w ∈ wsX20, w ∈ wsL_law := fun _ h => List.mem_append_left _ (List.mem_append_left _ (List.mem_append_left _ (List.mem_append_right _ h)))
theorem inX2 : ∀ w ∈ wsX20, w ∈ lw_tbl := fun w h => wsL_law_in w (inlX2 w h)
theorem inlX3 : ∀ w ∈ wsX30, w ∈ wsL_law := fun _ h => List.mem_append_left _ (List.mem_append_left _ (List.mem_append_left _ (List.mem_append_left _ (List.mem_append_right _ h))))
theorem inX3 : ∀ w ∈ wsX30, w ∈ lw_tbl := fun w h => wsL_law_in w (inlX3 w h)
theorem inlX4 : ∀ w ∈ wsX40, w ∈ wsL_law := fun _ h => List.mem_append_left _ (List.mem_append_left _ (List.mem_append_right _ h))
theorem inX4 : ∀ w ∈ wsX40, w ∈ lw_tbl := fun w h => wsL_law_in w (inlX4 w h)
theorem inlX5 : ∀ w ∈ wsX50, w ∈ wsL_law := fun _ h => List.mem_append_left _ (List.mem_append_left _ (List.mem_append_left _ (List.mem_append_left _ (List.mem_append_left _ (List.mem_append_left _ (List.mem_append_left _ (List.mem_append_right _ h)))))))
theorem inX5 : ∀ w ∈ wsX50, w ∈ lw_tbl := fun w h => wsL_law_in w (inlX5 w h)
theorem inlX6 : ∀ w ∈ wsX60, w ∈ wsL_law := fun _ h => List.mem_append_left _ (List.mem_append_left _ (List.mem_append_left _ (List.mem_append_left _ (List.mem_append_left _ (List.mem_append_left _ (List.mem_append_right _ h))))))
theorem inX6 : ∀ w ∈ wsX60, w ∈ lw_tbl := fun w h => wsL_law_in w (inlX6 w h)
theorem inJ6 : ∀ w ∈ wsJ60, w ∈ lw_tbl := by decide +kernel
theorem inJ9 : ∀ w ∈ wsJ90, w ∈ lw_tbl := by decide +kernel
