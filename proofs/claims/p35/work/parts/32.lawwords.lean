set_option maxRecDepth 20000 in
theorem wsL_law_r17_in : ∀ w ∈ wsL_law_r17, w ∈ lw_tbl := fun w h => (goodIn_p wsL_law_r17 [476, 481, 485, 296, 469] (by decide +kernel) (by decide +kernel) w h).1
set_option maxRecDepth 20000 in
theorem wsL_law_r18_in : ∀ w ∈ wsL_law_r18, w ∈ lw_tbl := fun w h => (goodIn_p wsL_law_r18 [287, 292, 490, 325, 329, 333] (by decide +kernel) (by decide +kernel) w h).1
set_option maxRecDepth 20000 in
theorem wsL_law_r19_in : ∀ w ∈ wsL_law_r19, w ∈ lw_tbl := fun w h => (goodIn_p wsL_law_r19 [337, 283, 379, 370, 365, 375] (by decide +kernel) (by decide +kernel) w h).1
set_option maxRecDepth 20000 in
theorem wsL_law_r20_in : ∀ w ∈ wsL_law_r20, w ∈ lw_tbl := fun w h => (goodIn_p wsL_law_r20 [383, 387] (by decide +kernel) (by decide +kernel) w h).1
theorem wsX30_in : ∀ w ∈ wsX30, w ∈ lw_tbl := by decide +kernel
theorem wsX10_in : ∀ w ∈ wsX10, w ∈ lw_tbl := by decide +kernel
theorem wsX00_in : ∀ w ∈ wsX00, w ∈ lw_tbl := by decide +kernel
theorem wsX20_in : ∀ w ∈ wsX20, w ∈ lw_tbl := by decide +kernel
theorem k_inapp {a b : List Cond} (ha : ∀ w ∈ a, w ∈ lw_tbl) (hb : ∀ w ∈ b, w ∈ lw_tbl) : ∀ w ∈ a ++ b, w ∈ lw_tbl := fun w h => (List.mem_append.mp h).elim (ha w) (hb w)
theorem wsL_law_in : ∀ w ∈ wsL_law, w ∈ lw_tbl := k_inapp (k_inapp (k_inapp (k_inapp (k_inapp (k_inapp wsL_law_r1_in (k_inapp wsL_law_r2_in (k_inapp wsL_law_r3_in (k_inapp wsL_law_r4_in (k_inapp wsL_law_r5_in (k_inapp wsL_law_r6_in (k_inapp wsL_law_r7_in (k_inapp wsL_law_r8_in (k_inapp wsL_law_r9_in (k_inapp wsL_law_r10_in (k_inapp wsL_law_r11_in (k_inapp wsL_law_r12_in (k_inapp wsL_law_r13_in (k_inapp wsL_law_r14_in (k_inapp wsL_law_r15_in (k_inapp wsL_law_r16_in (k_inapp wsL_law_r17_in (k_inapp wsL_law_r18_in (k_inapp wsL_law_r19_in wsL_law_r20_in))))))))))))))))))) wsX30_in) wsX10_in) wsX00_in) wsX20_in) (fun w h => absurd h List.not_mem_nil)
