theorem gm_cl5 : Cond.classLink yL_law.cls 7 RX5 ∈ wsL_law := List.mem_of_getElem? (i := 0) (by decide +kernel)
theorem gm_in5 : Cond.instantiable RX5 4 ∈ wsL_law := List.mem_of_getElem? (i := 1) (by decide +kernel)
theorem gm_ini5 : Cond.initialized RX5 ∈ wsL_law := List.mem_of_getElem? (i := 2) (by decide +kernel)
theorem gm_cl6 : Cond.classLink yL_law.cls 10 RX6 ∈ wsL_law := List.mem_of_getElem? (i := 3) (by decide +kernel)
theorem gm_in6 : Cond.instantiable RX6 23 ∈ wsL_law := List.mem_of_getElem? (i := 4) (by decide +kernel)
theorem gm_ini6 : Cond.initialized RX6 ∈ wsL_law := List.mem_of_getElem? (i := 5) (by decide +kernel)
theorem gm_ml5 : Cond.methodLink yL_law.cls 9 yX5_init ∈ wsL_law := List.mem_of_getElem? (i := 6) (by decide +kernel)
theorem gm_im5 : Cond.instanceMethod yX5_init ∈ wsL_law := List.mem_of_getElem? (i := 7) (by decide +kernel)
theorem gm_ml6 : Cond.methodLink yL_law.cls 12 yX6_init ∈ wsL_law := by decide +kernel
theorem gm_im6 : Cond.instanceMethod yX6_init ∈ wsL_law := by decide +kernel
theorem gm_in0 : Cond.instantiable RX0 9 ∈ wsL_law := by decide +kernel
theorem gm_in1 : Cond.instantiable RX1 6 ∈ wsL_law := by decide +kernel
theorem gm_in2 : Cond.instantiable RX2 4 ∈ wsL_law := by decide +kernel
theorem gm_in3 : Cond.instantiable RX3 6 ∈ wsL_law := by decide +kernel
theorem gm_in4 : Cond.instantiable RX4 3 ∈ wsL_law := by decide +kernel
theorem gm_arI : Cond.arrayClass .int ∈ wsL_law := by decide +kernel
theorem gm_arZ : Cond.arrayClass .boolean ∈ wsL_law := by decide +kernel
theorem gm_nin : ∀ q ∈ gm_nw5, Cond.methodLinkNest q.1 q.2.1 q.2.2.1 q.2.2.2 ∈ lw_tbl := by decide +kernel
