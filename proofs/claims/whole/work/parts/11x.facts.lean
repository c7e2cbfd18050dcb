set_option maxRecDepth 100000 in
theorem xwX9_206 : XW RX9 206 "java/lang/IllegalArgumentException" := by unfold XW; decide +kernel
set_option maxRecDepth 100000 in
theorem xwX9_391 : XW RX9 391 "java/lang/IllegalStateException" := by unfold XW; decide +kernel
set_option maxRecDepth 100000 in
theorem xwX9_401 : XW RX9 401 "java/lang/IndexOutOfBoundsException" := by unfold XW; decide +kernel
theorem xi_1 : Cond.initialized "java/lang/IndexOutOfBoundsException" ∈ lw_tbl := wd22
theorem xi_2 : Cond.initialized "java/lang/IllegalArgumentException" ∈ lw_tbl := wd15
theorem xi_3 : Cond.initialized "java/util/NoSuchElementException" ∈ lw_tbl := wd23
theorem xi_4 : Cond.initialized "java/lang/IllegalStateException" ∈ lw_tbl := wd24
