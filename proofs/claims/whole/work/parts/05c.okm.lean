/-! rows of methods, checked by computing -/
set_option maxRecDepth 100000 in
theorem ok_T_count : (ps_ok md_T_count && ps_mok md_T_count) = true := by decide +kernel
set_option maxRecDepth 100000 in
theorem ok_M_init : (ps_ok md_M_init && ps_mok md_M_init) = true := by decide +kernel
set_option maxRecDepth 100000 in
theorem ok_M_isIn : (ps_ok md_M_isIn && ps_mok md_M_isIn) = true := by decide +kernel
set_option maxRecDepth 100000 in
theorem ok_M_has : (ps_ok md_M_has && ps_mok md_M_has) = true := by decide +kernel
set_option maxRecDepth 100000 in
theorem ok_M_isLess : (ps_ok md_M_isLess && ps_mok md_M_isLess) = true := by decide +kernel
set_option maxRecDepth 100000 in
theorem ok_M_byTwo : (ps_ok md_M_byTwo && ps_mok md_M_byTwo) = true := by decide +kernel
set_option maxRecDepth 100000 in
theorem ok_M_topOf : (ps_ok md_M_topOf && ps_mok md_M_topOf) = true := by decide +kernel
set_option maxRecDepth 100000 in
theorem ok_M_twoByTwo : (ps_ok md_M_twoByTwo && ps_mok md_M_twoByTwo) = true := by decide +kernel
set_option maxRecDepth 100000 in
theorem ok_M_laysTwos : (ps_ok md_M_laysTwos && ps_mok md_M_laysTwos) = true := by decide +kernel
set_option maxRecDepth 100000 in
theorem ok_M_product : (ps_ok md_M_product && ps_mok md_M_product) = true := by decide +kernel
set_option maxRecDepth 100000 in
theorem ok_M_square : (ps_ok md_M_square && ps_mok md_M_square) = true := by decide +kernel
set_option maxRecDepth 100000 in
theorem ok_M_powerOf : (ps_ok md_M_powerOf && ps_mok md_M_powerOf) = true := by decide +kernel
set_option maxRecDepth 100000 in
theorem ok_M_levelOf : (ps_ok md_M_levelOf && ps_mok md_M_levelOf) = true := by decide +kernel
set_option maxRecDepth 100000 in
theorem ok_M_allBut : (ps_ok md_M_allBut && ps_mok md_M_allBut) = true := by decide +kernel
set_option maxRecDepth 100000 in
theorem ok_M_inverseOf : (ps_ok md_M_inverseOf && ps_mok md_M_inverseOf) = true := by decide +kernel
set_option maxRecDepth 100000 in
theorem ok_M_rootOf : (ps_ok md_M_rootOf && ps_mok md_M_rootOf) = true := by decide +kernel
set_option maxRecDepth 100000 in
theorem ok_M_times : (ps_ok md_M_times && ps_mok md_M_times) = true := by decide +kernel
set_option maxRecDepth 100000 in
theorem ok_M_inverse : (ps_ok md_M_inverse && ps_mok md_M_inverse) = true := by decide +kernel
set_option maxRecDepth 100000 in
theorem ok_M_root : (ps_ok md_M_root && ps_mok md_M_root) = true := by decide +kernel
set_option maxRecDepth 100000 in
theorem ok_M_power : (ps_ok md_M_power && ps_mok md_M_power) = true := by decide +kernel
set_option maxRecDepth 100000 in
theorem ok_M_madeOf : (ps_ok md_M_madeOf && ps_mok md_M_madeOf) = true := by decide +kernel
set_option maxRecDepth 100000 in
theorem ok_M_order : (ps_ok md_M_order && ps_mok md_M_order) = true := by decide +kernel
set_option maxRecDepth 100000 in
theorem ok_M_degreeOf_JI : (ps_ok md_M_degreeOf_JI && ps_mok md_M_degreeOf_JI) = true := by decide +kernel
set_option maxRecDepth 100000 in
theorem ok_M_level : (ps_ok md_M_level && ps_mok md_M_level) = true := by decide +kernel
set_option maxRecDepth 100000 in
theorem ok_M_least : (ps_ok md_M_least && ps_mok md_M_least) = true := by decide +kernel
set_option maxRecDepth 100000 in
theorem ok_M_trace : (ps_ok md_M_trace && ps_mok md_M_trace) = true := by decide +kernel
set_option maxRecDepth 100000 in
theorem ok_M_highest : (ps_ok md_M_highest && ps_mok md_M_highest) = true := by decide +kernel
set_option maxRecDepth 100000 in
theorem ok_M_laysHalves : (ps_ok md_M_laysHalves && ps_mok md_M_laysHalves) = true := by decide +kernel
set_option maxRecDepth 100000 in
theorem ok_M_halfOf : (ps_ok md_M_halfOf && ps_mok md_M_halfOf) = true := by decide +kernel
set_option maxRecDepth 100000 in
theorem ok_M_half : (ps_ok md_M_half && ps_mok md_M_half) = true := by decide +kernel
set_option maxRecDepth 100000 in
theorem ok_M_solve : (ps_ok md_M_solve && ps_mok md_M_solve) = true := by decide +kernel
set_option maxRecDepth 100000 in
theorem ok_M_laysBy : (ps_ok md_M_laysBy && ps_mok md_M_laysBy) = true := by decide +kernel
set_option maxRecDepth 100000 in
theorem ok_M_by : (ps_ok md_M_by && ps_mok md_M_by) = true := by decide +kernel
set_option maxRecDepth 100000 in
theorem ok_M_log : (ps_ok md_M_log && ps_mok md_M_log) = true := by decide +kernel
set_option maxRecDepth 100000 in
theorem ok_M_placeOf : (ps_ok md_M_placeOf && ps_mok md_M_placeOf) = true := by decide +kernel
set_option maxRecDepth 100000 in
theorem ok_M_place_IJ : (ps_ok md_M_place_IJ && ps_mok md_M_place_IJ) = true := by decide +kernel
set_option maxRecDepth 100000 in
theorem ok_M_polynomialAt : (ps_ok md_M_polynomialAt && ps_mok md_M_polynomialAt) = true := by decide +kernel
set_option maxRecDepth 100000 in
theorem ok_M_throughAt : (ps_ok md_M_throughAt && ps_mok md_M_throughAt) = true := by decide +kernel
set_option maxRecDepth 100000 in
theorem ok_M_at : (ps_ok md_M_at && ps_mok md_M_at) = true := by decide +kernel
set_option maxRecDepth 100000 in
theorem ok_M_isRoot : (ps_ok md_M_isRoot && ps_mok md_M_isRoot) = true := by decide +kernel
set_option maxRecDepth 100000 in
theorem ok_M_roots : (ps_ok md_M_roots && ps_mok md_M_roots) = true := by decide +kernel
set_option maxRecDepth 100000 in
theorem ok_M_degreeOf_AJI : (ps_ok md_M_degreeOf_AJI && ps_mok md_M_degreeOf_AJI) = true := by decide +kernel
set_option maxRecDepth 100000 in
theorem ok_M_leaves : (ps_ok md_M_leaves && ps_mok md_M_leaves) = true := by decide +kernel
set_option maxRecDepth 100000 in
theorem ok_M_laysCommon : (ps_ok md_M_laysCommon && ps_mok md_M_laysCommon) = true := by decide +kernel
set_option maxRecDepth 100000 in
theorem ok_M_common : (ps_ok md_M_common && ps_mok md_M_common) = true := by decide +kernel
set_option maxRecDepth 100000 in
theorem ok_M_bySet : (ps_ok md_M_bySet && ps_mok md_M_bySet) = true := by decide +kernel
set_option maxRecDepth 100000 in
theorem ok_M_agreesBy : (ps_ok md_M_agreesBy && ps_mok md_M_agreesBy) = true := by decide +kernel
set_option maxRecDepth 100000 in
theorem ok_M_findsMended : (ps_ok md_M_findsMended && ps_mok md_M_findsMended) = true := by decide +kernel
set_option maxRecDepth 100000 in
theorem ok_M_addsBase : (ps_ok md_M_addsBase && ps_mok md_M_addsBase) = true := by decide +kernel
set_option maxRecDepth 100000 in
theorem ok_M_laysMended : (ps_ok md_M_laysMended && ps_mok md_M_laysMended) = true := by decide +kernel
set_option maxRecDepth 100000 in
theorem ok_M_mended : (ps_ok md_M_mended && ps_mok md_M_mended) = true := by decide +kernel
set_option maxRecDepth 100000 in
theorem ok_M_mendedAt : (ps_ok md_M_mendedAt && ps_mok md_M_mendedAt) = true := by decide +kernel
set_option maxRecDepth 100000 in
theorem ok_M_agrees : (ps_ok md_M_agrees && ps_mok md_M_agrees) = true := by decide +kernel
set_option maxRecDepth 100000 in
theorem ok_M_primesOf : (ps_ok md_M_primesOf && ps_mok md_M_primesOf) = true := by decide +kernel
set_option maxRecDepth 100000 in
theorem ok_M_isFull : (ps_ok md_M_isFull && ps_mok md_M_isFull) = true := by decide +kernel
set_option maxRecDepth 100000 in
theorem ok_M_full : (ps_ok md_M_full && ps_mok md_M_full) = true := by decide +kernel
set_option maxRecDepth 100000 in
theorem ok_M_entryOf : (ps_ok md_M_entryOf && ps_mok md_M_entryOf) = true := by decide +kernel
set_option maxRecDepth 100000 in
theorem ok_M_cellAt : (ps_ok md_M_cellAt && ps_mok md_M_cellAt) = true := by decide +kernel
set_option maxRecDepth 100000 in
theorem ok_M_laysForm : (ps_ok md_M_laysForm && ps_mok md_M_laysForm) = true := by decide +kernel
set_option maxRecDepth 100000 in
theorem ok_M_swaps : (ps_ok md_M_swaps && ps_mok md_M_swaps) = true := by decide +kernel
set_option maxRecDepth 100000 in
theorem ok_M_divides : (ps_ok md_M_divides && ps_mok md_M_divides) = true := by decide +kernel
set_option maxRecDepth 100000 in
theorem ok_M_adds : (ps_ok md_M_adds && ps_mok md_M_adds) = true := by decide +kernel
set_option maxRecDepth 100000 in
theorem ok_M_clears : (ps_ok md_M_clears && ps_mok md_M_clears) = true := by decide +kernel
set_option maxRecDepth 100000 in
theorem ok_M_laysStepForm : (ps_ok md_M_laysStepForm && ps_mok md_M_laysStepForm) = true := by decide +kernel
set_option maxRecDepth 100000 in
theorem ok_M_isEntry : (ps_ok md_M_isEntry && ps_mok md_M_isEntry) = true := by decide +kernel
set_option maxRecDepth 100000 in
theorem ok_M_entry : (ps_ok md_M_entry && ps_mok md_M_entry) = true := by decide +kernel
set_option maxRecDepth 100000 in
theorem ok_M_determinant : (ps_ok md_M_determinant && ps_mok md_M_determinant) = true := by decide +kernel
set_option maxRecDepth 100000 in
theorem ok_M_isSolved : (ps_ok md_M_isSolved && ps_mok md_M_isSolved) = true := by decide +kernel
set_option maxRecDepth 100000 in
theorem ok_M_shape : (ps_ok md_M_shape && ps_mok md_M_shape) = true := by decide +kernel
set_option maxRecDepth 100000 in
theorem ok_M_solution : (ps_ok md_M_solution && ps_mok md_M_solution) = true := by decide +kernel
set_option maxRecDepth 100000 in
theorem ok_M_keepsAct : (ps_ok md_M_keepsAct && ps_mok md_M_keepsAct) = true := by decide +kernel
set_option maxRecDepth 100000 in
theorem ok_M_undo : (ps_ok md_M_undo && ps_mok md_M_undo) = true := by decide +kernel
set_option maxRecDepth 100000 in
theorem ok_M_isShelf : (ps_ok md_M_isShelf && ps_mok md_M_isShelf) = true := by decide +kernel
set_option maxRecDepth 100000 in
theorem ok_M_size : (ps_ok md_M_size && ps_mok md_M_size) = true := by decide +kernel
set_option maxRecDepth 100000 in
theorem ok_M_heads : (ps_ok md_M_heads && ps_mok md_M_heads) = true := by decide +kernel
set_option maxRecDepth 100000 in
theorem ok_M_keep : (ps_ok md_M_keep && ps_mok md_M_keep) = true := by decide +kernel
set_option maxRecDepth 100000 in
theorem ok_M_back : (ps_ok md_M_back && ps_mok md_M_back) = true := by decide +kernel
set_option maxRecDepth 100000 in
theorem ok_M_put : (ps_ok md_M_put && ps_mok md_M_put) = true := by decide +kernel
set_option maxRecDepth 100000 in
theorem ok_M_reckoned : (ps_ok md_M_reckoned && ps_mok md_M_reckoned) = true := by decide +kernel
set_option maxRecDepth 100000 in
theorem ok_M_reckon : (ps_ok md_M_reckon && ps_mok md_M_reckon) = true := by decide +kernel
