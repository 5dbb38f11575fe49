/-! rows of methods, checked by computing -/
set_option maxRecDepth 100000 in
theorem ok_Ps_rowsWithHeads : (ps_ok md_Ps_rowsWithHeads && ps_mok md_Ps_rowsWithHeads) = true := by decide +kernel
set_option maxRecDepth 100000 in
theorem ok_Ps_columnsWithHeads : (ps_ok md_Ps_columnsWithHeads && ps_mok md_Ps_columnsWithHeads) = true := by decide +kernel
set_option maxRecDepth 100000 in
theorem ok_Ps_rulesKey : (ps_ok md_Ps_rulesKey && ps_mok md_Ps_rulesKey) = true := by decide +kernel
set_option maxRecDepth 100000 in
theorem ok_Ps_hasEntry : (ps_ok md_Ps_hasEntry && ps_mok md_Ps_hasEntry) = true := by decide +kernel
set_option maxRecDepth 100000 in
theorem ok_Ps_entryAt : (ps_ok md_Ps_entryAt && ps_mok md_Ps_entryAt) = true := by decide +kernel
set_option maxRecDepth 100000 in
theorem ok_Ps_setEntry : (ps_ok md_Ps_setEntry && ps_mok md_Ps_setEntry) = true := by decide +kernel
set_option maxRecDepth 100000 in
theorem ok_Ps_clearGrid : (ps_ok md_Ps_clearGrid && ps_mok md_Ps_clearGrid) = true := by decide +kernel
set_option maxRecDepth 100000 in
theorem ok_Ru_init : (ps_ok md_Ru_init && ps_mok md_Ru_init) = true := by decide +kernel
set_option maxRecDepth 100000 in
theorem ok_Ru_tune : (ps_ok md_Ru_tune && ps_mok md_Ru_tune) = true := by decide +kernel
set_option maxRecDepth 100000 in
theorem ok_Ru_weigh : (ps_ok md_Ru_weigh && ps_mok md_Ru_weigh) = true := by decide +kernel
set_option maxRecDepth 100000 in
theorem ok_Ru_leastUnmet : (ps_ok md_Ru_leastUnmet && ps_mok md_Ru_leastUnmet) = true := by decide +kernel
set_option maxRecDepth 100000 in
theorem ok_Ru_allows : (ps_ok md_Ru_allows && ps_mok md_Ru_allows) = true := by decide +kernel
set_option maxRecDepth 100000 in
theorem ok_Ru_areNear : (ps_ok md_Ru_areNear && ps_mok md_Ru_areNear) = true := by decide +kernel
set_option maxRecDepth 100000 in
theorem ok_Ru_worthOf : (ps_ok md_Ru_worthOf && ps_mok md_Ru_worthOf) = true := by decide +kernel
set_option maxRecDepth 100000 in
theorem ok_Ru_setsOf : (ps_ok md_Ru_setsOf && ps_mok md_Ru_setsOf) = true := by decide +kernel
set_option maxRecDepth 100000 in
theorem ok_Sp_init : (ps_ok md_Sp_init && ps_mok md_Sp_init) = true := by decide +kernel
set_option maxRecDepth 100000 in
theorem ok_Sp_leastPolynomial : (ps_ok md_Sp_leastPolynomial && ps_mok md_Sp_leastPolynomial) = true := by decide +kernel
set_option maxRecDepth 100000 in
theorem ok_Sp_clear : (ps_ok md_Sp_clear && ps_mok md_Sp_clear) = true := by decide +kernel
set_option maxRecDepth 100000 in
theorem ok_Sp_add : (ps_ok md_Sp_add && ps_mok md_Sp_add) = true := by decide +kernel
set_option maxRecDepth 100000 in
theorem ok_Sp_tagOf : (ps_ok md_Sp_tagOf && ps_mok md_Sp_tagOf) = true := by decide +kernel
set_option maxRecDepth 100000 in
theorem ok_St_init : (ps_ok md_St_init && ps_mok md_St_init) = true := by decide +kernel
set_option maxRecDepth 100000 in
theorem ok_St_reduceGrid : (ps_ok md_St_reduceGrid && ps_mok md_St_reduceGrid) = true := by decide +kernel
set_option maxRecDepth 100000 in
theorem ok_St_reduceBesideUnit : (ps_ok md_St_reduceBesideUnit && ps_mok md_St_reduceBesideUnit) = true := by decide +kernel
set_option maxRecDepth 100000 in
theorem ok_St_load : (ps_ok md_St_load && ps_mok md_St_load) = true := by decide +kernel
set_option maxRecDepth 100000 in
theorem ok_St_reduce : (ps_ok md_St_reduce && ps_mok md_St_reduce) = true := by decide +kernel
set_option maxRecDepth 100000 in
theorem ok_St_firstWith : (ps_ok md_St_firstWith && ps_mok md_St_firstWith) = true := by decide +kernel
set_option maxRecDepth 100000 in
theorem ok_St_swap : (ps_ok md_St_swap && ps_mok md_St_swap) = true := by decide +kernel
set_option maxRecDepth 100000 in
theorem ok_St_lead : (ps_ok md_St_lead && ps_mok md_St_lead) = true := by decide +kernel
set_option maxRecDepth 100000 in
theorem ok_St_clearOthers : (ps_ok md_St_clearOthers && ps_mok md_St_clearOthers) = true := by decide +kernel
set_option maxRecDepth 100000 in
theorem ok_St_cellAt : (ps_ok md_St_cellAt && ps_mok md_St_cellAt) = true := by decide +kernel
set_option maxRecDepth 100000 in
theorem ok_St_hasLead : (ps_ok md_St_hasLead && ps_mok md_St_hasLead) = true := by decide +kernel
set_option maxRecDepth 100000 in
theorem ok_St_besideLead : (ps_ok md_St_besideLead && ps_mok md_St_besideLead) = true := by decide +kernel
set_option maxRecDepth 100000 in
theorem ok_Ta_init : (ps_ok md_Ta_init && ps_mok md_Ta_init) = true := by decide +kernel
set_option maxRecDepth 100000 in
theorem ok_Ta_hasRoom : (ps_ok md_Ta_hasRoom && ps_mok md_Ta_hasRoom) = true := by decide +kernel
set_option maxRecDepth 100000 in
theorem ok_Ta_append : (ps_ok md_Ta_append && ps_mok md_Ta_append) = true := by decide +kernel
set_option maxRecDepth 100000 in
theorem ok_Ta_read : (ps_ok md_Ta_read && ps_mok md_Ta_read) = true := by decide +kernel
set_option maxRecDepth 100000 in
theorem ok_Ta_readHeads : (ps_ok md_Ta_readHeads && ps_mok md_Ta_readHeads) = true := by decide +kernel
set_option maxRecDepth 100000 in
theorem ok_Ta_blame : (ps_ok md_Ta_blame && ps_mok md_Ta_blame) = true := by decide +kernel
set_option maxRecDepth 100000 in
theorem ok_Ta_skipBlanks : (ps_ok md_Ta_skipBlanks && ps_mok md_Ta_skipBlanks) = true := by decide +kernel
set_option maxRecDepth 100000 in
theorem ok_Ta_isBetween : (ps_ok md_Ta_isBetween && ps_mok md_Ta_isBetween) = true := by decide +kernel
set_option maxRecDepth 100000 in
theorem ok_Ta_readNumber : (ps_ok md_Ta_readNumber && ps_mok md_Ta_readNumber) = true := by decide +kernel
set_option maxRecDepth 100000 in
theorem ok_Ta_readKind : (ps_ok md_Ta_readKind && ps_mok md_Ta_readKind) = true := by decide +kernel
set_option maxRecDepth 100000 in
theorem ok_Ta_readWord : (ps_ok md_Ta_readWord && ps_mok md_Ta_readWord) = true := by decide +kernel
set_option maxRecDepth 100000 in
theorem ok_Ta_isWord : (ps_ok md_Ta_isWord && ps_mok md_Ta_isWord) = true := by decide +kernel
set_option maxRecDepth 100000 in
theorem ok_T_init : (ps_ok md_T_init && ps_mok md_T_init) = true := by decide +kernel
set_option maxRecDepth 100000 in
theorem ok_T_feed : (ps_ok md_T_feed && ps_mok md_T_feed) = true := by decide +kernel
set_option maxRecDepth 100000 in
theorem ok_T_end : (ps_ok md_T_end && ps_mok md_T_end) = true := by decide +kernel
set_option maxRecDepth 100000 in
theorem ok_T_tell : (ps_ok md_T_tell && ps_mok md_T_tell) = true := by decide +kernel
set_option maxRecDepth 100000 in
theorem ok_T_turn : (ps_ok md_T_turn && ps_mok md_T_turn) = true := by decide +kernel
set_option maxRecDepth 100000 in
theorem ok_T_play : (ps_ok md_T_play && ps_mok md_T_play) = true := by decide +kernel
set_option maxRecDepth 100000 in
theorem ok_T_played : (ps_ok md_T_played && ps_mok md_T_played) = true := by decide +kernel
set_option maxRecDepth 100000 in
theorem ok_T_answer : (ps_ok md_T_answer && ps_mok md_T_answer) = true := by decide +kernel
set_option maxRecDepth 100000 in
theorem ok_T_put : (ps_ok md_T_put && ps_mok md_T_put) = true := by decide +kernel
set_option maxRecDepth 100000 in
theorem ok_T_reckon : (ps_ok md_T_reckon && ps_mok md_T_reckon) = true := by decide +kernel
set_option maxRecDepth 100000 in
theorem ok_T_reckoned : (ps_ok md_T_reckoned && ps_mok md_T_reckoned) = true := by decide +kernel
set_option maxRecDepth 100000 in
theorem ok_T_undo : (ps_ok md_T_undo && ps_mok md_T_undo) = true := by decide +kernel
set_option maxRecDepth 100000 in
theorem ok_T_keep : (ps_ok md_T_keep && ps_mok md_T_keep) = true := by decide +kernel
set_option maxRecDepth 100000 in
theorem ok_T_back : (ps_ok md_T_back && ps_mok md_T_back) = true := by decide +kernel
set_option maxRecDepth 100000 in
theorem ok_T_hasShelf : (ps_ok md_T_hasShelf && ps_mok md_T_hasShelf) = true := by decide +kernel
set_option maxRecDepth 100000 in
theorem ok_T_grid : (ps_ok md_T_grid && ps_mok md_T_grid) = true := by decide +kernel
set_option maxRecDepth 100000 in
theorem ok_T_enter : (ps_ok md_T_enter && ps_mok md_T_enter) = true := by decide +kernel
set_option maxRecDepth 100000 in
theorem ok_T_multiply : (ps_ok md_T_multiply && ps_mok md_T_multiply) = true := by decide +kernel
set_option maxRecDepth 100000 in
theorem ok_T_sharedOut : (ps_ok md_T_sharedOut && ps_mok md_T_sharedOut) = true := by decide +kernel
set_option maxRecDepth 100000 in
theorem ok_T_invert : (ps_ok md_T_invert && ps_mok md_T_invert) = true := by decide +kernel
set_option maxRecDepth 100000 in
theorem ok_T_entry : (ps_ok md_T_entry && ps_mok md_T_entry) = true := by decide +kernel
set_option maxRecDepth 100000 in
theorem ok_T_determinant : (ps_ok md_T_determinant && ps_mok md_T_determinant) = true := by decide +kernel
set_option maxRecDepth 100000 in
theorem ok_T_shape : (ps_ok md_T_shape && ps_mok md_T_shape) = true := by decide +kernel
set_option maxRecDepth 100000 in
theorem ok_T_solution : (ps_ok md_T_solution && ps_mok md_T_solution) = true := by decide +kernel
set_option maxRecDepth 100000 in
theorem ok_T_roots : (ps_ok md_T_roots && ps_mok md_T_roots) = true := by decide +kernel
set_option maxRecDepth 100000 in
theorem ok_T_common : (ps_ok md_T_common && ps_mok md_T_common) = true := by decide +kernel
set_option maxRecDepth 100000 in
theorem ok_T_mended : (ps_ok md_T_mended && ps_mok md_T_mended) = true := by decide +kernel
set_option maxRecDepth 100000 in
theorem ok_T_mendedAt : (ps_ok md_T_mendedAt && ps_mok md_T_mendedAt) = true := by decide +kernel
set_option maxRecDepth 100000 in
theorem ok_T_agrees : (ps_ok md_T_agrees && ps_mok md_T_agrees) = true := by decide +kernel
set_option maxRecDepth 100000 in
theorem ok_T_place : (ps_ok md_T_place && ps_mok md_T_place) = true := by decide +kernel
set_option maxRecDepth 100000 in
theorem ok_T_at : (ps_ok md_T_at && ps_mok md_T_at) = true := by decide +kernel
set_option maxRecDepth 100000 in
theorem ok_T_full : (ps_ok md_T_full && ps_mok md_T_full) = true := by decide +kernel
set_option maxRecDepth 100000 in
theorem ok_T_times : (ps_ok md_T_times && ps_mok md_T_times) = true := by decide +kernel
set_option maxRecDepth 100000 in
theorem ok_T_inverse : (ps_ok md_T_inverse && ps_mok md_T_inverse) = true := by decide +kernel
set_option maxRecDepth 100000 in
theorem ok_T_root : (ps_ok md_T_root && ps_mok md_T_root) = true := by decide +kernel
set_option maxRecDepth 100000 in
theorem ok_T_power : (ps_ok md_T_power && ps_mok md_T_power) = true := by decide +kernel
set_option maxRecDepth 100000 in
theorem ok_T_order : (ps_ok md_T_order && ps_mok md_T_order) = true := by decide +kernel
set_option maxRecDepth 100000 in
theorem ok_T_level : (ps_ok md_T_level && ps_mok md_T_level) = true := by decide +kernel
set_option maxRecDepth 100000 in
theorem ok_T_least : (ps_ok md_T_least && ps_mok md_T_least) = true := by decide +kernel
set_option maxRecDepth 100000 in
theorem ok_T_trace : (ps_ok md_T_trace && ps_mok md_T_trace) = true := by decide +kernel
set_option maxRecDepth 100000 in
theorem ok_T_half : (ps_ok md_T_half && ps_mok md_T_half) = true := by decide +kernel
set_option maxRecDepth 100000 in
theorem ok_T_solve : (ps_ok md_T_solve && ps_mok md_T_solve) = true := by decide +kernel
set_option maxRecDepth 100000 in
theorem ok_T_log : (ps_ok md_T_log && ps_mok md_T_log) = true := by decide +kernel
set_option maxRecDepth 100000 in
theorem ok_T_boards : (ps_ok md_T_boards && ps_mok md_T_boards) = true := by decide +kernel
set_option maxRecDepth 100000 in
theorem ok_T_game : (ps_ok md_T_game && ps_mok md_T_game) = true := by decide +kernel
set_option maxRecDepth 100000 in
theorem ok_T_worth : (ps_ok md_T_worth && ps_mok md_T_worth) = true := by decide +kernel
set_option maxRecDepth 100000 in
theorem ok_T_cell : (ps_ok md_T_cell && ps_mok md_T_cell) = true := by decide +kernel
set_option maxRecDepth 100000 in
theorem ok_T_total : (ps_ok md_T_total && ps_mok md_T_total) = true := by decide +kernel
set_option maxRecDepth 100000 in
theorem ok_T_moves : (ps_ok md_T_moves && ps_mok md_T_moves) = true := by decide +kernel
set_option maxRecDepth 100000 in
theorem ok_T_move : (ps_ok md_T_move && ps_mok md_T_move) = true := by decide +kernel
set_option maxRecDepth 100000 in
theorem ok_T_sets : (ps_ok md_T_sets && ps_mok md_T_sets) = true := by decide +kernel
