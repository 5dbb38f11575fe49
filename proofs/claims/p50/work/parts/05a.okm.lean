/-! rows of methods, checked by computing -/
set_option maxRecDepth 100000 in
theorem ok_Cu_init : (ps_ok md_Cu_init && ps_mok md_Cu_init) = true := by decide +kernel
set_option maxRecDepth 100000 in
theorem ok_Le_init : (ps_ok md_Le_init && ps_mok md_Le_init) = true := by decide +kernel
set_option maxRecDepth 100000 in
theorem ok_Le_canHold : (ps_ok md_Le_canHold && ps_mok md_Le_canHold) = true := by decide +kernel
set_option maxRecDepth 100000 in
theorem ok_Le_tune : (ps_ok md_Le_tune && ps_mok md_Le_tune) = true := by decide +kernel
set_option maxRecDepth 100000 in
theorem ok_Le_listMoves : (ps_ok md_Le_listMoves && ps_mok md_Le_listMoves) = true := by decide +kernel
set_option maxRecDepth 100000 in
theorem ok_Le_listMovesAt : (ps_ok md_Le_listMovesAt && ps_mok md_Le_listMovesAt) = true := by decide +kernel
set_option maxRecDepth 100000 in
theorem ok_Le_measure : (ps_ok md_Le_measure && ps_mok md_Le_measure) = true := by decide +kernel
set_option maxRecDepth 100000 in
theorem ok_Le_measured : (ps_ok md_Le_measured && ps_mok md_Le_measured) = true := by decide +kernel
set_option maxRecDepth 100000 in
theorem ok_Le_packed : (ps_ok md_Le_packed && ps_mok md_Le_packed) = true := by decide +kernel
set_option maxRecDepth 100000 in
theorem ok_Le_lengthOf : (ps_ok md_Le_lengthOf && ps_mok md_Le_lengthOf) = true := by decide +kernel
set_option maxRecDepth 100000 in
theorem ok_Nu_below : (ps_ok md_Nu_below && ps_mok md_Nu_below) = true := by decide +kernel
set_option maxRecDepth 100000 in
theorem ok_Nu_product : (ps_ok md_Nu_product && ps_mok md_Nu_product) = true := by decide +kernel
set_option maxRecDepth 100000 in
theorem ok_Nu_sharedOut : (ps_ok md_Nu_sharedOut && ps_mok md_Nu_sharedOut) = true := by decide +kernel
set_option maxRecDepth 100000 in
theorem ok_Nu_lifted : (ps_ok md_Nu_lifted && ps_mok md_Nu_lifted) = true := by decide +kernel
set_option maxRecDepth 100000 in
theorem ok_Nu_toppedBy : (ps_ok md_Nu_toppedBy && ps_mok md_Nu_toppedBy) = true := by decide +kernel
set_option maxRecDepth 100000 in
theorem ok_Pa_init : (ps_ok md_Pa_init && ps_mok md_Pa_init) = true := by decide +kernel
set_option maxRecDepth 100000 in
theorem ok_Pa_push : (ps_ok md_Pa_push && ps_mok md_Pa_push) = true := by decide +kernel
set_option maxRecDepth 100000 in
theorem ok_Pa_newest : (ps_ok md_Pa_newest && ps_mok md_Pa_newest) = true := by decide +kernel
set_option maxRecDepth 100000 in
theorem ok_Pa_pop : (ps_ok md_Pa_pop && ps_mok md_Pa_pop) = true := by decide +kernel
set_option maxRecDepth 100000 in
theorem ok_Pl_init : (ps_ok md_Pl_init && ps_mok md_Pl_init) = true := by decide +kernel
set_option maxRecDepth 100000 in
theorem ok_Pl_tune : (ps_ok md_Pl_tune && ps_mok md_Pl_tune) = true := by decide +kernel
set_option maxRecDepth 100000 in
theorem ok_Pl_worthOfBit : (ps_ok md_Pl_worthOfBit && ps_mok md_Pl_worthOfBit) = true := by decide +kernel
set_option maxRecDepth 100000 in
theorem ok_Pl_joinEffects : (ps_ok md_Pl_joinEffects && ps_mok md_Pl_joinEffects) = true := by decide +kernel
set_option maxRecDepth 100000 in
theorem ok_Pl_effectOf : (ps_ok md_Pl_effectOf && ps_mok md_Pl_effectOf) = true := by decide +kernel
set_option maxRecDepth 100000 in
theorem ok_Pl_ruleOf : (ps_ok md_Pl_ruleOf && ps_mok md_Pl_ruleOf) = true := by decide +kernel
set_option maxRecDepth 100000 in
theorem ok_Pl_boardWorth : (ps_ok md_Pl_boardWorth && ps_mok md_Pl_boardWorth) = true := by decide +kernel
set_option maxRecDepth 100000 in
theorem ok_Pl_areSets : (ps_ok md_Pl_areSets && ps_mok md_Pl_areSets) = true := by decide +kernel
set_option maxRecDepth 100000 in
theorem ok_Pl_mayBe : (ps_ok md_Pl_mayBe && ps_mok md_Pl_mayBe) = true := by decide +kernel
set_option maxRecDepth 100000 in
theorem ok_Pl_greatestOf : (ps_ok md_Pl_greatestOf && ps_mok md_Pl_greatestOf) = true := by decide +kernel
set_option maxRecDepth 100000 in
theorem ok_Pl_find : (ps_ok md_Pl_find && ps_mok md_Pl_find) = true := by decide +kernel
set_option maxRecDepth 100000 in
theorem ok_Pl_findAt : (ps_ok md_Pl_findAt && ps_mok md_Pl_findAt) = true := by decide +kernel
set_option maxRecDepth 100000 in
theorem ok_Po_init : (ps_ok md_Po_init && ps_mok md_Po_init) = true := by decide +kernel
set_option maxRecDepth 100000 in
theorem ok_Ps_init : (ps_ok md_Ps_init && ps_mok md_Ps_init) = true := by decide +kernel
set_option maxRecDepth 100000 in
theorem ok_Ps_becomeBoard : (ps_ok md_Ps_becomeBoard && ps_mok md_Ps_becomeBoard) = true := by decide +kernel
set_option maxRecDepth 100000 in
theorem ok_Ps_become : (ps_ok md_Ps_become && ps_mok md_Ps_become) = true := by decide +kernel
set_option maxRecDepth 100000 in
theorem ok_Ps_hasCell : (ps_ok md_Ps_hasCell && ps_mok md_Ps_hasCell) = true := by decide +kernel
set_option maxRecDepth 100000 in
theorem ok_Ps_bitOf : (ps_ok md_Ps_bitOf && ps_mok md_Ps_bitOf) = true := by decide +kernel
set_option maxRecDepth 100000 in
theorem ok_Ps_bitsOf : (ps_ok md_Ps_bitsOf && ps_mok md_Ps_bitsOf) = true := by decide +kernel
set_option maxRecDepth 100000 in
theorem ok_Ps_showsHeads : (ps_ok md_Ps_showsHeads && ps_mok md_Ps_showsHeads) = true := by decide +kernel
set_option maxRecDepth 100000 in
theorem ok_Ps_headsShown : (ps_ok md_Ps_headsShown && ps_mok md_Ps_headsShown) = true := by decide +kernel
set_option maxRecDepth 100000 in
theorem ok_Ps_headsOfRow : (ps_ok md_Ps_headsOfRow && ps_mok md_Ps_headsOfRow) = true := by decide +kernel
set_option maxRecDepth 100000 in
theorem ok_Ps_rowsWithHeads : (ps_ok md_Ps_rowsWithHeads && ps_mok md_Ps_rowsWithHeads) = true := by decide +kernel
set_option maxRecDepth 100000 in
theorem ok_Ps_columnsWithHeads : (ps_ok md_Ps_columnsWithHeads && ps_mok md_Ps_columnsWithHeads) = true := by decide +kernel
set_option maxRecDepth 100000 in
theorem ok_Ps_rulesKey : (ps_ok md_Ps_rulesKey && ps_mok md_Ps_rulesKey) = true := by decide +kernel
set_option maxRecDepth 100000 in
theorem ok_Ru_init : (ps_ok md_Ru_init && ps_mok md_Ru_init) = true := by decide +kernel
set_option maxRecDepth 100000 in
theorem ok_Ru_tune : (ps_ok md_Ru_tune && ps_mok md_Ru_tune) = true := by decide +kernel
set_option maxRecDepth 100000 in
theorem ok_Ru_weigh : (ps_ok md_Ru_weigh && ps_mok md_Ru_weigh) = true := by decide +kernel
set_option maxRecDepth 100000 in
theorem ok_Ru_leastUnmet : (ps_ok md_Ru_leastUnmet && ps_mok md_Ru_leastUnmet) = true := by decide +kernel
set_option maxRecDepth 100000 in
theorem ok_Ru_allows : (ps_ok md_Ru_allows && ps_mok md_Ru_allows) = true := by decide +kernel
set_option maxRecDepth 100000 in
theorem ok_Ru_areNear : (ps_ok md_Ru_areNear && ps_mok md_Ru_areNear) = true := by decide +kernel
set_option maxRecDepth 100000 in
theorem ok_Ru_worthOf : (ps_ok md_Ru_worthOf && ps_mok md_Ru_worthOf) = true := by decide +kernel
set_option maxRecDepth 100000 in
theorem ok_Ru_setsOf : (ps_ok md_Ru_setsOf && ps_mok md_Ru_setsOf) = true := by decide +kernel
set_option maxRecDepth 100000 in
theorem ok_Sp_init : (ps_ok md_Sp_init && ps_mok md_Sp_init) = true := by decide +kernel
set_option maxRecDepth 100000 in
theorem ok_St_init : (ps_ok md_St_init && ps_mok md_St_init) = true := by decide +kernel
set_option maxRecDepth 100000 in
theorem ok_Ta_init : (ps_ok md_Ta_init && ps_mok md_Ta_init) = true := by decide +kernel
set_option maxRecDepth 100000 in
theorem ok_Ta_hasRoom : (ps_ok md_Ta_hasRoom && ps_mok md_Ta_hasRoom) = true := by decide +kernel
set_option maxRecDepth 100000 in
theorem ok_Ta_append : (ps_ok md_Ta_append && ps_mok md_Ta_append) = true := by decide +kernel
set_option maxRecDepth 100000 in
theorem ok_Ta_read : (ps_ok md_Ta_read && ps_mok md_Ta_read) = true := by decide +kernel
set_option maxRecDepth 100000 in
theorem ok_Ta_readHeads : (ps_ok md_Ta_readHeads && ps_mok md_Ta_readHeads) = true := by decide +kernel
set_option maxRecDepth 100000 in
theorem ok_Ta_blame : (ps_ok md_Ta_blame && ps_mok md_Ta_blame) = true := by decide +kernel
set_option maxRecDepth 100000 in
theorem ok_Ta_skipBlanks : (ps_ok md_Ta_skipBlanks && ps_mok md_Ta_skipBlanks) = true := by decide +kernel
set_option maxRecDepth 100000 in
theorem ok_Ta_isBetween : (ps_ok md_Ta_isBetween && ps_mok md_Ta_isBetween) = true := by decide +kernel
set_option maxRecDepth 100000 in
theorem ok_Ta_readNumber : (ps_ok md_Ta_readNumber && ps_mok md_Ta_readNumber) = true := by decide +kernel
set_option maxRecDepth 100000 in
theorem ok_Ta_readKind : (ps_ok md_Ta_readKind && ps_mok md_Ta_readKind) = true := by decide +kernel
set_option maxRecDepth 100000 in
theorem ok_Ta_readWord : (ps_ok md_Ta_readWord && ps_mok md_Ta_readWord) = true := by decide +kernel
set_option maxRecDepth 100000 in
theorem ok_Ta_isWord : (ps_ok md_Ta_isWord && ps_mok md_Ta_isWord) = true := by decide +kernel
set_option maxRecDepth 100000 in
theorem ok_T_init : (ps_ok md_T_init && ps_mok md_T_init) = true := by decide +kernel
set_option maxRecDepth 100000 in
theorem ok_T_feed : (ps_ok md_T_feed && ps_mok md_T_feed) = true := by decide +kernel
set_option maxRecDepth 100000 in
theorem ok_T_end : (ps_ok md_T_end && ps_mok md_T_end) = true := by decide +kernel
set_option maxRecDepth 100000 in
theorem ok_T_tell : (ps_ok md_T_tell && ps_mok md_T_tell) = true := by decide +kernel
set_option maxRecDepth 100000 in
theorem ok_T_turn : (ps_ok md_T_turn && ps_mok md_T_turn) = true := by decide +kernel
set_option maxRecDepth 100000 in
theorem ok_T_play : (ps_ok md_T_play && ps_mok md_T_play) = true := by decide +kernel
set_option maxRecDepth 100000 in
theorem ok_T_played : (ps_ok md_T_played && ps_mok md_T_played) = true := by decide +kernel
set_option maxRecDepth 100000 in
theorem ok_T_answer : (ps_ok md_T_answer && ps_mok md_T_answer) = true := by decide +kernel
set_option maxRecDepth 100000 in
theorem ok_T_undo : (ps_ok md_T_undo && ps_mok md_T_undo) = true := by decide +kernel
set_option maxRecDepth 100000 in
theorem ok_T_keep : (ps_ok md_T_keep && ps_mok md_T_keep) = true := by decide +kernel
set_option maxRecDepth 100000 in
theorem ok_T_back : (ps_ok md_T_back && ps_mok md_T_back) = true := by decide +kernel
set_option maxRecDepth 100000 in
theorem ok_T_hasShelf : (ps_ok md_T_hasShelf && ps_mok md_T_hasShelf) = true := by decide +kernel
set_option maxRecDepth 100000 in
theorem ok_T_game : (ps_ok md_T_game && ps_mok md_T_game) = true := by decide +kernel
set_option maxRecDepth 100000 in
theorem ok_T_cell : (ps_ok md_T_cell && ps_mok md_T_cell) = true := by decide +kernel
set_option maxRecDepth 100000 in
theorem ok_T_total : (ps_ok md_T_total && ps_mok md_T_total) = true := by decide +kernel
set_option maxRecDepth 100000 in
theorem ok_T_moves : (ps_ok md_T_moves && ps_mok md_T_moves) = true := by decide +kernel
set_option maxRecDepth 100000 in
theorem ok_T_move : (ps_ok md_T_move && ps_mok md_T_move) = true := by decide +kernel
set_option maxRecDepth 100000 in
theorem ok_T_sets : (ps_ok md_T_sets && ps_mok md_T_sets) = true := by decide +kernel
set_option maxRecDepth 100000 in
theorem ok_T_count : (ps_ok md_T_count && ps_mok md_T_count) = true := by decide +kernel
set_option maxRecDepth 100000 in
theorem ok_B_init : (ps_ok md_B_init && ps_mok md_B_init) = true := by decide +kernel
set_option maxRecDepth 100000 in
theorem ok_B_copy : (ps_ok md_B_copy && ps_mok md_B_copy) = true := by decide +kernel
