/-! rows of methods, checked by computing -/
set_option maxRecDepth 100000 in
theorem ok_Ps_rulesKey : (ps_ok md_Ps_rulesKey && ps_mok md_Ps_rulesKey) = true := by decide +kernel
set_option maxRecDepth 100000 in
theorem ok_Ru_init : (ps_ok md_Ru_init && ps_mok md_Ru_init) = true := by decide +kernel
set_option maxRecDepth 100000 in
theorem ok_Ru_tune : (ps_ok md_Ru_tune && ps_mok md_Ru_tune) = true := by decide +kernel
set_option maxRecDepth 100000 in
theorem ok_Ru_weigh : (ps_ok md_Ru_weigh && ps_mok md_Ru_weigh) = true := by decide +kernel
set_option maxRecDepth 100000 in
theorem ok_Ru_leastUnmet : (ps_ok md_Ru_leastUnmet && ps_mok md_Ru_leastUnmet) = true := by decide +kernel
set_option maxRecDepth 100000 in
theorem ok_Ru_allows : (ps_ok md_Ru_allows && ps_mok md_Ru_allows) = true := by decide +kernel
set_option maxRecDepth 100000 in
theorem ok_Ru_areNear : (ps_ok md_Ru_areNear && ps_mok md_Ru_areNear) = true := by decide +kernel
set_option maxRecDepth 100000 in
theorem ok_Ru_worthOf : (ps_ok md_Ru_worthOf && ps_mok md_Ru_worthOf) = true := by decide +kernel
set_option maxRecDepth 100000 in
theorem ok_Ru_setsOf : (ps_ok md_Ru_setsOf && ps_mok md_Ru_setsOf) = true := by decide +kernel
set_option maxRecDepth 100000 in
theorem ok_Sp_init : (ps_ok md_Sp_init && ps_mok md_Sp_init) = true := by decide +kernel
set_option maxRecDepth 100000 in
theorem ok_St_init : (ps_ok md_St_init && ps_mok md_St_init) = true := by decide +kernel
set_option maxRecDepth 100000 in
theorem ok_Ta_init : (ps_ok md_Ta_init && ps_mok md_Ta_init) = true := by decide +kernel
set_option maxRecDepth 100000 in
theorem ok_Ta_hasRoom : (ps_ok md_Ta_hasRoom && ps_mok md_Ta_hasRoom) = true := by decide +kernel
set_option maxRecDepth 100000 in
theorem ok_Ta_append : (ps_ok md_Ta_append && ps_mok md_Ta_append) = true := by decide +kernel
set_option maxRecDepth 100000 in
theorem ok_Ta_read : (ps_ok md_Ta_read && ps_mok md_Ta_read) = true := by decide +kernel
set_option maxRecDepth 100000 in
theorem ok_Ta_readHeads : (ps_ok md_Ta_readHeads && ps_mok md_Ta_readHeads) = true := by decide +kernel
set_option maxRecDepth 100000 in
theorem ok_Ta_blame : (ps_ok md_Ta_blame && ps_mok md_Ta_blame) = true := by decide +kernel
set_option maxRecDepth 100000 in
theorem ok_Ta_skipBlanks : (ps_ok md_Ta_skipBlanks && ps_mok md_Ta_skipBlanks) = true := by decide +kernel
set_option maxRecDepth 100000 in
theorem ok_Ta_isBetween : (ps_ok md_Ta_isBetween && ps_mok md_Ta_isBetween) = true := by decide +kernel
set_option maxRecDepth 100000 in
theorem ok_Ta_readNumber : (ps_ok md_Ta_readNumber && ps_mok md_Ta_readNumber) = true := by decide +kernel
set_option maxRecDepth 100000 in
theorem ok_Ta_readKind : (ps_ok md_Ta_readKind && ps_mok md_Ta_readKind) = true := by decide +kernel
set_option maxRecDepth 100000 in
theorem ok_Ta_readWord : (ps_ok md_Ta_readWord && ps_mok md_Ta_readWord) = true := by decide +kernel
set_option maxRecDepth 100000 in
theorem ok_Ta_isWord : (ps_ok md_Ta_isWord && ps_mok md_Ta_isWord) = true := by decide +kernel
set_option maxRecDepth 100000 in
theorem ok_T_init : (ps_ok md_T_init && ps_mok md_T_init) = true := by decide +kernel
set_option maxRecDepth 100000 in
theorem ok_T_feed : (ps_ok md_T_feed && ps_mok md_T_feed) = true := by decide +kernel
set_option maxRecDepth 100000 in
theorem ok_T_end : (ps_ok md_T_end && ps_mok md_T_end) = true := by decide +kernel
set_option maxRecDepth 100000 in
theorem ok_T_tell : (ps_ok md_T_tell && ps_mok md_T_tell) = true := by decide +kernel
set_option maxRecDepth 100000 in
theorem ok_T_turn : (ps_ok md_T_turn && ps_mok md_T_turn) = true := by decide +kernel
set_option maxRecDepth 100000 in
theorem ok_T_play : (ps_ok md_T_play && ps_mok md_T_play) = true := by decide +kernel
set_option maxRecDepth 100000 in
theorem ok_T_played : (ps_ok md_T_played && ps_mok md_T_played) = true := by decide +kernel
set_option maxRecDepth 100000 in
theorem ok_T_answer : (ps_ok md_T_answer && ps_mok md_T_answer) = true := by decide +kernel
set_option maxRecDepth 100000 in
theorem ok_T_undo : (ps_ok md_T_undo && ps_mok md_T_undo) = true := by decide +kernel
set_option maxRecDepth 100000 in
theorem ok_T_keep : (ps_ok md_T_keep && ps_mok md_T_keep) = true := by decide +kernel
set_option maxRecDepth 100000 in
theorem ok_T_back : (ps_ok md_T_back && ps_mok md_T_back) = true := by decide +kernel
set_option maxRecDepth 100000 in
theorem ok_T_hasShelf : (ps_ok md_T_hasShelf && ps_mok md_T_hasShelf) = true := by decide +kernel
set_option maxRecDepth 100000 in
theorem ok_T_game : (ps_ok md_T_game && ps_mok md_T_game) = true := by decide +kernel
set_option maxRecDepth 100000 in
theorem ok_T_cell : (ps_ok md_T_cell && ps_mok md_T_cell) = true := by decide +kernel
set_option maxRecDepth 100000 in
theorem ok_T_total : (ps_ok md_T_total && ps_mok md_T_total) = true := by decide +kernel
set_option maxRecDepth 100000 in
theorem ok_T_moves : (ps_ok md_T_moves && ps_mok md_T_moves) = true := by decide +kernel
set_option maxRecDepth 100000 in
theorem ok_T_move : (ps_ok md_T_move && ps_mok md_T_move) = true := by decide +kernel
set_option maxRecDepth 100000 in
theorem ok_T_sets : (ps_ok md_T_sets && ps_mok md_T_sets) = true := by decide +kernel
