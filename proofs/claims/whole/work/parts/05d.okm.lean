/-! rows of methods, checked by computing -/
set_option maxRecDepth 100000 in
theorem ok_M_grid : (ps_ok md_M_grid && ps_mok md_M_grid) = true := by decide +kernel
set_option maxRecDepth 100000 in
theorem ok_M_enter : (ps_ok md_M_enter && ps_mok md_M_enter) = true := by decide +kernel
set_option maxRecDepth 100000 in
theorem ok_M_keptEntry : (ps_ok md_M_keptEntry && ps_mok md_M_keptEntry) = true := by decide +kernel
set_option maxRecDepth 100000 in
theorem ok_M_multiply : (ps_ok md_M_multiply && ps_mok md_M_multiply) = true := by decide +kernel
set_option maxRecDepth 100000 in
theorem ok_M_invert : (ps_ok md_M_invert && ps_mok md_M_invert) = true := by decide +kernel
set_option maxRecDepth 100000 in
theorem ok_M_feed : (ps_ok md_M_feed && ps_mok md_M_feed) = true := by decide +kernel
set_option maxRecDepth 100000 in
theorem ok_M_end : (ps_ok md_M_end && ps_mok md_M_end) = true := by decide +kernel
set_option maxRecDepth 100000 in
theorem ok_M_byteAt : (ps_ok md_M_byteAt && ps_mok md_M_byteAt) = true := by decide +kernel
set_option maxRecDepth 100000 in
theorem ok_M_next : (ps_ok md_M_next && ps_mok md_M_next) = true := by decide +kernel
set_option maxRecDepth 100000 in
theorem ok_M_fails : (ps_ok md_M_fails && ps_mok md_M_fails) = true := by decide +kernel
set_option maxRecDepth 100000 in
theorem ok_M_readsNumber : (ps_ok md_M_readsNumber && ps_mok md_M_readsNumber) = true := by decide +kernel
set_option maxRecDepth 100000 in
theorem ok_M_takesWord : (ps_ok md_M_takesWord && ps_mok md_M_takesWord) = true := by decide +kernel
set_option maxRecDepth 100000 in
theorem ok_M_kindHere : (ps_ok md_M_kindHere && ps_mok md_M_kindHere) = true := by decide +kernel
set_option maxRecDepth 100000 in
theorem ok_M_readsSide : (ps_ok md_M_readsSide && ps_mok md_M_readsSide) = true := by decide +kernel
set_option maxRecDepth 100000 in
theorem ok_M_readsText : (ps_ok md_M_readsText && ps_mok md_M_readsText) = true := by decide +kernel
set_option maxRecDepth 100000 in
theorem ok_M_tell : (ps_ok md_M_tell && ps_mok md_M_tell) = true := by decide +kernel
set_option maxRecDepth 100000 in
theorem ok_M_manyOf : (ps_ok md_M_manyOf && ps_mok md_M_manyOf) = true := by decide +kernel
set_option maxRecDepth 100000 in
theorem ok_M_greatestOf : (ps_ok md_M_greatestOf && ps_mok md_M_greatestOf) = true := by decide +kernel
set_option maxRecDepth 100000 in
theorem ok_M_isNear : (ps_ok md_M_isNear && ps_mok md_M_isNear) = true := by decide +kernel
set_option maxRecDepth 100000 in
theorem ok_M_isRow : (ps_ok md_M_isRow && ps_mok md_M_isRow) = true := by decide +kernel
set_option maxRecDepth 100000 in
theorem ok_M_maySet : (ps_ok md_M_maySet && ps_mok md_M_maySet) = true := by decide +kernel
set_option maxRecDepth 100000 in
theorem ok_M_sets : (ps_ok md_M_sets && ps_mok md_M_sets) = true := by decide +kernel
set_option maxRecDepth 100000 in
theorem ok_M_sumOf : (ps_ok md_M_sumOf && ps_mok md_M_sumOf) = true := by decide +kernel
set_option maxRecDepth 100000 in
theorem ok_M_leastNot : (ps_ok md_M_leastNot && ps_mok md_M_leastNot) = true := by decide +kernel
set_option maxRecDepth 100000 in
theorem ok_M_laysWorth : (ps_ok md_M_laysWorth && ps_mok md_M_laysWorth) = true := by decide +kernel
set_option maxRecDepth 100000 in
theorem ok_M_laysWorths : (ps_ok md_M_laysWorths && ps_mok md_M_laysWorths) = true := by decide +kernel
set_option maxRecDepth 100000 in
theorem ok_M_worth : (ps_ok md_M_worth && ps_mok md_M_worth) = true := by decide +kernel
set_option maxRecDepth 100000 in
theorem ok_M_place_III : (ps_ok md_M_place_III && ps_mok md_M_place_III) = true := by decide +kernel
set_option maxRecDepth 100000 in
theorem ok_M_isCell : (ps_ok md_M_isCell && ps_mok md_M_isCell) = true := by decide +kernel
set_option maxRecDepth 100000 in
theorem ok_M_worthOf : (ps_ok md_M_worthOf && ps_mok md_M_worthOf) = true := by decide +kernel
set_option maxRecDepth 100000 in
theorem ok_M_cellsOf : (ps_ok md_M_cellsOf && ps_mok md_M_cellsOf) = true := by decide +kernel
set_option maxRecDepth 100000 in
theorem ok_M_sumExcluded : (ps_ok md_M_sumExcluded && ps_mok md_M_sumExcluded) = true := by decide +kernel
set_option maxRecDepth 100000 in
theorem ok_M_laysExcluded : (ps_ok md_M_laysExcluded && ps_mok md_M_laysExcluded) = true := by decide +kernel
set_option maxRecDepth 100000 in
theorem ok_M_excludedOf : (ps_ok md_M_excludedOf && ps_mok md_M_excludedOf) = true := by decide +kernel
set_option maxRecDepth 100000 in
theorem ok_M_cell : (ps_ok md_M_cell && ps_mok md_M_cell) = true := by decide +kernel
set_option maxRecDepth 100000 in
theorem ok_M_laysCells : (ps_ok md_M_laysCells && ps_mok md_M_laysCells) = true := by decide +kernel
set_option maxRecDepth 100000 in
theorem ok_M_worthOfAll : (ps_ok md_M_worthOfAll && ps_mok md_M_worthOfAll) = true := by decide +kernel
set_option maxRecDepth 100000 in
theorem ok_M_total : (ps_ok md_M_total && ps_mok md_M_total) = true := by decide +kernel
set_option maxRecDepth 100000 in
theorem ok_M_turn : (ps_ok md_M_turn && ps_mok md_M_turn) = true := by decide +kernel
set_option maxRecDepth 100000 in
theorem ok_M_isMove : (ps_ok md_M_isMove && ps_mok md_M_isMove) = true := by decide +kernel
set_option maxRecDepth 100000 in
theorem ok_M_play : (ps_ok md_M_play && ps_mok md_M_play) = true := by decide +kernel
set_option maxRecDepth 100000 in
theorem ok_M_findsOf : (ps_ok md_M_findsOf && ps_mok md_M_findsOf) = true := by decide +kernel
set_option maxRecDepth 100000 in
theorem ok_M_finds : (ps_ok md_M_finds && ps_mok md_M_finds) = true := by decide +kernel
set_option maxRecDepth 100000 in
theorem ok_M_answer : (ps_ok md_M_answer && ps_mok md_M_answer) = true := by decide +kernel
set_option maxRecDepth 100000 in
theorem ok_M_moves : (ps_ok md_M_moves && ps_mok md_M_moves) = true := by decide +kernel
set_option maxRecDepth 100000 in
theorem ok_M_move : (ps_ok md_M_move && ps_mok md_M_move) = true := by decide +kernel
set_option maxRecDepth 100000 in
theorem ok_M_close : (ps_ok md_M_close && ps_mok md_M_close) = true := by decide +kernel
set_option maxRecDepth 100000 in
theorem ok_M_laysMoves : (ps_ok md_M_laysMoves && ps_mok md_M_laysMoves) = true := by decide +kernel
set_option maxRecDepth 100000 in
theorem ok_M_laysGame : (ps_ok md_M_laysGame && ps_mok md_M_laysGame) = true := by decide +kernel
set_option maxRecDepth 100000 in
theorem ok_M_game : (ps_ok md_M_game && ps_mok md_M_game) = true := by decide +kernel
set_option maxRecDepth 100000 in
theorem ok_M_spread : (ps_ok md_M_spread && ps_mok md_M_spread) = true := by decide +kernel
set_option maxRecDepth 100000 in
theorem ok_M_boards : (ps_ok md_M_boards && ps_mok md_M_boards) = true := by decide +kernel
set_option maxRecDepth 100000 in
theorem ok_M_sidesWithHeads : (ps_ok md_M_sidesWithHeads && ps_mok md_M_sidesWithHeads) = true := by decide +kernel
set_option maxRecDepth 100000 in
theorem ok_M_keptSet : (ps_ok md_M_keptSet && ps_mok md_M_keptSet) = true := by decide +kernel
set_option maxRecDepth 100000 in
theorem ok_M_count : (ps_ok md_M_count && ps_mok md_M_count) = true := by decide +kernel
set_option maxRecDepth 100000 in
theorem ok_JI_bitCount : (ps_ok md_JI_bitCount && ps_mok md_JI_bitCount) = true := by decide +kernel
set_option maxRecDepth 100000 in
theorem ok_JL_bitCount : (ps_ok md_JL_bitCount && ps_mok md_JL_bitCount) = true := by decide +kernel
set_option maxRecDepth 100000 in
theorem ok_JS_length : (ps_ok md_JS_length && ps_mok md_JS_length) = true := by decide +kernel
set_option maxRecDepth 100000 in
theorem ok_JS_charAt : (ps_ok md_JS_charAt && ps_mok md_JS_charAt) = true := by decide +kernel
set_option maxRecDepth 100000 in
theorem ok_JS_coder : (ps_ok md_JS_coder && ps_mok md_JS_coder) = true := by decide +kernel
set_option maxRecDepth 100000 in
theorem ok_JS_isLatin1 : (ps_ok md_JS_isLatin1 && ps_mok md_JS_isLatin1) = true := by decide +kernel
set_option maxRecDepth 100000 in
theorem ok_JS_checkIndex : (ps_ok md_JS_checkIndex && ps_mok md_JS_checkIndex) = true := by decide +kernel
set_option maxRecDepth 100000 in
theorem ok_JA_charAt : (ps_ok md_JA_charAt && ps_mok md_JA_charAt) = true := by decide +kernel
set_option maxRecDepth 100000 in
theorem ok_JP_checkIndex : (ps_ok md_JP_checkIndex && ps_mok md_JP_checkIndex) = true := by decide +kernel
