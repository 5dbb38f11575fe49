/-! rows of methods, checked by computing -/
set_option maxRecDepth 100000 in
theorem ok_Cu_init : (ps_ok md_Cu_init && ps_mok md_Cu_init) = true := by decide +kernel
set_option maxRecDepth 100000 in
theorem ok_Le_init : (ps_ok md_Le_init && ps_mok md_Le_init) = true := by decide +kernel
set_option maxRecDepth 100000 in
theorem ok_Le_canHold : (ps_ok md_Le_canHold && ps_mok md_Le_canHold) = true := by decide +kernel
set_option maxRecDepth 100000 in
theorem ok_Le_tune : (ps_ok md_Le_tune && ps_mok md_Le_tune) = true := by decide +kernel
set_option maxRecDepth 100000 in
theorem ok_Le_listMoves : (ps_ok md_Le_listMoves && ps_mok md_Le_listMoves) = true := by decide +kernel
set_option maxRecDepth 100000 in
theorem ok_Le_listMovesAt : (ps_ok md_Le_listMovesAt && ps_mok md_Le_listMovesAt) = true := by decide +kernel
set_option maxRecDepth 100000 in
theorem ok_Le_measure : (ps_ok md_Le_measure && ps_mok md_Le_measure) = true := by decide +kernel
set_option maxRecDepth 100000 in
theorem ok_Le_measured : (ps_ok md_Le_measured && ps_mok md_Le_measured) = true := by decide +kernel
set_option maxRecDepth 100000 in
theorem ok_Le_packed : (ps_ok md_Le_packed && ps_mok md_Le_packed) = true := by decide +kernel
set_option maxRecDepth 100000 in
theorem ok_Le_lengthOf : (ps_ok md_Le_lengthOf && ps_mok md_Le_lengthOf) = true := by decide +kernel
set_option maxRecDepth 100000 in
theorem ok_Nu_below : (ps_ok md_Nu_below && ps_mok md_Nu_below) = true := by decide +kernel
set_option maxRecDepth 100000 in
theorem ok_Nu_product : (ps_ok md_Nu_product && ps_mok md_Nu_product) = true := by decide +kernel
set_option maxRecDepth 100000 in
theorem ok_Nu_sharedOut : (ps_ok md_Nu_sharedOut && ps_mok md_Nu_sharedOut) = true := by decide +kernel
set_option maxRecDepth 100000 in
theorem ok_Nu_lifted : (ps_ok md_Nu_lifted && ps_mok md_Nu_lifted) = true := by decide +kernel
set_option maxRecDepth 100000 in
theorem ok_Nu_toppedBy : (ps_ok md_Nu_toppedBy && ps_mok md_Nu_toppedBy) = true := by decide +kernel
set_option maxRecDepth 100000 in
theorem ok_Pa_init : (ps_ok md_Pa_init && ps_mok md_Pa_init) = true := by decide +kernel
set_option maxRecDepth 100000 in
theorem ok_Pa_push : (ps_ok md_Pa_push && ps_mok md_Pa_push) = true := by decide +kernel
set_option maxRecDepth 100000 in
theorem ok_Pa_newest : (ps_ok md_Pa_newest && ps_mok md_Pa_newest) = true := by decide +kernel
set_option maxRecDepth 100000 in
theorem ok_Pa_pop : (ps_ok md_Pa_pop && ps_mok md_Pa_pop) = true := by decide +kernel
set_option maxRecDepth 100000 in
theorem ok_Pl_init : (ps_ok md_Pl_init && ps_mok md_Pl_init) = true := by decide +kernel
set_option maxRecDepth 100000 in
theorem ok_Pl_tune : (ps_ok md_Pl_tune && ps_mok md_Pl_tune) = true := by decide +kernel
set_option maxRecDepth 100000 in
theorem ok_Pl_worthOfBit : (ps_ok md_Pl_worthOfBit && ps_mok md_Pl_worthOfBit) = true := by decide +kernel
set_option maxRecDepth 100000 in
theorem ok_Pl_joinEffects : (ps_ok md_Pl_joinEffects && ps_mok md_Pl_joinEffects) = true := by decide +kernel
set_option maxRecDepth 100000 in
theorem ok_Pl_effectOf : (ps_ok md_Pl_effectOf && ps_mok md_Pl_effectOf) = true := by decide +kernel
set_option maxRecDepth 100000 in
theorem ok_Pl_ruleOf : (ps_ok md_Pl_ruleOf && ps_mok md_Pl_ruleOf) = true := by decide +kernel
set_option maxRecDepth 100000 in
theorem ok_Pl_boardWorth : (ps_ok md_Pl_boardWorth && ps_mok md_Pl_boardWorth) = true := by decide +kernel
set_option maxRecDepth 100000 in
theorem ok_Pl_areSets : (ps_ok md_Pl_areSets && ps_mok md_Pl_areSets) = true := by decide +kernel
set_option maxRecDepth 100000 in
theorem ok_Pl_mayBe : (ps_ok md_Pl_mayBe && ps_mok md_Pl_mayBe) = true := by decide +kernel
set_option maxRecDepth 100000 in
theorem ok_Pl_greatestOf : (ps_ok md_Pl_greatestOf && ps_mok md_Pl_greatestOf) = true := by decide +kernel
set_option maxRecDepth 100000 in
theorem ok_Pl_find : (ps_ok md_Pl_find && ps_mok md_Pl_find) = true := by decide +kernel
set_option maxRecDepth 100000 in
theorem ok_Pl_findAt : (ps_ok md_Pl_findAt && ps_mok md_Pl_findAt) = true := by decide +kernel
set_option maxRecDepth 100000 in
theorem ok_Po_init : (ps_ok md_Po_init && ps_mok md_Po_init) = true := by decide +kernel
set_option maxRecDepth 100000 in
theorem ok_Ps_init : (ps_ok md_Ps_init && ps_mok md_Ps_init) = true := by decide +kernel
set_option maxRecDepth 100000 in
theorem ok_Ps_becomeBoard : (ps_ok md_Ps_becomeBoard && ps_mok md_Ps_becomeBoard) = true := by decide +kernel
set_option maxRecDepth 100000 in
theorem ok_Ps_become : (ps_ok md_Ps_become && ps_mok md_Ps_become) = true := by decide +kernel
set_option maxRecDepth 100000 in
theorem ok_Ps_hasCell : (ps_ok md_Ps_hasCell && ps_mok md_Ps_hasCell) = true := by decide +kernel
set_option maxRecDepth 100000 in
theorem ok_Ps_bitOf : (ps_ok md_Ps_bitOf && ps_mok md_Ps_bitOf) = true := by decide +kernel
set_option maxRecDepth 100000 in
theorem ok_Ps_bitsOf : (ps_ok md_Ps_bitsOf && ps_mok md_Ps_bitsOf) = true := by decide +kernel
set_option maxRecDepth 100000 in
theorem ok_Ps_showsHeads : (ps_ok md_Ps_showsHeads && ps_mok md_Ps_showsHeads) = true := by decide +kernel
set_option maxRecDepth 100000 in
theorem ok_Ps_headsShown : (ps_ok md_Ps_headsShown && ps_mok md_Ps_headsShown) = true := by decide +kernel
set_option maxRecDepth 100000 in
theorem ok_Ps_headsOfRow : (ps_ok md_Ps_headsOfRow && ps_mok md_Ps_headsOfRow) = true := by decide +kernel
set_option maxRecDepth 100000 in
theorem ok_Ps_rowsWithHeads : (ps_ok md_Ps_rowsWithHeads && ps_mok md_Ps_rowsWithHeads) = true := by decide +kernel
set_option maxRecDepth 100000 in
theorem ok_Ps_columnsWithHeads : (ps_ok md_Ps_columnsWithHeads && ps_mok md_Ps_columnsWithHeads) = true := by decide +kernel
