/-! rows of methods, checked by computing -/
set_option maxRecDepth 100000 in
theorem ok_Cu_init : (ps_ok md_Cu_init && ps_mok md_Cu_init) = true := by decide +kernel
set_option maxRecDepth 100000 in
theorem ok_Cu_through : (ps_ok md_Cu_through && ps_mok md_Cu_through) = true := by decide +kernel
set_option maxRecDepth 100000 in
theorem ok_Cu_differ : (ps_ok md_Cu_differ && ps_mok md_Cu_differ) = true := by decide +kernel
set_option maxRecDepth 100000 in
theorem ok_Cu_mend : (ps_ok md_Cu_mend && ps_mok md_Cu_mend) = true := by decide +kernel
set_option maxRecDepth 100000 in
theorem ok_Cu_fit : (ps_ok md_Cu_fit && ps_mok md_Cu_fit) = true := by decide +kernel
set_option maxRecDepth 100000 in
theorem ok_Cu_setPoint : (ps_ok md_Cu_setPoint && ps_mok md_Cu_setPoint) = true := by decide +kernel
set_option maxRecDepth 100000 in
theorem ok_Cu_agreement : (ps_ok md_Cu_agreement && ps_mok md_Cu_agreement) = true := by decide +kernel
set_option maxRecDepth 100000 in
theorem ok_Cu_isMended : (ps_ok md_Cu_isMended && ps_mok md_Cu_isMended) = true := by decide +kernel
set_option maxRecDepth 100000 in
theorem ok_Cu_coefficient : (ps_ok md_Cu_coefficient && ps_mok md_Cu_coefficient) = true := by decide +kernel
set_option maxRecDepth 100000 in
theorem ok_Cu_mendedValue : (ps_ok md_Cu_mendedValue && ps_mok md_Cu_mendedValue) = true := by decide +kernel
set_option maxRecDepth 100000 in
theorem ok_Le_init : (ps_ok md_Le_init && ps_mok md_Le_init) = true := by decide +kernel
set_option maxRecDepth 100000 in
theorem ok_Le_canHold : (ps_ok md_Le_canHold && ps_mok md_Le_canHold) = true := by decide +kernel
set_option maxRecDepth 100000 in
theorem ok_Le_tune : (ps_ok md_Le_tune && ps_mok md_Le_tune) = true := by decide +kernel
set_option maxRecDepth 100000 in
theorem ok_Le_listMoves : (ps_ok md_Le_listMoves && ps_mok md_Le_listMoves) = true := by decide +kernel
set_option maxRecDepth 100000 in
theorem ok_Le_listMovesAt : (ps_ok md_Le_listMovesAt && ps_mok md_Le_listMovesAt) = true := by decide +kernel
set_option maxRecDepth 100000 in
theorem ok_Le_measure : (ps_ok md_Le_measure && ps_mok md_Le_measure) = true := by decide +kernel
set_option maxRecDepth 100000 in
theorem ok_Le_measured : (ps_ok md_Le_measured && ps_mok md_Le_measured) = true := by decide +kernel
set_option maxRecDepth 100000 in
theorem ok_Le_packed : (ps_ok md_Le_packed && ps_mok md_Le_packed) = true := by decide +kernel
set_option maxRecDepth 100000 in
theorem ok_Le_spread : (ps_ok md_Le_spread && ps_mok md_Le_spread) = true := by decide +kernel
set_option maxRecDepth 100000 in
theorem ok_Le_lengthOf : (ps_ok md_Le_lengthOf && ps_mok md_Le_lengthOf) = true := by decide +kernel
set_option maxRecDepth 100000 in
theorem ok_Nu_below : (ps_ok md_Nu_below && ps_mok md_Nu_below) = true := by decide +kernel
set_option maxRecDepth 100000 in
theorem ok_Nu_levelOf : (ps_ok md_Nu_levelOf && ps_mok md_Nu_levelOf) = true := by decide +kernel
set_option maxRecDepth 100000 in
theorem ok_Nu_product : (ps_ok md_Nu_product && ps_mok md_Nu_product) = true := by decide +kernel
set_option maxRecDepth 100000 in
theorem ok_Nu_sharedOut : (ps_ok md_Nu_sharedOut && ps_mok md_Nu_sharedOut) = true := by decide +kernel
set_option maxRecDepth 100000 in
theorem ok_Nu_lifted : (ps_ok md_Nu_lifted && ps_mok md_Nu_lifted) = true := by decide +kernel
set_option maxRecDepth 100000 in
theorem ok_Nu_toppedBy : (ps_ok md_Nu_toppedBy && ps_mok md_Nu_toppedBy) = true := by decide +kernel
set_option maxRecDepth 100000 in
theorem ok_Nu_square : (ps_ok md_Nu_square && ps_mok md_Nu_square) = true := by decide +kernel
set_option maxRecDepth 100000 in
theorem ok_Nu_rootOf : (ps_ok md_Nu_rootOf && ps_mok md_Nu_rootOf) = true := by decide +kernel
set_option maxRecDepth 100000 in
theorem ok_Nu_inverted : (ps_ok md_Nu_inverted && ps_mok md_Nu_inverted) = true := by decide +kernel
set_option maxRecDepth 100000 in
theorem ok_Nu_hasHalf : (ps_ok md_Nu_hasHalf && ps_mok md_Nu_hasHalf) = true := by decide +kernel
set_option maxRecDepth 100000 in
theorem ok_Nu_halved : (ps_ok md_Nu_halved && ps_mok md_Nu_halved) = true := by decide +kernel
set_option maxRecDepth 100000 in
theorem ok_Nu_halvedIn : (ps_ok md_Nu_halvedIn && ps_mok md_Nu_halvedIn) = true := by decide +kernel
set_option maxRecDepth 100000 in
theorem ok_Nu_traceOf : (ps_ok md_Nu_traceOf && ps_mok md_Nu_traceOf) = true := by decide +kernel
set_option maxRecDepth 100000 in
theorem ok_Nu_raisedTo : (ps_ok md_Nu_raisedTo && ps_mok md_Nu_raisedTo) = true := by decide +kernel
set_option maxRecDepth 100000 in
theorem ok_Nu_primesIn : (ps_ok md_Nu_primesIn && ps_mok md_Nu_primesIn) = true := by decide +kernel
set_option maxRecDepth 100000 in
theorem ok_Nu_powerWithout : (ps_ok md_Nu_powerWithout && ps_mok md_Nu_powerWithout) = true := by decide +kernel
set_option maxRecDepth 100000 in
theorem ok_Nu_orderOf : (ps_ok md_Nu_orderOf && ps_mok md_Nu_orderOf) = true := by decide +kernel
set_option maxRecDepth 100000 in
theorem ok_Nu_fullCount : (ps_ok md_Nu_fullCount && ps_mok md_Nu_fullCount) = true := by decide +kernel
set_option maxRecDepth 100000 in
theorem ok_Nu_leastFull : (ps_ok md_Nu_leastFull && ps_mok md_Nu_leastFull) = true := by decide +kernel
set_option maxRecDepth 100000 in
theorem ok_Nu_isFull : (ps_ok md_Nu_isFull && ps_mok md_Nu_isFull) = true := by decide +kernel
set_option maxRecDepth 100000 in
theorem ok_Nu_logarithm : (ps_ok md_Nu_logarithm && ps_mok md_Nu_logarithm) = true := by decide +kernel
set_option maxRecDepth 100000 in
theorem ok_Nu_restOf : (ps_ok md_Nu_restOf && ps_mok md_Nu_restOf) = true := by decide +kernel
set_option maxRecDepth 100000 in
theorem ok_Nu_joined : (ps_ok md_Nu_joined && ps_mok md_Nu_joined) = true := by decide +kernel
set_option maxRecDepth 100000 in
theorem ok_Pa_init : (ps_ok md_Pa_init && ps_mok md_Pa_init) = true := by decide +kernel
set_option maxRecDepth 100000 in
theorem ok_Pa_push : (ps_ok md_Pa_push && ps_mok md_Pa_push) = true := by decide +kernel
set_option maxRecDepth 100000 in
theorem ok_Pa_newest : (ps_ok md_Pa_newest && ps_mok md_Pa_newest) = true := by decide +kernel
set_option maxRecDepth 100000 in
theorem ok_Pa_last : (ps_ok md_Pa_last && ps_mok md_Pa_last) = true := by decide +kernel
set_option maxRecDepth 100000 in
theorem ok_Pa_pop : (ps_ok md_Pa_pop && ps_mok md_Pa_pop) = true := by decide +kernel
set_option maxRecDepth 100000 in
theorem ok_Pl_init : (ps_ok md_Pl_init && ps_mok md_Pl_init) = true := by decide +kernel
set_option maxRecDepth 100000 in
theorem ok_Pl_tune : (ps_ok md_Pl_tune && ps_mok md_Pl_tune) = true := by decide +kernel
set_option maxRecDepth 100000 in
theorem ok_Pl_worthOfBit : (ps_ok md_Pl_worthOfBit && ps_mok md_Pl_worthOfBit) = true := by decide +kernel
set_option maxRecDepth 100000 in
theorem ok_Pl_joinEffects : (ps_ok md_Pl_joinEffects && ps_mok md_Pl_joinEffects) = true := by decide +kernel
set_option maxRecDepth 100000 in
theorem ok_Pl_effectOf : (ps_ok md_Pl_effectOf && ps_mok md_Pl_effectOf) = true := by decide +kernel
set_option maxRecDepth 100000 in
theorem ok_Pl_ruleOf : (ps_ok md_Pl_ruleOf && ps_mok md_Pl_ruleOf) = true := by decide +kernel
set_option maxRecDepth 100000 in
theorem ok_Pl_boardWorth : (ps_ok md_Pl_boardWorth && ps_mok md_Pl_boardWorth) = true := by decide +kernel
set_option maxRecDepth 100000 in
theorem ok_Pl_areSets : (ps_ok md_Pl_areSets && ps_mok md_Pl_areSets) = true := by decide +kernel
set_option maxRecDepth 100000 in
theorem ok_Pl_mayBe : (ps_ok md_Pl_mayBe && ps_mok md_Pl_mayBe) = true := by decide +kernel
set_option maxRecDepth 100000 in
theorem ok_Pl_greatestOf : (ps_ok md_Pl_greatestOf && ps_mok md_Pl_greatestOf) = true := by decide +kernel
set_option maxRecDepth 100000 in
theorem ok_Pl_find : (ps_ok md_Pl_find && ps_mok md_Pl_find) = true := by decide +kernel
set_option maxRecDepth 100000 in
theorem ok_Pl_findAt : (ps_ok md_Pl_findAt && ps_mok md_Pl_findAt) = true := by decide +kernel
set_option maxRecDepth 100000 in
theorem ok_Po_init : (ps_ok md_Po_init && ps_mok md_Po_init) = true := by decide +kernel
set_option maxRecDepth 100000 in
theorem ok_Po_degreeOf : (ps_ok md_Po_degreeOf && ps_mok md_Po_degreeOf) = true := by decide +kernel
set_option maxRecDepth 100000 in
theorem ok_Po_valueAt : (ps_ok md_Po_valueAt && ps_mok md_Po_valueAt) = true := by decide +kernel
set_option maxRecDepth 100000 in
theorem ok_Po_clear : (ps_ok md_Po_clear && ps_mok md_Po_clear) = true := by decide +kernel
set_option maxRecDepth 100000 in
theorem ok_Po_copy : (ps_ok md_Po_copy && ps_mok md_Po_copy) = true := by decide +kernel
set_option maxRecDepth 100000 in
theorem ok_Po_areAlike : (ps_ok md_Po_areAlike && ps_mok md_Po_areAlike) = true := by decide +kernel
set_option maxRecDepth 100000 in
theorem ok_Po_makeMonic : (ps_ok md_Po_makeMonic && ps_mok md_Po_makeMonic) = true := by decide +kernel
set_option maxRecDepth 100000 in
theorem ok_Po_divide : (ps_ok md_Po_divide && ps_mok md_Po_divide) = true := by decide +kernel
set_option maxRecDepth 100000 in
theorem ok_Po_meet : (ps_ok md_Po_meet && ps_mok md_Po_meet) = true := by decide +kernel
set_option maxRecDepth 100000 in
theorem ok_Po_meetHalves : (ps_ok md_Po_meetHalves && ps_mok md_Po_meetHalves) = true := by decide +kernel
set_option maxRecDepth 100000 in
theorem ok_Po_metCoefficient : (ps_ok md_Po_metCoefficient && ps_mok md_Po_metCoefficient) = true := by decide +kernel
set_option maxRecDepth 100000 in
theorem ok_Po_findRoots : (ps_ok md_Po_findRoots && ps_mok md_Po_findRoots) = true := by decide +kernel
set_option maxRecDepth 100000 in
theorem ok_Po_raiseImage : (ps_ok md_Po_raiseImage && ps_mok md_Po_raiseImage) = true := by decide +kernel
set_option maxRecDepth 100000 in
theorem ok_Po_sumTraces : (ps_ok md_Po_sumTraces && ps_mok md_Po_sumTraces) = true := by decide +kernel
set_option maxRecDepth 100000 in
theorem ok_Po_splitParts : (ps_ok md_Po_splitParts && ps_mok md_Po_splitParts) = true := by decide +kernel
set_option maxRecDepth 100000 in
theorem ok_Po_readResults : (ps_ok md_Po_readResults && ps_mok md_Po_readResults) = true := by decide +kernel
set_option maxRecDepth 100000 in
theorem ok_Po_insertResult : (ps_ok md_Po_insertResult && ps_mok md_Po_insertResult) = true := by decide +kernel
set_option maxRecDepth 100000 in
theorem ok_Po_rootAt : (ps_ok md_Po_rootAt && ps_mok md_Po_rootAt) = true := by decide +kernel
set_option maxRecDepth 100000 in
theorem ok_Ps_init : (ps_ok md_Ps_init && ps_mok md_Ps_init) = true := by decide +kernel
set_option maxRecDepth 100000 in
theorem ok_Ps_becomeBoard : (ps_ok md_Ps_becomeBoard && ps_mok md_Ps_becomeBoard) = true := by decide +kernel
set_option maxRecDepth 100000 in
theorem ok_Ps_become : (ps_ok md_Ps_become && ps_mok md_Ps_become) = true := by decide +kernel
set_option maxRecDepth 100000 in
theorem ok_Ps_hasPlace : (ps_ok md_Ps_hasPlace && ps_mok md_Ps_hasPlace) = true := by decide +kernel
set_option maxRecDepth 100000 in
theorem ok_Ps_hasCell : (ps_ok md_Ps_hasCell && ps_mok md_Ps_hasCell) = true := by decide +kernel
set_option maxRecDepth 100000 in
theorem ok_Ps_bitOf : (ps_ok md_Ps_bitOf && ps_mok md_Ps_bitOf) = true := by decide +kernel
set_option maxRecDepth 100000 in
theorem ok_Ps_bitsOf : (ps_ok md_Ps_bitsOf && ps_mok md_Ps_bitsOf) = true := by decide +kernel
set_option maxRecDepth 100000 in
theorem ok_Ps_showsHeads : (ps_ok md_Ps_showsHeads && ps_mok md_Ps_showsHeads) = true := by decide +kernel
set_option maxRecDepth 100000 in
theorem ok_Ps_headsShown : (ps_ok md_Ps_headsShown && ps_mok md_Ps_headsShown) = true := by decide +kernel
set_option maxRecDepth 100000 in
theorem ok_Ps_headsOfRow : (ps_ok md_Ps_headsOfRow && ps_mok md_Ps_headsOfRow) = true := by decide +kernel
