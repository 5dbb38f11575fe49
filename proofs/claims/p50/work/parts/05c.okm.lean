/-! rows of methods, checked by computing -/
set_option maxRecDepth 100000 in
theorem ok_T_count : (ps_ok md_T_count && ps_mok md_T_count) = true := by decide +kernel
set_option maxRecDepth 100000 in
theorem ok_B_init : (ps_ok md_B_init && ps_mok md_B_init) = true := by decide +kernel
set_option maxRecDepth 100000 in
theorem ok_B_copy : (ps_ok md_B_copy && ps_mok md_B_copy) = true := by decide +kernel
set_option maxRecDepth 100000 in
theorem ok_B_shown : (ps_ok md_B_shown && ps_mok md_B_shown) = true := by decide +kernel
set_option maxRecDepth 100000 in
theorem ok_B_top : (ps_ok md_B_top && ps_mok md_B_top) = true := by decide +kernel
set_option maxRecDepth 100000 in
theorem ok_B_may : (ps_ok md_B_may && ps_mok md_B_may) = true := by decide +kernel
set_option maxRecDepth 100000 in
theorem ok_B_can : (ps_ok md_B_can && ps_mok md_B_can) = true := by decide +kernel
set_option maxRecDepth 100000 in
theorem ok_B_turns : (ps_ok md_B_turns && ps_mok md_B_turns) = true := by decide +kernel
set_option maxRecDepth 100000 in
theorem ok_JB_init : (ps_ok md_JB_init && ps_mok md_JB_init) = true := by decide +kernel
set_option maxRecDepth 100000 in
theorem ok_JB_length : (ps_ok md_JB_length && ps_mok md_JB_length) = true := by decide +kernel
set_option maxRecDepth 100000 in
theorem ok_JB_ensureCapacityInternal : (ps_ok md_JB_ensureCapacityInternal && ps_mok md_JB_ensureCapacityInternal) = true := by decide +kernel
set_option maxRecDepth 100000 in
theorem ok_JB_charAt : (ps_ok md_JB_charAt && ps_mok md_JB_charAt) = true := by decide +kernel
set_option maxRecDepth 100000 in
theorem ok_JB_append_String : (ps_ok md_JB_append_String && ps_mok md_JB_append_String) = true := by decide +kernel
set_option maxRecDepth 100000 in
theorem ok_JB_append_CAbstr : (ps_ok md_JB_append_CAbstr && ps_mok md_JB_append_CAbstr) = true := by decide +kernel
set_option maxRecDepth 100000 in
theorem ok_JB_append_IAbstr : (ps_ok md_JB_append_IAbstr && ps_mok md_JB_append_IAbstr) = true := by decide +kernel
set_option maxRecDepth 100000 in
theorem ok_JB_isLatin1 : (ps_ok md_JB_isLatin1 && ps_mok md_JB_isLatin1) = true := by decide +kernel
set_option maxRecDepth 100000 in
theorem ok_JB_inflateIfNeededFor : (ps_ok md_JB_inflateIfNeededFor && ps_mok md_JB_inflateIfNeededFor) = true := by decide +kernel
set_option maxRecDepth 100000 in
theorem ok_JB_putStringAt : (ps_ok md_JB_putStringAt && ps_mok md_JB_putStringAt) = true := by decide +kernel
set_option maxRecDepth 100000 in
theorem ok_JI_getChars : (ps_ok md_JI_getChars && ps_mok md_JI_getChars) = true := by decide +kernel
set_option maxRecDepth 100000 in
theorem ok_JI_stringSize : (ps_ok md_JI_stringSize && ps_mok md_JI_stringSize) = true := by decide +kernel
set_option maxRecDepth 100000 in
theorem ok_JI_numberOfLeadingZeros : (ps_ok md_JI_numberOfLeadingZeros && ps_mok md_JI_numberOfLeadingZeros) = true := by decide +kernel
set_option maxRecDepth 100000 in
theorem ok_JI_numberOfTrailingZeros : (ps_ok md_JI_numberOfTrailingZeros && ps_mok md_JI_numberOfTrailingZeros) = true := by decide +kernel
set_option maxRecDepth 100000 in
theorem ok_JI_bitCount : (ps_ok md_JI_bitCount && ps_mok md_JI_bitCount) = true := by decide +kernel
set_option maxRecDepth 100000 in
theorem ok_JL_bitCount : (ps_ok md_JL_bitCount && ps_mok md_JL_bitCount) = true := by decide +kernel
set_option maxRecDepth 100000 in
theorem ok_JS_length : (ps_ok md_JS_length && ps_mok md_JS_length) = true := by decide +kernel
set_option maxRecDepth 100000 in
theorem ok_JS_charAt : (ps_ok md_JS_charAt && ps_mok md_JS_charAt) = true := by decide +kernel
set_option maxRecDepth 100000 in
theorem ok_JS_getBytes : (ps_ok md_JS_getBytes && ps_mok md_JS_getBytes) = true := by decide +kernel
set_option maxRecDepth 100000 in
theorem ok_JS_coder : (ps_ok md_JS_coder && ps_mok md_JS_coder) = true := by decide +kernel
set_option maxRecDepth 100000 in
theorem ok_JS_isLatin1 : (ps_ok md_JS_isLatin1 && ps_mok md_JS_isLatin1) = true := by decide +kernel
set_option maxRecDepth 100000 in
theorem ok_JS_checkIndex : (ps_ok md_JS_checkIndex && ps_mok md_JS_checkIndex) = true := by decide +kernel
set_option maxRecDepth 100000 in
theorem ok_JR_init : (ps_ok md_JR_init && ps_mok md_JR_init) = true := by decide +kernel
set_option maxRecDepth 100000 in
theorem ok_JR_append_String : (ps_ok md_JR_append_String && ps_mok md_JR_append_String) = true := by decide +kernel
set_option maxRecDepth 100000 in
theorem ok_JR_append_CStrin : (ps_ok md_JR_append_CStrin && ps_mok md_JR_append_CStrin) = true := by decide +kernel
set_option maxRecDepth 100000 in
theorem ok_JR_append_IStrin : (ps_ok md_JR_append_IStrin && ps_mok md_JR_append_IStrin) = true := by decide +kernel
set_option maxRecDepth 100000 in
theorem ok_JR_charAt : (ps_ok md_JR_charAt && ps_mok md_JR_charAt) = true := by decide +kernel
set_option maxRecDepth 100000 in
theorem ok_JR_length : (ps_ok md_JR_length && ps_mok md_JR_length) = true := by decide +kernel
set_option maxRecDepth 100000 in
theorem ok_JA_charAt : (ps_ok md_JA_charAt && ps_mok md_JA_charAt) = true := by decide +kernel
set_option maxRecDepth 100000 in
theorem ok_JA_canEncode : (ps_ok md_JA_canEncode && ps_mok md_JA_canEncode) = true := by decide +kernel
set_option maxRecDepth 100000 in
theorem ok_JP_checkIndex : (ps_ok md_JP_checkIndex && ps_mok md_JP_checkIndex) = true := by decide +kernel
set_option maxRecDepth 100000 in
theorem ok_L_cell : (ps_ok md_L_cell && ps_mok md_L_cell) = true := by decide +kernel
set_option maxRecDepth 100000 in
theorem ok_L_says : (ps_ok md_L_says && ps_mok md_L_says) = true := by decide +kernel
