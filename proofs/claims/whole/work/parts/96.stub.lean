theorem ok_L_law : ps_ok md_L_law = true := sorry
theorem ps_all : ∀ md ∈ pt_M, ps_own md := sorry
def qm_m2 : qm_M := qm_m1
theorem wm_lays : F_M_laysTwos qm_m1 = some (none, qm_m2) := sorry
theorem wm_main (kp : pm_K) (h : kp.1 ≤ 3072) : ∃ m3, L_L_law_18 kp 1000000 0 qm_m2 = some (some (.int 1), m3) := sorry
