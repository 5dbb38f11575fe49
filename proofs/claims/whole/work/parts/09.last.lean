theorem pq_one (x : Nat) : x = x := rfl
set_option maxRecDepth 100000 in
theorem tt_below (kp : pm_K) (d : Nat) (h : pm_H) (x y : Int64) : ∃ z : Int32, pm_X kp (d + 1) 20 [.long x, .long y] h (some (.int z)) h := by
  by_cases hc : (x ^^^ (-9223372036854775808)) < (y ^^^ (-9223372036854775808))
  · refine ⟨1, pm_Xi md_Nu_below [(0, .long x), (2, .long y)] rfl rfl ?_⟩
    refine pq_ld 0 rfl rfl rfl ?_
    refine pq_ldc rfl rfl rfl ?_
    refine pq_bop rfl rfl ?_
    refine pq_ld 1 rfl rfl rfl ?_
    refine pq_ldc rfl rfl rfl ?_
    refine pq_bop rfl rfl ?_
    refine pq_bop rfl rfl ?_
    refine pq_ifc rfl (fun g => ?_) (fun g => ?_)
    · sorry
    · refine pq_cst rfl rfl ?_
      refine pq_goto rfl ?_
      refine pq_irt rfl rfl rfl ⟨rfl, rfl⟩
  · sorry
