/-! moves: its loops over rows, columns, cells; the end -/
theorem lg2_tab : (List.range 6).all (fun r => (List.range (2 ^ r)).all (fun S => decide (Nat.log2 (2 ^ r + S) = r))) = true := by decide +kernel
theorem lg2_p {r S : Nat} (hr : r < 6) (hS : S < 2 ^ r) : Nat.log2 (2 ^ r + S) = r := of_decide_eq_true (List.all_eq_true.mp (List.all_eq_true.mp lg2_tab r (List.mem_range.mpr hr)) S (List.mem_range.mpr hS))
theorem mvP_s (K L : Nat → Nat) (e : Int32) (X : nb_F) (k S U : Nat) : mvP K L e X k S (U + 1) = mvP K L e X k S U ++ if al (K 0) (L 0) (2 ^ (k / 6) + S) = true ∧ al (K 1) (L 1) (2 ^ (k % 6) + U) = true ∧ fit K L e (2 ^ (k / 6) + S) (2 ^ (k % 6) + U) = true then [(2 ^ (k / 6) + S, 2 ^ (k % 6) + U)] else [] := by
  unfold mvP
  rw [mvy_s, List.append_assoc (rg (mvk K L e X) k ++ rg (mvR K L e (k / 6) (k % 6)) S)]
theorem mvP_0 (K L : Nat → Nat) (e : Int32) (X : nb_F) (k S : Nat) : mvP K L e X k S 0 = rg (mvk K L e X) k ++ rg (mvR K L e (k / 6) (k % 6)) S := by
  unfold mvP mvy
  rw [rg_0]
  split <;> rw [List.append_nil]
theorem mvP_f (K L : Nat → Nat) (e : Int32) (X : nb_F) (k S : Nat) : mvP K L e X k S (2 ^ (k % 6)) = rg (mvk K L e X) k ++ rg (mvR K L e (k / 6) (k % 6)) (S + 1) := by
  unfold mvP
  rw [← mvy_full, rg_s, List.append_assoc]
theorem fit_m1 (K L : Nat → Nat) (R C : Nat) : fit K L (-1) R C = true := decide_eq_true (Or.inl rfl)
theorem fit_w {s : sT} (R C : Nat) : fit (bK s.1) (bL s.1) (iB (tW s)) R C = true ↔ iB (tW s ^^^ ef (bK s.1) (bL s.1) R C) = 0 := by
  unfold fit
  rw [decide_eq_true_iff, iB_eq]
  exact ⟨fun h => h.resolve_left (tW_m1 s), Or.inr⟩
theorem eW_0 (s : sT) : mvs s 0 = mvA s (-1) := by
  unfold mvs eW
  rw [if_pos (show nI 0 = 0 from rfl)]
theorem eW_1 (s : sT) : mvs s 1 = mvA s (iB (tW s)) := by
  unfold mvs eW
  rw [if_neg (show ¬ nI 1 = 0 by decide)]
theorem ap_at {α : Type} (P : List α) (a : α) (l : List α) : (P ++ [a] ++ l)[P.length]? = some a := by simp
/-- how many: all, those that win, before a place -/
noncomputable def nA (s : sT) (k S U : Nat) : Nat := (mvP (bK s.1) (bL s.1) (-1) (nb (s.1 6)) k S U).length
noncomputable def nW (s : sT) (k S U : Nat) : Nat := (mvP (bK s.1) (bL s.1) (iB (tW s)) (nb (s.1 6)) k S U).length
theorem nA_le {s : sT} (g : px_ok s.1) {k S U : Nat} (hX : (nb (s.1 6)).getLsbD k = true) (hk : k < 36) (hS : S < 2 ^ (k / 6)) (hU : U ≤ 2 ^ (k % 6)) : nA s k S U ≤ 65536 ∧ nW s k S U ≤ 65536 := by
  obtain ⟨l1, e1⟩ := mvP_pre (K := bK s.1) (L := bL s.1) (e := -1) hX hk hS hU
  obtain ⟨l2, e2⟩ := mvP_pre (K := bK s.1) (L := bL s.1) (e := iB (tW s)) hX hk hS hU
  have h1 := mvA_len (s := s) (e := -1) g
  have h2 := mvA_len (s := s) (e := iB (tW s)) g
  rw [mvA_k g, e1, List.length_append] at h1
  rw [mvA_k g, e2, List.length_append] at h2
  unfold nA nW
  omega
theorem mo_219 {b : Bool} {m : qm_M} {s : sT} (h : gw b s 36 m) {k S : Nat} (hX : (nb (s.1 6)).getLsbD k = true) (hk : k < 36) (hS : S < 2 ^ (k / 6)) (K129 : Int32 → Int32 → Int32 → Int32 → Int32 → qm_M → Option qm_R) (K199 : Int32 → Int32 → Int32 → Int32 → Int32 → Int32 → Int32 → Int32 → qm_M → Option qm_R) :
    ∃ m1, gw b s 36 m1 ∧ L_L_moves_219 K129 K199 1000000 (iB (tW s)) 1 (nI (nA s k S 0)) (nI (nW s k S 0)) (nI k) (nI (k / 6)) (nI (k % 6)) (nI (2 ^ (k / 6) + S)) (nI (2 ^ (k % 6))) m = K199 (iB (tW s)) 1 (nI (nA s k S (2 ^ (k % 6)))) (nI (nW s k S (2 ^ (k % 6)))) (nI k) (nI (k / 6)) (nI (k % 6)) (nI (2 ^ (k / 6) + (S + 1))) m1 := by
  have g := h.1.2.2.1
  obtain ⟨hr, hc⟩ := g.heads k hX
  obtain ⟨hp, ⟨r1, r2, r3⟩, ⟨c1, c2, c3⟩⟩ := g.prl
  have pr : 2 ^ (k / 6) ≤ 32 := pow_6 (by omega)
  have pc' : 2 ^ (k % 6) ≤ 32 := pow_6 (by omega)
  have br : 2 ^ (k / 6) + 2 ^ (k / 6) ≤ 2 ^ bR s.1 := by
    have : 2 ^ (k / 6 + 1) ≤ 2 ^ bR s.1 := Nat.pow_le_pow_right (by omega) hr
    rw [Nat.pow_succ] at this
    omega
  have bc : 2 ^ (k % 6) + 2 ^ (k % 6) ≤ 2 ^ bC s.1 := by
    have : 2 ^ (k % 6 + 1) ≤ 2 ^ bC s.1 := Nat.pow_le_pow_right (by omega) hc
    rw [Nat.pow_succ] at this
    omega
  have hsh : qo_ishl (2 : Int32) (nI (k % 6)) = nI (2 * 2 ^ (k % 6)) := nI_shl (n := 2) (by omega)
  have e6 : 6 * (k / 6) + k % 6 = k := by omega
  exact lpU (fun f U (m1 : qm_M) => L_L_moves_219 K129 K199 f (iB (tW s)) 1 (nI (nA s k S U)) (nI (nW s k S U)) (nI k) (nI (k / 6)) (nI (k % 6)) (nI (2 ^ (k / 6) + S)) (nI (2 ^ (k % 6) + U)) m1) (2 ^ (k % 6)) (fun U m1 => gw b s 36 m1) (fun m1 => K199 (iB (tW s)) 1 (nI (nA s k S (2 ^ (k % 6)))) (nI (nW s k S (2 ^ (k % 6)))) (nI k) (nI (k / 6)) (nI (k % 6)) (nI (2 ^ (k / 6) + (S + 1))) m1) (fun f U m1 hU hI => by
      show ∃ s', gw b s 36 s' ∧ L_L_moves_219 K129 K199 (f + 1) (iB (tW s)) 1 (nI (nA s k S U)) (nI (nW s k S U)) (nI k) (nI (k / 6)) (nI (k % 6)) (nI (2 ^ (k / 6) + S)) (nI (2 ^ (k % 6) + U)) m1 = L_L_moves_219 K129 K199 f (iB (tW s)) 1 (nI (nA s k S (U + 1))) (nI (nW s k S (U + 1))) (nI k) (nI (k / 6)) (nI (k % 6)) (nI (2 ^ (k / 6) + S)) (nI (2 ^ (k % 6) + U + 1)) s'
      have hcan := nu_can hI.2.1 g (S := 2 ^ (k / 6) + S) (U := 2 ^ (k % 6) + U) (by omega) (by omega) (by omega) (by omega)
      rw [lg2_p (by omega) hS, lg2_p (by omega) hU, e6] at hcan
      rw [le_L_moves_219]
      unfold X_L_moves_219
      rw [hsh, if_pos (nI_lt (by omega) (by omega)), if_neg n10, hcan, qe_rI_e]
      obtain ⟨b1, b2⟩ := nA_le g hX hk hS (U := U) (by omega)
      by_cases q : al (bK s.1 0) (bL s.1 0) (2 ^ (k / 6) + S) = true ∧ al (bK s.1 1) (bL s.1 1) (2 ^ (k % 6) + U) = true ∧ (nb (s.1 6)).getLsbD k = true
      · rw [if_pos q, if_neg n10]
        have sA : mvP (bK s.1) (bL s.1) (-1) (nb (s.1 6)) k S (U + 1) = mvP (bK s.1) (bL s.1) (-1) (nb (s.1 6)) k S U ++ [(2 ^ (k / 6) + S, 2 ^ (k % 6) + U)] := by rw [mvP_s, if_pos ⟨q.1, q.2.1, fit_m1 _ _ _ _⟩]
        have atA : (mvs s 0)[nA s k S U]? = some (2 ^ (k / 6) + S, 2 ^ (k % 6) + U) := by
          obtain ⟨l, e⟩ := mvP_pre (K := bK s.1) (L := bL s.1) (e := -1) hX hk hS (U := U + 1) (by omega)
          rw [eW_0, mvA_k g, e, sA]
          exact ap_at _ _ _
        have eA : nA s k S (U + 1) = nA s k S U + 1 := by unfold nA; rw [sA, List.length_append]; rfl
        by_cases q2 : iB (tW s ^^^ ef (bK s.1) (bL s.1) (2 ^ (k / 6) + S) (2 ^ (k % 6) + U)) = 0
        · have sW : mvP (bK s.1) (bL s.1) (iB (tW s)) (nb (s.1 6)) k S (U + 1) = mvP (bK s.1) (bL s.1) (iB (tW s)) (nb (s.1 6)) k S U ++ [(2 ^ (k / 6) + S, 2 ^ (k % 6) + U)] := by rw [mvP_s, if_pos ⟨q.1, q.2.1, (fit_w _ _).mpr q2⟩]
          have atW : (mvs s 1)[nW s k S U]? = some (2 ^ (k / 6) + S, 2 ^ (k % 6) + U) := by
            obtain ⟨l, e⟩ := mvP_pre (K := bK s.1) (L := bL s.1) (e := iB (tW s)) hX hk hS (U := U + 1) (by omega)
            rw [eW_1, mvA_k g, e, sW]
            exact ap_at _ _ _
          have eW' : nW s k S (U + 1) = nW s k S U + 1 := by unfold nW; rw [sW, List.length_append]; rfl
          obtain ⟨m2, g2, e2⟩ := mo_253 hI (x := 2 ^ (k / 6) + S) (y := 2 ^ (k % 6) + U) (by omega) (by omega) atA (fun _ => atW) (by omega) (by omega) K129 K199 (L_L_moves_219 K129 K199 f) (nI k) (nI (k / 6)) (nI (k % 6))
          rw [if_pos q2] at e2
          exact ⟨m2, g2, by rw [e2, eA, eW']⟩
        · have sW : mvP (bK s.1) (bL s.1) (iB (tW s)) (nb (s.1 6)) k S (U + 1) = mvP (bK s.1) (bL s.1) (iB (tW s)) (nb (s.1 6)) k S U := by rw [mvP_s, if_neg (fun z => q2 ((fit_w _ _).mp z.2.2)), List.append_nil]
          have eW' : nW s k S (U + 1) = nW s k S U := by unfold nW; rw [sW]
          obtain ⟨m2, g2, e2⟩ := mo_253 hI (x := 2 ^ (k / 6) + S) (y := 2 ^ (k % 6) + U) (w := nW s k S U) (by omega) (by omega) atA (fun z => absurd z q2) (by omega) (by omega) K129 K199 (L_L_moves_219 K129 K199 f) (nI k) (nI (k / 6)) (nI (k % 6))
          rw [if_neg q2] at e2
          exact ⟨m2, g2, by rw [e2, eA, eW']⟩
      · rw [if_neg q, if_pos rfl, nI_1]
        have no : ∀ e, mvP (bK s.1) (bL s.1) e (nb (s.1 6)) k S (U + 1) = mvP (bK s.1) (bL s.1) e (nb (s.1 6)) k S U := fun e => by rw [mvP_s, if_neg (fun z => q ⟨z.1, z.2.1, hX⟩), List.append_nil]
        unfold nA nW
        rw [no, no]
        exact ⟨m1, hI, rfl⟩) (fun f m1 hI => by
      show L_L_moves_219 K129 K199 (f + 1) (iB (tW s)) 1 _ _ (nI k) (nI (k / 6)) (nI (k % 6)) (nI (2 ^ (k / 6) + S)) (nI (2 ^ (k % 6) + 2 ^ (k % 6))) m1 = _
      rw [le_L_moves_219]
      unfold X_L_moves_219
      rw [hsh, if_neg (nI_nlt (by omega) (by omega)), nI_1, Nat.add_assoc]) 1000000 0 m (Nat.zero_le _) (by omega) h
/-- how many before a cell, before rows of a cell -/
noncomputable def nA' (s : sT) (k S : Nat) : Nat := (rg (mvk (bK s.1) (bL s.1) (-1) (nb (s.1 6))) k ++ rg (mvR (bK s.1) (bL s.1) (-1) (k / 6) (k % 6)) S).length
noncomputable def nW' (s : sT) (k S : Nat) : Nat := (rg (mvk (bK s.1) (bL s.1) (iB (tW s)) (nb (s.1 6))) k ++ rg (mvR (bK s.1) (bL s.1) (iB (tW s)) (k / 6) (k % 6)) S).length
theorem mo_199 {b : Bool} {m : qm_M} {s : sT} (h : gw b s 36 m) {k : Nat} (hX : (nb (s.1 6)).getLsbD k = true) (hk : k < 36) (K129 : Int32 → Int32 → Int32 → Int32 → Int32 → qm_M → Option qm_R) :
    ∃ m1, gw b s 36 m1 ∧ L_L_moves_199 K129 1000000 (iB (tW s)) 1 (nI (nA' s k 0)) (nI (nW' s k 0)) (nI k) (nI (k / 6)) (nI (k % 6)) (nI (2 ^ (k / 6))) m = K129 (iB (tW s)) 1 (nI (nA' s k (2 ^ (k / 6)))) (nI (nW' s k (2 ^ (k / 6)))) (nI (k + 1)) m1 := by
  have g := h.1.2.2.1
  obtain ⟨hr, hc⟩ := g.heads k hX
  obtain ⟨hp, ⟨r1, r2, r3⟩, ⟨c1, c2, c3⟩⟩ := g.prl
  have pr : 2 ^ (k / 6) ≤ 32 := pow_6 (by omega)
  have hsh : qo_ishl (2 : Int32) (nI (k / 6)) = nI (2 * 2 ^ (k / 6)) := nI_shl (n := 2) (by omega)
  exact lpU (fun f S (m1 : qm_M) => L_L_moves_199 K129 f (iB (tW s)) 1 (nI (nA' s k S)) (nI (nW' s k S)) (nI k) (nI (k / 6)) (nI (k % 6)) (nI (2 ^ (k / 6) + S)) m1) (2 ^ (k / 6)) (fun S m1 => gw b s 36 m1) (fun m1 => K129 (iB (tW s)) 1 (nI (nA' s k (2 ^ (k / 6)))) (nI (nW' s k (2 ^ (k / 6)))) (nI (k + 1)) m1) (fun f S m1 hS hI => by
      show ∃ s', gw b s 36 s' ∧ L_L_moves_199 K129 (f + 1) (iB (tW s)) 1 (nI (nA' s k S)) (nI (nW' s k S)) (nI k) (nI (k / 6)) (nI (k % 6)) (nI (2 ^ (k / 6) + S)) m1 = L_L_moves_199 K129 f (iB (tW s)) 1 (nI (nA' s k (S + 1))) (nI (nW' s k (S + 1))) (nI k) (nI (k / 6)) (nI (k % 6)) (nI (2 ^ (k / 6) + (S + 1))) s'
      rw [le_L_moves_199]
      unfold X_L_moves_199
      rw [hsh, if_pos (nI_lt (by omega) (by omega)), if_neg n10, no_ishl1 (show k % 6 < 31 by omega)]
      obtain ⟨m2, g2, e2⟩ := mo_219 hI hX hk hS K129 (L_L_moves_199 K129 f)
      unfold nA nW at e2
      rw [mvP_0, mvP_0, mvP_f, mvP_f] at e2
      exact ⟨m2, g2, e2⟩) (fun f m1 hI => by
      show L_L_moves_199 K129 (f + 1) (iB (tW s)) 1 _ _ (nI k) (nI (k / 6)) (nI (k % 6)) (nI (2 ^ (k / 6) + 2 ^ (k / 6))) m1 = _
      rw [le_L_moves_199]
      unfold X_L_moves_199
      rw [hsh, if_neg (nI_nlt (by omega) (by omega)), nI_1]) 1000000 0 m (Nat.zero_le _) (by omega) h
noncomputable def nA2 (s : sT) (k : Nat) : Nat := (rg (mvk (bK s.1) (bL s.1) (-1) (nb (s.1 6))) k).length
noncomputable def nW2 (s : sT) (k : Nat) : Nat := (rg (mvk (bK s.1) (bL s.1) (iB (tW s)) (nb (s.1 6))) k).length
theorem mo_129 {b : Bool} {m : qm_M} {s : sT} (h : gw b s 36 m) : ∃ m1, gw b s 36 m1 ∧ L_L_moves_129 1000000 (iB (tW s)) 1 0 0 0 m = L_L_moves_453 (iB (tW s)) 1 (nI (mvs s 0).length) (nI (mvs s 1).length) m1 := by
  have g := h.1.2.2.1
  have hh := g.heads
  obtain ⟨hp, ⟨r1, r2, r3⟩, ⟨c1, c2, c3⟩⟩ := g.prl
  obtain ⟨m1, h1, e⟩ := lpU (fun f k (m1 : qm_M) => L_L_moves_129 f (iB (tW s)) 1 (nI (nA2 s k)) (nI (nW2 s k)) (nI k) m1) 36 (fun k m1 => gw b s 36 m1) (fun m1 => L_L_moves_453 (iB (tW s)) 1 (nI (nA2 s 36)) (nI (nW2 s 36)) m1) (fun f k m1 hk hI => by
      show ∃ s', gw b s 36 s' ∧ L_L_moves_129 (f + 1) (iB (tW s)) 1 (nI (nA2 s k)) (nI (nW2 s k)) (nI k) m1 = L_L_moves_129 f (iB (tW s)) 1 (nI (nA2 s (k + 1))) (nI (nW2 s (k + 1))) (nI (k + 1)) s'
      obtain ⟨t1, t2⟩ := mo_t (show k < 37 by omega)
      obtain ⟨f1, f2, f3, -⟩ := bb_f (show k / 6 < 6 by omega)
      have ek : 6 * (k / 6) + k % 6 = k := by omega
      have no : ¬ (nb (s.1 6)).getLsbD k = true → nA2 s (k + 1) = nA2 s k ∧ nW2 s (k + 1) = nW2 s k := fun q => by
        have z : ∀ e, mvk (bK s.1) (bL s.1) e (nb (s.1 6)) k = [] := fun e => if_neg q
        unfold nA2 nW2
        rw [rg_s, rg_s, z, z, List.append_nil, List.append_nil]
        exact ⟨rfl, rfl⟩
      have yes : (nb (s.1 6)).getLsbD k = true → nA2 s (k + 1) = nA' s k (2 ^ (k / 6)) ∧ nW2 s (k + 1) = nW' s k (2 ^ (k / 6)) ∧ nA2 s k = nA' s k 0 ∧ nW2 s k = nW' s k 0 := fun q => by
        have z : ∀ e, mvk (bK s.1) (bL s.1) e (nb (s.1 6)) k = rg (mvR (bK s.1) (bL s.1) e (k / 6) (k % 6)) (2 ^ (k / 6)) := fun e => if_pos q
        unfold nA2 nW2 nA' nW'
        rw [rg_s, rg_s, z, z, rg_0, rg_0, List.append_nil, List.append_nil]
        exact ⟨rfl, rfl, rfl, rfl⟩
      rw [le_L_moves_129]
      unfold X_L_moves_129
      rw [if_pos (show nI k < (36 : Int32) from nI_lt (b := 36) hk (by omega)), if_neg n10, mo_d6]
      simp only [qe_b_e]
      rw [t1, t2, hI.2.1.1.1, hI.2.1.1.2, nI_1]
      by_cases q1 : k / 6 < bR s.1
      · rw [if_pos (nI_lt q1 (by omega))]
        by_cases q2 : k % 6 < bC s.1
        · rw [if_pos (nI_lt q2 (by omega)), qm_in_nI (show k / 6 < 6 by omega) (by omega), qe_b_e, nI_clamp (show k / 6 < 2 ^ 31 by omega), f1, f2, qe_b_e, f3, qm_in_nI (show k % 6 < 6 by omega) (by omega), qe_b_e, nI_clamp (show k % 6 < 2 ^ 31 by omega), bb_g (by omega), hI.2.1.2.2 _ _ (by omega) (by omega), ek]
          by_cases q : (nb (s.1 6)).getLsbD k = true
          · rw [if_pos q, if_neg n10, no_ishl1 (show k / 6 < 31 by omega)]
            obtain ⟨y1, y2, y3, y4⟩ := yes q
            rw [y1, y2, y3, y4]
            exact mo_199 hI q hk (L_L_moves_129 f)
          · obtain ⟨y1, y2⟩ := no q
            rw [if_neg q, if_pos rfl, y1, y2]
            exact ⟨m1, hI, rfl⟩
        · obtain ⟨y1, y2⟩ := no (fun z => q2 (hh k z).2)
          rw [if_neg (nI_nlt (by omega) (by omega)), y1, y2]
          exact ⟨m1, hI, rfl⟩
      · obtain ⟨y1, y2⟩ := no (fun z => q1 (hh k z).1)
        rw [if_neg (nI_nlt (by omega) (by omega)), y1, y2]
        exact ⟨m1, hI, rfl⟩) (fun f m1 hI => by
      show L_L_moves_129 (f + 1) (iB (tW s)) 1 _ _ (nI 36) m1 = _
      rw [le_L_moves_129]
      unfold X_L_moves_129
      rw [if_neg (show ¬ nI 36 < (36 : Int32) by decide)]) 1000000 0 m (Nat.zero_le _) (by omega) h
  refine ⟨m1, h1, ?_⟩
  rw [eW_0, eW_1, mvA_k g, mvA_k g]
  exact e
theorem nu_moves {b : Bool} {m : qm_M} {s : sT} (h : CI m s) (hb : bd m s) (hz : b = true → cvLe m) : ∃ m1, F_L_moves m = some (some (.int 1), m1) ∧ CI m1 s ∧ bd m1 s ∧ (b = true → cvLe m1) := by
  obtain ⟨m1, g1, e1⟩ := mo_10 h hb hz
  obtain ⟨m2, g2, e2⟩ := mo_129 g1
  have hl0 := mvs_len h.2.2.1 0
  have hl1 := mvs_len h.2.2.1 1
  obtain ⟨m3, a1, a2, a3⟩ := tc_moves g2.1 (j := 0) (by omega)
  have g3 := g2.ou a2 a3
  obtain ⟨m4, b1, b2, b3⟩ := tc_moves g3.1 (j := 1) (by omega)
  have g4 := g3.ou b2 b3
  obtain ⟨m5, c1, c2, c3⟩ := tc_move g4.1 (j := 0) (K := (mvs s 0).length) (u := 1) (by omega) (by omega) (by omega)
  have g5 := g4.ou c2 c3
  obtain ⟨m6, d1, d2, d3⟩ := tc_move g5.1 (j := 1) (K := (mvs s 1).length) (u := 1) (by omega) (by omega) (by omega)
  have g6 := g5.ou d2 d3
  rw [List.getElem?_eq_none (Nat.le_refl _)] at c1 d1
  have a1' : F_T_moves 0 m2 = some (some (.int (nI (mvs s 0).length)), m3) := a1
  have b1' : F_T_moves 1 m3 = some (some (.int (nI (mvs s 1).length)), m4) := b1
  have c1' : F_T_move 0 (nI (mvs s 0).length) 1 m4 = some (some (.int (-2)), m5) := c1
  have d1' : F_T_move 1 (nI (mvs s 1).length) 1 m5 = some (some (.int (-2)), m6) := d1
  have fin : ∀ z : Int32, L_L_moves_497 (nI (mvs s 0).length) (nI (mvs s 1).length) z z m4 = some (some (.int 1), m6) := fun z => by
    unfold L_L_moves_497 X_L_moves_497
    rw [if_pos rfl, c1', qe_rI_e, if_pos rfl, d1', qe_rI_e, if_pos rfl, tc_move2, qe_rI_e, if_pos rfl, tc_move0, qe_rI_e, if_pos rfl, tc_moves2, qe_rI_e, if_pos rfl]
  refine ⟨m6, ?_, g6.1, g6.2.1, g6.2.2.2⟩
  unfold F_L_moves X_L_moves_e
  rw [e1, e2]
  unfold L_L_moves_453 X_L_moves_453
  rw [if_neg n10, a1', qe_rI_e, if_pos rfl, b1', qe_rI_e, if_pos rfl]
  have hw := win_iff h.2.2.1
  rw [← eW_1] at hw
  by_cases q : iB (tW s) = 0
  · rw [hw.mpr q, if_neg (show ¬ (0 : Int32) < nI ([] : List (Nat × Nat)).length by decide), if_pos q, ← hw.mpr q]
    exact fin 0
  · have hp : 0 < (mvs s 1).length := List.length_pos_iff.mpr (fun z => q (hw.mp z))
    rw [if_pos (show (0 : Int32) < nI (mvs s 1).length from nI_lt (a := 0) hp (by omega)), if_neg q]
    exact fin 1
