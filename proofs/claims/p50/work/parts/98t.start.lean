/-! from the law's entry to its end -/
section PSF
variable {p : Program} {l : Launch} {e : Env} {R : Room} {s : State} {m : MethodId} {args : Array Value} {below : List Frame} {meth : Method} {c : Code} {md : pm_M} {kp : pm_K} {base : Nat} {adk : Nat → Nat} {nf : Value} {D : va_G} {dA : Nat → ClassId} {hb sb h0 s0 : Nat} {C : pm_C} {rr : Option Value} {hh1 : pm_H} {mc ms : Nat}
theorem ps_all_Q {QQ : State → Prop} {Q : Option Value → pm_H → Prop} (hall : ∀ md ∈ pt_M, ps_own md) (hCS : ∃ d, ps_CS l kp base adk nf D dA d C ∧ d + 1 ≤ R.frames ∧ 59 + 60 * d ≤ R.locals) (E : ps_E p R s m args meth c md kp base adk nf D dA hb sb h0 s0)
    (g_irt : pr_irt kp md C hb sb Q (ps_PP p l e R s m args below meth c QQ md base adk nf D dA hb sb h0 s0)) (g_lrt : pr_lrt kp md C hb sb Q (ps_PP p l e R s m args below meth c QQ md base adk nf D dA hb sb h0 s0))
    (g_art : pr_art kp md C hb sb Q (ps_PP p l e R s m args below meth c QQ md base adk nf D dA hb sb h0 s0)) (g_vrt : pr_vrt kp md C hb sb Q (ps_PP p l e R s m args below meth c QQ md base adk nf D dA hb sb h0 s0)) :
    pm_R kp md C hb sb Q (ps_PP p l e R s m args below meth c QQ md base adk nf D dA hb sb h0 s0) :=
  ⟨ps_cst E, ps_ldc E, ps_ld E, ps_sto E, ps_bop E, ps_dop E, ps_uop E, ps_sop E, ps_inc E, ps_goto E, ps_ifc E, ps_icm E, ps_tso E, ps_tsi E, ps_lsw E, ps_get E, ps_gek E, ps_put E, ps_puf E, ps_ial E, ps_bal E, ps_zal E, ps_lal E, ps_aal E, ps_kil E, ps_kbl E, ps_kll E, ps_kle E, ps_ias E, ps_bas E, ps_zas E, ps_las E, ps_aas E, ps_len1 E, ps_new E, ps_nwa E, ps_nwr E, ps_nwm E, ps_cls hall hCS E, ps_clv hall hCS E, ps_clk hall hCS E, ps_clo E, ps_cca E, ps_aak E, ps_aam E, ps_inn E, ps_clu hall hCS E, ps_csu hall hCS E, ps_clf hall hCS E, ps_acp E, ps_mmx E, ps_mmn E, ps_obj E, g_irt, g_lrt, g_art, g_vrt, ps_gst E, ps_sub E⟩
end PSF
set_option maxHeartbeats 4000000 in
set_option maxRecDepth 100000 in
/-- from the entry, for every script of at most 260 ints, the law comes to its end with true -/
theorem whole_start {p : Program} {e : Env} {s : State} {m : MethodId} {below : List Frame} {meth : Method} {c : Code} (l : Launch) (hflags : l.flags = flags0) {b L : Nat} {xs : Nat → Int32} (hL : L ≤ 260) (C0 : lw_At p s m meth c b L xs) : W p l e room_1 s m #[Value.ref b] below meth c s.heap [] 0 0 (lw_Z below #[Value.ref b] s) (entryFrame m ([Value.ref b] : List Value).toArray 13) := by
  obtain ⟨hx, hb, hr, hml, hown, hts, hX, hbl, hlocks, hgv, hnm⟩ := id C0
  have hs := flat_of_before _ hgv
  have hA : ∀ a : Nat, a < s.heap.size → ¬ (fun q : Nat => s.heap.size ≤ q) a := fun a h => Nat.not_le.mpr h
  obtain ⟨D, dA, hK⟩ := zg_K hts
  obtain ⟨adK, adV, hS1, hS2⟩ := zg_strs (A := fun q : Nat => s.heap.size ≤ q) hs hts hA
  obtain ⟨tL, hTL, hZL⟩ := zg_tab (A := fun q : Nat => s.heap.size ≤ q) (C := "TurnField$Numbers") (n := "LOW") (N := 6) (l := pm_low) hs hts hA (by decide) (by decide +kernel) (by decide +kernel) (by decide +kernel) (by decide +kernel) (by decide +kernel)
  obtain ⟨tO, hTO, hZO⟩ := zg_tabb (A := fun q : Nat => s.heap.size ≤ q) (C := "java/lang/Integer") (n := "DigitOnes") (N := 100) (l := pm_ones) hs hts hA (by decide) (by decide +kernel) (by decide +kernel) (fun j hj => zg_cut zg_ones (zg_digm hj)) (by decide +kernel) (by decide +kernel)
  obtain ⟨tT, hTT, hZT⟩ := zg_tabb (A := fun q : Nat => s.heap.size ≤ q) (C := "java/lang/Integer") (n := "DigitTens") (N := 100) (l := pm_tens) hs hts hA (by decide) (by decide +kernel) (by decide +kernel) (fun j hj => zg_cut zg_tens (zg_digm hj)) (by decide +kernel) (by decide +kernel)
  have hZC : va_Z "java/lang/String" "COMPACT_STRINGS" "Z" (.int 1) (fun q : Nat => s.heap.size ≤ q) s s.heap := va_Zof (hts (.laysStatic "java/lang/String" "COMPACT_STRINGS" "Z") (by decide +kernel)) (hts (.initialized "java/lang/String") (by decide +kernel)) (va_eqi (hs (.eq (.static "java/lang/String" "COMPACT_STRINGS" "Z") (.int 1)) (by decide +kernel))) hA
  obtain ⟨nf, hnf, hZF⟩ : ∃ nf : Value, nf.category = 1 ∧ va_Z "jdk/internal/util/Preconditions" "SIOOBE_FORMATTER" "Ljava/util/function/BiFunction;" nf (fun q : Nat => s.heap.size ≤ q) s s.heap := by
    rcases va_Zqof (A := fun q : Nat => s.heap.size ≤ q) (hts (.laysStatic "jdk/internal/util/Preconditions" "SIOOBE_FORMATTER" "Ljava/util/function/BiFunction;") (by decide +kernel)) (hts (.initialized "jdk/internal/util/Preconditions") (by decide +kernel)) (hs (.isRef (.static "jdk/internal/util/Preconditions" "SIOOBE_FORMATTER" "Ljava/util/function/BiFunction;")) (by decide +kernel)) hA with h | ⟨t, h⟩
    · exact ⟨.null, rfl, h⟩
    · exact ⟨.ref t, rfl, h⟩
  obtain ⟨scr, x1, x2, x3, x4, x5⟩ := hX
  generalize hadk : (fun k : Nat => if k = 1000000 then b else if k = 1000001 then tL else if k = 1000002 then tO else if k = 1000003 then tT else if k < 1000030 then adK (k - 1000010) else adV (k - 1000030)) = adk
  have d0 : adk 1000000 = b := by rw [← hadk]; rfl
  have d1 : adk 1000001 = tL := by rw [← hadk]; rfl
  have d2 : adk 1000002 = tO := by rw [← hadk]; rfl
  have d5 : adk 1000003 = tT := by rw [← hadk]; rfl
  have d3 : ∀ i, i < 9 → adk (1000010 + i) = adK i := fun i hi => by
    rw [← hadk]
    dsimp only
    rw [if_neg (by omega), if_neg (by omega), if_neg (by omega), if_neg (by omega), if_pos (by omega), Nat.add_sub_cancel_left]
  have d4 : ∀ i, i < 9 → adk (1000030 + i) = adV i := fun i hi => by
    rw [← hadk]
    dsimp only
    rw [if_neg (by omega), if_neg (by omega), if_neg (by omega), if_neg (by omega), if_neg (by omega), Nat.add_sub_cancel_left]
  have hKC : ps_KC adk nf (L, xs) (fun q : Nat => s.heap.size ≤ q) s s.heap := by
    refine ⟨?_, ?_, ?_, ?_, ?_, hZC, hZF, ?_, ?_, ?_, va_AO.of (hts (.arrayOver (.object "TurnField$Position")) (by decide +kernel)), hts (.arrayOver (.array .long)) (by decide +kernel), ?_, ?_, ?_, va_AO.of (hts (.arrayOver (.object "java/lang/String")) (by decide +kernel)), hts (.arrayOver (.array .boolean)) (by decide +kernel), ?_, ?_⟩
    · rw [d0]; exact ⟨scr, x1, x2, x3, Nat.le_of_eq x4.symm, by rw [x4], x5, hA b hbl⟩
    · rw [d1]; exact hTL
    · rw [d2]; exact hTO
    · rw [d1]; exact hZL
    · rw [d2]; exact hZO
    · refine ⟨fun i hi => ?_, fun i j hi hj q => ?_⟩
      · dsimp only; rw [d3 i hi, d4 i hi]; exact hS1.1 i hi
      · dsimp only at q; rw [d3 i hi, d3 j hj] at q; exact hS1.2 i j hi hj q
    · intro r hr
      have h1 := hS2 r hr
      obtain ⟨g1, g2⟩ := ps_sr_big r hr
      have h2 := d3 (r.2.2.2 - 1000010) (by omega)
      rw [show 1000010 + (r.2.2.2 - 1000010) = r.2.2.2 by omega] at h2
      rw [h2]
      exact h1
    · intro w hw
      have hm : ∀ w ∈ ps_nst, w ∈ lw_tbl ∧ w.onTables = true := by decide +kernel
      exact va_Nw.of (hm w hw).2 (hts w (hm w hw).1)
    · rw [d5]; exact hTT
    · rw [d5]; exact hZT
    · intro w hw
      have hm : ∀ w ∈ ps_nsf, w ∈ lw_tbl ∧ w.onTables = true := by decide +kernel
      exact va_Nw.of (hm w hw).2 (hts w (hm w hw).1)
    · intro q hq
      have hm : ∀ q ∈ ps_cbl, Cond.castable q.1 q.2 ∈ lw_tbl ∧ (Cond.castable q.1 q.2).onTables = true := by decide +kernel
      exact va_Nw.of (hm q hq).2 (hts _ (hm q hq).1)
    · intro y hy
      have hm : ∀ y ∈ ps_fcs, Cond.declares ⟨"java/lang/CharSequence", y.name, y.desc⟩ ∈ lw_tbl ∧ Cond.interfaceMethod "java/lang/CharSequence" "java/lang/CharSequence" y.name y.desc ∈ lw_tbl ∧ Cond.publicMethod y ∈ lw_tbl ∧ Cond.unhidden "java/lang/StringBuilder" y.name y.desc ∈ lw_tbl ∧ Cond.castable "java/lang/StringBuilder" "java/lang/CharSequence" ∈ lw_tbl := by decide +kernel
      obtain ⟨m1, m2, m3, m4, m5⟩ := hm y hy
      exact va_Fw.of (hts _ m1) (hts _ m2) (hts _ m3) (hts _ m4) (hts _ m5)
  have hl := lv_entry ([.ref b]) (n := 13) (Nat.le_of_ble_eq_true rfl)
  rw [lg_entry_eq]
  generalize (lg_sl ([.ref b]) ++ List.replicate (13 - (lg_sl ([.ref b])).length) Slot.unset).toArray = ls at hl ⊢
  have E : ps_E p room_1 s m #[Value.ref b] meth c md_L_law (L, xs) s.heap.size adk nf D dA 2000 40000 0 0 :=
    ⟨hx, hb, hr, hml, hown, fun w hw => sb_hts hts w (List.mem_filter.mp hw).1, hlocks, hnm, hK, hKC, Nat.le_refl _, hnf, by decide, by decide, by decide, ok_L_law, by decide, by decide⟩
  have hR := ps_all_Q (p := p) (l := l) (e := e) (R := room_1) (s := s) (m := m) (below := below) (C := pm_X (L, xs) 43) (QQ := lw_Z below #[Value.ref b] s) (Q := fun r2 _ => r2 = some (.int 1)) ps_all ⟨43, ps_soundX ps_all hnf 43, by decide, by decide⟩ E
    (fun pc nx a b2 lv h v ty g0 g1 g2 g3 H locs cells slots ls I => by
      obtain ⟨pp, hd, hn, -⟩ := ps_at2 E.2.2.2.2.2.2.2.2.2.2.2.2.2.2.2.1 g0 rfl
      cases g3
      obtain ⟨i1, i2, i3, i4, i5, i6, i7, i8⟩ := I
      refine W.widen (k := 600000) (n := 7302250) (by omega) (by omega) ?_
      refine va_forget (fun q hq => i3.2.2 q hq) ?_
      exact lw_ret hx hb hr hlocks hd)
    (fun pc nx a b2 lv h v g0 g1 => absurd g1 (by decide +kernel)) (fun pc nx a b2 lv h o n g0 g1 => absurd (show ret = some (.object n) from g1) (by intro z; cases z)) (fun pc nx a b2 lv h g0 g1 => absurd g1 (by decide +kernel))
  have key := zi_law (L, xs) (show L < 2 ^ 31 by omega) _ hR s.heap [] 0 0 ls ⟨?_, ?_, va_S.rf, rfl, by decide, by decide, by decide, by decide⟩
  · exact key
  · have e1 : ([(0, .ref 1000000)] : pm_L).map (fun q => (q.1, ps_cv (ps_ad s.heap.size adk) nf q.2)) = [(0, .ref b)] := by
      show [(0, Value.ref (ps_ad s.heap.size adk 1000000))] = _
      rw [ps_adk (by omega), d0]
    rw [e1]
    exact hl
  · intro k q hk
    cases hk
