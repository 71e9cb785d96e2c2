set_option maxHeartbeats 4000000 in
set_option maxRecDepth 100000 in
theorem law_body {p : Program} {l : Launch} {e : Env} {s : State} {m : MethodId} {below : List Frame} {meth : Method} {c : Code} {D : va_G} {cB cI cJ cZ : ClassId} {tL tK b L0 n : Nat} {xs : Nat → Int32} {ad : Nat → Nat} {i : Int32} {F K L G nc nt : Nat} {gg : Nat → Int32} {ee : Nat → Nat} {c_saved : Int32} {c_page_length : Int32} {c_page_codes : Nat → Int32} {c_frameText_place : Int32} {c_frameText_from : Int32} {c_frameText_leastWorld : Int32} {c_frameText_draft_kind : Int32} {c_frameText_draft_worlds : Int32} {c_frameText_draft_arrows : Int32} {c_frameText_draft_p : Int32} {c_frameText_draft_q : Int32} {c_formulaText_read : Int32} {c_formulaText_due : Int32} {c_frame_kind : Int32} {c_frame_worlds : Int32} {c_frame_arrows : Int32} {c_frame_p : Int32} {c_frame_q : Int32} {c_formula_signs : Nat → Int32} {c_formula_ends : Nat → Int32} {c_observations_number : Int32} {c_observations_possible : Int32} {c_savedFrame_kind : Int32} {c_savedFrame_worlds : Int32} {c_savedFrame_arrows : Int32} {c_savedFrame_p : Int32} {c_savedFrame_q : Int32} {c_savedObservations_number : Int32} {c_savedObservations_possible : Int32} {c_candidate_kind : Int32} {c_candidate_worlds : Int32} {c_candidate_arrows : Int32} {c_candidate_p : Int32} {c_candidate_q : Int32} {c_truth_p : Nat → Int64} {c_truth_q : Nat → Int64} {c_truth_held : Nat → Int64} {m_kind : Int32} {m_worlds : Int32} {m_seen : Int32} {m_pageLength : Int32} {m_stage : Int32} {m_newKind : Int32} {m_newWorlds : Int32} {m_newFrom : Int32} {m_newLast : Int32} {m_newP : Int32} {m_newQ : Int32} {m_wanted : Int32} {m_many : Int32} {m_pNow : Int32} {m_qNow : Int32} {m_seedNow : Int64} {m_keptFrame : Int32} {m_keptKind : Int32} {m_keptWorlds : Int32} {m_keptSeen : Int32} {m_h : Int64} {m_arrows : Nat → Int32} {m_marks : Nat → Int32} {m_signAt : Nat → Int32} {m_behind : Nat → Int32} {m_seenWhat : Nat → Int32} {m_seenCan : Nat → Int32} {m_page : Nat → Int32} {m_newArrows : Nat → Int32} {m_to : Nat → Int32} {m_holds : Nat → Int32} {m_apart : Nat → Int32} {m_keptArrows : Nat → Int32} {m_keptMarks : Nat → Int32} {m_keptWhat : Nat → Int32} {m_keptCan : Nat → Int32} {H : Heap} {locs : List Loc} {ls : Array Slot} {Q : State → Prop} (E0 : k_Law D cB cI cJ cZ tL tK p s m c b L0 xs) (hn1000 : n < 1000) (hi0 : vp_in i L0) (hi1 : vp_in (i + 1) L0) (hi2 : vp_in (i + 2) L0) (hi3 : vp_in (i + 3) L0) (hn : ∀ (F K L G nc nt : Nat) (gg : Nat → Int32) (ee : Nat → Nat) (c_saved : Int32) (c_page_length : Int32) (c_page_codes : Nat → Int32) (c_frameText_place : Int32) (c_frameText_from : Int32) (c_frameText_leastWorld : Int32) (c_frameText_draft_kind : Int32) (c_frameText_draft_worlds : Int32) (c_frameText_draft_arrows : Int32) (c_frameText_draft_p : Int32) (c_frameText_draft_q : Int32) (c_formulaText_read : Int32) (c_formulaText_due : Int32) (c_frame_kind : Int32) (c_frame_worlds : Int32) (c_frame_arrows : Int32) (c_frame_p : Int32) (c_frame_q : Int32) (c_formula_signs : Nat → Int32) (c_formula_ends : Nat → Int32) (c_observations_number : Int32) (c_observations_possible : Int32) (c_savedFrame_kind : Int32) (c_savedFrame_worlds : Int32) (c_savedFrame_arrows : Int32) (c_savedFrame_p : Int32) (c_savedFrame_q : Int32) (c_savedObservations_number : Int32) (c_savedObservations_possible : Int32) (c_candidate_kind : Int32) (c_candidate_worlds : Int32) (c_candidate_arrows : Int32) (c_candidate_p : Int32) (c_candidate_q : Int32) (c_truth_p : Nat → Int64) (c_truth_q : Nat → Int64) (c_truth_held : Nat → Int64) (m_kind : Int32) (m_worlds : Int32) (m_seen : Int32) (m_pageLength : Int32) (m_stage : Int32) (m_newKind : Int32) (m_newWorlds : Int32) (m_newFrom : Int32) (m_newLast : Int32) (m_newP : Int32) (m_newQ : Int32) (m_wanted : Int32) (m_many : Int32) (m_pNow : Int32) (m_qNow : Int32) (m_seedNow : Int64) (m_keptFrame : Int32) (m_keptKind : Int32) (m_keptWorlds : Int32) (m_keptSeen : Int32) (m_h : Int64) (m_arrows : Nat → Int32) (m_marks : Nat → Int32) (m_signAt : Nat → Int32) (m_behind : Nat → Int32) (m_seenWhat : Nat → Int32) (m_seenCan : Nat → Int32) (m_page : Nat → Int32) (m_newArrows : Nat → Int32) (m_to : Nat → Int32) (m_holds : Nat → Int32) (m_apart : Nat → Int32) (m_keptArrows : Nat → Int32) (m_keptMarks : Nat → Int32) (m_keptWhat : Nat → Int32) (m_keptCan : Nat → Int32) (H : Heap) (locs : List Loc) (ls : Array Slot), k_Inv D cB cI cJ cZ s ad b (n + 1) i F K L G nc nt gg ee c_saved c_page_length c_page_codes c_frameText_place c_frameText_from c_frameText_leastWorld c_frameText_draft_kind c_frameText_draft_worlds c_frameText_draft_arrows c_frameText_draft_p c_frameText_draft_q c_formulaText_read c_formulaText_due c_frame_kind c_frame_worlds c_frame_arrows c_frame_p c_frame_q c_formula_signs c_formula_ends c_observations_number c_observations_possible c_savedFrame_kind c_savedFrame_worlds c_savedFrame_arrows c_savedFrame_p c_savedFrame_q c_savedObservations_number c_savedObservations_possible c_candidate_kind c_candidate_worlds c_candidate_arrows c_candidate_p c_candidate_q c_truth_p c_truth_q c_truth_held m_kind m_worlds m_seen m_pageLength m_stage m_newKind m_newWorlds m_newFrom m_newLast m_newP m_newQ m_wanted m_many m_pNow m_qNow m_seedNow m_keptFrame m_keptKind m_keptWorlds m_keptSeen m_h m_arrows m_marks m_signAt m_behind m_seenWhat m_seenCan m_page m_newArrows m_to m_holds m_apart m_keptArrows m_keptMarks m_keptWhat m_keptCan H locs ls → W p l e room_1 s m #[Value.ref b] below meth c H locs 34 479 Q (F0 m 871 ls [])) (hI : k_Inv D cB cI cJ cZ s ad b n i F K L G nc nt gg ee c_saved c_page_length c_page_codes c_frameText_place c_frameText_from c_frameText_leastWorld c_frameText_draft_kind c_frameText_draft_worlds c_frameText_draft_arrows c_frameText_draft_p c_frameText_draft_q c_formulaText_read c_formulaText_due c_frame_kind c_frame_worlds c_frame_arrows c_frame_p c_frame_q c_formula_signs c_formula_ends c_observations_number c_observations_possible c_savedFrame_kind c_savedFrame_worlds c_savedFrame_arrows c_savedFrame_p c_savedFrame_q c_savedObservations_number c_savedObservations_possible c_candidate_kind c_candidate_worlds c_candidate_arrows c_candidate_p c_candidate_q c_truth_p c_truth_q c_truth_held m_kind m_worlds m_seen m_pageLength m_stage m_newKind m_newWorlds m_newFrom m_newLast m_newP m_newQ m_wanted m_many m_pNow m_qNow m_seedNow m_keptFrame m_keptKind m_keptWorlds m_keptSeen m_h m_arrows m_marks m_signAt m_behind m_seenWhat m_seenCan m_page m_newArrows m_to m_holds m_apart m_keptArrows m_keptMarks m_keptWhat m_keptCan H locs ls) : W p l e room_1 s m #[Value.ref b] below meth c H locs 34 479 Q (F0 m 26 ls []) := by
  have E1 := E0
  have hI1 := hI
  obtain ⟨hx, hb, hml, hown, hts, hX, hbl, hK, hN, hZ⟩ := E0
  have hbA : ¬ lw_A s b := Nat.not_le.mpr hbl
  have hh : va_S (lw_A s) s.heap H locs ∧ lv_has ls 4 [(0, .ref b), (1, .ref (ad 0)), (2, .ref (ad 18)), (3, .int i)] := k_Inv_hl hI
  obtain ⟨hS, hl⟩ := hh
  refine lv_aload_n hx hb dL_law_26 rfl (lv_at hl 0 rfl) ?_
  refine lv_iload_n hx hb dL_law_27 rfl (lv_at hl 3 rfl) ?_
  refine va_sld hx hb hX hbl hbA hS hi0 dL_law_28 ?_
  refine lv_bipush (v := 31) hx hb dL_law_29 (by decide) ?_
  refine lv_iand hx hb dL_law_31 ?_
  generalize xs i.toNatClampNeg &&& 31 = x
  by_cases c32_0 : x = 0
  · refine lv_tableIn (tgt := 168) hx hb dL_law_32 (by rw [c32_0]; decide) (by rw [c32_0]; decide) (by rw [c32_0]; rfl) (by decide) ?_
    exact lc_letter E1 hn1000 hi1 hi2 hi3 hn hI1
  by_cases c32_1 : x = 1
  · refine lv_tableIn (tgt := 191) hx hb dL_law_32 (by rw [c32_1]; decide) (by rw [c32_1]; decide) (by rw [c32_1]; rfl) (by decide) ?_
    exact lc_blank E1 hn1000 hi1 hi2 hi3 hn hI1
  by_cases c32_2 : x = 2
  · refine lv_tableIn (tgt := 204) hx hb dL_law_32 (by rw [c32_2]; decide) (by rw [c32_2]; decide) (by rw [c32_2]; rfl) (by decide) ?_
    exact lc_fault E1 hn1000 hi1 hi2 hi3 hn hI1
  by_cases c32_3 : x = 3
  · refine lv_tableIn (tgt := 227) hx hb dL_law_32 (by rw [c32_3]; decide) (by rw [c32_3]; decide) (by rw [c32_3]; rfl) (by decide) ?_
    exact lc_frame E1 hn1000 hi1 hi2 hi3 hn hI1
  by_cases c32_4 : x = 4
  · refine lv_tableIn (tgt := 240) hx hb dL_law_32 (by rw [c32_4]; decide) (by rw [c32_4]; decide) (by rw [c32_4]; rfl) (by decide) ?_
    exact lc_formula E1 hn1000 hi1 hi2 hi3 hn hI1
  by_cases c32_5 : x = 5
  · refine lv_tableIn (tgt := 253) hx hb dL_law_32 (by rw [c32_5]; decide) (by rw [c32_5]; decide) (by rw [c32_5]; rfl) (by decide) ?_
    exact lc_about E1 hn1000 hi1 hi2 hi3 hn hI1
  by_cases c32_6 : x = 6
  · refine lv_tableIn (tgt := 276) hx hb dL_law_32 (by rw [c32_6]; decide) (by rw [c32_6]; decide) (by rw [c32_6]; rfl) (by decide) ?_
    exact lc_as E1 hn1000 hi1 hi2 hi3 hn hI1
  by_cases c32_7 : x = 7
  · refine lv_tableIn (tgt := 299) hx hb dL_law_32 (by rw [c32_7]; decide) (by rw [c32_7]; decide) (by rw [c32_7]; rfl) (by decide) ?_
    exact lc_world E1 hn1000 hi1 hi2 hi3 hn hI1
  by_cases c32_8 : x = 8
  · refine lv_tableIn (tgt := 332) hx hb dL_law_32 (by rw [c32_8]; decide) (by rw [c32_8]; decide) (by rw [c32_8]; rfl) (by decide) ?_
    exact lc_arrow E1 hn1000 hi1 hi2 hi3 hn hI1
  by_cases c32_9 : x = 9
  · refine lv_tableIn (tgt := 365) hx hb dL_law_32 (by rw [c32_9]; decide) (by rw [c32_9]; decide) (by rw [c32_9]; rfl) (by decide) ?_
    exact lc_part E1 hn1000 hi1 hi2 hi3 hn hI1
  by_cases c32_10 : x = 10
  · refine lv_tableIn (tgt := 388) hx hb dL_law_32 (by rw [c32_10]; decide) (by rw [c32_10]; decide) (by rw [c32_10]; rfl) (by decide) ?_
    exact lc_sign E1 hn1000 hi1 hi2 hi3 hn hI1
  by_cases c32_11 : x = 11
  · refine lv_tableIn (tgt := 411) hx hb dL_law_32 (by rw [c32_11]; decide) (by rw [c32_11]; decide) (by rw [c32_11]; rfl) (by decide) ?_
    exact lc_draw E1 hn1000 hi1 hi2 hi3 hn hI1
  by_cases c32_12 : x = 12
  · refine lv_tableIn (tgt := 470) hx hb dL_law_32 (by rw [c32_12]; decide) (by rw [c32_12]; decide) (by rw [c32_12]; rfl) (by decide) ?_
    exact lc_mark E1 hn1000 hi1 hi2 hi3 hn hI1
  by_cases c32_13 : x = 13
  · refine lv_tableIn (tgt := 503) hx hb dL_law_32 (by rw [c32_13]; decide) (by rw [c32_13]; decide) (by rw [c32_13]; rfl) (by decide) ?_
    exact lc_add E1 hn1000 hi1 hi2 hi3 hn hI1
  by_cases c32_14 : x = 14
  · refine lv_tableIn (tgt := 516) hx hb dL_law_32 (by rw [c32_14]; decide) (by rw [c32_14]; decide) (by rw [c32_14]; rfl) (by decide) ?_
    exact lc_take E1 hn1000 hi1 hi2 hi3 hn hI1
  by_cases c32_15 : x = 15
  · refine lv_tableIn (tgt := 539) hx hb dL_law_32 (by rw [c32_15]; decide) (by rw [c32_15]; decide) (by rw [c32_15]; rfl) (by decide) ?_
    exact lc_be E1 hn1000 hi1 hi2 hi3 hn hI1
  by_cases c32_16 : x = 16
  · refine lv_tableIn (tgt := 562) hx hb dL_law_32 (by rw [c32_16]; decide) (by rw [c32_16]; decide) (by rw [c32_16]; rfl) (by decide) ?_
    exact lc_close E1 hn1000 hi1 hi2 hi3 hn hI1
  by_cases c32_17 : x = 17
  · refine lv_tableIn (tgt := 575) hx hb dL_law_32 (by rw [c32_17]; decide) (by rw [c32_17]; decide) (by rw [c32_17]; rfl) (by decide) ?_
    exact lc_shrink E1 hn1000 hi1 hi2 hi3 hn hI1
  by_cases c32_18 : x = 18
  · refine lv_tableIn (tgt := 588) hx hb dL_law_32 (by rw [c32_18]; decide) (by rw [c32_18]; decide) (by rw [c32_18]; rfl) (by decide) ?_
    exact lc_valid E1 hn1000 hi1 hi2 hi3 hn hI1
  by_cases c32_19 : x = 19
  · refine lv_tableIn (tgt := 601) hx hb dL_law_32 (by rw [c32_19]; decide) (by rw [c32_19]; decide) (by rw [c32_19]; rfl) (by decide) ?_
    exact lc_fail E1 hn1000 hi1 hi2 hi3 hn hI1
  by_cases c32_20 : x = 20
  · refine lv_tableIn (tgt := 634) hx hb dL_law_32 (by rw [c32_20]; decide) (by rw [c32_20]; decide) (by rw [c32_20]; rfl) (by decide) ?_
    exact lc_tells E1 hn1000 hi1 hi2 hi3 hn hI1
  by_cases c32_21 : x = 21
  · refine lv_tableIn (tgt := 657) hx hb dL_law_32 (by rw [c32_21]; decide) (by rw [c32_21]; decide) (by rw [c32_21]; rfl) (by decide) ?_
    exact lc_keeps E1 hn1000 hi1 hi2 hi3 hn hI1
  by_cases c32_22 : x = 22
  · refine lv_tableIn (tgt := 680) hx hb dL_law_32 (by rw [c32_22]; decide) (by rw [c32_22]; decide) (by rw [c32_22]; rfl) (by decide) ?_
    exact lc_see E1 hn1000 hi1 hi2 hi3 hn hI1
  by_cases c32_23 : x = 23
  · refine lv_tableIn (tgt := 729) hx hb dL_law_32 (by rw [c32_23]; decide) (by rw [c32_23]; decide) (by rw [c32_23]; rfl) (by decide) ?_
    exact lc_forget E1 hn1000 hi1 hi2 hi3 hn hI1
  by_cases c32_24 : x = 24
  · refine lv_tableIn (tgt := 742) hx hb dL_law_32 (by rw [c32_24]; decide) (by rw [c32_24]; decide) (by rw [c32_24]; rfl) (by decide) ?_
    exact lc_sorts E1 hn1000 hi1 hi2 hi3 hn hI1
  by_cases c32_25 : x = 25
  · refine lv_tableIn (tgt := 765) hx hb dL_law_32 (by rw [c32_25]; decide) (by rw [c32_25]; decide) (by rw [c32_25]; rfl) (by decide) ?_
    exact lc_drawn E1 hn1000 hi1 hi2 hi3 hn hI1
  by_cases c32_26 : x = 26
  · refine lv_tableIn (tgt := 808) hx hb dL_law_32 (by rw [c32_26]; decide) (by rw [c32_26]; decide) (by rw [c32_26]; rfl) (by decide) ?_
    exact lc_image E1 hn1000 hi1 hi2 hi3 hn hI1
  by_cases c32_27 : x = 27
  · refine lv_tableIn (tgt := 821) hx hb dL_law_32 (by rw [c32_27]; decide) (by rw [c32_27]; decide) (by rw [c32_27]; rfl) (by decide) ?_
    exact lc_restore E1 hn1000 hi1 hi2 hi3 hn hI1
  by_cases c32_28 : x = 28
  · refine lv_tableIn (tgt := 834) hx hb dL_law_32 (by rw [c32_28]; decide) (by rw [c32_28]; decide) (by rw [c32_28]; rfl) (by decide) ?_
    exact lc_count E1 hn1000 hi1 hi2 hi3 hn hI1
  by_cases c32_29 : x = 29
  · refine lv_tableIn (tgt := 857) hx hb dL_law_32 (by rw [c32_29]; decide) (by rw [c32_29]; decide) (by rw [c32_29]; rfl) (by decide) ?_
    exact lc_digest E1 hn1000 hi1 hi2 hi3 hn hI1
  refine lv_tableOut (tgt := 871) hx hb dL_law_32 (by have := lv_neT c32_0 (show (0 : Int32).toInt = 0 by decide); have := lv_neT c32_1 (show (1 : Int32).toInt = 1 by decide); have := lv_neT c32_2 (show (2 : Int32).toInt = 2 by decide); have := lv_neT c32_3 (show (3 : Int32).toInt = 3 by decide); have := lv_neT c32_4 (show (4 : Int32).toInt = 4 by decide); have := lv_neT c32_5 (show (5 : Int32).toInt = 5 by decide); have := lv_neT c32_6 (show (6 : Int32).toInt = 6 by decide); have := lv_neT c32_7 (show (7 : Int32).toInt = 7 by decide); have := lv_neT c32_8 (show (8 : Int32).toInt = 8 by decide); have := lv_neT c32_9 (show (9 : Int32).toInt = 9 by decide); have := lv_neT c32_10 (show (10 : Int32).toInt = 10 by decide); have := lv_neT c32_11 (show (11 : Int32).toInt = 11 by decide); have := lv_neT c32_12 (show (12 : Int32).toInt = 12 by decide); have := lv_neT c32_13 (show (13 : Int32).toInt = 13 by decide); have := lv_neT c32_14 (show (14 : Int32).toInt = 14 by decide); have := lv_neT c32_15 (show (15 : Int32).toInt = 15 by decide); have := lv_neT c32_16 (show (16 : Int32).toInt = 16 by decide); have := lv_neT c32_17 (show (17 : Int32).toInt = 17 by decide); have := lv_neT c32_18 (show (18 : Int32).toInt = 18 by decide); have := lv_neT c32_19 (show (19 : Int32).toInt = 19 by decide); have := lv_neT c32_20 (show (20 : Int32).toInt = 20 by decide); have := lv_neT c32_21 (show (21 : Int32).toInt = 21 by decide); have := lv_neT c32_22 (show (22 : Int32).toInt = 22 by decide); have := lv_neT c32_23 (show (23 : Int32).toInt = 23 by decide); have := lv_neT c32_24 (show (24 : Int32).toInt = 24 by decide); have := lv_neT c32_25 (show (25 : Int32).toInt = 25 by decide); have := lv_neT c32_26 (show (26 : Int32).toInt = 26 by decide); have := lv_neT c32_27 (show (27 : Int32).toInt = 27 by decide); have := lv_neT c32_28 (show (28 : Int32).toInt = 28 by decide); have := lv_neT c32_29 (show (29 : Int32).toInt = 29 by decide); omega) (by decide) ?_
  exact hn _ _ _ _ _ _ _ _ _ _ _ _ _ _ _ _ _ _ _ _ _ _ _ _ _ _ _ _ _ _ _ _ _ _ _ _ _ _ _ _ _ _ _ _ _ _ _ _ _ _ _ _ _ _ _ _ _ _ _ _ _ _ _ _ _ _ _ _ _ _ _ _ _ _ _ _ _ _ _ _ _ _ _ _ (k_Inv_up hI1)
set_option maxHeartbeats 4000000 in
set_option maxRecDepth 100000 in
theorem law_loop {p : Program} {l : Launch} {e : Env} {s : State} {m : MethodId} {below : List Frame} {meth : Method} {c : Code} {D : va_G} {cB cI cJ cZ : ClassId} {tL tK b L0 : Nat} {xs : Nat → Int32} {ad : Nat → Nat} (hL : L0 ≤ 2048) (hr : meth.sig.returnType = ret) (hlocks : meth.locks = false) (E0 : k_Law D cB cI cJ cZ tL tK p s m c b L0 xs) :
    ∀ (k n : Nat) (i : Int32) (F K L G nc nt : Nat) (gg : Nat → Int32) (ee : Nat → Nat) (c_saved : Int32) (c_page_length : Int32) (c_page_codes : Nat → Int32) (c_frameText_place : Int32) (c_frameText_from : Int32) (c_frameText_leastWorld : Int32) (c_frameText_draft_kind : Int32) (c_frameText_draft_worlds : Int32) (c_frameText_draft_arrows : Int32) (c_frameText_draft_p : Int32) (c_frameText_draft_q : Int32) (c_formulaText_read : Int32) (c_formulaText_due : Int32) (c_frame_kind : Int32) (c_frame_worlds : Int32) (c_frame_arrows : Int32) (c_frame_p : Int32) (c_frame_q : Int32) (c_formula_signs : Nat → Int32) (c_formula_ends : Nat → Int32) (c_observations_number : Int32) (c_observations_possible : Int32) (c_savedFrame_kind : Int32) (c_savedFrame_worlds : Int32) (c_savedFrame_arrows : Int32) (c_savedFrame_p : Int32) (c_savedFrame_q : Int32) (c_savedObservations_number : Int32) (c_savedObservations_possible : Int32) (c_candidate_kind : Int32) (c_candidate_worlds : Int32) (c_candidate_arrows : Int32) (c_candidate_p : Int32) (c_candidate_q : Int32) (c_truth_p : Nat → Int64) (c_truth_q : Nat → Int64) (c_truth_held : Nat → Int64) (m_kind : Int32) (m_worlds : Int32) (m_seen : Int32) (m_pageLength : Int32) (m_stage : Int32) (m_newKind : Int32) (m_newWorlds : Int32) (m_newFrom : Int32) (m_newLast : Int32) (m_newP : Int32) (m_newQ : Int32) (m_wanted : Int32) (m_many : Int32) (m_pNow : Int32) (m_qNow : Int32) (m_seedNow : Int64) (m_keptFrame : Int32) (m_keptKind : Int32) (m_keptWorlds : Int32) (m_keptSeen : Int32) (m_h : Int64) (m_arrows : Nat → Int32) (m_marks : Nat → Int32) (m_signAt : Nat → Int32) (m_behind : Nat → Int32) (m_seenWhat : Nat → Int32) (m_seenCan : Nat → Int32) (m_page : Nat → Int32) (m_newArrows : Nat → Int32) (m_to : Nat → Int32) (m_holds : Nat → Int32) (m_apart : Nat → Int32) (m_keptArrows : Nat → Int32) (m_keptMarks : Nat → Int32) (m_keptWhat : Nat → Int32) (m_keptCan : Nat → Int32) (H : Heap) (locs : List Loc) (ls : Array Slot), L0 + 4 ≤ 4 * n + 4 * k → 4 * n ≤ L0 → i = nI (4 * n) → k_Inv D cB cI cJ cZ s ad b n i F K L G nc nt gg ee c_saved c_page_length c_page_codes c_frameText_place c_frameText_from c_frameText_leastWorld c_frameText_draft_kind c_frameText_draft_worlds c_frameText_draft_arrows c_frameText_draft_p c_frameText_draft_q c_formulaText_read c_formulaText_due c_frame_kind c_frame_worlds c_frame_arrows c_frame_p c_frame_q c_formula_signs c_formula_ends c_observations_number c_observations_possible c_savedFrame_kind c_savedFrame_worlds c_savedFrame_arrows c_savedFrame_p c_savedFrame_q c_savedObservations_number c_savedObservations_possible c_candidate_kind c_candidate_worlds c_candidate_arrows c_candidate_p c_candidate_q c_truth_p c_truth_q c_truth_held m_kind m_worlds m_seen m_pageLength m_stage m_newKind m_newWorlds m_newFrom m_newLast m_newP m_newQ m_wanted m_many m_pNow m_qNow m_seedNow m_keptFrame m_keptKind m_keptWorlds m_keptSeen m_h m_arrows m_marks m_signAt m_behind m_seenWhat m_seenCan m_page m_newArrows m_to m_holds m_apart m_keptArrows m_keptMarks m_keptWhat m_keptCan H locs ls → W p l e room_1 s m #[Value.ref b] below meth c H locs 34 479 (lw_Z below #[Value.ref b] s) (F0 m 18 ls []) := by
  have E1 := E0
  obtain ⟨hx, hb, hml, hown, hts, hX, hbl, hK, hN, hZ⟩ := E0
  have hbA : ¬ lw_A s b := Nat.not_le.mpr hbl
  intro k
  induction k with
  | zero => intro n i F K L G nc nt gg ee c_saved c_page_length c_page_codes c_frameText_place c_frameText_from c_frameText_leastWorld c_frameText_draft_kind c_frameText_draft_worlds c_frameText_draft_arrows c_frameText_draft_p c_frameText_draft_q c_formulaText_read c_formulaText_due c_frame_kind c_frame_worlds c_frame_arrows c_frame_p c_frame_q c_formula_signs c_formula_ends c_observations_number c_observations_possible c_savedFrame_kind c_savedFrame_worlds c_savedFrame_arrows c_savedFrame_p c_savedFrame_q c_savedObservations_number c_savedObservations_possible c_candidate_kind c_candidate_worlds c_candidate_arrows c_candidate_p c_candidate_q c_truth_p c_truth_q c_truth_held m_kind m_worlds m_seen m_pageLength m_stage m_newKind m_newWorlds m_newFrom m_newLast m_newP m_newQ m_wanted m_many m_pNow m_qNow m_seedNow m_keptFrame m_keptKind m_keptWorlds m_keptSeen m_h m_arrows m_marks m_signAt m_behind m_seenWhat m_seenCan m_page m_newArrows m_to m_holds m_apart m_keptArrows m_keptMarks m_keptWhat m_keptCan H locs ls h1 h2; exact absurd h1 (by omega)
  | succ k ih =>
    intro n i F K L G nc nt gg ee c_saved c_page_length c_page_codes c_frameText_place c_frameText_from c_frameText_leastWorld c_frameText_draft_kind c_frameText_draft_worlds c_frameText_draft_arrows c_frameText_draft_p c_frameText_draft_q c_formulaText_read c_formulaText_due c_frame_kind c_frame_worlds c_frame_arrows c_frame_p c_frame_q c_formula_signs c_formula_ends c_observations_number c_observations_possible c_savedFrame_kind c_savedFrame_worlds c_savedFrame_arrows c_savedFrame_p c_savedFrame_q c_savedObservations_number c_savedObservations_possible c_candidate_kind c_candidate_worlds c_candidate_arrows c_candidate_p c_candidate_q c_truth_p c_truth_q c_truth_held m_kind m_worlds m_seen m_pageLength m_stage m_newKind m_newWorlds m_newFrom m_newLast m_newP m_newQ m_wanted m_many m_pNow m_qNow m_seedNow m_keptFrame m_keptKind m_keptWorlds m_keptSeen m_h m_arrows m_marks m_signAt m_behind m_seenWhat m_seenCan m_page m_newArrows m_to m_holds m_apart m_keptArrows m_keptMarks m_keptWhat m_keptCan H locs ls h1 h2 hi hI
    obtain ⟨hS, hl⟩ := k_Inv_hl hI
    refine lv_iload_n hx hb dL_law_18 rfl (lv_at hl 3 rfl) ?_
    refine lv_aload_n hx hb dL_law_19 rfl (lv_at hl 0 rfl) ?_
    refine va_slen hx hb hX hbl hbA hS dL_law_20 ?_
    refine lv_iconst (v := 4) hx hb dL_law_21 (by decide) ?_
    refine lv_isub hx hb dL_law_22 ?_
    refine lv_icmp_gt (tgt := 877) hx hb dL_law_23 (by decide) (fun c_1 => ?_) (fun c_1 => ?_)
    · refine lv_iconst (v := 1) hx hb dL_law_877 (by decide) ?_
      refine va_forget (fun q hq => hS.2.2 q hq) ?_
      exact lw_ret hx hb hr hlocks dL_law_878
    · have h3 : 4 * n + 4 ≤ L0 := by rw [hi] at c_1; exact lw_lt hL (by omega) c_1
      have g0 : vp_in i L0 := by rw [hi]; exact vp_in_nI (by omega) (by omega)
      have g1 : vp_in (i + 1) L0 := by rw [hi]; exact lw_ix (k := 1) hL h3 (by omega)
      have g2 : vp_in (i + 2) L0 := by rw [hi]; exact lw_ix (k := 2) hL h3 (by omega)
      have g3 : vp_in (i + 3) L0 := by rw [hi]; exact lw_ix (k := 3) hL h3 (by omega)
      refine law_body E1 (by omega) g0 g1 g2 g3 ?_ hI
      intro F_1 K_1 L_1 G_1 nc_1 nt_1 gg_1 ee_1 c_saved_1 c_page_length_1 c_page_codes_1 c_frameText_place_1 c_frameText_from_1 c_frameText_leastWorld_1 c_frameText_draft_kind_1 c_frameText_draft_worlds_1 c_frameText_draft_arrows_1 c_frameText_draft_p_1 c_frameText_draft_q_1 c_formulaText_read_1 c_formulaText_due_1 c_frame_kind_1 c_frame_worlds_1 c_frame_arrows_1 c_frame_p_1 c_frame_q_1 c_formula_signs_1 c_formula_ends_1 c_observations_number_1 c_observations_possible_1 c_savedFrame_kind_1 c_savedFrame_worlds_1 c_savedFrame_arrows_1 c_savedFrame_p_1 c_savedFrame_q_1 c_savedObservations_number_1 c_savedObservations_possible_1 c_candidate_kind_1 c_candidate_worlds_1 c_candidate_arrows_1 c_candidate_p_1 c_candidate_q_1 c_truth_p_1 c_truth_q_1 c_truth_held_1 m_kind_1 m_worlds_1 m_seen_1 m_pageLength_1 m_stage_1 m_newKind_1 m_newWorlds_1 m_newFrom_1 m_newLast_1 m_newP_1 m_newQ_1 m_wanted_1 m_many_1 m_pNow_1 m_qNow_1 m_seedNow_1 m_keptFrame_1 m_keptKind_1 m_keptWorlds_1 m_keptSeen_1 m_h_1 m_arrows_1 m_marks_1 m_signAt_1 m_behind_1 m_seenWhat_1 m_seenCan_1 m_page_1 m_newArrows_1 m_to_1 m_holds_1 m_apart_1 m_keptArrows_1 m_keptMarks_1 m_keptWhat_1 m_keptCan_1 H1 locs1 ls1 hI1
      obtain ⟨hS1, hl1⟩ := k_Inv_hl hI1
      refine lv_iinc (v := i + 4) (lv' := [(3, .int (i + 4)), (0, .ref b), (1, .ref (ad 0)), (2, .ref (ad 18))]) hx hb dL_law_871 hl1 (k := 3) rfl rfl (by decide) rfl (fun ls2 hl2 => ?_)
      refine lv_goto (tgt := 18) hx hb dL_law_874 (by decide) ?_
      exact ih (n + 1) (i + 4) _ _ _ _ _ _ _ _ _ _ _ _ _ _ _ _ _ _ _ _ _ _ _ _ _ _ _ _ _ _ _ _ _ _ _ _ _ _ _ _ _ _ _ _ _ _ _ _ _ _ _ _ _ _ _ _ _ _ _ _ _ _ _ _ _ _ _ _ _ _ _ _ _ _ _ _ _ _ _ _ _ H1 locs1 ls2 (by omega) (by omega) (by rw [hi]; exact nI_add (4 * n) 4) (k_Inv_ls hI1 (lv_sub hl2 [1, 2, 3, 0] rfl))
