set_option maxHeartbeats 4000000 in
set_option maxRecDepth 100000 in
theorem k_X9_valid (l : Launch) (D : va_G) (cB cI cJ cZ : ClassId) (tL tK : Nat) (h_this h_arrows h_marks h_signAt h_behind h_seenWhat h_seenCan h_page h_newArrows h_to h_holds h_apart h_keptArrows h_keptMarks h_keptWhat h_keptCan : Nat) (sz : Nat) (v_kind : Int32) (v_worlds : Int32) (v_frames : Int32) (v_signs : Int32) (v_formulas : Int32) (v_failsTold : Int32) (v_tellsTold : Int32) (v_seen : Int32) (v_pageLength : Int32) (v_stage : Int32) (v_newKind : Int32) (v_newWorlds : Int32) (v_newFrom : Int32) (v_newLast : Int32) (v_newP : Int32) (v_newQ : Int32) (v_wanted : Int32) (v_many : Int32) (v_pNow : Int32) (v_qNow : Int32) (v_seedNow : Int64) (v_keptFrame : Int32) (v_keptKind : Int32) (v_keptWorlds : Int32) (v_keptSeen : Int32) (v_h : Int64) (v_arrows : (Nat → Int32)) (v_marks : (Nat → Int32)) (v_signAt : (Nat → Int32)) (v_behind : (Nat → Int32)) (v_to : (Nat → Int32)) (v_holds : (Nat → Int32))  (q : Int32 × Int32 × Int32 × Int32 × (Nat → Int32) × (Nat → Int32)) (hf : f_X9_valid v_worlds v_signs v_many v_pNow v_qNow v_arrows v_marks v_signAt v_behind v_to v_holds = some q) : Met l yX9_valid (.code yX9_valid cX9_valid 1 (some .int) :: k_all) { frames := 5, cells := 0, slots := 0, locals := 109 } (k_P D cB cI cJ cZ tL tK [.ref h_this] [(h_this, o_X9 v_kind v_worlds h_arrows h_marks v_frames v_signs h_signAt h_behind v_formulas v_failsTold v_tellsTold v_seen h_seenWhat h_seenCan v_pageLength h_page v_stage v_newKind v_newWorlds v_newFrom v_newLast v_newP v_newQ h_newArrows v_wanted v_many h_to v_pNow v_qNow h_holds h_apart v_seedNow v_keptFrame v_keptKind v_keptWorlds v_keptSeen h_keptArrows h_keptMarks h_keptWhat h_keptCan v_h), (h_arrows, o_I cZ 16 v_arrows), (h_marks, o_I cI 4 v_marks), (h_signAt, o_I cB 16 v_signAt), (h_behind, o_I cI 17 v_behind), (h_to, o_I cI 4 v_to), (h_holds, o_I cI 16 v_holds)] sz) (k_I D q.1 [(h_this, o_X9 v_kind v_worlds h_arrows h_marks v_frames v_signs h_signAt h_behind v_formulas v_failsTold v_tellsTold v_seen h_seenWhat h_seenCan v_pageLength h_page v_stage v_newKind v_newWorlds v_newFrom v_newLast v_newP v_newQ h_newArrows v_wanted v_many h_to v_pNow v_qNow h_holds h_apart v_seedNow v_keptFrame v_keptKind v_keptWorlds v_keptSeen h_keptArrows h_keptMarks h_keptWhat h_keptCan v_h), (h_arrows, o_I cZ 16 v_arrows), (h_marks, o_I cI 4 v_marks), (h_signAt, o_I cB 16 v_signAt), (h_behind, o_I cI 17 v_behind), (h_to, o_I cI 4 v_to), (h_holds, o_I cI 16 v_holds)] [(h_this, o_X9 v_kind v_worlds h_arrows h_marks v_frames v_signs h_signAt h_behind v_formulas v_failsTold v_tellsTold v_seen h_seenWhat h_seenCan v_pageLength h_page v_stage v_newKind v_newWorlds v_newFrom v_newLast v_newP v_newQ h_newArrows v_wanted q.2.1 h_to q.2.2.1 q.2.2.2.1 h_holds h_apart v_seedNow v_keptFrame v_keptKind v_keptWorlds v_keptSeen h_keptArrows h_keptMarks h_keptWhat h_keptCan v_h), (h_arrows, o_I cZ 16 v_arrows), (h_marks, o_I cI 4 v_marks), (h_signAt, o_I cB 16 v_signAt), (h_behind, o_I cI 17 v_behind), (h_to, o_I cI 4 q.2.2.2.2.1), (h_holds, o_I cI 16 q.2.2.2.2.2)] sz) 0 0 (va_A [(h_this, o_X9 v_kind v_worlds h_arrows h_marks v_frames v_signs h_signAt h_behind v_formulas v_failsTold v_tellsTold v_seen h_seenWhat h_seenCan v_pageLength h_page v_stage v_newKind v_newWorlds v_newFrom v_newLast v_newP v_newQ h_newArrows v_wanted v_many h_to v_pNow v_qNow h_holds h_apart v_seedNow v_keptFrame v_keptKind v_keptWorlds v_keptSeen h_keptArrows h_keptMarks h_keptWhat h_keptCan v_h), (h_arrows, o_I cZ 16 v_arrows), (h_marks, o_I cI 4 v_marks), (h_signAt, o_I cB 16 v_signAt), (h_behind, o_I cI 17 v_behind), (h_to, o_I cI 4 v_to), (h_holds, o_I cI 16 v_holds)] sz) := by
  unfold f_X9_valid at hf
  refine k_met RX9 rfl (by decide +kernel) (Nat.le_of_ble_eq_true rfl) ?_
  intro p e s m below meth c A ls hx hb hr hml hown hts hlocks hin hsz hAe hA hK hN hZ hD hS hP hl
  have hl : lv_has ls 1 [(0, .ref h_this)] := hl
  refine lv_aload_n hx hb dX9_valid_0 rfl (lv_at hl 0 rfl) ?_
  refine k_calli (wN := [(h_this, o_X9 v_kind v_worlds h_arrows h_marks v_frames v_signs h_signAt h_behind v_formulas v_failsTold v_tellsTold v_seen h_seenWhat h_seenCan v_pageLength h_page v_stage v_newKind v_newWorlds v_newFrom v_newLast v_newP v_newQ h_newArrows v_wanted v_many h_to v_pNow v_qNow h_holds h_apart v_seedNow v_keptFrame v_keptKind v_keptWorlds v_keptSeen h_keptArrows h_keptMarks h_keptWhat h_keptCan v_h), (h_arrows, o_I cZ 16 v_arrows), (h_marks, o_I cI 4 v_marks), (h_signAt, o_I cB 16 v_signAt), (h_behind, o_I cI 17 v_behind), (h_to, o_I cI 4 v_to), (h_holds, o_I cI 16 v_holds)]) [0] [1, 2, 3, 4, 5, 6] [6, 0, 1, 2, 3, 4, 5] hP hD hS hA (va_runV (As := []) (rest := []) ⟨hx, hb, hml, hown, hts⟩ (k_X9_isFrame l D cB cI cJ cZ tL tK h_this h_arrows h_marks h_signAt h_behind h_seenWhat h_seenCan h_page h_newArrows h_to h_holds h_apart h_keptArrows h_keptMarks h_keptWhat h_keptCan _ v_kind v_worlds v_frames v_signs v_formulas v_failsTold v_tellsTold v_seen v_pageLength v_stage v_newKind v_newWorlds v_newFrom v_newLast v_newP v_newQ v_wanted v_many v_pNow v_qNow v_seedNow v_keptFrame v_keptKind v_keptWorlds v_keptSeen v_h (f_X9_isFrame v_worlds) rfl) (cwV 0 hts (k_gV m_444 m_441 m_442 m_443 m_5) rfl rfl rfl (by decide +kernel) ⟨Nat.le_of_ble_eq_true rfl, Nat.le_of_ble_eq_true rfl⟩) (k_preV [0] hK hN hZ hP hD hS hA rfl rfl (va_recv hK hP (ci := 8) (q0 := 0) rfl rfl)) rfl rfl hl.1 rfl (lv_room (Nat.le_of_ble_eq_true rfl)) dX9_valid_1 ⟨Nat.le_refl _, Nat.le_refl _⟩) rfl rfl rfl rfl rfl (fun H locs hP hD hS => ?_)
  refine lv_if_eq (tgt := 21) hx hb dX9_valid_4 (by decide) (fun c4 => ?_) (fun c4 => ?_)
  · replace hf := k_ifT c4 hf
    refine lv_bipush (v := (-103)) hx hb dX9_valid_21 (by decide) ?_
    cases hf
    exact k_iret hx hb hr hlocks hAe hS hP hD dX9_valid_23
  · replace hf := k_ifF c4 hf
    refine lv_aload_n hx hb dX9_valid_7 rfl (lv_at hl 0 rfl) ?_
    refine k_calli (wN := [(h_this, o_X9 v_kind v_worlds h_arrows h_marks v_frames v_signs h_signAt h_behind v_formulas v_failsTold v_tellsTold v_seen h_seenWhat h_seenCan v_pageLength h_page v_stage v_newKind v_newWorlds v_newFrom v_newLast v_newP v_newQ h_newArrows v_wanted v_many h_to v_pNow v_qNow h_holds h_apart v_seedNow v_keptFrame v_keptKind v_keptWorlds v_keptSeen h_keptArrows h_keptMarks h_keptWhat h_keptCan v_h), (h_arrows, o_I cZ 16 v_arrows), (h_marks, o_I cI 4 v_marks), (h_signAt, o_I cB 16 v_signAt), (h_behind, o_I cI 17 v_behind), (h_to, o_I cI 4 v_to), (h_holds, o_I cI 16 v_holds)]) [0] [1, 2, 3, 4, 5, 6] [6, 0, 1, 2, 3, 4, 5] hP hD hS hA (va_runV (As := []) (rest := []) ⟨hx, hb, hml, hown, hts⟩ (k_X9_isFormula l D cB cI cJ cZ tL tK h_this h_arrows h_marks h_signAt h_behind h_seenWhat h_seenCan h_page h_newArrows h_to h_holds h_apart h_keptArrows h_keptMarks h_keptWhat h_keptCan _ v_kind v_worlds v_frames v_signs v_formulas v_failsTold v_tellsTold v_seen v_pageLength v_stage v_newKind v_newWorlds v_newFrom v_newLast v_newP v_newQ v_wanted v_many v_pNow v_qNow v_seedNow v_keptFrame v_keptKind v_keptWorlds v_keptSeen v_h (f_X9_isFormula v_signs) rfl) (cwV 0 hts (k_gV m_611 m_608 m_609 m_610 m_5) rfl rfl rfl (by decide +kernel) ⟨Nat.le_of_ble_eq_true rfl, Nat.le_of_ble_eq_true rfl⟩) (k_preV [0] hK hN hZ hP hD hS hA rfl rfl (va_recv hK hP (ci := 8) (q0 := 0) rfl rfl)) rfl rfl hl.1 rfl (lv_room (Nat.le_of_ble_eq_true rfl)) dX9_valid_8 ⟨Nat.le_refl _, Nat.le_refl _⟩) rfl rfl rfl rfl rfl (fun H locs hP hD hS => ?_)
    refine lv_if_eq (tgt := 21) hx hb dX9_valid_11 (by decide) (fun c11 => ?_) (fun c11 => ?_)
    · replace hf := k_ifT c11 hf
      refine lv_bipush (v := (-103)) hx hb dX9_valid_21 (by decide) ?_
      cases hf
      exact k_iret hx hb hr hlocks hAe hS hP hD dX9_valid_23
    · replace hf := k_ifF c11 hf
      refine lv_aload_n hx hb dX9_valid_14 rfl (lv_at hl 0 rfl) ?_
      obtain ⟨q15, hq15, hf⟩ := k_bind hf
      refine k_calli (wN := [(h_this, o_X9 v_kind v_worlds h_arrows h_marks v_frames v_signs h_signAt h_behind v_formulas v_failsTold v_tellsTold v_seen h_seenWhat h_seenCan v_pageLength h_page v_stage v_newKind v_newWorlds v_newFrom v_newLast v_newP v_newQ h_newArrows v_wanted q15.2.1 h_to q15.2.2.1 q15.2.2.2.1 h_holds h_apart v_seedNow v_keptFrame v_keptKind v_keptWorlds v_keptSeen h_keptArrows h_keptMarks h_keptWhat h_keptCan v_h), (h_arrows, o_I cZ 16 v_arrows), (h_marks, o_I cI 4 v_marks), (h_signAt, o_I cB 16 v_signAt), (h_behind, o_I cI 17 v_behind), (h_to, o_I cI 4 q15.2.2.2.2.1), (h_holds, o_I cI 16 q15.2.2.2.2.2)]) [0, 1, 2, 3, 4, 5, 6] [] [0, 1, 2, 3, 4, 5, 6] hP hD hS hA (va_runV (As := []) (rest := []) ⟨hx, hb, hml, hown, hts⟩ (k_X9_validNow l D cB cI cJ cZ tL tK h_this h_arrows h_marks h_signAt h_behind h_seenWhat h_seenCan h_page h_newArrows h_to h_holds h_apart h_keptArrows h_keptMarks h_keptWhat h_keptCan _ v_kind v_worlds v_frames v_signs v_formulas v_failsTold v_tellsTold v_seen v_pageLength v_stage v_newKind v_newWorlds v_newFrom v_newLast v_newP v_newQ v_wanted v_many v_pNow v_qNow v_seedNow v_keptFrame v_keptKind v_keptWorlds v_keptSeen v_h v_arrows v_marks v_signAt v_behind v_to v_holds q15 hq15) (cwV 0 hts (k_gV m_804 m_801 m_802 m_803 m_5) rfl rfl rfl (by decide +kernel) ⟨Nat.le_of_ble_eq_true rfl, Nat.le_of_ble_eq_true rfl⟩) (k_preV [0, 1, 2, 3, 4, 5, 6] hK hN hZ hP hD hS hA rfl rfl (va_recv hK hP (ci := 8) (q0 := 0) rfl rfl)) rfl rfl hl.1 rfl (lv_room (Nat.le_of_ble_eq_true rfl)) dX9_valid_15 ⟨Nat.le_refl _, Nat.le_refl _⟩) rfl rfl rfl rfl rfl (fun H locs hP hD hS => ?_)
      refine lv_goto (tgt := 23) hx hb dX9_valid_18 (by decide) ?_
      cases hf
      exact k_iret hx hb hr hlocks hAe hS hP hD dX9_valid_23
set_option maxHeartbeats 4000000 in
set_option maxRecDepth 100000 in
theorem k_X9_layNumber (l : Launch) (D : va_G) (cB cI cJ cZ : ClassId) (tL tK : Nat) (h_this h_arrows h_marks h_signAt h_behind h_seenWhat h_seenCan h_page h_newArrows h_to h_holds h_apart h_keptArrows h_keptMarks h_keptWhat h_keptCan : Nat) (sz : Nat) (v_kind : Int32) (v_worlds : Int32) (v_frames : Int32) (v_signs : Int32) (v_formulas : Int32) (v_failsTold : Int32) (v_tellsTold : Int32) (v_seen : Int32) (v_pageLength : Int32) (v_stage : Int32) (v_newKind : Int32) (v_newWorlds : Int32) (v_newFrom : Int32) (v_newLast : Int32) (v_newP : Int32) (v_newQ : Int32) (v_wanted : Int32) (v_many : Int32) (v_pNow : Int32) (v_qNow : Int32) (v_seedNow : Int64) (v_keptFrame : Int32) (v_keptKind : Int32) (v_keptWorlds : Int32) (v_keptSeen : Int32) (v_h : Int64) (v_to : (Nat → Int32)) (x1 : Int32) (x2 : Int32) (q : Int32 × (Nat → Int32)) (hf : f_X9_layNumber v_many v_to x1 x2 = some q) : Met l yX9_layNumber (.code yX9_layNumber cX9_layNumber 4 none :: k_all) { frames := 0, cells := 0, slots := 0, locals := 0 } (k_P D cB cI cJ cZ tL tK [.ref h_this, .int x1, .int x2] [(h_this, o_X9 v_kind v_worlds h_arrows h_marks v_frames v_signs h_signAt h_behind v_formulas v_failsTold v_tellsTold v_seen h_seenWhat h_seenCan v_pageLength h_page v_stage v_newKind v_newWorlds v_newFrom v_newLast v_newP v_newQ h_newArrows v_wanted v_many h_to v_pNow v_qNow h_holds h_apart v_seedNow v_keptFrame v_keptKind v_keptWorlds v_keptSeen h_keptArrows h_keptMarks h_keptWhat h_keptCan v_h), (h_to, o_I cI 4 v_to)] sz) (k_V D [(h_this, o_X9 v_kind v_worlds h_arrows h_marks v_frames v_signs h_signAt h_behind v_formulas v_failsTold v_tellsTold v_seen h_seenWhat h_seenCan v_pageLength h_page v_stage v_newKind v_newWorlds v_newFrom v_newLast v_newP v_newQ h_newArrows v_wanted v_many h_to v_pNow v_qNow h_holds h_apart v_seedNow v_keptFrame v_keptKind v_keptWorlds v_keptSeen h_keptArrows h_keptMarks h_keptWhat h_keptCan v_h), (h_to, o_I cI 4 v_to)] [(h_this, o_X9 v_kind v_worlds h_arrows h_marks v_frames v_signs h_signAt h_behind v_formulas v_failsTold v_tellsTold v_seen h_seenWhat h_seenCan v_pageLength h_page v_stage v_newKind v_newWorlds v_newFrom v_newLast v_newP v_newQ h_newArrows v_wanted q.1 h_to v_pNow v_qNow h_holds h_apart v_seedNow v_keptFrame v_keptKind v_keptWorlds v_keptSeen h_keptArrows h_keptMarks h_keptWhat h_keptCan v_h), (h_to, o_I cI 4 q.2)] sz) 0 0 (va_A [(h_this, o_X9 v_kind v_worlds h_arrows h_marks v_frames v_signs h_signAt h_behind v_formulas v_failsTold v_tellsTold v_seen h_seenWhat h_seenCan v_pageLength h_page v_stage v_newKind v_newWorlds v_newFrom v_newLast v_newP v_newQ h_newArrows v_wanted v_many h_to v_pNow v_qNow h_holds h_apart v_seedNow v_keptFrame v_keptKind v_keptWorlds v_keptSeen h_keptArrows h_keptMarks h_keptWhat h_keptCan v_h), (h_to, o_I cI 4 v_to)] sz) := by
  unfold f_X9_layNumber at hf
  refine k_met RX9 rfl (by decide +kernel) (Nat.le_of_ble_eq_true rfl) ?_
  intro p e s m below meth c A ls hx hb hr hml hown hts hlocks hin hsz hAe hA hK hN hZ hD hS hP hl
  have hl : lv_has ls 4 [(0, .ref h_this), (1, .int x1), (2, .int x2)] := hl
  refine lv_aload_n hx hb dX9_layNumber_0 rfl (lv_at hl 0 rfl) ?_
  refine lv_iload_n hx hb dX9_layNumber_1 rfl (lv_at hl 1 rfl) ?_
  refine va_put (D := D) (ci := 8) (v := .int x1) (ty := .int) (C := RX9) (T := TX9) (N := 41) hx hb hts inlX9 tyX9 tyX9_ok nmX9 hown hK hP hD hS 0 rfl rfl 25 (by decide) (hts _ m_461) (fun _ h9 => h9) rfl (by decide +kernel) rfl rfl (Nat.le_of_ble_eq_true rfl) dX9_layNumber_2 (fun H locs hP hD hS => ?_)
  have hP : va_P D vwCl [(h_this, o_X9 v_kind v_worlds h_arrows h_marks v_frames v_signs h_signAt h_behind v_formulas v_failsTold v_tellsTold v_seen h_seenWhat h_seenCan v_pageLength h_page v_stage v_newKind v_newWorlds v_newFrom v_newLast v_newP v_newQ h_newArrows v_wanted x1 h_to v_pNow v_qNow h_holds h_apart v_seedNow v_keptFrame v_keptKind v_keptWorlds v_keptSeen h_keptArrows h_keptMarks h_keptWhat h_keptCan v_h), (h_to, o_I cI 4 v_to)] H := hP
  have hD : va_D A [(h_this, o_X9 v_kind v_worlds h_arrows h_marks v_frames v_signs h_signAt h_behind v_formulas v_failsTold v_tellsTold v_seen h_seenWhat h_seenCan v_pageLength h_page v_stage v_newKind v_newWorlds v_newFrom v_newLast v_newP v_newQ h_newArrows v_wanted x1 h_to v_pNow v_qNow h_holds h_apart v_seedNow v_keptFrame v_keptKind v_keptWorlds v_keptSeen h_keptArrows h_keptMarks h_keptWhat h_keptCan v_h), (h_to, o_I cI 4 v_to)] := hD
  refine lv_iconst (v := 0) hx hb dX9_layNumber_5 (by decide) ?_
  refine lv_istore_n (lv' := [(3, .int 0), (0, .ref h_this), (1, .int x1), (2, .int x2)]) hx hb dX9_layNumber_6 rfl hl (by decide) rfl (fun ls hl => ?_)
  refine k_wl 35 (wsf := fun (a7 : Int32 × (Nat → Int32)) => [(h_this, o_X9 v_kind v_worlds h_arrows h_marks v_frames v_signs h_signAt h_behind v_formulas v_failsTold v_tellsTold v_seen h_seenWhat h_seenCan v_pageLength h_page v_stage v_newKind v_newWorlds v_newFrom v_newLast v_newP v_newQ h_newArrows v_wanted x1 h_to v_pNow v_qNow h_holds h_apart v_seedNow v_keptFrame v_keptKind v_keptWorlds v_keptSeen h_keptArrows h_keptMarks h_keptWhat h_keptCan v_h), (h_to, o_I cI 4 a7.2)]) (lvf := fun (a7 : Int32 × (Nat → Int32)) => [(0, .ref h_this), (1, .int x1), (2, .int x2), (3, .int a7.1)]) hf hP hD hS (lv_sub hl [1, 2, 3, 0] rfl) ?_ ?_
  · intro a7 H locs ls hf hP hD hS hl
    have hP : va_P D vwCl [(h_this, o_X9 v_kind v_worlds h_arrows h_marks v_frames v_signs h_signAt h_behind v_formulas v_failsTold v_tellsTold v_seen h_seenWhat h_seenCan v_pageLength h_page v_stage v_newKind v_newWorlds v_newFrom v_newLast v_newP v_newQ h_newArrows v_wanted x1 h_to v_pNow v_qNow h_holds h_apart v_seedNow v_keptFrame v_keptKind v_keptWorlds v_keptSeen h_keptArrows h_keptMarks h_keptWhat h_keptCan v_h), (h_to, o_I cI 4 a7.2)] H := hP
    have hD : va_D A [(h_this, o_X9 v_kind v_worlds h_arrows h_marks v_frames v_signs h_signAt h_behind v_formulas v_failsTold v_tellsTold v_seen h_seenWhat h_seenCan v_pageLength h_page v_stage v_newKind v_newWorlds v_newFrom v_newLast v_newP v_newQ h_newArrows v_wanted x1 h_to v_pNow v_qNow h_holds h_apart v_seedNow v_keptFrame v_keptKind v_keptWorlds v_keptSeen h_keptArrows h_keptMarks h_keptWhat h_keptCan v_h), (h_to, o_I cI 4 a7.2)] := hD
    have hl : lv_has ls 4 [(0, .ref h_this), (1, .int x1), (2, .int x2), (3, .int a7.1)] := hl
    cases hf
    exact k_vret hx hb hr hlocks hAe hS hP hD dX9_layNumber_35
  · intro ex7 rc7 hE7 hR7 a7 H locs ls hf hP hD hS hl
    have hP : va_P D vwCl [(h_this, o_X9 v_kind v_worlds h_arrows h_marks v_frames v_signs h_signAt h_behind v_formulas v_failsTold v_tellsTold v_seen h_seenWhat h_seenCan v_pageLength h_page v_stage v_newKind v_newWorlds v_newFrom v_newLast v_newP v_newQ h_newArrows v_wanted x1 h_to v_pNow v_qNow h_holds h_apart v_seedNow v_keptFrame v_keptKind v_keptWorlds v_keptSeen h_keptArrows h_keptMarks h_keptWhat h_keptCan v_h), (h_to, o_I cI 4 a7.2)] H := hP
    have hD : va_D A [(h_this, o_X9 v_kind v_worlds h_arrows h_marks v_frames v_signs h_signAt h_behind v_formulas v_failsTold v_tellsTold v_seen h_seenWhat h_seenCan v_pageLength h_page v_stage v_newKind v_newWorlds v_newFrom v_newLast v_newP v_newQ h_newArrows v_wanted x1 h_to v_pNow v_qNow h_holds h_apart v_seedNow v_keptFrame v_keptKind v_keptWorlds v_keptSeen h_keptArrows h_keptMarks h_keptWhat h_keptCan v_h), (h_to, o_I cI 4 a7.2)] := hD
    have hl : lv_has ls 4 [(0, .ref h_this), (1, .int x1), (2, .int x2), (3, .int a7.1)] := hl
    refine lv_iload_n hx hb dX9_layNumber_7 rfl (lv_at hl 3 rfl) ?_
    refine lv_iload_n hx hb dX9_layNumber_8 rfl (lv_at hl 1 rfl) ?_
    refine lv_icmp_ge (tgt := 35) hx hb dX9_layNumber_9 (by decide) (fun c9 => ?_) (fun c9 => ?_)
    · replace hf := k_ifT c9 hf
      exact hE7 _ _ _ _ hf hP hD hS (lv_sub hl [0, 1, 2, 3] rfl)
    · replace hf := k_ifF c9 hf
      refine lv_aload_n hx hb dX9_layNumber_12 rfl (lv_at hl 0 rfl) ?_
      refine va_get (D := D) (ci := 8) (v := .ref h_to) (C := RX9) (T := TX9) (N := 41) hx hb hts inlX9 hown hK hP 0 rfl rfl 26 (by decide) (hts _ m_91) (fun _ h9 => h9) rfl dX9_layNumber_13 ?_
      refine lv_iload_n hx hb dX9_layNumber_16 rfl (lv_at hl 3 rfl) ?_
      refine lv_iload_n hx hb dX9_layNumber_17 rfl (lv_at hl 2 rfl) ?_
      refine lv_iload_n hx hb dX9_layNumber_18 rfl (lv_at hl 1 rfl) ?_
      refine lv_iload_n hx hb dX9_layNumber_19 rfl (lv_at hl 3 rfl) ?_
      refine lv_imul hx hb dX9_layNumber_20 ?_
      refine lv_ishr hx hb dX9_layNumber_21 ?_
      refine lv_iconst (v := 1) hx hb dX9_layNumber_22 (by decide) ?_
      refine lv_iload_n hx hb dX9_layNumber_23 rfl (lv_at hl 1 rfl) ?_
      refine lv_ishl hx hb dX9_layNumber_24 ?_
      refine lv_iconst (v := 1) hx hb dX9_layNumber_25 (by decide) ?_
      refine lv_isub hx hb dX9_layNumber_26 ?_
      refine lv_iand hx hb dX9_layNumber_27 ?_
      obtain ⟨hi28, hf⟩ := k_chk_some hf
      refine va_iast (D := D) hx hb hK hP hD hS 1 1 rfl rfl hi28 dX9_layNumber_28 (fun H locs hP hD hS => ?_)
      have hP : va_P D vwCl [(h_this, o_X9 v_kind v_worlds h_arrows h_marks v_frames v_signs h_signAt h_behind v_formulas v_failsTold v_tellsTold v_seen h_seenWhat h_seenCan v_pageLength h_page v_stage v_newKind v_newWorlds v_newFrom v_newLast v_newP v_newQ h_newArrows v_wanted x1 h_to v_pNow v_qNow h_holds h_apart v_seedNow v_keptFrame v_keptKind v_keptWorlds v_keptSeen h_keptArrows h_keptMarks h_keptWhat h_keptCan v_h), (h_to, o_I cI 4 (upd a7.2 (Int32.toNatClampNeg a7.1) ((x2 >>> ((x1 * a7.1) &&& 31)) &&& (((1 : Int32) <<< (x1 &&& 31)) - 1))))] H := hP
      have hD : va_D A [(h_this, o_X9 v_kind v_worlds h_arrows h_marks v_frames v_signs h_signAt h_behind v_formulas v_failsTold v_tellsTold v_seen h_seenWhat h_seenCan v_pageLength h_page v_stage v_newKind v_newWorlds v_newFrom v_newLast v_newP v_newQ h_newArrows v_wanted x1 h_to v_pNow v_qNow h_holds h_apart v_seedNow v_keptFrame v_keptKind v_keptWorlds v_keptSeen h_keptArrows h_keptMarks h_keptWhat h_keptCan v_h), (h_to, o_I cI 4 (upd a7.2 (Int32.toNatClampNeg a7.1) ((x2 >>> ((x1 * a7.1) &&& 31)) &&& (((1 : Int32) <<< (x1 &&& 31)) - 1))))] := hD
      refine lv_iinc (v := (a7.1 + 1)) (lv' := [(3, .int (a7.1 + 1)), (0, .ref h_this), (1, .int x1), (2, .int x2)]) hx hb dX9_layNumber_29 hl (k := 3) rfl rfl (by decide) rfl (fun ls hl => ?_)
      refine lv_goto (tgt := 7) hx hb dX9_layNumber_32 (by decide) ?_
      exact hR7 _ _ _ _ hf hP hD hS (lv_sub hl [1, 2, 3, 0] rfl)
set_option maxHeartbeats 4000000 in
set_option maxRecDepth 100000 in
theorem k_X9_failNow (l : Launch) (D : va_G) (cB cI cJ cZ : ClassId) (tL tK : Nat) (h_this h_arrows h_marks h_signAt h_behind h_seenWhat h_seenCan h_page h_newArrows h_to h_holds h_apart h_keptArrows h_keptMarks h_keptWhat h_keptCan : Nat) (sz : Nat) (v_kind : Int32) (v_worlds : Int32) (v_frames : Int32) (v_signs : Int32) (v_formulas : Int32) (v_failsTold : Int32) (v_tellsTold : Int32) (v_seen : Int32) (v_pageLength : Int32) (v_stage : Int32) (v_newKind : Int32) (v_newWorlds : Int32) (v_newFrom : Int32) (v_newLast : Int32) (v_newP : Int32) (v_newQ : Int32) (v_wanted : Int32) (v_many : Int32) (v_pNow : Int32) (v_qNow : Int32) (v_seedNow : Int64) (v_keptFrame : Int32) (v_keptKind : Int32) (v_keptWorlds : Int32) (v_keptSeen : Int32) (v_h : Int64) (v_signAt : (Nat → Int32)) (v_behind : (Nat → Int32)) (v_to : (Nat → Int32)) (v_holds : (Nat → Int32)) (x1 : Int32) (x2 : Int32) (q : Int32 × Int32 × Int32 × Int32 × (Nat → Int32) × (Nat → Int32)) (hf : f_X9_failNow v_kind v_signs v_many v_pNow v_qNow v_signAt v_behind v_to v_holds x1 x2 = some q) : Met l yX9_failNow (.code yX9_failNow cX9_failNow 6 (some .int) :: k_all) { frames := 5, cells := 0, slots := 0, locals := 111 } (k_P D cB cI cJ cZ tL tK [.ref h_this, .int x1, .int x2] [(h_this, o_X9 v_kind v_worlds h_arrows h_marks v_frames v_signs h_signAt h_behind v_formulas v_failsTold v_tellsTold v_seen h_seenWhat h_seenCan v_pageLength h_page v_stage v_newKind v_newWorlds v_newFrom v_newLast v_newP v_newQ h_newArrows v_wanted v_many h_to v_pNow v_qNow h_holds h_apart v_seedNow v_keptFrame v_keptKind v_keptWorlds v_keptSeen h_keptArrows h_keptMarks h_keptWhat h_keptCan v_h), (h_signAt, o_I cB 16 v_signAt), (h_behind, o_I cI 17 v_behind), (h_to, o_I cI 4 v_to), (h_holds, o_I cI 16 v_holds)] sz) (k_I D q.1 [(h_this, o_X9 v_kind v_worlds h_arrows h_marks v_frames v_signs h_signAt h_behind v_formulas v_failsTold v_tellsTold v_seen h_seenWhat h_seenCan v_pageLength h_page v_stage v_newKind v_newWorlds v_newFrom v_newLast v_newP v_newQ h_newArrows v_wanted v_many h_to v_pNow v_qNow h_holds h_apart v_seedNow v_keptFrame v_keptKind v_keptWorlds v_keptSeen h_keptArrows h_keptMarks h_keptWhat h_keptCan v_h), (h_signAt, o_I cB 16 v_signAt), (h_behind, o_I cI 17 v_behind), (h_to, o_I cI 4 v_to), (h_holds, o_I cI 16 v_holds)] [(h_this, o_X9 v_kind v_worlds h_arrows h_marks v_frames v_signs h_signAt h_behind v_formulas v_failsTold v_tellsTold v_seen h_seenWhat h_seenCan v_pageLength h_page v_stage v_newKind v_newWorlds v_newFrom v_newLast v_newP v_newQ h_newArrows v_wanted q.2.1 h_to q.2.2.1 q.2.2.2.1 h_holds h_apart v_seedNow v_keptFrame v_keptKind v_keptWorlds v_keptSeen h_keptArrows h_keptMarks h_keptWhat h_keptCan v_h), (h_signAt, o_I cB 16 v_signAt), (h_behind, o_I cI 17 v_behind), (h_to, o_I cI 4 q.2.2.2.2.1), (h_holds, o_I cI 16 q.2.2.2.2.2)] sz) 0 0 (va_A [(h_this, o_X9 v_kind v_worlds h_arrows h_marks v_frames v_signs h_signAt h_behind v_formulas v_failsTold v_tellsTold v_seen h_seenWhat h_seenCan v_pageLength h_page v_stage v_newKind v_newWorlds v_newFrom v_newLast v_newP v_newQ h_newArrows v_wanted v_many h_to v_pNow v_qNow h_holds h_apart v_seedNow v_keptFrame v_keptKind v_keptWorlds v_keptSeen h_keptArrows h_keptMarks h_keptWhat h_keptCan v_h), (h_signAt, o_I cB 16 v_signAt), (h_behind, o_I cI 17 v_behind), (h_to, o_I cI 4 v_to), (h_holds, o_I cI 16 v_holds)] sz) := by
  unfold f_X9_failNow at hf
  refine k_met RX9 rfl (by decide +kernel) (Nat.le_of_ble_eq_true rfl) ?_
  intro p e s m below meth c A ls hx hb hr hml hown hts hlocks hin hsz hAe hA hK hN hZ hD hS hP hl
  have hl : lv_has ls 6 [(0, .ref h_this), (1, .int x1), (2, .int x2)] := hl
  refine lv_iconst (v := 0) hx hb dX9_failNow_0 (by decide) ?_
  refine lv_istore_n (lv' := [(3, .int 0), (0, .ref h_this), (1, .int x1), (2, .int x2)]) hx hb dX9_failNow_1 rfl hl (by decide) rfl (fun ls hl => ?_)
  refine k_wl 102 (wsf := fun (a2 : Int32 × Int32 × Int32 × Int32 × (Nat → Int32) × (Nat → Int32)) => [(h_this, o_X9 v_kind v_worlds h_arrows h_marks v_frames v_signs h_signAt h_behind v_formulas v_failsTold v_tellsTold v_seen h_seenWhat h_seenCan v_pageLength h_page v_stage v_newKind v_newWorlds v_newFrom v_newLast v_newP v_newQ h_newArrows v_wanted a2.2.1 h_to a2.2.2.1 a2.2.2.2.1 h_holds h_apart v_seedNow v_keptFrame v_keptKind v_keptWorlds v_keptSeen h_keptArrows h_keptMarks h_keptWhat h_keptCan v_h), (h_signAt, o_I cB 16 v_signAt), (h_behind, o_I cI 17 v_behind), (h_to, o_I cI 4 a2.2.2.2.2.1), (h_holds, o_I cI 16 a2.2.2.2.2.2)]) (lvf := fun (a2 : Int32 × Int32 × Int32 × Int32 × (Nat → Int32) × (Nat → Int32)) => [(0, .ref h_this), (1, .int x1), (2, .int x2), (3, .int a2.1)]) hf hP hD hS (lv_sub hl [1, 2, 3, 0] rfl) ?_ ?_
  · intro a2 H locs ls hf hP hD hS hl
    have hP : va_P D vwCl [(h_this, o_X9 v_kind v_worlds h_arrows h_marks v_frames v_signs h_signAt h_behind v_formulas v_failsTold v_tellsTold v_seen h_seenWhat h_seenCan v_pageLength h_page v_stage v_newKind v_newWorlds v_newFrom v_newLast v_newP v_newQ h_newArrows v_wanted a2.2.1 h_to a2.2.2.1 a2.2.2.2.1 h_holds h_apart v_seedNow v_keptFrame v_keptKind v_keptWorlds v_keptSeen h_keptArrows h_keptMarks h_keptWhat h_keptCan v_h), (h_signAt, o_I cB 16 v_signAt), (h_behind, o_I cI 17 v_behind), (h_to, o_I cI 4 a2.2.2.2.2.1), (h_holds, o_I cI 16 a2.2.2.2.2.2)] H := hP
    have hD : va_D A [(h_this, o_X9 v_kind v_worlds h_arrows h_marks v_frames v_signs h_signAt h_behind v_formulas v_failsTold v_tellsTold v_seen h_seenWhat h_seenCan v_pageLength h_page v_stage v_newKind v_newWorlds v_newFrom v_newLast v_newP v_newQ h_newArrows v_wanted a2.2.1 h_to a2.2.2.1 a2.2.2.2.1 h_holds h_apart v_seedNow v_keptFrame v_keptKind v_keptWorlds v_keptSeen h_keptArrows h_keptMarks h_keptWhat h_keptCan v_h), (h_signAt, o_I cB 16 v_signAt), (h_behind, o_I cI 17 v_behind), (h_to, o_I cI 4 a2.2.2.2.2.1), (h_holds, o_I cI 16 a2.2.2.2.2.2)] := hD
    have hl : lv_has ls 6 [(0, .ref h_this), (1, .int x1), (2, .int x2), (3, .int a2.1)] := hl
    refine lv_iconst (v := (-1)) hx hb dX9_failNow_102 (by decide) ?_
    cases hf
    exact k_iret hx hb hr hlocks hAe hS hP hD dX9_failNow_103
  · intro ex2 rc2 hE2 hR2 a2 H locs ls hf hP hD hS hl
    have hP : va_P D vwCl [(h_this, o_X9 v_kind v_worlds h_arrows h_marks v_frames v_signs h_signAt h_behind v_formulas v_failsTold v_tellsTold v_seen h_seenWhat h_seenCan v_pageLength h_page v_stage v_newKind v_newWorlds v_newFrom v_newLast v_newP v_newQ h_newArrows v_wanted a2.2.1 h_to a2.2.2.1 a2.2.2.2.1 h_holds h_apart v_seedNow v_keptFrame v_keptKind v_keptWorlds v_keptSeen h_keptArrows h_keptMarks h_keptWhat h_keptCan v_h), (h_signAt, o_I cB 16 v_signAt), (h_behind, o_I cI 17 v_behind), (h_to, o_I cI 4 a2.2.2.2.2.1), (h_holds, o_I cI 16 a2.2.2.2.2.2)] H := hP
    have hD : va_D A [(h_this, o_X9 v_kind v_worlds h_arrows h_marks v_frames v_signs h_signAt h_behind v_formulas v_failsTold v_tellsTold v_seen h_seenWhat h_seenCan v_pageLength h_page v_stage v_newKind v_newWorlds v_newFrom v_newLast v_newP v_newQ h_newArrows v_wanted a2.2.1 h_to a2.2.2.1 a2.2.2.2.1 h_holds h_apart v_seedNow v_keptFrame v_keptKind v_keptWorlds v_keptSeen h_keptArrows h_keptMarks h_keptWhat h_keptCan v_h), (h_signAt, o_I cB 16 v_signAt), (h_behind, o_I cI 17 v_behind), (h_to, o_I cI 4 a2.2.2.2.2.1), (h_holds, o_I cI 16 a2.2.2.2.2.2)] := hD
    have hl : lv_has ls 6 [(0, .ref h_this), (1, .int x1), (2, .int x2), (3, .int a2.1)] := hl
    refine lv_iload_n hx hb dX9_failNow_2 rfl (lv_at hl 3 rfl) ?_
    refine lv_iconst (v := 1) hx hb dX9_failNow_3 (by decide) ?_
    refine lv_iload_n hx hb dX9_failNow_4 rfl (lv_at hl 1 rfl) ?_
    refine lv_iload_n hx hb dX9_failNow_5 rfl (lv_at hl 1 rfl) ?_
    refine lv_imul hx hb dX9_failNow_6 ?_
    refine lv_ishl hx hb dX9_failNow_7 ?_
    refine lv_icmp_ge (tgt := 102) hx hb dX9_failNow_8 (by decide) (fun c8 => ?_) (fun c8 => ?_)
    · replace hf := k_ifT c8 hf
      exact hE2 _ _ _ _ hf hP hD hS (lv_sub hl [0, 1, 2, 3] rfl)
    · replace hf := k_ifF c8 hf
      refine lv_aload_n hx hb dX9_failNow_11 rfl (lv_at hl 0 rfl) ?_
      refine lv_iload_n hx hb dX9_failNow_12 rfl (lv_at hl 1 rfl) ?_
      refine lv_iload_n hx hb dX9_failNow_13 rfl (lv_at hl 3 rfl) ?_
      obtain ⟨q14, hq14, hf⟩ := k_bind hf
      refine k_callv (wN := [(h_this, o_X9 v_kind v_worlds h_arrows h_marks v_frames v_signs h_signAt h_behind v_formulas v_failsTold v_tellsTold v_seen h_seenWhat h_seenCan v_pageLength h_page v_stage v_newKind v_newWorlds v_newFrom v_newLast v_newP v_newQ h_newArrows v_wanted q14.1 h_to a2.2.2.1 a2.2.2.2.1 h_holds h_apart v_seedNow v_keptFrame v_keptKind v_keptWorlds v_keptSeen h_keptArrows h_keptMarks h_keptWhat h_keptCan v_h), (h_signAt, o_I cB 16 v_signAt), (h_behind, o_I cI 17 v_behind), (h_to, o_I cI 4 q14.2), (h_holds, o_I cI 16 a2.2.2.2.2.2)]) [0, 3] [1, 2, 4] [3, 0, 1, 4, 2] hP hD hS hA (va_runV (As := [.int x1, .int a2.1]) (rest := []) ⟨hx, hb, hml, hown, hts⟩ (k_X9_layNumber l D cB cI cJ cZ tL tK h_this h_arrows h_marks h_signAt h_behind h_seenWhat h_seenCan h_page h_newArrows h_to h_holds h_apart h_keptArrows h_keptMarks h_keptWhat h_keptCan _ v_kind v_worlds v_frames v_signs v_formulas v_failsTold v_tellsTold v_seen v_pageLength v_stage v_newKind v_newWorlds v_newFrom v_newLast v_newP v_newQ v_wanted a2.2.1 a2.2.2.1 a2.2.2.2.1 v_seedNow v_keptFrame v_keptKind v_keptWorlds v_keptSeen v_h a2.2.2.2.2.1 x1 a2.1 q14 hq14) (cwV 2 hts (k_gV m_841 m_838 m_839 m_840 m_5) rfl rfl rfl (by decide +kernel) ⟨Nat.le_of_ble_eq_true rfl, Nat.le_of_ble_eq_true rfl⟩) (k_preV [0, 3] hK hN hZ hP hD hS hA rfl rfl (va_recv hK hP (ci := 8) (q0 := 0) rfl rfl)) rfl rfl hl.1 rfl (lv_room (Nat.le_of_ble_eq_true rfl)) dX9_failNow_14 ⟨Nat.le_refl _, Nat.le_refl _⟩) rfl rfl rfl rfl rfl (fun H locs hP hD hS => ?_)
      refine lv_aload_n hx hb dX9_failNow_17 rfl (lv_at hl 0 rfl) ?_
      refine lv_aload_n hx hb dX9_failNow_18 rfl (lv_at hl 0 rfl) ?_
      refine va_get (D := D) (ci := 8) (v := .int v_kind) (C := RX9) (T := TX9) (N := 41) hx hb hts inlX9 hown hK hP 0 rfl rfl 0 (by decide) (hts _ m_318) (fun _ h9 => h9) rfl dX9_failNow_19 ?_
      obtain ⟨q22, hq22, hf⟩ := k_bind hf
      refine k_calli (wN := [(h_this, o_X9 v_kind v_worlds h_arrows h_marks v_frames v_signs h_signAt h_behind v_formulas v_failsTold v_tellsTold v_seen h_seenWhat h_seenCan v_pageLength h_page v_stage v_newKind v_newWorlds v_newFrom v_newLast v_newP v_newQ h_newArrows v_wanted q14.1 h_to a2.2.2.1 a2.2.2.2.1 h_holds h_apart v_seedNow v_keptFrame v_keptKind v_keptWorlds v_keptSeen h_keptArrows h_keptMarks h_keptWhat h_keptCan v_h), (h_signAt, o_I cB 16 v_signAt), (h_behind, o_I cI 17 v_behind), (h_to, o_I cI 4 q14.2), (h_holds, o_I cI 16 a2.2.2.2.2.2)]) [0, 3] [1, 2, 4] [3, 0, 1, 4, 2] hP hD hS hA (va_runV (As := [.int v_kind]) (rest := []) ⟨hx, hb, hml, hown, hts⟩ (k_X9_fitsNow l D cB cI cJ cZ tL tK h_this h_arrows h_marks h_signAt h_behind h_seenWhat h_seenCan h_page h_newArrows h_to h_holds h_apart h_keptArrows h_keptMarks h_keptWhat h_keptCan _ v_kind v_worlds v_frames v_signs v_formulas v_failsTold v_tellsTold v_seen v_pageLength v_stage v_newKind v_newWorlds v_newFrom v_newLast v_newP v_newQ v_wanted q14.1 a2.2.2.1 a2.2.2.2.1 v_seedNow v_keptFrame v_keptKind v_keptWorlds v_keptSeen v_h q14.2 v_kind q22 hq22) (cwV 1 hts (k_gV m_467 m_464 m_465 m_466 m_5) rfl rfl rfl (by decide +kernel) ⟨Nat.le_of_ble_eq_true rfl, Nat.le_of_ble_eq_true rfl⟩) (k_preV [0, 3] hK hN hZ hP hD hS hA rfl rfl (va_recv hK hP (ci := 8) (q0 := 0) rfl rfl)) rfl rfl hl.1 rfl (lv_room (Nat.le_of_ble_eq_true rfl)) dX9_failNow_22 ⟨Nat.le_refl _, Nat.le_refl _⟩) rfl rfl rfl rfl rfl (fun H locs hP hD hS => ?_)
      refine k_jn (D := D) (A := A) (nL := 6) hf (fun (j25 : Int32 × Int32 × (Nat → Int32) × Int32) => [(h_this, o_X9 v_kind v_worlds h_arrows h_marks v_frames v_signs h_signAt h_behind v_formulas v_failsTold v_tellsTold v_seen h_seenWhat h_seenCan v_pageLength h_page v_stage v_newKind v_newWorlds v_newFrom v_newLast v_newP v_newQ h_newArrows v_wanted q14.1 h_to j25.1 j25.2.1 h_holds h_apart v_seedNow v_keptFrame v_keptKind v_keptWorlds v_keptSeen h_keptArrows h_keptMarks h_keptWhat h_keptCan v_h), (h_signAt, o_I cB 16 v_signAt), (h_behind, o_I cI 17 v_behind), (h_to, o_I cI 4 q14.2), (h_holds, o_I cI 16 j25.2.2.1)]) (fun (j25 : Int32 × Int32 × (Nat → Int32) × Int32) => [(0, .ref h_this), (1, .int x1), (2, .int x2), (3, .int a2.1)]) (fun (j25 : Int32 × Int32 × (Nat → Int32) × Int32) => [.int j25.2.2.2]) 36 ?_ ?_
      · intro j25 H locs ls hf hP hD hS hl
        have hP : va_P D vwCl [(h_this, o_X9 v_kind v_worlds h_arrows h_marks v_frames v_signs h_signAt h_behind v_formulas v_failsTold v_tellsTold v_seen h_seenWhat h_seenCan v_pageLength h_page v_stage v_newKind v_newWorlds v_newFrom v_newLast v_newP v_newQ h_newArrows v_wanted q14.1 h_to j25.1 j25.2.1 h_holds h_apart v_seedNow v_keptFrame v_keptKind v_keptWorlds v_keptSeen h_keptArrows h_keptMarks h_keptWhat h_keptCan v_h), (h_signAt, o_I cB 16 v_signAt), (h_behind, o_I cI 17 v_behind), (h_to, o_I cI 4 q14.2), (h_holds, o_I cI 16 j25.2.2.1)] H := hP
        have hD : va_D A [(h_this, o_X9 v_kind v_worlds h_arrows h_marks v_frames v_signs h_signAt h_behind v_formulas v_failsTold v_tellsTold v_seen h_seenWhat h_seenCan v_pageLength h_page v_stage v_newKind v_newWorlds v_newFrom v_newLast v_newP v_newQ h_newArrows v_wanted q14.1 h_to j25.1 j25.2.1 h_holds h_apart v_seedNow v_keptFrame v_keptKind v_keptWorlds v_keptSeen h_keptArrows h_keptMarks h_keptWhat h_keptCan v_h), (h_signAt, o_I cB 16 v_signAt), (h_behind, o_I cI 17 v_behind), (h_to, o_I cI 4 q14.2), (h_holds, o_I cI 16 j25.2.2.1)] := hD
        have hl : lv_has ls 6 [(0, .ref h_this), (1, .int x1), (2, .int x2), (3, .int a2.1)] := hl
        show W p l e _ s m _ below meth c H locs _ _ _ (F0 m 36 ls [.int j25.2.2.2])
        refine lv_istore (lv' := [(4, .int j25.2.2.2), (0, .ref h_this), (1, .int x1), (2, .int x2), (3, .int a2.1)]) hx hb dX9_failNow_36 hl (by decide) rfl (fun ls hl => ?_)
        refine lv_iload hx hb dX9_failNow_38 (lv_at hl 0 rfl) ?_
        refine lv_iconst (v := (-1)) hx hb dX9_failNow_40 (by decide) ?_
        refine lv_icmp_eq (tgt := 96) hx hb dX9_failNow_41 (by decide) (fun c41 => ?_) (fun c41 => ?_)
        · replace hf := k_ifT c41 hf
          refine lv_iinc (v := (a2.1 + 1)) (lv' := [(3, .int (a2.1 + 1)), (4, .int j25.2.2.2), (0, .ref h_this), (1, .int x1), (2, .int x2)]) hx hb dX9_failNow_96 hl (k := 4) rfl rfl (by decide) rfl (fun ls hl => ?_)
          refine lv_goto (tgt := 2) hx hb dX9_failNow_99 (by decide) ?_
          exact hR2 _ _ _ _ hf hP hD hS (lv_sub hl [2, 3, 4, 0] rfl)
        · replace hf := k_ifF c41 hf
          refine lv_iconst (v := 0) hx hb dX9_failNow_44 (by decide) ?_
          refine lv_istore (lv' := [(5, .int 0), (4, .int j25.2.2.2), (0, .ref h_this), (1, .int x1), (2, .int x2), (3, .int a2.1)]) hx hb dX9_failNow_45 hl (by decide) rfl (fun ls hl => ?_)
          refine k_wl 75 (wsf := fun (a47 : Int32) => [(h_this, o_X9 v_kind v_worlds h_arrows h_marks v_frames v_signs h_signAt h_behind v_formulas v_failsTold v_tellsTold v_seen h_seenWhat h_seenCan v_pageLength h_page v_stage v_newKind v_newWorlds v_newFrom v_newLast v_newP v_newQ h_newArrows v_wanted q14.1 h_to j25.1 j25.2.1 h_holds h_apart v_seedNow v_keptFrame v_keptKind v_keptWorlds v_keptSeen h_keptArrows h_keptMarks h_keptWhat h_keptCan v_h), (h_signAt, o_I cB 16 v_signAt), (h_behind, o_I cI 17 v_behind), (h_to, o_I cI 4 q14.2), (h_holds, o_I cI 16 j25.2.2.1)]) (lvf := fun (a47 : Int32) => [(0, .ref h_this), (1, .int x1), (2, .int x2), (3, .int a2.1), (4, .int j25.2.2.2), (5, .int a47)]) hf hP hD hS (lv_sub hl [2, 3, 4, 5, 1, 0] rfl) ?_ ?_
          · intro a47 H locs ls hf hP hD hS hl
            have hP : va_P D vwCl [(h_this, o_X9 v_kind v_worlds h_arrows h_marks v_frames v_signs h_signAt h_behind v_formulas v_failsTold v_tellsTold v_seen h_seenWhat h_seenCan v_pageLength h_page v_stage v_newKind v_newWorlds v_newFrom v_newLast v_newP v_newQ h_newArrows v_wanted q14.1 h_to j25.1 j25.2.1 h_holds h_apart v_seedNow v_keptFrame v_keptKind v_keptWorlds v_keptSeen h_keptArrows h_keptMarks h_keptWhat h_keptCan v_h), (h_signAt, o_I cB 16 v_signAt), (h_behind, o_I cI 17 v_behind), (h_to, o_I cI 4 q14.2), (h_holds, o_I cI 16 j25.2.2.1)] H := hP
            have hD : va_D A [(h_this, o_X9 v_kind v_worlds h_arrows h_marks v_frames v_signs h_signAt h_behind v_formulas v_failsTold v_tellsTold v_seen h_seenWhat h_seenCan v_pageLength h_page v_stage v_newKind v_newWorlds v_newFrom v_newLast v_newP v_newQ h_newArrows v_wanted q14.1 h_to j25.1 j25.2.1 h_holds h_apart v_seedNow v_keptFrame v_keptKind v_keptWorlds v_keptSeen h_keptArrows h_keptMarks h_keptWhat h_keptCan v_h), (h_signAt, o_I cB 16 v_signAt), (h_behind, o_I cI 17 v_behind), (h_to, o_I cI 4 q14.2), (h_holds, o_I cI 16 j25.2.2.1)] := hD
            have hl : lv_has ls 6 [(0, .ref h_this), (1, .int x1), (2, .int x2), (3, .int a2.1), (4, .int j25.2.2.2), (5, .int a47)] := hl
            refine lv_iload_n hx hb dX9_failNow_75 rfl (lv_at hl 2 rfl) ?_
            refine lv_if_ne (tgt := 83) hx hb dX9_failNow_76 (by decide) (fun c76 => ?_) (fun c76 => ?_)
            · replace hf := k_ifF c76 hf
              refine lv_iload_n hx hb dX9_failNow_83 rfl (lv_at hl 2 rfl) ?_
              refine lv_iconst (v := 1) hx hb dX9_failNow_84 (by decide) ?_
              refine lv_icmp_ne (tgt := 93) hx hb dX9_failNow_85 (by decide) (fun c85 => ?_) (fun c85 => ?_)
              · replace hf := k_ifF c85 hf
                refine lv_iload hx hb dX9_failNow_93 (lv_at hl 5 rfl) ?_
                cases hf
                exact k_iret hx hb hr hlocks hAe hS hP hD dX9_failNow_95
              · replace hf := k_ifT c85 hf
                refine lv_iload hx hb dX9_failNow_88 (lv_at hl 4 rfl) ?_
                refine lv_goto (tgt := 95) hx hb dX9_failNow_90 (by decide) ?_
                cases hf
                exact k_iret hx hb hr hlocks hAe hS hP hD dX9_failNow_95
            · replace hf := k_ifT c76 hf
              refine lv_iload_n hx hb dX9_failNow_79 rfl (lv_at hl 3 rfl) ?_
              refine lv_goto (tgt := 95) hx hb dX9_failNow_80 (by decide) ?_
              cases hf
              exact k_iret hx hb hr hlocks hAe hS hP hD dX9_failNow_95
          · intro ex47 rc47 hE47 hR47 a47 H locs ls hf hP hD hS hl
            have hP : va_P D vwCl [(h_this, o_X9 v_kind v_worlds h_arrows h_marks v_frames v_signs h_signAt h_behind v_formulas v_failsTold v_tellsTold v_seen h_seenWhat h_seenCan v_pageLength h_page v_stage v_newKind v_newWorlds v_newFrom v_newLast v_newP v_newQ h_newArrows v_wanted q14.1 h_to j25.1 j25.2.1 h_holds h_apart v_seedNow v_keptFrame v_keptKind v_keptWorlds v_keptSeen h_keptArrows h_keptMarks h_keptWhat h_keptCan v_h), (h_signAt, o_I cB 16 v_signAt), (h_behind, o_I cI 17 v_behind), (h_to, o_I cI 4 q14.2), (h_holds, o_I cI 16 j25.2.2.1)] H := hP
            have hD : va_D A [(h_this, o_X9 v_kind v_worlds h_arrows h_marks v_frames v_signs h_signAt h_behind v_formulas v_failsTold v_tellsTold v_seen h_seenWhat h_seenCan v_pageLength h_page v_stage v_newKind v_newWorlds v_newFrom v_newLast v_newP v_newQ h_newArrows v_wanted q14.1 h_to j25.1 j25.2.1 h_holds h_apart v_seedNow v_keptFrame v_keptKind v_keptWorlds v_keptSeen h_keptArrows h_keptMarks h_keptWhat h_keptCan v_h), (h_signAt, o_I cB 16 v_signAt), (h_behind, o_I cI 17 v_behind), (h_to, o_I cI 4 q14.2), (h_holds, o_I cI 16 j25.2.2.1)] := hD
            have hl : lv_has ls 6 [(0, .ref h_this), (1, .int x1), (2, .int x2), (3, .int a2.1), (4, .int j25.2.2.2), (5, .int a47)] := hl
            refine lv_iload hx hb dX9_failNow_47 (lv_at hl 5 rfl) ?_
            refine lv_iload_n hx hb dX9_failNow_49 rfl (lv_at hl 1 rfl) ?_
            refine lv_iconst (v := 1) hx hb dX9_failNow_50 (by decide) ?_
            refine lv_isub hx hb dX9_failNow_51 ?_
            refine lv_icmp_ge (tgt := 75) hx hb dX9_failNow_52 (by decide) (fun c52 => ?_) (fun c52 => ?_)
            · replace hf := k_ifT c52 hf
              exact hE47 _ _ _ _ hf hP hD hS (lv_sub hl [0, 1, 2, 3, 4, 5] rfl)
            · replace hf := k_ifF c52 hf
              refine lv_aload_n hx hb dX9_failNow_55 rfl (lv_at hl 0 rfl) ?_
              refine va_get (D := D) (ci := 8) (v := .ref h_holds) (C := RX9) (T := TX9) (N := 41) hx hb hts inlX9 hown hK hP 0 rfl rfl 29 (by decide) (hts _ m_92) (fun _ h9 => h9) rfl dX9_failNow_56 ?_
              refine lv_iconst (v := 0) hx hb dX9_failNow_59 (by decide) ?_
              obtain ⟨hi60, hf⟩ := k_chk_some hf
              refine va_iald (D := D) hx hb hK hP 4 1 rfl rfl hi60 dX9_failNow_60 ?_
              refine lv_iload hx hb dX9_failNow_61 (lv_at hl 5 rfl) ?_
              refine k_calli (wN := [(h_this, o_X9 v_kind v_worlds h_arrows h_marks v_frames v_signs h_signAt h_behind v_formulas v_failsTold v_tellsTold v_seen h_seenWhat h_seenCan v_pageLength h_page v_stage v_newKind v_newWorlds v_newFrom v_newLast v_newP v_newQ h_newArrows v_wanted q14.1 h_to j25.1 j25.2.1 h_holds h_apart v_seedNow v_keptFrame v_keptKind v_keptWorlds v_keptSeen h_keptArrows h_keptMarks h_keptWhat h_keptCan v_h), (h_signAt, o_I cB 16 v_signAt), (h_behind, o_I cI 17 v_behind), (h_to, o_I cI 4 q14.2), (h_holds, o_I cI 16 j25.2.2.1)]) [] [0, 1, 2, 3, 4] [0, 1, 2, 3, 4] hP hD hS hA (va_runS (As := [.int (j25.2.2.1 (Int32.toNatClampNeg 0)), .int a47]) (rest := []) ⟨hx, hb, hml, hown, hts⟩ (k_X9_isIn l D cB cI cJ cZ tL tK _ (j25.2.2.1 (Int32.toNatClampNeg 0)) a47 (f_X9_isIn (j25.2.2.1 (Int32.toNatClampNeg 0)) a47) rfl) (va_cwS 2 hts (k_gS m_482 m_480 m_481 m_5) rfl rfl rfl (by decide +kernel) ⟨Nat.le_of_ble_eq_true rfl, Nat.le_of_ble_eq_true rfl⟩) (k_preS [] hK hN hZ hP hD hS hA rfl rfl) rfl rfl hl.1 rfl (lv_room (Nat.le_of_ble_eq_true rfl)) dX9_failNow_63 ⟨Nat.le_refl _, Nat.le_refl _⟩) rfl rfl rfl rfl rfl (fun H locs hP hD hS => ?_)
              refine lv_if_eq (tgt := 75) hx hb dX9_failNow_66 (by decide) (fun c66 => ?_) (fun c66 => ?_)
              · replace hf := k_ifT c66 hf
                exact hE47 _ _ _ _ hf hP hD hS (lv_sub hl [0, 1, 2, 3, 4, 5] rfl)
              · replace hf := k_ifF c66 hf
                refine lv_iinc (v := (a47 + 1)) (lv' := [(5, .int (a47 + 1)), (0, .ref h_this), (1, .int x1), (2, .int x2), (3, .int a2.1), (4, .int j25.2.2.2)]) hx hb dX9_failNow_69 hl (k := 5) rfl rfl (by decide) rfl (fun ls hl => ?_)
                refine lv_goto (tgt := 47) hx hb dX9_failNow_72 (by decide) ?_
                exact hR47 _ _ _ _ hf hP hD hS (lv_sub hl [1, 2, 3, 4, 5, 0] rfl)
      · intro j25 hf hj25
        refine lv_if_eq (tgt := 35) hx hb dX9_failNow_25 (by decide) (fun c25 => ?_) (fun c25 => ?_)
        · replace hf := k_ifT c25 hf
          refine lv_iconst (v := (-1)) hx hb dX9_failNow_35 (by decide) ?_
          cases hf
          exact hj25 _ _ _ hP hD hS (lv_sub hl [0, 1, 2, 3] rfl)
        · replace hf := k_ifF c25 hf
          refine lv_aload_n hx hb dX9_failNow_28 rfl (lv_at hl 0 rfl) ?_
          obtain ⟨q29, hq29, hf⟩ := k_bind hf
          refine k_calli (wN := [(h_this, o_X9 v_kind v_worlds h_arrows h_marks v_frames v_signs h_signAt h_behind v_formulas v_failsTold v_tellsTold v_seen h_seenWhat h_seenCan v_pageLength h_page v_stage v_newKind v_newWorlds v_newFrom v_newLast v_newP v_newQ h_newArrows v_wanted q14.1 h_to q29.2.1 q29.2.2.1 h_holds h_apart v_seedNow v_keptFrame v_keptKind v_keptWorlds v_keptSeen h_keptArrows h_keptMarks h_keptWhat h_keptCan v_h), (h_signAt, o_I cB 16 v_signAt), (h_behind, o_I cI 17 v_behind), (h_to, o_I cI 4 q14.2), (h_holds, o_I cI 16 q29.2.2.2)]) [0, 1, 2, 3, 4] [] [0, 1, 2, 3, 4] hP hD hS hA (va_runV (As := []) (rest := []) ⟨hx, hb, hml, hown, hts⟩ (k_X9_failing l D cB cI cJ cZ tL tK h_this h_arrows h_marks h_signAt h_behind h_seenWhat h_seenCan h_page h_newArrows h_to h_holds h_apart h_keptArrows h_keptMarks h_keptWhat h_keptCan _ v_kind v_worlds v_frames v_signs v_formulas v_failsTold v_tellsTold v_seen v_pageLength v_stage v_newKind v_newWorlds v_newFrom v_newLast v_newP v_newQ v_wanted q14.1 a2.2.2.1 a2.2.2.2.1 v_seedNow v_keptFrame v_keptKind v_keptWorlds v_keptSeen v_h v_signAt v_behind q14.2 a2.2.2.2.2.2 q29 hq29) (cwV 0 hts (k_gV m_808 m_805 m_806 m_807 m_5) rfl rfl rfl (by decide +kernel) ⟨Nat.le_of_ble_eq_true rfl, Nat.le_of_ble_eq_true rfl⟩) (k_preV [0, 1, 2, 3, 4] hK hN hZ hP hD hS hA rfl rfl (va_recv hK hP (ci := 8) (q0 := 0) rfl rfl)) rfl rfl hl.1 rfl (lv_room (Nat.le_of_ble_eq_true rfl)) dX9_failNow_29 ⟨Nat.le_refl _, Nat.le_refl _⟩) rfl rfl rfl rfl rfl (fun H locs hP hD hS => ?_)
          refine lv_goto (tgt := 36) hx hb dX9_failNow_32 (by decide) ?_
          cases hf
          exact hj25 _ _ _ hP hD hS (lv_sub hl [0, 1, 2, 3] rfl)
set_option maxHeartbeats 4000000 in
set_option maxRecDepth 100000 in
theorem k_X9_fail (l : Launch) (D : va_G) (cB cI cJ cZ : ClassId) (tL tK : Nat) (h_this h_arrows h_marks h_signAt h_behind h_seenWhat h_seenCan h_page h_newArrows h_to h_holds h_apart h_keptArrows h_keptMarks h_keptWhat h_keptCan : Nat) (sz : Nat) (v_kind : Int32) (v_worlds : Int32) (v_frames : Int32) (v_signs : Int32) (v_formulas : Int32) (v_failsTold : Int32) (v_tellsTold : Int32) (v_seen : Int32) (v_pageLength : Int32) (v_stage : Int32) (v_newKind : Int32) (v_newWorlds : Int32) (v_newFrom : Int32) (v_newLast : Int32) (v_newP : Int32) (v_newQ : Int32) (v_wanted : Int32) (v_many : Int32) (v_pNow : Int32) (v_qNow : Int32) (v_seedNow : Int64) (v_keptFrame : Int32) (v_keptKind : Int32) (v_keptWorlds : Int32) (v_keptSeen : Int32) (v_h : Int64) (v_signAt : (Nat → Int32)) (v_behind : (Nat → Int32)) (v_to : (Nat → Int32)) (v_holds : (Nat → Int32)) (x1 : Int32) (x2 : Int32) (q : Int32 × Int32 × Int32 × Int32 × Int32 × (Nat → Int32) × (Nat → Int32)) (hf : f_X9_fail v_kind v_worlds v_signs v_failsTold v_many v_pNow v_qNow v_signAt v_behind v_to v_holds x1 x2 = some q) : Met l yX9_fail (.code yX9_fail cX9_fail 3 (some .int) :: k_all) { frames := 6, cells := 0, slots := 0, locals := 136 } (k_P D cB cI cJ cZ tL tK [.ref h_this, .int x1, .int x2] [(h_this, o_X9 v_kind v_worlds h_arrows h_marks v_frames v_signs h_signAt h_behind v_formulas v_failsTold v_tellsTold v_seen h_seenWhat h_seenCan v_pageLength h_page v_stage v_newKind v_newWorlds v_newFrom v_newLast v_newP v_newQ h_newArrows v_wanted v_many h_to v_pNow v_qNow h_holds h_apart v_seedNow v_keptFrame v_keptKind v_keptWorlds v_keptSeen h_keptArrows h_keptMarks h_keptWhat h_keptCan v_h), (h_signAt, o_I cB 16 v_signAt), (h_behind, o_I cI 17 v_behind), (h_to, o_I cI 4 v_to), (h_holds, o_I cI 16 v_holds)] sz) (k_I D q.1 [(h_this, o_X9 v_kind v_worlds h_arrows h_marks v_frames v_signs h_signAt h_behind v_formulas v_failsTold v_tellsTold v_seen h_seenWhat h_seenCan v_pageLength h_page v_stage v_newKind v_newWorlds v_newFrom v_newLast v_newP v_newQ h_newArrows v_wanted v_many h_to v_pNow v_qNow h_holds h_apart v_seedNow v_keptFrame v_keptKind v_keptWorlds v_keptSeen h_keptArrows h_keptMarks h_keptWhat h_keptCan v_h), (h_signAt, o_I cB 16 v_signAt), (h_behind, o_I cI 17 v_behind), (h_to, o_I cI 4 v_to), (h_holds, o_I cI 16 v_holds)] [(h_this, o_X9 v_kind v_worlds h_arrows h_marks v_frames v_signs h_signAt h_behind v_formulas q.2.1 v_tellsTold v_seen h_seenWhat h_seenCan v_pageLength h_page v_stage v_newKind v_newWorlds v_newFrom v_newLast v_newP v_newQ h_newArrows v_wanted q.2.2.1 h_to q.2.2.2.1 q.2.2.2.2.1 h_holds h_apart v_seedNow v_keptFrame v_keptKind v_keptWorlds v_keptSeen h_keptArrows h_keptMarks h_keptWhat h_keptCan v_h), (h_signAt, o_I cB 16 v_signAt), (h_behind, o_I cI 17 v_behind), (h_to, o_I cI 4 q.2.2.2.2.2.1), (h_holds, o_I cI 16 q.2.2.2.2.2.2)] sz) 0 0 (va_A [(h_this, o_X9 v_kind v_worlds h_arrows h_marks v_frames v_signs h_signAt h_behind v_formulas v_failsTold v_tellsTold v_seen h_seenWhat h_seenCan v_pageLength h_page v_stage v_newKind v_newWorlds v_newFrom v_newLast v_newP v_newQ h_newArrows v_wanted v_many h_to v_pNow v_qNow h_holds h_apart v_seedNow v_keptFrame v_keptKind v_keptWorlds v_keptSeen h_keptArrows h_keptMarks h_keptWhat h_keptCan v_h), (h_signAt, o_I cB 16 v_signAt), (h_behind, o_I cI 17 v_behind), (h_to, o_I cI 4 v_to), (h_holds, o_I cI 16 v_holds)] sz) := by
  unfold f_X9_fail at hf
  refine k_met RX9 rfl (by decide +kernel) (Nat.le_of_ble_eq_true rfl) ?_
  intro p e s m below meth c A ls hx hb hr hml hown hts hlocks hin hsz hAe hA hK hN hZ hD hS hP hl
  have hl : lv_has ls 3 [(0, .ref h_this), (1, .int x1), (2, .int x2)] := hl
  refine lv_iload_n hx hb dX9_fail_0 rfl (lv_at hl 1 rfl) ?_
  refine lv_iconst (v := 1) hx hb dX9_fail_1 (by decide) ?_
  refine lv_iconst (v := 3) hx hb dX9_fail_2 (by decide) ?_
  refine k_calli (wN := [(h_this, o_X9 v_kind v_worlds h_arrows h_marks v_frames v_signs h_signAt h_behind v_formulas v_failsTold v_tellsTold v_seen h_seenWhat h_seenCan v_pageLength h_page v_stage v_newKind v_newWorlds v_newFrom v_newLast v_newP v_newQ h_newArrows v_wanted v_many h_to v_pNow v_qNow h_holds h_apart v_seedNow v_keptFrame v_keptKind v_keptWorlds v_keptSeen h_keptArrows h_keptMarks h_keptWhat h_keptCan v_h), (h_signAt, o_I cB 16 v_signAt), (h_behind, o_I cI 17 v_behind), (h_to, o_I cI 4 v_to), (h_holds, o_I cI 16 v_holds)]) [] [0, 1, 2, 3, 4] [0, 1, 2, 3, 4] hP hD hS hA (va_runS (As := [.int x1, .int 1, .int 3]) (rest := []) ⟨hx, hb, hml, hown, hts⟩ (k_X9_within l D cB cI cJ cZ tL tK _ x1 1 3 (f_X9_within x1 1 3) rfl) (va_cwS 3 hts (k_gS m_120 m_118 m_119 m_5) rfl rfl rfl (by decide +kernel) ⟨Nat.le_of_ble_eq_true rfl, Nat.le_of_ble_eq_true rfl⟩) (k_preS [] hK hN hZ hP hD hS hA rfl rfl) rfl rfl hl.1 rfl (lv_room (Nat.le_of_ble_eq_true rfl)) dX9_fail_3 ⟨Nat.le_refl _, Nat.le_refl _⟩) rfl rfl rfl rfl rfl (fun H locs hP hD hS => ?_)
  refine lv_if_eq (tgt := 18) hx hb dX9_fail_6 (by decide) (fun c6 => ?_) (fun c6 => ?_)
  · replace hf := k_ifT c6 hf
    refine lv_bipush (v := (-102)) hx hb dX9_fail_18 (by decide) ?_
    cases hf
    exact k_iret hx hb hr hlocks hAe hS hP hD dX9_fail_20
  · replace hf := k_ifF c6 hf
    refine lv_iload_n hx hb dX9_fail_9 rfl (lv_at hl 2 rfl) ?_
    refine lv_iconst (v := 0) hx hb dX9_fail_10 (by decide) ?_
    refine lv_iconst (v := 2) hx hb dX9_fail_11 (by decide) ?_
    refine k_calli (wN := [(h_this, o_X9 v_kind v_worlds h_arrows h_marks v_frames v_signs h_signAt h_behind v_formulas v_failsTold v_tellsTold v_seen h_seenWhat h_seenCan v_pageLength h_page v_stage v_newKind v_newWorlds v_newFrom v_newLast v_newP v_newQ h_newArrows v_wanted v_many h_to v_pNow v_qNow h_holds h_apart v_seedNow v_keptFrame v_keptKind v_keptWorlds v_keptSeen h_keptArrows h_keptMarks h_keptWhat h_keptCan v_h), (h_signAt, o_I cB 16 v_signAt), (h_behind, o_I cI 17 v_behind), (h_to, o_I cI 4 v_to), (h_holds, o_I cI 16 v_holds)]) [] [0, 1, 2, 3, 4] [0, 1, 2, 3, 4] hP hD hS hA (va_runS (As := [.int x2, .int 0, .int 2]) (rest := []) ⟨hx, hb, hml, hown, hts⟩ (k_X9_within l D cB cI cJ cZ tL tK _ x2 0 2 (f_X9_within x2 0 2) rfl) (va_cwS 3 hts (k_gS m_120 m_118 m_119 m_5) rfl rfl rfl (by decide +kernel) ⟨Nat.le_of_ble_eq_true rfl, Nat.le_of_ble_eq_true rfl⟩) (k_preS [] hK hN hZ hP hD hS hA rfl rfl) rfl rfl hl.1 rfl (lv_room (Nat.le_of_ble_eq_true rfl)) dX9_fail_12 ⟨Nat.le_refl _, Nat.le_refl _⟩) rfl rfl rfl rfl rfl (fun H locs hP hD hS => ?_)
    refine lv_if_ne (tgt := 21) hx hb dX9_fail_15 (by decide) (fun c15 => ?_) (fun c15 => ?_)
    · replace hf := k_ifF c15 hf
      refine lv_aload_n hx hb dX9_fail_21 rfl (lv_at hl 0 rfl) ?_
      refine k_calli (wN := [(h_this, o_X9 v_kind v_worlds h_arrows h_marks v_frames v_signs h_signAt h_behind v_formulas v_failsTold v_tellsTold v_seen h_seenWhat h_seenCan v_pageLength h_page v_stage v_newKind v_newWorlds v_newFrom v_newLast v_newP v_newQ h_newArrows v_wanted v_many h_to v_pNow v_qNow h_holds h_apart v_seedNow v_keptFrame v_keptKind v_keptWorlds v_keptSeen h_keptArrows h_keptMarks h_keptWhat h_keptCan v_h), (h_signAt, o_I cB 16 v_signAt), (h_behind, o_I cI 17 v_behind), (h_to, o_I cI 4 v_to), (h_holds, o_I cI 16 v_holds)]) [0] [1, 2, 3, 4] [4, 0, 1, 2, 3] hP hD hS hA (va_runV (As := []) (rest := []) ⟨hx, hb, hml, hown, hts⟩ (k_X9_isFrame l D cB cI cJ cZ tL tK h_this h_arrows h_marks h_signAt h_behind h_seenWhat h_seenCan h_page h_newArrows h_to h_holds h_apart h_keptArrows h_keptMarks h_keptWhat h_keptCan _ v_kind v_worlds v_frames v_signs v_formulas v_failsTold v_tellsTold v_seen v_pageLength v_stage v_newKind v_newWorlds v_newFrom v_newLast v_newP v_newQ v_wanted v_many v_pNow v_qNow v_seedNow v_keptFrame v_keptKind v_keptWorlds v_keptSeen v_h (f_X9_isFrame v_worlds) rfl) (cwV 0 hts (k_gV m_444 m_441 m_442 m_443 m_5) rfl rfl rfl (by decide +kernel) ⟨Nat.le_of_ble_eq_true rfl, Nat.le_of_ble_eq_true rfl⟩) (k_preV [0] hK hN hZ hP hD hS hA rfl rfl (va_recv hK hP (ci := 8) (q0 := 0) rfl rfl)) rfl rfl hl.1 rfl (lv_room (Nat.le_of_ble_eq_true rfl)) dX9_fail_22 ⟨Nat.le_refl _, Nat.le_refl _⟩) rfl rfl rfl rfl rfl (fun H locs hP hD hS => ?_)
      refine lv_if_eq (tgt := 44) hx hb dX9_fail_25 (by decide) (fun c25 => ?_) (fun c25 => ?_)
      · replace hf := k_ifT c25 hf
        refine lv_bipush (v := (-103)) hx hb dX9_fail_44 (by decide) ?_
        cases hf
        exact k_iret hx hb hr hlocks hAe hS hP hD dX9_fail_46
      · replace hf := k_ifF c25 hf
        refine lv_aload_n hx hb dX9_fail_28 rfl (lv_at hl 0 rfl) ?_
        refine k_calli (wN := [(h_this, o_X9 v_kind v_worlds h_arrows h_marks v_frames v_signs h_signAt h_behind v_formulas v_failsTold v_tellsTold v_seen h_seenWhat h_seenCan v_pageLength h_page v_stage v_newKind v_newWorlds v_newFrom v_newLast v_newP v_newQ h_newArrows v_wanted v_many h_to v_pNow v_qNow h_holds h_apart v_seedNow v_keptFrame v_keptKind v_keptWorlds v_keptSeen h_keptArrows h_keptMarks h_keptWhat h_keptCan v_h), (h_signAt, o_I cB 16 v_signAt), (h_behind, o_I cI 17 v_behind), (h_to, o_I cI 4 v_to), (h_holds, o_I cI 16 v_holds)]) [0] [1, 2, 3, 4] [4, 0, 1, 2, 3] hP hD hS hA (va_runV (As := []) (rest := []) ⟨hx, hb, hml, hown, hts⟩ (k_X9_isFormula l D cB cI cJ cZ tL tK h_this h_arrows h_marks h_signAt h_behind h_seenWhat h_seenCan h_page h_newArrows h_to h_holds h_apart h_keptArrows h_keptMarks h_keptWhat h_keptCan _ v_kind v_worlds v_frames v_signs v_formulas v_failsTold v_tellsTold v_seen v_pageLength v_stage v_newKind v_newWorlds v_newFrom v_newLast v_newP v_newQ v_wanted v_many v_pNow v_qNow v_seedNow v_keptFrame v_keptKind v_keptWorlds v_keptSeen v_h (f_X9_isFormula v_signs) rfl) (cwV 0 hts (k_gV m_611 m_608 m_609 m_610 m_5) rfl rfl rfl (by decide +kernel) ⟨Nat.le_of_ble_eq_true rfl, Nat.le_of_ble_eq_true rfl⟩) (k_preV [0] hK hN hZ hP hD hS hA rfl rfl (va_recv hK hP (ci := 8) (q0 := 0) rfl rfl)) rfl rfl hl.1 rfl (lv_room (Nat.le_of_ble_eq_true rfl)) dX9_fail_29 ⟨Nat.le_refl _, Nat.le_refl _⟩) rfl rfl rfl rfl rfl (fun H locs hP hD hS => ?_)
        refine lv_if_eq (tgt := 44) hx hb dX9_fail_32 (by decide) (fun c32 => ?_) (fun c32 => ?_)
        · replace hf := k_ifT c32 hf
          refine lv_bipush (v := (-103)) hx hb dX9_fail_44 (by decide) ?_
          cases hf
          exact k_iret hx hb hr hlocks hAe hS hP hD dX9_fail_46
        · replace hf := k_ifF c32 hf
          refine lv_aload_n hx hb dX9_fail_35 rfl (lv_at hl 0 rfl) ?_
          refine va_get (D := D) (ci := 8) (v := .int v_failsTold) (C := RX9) (T := TX9) (N := 41) hx hb hts inlX9 hown hK hP 0 rfl rfl 9 (by decide) (hts _ m_833) (fun _ h9 => h9) rfl dX9_fail_36 ?_
          refine lv_bipush (v := 12) hx hb dX9_fail_39 (by decide) ?_
          refine lv_icmp_ne (tgt := 47) hx hb dX9_fail_41 (by decide) (fun c41 => ?_) (fun c41 => ?_)
          · replace hf := k_ifF c41 hf
            refine lv_aload_n hx hb dX9_fail_47 rfl (lv_at hl 0 rfl) ?_
            refine lv_dup hx hb dX9_fail_48 rfl ?_
            refine va_get (D := D) (ci := 8) (v := .int v_failsTold) (C := RX9) (T := TX9) (N := 41) hx hb hts inlX9 hown hK hP 0 rfl rfl 9 (by decide) (hts _ m_833) (fun _ h9 => h9) rfl dX9_fail_49 ?_
            refine lv_iconst (v := 1) hx hb dX9_fail_52 (by decide) ?_
            refine lv_iadd hx hb dX9_fail_53 ?_
            refine va_put (D := D) (ci := 8) (v := .int (v_failsTold + 1)) (ty := .int) (C := RX9) (T := TX9) (N := 41) hx hb hts inlX9 tyX9 tyX9_ok nmX9 hown hK hP hD hS 0 rfl rfl 9 (by decide) (hts _ m_833) (fun _ h9 => h9) rfl (by decide +kernel) rfl rfl (Nat.le_of_ble_eq_true rfl) dX9_fail_54 (fun H locs hP hD hS => ?_)
            have hP : va_P D vwCl [(h_this, o_X9 v_kind v_worlds h_arrows h_marks v_frames v_signs h_signAt h_behind v_formulas (v_failsTold + 1) v_tellsTold v_seen h_seenWhat h_seenCan v_pageLength h_page v_stage v_newKind v_newWorlds v_newFrom v_newLast v_newP v_newQ h_newArrows v_wanted v_many h_to v_pNow v_qNow h_holds h_apart v_seedNow v_keptFrame v_keptKind v_keptWorlds v_keptSeen h_keptArrows h_keptMarks h_keptWhat h_keptCan v_h), (h_signAt, o_I cB 16 v_signAt), (h_behind, o_I cI 17 v_behind), (h_to, o_I cI 4 v_to), (h_holds, o_I cI 16 v_holds)] H := hP
            have hD : va_D A [(h_this, o_X9 v_kind v_worlds h_arrows h_marks v_frames v_signs h_signAt h_behind v_formulas (v_failsTold + 1) v_tellsTold v_seen h_seenWhat h_seenCan v_pageLength h_page v_stage v_newKind v_newWorlds v_newFrom v_newLast v_newP v_newQ h_newArrows v_wanted v_many h_to v_pNow v_qNow h_holds h_apart v_seedNow v_keptFrame v_keptKind v_keptWorlds v_keptSeen h_keptArrows h_keptMarks h_keptWhat h_keptCan v_h), (h_signAt, o_I cB 16 v_signAt), (h_behind, o_I cI 17 v_behind), (h_to, o_I cI 4 v_to), (h_holds, o_I cI 16 v_holds)] := hD
            refine lv_aload_n hx hb dX9_fail_57 rfl (lv_at hl 0 rfl) ?_
            refine lv_iload_n hx hb dX9_fail_58 rfl (lv_at hl 1 rfl) ?_
            refine lv_iload_n hx hb dX9_fail_59 rfl (lv_at hl 2 rfl) ?_
            obtain ⟨q60, hq60, hf⟩ := k_bind hf
            refine k_calli (wN := [(h_this, o_X9 v_kind v_worlds h_arrows h_marks v_frames v_signs h_signAt h_behind v_formulas (v_failsTold + 1) v_tellsTold v_seen h_seenWhat h_seenCan v_pageLength h_page v_stage v_newKind v_newWorlds v_newFrom v_newLast v_newP v_newQ h_newArrows v_wanted q60.2.1 h_to q60.2.2.1 q60.2.2.2.1 h_holds h_apart v_seedNow v_keptFrame v_keptKind v_keptWorlds v_keptSeen h_keptArrows h_keptMarks h_keptWhat h_keptCan v_h), (h_signAt, o_I cB 16 v_signAt), (h_behind, o_I cI 17 v_behind), (h_to, o_I cI 4 q60.2.2.2.2.1), (h_holds, o_I cI 16 q60.2.2.2.2.2)]) [0, 1, 2, 3, 4] [] [0, 1, 2, 3, 4] hP hD hS hA (va_runV (As := [.int x1, .int x2]) (rest := []) ⟨hx, hb, hml, hown, hts⟩ (k_X9_failNow l D cB cI cJ cZ tL tK h_this h_arrows h_marks h_signAt h_behind h_seenWhat h_seenCan h_page h_newArrows h_to h_holds h_apart h_keptArrows h_keptMarks h_keptWhat h_keptCan _ v_kind v_worlds v_frames v_signs v_formulas (v_failsTold + 1) v_tellsTold v_seen v_pageLength v_stage v_newKind v_newWorlds v_newFrom v_newLast v_newP v_newQ v_wanted v_many v_pNow v_qNow v_seedNow v_keptFrame v_keptKind v_keptWorlds v_keptSeen v_h v_signAt v_behind v_to v_holds x1 x2 q60 hq60) (cwV 2 hts (k_gV m_837 m_834 m_835 m_836 m_5) rfl rfl rfl (by decide +kernel) ⟨Nat.le_of_ble_eq_true rfl, Nat.le_of_ble_eq_true rfl⟩) (k_preV [0, 1, 2, 3, 4] hK hN hZ hP hD hS hA rfl rfl (va_recv hK hP (ci := 8) (q0 := 0) rfl rfl)) rfl rfl hl.1 rfl (lv_room (Nat.le_of_ble_eq_true rfl)) dX9_fail_60 ⟨Nat.le_refl _, Nat.le_refl _⟩) rfl rfl rfl rfl rfl (fun H locs hP hD hS => ?_)
            cases hf
            exact k_iret hx hb hr hlocks hAe hS hP hD dX9_fail_63
          · replace hf := k_ifT c41 hf
            refine lv_bipush (v := (-103)) hx hb dX9_fail_44 (by decide) ?_
            cases hf
            exact k_iret hx hb hr hlocks hAe hS hP hD dX9_fail_46
    · replace hf := k_ifT c15 hf
      refine lv_bipush (v := (-102)) hx hb dX9_fail_18 (by decide) ?_
      cases hf
      exact k_iret hx hb hr hlocks hAe hS hP hD dX9_fail_20
set_option maxHeartbeats 4000000 in
set_option maxRecDepth 100000 in
theorem k_X9_tellsNow (l : Launch) (D : va_G) (cB cI cJ cZ : ClassId) (tL tK : Nat) (h_this h_arrows h_marks h_signAt h_behind h_seenWhat h_seenCan h_page h_newArrows h_to h_holds h_apart h_keptArrows h_keptMarks h_keptWhat h_keptCan : Nat) (sz : Nat) (v_kind : Int32) (v_worlds : Int32) (v_frames : Int32) (v_signs : Int32) (v_formulas : Int32) (v_failsTold : Int32) (v_tellsTold : Int32) (v_seen : Int32) (v_pageLength : Int32) (v_stage : Int32) (v_newKind : Int32) (v_newWorlds : Int32) (v_newFrom : Int32) (v_newLast : Int32) (v_newP : Int32) (v_newQ : Int32) (v_wanted : Int32) (v_many : Int32) (v_pNow : Int32) (v_qNow : Int32) (v_seedNow : Int64) (v_keptFrame : Int32) (v_keptKind : Int32) (v_keptWorlds : Int32) (v_keptSeen : Int32) (v_h : Int64) (v_signAt : (Nat → Int32)) (v_behind : (Nat → Int32)) (v_to : (Nat → Int32)) (v_holds : (Nat → Int32)) (x1 : Int32) (q : Int32 × Int32 × Int32 × Int32 × (Nat → Int32) × (Nat → Int32)) (hf : f_X9_tellsNow v_signs v_many v_pNow v_qNow v_signAt v_behind v_to v_holds x1 = some q) : Met l yX9_tellsNow (.code yX9_tellsNow cX9_tellsNow 3 (some .int) :: k_all) { frames := 4, cells := 0, slots := 0, locals := 90 } (k_P D cB cI cJ cZ tL tK [.ref h_this, .int x1] [(h_this, o_X9 v_kind v_worlds h_arrows h_marks v_frames v_signs h_signAt h_behind v_formulas v_failsTold v_tellsTold v_seen h_seenWhat h_seenCan v_pageLength h_page v_stage v_newKind v_newWorlds v_newFrom v_newLast v_newP v_newQ h_newArrows v_wanted v_many h_to v_pNow v_qNow h_holds h_apart v_seedNow v_keptFrame v_keptKind v_keptWorlds v_keptSeen h_keptArrows h_keptMarks h_keptWhat h_keptCan v_h), (h_signAt, o_I cB 16 v_signAt), (h_behind, o_I cI 17 v_behind), (h_to, o_I cI 4 v_to), (h_holds, o_I cI 16 v_holds)] sz) (k_I D q.1 [(h_this, o_X9 v_kind v_worlds h_arrows h_marks v_frames v_signs h_signAt h_behind v_formulas v_failsTold v_tellsTold v_seen h_seenWhat h_seenCan v_pageLength h_page v_stage v_newKind v_newWorlds v_newFrom v_newLast v_newP v_newQ h_newArrows v_wanted v_many h_to v_pNow v_qNow h_holds h_apart v_seedNow v_keptFrame v_keptKind v_keptWorlds v_keptSeen h_keptArrows h_keptMarks h_keptWhat h_keptCan v_h), (h_signAt, o_I cB 16 v_signAt), (h_behind, o_I cI 17 v_behind), (h_to, o_I cI 4 v_to), (h_holds, o_I cI 16 v_holds)] [(h_this, o_X9 v_kind v_worlds h_arrows h_marks v_frames v_signs h_signAt h_behind v_formulas v_failsTold v_tellsTold v_seen h_seenWhat h_seenCan v_pageLength h_page v_stage v_newKind v_newWorlds v_newFrom v_newLast v_newP v_newQ h_newArrows v_wanted q.2.1 h_to q.2.2.1 q.2.2.2.1 h_holds h_apart v_seedNow v_keptFrame v_keptKind v_keptWorlds v_keptSeen h_keptArrows h_keptMarks h_keptWhat h_keptCan v_h), (h_signAt, o_I cB 16 v_signAt), (h_behind, o_I cI 17 v_behind), (h_to, o_I cI 4 q.2.2.2.2.1), (h_holds, o_I cI 16 q.2.2.2.2.2)] sz) 0 0 (va_A [(h_this, o_X9 v_kind v_worlds h_arrows h_marks v_frames v_signs h_signAt h_behind v_formulas v_failsTold v_tellsTold v_seen h_seenWhat h_seenCan v_pageLength h_page v_stage v_newKind v_newWorlds v_newFrom v_newLast v_newP v_newQ h_newArrows v_wanted v_many h_to v_pNow v_qNow h_holds h_apart v_seedNow v_keptFrame v_keptKind v_keptWorlds v_keptSeen h_keptArrows h_keptMarks h_keptWhat h_keptCan v_h), (h_signAt, o_I cB 16 v_signAt), (h_behind, o_I cI 17 v_behind), (h_to, o_I cI 4 v_to), (h_holds, o_I cI 16 v_holds)] sz) := by
  unfold f_X9_tellsNow at hf
  refine k_met RX9 rfl (by decide +kernel) (Nat.le_of_ble_eq_true rfl) ?_
  intro p e s m below meth c A ls hx hb hr hml hown hts hlocks hin hsz hAe hA hK hN hZ hD hS hP hl
  have hl : lv_has ls 3 [(0, .ref h_this), (1, .int x1)] := hl
  refine lv_iconst (v := 0) hx hb dX9_tellsNow_0 (by decide) ?_
  refine lv_istore_n (lv' := [(2, .int 0), (0, .ref h_this), (1, .int x1)]) hx hb dX9_tellsNow_1 rfl hl (by decide) rfl (fun ls hl => ?_)
  refine k_wl 44 (wsf := fun (a2 : Int32 × Int32 × Int32 × Int32 × (Nat → Int32) × (Nat → Int32)) => [(h_this, o_X9 v_kind v_worlds h_arrows h_marks v_frames v_signs h_signAt h_behind v_formulas v_failsTold v_tellsTold v_seen h_seenWhat h_seenCan v_pageLength h_page v_stage v_newKind v_newWorlds v_newFrom v_newLast v_newP v_newQ h_newArrows v_wanted a2.2.1 h_to a2.2.2.1 a2.2.2.2.1 h_holds h_apart v_seedNow v_keptFrame v_keptKind v_keptWorlds v_keptSeen h_keptArrows h_keptMarks h_keptWhat h_keptCan v_h), (h_signAt, o_I cB 16 v_signAt), (h_behind, o_I cI 17 v_behind), (h_to, o_I cI 4 a2.2.2.2.2.1), (h_holds, o_I cI 16 a2.2.2.2.2.2)]) (lvf := fun (a2 : Int32 × Int32 × Int32 × Int32 × (Nat → Int32) × (Nat → Int32)) => [(0, .ref h_this), (1, .int x1), (2, .int a2.1)]) hf hP hD hS (lv_sub hl [1, 2, 0] rfl) ?_ ?_
  · intro a2 H locs ls hf hP hD hS hl
    have hP : va_P D vwCl [(h_this, o_X9 v_kind v_worlds h_arrows h_marks v_frames v_signs h_signAt h_behind v_formulas v_failsTold v_tellsTold v_seen h_seenWhat h_seenCan v_pageLength h_page v_stage v_newKind v_newWorlds v_newFrom v_newLast v_newP v_newQ h_newArrows v_wanted a2.2.1 h_to a2.2.2.1 a2.2.2.2.1 h_holds h_apart v_seedNow v_keptFrame v_keptKind v_keptWorlds v_keptSeen h_keptArrows h_keptMarks h_keptWhat h_keptCan v_h), (h_signAt, o_I cB 16 v_signAt), (h_behind, o_I cI 17 v_behind), (h_to, o_I cI 4 a2.2.2.2.2.1), (h_holds, o_I cI 16 a2.2.2.2.2.2)] H := hP
    have hD : va_D A [(h_this, o_X9 v_kind v_worlds h_arrows h_marks v_frames v_signs h_signAt h_behind v_formulas v_failsTold v_tellsTold v_seen h_seenWhat h_seenCan v_pageLength h_page v_stage v_newKind v_newWorlds v_newFrom v_newLast v_newP v_newQ h_newArrows v_wanted a2.2.1 h_to a2.2.2.1 a2.2.2.2.1 h_holds h_apart v_seedNow v_keptFrame v_keptKind v_keptWorlds v_keptSeen h_keptArrows h_keptMarks h_keptWhat h_keptCan v_h), (h_signAt, o_I cB 16 v_signAt), (h_behind, o_I cI 17 v_behind), (h_to, o_I cI 4 a2.2.2.2.2.1), (h_holds, o_I cI 16 a2.2.2.2.2.2)] := hD
    have hl : lv_has ls 3 [(0, .ref h_this), (1, .int x1), (2, .int a2.1)] := hl
    refine lv_iconst (v := 1) hx hb dX9_tellsNow_44 (by decide) ?_
    cases hf
    exact k_iret hx hb hr hlocks hAe hS hP hD dX9_tellsNow_45
  · intro ex2 rc2 hE2 hR2 a2 H locs ls hf hP hD hS hl
    have hP : va_P D vwCl [(h_this, o_X9 v_kind v_worlds h_arrows h_marks v_frames v_signs h_signAt h_behind v_formulas v_failsTold v_tellsTold v_seen h_seenWhat h_seenCan v_pageLength h_page v_stage v_newKind v_newWorlds v_newFrom v_newLast v_newP v_newQ h_newArrows v_wanted a2.2.1 h_to a2.2.2.1 a2.2.2.2.1 h_holds h_apart v_seedNow v_keptFrame v_keptKind v_keptWorlds v_keptSeen h_keptArrows h_keptMarks h_keptWhat h_keptCan v_h), (h_signAt, o_I cB 16 v_signAt), (h_behind, o_I cI 17 v_behind), (h_to, o_I cI 4 a2.2.2.2.2.1), (h_holds, o_I cI 16 a2.2.2.2.2.2)] H := hP
    have hD : va_D A [(h_this, o_X9 v_kind v_worlds h_arrows h_marks v_frames v_signs h_signAt h_behind v_formulas v_failsTold v_tellsTold v_seen h_seenWhat h_seenCan v_pageLength h_page v_stage v_newKind v_newWorlds v_newFrom v_newLast v_newP v_newQ h_newArrows v_wanted a2.2.1 h_to a2.2.2.1 a2.2.2.2.1 h_holds h_apart v_seedNow v_keptFrame v_keptKind v_keptWorlds v_keptSeen h_keptArrows h_keptMarks h_keptWhat h_keptCan v_h), (h_signAt, o_I cB 16 v_signAt), (h_behind, o_I cI 17 v_behind), (h_to, o_I cI 4 a2.2.2.2.2.1), (h_holds, o_I cI 16 a2.2.2.2.2.2)] := hD
    have hl : lv_has ls 3 [(0, .ref h_this), (1, .int x1), (2, .int a2.1)] := hl
    refine lv_iload_n hx hb dX9_tellsNow_2 rfl (lv_at hl 2 rfl) ?_
    refine lv_sipush (v := 512) hx hb dX9_tellsNow_3 (by decide) ?_
    refine lv_icmp_ge (tgt := 44) hx hb dX9_tellsNow_6 (by decide) (fun c6 => ?_) (fun c6 => ?_)
    · replace hf := k_ifT c6 hf
      exact hE2 _ _ _ _ hf hP hD hS (lv_sub hl [0, 1, 2] rfl)
    · replace hf := k_ifF c6 hf
      refine lv_aload_n hx hb dX9_tellsNow_9 rfl (lv_at hl 0 rfl) ?_
      refine lv_iconst (v := 3) hx hb dX9_tellsNow_10 (by decide) ?_
      refine lv_iload_n hx hb dX9_tellsNow_11 rfl (lv_at hl 2 rfl) ?_
      obtain ⟨q12, hq12, hf⟩ := k_bind hf
      refine k_callv (wN := [(h_this, o_X9 v_kind v_worlds h_arrows h_marks v_frames v_signs h_signAt h_behind v_formulas v_failsTold v_tellsTold v_seen h_seenWhat h_seenCan v_pageLength h_page v_stage v_newKind v_newWorlds v_newFrom v_newLast v_newP v_newQ h_newArrows v_wanted q12.1 h_to a2.2.2.1 a2.2.2.2.1 h_holds h_apart v_seedNow v_keptFrame v_keptKind v_keptWorlds v_keptSeen h_keptArrows h_keptMarks h_keptWhat h_keptCan v_h), (h_signAt, o_I cB 16 v_signAt), (h_behind, o_I cI 17 v_behind), (h_to, o_I cI 4 q12.2), (h_holds, o_I cI 16 a2.2.2.2.2.2)]) [0, 3] [1, 2, 4] [3, 0, 1, 4, 2] hP hD hS hA (va_runV (As := [.int 3, .int a2.1]) (rest := []) ⟨hx, hb, hml, hown, hts⟩ (k_X9_layNumber l D cB cI cJ cZ tL tK h_this h_arrows h_marks h_signAt h_behind h_seenWhat h_seenCan h_page h_newArrows h_to h_holds h_apart h_keptArrows h_keptMarks h_keptWhat h_keptCan _ v_kind v_worlds v_frames v_signs v_formulas v_failsTold v_tellsTold v_seen v_pageLength v_stage v_newKind v_newWorlds v_newFrom v_newLast v_newP v_newQ v_wanted a2.2.1 a2.2.2.1 a2.2.2.2.1 v_seedNow v_keptFrame v_keptKind v_keptWorlds v_keptSeen v_h a2.2.2.2.2.1 3 a2.1 q12 hq12) (cwV 2 hts (k_gV m_841 m_838 m_839 m_840 m_5) rfl rfl rfl (by decide +kernel) ⟨Nat.le_of_ble_eq_true rfl, Nat.le_of_ble_eq_true rfl⟩) (k_preV [0, 3] hK hN hZ hP hD hS hA rfl rfl (va_recv hK hP (ci := 8) (q0 := 0) rfl rfl)) rfl rfl hl.1 rfl (lv_room (Nat.le_of_ble_eq_true rfl)) dX9_tellsNow_12 ⟨Nat.le_refl _, Nat.le_refl _⟩) rfl rfl rfl rfl rfl (fun H locs hP hD hS => ?_)
      refine lv_aload_n hx hb dX9_tellsNow_15 rfl (lv_at hl 0 rfl) ?_
      refine lv_iload_n hx hb dX9_tellsNow_16 rfl (lv_at hl 1 rfl) ?_
      obtain ⟨q17, hq17, hf⟩ := k_bind hf
      refine k_calli (wN := [(h_this, o_X9 v_kind v_worlds h_arrows h_marks v_frames v_signs h_signAt h_behind v_formulas v_failsTold v_tellsTold v_seen h_seenWhat h_seenCan v_pageLength h_page v_stage v_newKind v_newWorlds v_newFrom v_newLast v_newP v_newQ h_newArrows v_wanted q12.1 h_to a2.2.2.1 a2.2.2.2.1 h_holds h_apart v_seedNow v_keptFrame v_keptKind v_keptWorlds v_keptSeen h_keptArrows h_keptMarks h_keptWhat h_keptCan v_h), (h_signAt, o_I cB 16 v_signAt), (h_behind, o_I cI 17 v_behind), (h_to, o_I cI 4 q12.2), (h_holds, o_I cI 16 a2.2.2.2.2.2)]) [0, 3] [1, 2, 4] [3, 0, 1, 4, 2] hP hD hS hA (va_runV (As := [.int x1]) (rest := []) ⟨hx, hb, hml, hown, hts⟩ (k_X9_keepsNow l D cB cI cJ cZ tL tK h_this h_arrows h_marks h_signAt h_behind h_seenWhat h_seenCan h_page h_newArrows h_to h_holds h_apart h_keptArrows h_keptMarks h_keptWhat h_keptCan _ v_kind v_worlds v_frames v_signs v_formulas v_failsTold v_tellsTold v_seen v_pageLength v_stage v_newKind v_newWorlds v_newFrom v_newLast v_newP v_newQ v_wanted q12.1 a2.2.2.1 a2.2.2.2.1 v_seedNow v_keptFrame v_keptKind v_keptWorlds v_keptSeen v_h q12.2 x1 q17 hq17) (cwV 1 hts (k_gV m_471 m_468 m_469 m_470 m_5) rfl rfl rfl (by decide +kernel) ⟨Nat.le_of_ble_eq_true rfl, Nat.le_of_ble_eq_true rfl⟩) (k_preV [0, 3] hK hN hZ hP hD hS hA rfl rfl (va_recv hK hP (ci := 8) (q0 := 0) rfl rfl)) rfl rfl hl.1 rfl (lv_room (Nat.le_of_ble_eq_true rfl)) dX9_tellsNow_17 ⟨Nat.le_refl _, Nat.le_refl _⟩) rfl rfl rfl rfl rfl (fun H locs hP hD hS => ?_)
      refine lv_aload_n hx hb dX9_tellsNow_20 rfl (lv_at hl 0 rfl) ?_
      obtain ⟨q21, hq21, hf⟩ := k_bind hf
      refine k_calli (wN := [(h_this, o_X9 v_kind v_worlds h_arrows h_marks v_frames v_signs h_signAt h_behind v_formulas v_failsTold v_tellsTold v_seen h_seenWhat h_seenCan v_pageLength h_page v_stage v_newKind v_newWorlds v_newFrom v_newLast v_newP v_newQ h_newArrows v_wanted q12.1 h_to q21.2.1 q21.2.2.1 h_holds h_apart v_seedNow v_keptFrame v_keptKind v_keptWorlds v_keptSeen h_keptArrows h_keptMarks h_keptWhat h_keptCan v_h), (h_signAt, o_I cB 16 v_signAt), (h_behind, o_I cI 17 v_behind), (h_to, o_I cI 4 q12.2), (h_holds, o_I cI 16 q21.2.2.2)]) [0, 1, 2, 3, 4] [] [0, 1, 2, 3, 4] hP hD hS hA (va_runV (As := []) (rest := [.int q17]) ⟨hx, hb, hml, hown, hts⟩ (k_X9_failing l D cB cI cJ cZ tL tK h_this h_arrows h_marks h_signAt h_behind h_seenWhat h_seenCan h_page h_newArrows h_to h_holds h_apart h_keptArrows h_keptMarks h_keptWhat h_keptCan _ v_kind v_worlds v_frames v_signs v_formulas v_failsTold v_tellsTold v_seen v_pageLength v_stage v_newKind v_newWorlds v_newFrom v_newLast v_newP v_newQ v_wanted q12.1 a2.2.2.1 a2.2.2.2.1 v_seedNow v_keptFrame v_keptKind v_keptWorlds v_keptSeen v_h v_signAt v_behind q12.2 a2.2.2.2.2.2 q21 hq21) (cwV 0 hts (k_gV m_808 m_805 m_806 m_807 m_5) rfl rfl rfl (by decide +kernel) ⟨Nat.le_of_ble_eq_true rfl, Nat.le_of_ble_eq_true rfl⟩) (k_preV [0, 1, 2, 3, 4] hK hN hZ hP hD hS hA rfl rfl (va_recv hK hP (ci := 8) (q0 := 0) rfl rfl)) rfl rfl hl.1 rfl (lv_room (Nat.le_of_ble_eq_true rfl)) dX9_tellsNow_21 ⟨Nat.le_refl _, Nat.le_refl _⟩) rfl rfl rfl rfl rfl (fun H locs hP hD hS => ?_)
      refine lv_iconst (v := (-1)) hx hb dX9_tellsNow_24 (by decide) ?_
      refine k_jn (D := D) (A := A) (nL := 3) hf (fun (j25 : Int32) => [(h_this, o_X9 v_kind v_worlds h_arrows h_marks v_frames v_signs h_signAt h_behind v_formulas v_failsTold v_tellsTold v_seen h_seenWhat h_seenCan v_pageLength h_page v_stage v_newKind v_newWorlds v_newFrom v_newLast v_newP v_newQ h_newArrows v_wanted q12.1 h_to q21.2.1 q21.2.2.1 h_holds h_apart v_seedNow v_keptFrame v_keptKind v_keptWorlds v_keptSeen h_keptArrows h_keptMarks h_keptWhat h_keptCan v_h), (h_signAt, o_I cB 16 v_signAt), (h_behind, o_I cI 17 v_behind), (h_to, o_I cI 4 q12.2), (h_holds, o_I cI 16 q21.2.2.2)]) (fun (j25 : Int32) => [(0, .ref h_this), (1, .int x1), (2, .int a2.1)]) (fun (j25 : Int32) => [.int j25, .int q17]) 33 ?_ ?_
      · intro j25 H locs ls hf hP hD hS hl
        have hP : va_P D vwCl [(h_this, o_X9 v_kind v_worlds h_arrows h_marks v_frames v_signs h_signAt h_behind v_formulas v_failsTold v_tellsTold v_seen h_seenWhat h_seenCan v_pageLength h_page v_stage v_newKind v_newWorlds v_newFrom v_newLast v_newP v_newQ h_newArrows v_wanted q12.1 h_to q21.2.1 q21.2.2.1 h_holds h_apart v_seedNow v_keptFrame v_keptKind v_keptWorlds v_keptSeen h_keptArrows h_keptMarks h_keptWhat h_keptCan v_h), (h_signAt, o_I cB 16 v_signAt), (h_behind, o_I cI 17 v_behind), (h_to, o_I cI 4 q12.2), (h_holds, o_I cI 16 q21.2.2.2)] H := hP
        have hD : va_D A [(h_this, o_X9 v_kind v_worlds h_arrows h_marks v_frames v_signs h_signAt h_behind v_formulas v_failsTold v_tellsTold v_seen h_seenWhat h_seenCan v_pageLength h_page v_stage v_newKind v_newWorlds v_newFrom v_newLast v_newP v_newQ h_newArrows v_wanted q12.1 h_to q21.2.1 q21.2.2.1 h_holds h_apart v_seedNow v_keptFrame v_keptKind v_keptWorlds v_keptSeen h_keptArrows h_keptMarks h_keptWhat h_keptCan v_h), (h_signAt, o_I cB 16 v_signAt), (h_behind, o_I cI 17 v_behind), (h_to, o_I cI 4 q12.2), (h_holds, o_I cI 16 q21.2.2.2)] := hD
        have hl : lv_has ls 3 [(0, .ref h_this), (1, .int x1), (2, .int a2.1)] := hl
        show W p l e _ s m _ below meth c H locs _ _ _ (F0 m 33 ls [.int j25, .int q17])
        refine lv_icmp_eq (tgt := 38) hx hb dX9_tellsNow_33 (by decide) (fun c33 => ?_) (fun c33 => ?_)
        · replace hf := k_ifT c33 hf
          refine lv_iinc (v := (a2.1 + 1)) (lv' := [(2, .int (a2.1 + 1)), (0, .ref h_this), (1, .int x1)]) hx hb dX9_tellsNow_38 hl (k := 2) rfl rfl (by decide) rfl (fun ls hl => ?_)
          refine lv_goto (tgt := 2) hx hb dX9_tellsNow_41 (by decide) ?_
          exact hR2 _ _ _ _ hf hP hD hS (lv_sub hl [1, 2, 0] rfl)
        · replace hf := k_ifF c33 hf
          refine lv_iconst (v := 0) hx hb dX9_tellsNow_36 (by decide) ?_
          cases hf
          exact k_iret hx hb hr hlocks hAe hS hP hD dX9_tellsNow_37
      · intro j25 hf hj25
        refine lv_icmp_ne (tgt := 32) hx hb dX9_tellsNow_25 (by decide) (fun c25 => ?_) (fun c25 => ?_)
        · replace hf := k_ifF c25 hf
          refine lv_iconst (v := 0) hx hb dX9_tellsNow_32 (by decide) ?_
          cases hf
          exact hj25 _ _ _ hP hD hS (lv_sub hl [0, 1, 2] rfl)
        · replace hf := k_ifT c25 hf
          refine lv_iconst (v := 1) hx hb dX9_tellsNow_28 (by decide) ?_
          refine lv_goto (tgt := 33) hx hb dX9_tellsNow_29 (by decide) ?_
          cases hf
          exact hj25 _ _ _ hP hD hS (lv_sub hl [0, 1, 2] rfl)
set_option maxHeartbeats 4000000 in
set_option maxRecDepth 100000 in
theorem k_X9_tells (l : Launch) (D : va_G) (cB cI cJ cZ : ClassId) (tL tK : Nat) (h_this h_arrows h_marks h_signAt h_behind h_seenWhat h_seenCan h_page h_newArrows h_to h_holds h_apart h_keptArrows h_keptMarks h_keptWhat h_keptCan : Nat) (sz : Nat) (v_kind : Int32) (v_worlds : Int32) (v_frames : Int32) (v_signs : Int32) (v_formulas : Int32) (v_failsTold : Int32) (v_tellsTold : Int32) (v_seen : Int32) (v_pageLength : Int32) (v_stage : Int32) (v_newKind : Int32) (v_newWorlds : Int32) (v_newFrom : Int32) (v_newLast : Int32) (v_newP : Int32) (v_newQ : Int32) (v_wanted : Int32) (v_many : Int32) (v_pNow : Int32) (v_qNow : Int32) (v_seedNow : Int64) (v_keptFrame : Int32) (v_keptKind : Int32) (v_keptWorlds : Int32) (v_keptSeen : Int32) (v_h : Int64) (v_signAt : (Nat → Int32)) (v_behind : (Nat → Int32)) (v_to : (Nat → Int32)) (v_holds : (Nat → Int32)) (x1 : Int32) (q : Int32 × Int32 × Int32 × Int32 × Int32 × (Nat → Int32) × (Nat → Int32)) (hf : f_X9_tells v_signs v_tellsTold v_many v_pNow v_qNow v_signAt v_behind v_to v_holds x1 = some q) : Met l yX9_tells (.code yX9_tells cX9_tells 2 (some .int) :: k_all) { frames := 5, cells := 0, slots := 0, locals := 112 } (k_P D cB cI cJ cZ tL tK [.ref h_this, .int x1] [(h_this, o_X9 v_kind v_worlds h_arrows h_marks v_frames v_signs h_signAt h_behind v_formulas v_failsTold v_tellsTold v_seen h_seenWhat h_seenCan v_pageLength h_page v_stage v_newKind v_newWorlds v_newFrom v_newLast v_newP v_newQ h_newArrows v_wanted v_many h_to v_pNow v_qNow h_holds h_apart v_seedNow v_keptFrame v_keptKind v_keptWorlds v_keptSeen h_keptArrows h_keptMarks h_keptWhat h_keptCan v_h), (h_signAt, o_I cB 16 v_signAt), (h_behind, o_I cI 17 v_behind), (h_to, o_I cI 4 v_to), (h_holds, o_I cI 16 v_holds)] sz) (k_I D q.1 [(h_this, o_X9 v_kind v_worlds h_arrows h_marks v_frames v_signs h_signAt h_behind v_formulas v_failsTold v_tellsTold v_seen h_seenWhat h_seenCan v_pageLength h_page v_stage v_newKind v_newWorlds v_newFrom v_newLast v_newP v_newQ h_newArrows v_wanted v_many h_to v_pNow v_qNow h_holds h_apart v_seedNow v_keptFrame v_keptKind v_keptWorlds v_keptSeen h_keptArrows h_keptMarks h_keptWhat h_keptCan v_h), (h_signAt, o_I cB 16 v_signAt), (h_behind, o_I cI 17 v_behind), (h_to, o_I cI 4 v_to), (h_holds, o_I cI 16 v_holds)] [(h_this, o_X9 v_kind v_worlds h_arrows h_marks v_frames v_signs h_signAt h_behind v_formulas v_failsTold q.2.1 v_seen h_seenWhat h_seenCan v_pageLength h_page v_stage v_newKind v_newWorlds v_newFrom v_newLast v_newP v_newQ h_newArrows v_wanted q.2.2.1 h_to q.2.2.2.1 q.2.2.2.2.1 h_holds h_apart v_seedNow v_keptFrame v_keptKind v_keptWorlds v_keptSeen h_keptArrows h_keptMarks h_keptWhat h_keptCan v_h), (h_signAt, o_I cB 16 v_signAt), (h_behind, o_I cI 17 v_behind), (h_to, o_I cI 4 q.2.2.2.2.2.1), (h_holds, o_I cI 16 q.2.2.2.2.2.2)] sz) 0 0 (va_A [(h_this, o_X9 v_kind v_worlds h_arrows h_marks v_frames v_signs h_signAt h_behind v_formulas v_failsTold v_tellsTold v_seen h_seenWhat h_seenCan v_pageLength h_page v_stage v_newKind v_newWorlds v_newFrom v_newLast v_newP v_newQ h_newArrows v_wanted v_many h_to v_pNow v_qNow h_holds h_apart v_seedNow v_keptFrame v_keptKind v_keptWorlds v_keptSeen h_keptArrows h_keptMarks h_keptWhat h_keptCan v_h), (h_signAt, o_I cB 16 v_signAt), (h_behind, o_I cI 17 v_behind), (h_to, o_I cI 4 v_to), (h_holds, o_I cI 16 v_holds)] sz) := by
  unfold f_X9_tells at hf
  refine k_met RX9 rfl (by decide +kernel) (Nat.le_of_ble_eq_true rfl) ?_
  intro p e s m below meth c A ls hx hb hr hml hown hts hlocks hin hsz hAe hA hK hN hZ hD hS hP hl
  have hl : lv_has ls 2 [(0, .ref h_this), (1, .int x1)] := hl
  refine lv_iload_n hx hb dX9_tells_0 rfl (lv_at hl 1 rfl) ?_
  refine lv_iconst (v := 0) hx hb dX9_tells_1 (by decide) ?_
  refine lv_iconst (v := 4) hx hb dX9_tells_2 (by decide) ?_
  refine k_calli (wN := [(h_this, o_X9 v_kind v_worlds h_arrows h_marks v_frames v_signs h_signAt h_behind v_formulas v_failsTold v_tellsTold v_seen h_seenWhat h_seenCan v_pageLength h_page v_stage v_newKind v_newWorlds v_newFrom v_newLast v_newP v_newQ h_newArrows v_wanted v_many h_to v_pNow v_qNow h_holds h_apart v_seedNow v_keptFrame v_keptKind v_keptWorlds v_keptSeen h_keptArrows h_keptMarks h_keptWhat h_keptCan v_h), (h_signAt, o_I cB 16 v_signAt), (h_behind, o_I cI 17 v_behind), (h_to, o_I cI 4 v_to), (h_holds, o_I cI 16 v_holds)]) [] [0, 1, 2, 3, 4] [0, 1, 2, 3, 4] hP hD hS hA (va_runS (As := [.int x1, .int 0, .int 4]) (rest := []) ⟨hx, hb, hml, hown, hts⟩ (k_X9_within l D cB cI cJ cZ tL tK _ x1 0 4 (f_X9_within x1 0 4) rfl) (va_cwS 3 hts (k_gS m_120 m_118 m_119 m_5) rfl rfl rfl (by decide +kernel) ⟨Nat.le_of_ble_eq_true rfl, Nat.le_of_ble_eq_true rfl⟩) (k_preS [] hK hN hZ hP hD hS hA rfl rfl) rfl rfl hl.1 rfl (lv_room (Nat.le_of_ble_eq_true rfl)) dX9_tells_3 ⟨Nat.le_refl _, Nat.le_refl _⟩) rfl rfl rfl rfl rfl (fun H locs hP hD hS => ?_)
  refine lv_if_ne (tgt := 12) hx hb dX9_tells_6 (by decide) (fun c6 => ?_) (fun c6 => ?_)
  · replace hf := k_ifF c6 hf
    refine lv_aload_n hx hb dX9_tells_12 rfl (lv_at hl 0 rfl) ?_
    refine k_calli (wN := [(h_this, o_X9 v_kind v_worlds h_arrows h_marks v_frames v_signs h_signAt h_behind v_formulas v_failsTold v_tellsTold v_seen h_seenWhat h_seenCan v_pageLength h_page v_stage v_newKind v_newWorlds v_newFrom v_newLast v_newP v_newQ h_newArrows v_wanted v_many h_to v_pNow v_qNow h_holds h_apart v_seedNow v_keptFrame v_keptKind v_keptWorlds v_keptSeen h_keptArrows h_keptMarks h_keptWhat h_keptCan v_h), (h_signAt, o_I cB 16 v_signAt), (h_behind, o_I cI 17 v_behind), (h_to, o_I cI 4 v_to), (h_holds, o_I cI 16 v_holds)]) [0] [1, 2, 3, 4] [4, 0, 1, 2, 3] hP hD hS hA (va_runV (As := []) (rest := []) ⟨hx, hb, hml, hown, hts⟩ (k_X9_isFormula l D cB cI cJ cZ tL tK h_this h_arrows h_marks h_signAt h_behind h_seenWhat h_seenCan h_page h_newArrows h_to h_holds h_apart h_keptArrows h_keptMarks h_keptWhat h_keptCan _ v_kind v_worlds v_frames v_signs v_formulas v_failsTold v_tellsTold v_seen v_pageLength v_stage v_newKind v_newWorlds v_newFrom v_newLast v_newP v_newQ v_wanted v_many v_pNow v_qNow v_seedNow v_keptFrame v_keptKind v_keptWorlds v_keptSeen v_h (f_X9_isFormula v_signs) rfl) (cwV 0 hts (k_gV m_611 m_608 m_609 m_610 m_5) rfl rfl rfl (by decide +kernel) ⟨Nat.le_of_ble_eq_true rfl, Nat.le_of_ble_eq_true rfl⟩) (k_preV [0] hK hN hZ hP hD hS hA rfl rfl (va_recv hK hP (ci := 8) (q0 := 0) rfl rfl)) rfl rfl hl.1 rfl (lv_room (Nat.le_of_ble_eq_true rfl)) dX9_tells_13 ⟨Nat.le_refl _, Nat.le_refl _⟩) rfl rfl rfl rfl rfl (fun H locs hP hD hS => ?_)
    refine lv_if_eq (tgt := 28) hx hb dX9_tells_16 (by decide) (fun c16 => ?_) (fun c16 => ?_)
    · replace hf := k_ifT c16 hf
      refine lv_bipush (v := (-103)) hx hb dX9_tells_28 (by decide) ?_
      cases hf
      exact k_iret hx hb hr hlocks hAe hS hP hD dX9_tells_30
    · replace hf := k_ifF c16 hf
      refine lv_aload_n hx hb dX9_tells_19 rfl (lv_at hl 0 rfl) ?_
      refine va_get (D := D) (ci := 8) (v := .int v_tellsTold) (C := RX9) (T := TX9) (N := 41) hx hb hts inlX9 hown hK hP 0 rfl rfl 10 (by decide) (hts _ m_856) (fun _ h9 => h9) rfl dX9_tells_20 ?_
      refine lv_bipush (v := 12) hx hb dX9_tells_23 (by decide) ?_
      refine lv_icmp_ne (tgt := 31) hx hb dX9_tells_25 (by decide) (fun c25 => ?_) (fun c25 => ?_)
      · replace hf := k_ifF c25 hf
        refine lv_aload_n hx hb dX9_tells_31 rfl (lv_at hl 0 rfl) ?_
        refine lv_dup hx hb dX9_tells_32 rfl ?_
        refine va_get (D := D) (ci := 8) (v := .int v_tellsTold) (C := RX9) (T := TX9) (N := 41) hx hb hts inlX9 hown hK hP 0 rfl rfl 10 (by decide) (hts _ m_856) (fun _ h9 => h9) rfl dX9_tells_33 ?_
        refine lv_iconst (v := 1) hx hb dX9_tells_36 (by decide) ?_
        refine lv_iadd hx hb dX9_tells_37 ?_
        refine va_put (D := D) (ci := 8) (v := .int (v_tellsTold + 1)) (ty := .int) (C := RX9) (T := TX9) (N := 41) hx hb hts inlX9 tyX9 tyX9_ok nmX9 hown hK hP hD hS 0 rfl rfl 10 (by decide) (hts _ m_856) (fun _ h9 => h9) rfl (by decide +kernel) rfl rfl (Nat.le_of_ble_eq_true rfl) dX9_tells_38 (fun H locs hP hD hS => ?_)
        have hP : va_P D vwCl [(h_this, o_X9 v_kind v_worlds h_arrows h_marks v_frames v_signs h_signAt h_behind v_formulas v_failsTold (v_tellsTold + 1) v_seen h_seenWhat h_seenCan v_pageLength h_page v_stage v_newKind v_newWorlds v_newFrom v_newLast v_newP v_newQ h_newArrows v_wanted v_many h_to v_pNow v_qNow h_holds h_apart v_seedNow v_keptFrame v_keptKind v_keptWorlds v_keptSeen h_keptArrows h_keptMarks h_keptWhat h_keptCan v_h), (h_signAt, o_I cB 16 v_signAt), (h_behind, o_I cI 17 v_behind), (h_to, o_I cI 4 v_to), (h_holds, o_I cI 16 v_holds)] H := hP
        have hD : va_D A [(h_this, o_X9 v_kind v_worlds h_arrows h_marks v_frames v_signs h_signAt h_behind v_formulas v_failsTold (v_tellsTold + 1) v_seen h_seenWhat h_seenCan v_pageLength h_page v_stage v_newKind v_newWorlds v_newFrom v_newLast v_newP v_newQ h_newArrows v_wanted v_many h_to v_pNow v_qNow h_holds h_apart v_seedNow v_keptFrame v_keptKind v_keptWorlds v_keptSeen h_keptArrows h_keptMarks h_keptWhat h_keptCan v_h), (h_signAt, o_I cB 16 v_signAt), (h_behind, o_I cI 17 v_behind), (h_to, o_I cI 4 v_to), (h_holds, o_I cI 16 v_holds)] := hD
        refine lv_aload_n hx hb dX9_tells_41 rfl (lv_at hl 0 rfl) ?_
        refine lv_iload_n hx hb dX9_tells_42 rfl (lv_at hl 1 rfl) ?_
        obtain ⟨q43, hq43, hf⟩ := k_bind hf
        refine k_calli (wN := [(h_this, o_X9 v_kind v_worlds h_arrows h_marks v_frames v_signs h_signAt h_behind v_formulas v_failsTold (v_tellsTold + 1) v_seen h_seenWhat h_seenCan v_pageLength h_page v_stage v_newKind v_newWorlds v_newFrom v_newLast v_newP v_newQ h_newArrows v_wanted q43.2.1 h_to q43.2.2.1 q43.2.2.2.1 h_holds h_apart v_seedNow v_keptFrame v_keptKind v_keptWorlds v_keptSeen h_keptArrows h_keptMarks h_keptWhat h_keptCan v_h), (h_signAt, o_I cB 16 v_signAt), (h_behind, o_I cI 17 v_behind), (h_to, o_I cI 4 q43.2.2.2.2.1), (h_holds, o_I cI 16 q43.2.2.2.2.2)]) [0, 1, 2, 3, 4] [] [0, 1, 2, 3, 4] hP hD hS hA (va_runV (As := [.int x1]) (rest := []) ⟨hx, hb, hml, hown, hts⟩ (k_X9_tellsNow l D cB cI cJ cZ tL tK h_this h_arrows h_marks h_signAt h_behind h_seenWhat h_seenCan h_page h_newArrows h_to h_holds h_apart h_keptArrows h_keptMarks h_keptWhat h_keptCan _ v_kind v_worlds v_frames v_signs v_formulas v_failsTold (v_tellsTold + 1) v_seen v_pageLength v_stage v_newKind v_newWorlds v_newFrom v_newLast v_newP v_newQ v_wanted v_many v_pNow v_qNow v_seedNow v_keptFrame v_keptKind v_keptWorlds v_keptSeen v_h v_signAt v_behind v_to v_holds x1 q43 hq43) (cwV 1 hts (k_gV m_860 m_857 m_858 m_859 m_5) rfl rfl rfl (by decide +kernel) ⟨Nat.le_of_ble_eq_true rfl, Nat.le_of_ble_eq_true rfl⟩) (k_preV [0, 1, 2, 3, 4] hK hN hZ hP hD hS hA rfl rfl (va_recv hK hP (ci := 8) (q0 := 0) rfl rfl)) rfl rfl hl.1 rfl (lv_room (Nat.le_of_ble_eq_true rfl)) dX9_tells_43 ⟨Nat.le_refl _, Nat.le_refl _⟩) rfl rfl rfl rfl rfl (fun H locs hP hD hS => ?_)
        cases hf
        exact k_iret hx hb hr hlocks hAe hS hP hD dX9_tells_46
      · replace hf := k_ifT c25 hf
        refine lv_bipush (v := (-103)) hx hb dX9_tells_28 (by decide) ?_
        cases hf
        exact k_iret hx hb hr hlocks hAe hS hP hD dX9_tells_30
  · replace hf := k_ifT c6 hf
    refine lv_bipush (v := (-102)) hx hb dX9_tells_9 (by decide) ?_
    cases hf
    exact k_iret hx hb hr hlocks hAe hS hP hD dX9_tells_11
set_option maxHeartbeats 4000000 in
set_option maxRecDepth 100000 in
theorem k_X9_keepsTold (l : Launch) (D : va_G) (cB cI cJ cZ : ClassId) (tL tK : Nat) (h_this h_arrows h_marks h_signAt h_behind h_seenWhat h_seenCan h_page h_newArrows h_to h_holds h_apart h_keptArrows h_keptMarks h_keptWhat h_keptCan : Nat) (sz : Nat) (v_kind : Int32) (v_worlds : Int32) (v_frames : Int32) (v_signs : Int32) (v_formulas : Int32) (v_failsTold : Int32) (v_tellsTold : Int32) (v_seen : Int32) (v_pageLength : Int32) (v_stage : Int32) (v_newKind : Int32) (v_newWorlds : Int32) (v_newFrom : Int32) (v_newLast : Int32) (v_newP : Int32) (v_newQ : Int32) (v_wanted : Int32) (v_many : Int32) (v_pNow : Int32) (v_qNow : Int32) (v_seedNow : Int64) (v_keptFrame : Int32) (v_keptKind : Int32) (v_keptWorlds : Int32) (v_keptSeen : Int32) (v_h : Int64) (v_arrows : (Nat → Int32)) (v_marks : (Nat → Int32)) (v_to : (Nat → Int32)) (x1 : Int32) (q : Int32 × Int32 × Int32 × Int32 × (Nat → Int32)) (hf : f_X9_keepsTold v_worlds v_many v_pNow v_qNow v_arrows v_marks v_to x1 = some q) : Met l yX9_keepsTold (.code yX9_keepsTold cX9_keepsTold 2 (some .int) :: k_all) { frames := 4, cells := 0, slots := 0, locals := 90 } (k_P D cB cI cJ cZ tL tK [.ref h_this, .int x1] [(h_this, o_X9 v_kind v_worlds h_arrows h_marks v_frames v_signs h_signAt h_behind v_formulas v_failsTold v_tellsTold v_seen h_seenWhat h_seenCan v_pageLength h_page v_stage v_newKind v_newWorlds v_newFrom v_newLast v_newP v_newQ h_newArrows v_wanted v_many h_to v_pNow v_qNow h_holds h_apart v_seedNow v_keptFrame v_keptKind v_keptWorlds v_keptSeen h_keptArrows h_keptMarks h_keptWhat h_keptCan v_h), (h_arrows, o_I cZ 16 v_arrows), (h_marks, o_I cI 4 v_marks), (h_to, o_I cI 4 v_to)] sz) (k_I D q.1 [(h_this, o_X9 v_kind v_worlds h_arrows h_marks v_frames v_signs h_signAt h_behind v_formulas v_failsTold v_tellsTold v_seen h_seenWhat h_seenCan v_pageLength h_page v_stage v_newKind v_newWorlds v_newFrom v_newLast v_newP v_newQ h_newArrows v_wanted v_many h_to v_pNow v_qNow h_holds h_apart v_seedNow v_keptFrame v_keptKind v_keptWorlds v_keptSeen h_keptArrows h_keptMarks h_keptWhat h_keptCan v_h), (h_arrows, o_I cZ 16 v_arrows), (h_marks, o_I cI 4 v_marks), (h_to, o_I cI 4 v_to)] [(h_this, o_X9 v_kind v_worlds h_arrows h_marks v_frames v_signs h_signAt h_behind v_formulas v_failsTold v_tellsTold v_seen h_seenWhat h_seenCan v_pageLength h_page v_stage v_newKind v_newWorlds v_newFrom v_newLast v_newP v_newQ h_newArrows v_wanted q.2.1 h_to q.2.2.1 q.2.2.2.1 h_holds h_apart v_seedNow v_keptFrame v_keptKind v_keptWorlds v_keptSeen h_keptArrows h_keptMarks h_keptWhat h_keptCan v_h), (h_arrows, o_I cZ 16 v_arrows), (h_marks, o_I cI 4 v_marks), (h_to, o_I cI 4 q.2.2.2.2)] sz) 0 0 (va_A [(h_this, o_X9 v_kind v_worlds h_arrows h_marks v_frames v_signs h_signAt h_behind v_formulas v_failsTold v_tellsTold v_seen h_seenWhat h_seenCan v_pageLength h_page v_stage v_newKind v_newWorlds v_newFrom v_newLast v_newP v_newQ h_newArrows v_wanted v_many h_to v_pNow v_qNow h_holds h_apart v_seedNow v_keptFrame v_keptKind v_keptWorlds v_keptSeen h_keptArrows h_keptMarks h_keptWhat h_keptCan v_h), (h_arrows, o_I cZ 16 v_arrows), (h_marks, o_I cI 4 v_marks), (h_to, o_I cI 4 v_to)] sz) := by
  unfold f_X9_keepsTold at hf
  refine k_met RX9 rfl (by decide +kernel) (Nat.le_of_ble_eq_true rfl) ?_
  intro p e s m below meth c A ls hx hb hr hml hown hts hlocks hin hsz hAe hA hK hN hZ hD hS hP hl
  have hl : lv_has ls 2 [(0, .ref h_this), (1, .int x1)] := hl
  refine lv_aload_n hx hb dX9_keepsTold_0 rfl (lv_at hl 0 rfl) ?_
  obtain ⟨q1, hq1, hf⟩ := k_bind hf
  refine k_callv (wN := [(h_this, o_X9 v_kind v_worlds h_arrows h_marks v_frames v_signs h_signAt h_behind v_formulas v_failsTold v_tellsTold v_seen h_seenWhat h_seenCan v_pageLength h_page v_stage v_newKind v_newWorlds v_newFrom v_newLast v_newP v_newQ h_newArrows v_wanted q1.1 h_to q1.2.1 q1.2.2.1 h_holds h_apart v_seedNow v_keptFrame v_keptKind v_keptWorlds v_keptSeen h_keptArrows h_keptMarks h_keptWhat h_keptCan v_h), (h_arrows, o_I cZ 16 v_arrows), (h_marks, o_I cI 4 v_marks), (h_to, o_I cI 4 q1.2.2.2)]) [0, 1, 2, 3] [] [0, 1, 2, 3] hP hD hS hA (va_runV (As := []) (rest := []) ⟨hx, hb, hml, hown, hts⟩ (k_X9_layFrame l D cB cI cJ cZ tL tK h_this h_arrows h_marks h_signAt h_behind h_seenWhat h_seenCan h_page h_newArrows h_to h_holds h_apart h_keptArrows h_keptMarks h_keptWhat h_keptCan _ v_kind v_worlds v_frames v_signs v_formulas v_failsTold v_tellsTold v_seen v_pageLength v_stage v_newKind v_newWorlds v_newFrom v_newLast v_newP v_newQ v_wanted v_many v_pNow v_qNow v_seedNow v_keptFrame v_keptKind v_keptWorlds v_keptSeen v_h v_arrows v_marks v_to q1 hq1) (cwV 0 hts (k_gV m_460 m_457 m_458 m_459 m_5) rfl rfl rfl (by decide +kernel) ⟨Nat.le_of_ble_eq_true rfl, Nat.le_of_ble_eq_true rfl⟩) (k_preV [0, 1, 2, 3] hK hN hZ hP hD hS hA rfl rfl (va_recv hK hP (ci := 8) (q0 := 0) rfl rfl)) rfl rfl hl.1 rfl (lv_room (Nat.le_of_ble_eq_true rfl)) dX9_keepsTold_1 ⟨Nat.le_refl _, Nat.le_refl _⟩) rfl rfl rfl rfl rfl (fun H locs hP hD hS => ?_)
  refine lv_aload_n hx hb dX9_keepsTold_4 rfl (lv_at hl 0 rfl) ?_
  refine lv_iload_n hx hb dX9_keepsTold_5 rfl (lv_at hl 1 rfl) ?_
  obtain ⟨q6, hq6, hf⟩ := k_bind hf
  refine k_calli (wN := [(h_this, o_X9 v_kind v_worlds h_arrows h_marks v_frames v_signs h_signAt h_behind v_formulas v_failsTold v_tellsTold v_seen h_seenWhat h_seenCan v_pageLength h_page v_stage v_newKind v_newWorlds v_newFrom v_newLast v_newP v_newQ h_newArrows v_wanted q1.1 h_to q1.2.1 q1.2.2.1 h_holds h_apart v_seedNow v_keptFrame v_keptKind v_keptWorlds v_keptSeen h_keptArrows h_keptMarks h_keptWhat h_keptCan v_h), (h_arrows, o_I cZ 16 v_arrows), (h_marks, o_I cI 4 v_marks), (h_to, o_I cI 4 q1.2.2.2)]) [0, 3] [1, 2] [2, 0, 1, 3] hP hD hS hA (va_runV (As := [.int x1]) (rest := []) ⟨hx, hb, hml, hown, hts⟩ (k_X9_keepsNow l D cB cI cJ cZ tL tK h_this h_arrows h_marks h_signAt h_behind h_seenWhat h_seenCan h_page h_newArrows h_to h_holds h_apart h_keptArrows h_keptMarks h_keptWhat h_keptCan _ v_kind v_worlds v_frames v_signs v_formulas v_failsTold v_tellsTold v_seen v_pageLength v_stage v_newKind v_newWorlds v_newFrom v_newLast v_newP v_newQ v_wanted q1.1 q1.2.1 q1.2.2.1 v_seedNow v_keptFrame v_keptKind v_keptWorlds v_keptSeen v_h q1.2.2.2 x1 q6 hq6) (cwV 1 hts (k_gV m_471 m_468 m_469 m_470 m_5) rfl rfl rfl (by decide +kernel) ⟨Nat.le_of_ble_eq_true rfl, Nat.le_of_ble_eq_true rfl⟩) (k_preV [0, 3] hK hN hZ hP hD hS hA rfl rfl (va_recv hK hP (ci := 8) (q0 := 0) rfl rfl)) rfl rfl hl.1 rfl (lv_room (Nat.le_of_ble_eq_true rfl)) dX9_keepsTold_6 ⟨Nat.le_refl _, Nat.le_refl _⟩) rfl rfl rfl rfl rfl (fun H locs hP hD hS => ?_)
  refine lv_if_eq (tgt := 16) hx hb dX9_keepsTold_9 (by decide) (fun c9 => ?_) (fun c9 => ?_)
  · replace hf := k_ifT c9 hf
    refine lv_iconst (v := 0) hx hb dX9_keepsTold_16 (by decide) ?_
    cases hf
    exact k_iret hx hb hr hlocks hAe hS hP hD dX9_keepsTold_17
  · replace hf := k_ifF c9 hf
    refine lv_iconst (v := 1) hx hb dX9_keepsTold_12 (by decide) ?_
    refine lv_goto (tgt := 17) hx hb dX9_keepsTold_13 (by decide) ?_
    cases hf
    exact k_iret hx hb hr hlocks hAe hS hP hD dX9_keepsTold_17
set_option maxHeartbeats 4000000 in
set_option maxRecDepth 100000 in
theorem k_X9_keeps (l : Launch) (D : va_G) (cB cI cJ cZ : ClassId) (tL tK : Nat) (h_this h_arrows h_marks h_signAt h_behind h_seenWhat h_seenCan h_page h_newArrows h_to h_holds h_apart h_keptArrows h_keptMarks h_keptWhat h_keptCan : Nat) (sz : Nat) (v_kind : Int32) (v_worlds : Int32) (v_frames : Int32) (v_signs : Int32) (v_formulas : Int32) (v_failsTold : Int32) (v_tellsTold : Int32) (v_seen : Int32) (v_pageLength : Int32) (v_stage : Int32) (v_newKind : Int32) (v_newWorlds : Int32) (v_newFrom : Int32) (v_newLast : Int32) (v_newP : Int32) (v_newQ : Int32) (v_wanted : Int32) (v_many : Int32) (v_pNow : Int32) (v_qNow : Int32) (v_seedNow : Int64) (v_keptFrame : Int32) (v_keptKind : Int32) (v_keptWorlds : Int32) (v_keptSeen : Int32) (v_h : Int64) (v_arrows : (Nat → Int32)) (v_marks : (Nat → Int32)) (v_to : (Nat → Int32)) (x1 : Int32) (q : Int32 × Int32 × Int32 × Int32 × (Nat → Int32)) (hf : f_X9_keeps v_worlds v_many v_pNow v_qNow v_arrows v_marks v_to x1 = some q) : Met l yX9_keeps (.code yX9_keeps cX9_keeps 2 (some .int) :: k_all) { frames := 5, cells := 0, slots := 0, locals := 111 } (k_P D cB cI cJ cZ tL tK [.ref h_this, .int x1] [(h_this, o_X9 v_kind v_worlds h_arrows h_marks v_frames v_signs h_signAt h_behind v_formulas v_failsTold v_tellsTold v_seen h_seenWhat h_seenCan v_pageLength h_page v_stage v_newKind v_newWorlds v_newFrom v_newLast v_newP v_newQ h_newArrows v_wanted v_many h_to v_pNow v_qNow h_holds h_apart v_seedNow v_keptFrame v_keptKind v_keptWorlds v_keptSeen h_keptArrows h_keptMarks h_keptWhat h_keptCan v_h), (h_arrows, o_I cZ 16 v_arrows), (h_marks, o_I cI 4 v_marks), (h_to, o_I cI 4 v_to)] sz) (k_I D q.1 [(h_this, o_X9 v_kind v_worlds h_arrows h_marks v_frames v_signs h_signAt h_behind v_formulas v_failsTold v_tellsTold v_seen h_seenWhat h_seenCan v_pageLength h_page v_stage v_newKind v_newWorlds v_newFrom v_newLast v_newP v_newQ h_newArrows v_wanted v_many h_to v_pNow v_qNow h_holds h_apart v_seedNow v_keptFrame v_keptKind v_keptWorlds v_keptSeen h_keptArrows h_keptMarks h_keptWhat h_keptCan v_h), (h_arrows, o_I cZ 16 v_arrows), (h_marks, o_I cI 4 v_marks), (h_to, o_I cI 4 v_to)] [(h_this, o_X9 v_kind v_worlds h_arrows h_marks v_frames v_signs h_signAt h_behind v_formulas v_failsTold v_tellsTold v_seen h_seenWhat h_seenCan v_pageLength h_page v_stage v_newKind v_newWorlds v_newFrom v_newLast v_newP v_newQ h_newArrows v_wanted q.2.1 h_to q.2.2.1 q.2.2.2.1 h_holds h_apart v_seedNow v_keptFrame v_keptKind v_keptWorlds v_keptSeen h_keptArrows h_keptMarks h_keptWhat h_keptCan v_h), (h_arrows, o_I cZ 16 v_arrows), (h_marks, o_I cI 4 v_marks), (h_to, o_I cI 4 q.2.2.2.2)] sz) 0 0 (va_A [(h_this, o_X9 v_kind v_worlds h_arrows h_marks v_frames v_signs h_signAt h_behind v_formulas v_failsTold v_tellsTold v_seen h_seenWhat h_seenCan v_pageLength h_page v_stage v_newKind v_newWorlds v_newFrom v_newLast v_newP v_newQ h_newArrows v_wanted v_many h_to v_pNow v_qNow h_holds h_apart v_seedNow v_keptFrame v_keptKind v_keptWorlds v_keptSeen h_keptArrows h_keptMarks h_keptWhat h_keptCan v_h), (h_arrows, o_I cZ 16 v_arrows), (h_marks, o_I cI 4 v_marks), (h_to, o_I cI 4 v_to)] sz) := by
  unfold f_X9_keeps at hf
  refine k_met RX9 rfl (by decide +kernel) (Nat.le_of_ble_eq_true rfl) ?_
  intro p e s m below meth c A ls hx hb hr hml hown hts hlocks hin hsz hAe hA hK hN hZ hD hS hP hl
  have hl : lv_has ls 2 [(0, .ref h_this), (1, .int x1)] := hl
  refine lv_iload_n hx hb dX9_keeps_0 rfl (lv_at hl 1 rfl) ?_
  refine lv_iconst (v := 0) hx hb dX9_keeps_1 (by decide) ?_
  refine lv_iconst (v := 4) hx hb dX9_keeps_2 (by decide) ?_
  refine k_calli (wN := [(h_this, o_X9 v_kind v_worlds h_arrows h_marks v_frames v_signs h_signAt h_behind v_formulas v_failsTold v_tellsTold v_seen h_seenWhat h_seenCan v_pageLength h_page v_stage v_newKind v_newWorlds v_newFrom v_newLast v_newP v_newQ h_newArrows v_wanted v_many h_to v_pNow v_qNow h_holds h_apart v_seedNow v_keptFrame v_keptKind v_keptWorlds v_keptSeen h_keptArrows h_keptMarks h_keptWhat h_keptCan v_h), (h_arrows, o_I cZ 16 v_arrows), (h_marks, o_I cI 4 v_marks), (h_to, o_I cI 4 v_to)]) [] [0, 1, 2, 3] [0, 1, 2, 3] hP hD hS hA (va_runS (As := [.int x1, .int 0, .int 4]) (rest := []) ⟨hx, hb, hml, hown, hts⟩ (k_X9_within l D cB cI cJ cZ tL tK _ x1 0 4 (f_X9_within x1 0 4) rfl) (va_cwS 3 hts (k_gS m_120 m_118 m_119 m_5) rfl rfl rfl (by decide +kernel) ⟨Nat.le_of_ble_eq_true rfl, Nat.le_of_ble_eq_true rfl⟩) (k_preS [] hK hN hZ hP hD hS hA rfl rfl) rfl rfl hl.1 rfl (lv_room (Nat.le_of_ble_eq_true rfl)) dX9_keeps_3 ⟨Nat.le_refl _, Nat.le_refl _⟩) rfl rfl rfl rfl rfl (fun H locs hP hD hS => ?_)
  refine lv_if_ne (tgt := 12) hx hb dX9_keeps_6 (by decide) (fun c6 => ?_) (fun c6 => ?_)
  · replace hf := k_ifF c6 hf
    refine lv_aload_n hx hb dX9_keeps_12 rfl (lv_at hl 0 rfl) ?_
    refine k_calli (wN := [(h_this, o_X9 v_kind v_worlds h_arrows h_marks v_frames v_signs h_signAt h_behind v_formulas v_failsTold v_tellsTold v_seen h_seenWhat h_seenCan v_pageLength h_page v_stage v_newKind v_newWorlds v_newFrom v_newLast v_newP v_newQ h_newArrows v_wanted v_many h_to v_pNow v_qNow h_holds h_apart v_seedNow v_keptFrame v_keptKind v_keptWorlds v_keptSeen h_keptArrows h_keptMarks h_keptWhat h_keptCan v_h), (h_arrows, o_I cZ 16 v_arrows), (h_marks, o_I cI 4 v_marks), (h_to, o_I cI 4 v_to)]) [0] [1, 2, 3] [3, 0, 1, 2] hP hD hS hA (va_runV (As := []) (rest := []) ⟨hx, hb, hml, hown, hts⟩ (k_X9_isFrame l D cB cI cJ cZ tL tK h_this h_arrows h_marks h_signAt h_behind h_seenWhat h_seenCan h_page h_newArrows h_to h_holds h_apart h_keptArrows h_keptMarks h_keptWhat h_keptCan _ v_kind v_worlds v_frames v_signs v_formulas v_failsTold v_tellsTold v_seen v_pageLength v_stage v_newKind v_newWorlds v_newFrom v_newLast v_newP v_newQ v_wanted v_many v_pNow v_qNow v_seedNow v_keptFrame v_keptKind v_keptWorlds v_keptSeen v_h (f_X9_isFrame v_worlds) rfl) (cwV 0 hts (k_gV m_444 m_441 m_442 m_443 m_5) rfl rfl rfl (by decide +kernel) ⟨Nat.le_of_ble_eq_true rfl, Nat.le_of_ble_eq_true rfl⟩) (k_preV [0] hK hN hZ hP hD hS hA rfl rfl (va_recv hK hP (ci := 8) (q0 := 0) rfl rfl)) rfl rfl hl.1 rfl (lv_room (Nat.le_of_ble_eq_true rfl)) dX9_keeps_13 ⟨Nat.le_refl _, Nat.le_refl _⟩) rfl rfl rfl rfl rfl (fun H locs hP hD hS => ?_)
    refine lv_if_eq (tgt := 27) hx hb dX9_keeps_16 (by decide) (fun c16 => ?_) (fun c16 => ?_)
    · replace hf := k_ifT c16 hf
      refine lv_bipush (v := (-103)) hx hb dX9_keeps_27 (by decide) ?_
      cases hf
      exact k_iret hx hb hr hlocks hAe hS hP hD dX9_keeps_29
    · replace hf := k_ifF c16 hf
      refine lv_aload_n hx hb dX9_keeps_19 rfl (lv_at hl 0 rfl) ?_
      refine lv_iload_n hx hb dX9_keeps_20 rfl (lv_at hl 1 rfl) ?_
      obtain ⟨q21, hq21, hf⟩ := k_bind hf
      refine k_calli (wN := [(h_this, o_X9 v_kind v_worlds h_arrows h_marks v_frames v_signs h_signAt h_behind v_formulas v_failsTold v_tellsTold v_seen h_seenWhat h_seenCan v_pageLength h_page v_stage v_newKind v_newWorlds v_newFrom v_newLast v_newP v_newQ h_newArrows v_wanted q21.2.1 h_to q21.2.2.1 q21.2.2.2.1 h_holds h_apart v_seedNow v_keptFrame v_keptKind v_keptWorlds v_keptSeen h_keptArrows h_keptMarks h_keptWhat h_keptCan v_h), (h_arrows, o_I cZ 16 v_arrows), (h_marks, o_I cI 4 v_marks), (h_to, o_I cI 4 q21.2.2.2.2)]) [0, 1, 2, 3] [] [0, 1, 2, 3] hP hD hS hA (va_runV (As := [.int x1]) (rest := []) ⟨hx, hb, hml, hown, hts⟩ (k_X9_keepsTold l D cB cI cJ cZ tL tK h_this h_arrows h_marks h_signAt h_behind h_seenWhat h_seenCan h_page h_newArrows h_to h_holds h_apart h_keptArrows h_keptMarks h_keptWhat h_keptCan _ v_kind v_worlds v_frames v_signs v_formulas v_failsTold v_tellsTold v_seen v_pageLength v_stage v_newKind v_newWorlds v_newFrom v_newLast v_newP v_newQ v_wanted v_many v_pNow v_qNow v_seedNow v_keptFrame v_keptKind v_keptWorlds v_keptSeen v_h v_arrows v_marks v_to x1 q21 hq21) (cwV 1 hts (k_gV m_872 m_869 m_870 m_871 m_5) rfl rfl rfl (by decide +kernel) ⟨Nat.le_of_ble_eq_true rfl, Nat.le_of_ble_eq_true rfl⟩) (k_preV [0, 1, 2, 3] hK hN hZ hP hD hS hA rfl rfl (va_recv hK hP (ci := 8) (q0 := 0) rfl rfl)) rfl rfl hl.1 rfl (lv_room (Nat.le_of_ble_eq_true rfl)) dX9_keeps_21 ⟨Nat.le_refl _, Nat.le_refl _⟩) rfl rfl rfl rfl rfl (fun H locs hP hD hS => ?_)
      refine lv_goto (tgt := 29) hx hb dX9_keeps_24 (by decide) ?_
      cases hf
      exact k_iret hx hb hr hlocks hAe hS hP hD dX9_keeps_29
  · replace hf := k_ifT c6 hf
    refine lv_bipush (v := (-102)) hx hb dX9_keeps_9 (by decide) ?_
    cases hf
    exact k_iret hx hb hr hlocks hAe hS hP hD dX9_keeps_11
set_option maxHeartbeats 4000000 in
set_option maxRecDepth 100000 in
theorem k_X9_see (l : Launch) (D : va_G) (cB cI cJ cZ : ClassId) (tL tK : Nat) (h_this h_arrows h_marks h_signAt h_behind h_seenWhat h_seenCan h_page h_newArrows h_to h_holds h_apart h_keptArrows h_keptMarks h_keptWhat h_keptCan : Nat) (sz : Nat) (v_kind : Int32) (v_worlds : Int32) (v_frames : Int32) (v_signs : Int32) (v_formulas : Int32) (v_failsTold : Int32) (v_tellsTold : Int32) (v_seen : Int32) (v_pageLength : Int32) (v_stage : Int32) (v_newKind : Int32) (v_newWorlds : Int32) (v_newFrom : Int32) (v_newLast : Int32) (v_newP : Int32) (v_newQ : Int32) (v_wanted : Int32) (v_many : Int32) (v_pNow : Int32) (v_qNow : Int32) (v_seedNow : Int64) (v_keptFrame : Int32) (v_keptKind : Int32) (v_keptWorlds : Int32) (v_keptSeen : Int32) (v_h : Int64) (v_seenWhat : (Nat → Int32)) (v_seenCan : (Nat → Int32)) (x1 : Int32) (x2 : Int32) (q : Int32 × Int32 × (Nat → Int32) × (Nat → Int32)) (hf : f_X9_see v_worlds v_seen v_seenWhat v_seenCan x1 x2 = some q) : Met l yX9_see (.code yX9_see cX9_see 3 (some .int) :: k_all) { frames := 1, cells := 0, slots := 0, locals := 22 } (k_P D cB cI cJ cZ tL tK [.ref h_this, .int x1, .int x2] [(h_this, o_X9 v_kind v_worlds h_arrows h_marks v_frames v_signs h_signAt h_behind v_formulas v_failsTold v_tellsTold v_seen h_seenWhat h_seenCan v_pageLength h_page v_stage v_newKind v_newWorlds v_newFrom v_newLast v_newP v_newQ h_newArrows v_wanted v_many h_to v_pNow v_qNow h_holds h_apart v_seedNow v_keptFrame v_keptKind v_keptWorlds v_keptSeen h_keptArrows h_keptMarks h_keptWhat h_keptCan v_h), (h_seenWhat, o_I cI 6 v_seenWhat), (h_seenCan, o_I cZ 6 v_seenCan)] sz) (k_I D q.1 [(h_this, o_X9 v_kind v_worlds h_arrows h_marks v_frames v_signs h_signAt h_behind v_formulas v_failsTold v_tellsTold v_seen h_seenWhat h_seenCan v_pageLength h_page v_stage v_newKind v_newWorlds v_newFrom v_newLast v_newP v_newQ h_newArrows v_wanted v_many h_to v_pNow v_qNow h_holds h_apart v_seedNow v_keptFrame v_keptKind v_keptWorlds v_keptSeen h_keptArrows h_keptMarks h_keptWhat h_keptCan v_h), (h_seenWhat, o_I cI 6 v_seenWhat), (h_seenCan, o_I cZ 6 v_seenCan)] [(h_this, o_X9 v_kind v_worlds h_arrows h_marks v_frames v_signs h_signAt h_behind v_formulas v_failsTold v_tellsTold q.2.1 h_seenWhat h_seenCan v_pageLength h_page v_stage v_newKind v_newWorlds v_newFrom v_newLast v_newP v_newQ h_newArrows v_wanted v_many h_to v_pNow v_qNow h_holds h_apart v_seedNow v_keptFrame v_keptKind v_keptWorlds v_keptSeen h_keptArrows h_keptMarks h_keptWhat h_keptCan v_h), (h_seenWhat, o_I cI 6 q.2.2.1), (h_seenCan, o_I cZ 6 q.2.2.2)] sz) 0 0 (va_A [(h_this, o_X9 v_kind v_worlds h_arrows h_marks v_frames v_signs h_signAt h_behind v_formulas v_failsTold v_tellsTold v_seen h_seenWhat h_seenCan v_pageLength h_page v_stage v_newKind v_newWorlds v_newFrom v_newLast v_newP v_newQ h_newArrows v_wanted v_many h_to v_pNow v_qNow h_holds h_apart v_seedNow v_keptFrame v_keptKind v_keptWorlds v_keptSeen h_keptArrows h_keptMarks h_keptWhat h_keptCan v_h), (h_seenWhat, o_I cI 6 v_seenWhat), (h_seenCan, o_I cZ 6 v_seenCan)] sz) := by
  unfold f_X9_see at hf
  refine k_met RX9 rfl (by decide +kernel) (Nat.le_of_ble_eq_true rfl) ?_
  intro p e s m below meth c A ls hx hb hr hml hown hts hlocks hin hsz hAe hA hK hN hZ hD hS hP hl
  have hl : lv_has ls 3 [(0, .ref h_this), (1, .int x1), (2, .int x2)] := hl
  refine lv_iload_n hx hb dX9_see_0 rfl (lv_at hl 1 rfl) ?_
  refine lv_iconst (v := 0) hx hb dX9_see_1 (by decide) ?_
  refine lv_iconst (v := 3) hx hb dX9_see_2 (by decide) ?_
  refine k_calli (wN := [(h_this, o_X9 v_kind v_worlds h_arrows h_marks v_frames v_signs h_signAt h_behind v_formulas v_failsTold v_tellsTold v_seen h_seenWhat h_seenCan v_pageLength h_page v_stage v_newKind v_newWorlds v_newFrom v_newLast v_newP v_newQ h_newArrows v_wanted v_many h_to v_pNow v_qNow h_holds h_apart v_seedNow v_keptFrame v_keptKind v_keptWorlds v_keptSeen h_keptArrows h_keptMarks h_keptWhat h_keptCan v_h), (h_seenWhat, o_I cI 6 v_seenWhat), (h_seenCan, o_I cZ 6 v_seenCan)]) [] [0, 1, 2] [0, 1, 2] hP hD hS hA (va_runS (As := [.int x1, .int 0, .int 3]) (rest := []) ⟨hx, hb, hml, hown, hts⟩ (k_X9_within l D cB cI cJ cZ tL tK _ x1 0 3 (f_X9_within x1 0 3) rfl) (va_cwS 3 hts (k_gS m_120 m_118 m_119 m_5) rfl rfl rfl (by decide +kernel) ⟨Nat.le_of_ble_eq_true rfl, Nat.le_of_ble_eq_true rfl⟩) (k_preS [] hK hN hZ hP hD hS hA rfl rfl) rfl rfl hl.1 rfl (lv_room (Nat.le_of_ble_eq_true rfl)) dX9_see_3 ⟨Nat.le_refl _, Nat.le_refl _⟩) rfl rfl rfl rfl rfl (fun H locs hP hD hS => ?_)
  refine lv_if_ne (tgt := 12) hx hb dX9_see_6 (by decide) (fun c6 => ?_) (fun c6 => ?_)
  · replace hf := k_ifF c6 hf
    refine lv_aload_n hx hb dX9_see_12 rfl (lv_at hl 0 rfl) ?_
    refine k_calli (wN := [(h_this, o_X9 v_kind v_worlds h_arrows h_marks v_frames v_signs h_signAt h_behind v_formulas v_failsTold v_tellsTold v_seen h_seenWhat h_seenCan v_pageLength h_page v_stage v_newKind v_newWorlds v_newFrom v_newLast v_newP v_newQ h_newArrows v_wanted v_many h_to v_pNow v_qNow h_holds h_apart v_seedNow v_keptFrame v_keptKind v_keptWorlds v_keptSeen h_keptArrows h_keptMarks h_keptWhat h_keptCan v_h), (h_seenWhat, o_I cI 6 v_seenWhat), (h_seenCan, o_I cZ 6 v_seenCan)]) [0] [1, 2] [2, 0, 1] hP hD hS hA (va_runV (As := []) (rest := []) ⟨hx, hb, hml, hown, hts⟩ (k_X9_isFrame l D cB cI cJ cZ tL tK h_this h_arrows h_marks h_signAt h_behind h_seenWhat h_seenCan h_page h_newArrows h_to h_holds h_apart h_keptArrows h_keptMarks h_keptWhat h_keptCan _ v_kind v_worlds v_frames v_signs v_formulas v_failsTold v_tellsTold v_seen v_pageLength v_stage v_newKind v_newWorlds v_newFrom v_newLast v_newP v_newQ v_wanted v_many v_pNow v_qNow v_seedNow v_keptFrame v_keptKind v_keptWorlds v_keptSeen v_h (f_X9_isFrame v_worlds) rfl) (cwV 0 hts (k_gV m_444 m_441 m_442 m_443 m_5) rfl rfl rfl (by decide +kernel) ⟨Nat.le_of_ble_eq_true rfl, Nat.le_of_ble_eq_true rfl⟩) (k_preV [0] hK hN hZ hP hD hS hA rfl rfl (va_recv hK hP (ci := 8) (q0 := 0) rfl rfl)) rfl rfl hl.1 rfl (lv_room (Nat.le_of_ble_eq_true rfl)) dX9_see_13 ⟨Nat.le_refl _, Nat.le_refl _⟩) rfl rfl rfl rfl rfl (fun H locs hP hD hS => ?_)
    refine lv_if_ne (tgt := 22) hx hb dX9_see_16 (by decide) (fun c16 => ?_) (fun c16 => ?_)
    · replace hf := k_ifF c16 hf
      refine lv_aload_n hx hb dX9_see_22 rfl (lv_at hl 0 rfl) ?_
      refine va_get (D := D) (ci := 8) (v := .int v_seen) (C := RX9) (T := TX9) (N := 41) hx hb hts inlX9 hown hK hP 0 rfl rfl 11 (by decide) (hts _ m_321) (fun _ h9 => h9) rfl dX9_see_23 ?_
      refine lv_bipush (v := 6) hx hb dX9_see_26 (by decide) ?_
      refine lv_icmp_ne (tgt := 34) hx hb dX9_see_28 (by decide) (fun c28 => ?_) (fun c28 => ?_)
      · replace hf := k_ifF c28 hf
        refine lv_aload_n hx hb dX9_see_34 rfl (lv_at hl 0 rfl) ?_
        refine va_get (D := D) (ci := 8) (v := .ref h_seenWhat) (C := RX9) (T := TX9) (N := 41) hx hb hts inlX9 hown hK hP 0 rfl rfl 12 (by decide) (hts _ m_87) (fun _ h9 => h9) rfl dX9_see_35 ?_
        refine lv_aload_n hx hb dX9_see_38 rfl (lv_at hl 0 rfl) ?_
        refine va_get (D := D) (ci := 8) (v := .int v_seen) (C := RX9) (T := TX9) (N := 41) hx hb hts inlX9 hown hK hP 0 rfl rfl 11 (by decide) (hts _ m_321) (fun _ h9 => h9) rfl dX9_see_39 ?_
        refine lv_iload_n hx hb dX9_see_42 rfl (lv_at hl 1 rfl) ?_
        obtain ⟨hi43, hf⟩ := k_chk_some hf
        refine va_iast (D := D) hx hb hK hP hD hS 1 1 rfl rfl hi43 dX9_see_43 (fun H locs hP hD hS => ?_)
        have hP : va_P D vwCl [(h_this, o_X9 v_kind v_worlds h_arrows h_marks v_frames v_signs h_signAt h_behind v_formulas v_failsTold v_tellsTold v_seen h_seenWhat h_seenCan v_pageLength h_page v_stage v_newKind v_newWorlds v_newFrom v_newLast v_newP v_newQ h_newArrows v_wanted v_many h_to v_pNow v_qNow h_holds h_apart v_seedNow v_keptFrame v_keptKind v_keptWorlds v_keptSeen h_keptArrows h_keptMarks h_keptWhat h_keptCan v_h), (h_seenWhat, o_I cI 6 (upd v_seenWhat (Int32.toNatClampNeg v_seen) x1)), (h_seenCan, o_I cZ 6 v_seenCan)] H := hP
        have hD : va_D A [(h_this, o_X9 v_kind v_worlds h_arrows h_marks v_frames v_signs h_signAt h_behind v_formulas v_failsTold v_tellsTold v_seen h_seenWhat h_seenCan v_pageLength h_page v_stage v_newKind v_newWorlds v_newFrom v_newLast v_newP v_newQ h_newArrows v_wanted v_many h_to v_pNow v_qNow h_holds h_apart v_seedNow v_keptFrame v_keptKind v_keptWorlds v_keptSeen h_keptArrows h_keptMarks h_keptWhat h_keptCan v_h), (h_seenWhat, o_I cI 6 (upd v_seenWhat (Int32.toNatClampNeg v_seen) x1)), (h_seenCan, o_I cZ 6 v_seenCan)] := hD
        refine lv_aload_n hx hb dX9_see_44 rfl (lv_at hl 0 rfl) ?_
        refine va_get (D := D) (ci := 8) (v := .ref h_seenCan) (C := RX9) (T := TX9) (N := 41) hx hb hts inlX9 hown hK hP 0 rfl rfl 13 (by decide) (hts _ m_88) (fun _ h9 => h9) rfl dX9_see_45 ?_
        refine lv_aload_n hx hb dX9_see_48 rfl (lv_at hl 0 rfl) ?_
        refine va_get (D := D) (ci := 8) (v := .int v_seen) (C := RX9) (T := TX9) (N := 41) hx hb hts inlX9 hown hK hP 0 rfl rfl 11 (by decide) (hts _ m_321) (fun _ h9 => h9) rfl dX9_see_49 ?_
        refine lv_iload_n hx hb dX9_see_52 rfl (lv_at hl 2 rfl) ?_
        obtain ⟨hi53, hf⟩ := k_chk_some hf
        refine va_zast (D := D) hx hb hK hP hD hS 2 3 rfl rfl hi53 dX9_see_53 (fun H locs hP hD hS => ?_)
        have hP : va_P D vwCl [(h_this, o_X9 v_kind v_worlds h_arrows h_marks v_frames v_signs h_signAt h_behind v_formulas v_failsTold v_tellsTold v_seen h_seenWhat h_seenCan v_pageLength h_page v_stage v_newKind v_newWorlds v_newFrom v_newLast v_newP v_newQ h_newArrows v_wanted v_many h_to v_pNow v_qNow h_holds h_apart v_seedNow v_keptFrame v_keptKind v_keptWorlds v_keptSeen h_keptArrows h_keptMarks h_keptWhat h_keptCan v_h), (h_seenWhat, o_I cI 6 (upd v_seenWhat (Int32.toNatClampNeg v_seen) x1)), (h_seenCan, o_I cZ 6 (upd v_seenCan (Int32.toNatClampNeg v_seen) (vp_nar .boolean x2)))] H := hP
        have hD : va_D A [(h_this, o_X9 v_kind v_worlds h_arrows h_marks v_frames v_signs h_signAt h_behind v_formulas v_failsTold v_tellsTold v_seen h_seenWhat h_seenCan v_pageLength h_page v_stage v_newKind v_newWorlds v_newFrom v_newLast v_newP v_newQ h_newArrows v_wanted v_many h_to v_pNow v_qNow h_holds h_apart v_seedNow v_keptFrame v_keptKind v_keptWorlds v_keptSeen h_keptArrows h_keptMarks h_keptWhat h_keptCan v_h), (h_seenWhat, o_I cI 6 (upd v_seenWhat (Int32.toNatClampNeg v_seen) x1)), (h_seenCan, o_I cZ 6 (upd v_seenCan (Int32.toNatClampNeg v_seen) (vp_nar .boolean x2)))] := hD
        refine lv_aload_n hx hb dX9_see_54 rfl (lv_at hl 0 rfl) ?_
        refine lv_dup hx hb dX9_see_55 rfl ?_
        refine va_get (D := D) (ci := 8) (v := .int v_seen) (C := RX9) (T := TX9) (N := 41) hx hb hts inlX9 hown hK hP 0 rfl rfl 11 (by decide) (hts _ m_321) (fun _ h9 => h9) rfl dX9_see_56 ?_
        refine lv_iconst (v := 1) hx hb dX9_see_59 (by decide) ?_
        refine lv_iadd hx hb dX9_see_60 ?_
        refine va_put (D := D) (ci := 8) (v := .int (v_seen + 1)) (ty := .int) (C := RX9) (T := TX9) (N := 41) hx hb hts inlX9 tyX9 tyX9_ok nmX9 hown hK hP hD hS 0 rfl rfl 11 (by decide) (hts _ m_321) (fun _ h9 => h9) rfl (by decide +kernel) rfl rfl (Nat.le_of_ble_eq_true rfl) dX9_see_61 (fun H locs hP hD hS => ?_)
        have hP : va_P D vwCl [(h_this, o_X9 v_kind v_worlds h_arrows h_marks v_frames v_signs h_signAt h_behind v_formulas v_failsTold v_tellsTold (v_seen + 1) h_seenWhat h_seenCan v_pageLength h_page v_stage v_newKind v_newWorlds v_newFrom v_newLast v_newP v_newQ h_newArrows v_wanted v_many h_to v_pNow v_qNow h_holds h_apart v_seedNow v_keptFrame v_keptKind v_keptWorlds v_keptSeen h_keptArrows h_keptMarks h_keptWhat h_keptCan v_h), (h_seenWhat, o_I cI 6 (upd v_seenWhat (Int32.toNatClampNeg v_seen) x1)), (h_seenCan, o_I cZ 6 (upd v_seenCan (Int32.toNatClampNeg v_seen) (vp_nar .boolean x2)))] H := hP
        have hD : va_D A [(h_this, o_X9 v_kind v_worlds h_arrows h_marks v_frames v_signs h_signAt h_behind v_formulas v_failsTold v_tellsTold (v_seen + 1) h_seenWhat h_seenCan v_pageLength h_page v_stage v_newKind v_newWorlds v_newFrom v_newLast v_newP v_newQ h_newArrows v_wanted v_many h_to v_pNow v_qNow h_holds h_apart v_seedNow v_keptFrame v_keptKind v_keptWorlds v_keptSeen h_keptArrows h_keptMarks h_keptWhat h_keptCan v_h), (h_seenWhat, o_I cI 6 (upd v_seenWhat (Int32.toNatClampNeg v_seen) x1)), (h_seenCan, o_I cZ 6 (upd v_seenCan (Int32.toNatClampNeg v_seen) (vp_nar .boolean x2)))] := hD
        refine lv_aload_n hx hb dX9_see_64 rfl (lv_at hl 0 rfl) ?_
        refine va_get (D := D) (ci := 8) (v := .int (v_seen + 1)) (C := RX9) (T := TX9) (N := 41) hx hb hts inlX9 hown hK hP 0 rfl rfl 11 (by decide) (hts _ m_321) (fun _ h9 => h9) rfl dX9_see_65 ?_
        cases hf
        exact k_iret hx hb hr hlocks hAe hS hP hD dX9_see_68
      · replace hf := k_ifT c28 hf
        refine lv_bipush (v := (-104)) hx hb dX9_see_31 (by decide) ?_
        cases hf
        exact k_iret hx hb hr hlocks hAe hS hP hD dX9_see_33
    · replace hf := k_ifT c16 hf
      refine lv_bipush (v := (-103)) hx hb dX9_see_19 (by decide) ?_
      cases hf
      exact k_iret hx hb hr hlocks hAe hS hP hD dX9_see_21
  · replace hf := k_ifT c6 hf
    refine lv_bipush (v := (-102)) hx hb dX9_see_9 (by decide) ?_
    cases hf
    exact k_iret hx hb hr hlocks hAe hS hP hD dX9_see_11
set_option maxHeartbeats 4000000 in
set_option maxRecDepth 100000 in
theorem k_X9_forget (l : Launch) (D : va_G) (cB cI cJ cZ : ClassId) (tL tK : Nat) (h_this h_arrows h_marks h_signAt h_behind h_seenWhat h_seenCan h_page h_newArrows h_to h_holds h_apart h_keptArrows h_keptMarks h_keptWhat h_keptCan : Nat) (sz : Nat) (v_kind : Int32) (v_worlds : Int32) (v_frames : Int32) (v_signs : Int32) (v_formulas : Int32) (v_failsTold : Int32) (v_tellsTold : Int32) (v_seen : Int32) (v_pageLength : Int32) (v_stage : Int32) (v_newKind : Int32) (v_newWorlds : Int32) (v_newFrom : Int32) (v_newLast : Int32) (v_newP : Int32) (v_newQ : Int32) (v_wanted : Int32) (v_many : Int32) (v_pNow : Int32) (v_qNow : Int32) (v_seedNow : Int64) (v_keptFrame : Int32) (v_keptKind : Int32) (v_keptWorlds : Int32) (v_keptSeen : Int32) (v_h : Int64)  (q : Int32 × Int32) (hf : f_X9_forget v_seen = q) : Met l yX9_forget (.code yX9_forget cX9_forget 2 (some .int) :: k_all) { frames := 0, cells := 0, slots := 0, locals := 0 } (k_P D cB cI cJ cZ tL tK [.ref h_this] [(h_this, o_X9 v_kind v_worlds h_arrows h_marks v_frames v_signs h_signAt h_behind v_formulas v_failsTold v_tellsTold v_seen h_seenWhat h_seenCan v_pageLength h_page v_stage v_newKind v_newWorlds v_newFrom v_newLast v_newP v_newQ h_newArrows v_wanted v_many h_to v_pNow v_qNow h_holds h_apart v_seedNow v_keptFrame v_keptKind v_keptWorlds v_keptSeen h_keptArrows h_keptMarks h_keptWhat h_keptCan v_h)] sz) (k_I D q.1 [(h_this, o_X9 v_kind v_worlds h_arrows h_marks v_frames v_signs h_signAt h_behind v_formulas v_failsTold v_tellsTold v_seen h_seenWhat h_seenCan v_pageLength h_page v_stage v_newKind v_newWorlds v_newFrom v_newLast v_newP v_newQ h_newArrows v_wanted v_many h_to v_pNow v_qNow h_holds h_apart v_seedNow v_keptFrame v_keptKind v_keptWorlds v_keptSeen h_keptArrows h_keptMarks h_keptWhat h_keptCan v_h)] [(h_this, o_X9 v_kind v_worlds h_arrows h_marks v_frames v_signs h_signAt h_behind v_formulas v_failsTold v_tellsTold q.2 h_seenWhat h_seenCan v_pageLength h_page v_stage v_newKind v_newWorlds v_newFrom v_newLast v_newP v_newQ h_newArrows v_wanted v_many h_to v_pNow v_qNow h_holds h_apart v_seedNow v_keptFrame v_keptKind v_keptWorlds v_keptSeen h_keptArrows h_keptMarks h_keptWhat h_keptCan v_h)] sz) 0 0 (va_A [(h_this, o_X9 v_kind v_worlds h_arrows h_marks v_frames v_signs h_signAt h_behind v_formulas v_failsTold v_tellsTold v_seen h_seenWhat h_seenCan v_pageLength h_page v_stage v_newKind v_newWorlds v_newFrom v_newLast v_newP v_newQ h_newArrows v_wanted v_many h_to v_pNow v_qNow h_holds h_apart v_seedNow v_keptFrame v_keptKind v_keptWorlds v_keptSeen h_keptArrows h_keptMarks h_keptWhat h_keptCan v_h)] sz) := by
  unfold f_X9_forget at hf
  refine k_met RX9 rfl (by decide +kernel) (Nat.le_of_ble_eq_true rfl) ?_
  intro p e s m below meth c A ls hx hb hr hml hown hts hlocks hin hsz hAe hA hK hN hZ hD hS hP hl
  have hl : lv_has ls 2 [(0, .ref h_this)] := hl
  refine lv_aload_n hx hb dX9_forget_0 rfl (lv_at hl 0 rfl) ?_
  refine va_get (D := D) (ci := 8) (v := .int v_seen) (C := RX9) (T := TX9) (N := 41) hx hb hts inlX9 hown hK hP 0 rfl rfl 11 (by decide) (hts _ m_321) (fun _ h9 => h9) rfl dX9_forget_1 ?_
  refine lv_istore_n (lv' := [(1, .int v_seen), (0, .ref h_this)]) hx hb dX9_forget_4 rfl hl (by decide) rfl (fun ls hl => ?_)
  refine lv_aload_n hx hb dX9_forget_5 rfl (lv_at hl 1 rfl) ?_
  refine lv_iconst (v := 0) hx hb dX9_forget_6 (by decide) ?_
  refine va_put (D := D) (ci := 8) (v := .int 0) (ty := .int) (C := RX9) (T := TX9) (N := 41) hx hb hts inlX9 tyX9 tyX9_ok nmX9 hown hK hP hD hS 0 rfl rfl 11 (by decide) (hts _ m_321) (fun _ h9 => h9) rfl (by decide +kernel) rfl rfl (Nat.le_of_ble_eq_true rfl) dX9_forget_7 (fun H locs hP hD hS => ?_)
  have hP : va_P D vwCl [(h_this, o_X9 v_kind v_worlds h_arrows h_marks v_frames v_signs h_signAt h_behind v_formulas v_failsTold v_tellsTold 0 h_seenWhat h_seenCan v_pageLength h_page v_stage v_newKind v_newWorlds v_newFrom v_newLast v_newP v_newQ h_newArrows v_wanted v_many h_to v_pNow v_qNow h_holds h_apart v_seedNow v_keptFrame v_keptKind v_keptWorlds v_keptSeen h_keptArrows h_keptMarks h_keptWhat h_keptCan v_h)] H := hP
  have hD : va_D A [(h_this, o_X9 v_kind v_worlds h_arrows h_marks v_frames v_signs h_signAt h_behind v_formulas v_failsTold v_tellsTold 0 h_seenWhat h_seenCan v_pageLength h_page v_stage v_newKind v_newWorlds v_newFrom v_newLast v_newP v_newQ h_newArrows v_wanted v_many h_to v_pNow v_qNow h_holds h_apart v_seedNow v_keptFrame v_keptKind v_keptWorlds v_keptSeen h_keptArrows h_keptMarks h_keptWhat h_keptCan v_h)] := hD
  refine lv_iload_n hx hb dX9_forget_10 rfl (lv_at hl 0 rfl) ?_
  subst hf
  exact k_iret hx hb hr hlocks hAe hS hP hD dX9_forget_11
set_option maxHeartbeats 4000000 in
set_option maxRecDepth 100000 in
theorem k_X9_could (l : Launch) (D : va_G) (cB cI cJ cZ : ClassId) (tL tK : Nat) (sz : Nat)  (x1 : Int32) (x2 : Int32) (q : Int32) (hf : f_X9_could x1 x2 = q) : Met l yX9_could (.code yX9_could cX9_could 2 (some .boolean) :: k_all) { frames := 0, cells := 0, slots := 0, locals := 0 } (k_P D cB cI cJ cZ tL tK [.int x1, .int x2] [] sz) (k_I D q [] [] sz) 0 0 (va_A [] sz) := by
  unfold f_X9_could at hf
  refine k_met RX9 rfl (by decide +kernel) (Nat.le_of_ble_eq_true rfl) ?_
  intro p e s m below meth c A ls hx hb hr hml hown hts hlocks hin hsz hAe hA hK hN hZ hD hS hP hl
  have hl : lv_has ls 2 [(0, .int x1), (1, .int x2)] := hl
  refine lv_iload_n hx hb dX9_could_0 rfl (lv_at hl 1 rfl) ?_
  by_cases c1_0 : x2 = 0
  · replace hf := k_ifT c1_0 hf
    refine lv_tableIn (tgt := 28) hx hb dX9_could_1 (by rw [c1_0]; decide) (by rw [c1_0]; decide) (by rw [c1_0]; rfl) (by decide) ?_
    refine lv_iload_n hx hb dX9_could_28 rfl (lv_at hl 0 rfl) ?_
    refine lv_if_eq (tgt := 37) hx hb dX9_could_29 (by decide) (fun c29 => ?_) (fun c29 => ?_)
    · replace hf := k_ifT c29 hf
      refine lv_iconst (v := 1) hx hb dX9_could_37 (by decide) ?_
      refine lv_goto (tgt := 42) hx hb dX9_could_38 (by decide) ?_
      subst hf
      exact k_zret (r := 1) hx hb hr rfl hlocks hAe hS hP hD dX9_could_42
    · replace hf := k_ifF c29 hf
      refine lv_iload_n hx hb dX9_could_32 rfl (lv_at hl 0 rfl) ?_
      refine lv_iconst (v := 3) hx hb dX9_could_33 (by decide) ?_
      refine lv_icmp_ne (tgt := 41) hx hb dX9_could_34 (by decide) (fun c34 => ?_) (fun c34 => ?_)
      · replace hf := k_ifF c34 hf
        refine lv_iconst (v := 0) hx hb dX9_could_41 (by decide) ?_
        subst hf
        exact k_zret (r := 0) hx hb hr rfl hlocks hAe hS hP hD dX9_could_42
      · replace hf := k_ifT c34 hf
        refine lv_iconst (v := 1) hx hb dX9_could_37 (by decide) ?_
        refine lv_goto (tgt := 42) hx hb dX9_could_38 (by decide) ?_
        subst hf
        exact k_zret (r := 1) hx hb hr rfl hlocks hAe hS hP hD dX9_could_42
  · replace hf := k_ifF c1_0 hf
    by_cases c1_1 : x2 = 1
    · replace hf := k_ifT c1_1 hf
      refine lv_tableIn (tgt := 43) hx hb dX9_could_1 (by rw [c1_1]; decide) (by rw [c1_1]; decide) (by rw [c1_1]; rfl) (by decide) ?_
      refine lv_iload_n hx hb dX9_could_43 rfl (lv_at hl 0 rfl) ?_
      refine lv_if_eq (tgt := 57) hx hb dX9_could_44 (by decide) (fun c44 => ?_) (fun c44 => ?_)
      · replace hf := k_ifT c44 hf
        refine lv_iconst (v := 1) hx hb dX9_could_57 (by decide) ?_
        refine lv_goto (tgt := 62) hx hb dX9_could_58 (by decide) ?_
        subst hf
        exact k_zret (r := 1) hx hb hr rfl hlocks hAe hS hP hD dX9_could_62
      · replace hf := k_ifF c44 hf
        refine lv_iload_n hx hb dX9_could_47 rfl (lv_at hl 0 rfl) ?_
        refine lv_iconst (v := 3) hx hb dX9_could_48 (by decide) ?_
        refine lv_icmp_eq (tgt := 57) hx hb dX9_could_49 (by decide) (fun c49 => ?_) (fun c49 => ?_)
        · replace hf := k_ifT c49 hf
          refine lv_iconst (v := 1) hx hb dX9_could_57 (by decide) ?_
          refine lv_goto (tgt := 62) hx hb dX9_could_58 (by decide) ?_
          subst hf
          exact k_zret (r := 1) hx hb hr rfl hlocks hAe hS hP hD dX9_could_62
        · replace hf := k_ifF c49 hf
          refine lv_iload_n hx hb dX9_could_52 rfl (lv_at hl 0 rfl) ?_
          refine lv_iconst (v := 4) hx hb dX9_could_53 (by decide) ?_
          refine lv_icmp_ne (tgt := 61) hx hb dX9_could_54 (by decide) (fun c54 => ?_) (fun c54 => ?_)
          · replace hf := k_ifF c54 hf
            refine lv_iconst (v := 0) hx hb dX9_could_61 (by decide) ?_
            subst hf
            exact k_zret (r := 0) hx hb hr rfl hlocks hAe hS hP hD dX9_could_62
          · replace hf := k_ifT c54 hf
            refine lv_iconst (v := 1) hx hb dX9_could_57 (by decide) ?_
            refine lv_goto (tgt := 62) hx hb dX9_could_58 (by decide) ?_
            subst hf
            exact k_zret (r := 1) hx hb hr rfl hlocks hAe hS hP hD dX9_could_62
    · replace hf := k_ifF c1_1 hf
      by_cases c1_2 : x2 = 2
      · replace hf := k_ifT c1_2 hf
        refine lv_tableIn (tgt := 63) hx hb dX9_could_1 (by rw [c1_2]; decide) (by rw [c1_2]; decide) (by rw [c1_2]; rfl) (by decide) ?_
        refine lv_iload_n hx hb dX9_could_63 rfl (lv_at hl 0 rfl) ?_
        refine lv_iconst (v := 3) hx hb dX9_could_64 (by decide) ?_
        refine lv_icmp_eq (tgt := 72) hx hb dX9_could_65 (by decide) (fun c65 => ?_) (fun c65 => ?_)
        · replace hf := k_ifT c65 hf
          refine lv_iconst (v := 0) hx hb dX9_could_72 (by decide) ?_
          subst hf
          exact k_zret (r := 0) hx hb hr rfl hlocks hAe hS hP hD dX9_could_73
        · replace hf := k_ifF c65 hf
          refine lv_iconst (v := 1) hx hb dX9_could_68 (by decide) ?_
          refine lv_goto (tgt := 73) hx hb dX9_could_69 (by decide) ?_
          subst hf
          exact k_zret (r := 1) hx hb hr rfl hlocks hAe hS hP hD dX9_could_73
      · replace hf := k_ifF c1_2 hf
        refine lv_tableOut (tgt := 74) hx hb dX9_could_1 (by have := lv_neT c1_0 (show (0 : Int32).toInt = 0 by decide); have := lv_neT c1_1 (show (1 : Int32).toInt = 1 by decide); have := lv_neT c1_2 (show (2 : Int32).toInt = 2 by decide); omega) (by decide) ?_
        refine lv_iload_n hx hb dX9_could_74 rfl (lv_at hl 0 rfl) ?_
        refine lv_iconst (v := 2) hx hb dX9_could_75 (by decide) ?_
        refine lv_icmp_eq (tgt := 83) hx hb dX9_could_76 (by decide) (fun c76 => ?_) (fun c76 => ?_)
        · replace hf := k_ifT c76 hf
          refine lv_iconst (v := 0) hx hb dX9_could_83 (by decide) ?_
          subst hf
          exact k_zret (r := 0) hx hb hr rfl hlocks hAe hS hP hD dX9_could_84
        · replace hf := k_ifF c76 hf
          refine lv_iconst (v := 1) hx hb dX9_could_79 (by decide) ?_
          refine lv_goto (tgt := 84) hx hb dX9_could_80 (by decide) ?_
          subst hf
          exact k_zret (r := 1) hx hb hr rfl hlocks hAe hS hP hD dX9_could_84
set_option maxHeartbeats 4000000 in
set_option maxRecDepth 100000 in
theorem k_X9_sortsNow (l : Launch) (D : va_G) (cB cI cJ cZ : ClassId) (tL tK : Nat) (h_this h_arrows h_marks h_signAt h_behind h_seenWhat h_seenCan h_page h_newArrows h_to h_holds h_apart h_keptArrows h_keptMarks h_keptWhat h_keptCan : Nat) (sz : Nat) (v_kind : Int32) (v_worlds : Int32) (v_frames : Int32) (v_signs : Int32) (v_formulas : Int32) (v_failsTold : Int32) (v_tellsTold : Int32) (v_seen : Int32) (v_pageLength : Int32) (v_stage : Int32) (v_newKind : Int32) (v_newWorlds : Int32) (v_newFrom : Int32) (v_newLast : Int32) (v_newP : Int32) (v_newQ : Int32) (v_wanted : Int32) (v_many : Int32) (v_pNow : Int32) (v_qNow : Int32) (v_seedNow : Int64) (v_keptFrame : Int32) (v_keptKind : Int32) (v_keptWorlds : Int32) (v_keptSeen : Int32) (v_h : Int64) (v_seenWhat : (Nat → Int32)) (v_seenCan : (Nat → Int32))  (q : Int32) (hf : f_X9_sortsNow v_seen v_seenWhat v_seenCan = some q) : Met l yX9_sortsNow (.code yX9_sortsNow cX9_sortsNow 5 (some .int) :: k_all) { frames := 1, cells := 0, slots := 0, locals := 21 } (k_P D cB cI cJ cZ tL tK [.ref h_this] [(h_this, o_X9 v_kind v_worlds h_arrows h_marks v_frames v_signs h_signAt h_behind v_formulas v_failsTold v_tellsTold v_seen h_seenWhat h_seenCan v_pageLength h_page v_stage v_newKind v_newWorlds v_newFrom v_newLast v_newP v_newQ h_newArrows v_wanted v_many h_to v_pNow v_qNow h_holds h_apart v_seedNow v_keptFrame v_keptKind v_keptWorlds v_keptSeen h_keptArrows h_keptMarks h_keptWhat h_keptCan v_h), (h_seenWhat, o_I cI 6 v_seenWhat), (h_seenCan, o_I cZ 6 v_seenCan)] sz) (k_I D q [(h_this, o_X9 v_kind v_worlds h_arrows h_marks v_frames v_signs h_signAt h_behind v_formulas v_failsTold v_tellsTold v_seen h_seenWhat h_seenCan v_pageLength h_page v_stage v_newKind v_newWorlds v_newFrom v_newLast v_newP v_newQ h_newArrows v_wanted v_many h_to v_pNow v_qNow h_holds h_apart v_seedNow v_keptFrame v_keptKind v_keptWorlds v_keptSeen h_keptArrows h_keptMarks h_keptWhat h_keptCan v_h), (h_seenWhat, o_I cI 6 v_seenWhat), (h_seenCan, o_I cZ 6 v_seenCan)] [(h_this, o_X9 v_kind v_worlds h_arrows h_marks v_frames v_signs h_signAt h_behind v_formulas v_failsTold v_tellsTold v_seen h_seenWhat h_seenCan v_pageLength h_page v_stage v_newKind v_newWorlds v_newFrom v_newLast v_newP v_newQ h_newArrows v_wanted v_many h_to v_pNow v_qNow h_holds h_apart v_seedNow v_keptFrame v_keptKind v_keptWorlds v_keptSeen h_keptArrows h_keptMarks h_keptWhat h_keptCan v_h), (h_seenWhat, o_I cI 6 v_seenWhat), (h_seenCan, o_I cZ 6 v_seenCan)] sz) 0 0 (va_A [(h_this, o_X9 v_kind v_worlds h_arrows h_marks v_frames v_signs h_signAt h_behind v_formulas v_failsTold v_tellsTold v_seen h_seenWhat h_seenCan v_pageLength h_page v_stage v_newKind v_newWorlds v_newFrom v_newLast v_newP v_newQ h_newArrows v_wanted v_many h_to v_pNow v_qNow h_holds h_apart v_seedNow v_keptFrame v_keptKind v_keptWorlds v_keptSeen h_keptArrows h_keptMarks h_keptWhat h_keptCan v_h), (h_seenWhat, o_I cI 6 v_seenWhat), (h_seenCan, o_I cZ 6 v_seenCan)] sz) := by
  unfold f_X9_sortsNow at hf
  refine k_met RX9 rfl (by decide +kernel) (Nat.le_of_ble_eq_true rfl) ?_
  intro p e s m below meth c A ls hx hb hr hml hown hts hlocks hin hsz hAe hA hK hN hZ hD hS hP hl
  have hl : lv_has ls 5 [(0, .ref h_this)] := hl
  refine lv_iconst (v := 0) hx hb dX9_sortsNow_0 (by decide) ?_
  refine lv_istore_n (lv' := [(1, .int 0), (0, .ref h_this)]) hx hb dX9_sortsNow_1 rfl hl (by decide) rfl (fun ls hl => ?_)
  refine lv_iconst (v := 0) hx hb dX9_sortsNow_2 (by decide) ?_
  refine lv_istore_n (lv' := [(2, .int 0), (1, .int 0), (0, .ref h_this)]) hx hb dX9_sortsNow_3 rfl hl (by decide) rfl (fun ls hl => ?_)
  refine k_wl 80 (wsf := fun (a4 : Int32 × Int32) => [(h_this, o_X9 v_kind v_worlds h_arrows h_marks v_frames v_signs h_signAt h_behind v_formulas v_failsTold v_tellsTold v_seen h_seenWhat h_seenCan v_pageLength h_page v_stage v_newKind v_newWorlds v_newFrom v_newLast v_newP v_newQ h_newArrows v_wanted v_many h_to v_pNow v_qNow h_holds h_apart v_seedNow v_keptFrame v_keptKind v_keptWorlds v_keptSeen h_keptArrows h_keptMarks h_keptWhat h_keptCan v_h), (h_seenWhat, o_I cI 6 v_seenWhat), (h_seenCan, o_I cZ 6 v_seenCan)]) (lvf := fun (a4 : Int32 × Int32) => [(0, .ref h_this), (1, .int a4.1), (2, .int a4.2)]) hf hP hD hS (lv_sub hl [2, 1, 0] rfl) ?_ ?_
  · intro a4 H locs ls hf hP hD hS hl
    have hP : va_P D vwCl [(h_this, o_X9 v_kind v_worlds h_arrows h_marks v_frames v_signs h_signAt h_behind v_formulas v_failsTold v_tellsTold v_seen h_seenWhat h_seenCan v_pageLength h_page v_stage v_newKind v_newWorlds v_newFrom v_newLast v_newP v_newQ h_newArrows v_wanted v_many h_to v_pNow v_qNow h_holds h_apart v_seedNow v_keptFrame v_keptKind v_keptWorlds v_keptSeen h_keptArrows h_keptMarks h_keptWhat h_keptCan v_h), (h_seenWhat, o_I cI 6 v_seenWhat), (h_seenCan, o_I cZ 6 v_seenCan)] H := hP
    have hD : va_D A [(h_this, o_X9 v_kind v_worlds h_arrows h_marks v_frames v_signs h_signAt h_behind v_formulas v_failsTold v_tellsTold v_seen h_seenWhat h_seenCan v_pageLength h_page v_stage v_newKind v_newWorlds v_newFrom v_newLast v_newP v_newQ h_newArrows v_wanted v_many h_to v_pNow v_qNow h_holds h_apart v_seedNow v_keptFrame v_keptKind v_keptWorlds v_keptSeen h_keptArrows h_keptMarks h_keptWhat h_keptCan v_h), (h_seenWhat, o_I cI 6 v_seenWhat), (h_seenCan, o_I cZ 6 v_seenCan)] := hD
    have hl : lv_has ls 5 [(0, .ref h_this), (1, .int a4.1), (2, .int a4.2)] := hl
    refine lv_iload_n hx hb dX9_sortsNow_80 rfl (lv_at hl 1 rfl) ?_
    cases hf
    exact k_iret hx hb hr hlocks hAe hS hP hD dX9_sortsNow_81
  · intro ex4 rc4 hE4 hR4 a4 H locs ls hf hP hD hS hl
    have hP : va_P D vwCl [(h_this, o_X9 v_kind v_worlds h_arrows h_marks v_frames v_signs h_signAt h_behind v_formulas v_failsTold v_tellsTold v_seen h_seenWhat h_seenCan v_pageLength h_page v_stage v_newKind v_newWorlds v_newFrom v_newLast v_newP v_newQ h_newArrows v_wanted v_many h_to v_pNow v_qNow h_holds h_apart v_seedNow v_keptFrame v_keptKind v_keptWorlds v_keptSeen h_keptArrows h_keptMarks h_keptWhat h_keptCan v_h), (h_seenWhat, o_I cI 6 v_seenWhat), (h_seenCan, o_I cZ 6 v_seenCan)] H := hP
    have hD : va_D A [(h_this, o_X9 v_kind v_worlds h_arrows h_marks v_frames v_signs h_signAt h_behind v_formulas v_failsTold v_tellsTold v_seen h_seenWhat h_seenCan v_pageLength h_page v_stage v_newKind v_newWorlds v_newFrom v_newLast v_newP v_newQ h_newArrows v_wanted v_many h_to v_pNow v_qNow h_holds h_apart v_seedNow v_keptFrame v_keptKind v_keptWorlds v_keptSeen h_keptArrows h_keptMarks h_keptWhat h_keptCan v_h), (h_seenWhat, o_I cI 6 v_seenWhat), (h_seenCan, o_I cZ 6 v_seenCan)] := hD
    have hl : lv_has ls 5 [(0, .ref h_this), (1, .int a4.1), (2, .int a4.2)] := hl
    refine lv_iload_n hx hb dX9_sortsNow_4 rfl (lv_at hl 2 rfl) ?_
    refine lv_iconst (v := 4) hx hb dX9_sortsNow_5 (by decide) ?_
    refine lv_icmp_gt (tgt := 80) hx hb dX9_sortsNow_6 (by decide) (fun c6 => ?_) (fun c6 => ?_)
    · replace hf := k_ifT c6 hf
      exact hE4 _ _ _ _ hf hP hD hS (lv_sub hl [0, 1, 2] rfl)
    · replace hf := k_ifF c6 hf
      refine lv_iconst (v := 1) hx hb dX9_sortsNow_9 (by decide) ?_
      refine lv_istore_n (lv' := [(3, .int 1), (0, .ref h_this), (1, .int a4.1), (2, .int a4.2)]) hx hb dX9_sortsNow_10 rfl hl (by decide) rfl (fun ls hl => ?_)
      refine lv_iconst (v := 0) hx hb dX9_sortsNow_11 (by decide) ?_
      refine lv_istore (lv' := [(4, .int 0), (3, .int 1), (0, .ref h_this), (1, .int a4.1), (2, .int a4.2)]) hx hb dX9_sortsNow_12 hl (by decide) rfl (fun ls hl => ?_)
      refine k_wl 60 (wsf := fun (a14 : Int32 × Int32) => [(h_this, o_X9 v_kind v_worlds h_arrows h_marks v_frames v_signs h_signAt h_behind v_formulas v_failsTold v_tellsTold v_seen h_seenWhat h_seenCan v_pageLength h_page v_stage v_newKind v_newWorlds v_newFrom v_newLast v_newP v_newQ h_newArrows v_wanted v_many h_to v_pNow v_qNow h_holds h_apart v_seedNow v_keptFrame v_keptKind v_keptWorlds v_keptSeen h_keptArrows h_keptMarks h_keptWhat h_keptCan v_h), (h_seenWhat, o_I cI 6 v_seenWhat), (h_seenCan, o_I cZ 6 v_seenCan)]) (lvf := fun (a14 : Int32 × Int32) => [(0, .ref h_this), (1, .int a4.1), (2, .int a4.2), (3, .int a14.1), (4, .int a14.2)]) hf hP hD hS (lv_sub hl [2, 3, 4, 1, 0] rfl) ?_ ?_
      · intro a14 H locs ls hf hP hD hS hl
        have hP : va_P D vwCl [(h_this, o_X9 v_kind v_worlds h_arrows h_marks v_frames v_signs h_signAt h_behind v_formulas v_failsTold v_tellsTold v_seen h_seenWhat h_seenCan v_pageLength h_page v_stage v_newKind v_newWorlds v_newFrom v_newLast v_newP v_newQ h_newArrows v_wanted v_many h_to v_pNow v_qNow h_holds h_apart v_seedNow v_keptFrame v_keptKind v_keptWorlds v_keptSeen h_keptArrows h_keptMarks h_keptWhat h_keptCan v_h), (h_seenWhat, o_I cI 6 v_seenWhat), (h_seenCan, o_I cZ 6 v_seenCan)] H := hP
        have hD : va_D A [(h_this, o_X9 v_kind v_worlds h_arrows h_marks v_frames v_signs h_signAt h_behind v_formulas v_failsTold v_tellsTold v_seen h_seenWhat h_seenCan v_pageLength h_page v_stage v_newKind v_newWorlds v_newFrom v_newLast v_newP v_newQ h_newArrows v_wanted v_many h_to v_pNow v_qNow h_holds h_apart v_seedNow v_keptFrame v_keptKind v_keptWorlds v_keptSeen h_keptArrows h_keptMarks h_keptWhat h_keptCan v_h), (h_seenWhat, o_I cI 6 v_seenWhat), (h_seenCan, o_I cZ 6 v_seenCan)] := hD
        have hl : lv_has ls 5 [(0, .ref h_this), (1, .int a4.1), (2, .int a4.2), (3, .int a14.1), (4, .int a14.2)] := hl
        refine lv_iload_n hx hb dX9_sortsNow_60 rfl (lv_at hl 1 rfl) ?_
        refine lv_iload_n hx hb dX9_sortsNow_61 rfl (lv_at hl 3 rfl) ?_
        refine lv_if_eq (tgt := 71) hx hb dX9_sortsNow_62 (by decide) (fun c62 => ?_) (fun c62 => ?_)
        · replace hf := k_ifT c62 hf
          refine lv_iconst (v := 0) hx hb dX9_sortsNow_71 (by decide) ?_
          refine lv_ior hx hb dX9_sortsNow_72 ?_
          refine lv_istore_n (lv' := [(1, .int (a4.1 ||| 0)), (0, .ref h_this), (2, .int a4.2), (3, .int a14.1), (4, .int a14.2)]) hx hb dX9_sortsNow_73 rfl hl (by decide) rfl (fun ls hl => ?_)
          refine lv_iinc (v := (a4.2 + 1)) (lv' := [(2, .int (a4.2 + 1)), (1, .int (a4.1 ||| 0)), (0, .ref h_this), (3, .int a14.1), (4, .int a14.2)]) hx hb dX9_sortsNow_74 hl (k := 2) rfl rfl (by decide) rfl (fun ls hl => ?_)
          refine lv_goto (tgt := 4) hx hb dX9_sortsNow_77 (by decide) ?_
          exact hR4 _ _ _ _ hf hP hD hS (lv_sub hl [2, 1, 0] rfl)
        · replace hf := k_ifF c62 hf
          refine lv_iconst (v := 1) hx hb dX9_sortsNow_65 (by decide) ?_
          refine lv_iload_n hx hb dX9_sortsNow_66 rfl (lv_at hl 2 rfl) ?_
          refine lv_ishl hx hb dX9_sortsNow_67 ?_
          refine lv_goto (tgt := 72) hx hb dX9_sortsNow_68 (by decide) ?_
          refine lv_ior hx hb dX9_sortsNow_72 ?_
          refine lv_istore_n (lv' := [(1, .int (a4.1 ||| ((1 : Int32) <<< (a4.2 &&& 31)))), (0, .ref h_this), (2, .int a4.2), (3, .int a14.1), (4, .int a14.2)]) hx hb dX9_sortsNow_73 rfl hl (by decide) rfl (fun ls hl => ?_)
          refine lv_iinc (v := (a4.2 + 1)) (lv' := [(2, .int (a4.2 + 1)), (1, .int (a4.1 ||| ((1 : Int32) <<< (a4.2 &&& 31)))), (0, .ref h_this), (3, .int a14.1), (4, .int a14.2)]) hx hb dX9_sortsNow_74 hl (k := 2) rfl rfl (by decide) rfl (fun ls hl => ?_)
          refine lv_goto (tgt := 4) hx hb dX9_sortsNow_77 (by decide) ?_
          exact hR4 _ _ _ _ hf hP hD hS (lv_sub hl [2, 1, 0] rfl)
      · intro ex14 rc14 hE14 hR14 a14 H locs ls hf hP hD hS hl
        have hP : va_P D vwCl [(h_this, o_X9 v_kind v_worlds h_arrows h_marks v_frames v_signs h_signAt h_behind v_formulas v_failsTold v_tellsTold v_seen h_seenWhat h_seenCan v_pageLength h_page v_stage v_newKind v_newWorlds v_newFrom v_newLast v_newP v_newQ h_newArrows v_wanted v_many h_to v_pNow v_qNow h_holds h_apart v_seedNow v_keptFrame v_keptKind v_keptWorlds v_keptSeen h_keptArrows h_keptMarks h_keptWhat h_keptCan v_h), (h_seenWhat, o_I cI 6 v_seenWhat), (h_seenCan, o_I cZ 6 v_seenCan)] H := hP
        have hD : va_D A [(h_this, o_X9 v_kind v_worlds h_arrows h_marks v_frames v_signs h_signAt h_behind v_formulas v_failsTold v_tellsTold v_seen h_seenWhat h_seenCan v_pageLength h_page v_stage v_newKind v_newWorlds v_newFrom v_newLast v_newP v_newQ h_newArrows v_wanted v_many h_to v_pNow v_qNow h_holds h_apart v_seedNow v_keptFrame v_keptKind v_keptWorlds v_keptSeen h_keptArrows h_keptMarks h_keptWhat h_keptCan v_h), (h_seenWhat, o_I cI 6 v_seenWhat), (h_seenCan, o_I cZ 6 v_seenCan)] := hD
        have hl : lv_has ls 5 [(0, .ref h_this), (1, .int a4.1), (2, .int a4.2), (3, .int a14.1), (4, .int a14.2)] := hl
        refine lv_iload hx hb dX9_sortsNow_14 (lv_at hl 4 rfl) ?_
        refine lv_aload_n hx hb dX9_sortsNow_16 rfl (lv_at hl 0 rfl) ?_
        refine va_get (D := D) (ci := 8) (v := .int v_seen) (C := RX9) (T := TX9) (N := 41) hx hb hts inlX9 hown hK hP 0 rfl rfl 11 (by decide) (hts _ m_321) (fun _ h9 => h9) rfl dX9_sortsNow_17 ?_
        refine lv_icmp_ge (tgt := 60) hx hb dX9_sortsNow_20 (by decide) (fun c20 => ?_) (fun c20 => ?_)
        · replace hf := k_ifT c20 hf
          exact hE14 _ _ _ _ hf hP hD hS (lv_sub hl [0, 1, 2, 3, 4] rfl)
        · replace hf := k_ifF c20 hf
          refine lv_iload_n hx hb dX9_sortsNow_23 rfl (lv_at hl 3 rfl) ?_
          refine lv_if_eq (tgt := 52) hx hb dX9_sortsNow_24 (by decide) (fun c24 => ?_) (fun c24 => ?_)
          · replace hf := k_ifT c24 hf
            refine lv_iconst (v := 0) hx hb dX9_sortsNow_52 (by decide) ?_
            refine lv_istore_n (lv' := [(3, .int 0), (0, .ref h_this), (1, .int a4.1), (2, .int a4.2), (4, .int a14.2)]) hx hb dX9_sortsNow_53 rfl hl (by decide) rfl (fun ls hl => ?_)
            refine lv_iinc (v := (a14.2 + 1)) (lv' := [(4, .int (a14.2 + 1)), (3, .int 0), (0, .ref h_this), (1, .int a4.1), (2, .int a4.2)]) hx hb dX9_sortsNow_54 hl (k := 4) rfl rfl (by decide) rfl (fun ls hl => ?_)
            refine lv_goto (tgt := 14) hx hb dX9_sortsNow_57 (by decide) ?_
            exact hR14 _ _ _ _ hf hP hD hS (lv_sub hl [2, 3, 4, 1, 0] rfl)
          · replace hf := k_ifF c24 hf
            refine lv_iload_n hx hb dX9_sortsNow_27 rfl (lv_at hl 2 rfl) ?_
            refine lv_aload_n hx hb dX9_sortsNow_28 rfl (lv_at hl 0 rfl) ?_
            refine va_get (D := D) (ci := 8) (v := .ref h_seenWhat) (C := RX9) (T := TX9) (N := 41) hx hb hts inlX9 hown hK hP 0 rfl rfl 12 (by decide) (hts _ m_87) (fun _ h9 => h9) rfl dX9_sortsNow_29 ?_
            refine lv_iload hx hb dX9_sortsNow_32 (lv_at hl 4 rfl) ?_
            obtain ⟨hi34, hf⟩ := k_chk_some hf
            refine va_iald (D := D) hx hb hK hP 1 1 rfl rfl hi34 dX9_sortsNow_34 ?_
            refine k_calli (wN := [(h_this, o_X9 v_kind v_worlds h_arrows h_marks v_frames v_signs h_signAt h_behind v_formulas v_failsTold v_tellsTold v_seen h_seenWhat h_seenCan v_pageLength h_page v_stage v_newKind v_newWorlds v_newFrom v_newLast v_newP v_newQ h_newArrows v_wanted v_many h_to v_pNow v_qNow h_holds h_apart v_seedNow v_keptFrame v_keptKind v_keptWorlds v_keptSeen h_keptArrows h_keptMarks h_keptWhat h_keptCan v_h), (h_seenWhat, o_I cI 6 v_seenWhat), (h_seenCan, o_I cZ 6 v_seenCan)]) [] [0, 1, 2] [0, 1, 2] hP hD hS hA (va_runS (As := [.int a4.2, .int (v_seenWhat (Int32.toNatClampNeg a14.2))]) (rest := []) ⟨hx, hb, hml, hown, hts⟩ (k_X9_could l D cB cI cJ cZ tL tK _ a4.2 (v_seenWhat (Int32.toNatClampNeg a14.2)) (f_X9_could a4.2 (v_seenWhat (Int32.toNatClampNeg a14.2))) rfl) (va_cwS 2 hts (k_gS m_926 m_924 m_925 m_5) rfl rfl rfl (by decide +kernel) ⟨Nat.le_of_ble_eq_true rfl, Nat.le_of_ble_eq_true rfl⟩) (k_preS [] hK hN hZ hP hD hS hA rfl rfl) rfl rfl hl.1 rfl (lv_room (Nat.le_of_ble_eq_true rfl)) dX9_sortsNow_35 ⟨Nat.le_refl _, Nat.le_refl _⟩) rfl rfl rfl rfl rfl (fun H locs hP hD hS => ?_)
            refine lv_aload_n hx hb dX9_sortsNow_38 rfl (lv_at hl 0 rfl) ?_
            refine va_get (D := D) (ci := 8) (v := .ref h_seenCan) (C := RX9) (T := TX9) (N := 41) hx hb hts inlX9 hown hK hP 0 rfl rfl 13 (by decide) (hts _ m_88) (fun _ h9 => h9) rfl dX9_sortsNow_39 ?_
            refine lv_iload hx hb dX9_sortsNow_42 (lv_at hl 4 rfl) ?_
            obtain ⟨hi44, hf⟩ := k_chk_some hf
            refine va_zald (D := D) hx hb hK hP 2 3 rfl rfl hi44 dX9_sortsNow_44 ?_
            refine lv_icmp_ne (tgt := 52) hx hb dX9_sortsNow_45 (by decide) (fun c45 => ?_) (fun c45 => ?_)
            · replace hf := k_ifF c45 hf
              refine lv_iconst (v := 0) hx hb dX9_sortsNow_52 (by decide) ?_
              refine lv_istore_n (lv' := [(3, .int 0), (0, .ref h_this), (1, .int a4.1), (2, .int a4.2), (4, .int a14.2)]) hx hb dX9_sortsNow_53 rfl hl (by decide) rfl (fun ls hl => ?_)
              refine lv_iinc (v := (a14.2 + 1)) (lv' := [(4, .int (a14.2 + 1)), (3, .int 0), (0, .ref h_this), (1, .int a4.1), (2, .int a4.2)]) hx hb dX9_sortsNow_54 hl (k := 4) rfl rfl (by decide) rfl (fun ls hl => ?_)
              refine lv_goto (tgt := 14) hx hb dX9_sortsNow_57 (by decide) ?_
              exact hR14 _ _ _ _ hf hP hD hS (lv_sub hl [2, 3, 4, 1, 0] rfl)
            · replace hf := k_ifT c45 hf
              refine lv_iconst (v := 1) hx hb dX9_sortsNow_48 (by decide) ?_
              refine lv_goto (tgt := 53) hx hb dX9_sortsNow_49 (by decide) ?_
              refine lv_istore_n (lv' := [(3, .int 1), (0, .ref h_this), (1, .int a4.1), (2, .int a4.2), (4, .int a14.2)]) hx hb dX9_sortsNow_53 rfl hl (by decide) rfl (fun ls hl => ?_)
              refine lv_iinc (v := (a14.2 + 1)) (lv' := [(4, .int (a14.2 + 1)), (3, .int 1), (0, .ref h_this), (1, .int a4.1), (2, .int a4.2)]) hx hb dX9_sortsNow_54 hl (k := 4) rfl rfl (by decide) rfl (fun ls hl => ?_)
              refine lv_goto (tgt := 14) hx hb dX9_sortsNow_57 (by decide) ?_
              exact hR14 _ _ _ _ hf hP hD hS (lv_sub hl [2, 3, 4, 1, 0] rfl)
set_option maxHeartbeats 4000000 in
set_option maxRecDepth 100000 in
theorem k_X9_size (l : Launch) (D : va_G) (cB cI cJ cZ : ClassId) (tL tK : Nat) (sz : Nat)  (x1 : Int32) (q : Int32) (hf : f_X9_size x1 = some q) : Met l yX9_size (.code yX9_size cX9_size 3 (some .int) :: k_all) { frames := 0, cells := 0, slots := 0, locals := 0 } (k_P D cB cI cJ cZ tL tK [.int x1] [] sz) (k_I D q [] [] sz) 0 0 (va_A [] sz) := by
  unfold f_X9_size at hf
  refine k_met RX9 rfl (by decide +kernel) (Nat.le_of_ble_eq_true rfl) ?_
  intro p e s m below meth c A ls hx hb hr hml hown hts hlocks hin hsz hAe hA hK hN hZ hD hS hP hl
  have hl : lv_has ls 3 [(0, .int x1)] := hl
  refine lv_iconst (v := 0) hx hb dX9_size_0 (by decide) ?_
  refine lv_istore_n (lv' := [(1, .int 0), (0, .int x1)]) hx hb dX9_size_1 rfl hl (by decide) rfl (fun ls hl => ?_)
  refine lv_iconst (v := 0) hx hb dX9_size_2 (by decide) ?_
  refine lv_istore_n (lv' := [(2, .int 0), (1, .int 0), (0, .int x1)]) hx hb dX9_size_3 rfl hl (by decide) rfl (fun ls hl => ?_)
  refine k_wl 24 (wsf := fun (a4 : Int32 × Int32) => []) (lvf := fun (a4 : Int32 × Int32) => [(0, .int x1), (1, .int a4.1), (2, .int a4.2)]) hf hP hD hS (lv_sub hl [2, 1, 0] rfl) ?_ ?_
  · intro a4 H locs ls hf hP hD hS hl
    have hP : va_P D vwCl [] H := hP
    have hD : va_D A [] := hD
    have hl : lv_has ls 3 [(0, .int x1), (1, .int a4.1), (2, .int a4.2)] := hl
    refine lv_iload_n hx hb dX9_size_24 rfl (lv_at hl 1 rfl) ?_
    cases hf
    exact k_iret hx hb hr hlocks hAe hS hP hD dX9_size_25
  · intro ex4 rc4 hE4 hR4 a4 H locs ls hf hP hD hS hl
    have hP : va_P D vwCl [] H := hP
    have hD : va_D A [] := hD
    have hl : lv_has ls 3 [(0, .int x1), (1, .int a4.1), (2, .int a4.2)] := hl
    refine lv_iload_n hx hb dX9_size_4 rfl (lv_at hl 2 rfl) ?_
    refine lv_bipush (v := 16) hx hb dX9_size_5 (by decide) ?_
    refine lv_icmp_ge (tgt := 24) hx hb dX9_size_7 (by decide) (fun c7 => ?_) (fun c7 => ?_)
    · replace hf := k_ifT c7 hf
      exact hE4 _ _ _ _ hf hP hD hS (lv_sub hl [0, 1, 2] rfl)
    · replace hf := k_ifF c7 hf
      refine lv_iload_n hx hb dX9_size_10 rfl (lv_at hl 1 rfl) ?_
      refine lv_iload_n hx hb dX9_size_11 rfl (lv_at hl 0 rfl) ?_
      refine lv_iload_n hx hb dX9_size_12 rfl (lv_at hl 2 rfl) ?_
      refine lv_ishr hx hb dX9_size_13 ?_
      refine lv_iconst (v := 1) hx hb dX9_size_14 (by decide) ?_
      refine lv_iand hx hb dX9_size_15 ?_
      refine lv_iadd hx hb dX9_size_16 ?_
      refine lv_istore_n (lv' := [(1, .int (a4.1 + ((x1 >>> (a4.2 &&& 31)) &&& 1))), (0, .int x1), (2, .int a4.2)]) hx hb dX9_size_17 rfl hl (by decide) rfl (fun ls hl => ?_)
      refine lv_iinc (v := (a4.2 + 1)) (lv' := [(2, .int (a4.2 + 1)), (1, .int (a4.1 + ((x1 >>> (a4.2 &&& 31)) &&& 1))), (0, .int x1)]) hx hb dX9_size_18 hl (k := 2) rfl rfl (by decide) rfl (fun ls hl => ?_)
      refine lv_goto (tgt := 4) hx hb dX9_size_21 (by decide) ?_
      exact hR4 _ _ _ _ hf hP hD hS (lv_sub hl [2, 1, 0] rfl)
