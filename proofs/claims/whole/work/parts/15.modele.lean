set_option maxHeartbeats 4000000 in
set_option maxRecDepth 100000 in
theorem k_X9_add (l : Launch) (D : va_G) (cB cI cJ cZ : ClassId) (tL tK : Nat) (h_this h_arrows h_marks h_signAt h_behind h_seenWhat h_seenCan h_page h_newArrows h_to h_holds h_apart h_keptArrows h_keptMarks h_keptWhat h_keptCan : Nat) (sz : Nat) (v_kind : Int32) (v_worlds : Int32) (v_frames : Int32) (v_signs : Int32) (v_formulas : Int32) (v_failsTold : Int32) (v_tellsTold : Int32) (v_seen : Int32) (v_pageLength : Int32) (v_stage : Int32) (v_newKind : Int32) (v_newWorlds : Int32) (v_newFrom : Int32) (v_newLast : Int32) (v_newP : Int32) (v_newQ : Int32) (v_wanted : Int32) (v_many : Int32) (v_pNow : Int32) (v_qNow : Int32) (v_seedNow : Int64) (v_keptFrame : Int32) (v_keptKind : Int32) (v_keptWorlds : Int32) (v_keptSeen : Int32) (v_h : Int64) (v_arrows : (Nat → Int32)) (v_marks : (Nat → Int32))  (q : Int32 × Int32 × (Nat → Int32) × (Nat → Int32)) (hf : f_X9_add v_worlds v_arrows v_marks = some q) : Met l yX9_add (.code yX9_add cX9_add 1 (some .int) :: k_all) { frames := 1, cells := 0, slots := 0, locals := 22 } (k_P D cB cI cJ cZ tL tK [.ref h_this] [(h_this, o_X9 v_kind v_worlds h_arrows h_marks v_frames v_signs h_signAt h_behind v_formulas v_failsTold v_tellsTold v_seen h_seenWhat h_seenCan v_pageLength h_page v_stage v_newKind v_newWorlds v_newFrom v_newLast v_newP v_newQ h_newArrows v_wanted v_many h_to v_pNow v_qNow h_holds h_apart v_seedNow v_keptFrame v_keptKind v_keptWorlds v_keptSeen h_keptArrows h_keptMarks h_keptWhat h_keptCan v_h), (h_arrows, o_I cZ 16 v_arrows), (h_marks, o_I cI 4 v_marks)] sz) (k_I D q.1 [(h_this, o_X9 v_kind v_worlds h_arrows h_marks v_frames v_signs h_signAt h_behind v_formulas v_failsTold v_tellsTold v_seen h_seenWhat h_seenCan v_pageLength h_page v_stage v_newKind v_newWorlds v_newFrom v_newLast v_newP v_newQ h_newArrows v_wanted v_many h_to v_pNow v_qNow h_holds h_apart v_seedNow v_keptFrame v_keptKind v_keptWorlds v_keptSeen h_keptArrows h_keptMarks h_keptWhat h_keptCan v_h), (h_arrows, o_I cZ 16 v_arrows), (h_marks, o_I cI 4 v_marks)] [(h_this, o_X9 v_kind q.2.1 h_arrows h_marks v_frames v_signs h_signAt h_behind v_formulas v_failsTold v_tellsTold v_seen h_seenWhat h_seenCan v_pageLength h_page v_stage v_newKind v_newWorlds v_newFrom v_newLast v_newP v_newQ h_newArrows v_wanted v_many h_to v_pNow v_qNow h_holds h_apart v_seedNow v_keptFrame v_keptKind v_keptWorlds v_keptSeen h_keptArrows h_keptMarks h_keptWhat h_keptCan v_h), (h_arrows, o_I cZ 16 q.2.2.1), (h_marks, o_I cI 4 q.2.2.2)] sz) 0 0 (va_A [(h_this, o_X9 v_kind v_worlds h_arrows h_marks v_frames v_signs h_signAt h_behind v_formulas v_failsTold v_tellsTold v_seen h_seenWhat h_seenCan v_pageLength h_page v_stage v_newKind v_newWorlds v_newFrom v_newLast v_newP v_newQ h_newArrows v_wanted v_many h_to v_pNow v_qNow h_holds h_apart v_seedNow v_keptFrame v_keptKind v_keptWorlds v_keptSeen h_keptArrows h_keptMarks h_keptWhat h_keptCan v_h), (h_arrows, o_I cZ 16 v_arrows), (h_marks, o_I cI 4 v_marks)] sz) := by
  unfold f_X9_add at hf
  refine k_met RX9 rfl (by decide +kernel) (Nat.le_of_ble_eq_true rfl) ?_
  intro p e s m below meth c A ls hx hb hr hml hown hts hlocks hin hsz hAe hA hK hN hZ hD hS hP hl
  have hl : lv_has ls 1 [(0, .ref h_this)] := hl
  refine lv_aload_n hx hb dX9_add_0 rfl (lv_at hl 0 rfl) ?_
  refine k_calli (wN := [(h_this, o_X9 v_kind v_worlds h_arrows h_marks v_frames v_signs h_signAt h_behind v_formulas v_failsTold v_tellsTold v_seen h_seenWhat h_seenCan v_pageLength h_page v_stage v_newKind v_newWorlds v_newFrom v_newLast v_newP v_newQ h_newArrows v_wanted v_many h_to v_pNow v_qNow h_holds h_apart v_seedNow v_keptFrame v_keptKind v_keptWorlds v_keptSeen h_keptArrows h_keptMarks h_keptWhat h_keptCan v_h), (h_arrows, o_I cZ 16 v_arrows), (h_marks, o_I cI 4 v_marks)]) [0] [1, 2] [2, 0, 1] hP hD hS hA (va_runV (As := []) (rest := []) ⟨hx, hb, hml, hown, hts⟩ (k_X9_isFrame l D cB cI cJ cZ tL tK h_this h_arrows h_marks h_signAt h_behind h_seenWhat h_seenCan h_page h_newArrows h_to h_holds h_apart h_keptArrows h_keptMarks h_keptWhat h_keptCan _ v_kind v_worlds v_frames v_signs v_formulas v_failsTold v_tellsTold v_seen v_pageLength v_stage v_newKind v_newWorlds v_newFrom v_newLast v_newP v_newQ v_wanted v_many v_pNow v_qNow v_seedNow v_keptFrame v_keptKind v_keptWorlds v_keptSeen v_h (f_X9_isFrame v_worlds) rfl) (cwV 0 hts (k_gV m_444 m_441 m_442 m_443 m_5) rfl rfl rfl (by decide +kernel) ⟨Nat.le_of_ble_eq_true rfl, Nat.le_of_ble_eq_true rfl⟩) (k_preV [0] hK hN hZ hP hD hS hA rfl rfl (va_recv hK hP (ci := 8) (q0 := 0) rfl rfl)) rfl rfl hl.1 rfl (lv_room (Nat.le_of_ble_eq_true rfl)) dX9_add_1 ⟨Nat.le_refl _, Nat.le_refl _⟩) rfl rfl rfl rfl rfl (fun H locs hP hD hS => ?_)
  refine lv_if_ne (tgt := 10) hx hb dX9_add_4 (by decide) (fun c4 => ?_) (fun c4 => ?_)
  · replace hf := k_ifF c4 hf
    refine lv_aload_n hx hb dX9_add_10 rfl (lv_at hl 0 rfl) ?_
    refine va_get (D := D) (ci := 8) (v := .int v_worlds) (C := RX9) (T := TX9) (N := 41) hx hb hts inlX9 hown hK hP 0 rfl rfl 1 (by decide) (hts _ m_319) (fun _ h9 => h9) rfl dX9_add_11 ?_
    refine lv_iconst (v := 4) hx hb dX9_add_14 (by decide) ?_
    refine lv_icmp_ne (tgt := 21) hx hb dX9_add_15 (by decide) (fun c15 => ?_) (fun c15 => ?_)
    · replace hf := k_ifF c15 hf
      refine lv_aload_n hx hb dX9_add_21 rfl (lv_at hl 0 rfl) ?_
      refine lv_aload_n hx hb dX9_add_22 rfl (lv_at hl 0 rfl) ?_
      refine va_get (D := D) (ci := 8) (v := .int v_worlds) (C := RX9) (T := TX9) (N := 41) hx hb hts inlX9 hown hK hP 0 rfl rfl 1 (by decide) (hts _ m_319) (fun _ h9 => h9) rfl dX9_add_23 ?_
      obtain ⟨q26, hq26, hf⟩ := k_bind hf
      refine k_callv (wN := [(h_this, o_X9 v_kind v_worlds h_arrows h_marks v_frames v_signs h_signAt h_behind v_formulas v_failsTold v_tellsTold v_seen h_seenWhat h_seenCan v_pageLength h_page v_stage v_newKind v_newWorlds v_newFrom v_newLast v_newP v_newQ h_newArrows v_wanted v_many h_to v_pNow v_qNow h_holds h_apart v_seedNow v_keptFrame v_keptKind v_keptWorlds v_keptSeen h_keptArrows h_keptMarks h_keptWhat h_keptCan v_h), (h_arrows, o_I cZ 16 q26.1), (h_marks, o_I cI 4 q26.2)]) [0, 1, 2] [] [0, 1, 2] hP hD hS hA (va_runV (As := [.int v_worlds]) (rest := []) ⟨hx, hb, hml, hown, hts⟩ (k_X9_emptyWorld l D cB cI cJ cZ tL tK h_this h_arrows h_marks h_signAt h_behind h_seenWhat h_seenCan h_page h_newArrows h_to h_holds h_apart h_keptArrows h_keptMarks h_keptWhat h_keptCan _ v_kind v_worlds v_frames v_signs v_formulas v_failsTold v_tellsTold v_seen v_pageLength v_stage v_newKind v_newWorlds v_newFrom v_newLast v_newP v_newQ v_wanted v_many v_pNow v_qNow v_seedNow v_keptFrame v_keptKind v_keptWorlds v_keptSeen v_h v_arrows v_marks v_worlds q26 hq26) (cwV 1 hts (k_gV m_703 m_700 m_701 m_702 m_5) rfl rfl rfl (by decide +kernel) ⟨Nat.le_of_ble_eq_true rfl, Nat.le_of_ble_eq_true rfl⟩) (k_preV [0, 1, 2] hK hN hZ hP hD hS hA rfl rfl (va_recv hK hP (ci := 8) (q0 := 0) rfl rfl)) rfl rfl hl.1 rfl (lv_room (Nat.le_of_ble_eq_true rfl)) dX9_add_26 ⟨Nat.le_refl _, Nat.le_refl _⟩) rfl rfl rfl rfl rfl (fun H locs hP hD hS => ?_)
      refine lv_aload_n hx hb dX9_add_29 rfl (lv_at hl 0 rfl) ?_
      refine lv_dup hx hb dX9_add_30 rfl ?_
      refine va_get (D := D) (ci := 8) (v := .int v_worlds) (C := RX9) (T := TX9) (N := 41) hx hb hts inlX9 hown hK hP 0 rfl rfl 1 (by decide) (hts _ m_319) (fun _ h9 => h9) rfl dX9_add_31 ?_
      refine lv_iconst (v := 1) hx hb dX9_add_34 (by decide) ?_
      refine lv_iadd hx hb dX9_add_35 ?_
      refine va_put (D := D) (ci := 8) (v := .int (v_worlds + 1)) (ty := .int) (C := RX9) (T := TX9) (N := 41) hx hb hts inlX9 tyX9 tyX9_ok nmX9 hown hK hP hD hS 0 rfl rfl 1 (by decide) (hts _ m_319) (fun _ h9 => h9) rfl (by decide +kernel) rfl rfl (Nat.le_of_ble_eq_true rfl) dX9_add_36 (fun H locs hP hD hS => ?_)
      have hP : va_P D vwCl [(h_this, o_X9 v_kind (v_worlds + 1) h_arrows h_marks v_frames v_signs h_signAt h_behind v_formulas v_failsTold v_tellsTold v_seen h_seenWhat h_seenCan v_pageLength h_page v_stage v_newKind v_newWorlds v_newFrom v_newLast v_newP v_newQ h_newArrows v_wanted v_many h_to v_pNow v_qNow h_holds h_apart v_seedNow v_keptFrame v_keptKind v_keptWorlds v_keptSeen h_keptArrows h_keptMarks h_keptWhat h_keptCan v_h), (h_arrows, o_I cZ 16 q26.1), (h_marks, o_I cI 4 q26.2)] H := hP
      have hD : va_D A [(h_this, o_X9 v_kind (v_worlds + 1) h_arrows h_marks v_frames v_signs h_signAt h_behind v_formulas v_failsTold v_tellsTold v_seen h_seenWhat h_seenCan v_pageLength h_page v_stage v_newKind v_newWorlds v_newFrom v_newLast v_newP v_newQ h_newArrows v_wanted v_many h_to v_pNow v_qNow h_holds h_apart v_seedNow v_keptFrame v_keptKind v_keptWorlds v_keptSeen h_keptArrows h_keptMarks h_keptWhat h_keptCan v_h), (h_arrows, o_I cZ 16 q26.1), (h_marks, o_I cI 4 q26.2)] := hD
      refine lv_aload_n hx hb dX9_add_39 rfl (lv_at hl 0 rfl) ?_
      refine va_get (D := D) (ci := 8) (v := .int (v_worlds + 1)) (C := RX9) (T := TX9) (N := 41) hx hb hts inlX9 hown hK hP 0 rfl rfl 1 (by decide) (hts _ m_319) (fun _ h9 => h9) rfl dX9_add_40 ?_
      refine lv_iconst (v := 1) hx hb dX9_add_43 (by decide) ?_
      refine lv_isub hx hb dX9_add_44 ?_
      cases hf
      exact k_iret hx hb hr hlocks hAe hS hP hD dX9_add_45
    · replace hf := k_ifT c15 hf
      refine lv_bipush (v := (-104)) hx hb dX9_add_18 (by decide) ?_
      cases hf
      exact k_iret hx hb hr hlocks hAe hS hP hD dX9_add_20
  · replace hf := k_ifT c4 hf
    refine lv_bipush (v := (-103)) hx hb dX9_add_7 (by decide) ?_
    cases hf
    exact k_iret hx hb hr hlocks hAe hS hP hD dX9_add_9
set_option maxHeartbeats 4000000 in
set_option maxRecDepth 100000 in
theorem k_X9_moveDown (l : Launch) (D : va_G) (cB cI cJ cZ : ClassId) (tL tK : Nat) (h_this h_arrows h_marks h_signAt h_behind h_seenWhat h_seenCan h_page h_newArrows h_to h_holds h_apart h_keptArrows h_keptMarks h_keptWhat h_keptCan : Nat) (sz : Nat) (v_kind : Int32) (v_worlds : Int32) (v_frames : Int32) (v_signs : Int32) (v_formulas : Int32) (v_failsTold : Int32) (v_tellsTold : Int32) (v_seen : Int32) (v_pageLength : Int32) (v_stage : Int32) (v_newKind : Int32) (v_newWorlds : Int32) (v_newFrom : Int32) (v_newLast : Int32) (v_newP : Int32) (v_newQ : Int32) (v_wanted : Int32) (v_many : Int32) (v_pNow : Int32) (v_qNow : Int32) (v_seedNow : Int64) (v_keptFrame : Int32) (v_keptKind : Int32) (v_keptWorlds : Int32) (v_keptSeen : Int32) (v_h : Int64) (v_arrows : (Nat → Int32)) (v_marks : (Nat → Int32)) (x1 : Int32) (q : (Nat → Int32) × (Nat → Int32)) (hf : f_X9_moveDown v_arrows v_marks x1 = some q) : Met l yX9_moveDown (.code yX9_moveDown cX9_moveDown 3 none :: k_all) { frames := 0, cells := 0, slots := 0, locals := 0 } (k_P D cB cI cJ cZ tL tK [.ref h_this, .int x1] [(h_this, o_X9 v_kind v_worlds h_arrows h_marks v_frames v_signs h_signAt h_behind v_formulas v_failsTold v_tellsTold v_seen h_seenWhat h_seenCan v_pageLength h_page v_stage v_newKind v_newWorlds v_newFrom v_newLast v_newP v_newQ h_newArrows v_wanted v_many h_to v_pNow v_qNow h_holds h_apart v_seedNow v_keptFrame v_keptKind v_keptWorlds v_keptSeen h_keptArrows h_keptMarks h_keptWhat h_keptCan v_h), (h_arrows, o_I cZ 16 v_arrows), (h_marks, o_I cI 4 v_marks)] sz) (k_V D [(h_this, o_X9 v_kind v_worlds h_arrows h_marks v_frames v_signs h_signAt h_behind v_formulas v_failsTold v_tellsTold v_seen h_seenWhat h_seenCan v_pageLength h_page v_stage v_newKind v_newWorlds v_newFrom v_newLast v_newP v_newQ h_newArrows v_wanted v_many h_to v_pNow v_qNow h_holds h_apart v_seedNow v_keptFrame v_keptKind v_keptWorlds v_keptSeen h_keptArrows h_keptMarks h_keptWhat h_keptCan v_h), (h_arrows, o_I cZ 16 v_arrows), (h_marks, o_I cI 4 v_marks)] [(h_this, o_X9 v_kind v_worlds h_arrows h_marks v_frames v_signs h_signAt h_behind v_formulas v_failsTold v_tellsTold v_seen h_seenWhat h_seenCan v_pageLength h_page v_stage v_newKind v_newWorlds v_newFrom v_newLast v_newP v_newQ h_newArrows v_wanted v_many h_to v_pNow v_qNow h_holds h_apart v_seedNow v_keptFrame v_keptKind v_keptWorlds v_keptSeen h_keptArrows h_keptMarks h_keptWhat h_keptCan v_h), (h_arrows, o_I cZ 16 q.1), (h_marks, o_I cI 4 q.2)] sz) 0 0 (va_A [(h_this, o_X9 v_kind v_worlds h_arrows h_marks v_frames v_signs h_signAt h_behind v_formulas v_failsTold v_tellsTold v_seen h_seenWhat h_seenCan v_pageLength h_page v_stage v_newKind v_newWorlds v_newFrom v_newLast v_newP v_newQ h_newArrows v_wanted v_many h_to v_pNow v_qNow h_holds h_apart v_seedNow v_keptFrame v_keptKind v_keptWorlds v_keptSeen h_keptArrows h_keptMarks h_keptWhat h_keptCan v_h), (h_arrows, o_I cZ 16 v_arrows), (h_marks, o_I cI 4 v_marks)] sz) := by
  unfold f_X9_moveDown at hf
  refine k_met RX9 rfl (by decide +kernel) (Nat.le_of_ble_eq_true rfl) ?_
  intro p e s m below meth c A ls hx hb hr hml hown hts hlocks hin hsz hAe hA hK hN hZ hD hS hP hl
  have hl : lv_has ls 3 [(0, .ref h_this), (1, .int x1)] := hl
  refine lv_aload_n hx hb dX9_moveDown_0 rfl (lv_at hl 0 rfl) ?_
  refine va_get (D := D) (ci := 8) (v := .ref h_marks) (C := RX9) (T := TX9) (N := 41) hx hb hts inlX9 hown hK hP 0 rfl rfl 3 (by decide) (hts _ m_83) (fun _ h9 => h9) rfl dX9_moveDown_1 ?_
  refine lv_iload_n hx hb dX9_moveDown_4 rfl (lv_at hl 1 rfl) ?_
  refine lv_aload_n hx hb dX9_moveDown_5 rfl (lv_at hl 0 rfl) ?_
  refine va_get (D := D) (ci := 8) (v := .ref h_marks) (C := RX9) (T := TX9) (N := 41) hx hb hts inlX9 hown hK hP 0 rfl rfl 3 (by decide) (hts _ m_83) (fun _ h9 => h9) rfl dX9_moveDown_6 ?_
  refine lv_iload_n hx hb dX9_moveDown_9 rfl (lv_at hl 1 rfl) ?_
  refine lv_iconst (v := 1) hx hb dX9_moveDown_10 (by decide) ?_
  refine lv_iadd hx hb dX9_moveDown_11 ?_
  obtain ⟨hi12, hf⟩ := k_chk_some hf
  refine va_iald (D := D) hx hb hK hP 2 1 rfl rfl hi12 dX9_moveDown_12 ?_
  obtain ⟨hi13, hf⟩ := k_chk_some hf
  refine va_iast (D := D) hx hb hK hP hD hS 2 1 rfl rfl hi13 dX9_moveDown_13 (fun H locs hP hD hS => ?_)
  have hP : va_P D vwCl [(h_this, o_X9 v_kind v_worlds h_arrows h_marks v_frames v_signs h_signAt h_behind v_formulas v_failsTold v_tellsTold v_seen h_seenWhat h_seenCan v_pageLength h_page v_stage v_newKind v_newWorlds v_newFrom v_newLast v_newP v_newQ h_newArrows v_wanted v_many h_to v_pNow v_qNow h_holds h_apart v_seedNow v_keptFrame v_keptKind v_keptWorlds v_keptSeen h_keptArrows h_keptMarks h_keptWhat h_keptCan v_h), (h_arrows, o_I cZ 16 v_arrows), (h_marks, o_I cI 4 (upd v_marks (Int32.toNatClampNeg x1) (v_marks (Int32.toNatClampNeg (x1 + 1)))))] H := hP
  have hD : va_D A [(h_this, o_X9 v_kind v_worlds h_arrows h_marks v_frames v_signs h_signAt h_behind v_formulas v_failsTold v_tellsTold v_seen h_seenWhat h_seenCan v_pageLength h_page v_stage v_newKind v_newWorlds v_newFrom v_newLast v_newP v_newQ h_newArrows v_wanted v_many h_to v_pNow v_qNow h_holds h_apart v_seedNow v_keptFrame v_keptKind v_keptWorlds v_keptSeen h_keptArrows h_keptMarks h_keptWhat h_keptCan v_h), (h_arrows, o_I cZ 16 v_arrows), (h_marks, o_I cI 4 (upd v_marks (Int32.toNatClampNeg x1) (v_marks (Int32.toNatClampNeg (x1 + 1)))))] := hD
  refine lv_iconst (v := 0) hx hb dX9_moveDown_14 (by decide) ?_
  refine lv_istore_n (lv' := [(2, .int 0), (0, .ref h_this), (1, .int x1)]) hx hb dX9_moveDown_15 rfl hl (by decide) rfl (fun ls hl => ?_)
  refine k_wl 49 (wsf := fun (a16 : Int32 × (Nat → Int32)) => [(h_this, o_X9 v_kind v_worlds h_arrows h_marks v_frames v_signs h_signAt h_behind v_formulas v_failsTold v_tellsTold v_seen h_seenWhat h_seenCan v_pageLength h_page v_stage v_newKind v_newWorlds v_newFrom v_newLast v_newP v_newQ h_newArrows v_wanted v_many h_to v_pNow v_qNow h_holds h_apart v_seedNow v_keptFrame v_keptKind v_keptWorlds v_keptSeen h_keptArrows h_keptMarks h_keptWhat h_keptCan v_h), (h_arrows, o_I cZ 16 a16.2), (h_marks, o_I cI 4 (upd v_marks (Int32.toNatClampNeg x1) (v_marks (Int32.toNatClampNeg (x1 + 1)))))]) (lvf := fun (a16 : Int32 × (Nat → Int32)) => [(0, .ref h_this), (1, .int x1), (2, .int a16.1)]) hf hP hD hS (lv_sub hl [1, 2, 0] rfl) ?_ ?_
  · intro a16 H locs ls hf hP hD hS hl
    have hP : va_P D vwCl [(h_this, o_X9 v_kind v_worlds h_arrows h_marks v_frames v_signs h_signAt h_behind v_formulas v_failsTold v_tellsTold v_seen h_seenWhat h_seenCan v_pageLength h_page v_stage v_newKind v_newWorlds v_newFrom v_newLast v_newP v_newQ h_newArrows v_wanted v_many h_to v_pNow v_qNow h_holds h_apart v_seedNow v_keptFrame v_keptKind v_keptWorlds v_keptSeen h_keptArrows h_keptMarks h_keptWhat h_keptCan v_h), (h_arrows, o_I cZ 16 a16.2), (h_marks, o_I cI 4 (upd v_marks (Int32.toNatClampNeg x1) (v_marks (Int32.toNatClampNeg (x1 + 1)))))] H := hP
    have hD : va_D A [(h_this, o_X9 v_kind v_worlds h_arrows h_marks v_frames v_signs h_signAt h_behind v_formulas v_failsTold v_tellsTold v_seen h_seenWhat h_seenCan v_pageLength h_page v_stage v_newKind v_newWorlds v_newFrom v_newLast v_newP v_newQ h_newArrows v_wanted v_many h_to v_pNow v_qNow h_holds h_apart v_seedNow v_keptFrame v_keptKind v_keptWorlds v_keptSeen h_keptArrows h_keptMarks h_keptWhat h_keptCan v_h), (h_arrows, o_I cZ 16 a16.2), (h_marks, o_I cI 4 (upd v_marks (Int32.toNatClampNeg x1) (v_marks (Int32.toNatClampNeg (x1 + 1)))))] := hD
    have hl : lv_has ls 3 [(0, .ref h_this), (1, .int x1), (2, .int a16.1)] := hl
    refine lv_iconst (v := 0) hx hb dX9_moveDown_49 (by decide) ?_
    refine lv_istore_n (lv' := [(2, .int 0), (0, .ref h_this), (1, .int x1)]) hx hb dX9_moveDown_50 rfl hl (by decide) rfl (fun ls hl => ?_)
    refine k_wl 84 (wsf := fun (a51 : Int32 × (Nat → Int32)) => [(h_this, o_X9 v_kind v_worlds h_arrows h_marks v_frames v_signs h_signAt h_behind v_formulas v_failsTold v_tellsTold v_seen h_seenWhat h_seenCan v_pageLength h_page v_stage v_newKind v_newWorlds v_newFrom v_newLast v_newP v_newQ h_newArrows v_wanted v_many h_to v_pNow v_qNow h_holds h_apart v_seedNow v_keptFrame v_keptKind v_keptWorlds v_keptSeen h_keptArrows h_keptMarks h_keptWhat h_keptCan v_h), (h_arrows, o_I cZ 16 a51.2), (h_marks, o_I cI 4 (upd v_marks (Int32.toNatClampNeg x1) (v_marks (Int32.toNatClampNeg (x1 + 1)))))]) (lvf := fun (a51 : Int32 × (Nat → Int32)) => [(0, .ref h_this), (1, .int x1), (2, .int a51.1)]) hf hP hD hS (lv_sub hl [1, 2, 0] rfl) ?_ ?_
    · intro a51 H locs ls hf hP hD hS hl
      have hP : va_P D vwCl [(h_this, o_X9 v_kind v_worlds h_arrows h_marks v_frames v_signs h_signAt h_behind v_formulas v_failsTold v_tellsTold v_seen h_seenWhat h_seenCan v_pageLength h_page v_stage v_newKind v_newWorlds v_newFrom v_newLast v_newP v_newQ h_newArrows v_wanted v_many h_to v_pNow v_qNow h_holds h_apart v_seedNow v_keptFrame v_keptKind v_keptWorlds v_keptSeen h_keptArrows h_keptMarks h_keptWhat h_keptCan v_h), (h_arrows, o_I cZ 16 a51.2), (h_marks, o_I cI 4 (upd v_marks (Int32.toNatClampNeg x1) (v_marks (Int32.toNatClampNeg (x1 + 1)))))] H := hP
      have hD : va_D A [(h_this, o_X9 v_kind v_worlds h_arrows h_marks v_frames v_signs h_signAt h_behind v_formulas v_failsTold v_tellsTold v_seen h_seenWhat h_seenCan v_pageLength h_page v_stage v_newKind v_newWorlds v_newFrom v_newLast v_newP v_newQ h_newArrows v_wanted v_many h_to v_pNow v_qNow h_holds h_apart v_seedNow v_keptFrame v_keptKind v_keptWorlds v_keptSeen h_keptArrows h_keptMarks h_keptWhat h_keptCan v_h), (h_arrows, o_I cZ 16 a51.2), (h_marks, o_I cI 4 (upd v_marks (Int32.toNatClampNeg x1) (v_marks (Int32.toNatClampNeg (x1 + 1)))))] := hD
      have hl : lv_has ls 3 [(0, .ref h_this), (1, .int x1), (2, .int a51.1)] := hl
      cases hf
      exact k_vret hx hb hr hlocks hAe hS hP hD dX9_moveDown_84
    · intro ex51 rc51 hE51 hR51 a51 H locs ls hf hP hD hS hl
      have hP : va_P D vwCl [(h_this, o_X9 v_kind v_worlds h_arrows h_marks v_frames v_signs h_signAt h_behind v_formulas v_failsTold v_tellsTold v_seen h_seenWhat h_seenCan v_pageLength h_page v_stage v_newKind v_newWorlds v_newFrom v_newLast v_newP v_newQ h_newArrows v_wanted v_many h_to v_pNow v_qNow h_holds h_apart v_seedNow v_keptFrame v_keptKind v_keptWorlds v_keptSeen h_keptArrows h_keptMarks h_keptWhat h_keptCan v_h), (h_arrows, o_I cZ 16 a51.2), (h_marks, o_I cI 4 (upd v_marks (Int32.toNatClampNeg x1) (v_marks (Int32.toNatClampNeg (x1 + 1)))))] H := hP
      have hD : va_D A [(h_this, o_X9 v_kind v_worlds h_arrows h_marks v_frames v_signs h_signAt h_behind v_formulas v_failsTold v_tellsTold v_seen h_seenWhat h_seenCan v_pageLength h_page v_stage v_newKind v_newWorlds v_newFrom v_newLast v_newP v_newQ h_newArrows v_wanted v_many h_to v_pNow v_qNow h_holds h_apart v_seedNow v_keptFrame v_keptKind v_keptWorlds v_keptSeen h_keptArrows h_keptMarks h_keptWhat h_keptCan v_h), (h_arrows, o_I cZ 16 a51.2), (h_marks, o_I cI 4 (upd v_marks (Int32.toNatClampNeg x1) (v_marks (Int32.toNatClampNeg (x1 + 1)))))] := hD
      have hl : lv_has ls 3 [(0, .ref h_this), (1, .int x1), (2, .int a51.1)] := hl
      refine lv_iload_n hx hb dX9_moveDown_51 rfl (lv_at hl 2 rfl) ?_
      refine lv_iconst (v := 4) hx hb dX9_moveDown_52 (by decide) ?_
      refine lv_icmp_ge (tgt := 84) hx hb dX9_moveDown_53 (by decide) (fun c53 => ?_) (fun c53 => ?_)
      · replace hf := k_ifT c53 hf
        exact hE51 _ _ _ _ hf hP hD hS (lv_sub hl [0, 1, 2] rfl)
      · replace hf := k_ifF c53 hf
        refine lv_aload_n hx hb dX9_moveDown_56 rfl (lv_at hl 0 rfl) ?_
        refine va_get (D := D) (ci := 8) (v := .ref h_arrows) (C := RX9) (T := TX9) (N := 41) hx hb hts inlX9 hown hK hP 0 rfl rfl 2 (by decide) (hts _ m_82) (fun _ h9 => h9) rfl dX9_moveDown_57 ?_
        refine lv_iconst (v := 4) hx hb dX9_moveDown_60 (by decide) ?_
        refine lv_iload_n hx hb dX9_moveDown_61 rfl (lv_at hl 2 rfl) ?_
        refine lv_imul hx hb dX9_moveDown_62 ?_
        refine lv_iload_n hx hb dX9_moveDown_63 rfl (lv_at hl 1 rfl) ?_
        refine lv_iadd hx hb dX9_moveDown_64 ?_
        refine lv_aload_n hx hb dX9_moveDown_65 rfl (lv_at hl 0 rfl) ?_
        refine va_get (D := D) (ci := 8) (v := .ref h_arrows) (C := RX9) (T := TX9) (N := 41) hx hb hts inlX9 hown hK hP 0 rfl rfl 2 (by decide) (hts _ m_82) (fun _ h9 => h9) rfl dX9_moveDown_66 ?_
        refine lv_iconst (v := 4) hx hb dX9_moveDown_69 (by decide) ?_
        refine lv_iload_n hx hb dX9_moveDown_70 rfl (lv_at hl 2 rfl) ?_
        refine lv_imul hx hb dX9_moveDown_71 ?_
        refine lv_iload_n hx hb dX9_moveDown_72 rfl (lv_at hl 1 rfl) ?_
        refine lv_iadd hx hb dX9_moveDown_73 ?_
        refine lv_iconst (v := 1) hx hb dX9_moveDown_74 (by decide) ?_
        refine lv_iadd hx hb dX9_moveDown_75 ?_
        obtain ⟨hi76, hf⟩ := k_chk_some hf
        refine va_zald (D := D) hx hb hK hP 1 3 rfl rfl hi76 dX9_moveDown_76 ?_
        obtain ⟨hi77, hf⟩ := k_chk_some hf
        refine va_zast (D := D) hx hb hK hP hD hS 1 3 rfl rfl hi77 dX9_moveDown_77 (fun H locs hP hD hS => ?_)
        have hP : va_P D vwCl [(h_this, o_X9 v_kind v_worlds h_arrows h_marks v_frames v_signs h_signAt h_behind v_formulas v_failsTold v_tellsTold v_seen h_seenWhat h_seenCan v_pageLength h_page v_stage v_newKind v_newWorlds v_newFrom v_newLast v_newP v_newQ h_newArrows v_wanted v_many h_to v_pNow v_qNow h_holds h_apart v_seedNow v_keptFrame v_keptKind v_keptWorlds v_keptSeen h_keptArrows h_keptMarks h_keptWhat h_keptCan v_h), (h_arrows, o_I cZ 16 (upd a51.2 (Int32.toNatClampNeg ((4 * a51.1) + x1)) (vp_nar .boolean (a51.2 (Int32.toNatClampNeg (((4 * a51.1) + x1) + 1)))))), (h_marks, o_I cI 4 (upd v_marks (Int32.toNatClampNeg x1) (v_marks (Int32.toNatClampNeg (x1 + 1)))))] H := hP
        have hD : va_D A [(h_this, o_X9 v_kind v_worlds h_arrows h_marks v_frames v_signs h_signAt h_behind v_formulas v_failsTold v_tellsTold v_seen h_seenWhat h_seenCan v_pageLength h_page v_stage v_newKind v_newWorlds v_newFrom v_newLast v_newP v_newQ h_newArrows v_wanted v_many h_to v_pNow v_qNow h_holds h_apart v_seedNow v_keptFrame v_keptKind v_keptWorlds v_keptSeen h_keptArrows h_keptMarks h_keptWhat h_keptCan v_h), (h_arrows, o_I cZ 16 (upd a51.2 (Int32.toNatClampNeg ((4 * a51.1) + x1)) (vp_nar .boolean (a51.2 (Int32.toNatClampNeg (((4 * a51.1) + x1) + 1)))))), (h_marks, o_I cI 4 (upd v_marks (Int32.toNatClampNeg x1) (v_marks (Int32.toNatClampNeg (x1 + 1)))))] := hD
        refine lv_iinc (v := (a51.1 + 1)) (lv' := [(2, .int (a51.1 + 1)), (0, .ref h_this), (1, .int x1)]) hx hb dX9_moveDown_78 hl (k := 2) rfl rfl (by decide) rfl (fun ls hl => ?_)
        refine lv_goto (tgt := 51) hx hb dX9_moveDown_81 (by decide) ?_
        exact hR51 _ _ _ _ hf hP hD hS (lv_sub hl [1, 2, 0] rfl)
  · intro ex16 rc16 hE16 hR16 a16 H locs ls hf hP hD hS hl
    have hP : va_P D vwCl [(h_this, o_X9 v_kind v_worlds h_arrows h_marks v_frames v_signs h_signAt h_behind v_formulas v_failsTold v_tellsTold v_seen h_seenWhat h_seenCan v_pageLength h_page v_stage v_newKind v_newWorlds v_newFrom v_newLast v_newP v_newQ h_newArrows v_wanted v_many h_to v_pNow v_qNow h_holds h_apart v_seedNow v_keptFrame v_keptKind v_keptWorlds v_keptSeen h_keptArrows h_keptMarks h_keptWhat h_keptCan v_h), (h_arrows, o_I cZ 16 a16.2), (h_marks, o_I cI 4 (upd v_marks (Int32.toNatClampNeg x1) (v_marks (Int32.toNatClampNeg (x1 + 1)))))] H := hP
    have hD : va_D A [(h_this, o_X9 v_kind v_worlds h_arrows h_marks v_frames v_signs h_signAt h_behind v_formulas v_failsTold v_tellsTold v_seen h_seenWhat h_seenCan v_pageLength h_page v_stage v_newKind v_newWorlds v_newFrom v_newLast v_newP v_newQ h_newArrows v_wanted v_many h_to v_pNow v_qNow h_holds h_apart v_seedNow v_keptFrame v_keptKind v_keptWorlds v_keptSeen h_keptArrows h_keptMarks h_keptWhat h_keptCan v_h), (h_arrows, o_I cZ 16 a16.2), (h_marks, o_I cI 4 (upd v_marks (Int32.toNatClampNeg x1) (v_marks (Int32.toNatClampNeg (x1 + 1)))))] := hD
    have hl : lv_has ls 3 [(0, .ref h_this), (1, .int x1), (2, .int a16.1)] := hl
    refine lv_iload_n hx hb dX9_moveDown_16 rfl (lv_at hl 2 rfl) ?_
    refine lv_iconst (v := 4) hx hb dX9_moveDown_17 (by decide) ?_
    refine lv_icmp_ge (tgt := 49) hx hb dX9_moveDown_18 (by decide) (fun c18 => ?_) (fun c18 => ?_)
    · replace hf := k_ifT c18 hf
      exact hE16 _ _ _ _ hf hP hD hS (lv_sub hl [0, 1, 2] rfl)
    · replace hf := k_ifF c18 hf
      refine lv_aload_n hx hb dX9_moveDown_21 rfl (lv_at hl 0 rfl) ?_
      refine va_get (D := D) (ci := 8) (v := .ref h_arrows) (C := RX9) (T := TX9) (N := 41) hx hb hts inlX9 hown hK hP 0 rfl rfl 2 (by decide) (hts _ m_82) (fun _ h9 => h9) rfl dX9_moveDown_22 ?_
      refine lv_iconst (v := 4) hx hb dX9_moveDown_25 (by decide) ?_
      refine lv_iload_n hx hb dX9_moveDown_26 rfl (lv_at hl 1 rfl) ?_
      refine lv_imul hx hb dX9_moveDown_27 ?_
      refine lv_iload_n hx hb dX9_moveDown_28 rfl (lv_at hl 2 rfl) ?_
      refine lv_iadd hx hb dX9_moveDown_29 ?_
      refine lv_aload_n hx hb dX9_moveDown_30 rfl (lv_at hl 0 rfl) ?_
      refine va_get (D := D) (ci := 8) (v := .ref h_arrows) (C := RX9) (T := TX9) (N := 41) hx hb hts inlX9 hown hK hP 0 rfl rfl 2 (by decide) (hts _ m_82) (fun _ h9 => h9) rfl dX9_moveDown_31 ?_
      refine lv_iconst (v := 4) hx hb dX9_moveDown_34 (by decide) ?_
      refine lv_iload_n hx hb dX9_moveDown_35 rfl (lv_at hl 1 rfl) ?_
      refine lv_imul hx hb dX9_moveDown_36 ?_
      refine lv_iconst (v := 4) hx hb dX9_moveDown_37 (by decide) ?_
      refine lv_iadd hx hb dX9_moveDown_38 ?_
      refine lv_iload_n hx hb dX9_moveDown_39 rfl (lv_at hl 2 rfl) ?_
      refine lv_iadd hx hb dX9_moveDown_40 ?_
      obtain ⟨hi41, hf⟩ := k_chk_some hf
      refine va_zald (D := D) hx hb hK hP 1 3 rfl rfl hi41 dX9_moveDown_41 ?_
      obtain ⟨hi42, hf⟩ := k_chk_some hf
      refine va_zast (D := D) hx hb hK hP hD hS 1 3 rfl rfl hi42 dX9_moveDown_42 (fun H locs hP hD hS => ?_)
      have hP : va_P D vwCl [(h_this, o_X9 v_kind v_worlds h_arrows h_marks v_frames v_signs h_signAt h_behind v_formulas v_failsTold v_tellsTold v_seen h_seenWhat h_seenCan v_pageLength h_page v_stage v_newKind v_newWorlds v_newFrom v_newLast v_newP v_newQ h_newArrows v_wanted v_many h_to v_pNow v_qNow h_holds h_apart v_seedNow v_keptFrame v_keptKind v_keptWorlds v_keptSeen h_keptArrows h_keptMarks h_keptWhat h_keptCan v_h), (h_arrows, o_I cZ 16 (upd a16.2 (Int32.toNatClampNeg ((4 * x1) + a16.1)) (vp_nar .boolean (a16.2 (Int32.toNatClampNeg (((4 * x1) + 4) + a16.1)))))), (h_marks, o_I cI 4 (upd v_marks (Int32.toNatClampNeg x1) (v_marks (Int32.toNatClampNeg (x1 + 1)))))] H := hP
      have hD : va_D A [(h_this, o_X9 v_kind v_worlds h_arrows h_marks v_frames v_signs h_signAt h_behind v_formulas v_failsTold v_tellsTold v_seen h_seenWhat h_seenCan v_pageLength h_page v_stage v_newKind v_newWorlds v_newFrom v_newLast v_newP v_newQ h_newArrows v_wanted v_many h_to v_pNow v_qNow h_holds h_apart v_seedNow v_keptFrame v_keptKind v_keptWorlds v_keptSeen h_keptArrows h_keptMarks h_keptWhat h_keptCan v_h), (h_arrows, o_I cZ 16 (upd a16.2 (Int32.toNatClampNeg ((4 * x1) + a16.1)) (vp_nar .boolean (a16.2 (Int32.toNatClampNeg (((4 * x1) + 4) + a16.1)))))), (h_marks, o_I cI 4 (upd v_marks (Int32.toNatClampNeg x1) (v_marks (Int32.toNatClampNeg (x1 + 1)))))] := hD
      refine lv_iinc (v := (a16.1 + 1)) (lv' := [(2, .int (a16.1 + 1)), (0, .ref h_this), (1, .int x1)]) hx hb dX9_moveDown_43 hl (k := 2) rfl rfl (by decide) rfl (fun ls hl => ?_)
      refine lv_goto (tgt := 16) hx hb dX9_moveDown_46 (by decide) ?_
      exact hR16 _ _ _ _ hf hP hD hS (lv_sub hl [1, 2, 0] rfl)
set_option maxHeartbeats 4000000 in
set_option maxRecDepth 100000 in
theorem k_X9_takeOut (l : Launch) (D : va_G) (cB cI cJ cZ : ClassId) (tL tK : Nat) (h_this h_arrows h_marks h_signAt h_behind h_seenWhat h_seenCan h_page h_newArrows h_to h_holds h_apart h_keptArrows h_keptMarks h_keptWhat h_keptCan : Nat) (sz : Nat) (v_kind : Int32) (v_worlds : Int32) (v_frames : Int32) (v_signs : Int32) (v_formulas : Int32) (v_failsTold : Int32) (v_tellsTold : Int32) (v_seen : Int32) (v_pageLength : Int32) (v_stage : Int32) (v_newKind : Int32) (v_newWorlds : Int32) (v_newFrom : Int32) (v_newLast : Int32) (v_newP : Int32) (v_newQ : Int32) (v_wanted : Int32) (v_many : Int32) (v_pNow : Int32) (v_qNow : Int32) (v_seedNow : Int64) (v_keptFrame : Int32) (v_keptKind : Int32) (v_keptWorlds : Int32) (v_keptSeen : Int32) (v_h : Int64) (v_arrows : (Nat → Int32)) (v_marks : (Nat → Int32)) (x1 : Int32) (q : Int32 × (Nat → Int32) × (Nat → Int32)) (hf : f_X9_takeOut v_worlds v_arrows v_marks x1 = some q) : Met l yX9_takeOut (.code yX9_takeOut cX9_takeOut 3 none :: k_all) { frames := 1, cells := 0, slots := 0, locals := 22 } (k_P D cB cI cJ cZ tL tK [.ref h_this, .int x1] [(h_this, o_X9 v_kind v_worlds h_arrows h_marks v_frames v_signs h_signAt h_behind v_formulas v_failsTold v_tellsTold v_seen h_seenWhat h_seenCan v_pageLength h_page v_stage v_newKind v_newWorlds v_newFrom v_newLast v_newP v_newQ h_newArrows v_wanted v_many h_to v_pNow v_qNow h_holds h_apart v_seedNow v_keptFrame v_keptKind v_keptWorlds v_keptSeen h_keptArrows h_keptMarks h_keptWhat h_keptCan v_h), (h_arrows, o_I cZ 16 v_arrows), (h_marks, o_I cI 4 v_marks)] sz) (k_V D [(h_this, o_X9 v_kind v_worlds h_arrows h_marks v_frames v_signs h_signAt h_behind v_formulas v_failsTold v_tellsTold v_seen h_seenWhat h_seenCan v_pageLength h_page v_stage v_newKind v_newWorlds v_newFrom v_newLast v_newP v_newQ h_newArrows v_wanted v_many h_to v_pNow v_qNow h_holds h_apart v_seedNow v_keptFrame v_keptKind v_keptWorlds v_keptSeen h_keptArrows h_keptMarks h_keptWhat h_keptCan v_h), (h_arrows, o_I cZ 16 v_arrows), (h_marks, o_I cI 4 v_marks)] [(h_this, o_X9 v_kind q.1 h_arrows h_marks v_frames v_signs h_signAt h_behind v_formulas v_failsTold v_tellsTold v_seen h_seenWhat h_seenCan v_pageLength h_page v_stage v_newKind v_newWorlds v_newFrom v_newLast v_newP v_newQ h_newArrows v_wanted v_many h_to v_pNow v_qNow h_holds h_apart v_seedNow v_keptFrame v_keptKind v_keptWorlds v_keptSeen h_keptArrows h_keptMarks h_keptWhat h_keptCan v_h), (h_arrows, o_I cZ 16 q.2.1), (h_marks, o_I cI 4 q.2.2)] sz) 0 0 (va_A [(h_this, o_X9 v_kind v_worlds h_arrows h_marks v_frames v_signs h_signAt h_behind v_formulas v_failsTold v_tellsTold v_seen h_seenWhat h_seenCan v_pageLength h_page v_stage v_newKind v_newWorlds v_newFrom v_newLast v_newP v_newQ h_newArrows v_wanted v_many h_to v_pNow v_qNow h_holds h_apart v_seedNow v_keptFrame v_keptKind v_keptWorlds v_keptSeen h_keptArrows h_keptMarks h_keptWhat h_keptCan v_h), (h_arrows, o_I cZ 16 v_arrows), (h_marks, o_I cI 4 v_marks)] sz) := by
  unfold f_X9_takeOut at hf
  refine k_met RX9 rfl (by decide +kernel) (Nat.le_of_ble_eq_true rfl) ?_
  intro p e s m below meth c A ls hx hb hr hml hown hts hlocks hin hsz hAe hA hK hN hZ hD hS hP hl
  have hl : lv_has ls 3 [(0, .ref h_this), (1, .int x1)] := hl
  refine lv_iload_n hx hb dX9_takeOut_0 rfl (lv_at hl 1 rfl) ?_
  refine lv_istore_n (lv' := [(2, .int x1), (0, .ref h_this), (1, .int x1)]) hx hb dX9_takeOut_1 rfl hl (by decide) rfl (fun ls hl => ?_)
  refine k_wl 23 (wsf := fun (a2 : Int32 × (Nat → Int32) × (Nat → Int32)) => [(h_this, o_X9 v_kind v_worlds h_arrows h_marks v_frames v_signs h_signAt h_behind v_formulas v_failsTold v_tellsTold v_seen h_seenWhat h_seenCan v_pageLength h_page v_stage v_newKind v_newWorlds v_newFrom v_newLast v_newP v_newQ h_newArrows v_wanted v_many h_to v_pNow v_qNow h_holds h_apart v_seedNow v_keptFrame v_keptKind v_keptWorlds v_keptSeen h_keptArrows h_keptMarks h_keptWhat h_keptCan v_h), (h_arrows, o_I cZ 16 a2.2.1), (h_marks, o_I cI 4 a2.2.2)]) (lvf := fun (a2 : Int32 × (Nat → Int32) × (Nat → Int32)) => [(0, .ref h_this), (2, .int a2.1)]) hf hP hD hS (lv_sub hl [1, 0] rfl) ?_ ?_
  · intro a2 H locs ls hf hP hD hS hl
    have hP : va_P D vwCl [(h_this, o_X9 v_kind v_worlds h_arrows h_marks v_frames v_signs h_signAt h_behind v_formulas v_failsTold v_tellsTold v_seen h_seenWhat h_seenCan v_pageLength h_page v_stage v_newKind v_newWorlds v_newFrom v_newLast v_newP v_newQ h_newArrows v_wanted v_many h_to v_pNow v_qNow h_holds h_apart v_seedNow v_keptFrame v_keptKind v_keptWorlds v_keptSeen h_keptArrows h_keptMarks h_keptWhat h_keptCan v_h), (h_arrows, o_I cZ 16 a2.2.1), (h_marks, o_I cI 4 a2.2.2)] H := hP
    have hD : va_D A [(h_this, o_X9 v_kind v_worlds h_arrows h_marks v_frames v_signs h_signAt h_behind v_formulas v_failsTold v_tellsTold v_seen h_seenWhat h_seenCan v_pageLength h_page v_stage v_newKind v_newWorlds v_newFrom v_newLast v_newP v_newQ h_newArrows v_wanted v_many h_to v_pNow v_qNow h_holds h_apart v_seedNow v_keptFrame v_keptKind v_keptWorlds v_keptSeen h_keptArrows h_keptMarks h_keptWhat h_keptCan v_h), (h_arrows, o_I cZ 16 a2.2.1), (h_marks, o_I cI 4 a2.2.2)] := hD
    have hl : lv_has ls 3 [(0, .ref h_this), (2, .int a2.1)] := hl
    refine lv_aload_n hx hb dX9_takeOut_23 rfl (lv_at hl 0 rfl) ?_
    refine lv_dup hx hb dX9_takeOut_24 rfl ?_
    refine va_get (D := D) (ci := 8) (v := .int v_worlds) (C := RX9) (T := TX9) (N := 41) hx hb hts inlX9 hown hK hP 0 rfl rfl 1 (by decide) (hts _ m_319) (fun _ h9 => h9) rfl dX9_takeOut_25 ?_
    refine lv_iconst (v := 1) hx hb dX9_takeOut_28 (by decide) ?_
    refine lv_isub hx hb dX9_takeOut_29 ?_
    refine va_put (D := D) (ci := 8) (v := .int (v_worlds - 1)) (ty := .int) (C := RX9) (T := TX9) (N := 41) hx hb hts inlX9 tyX9 tyX9_ok nmX9 hown hK hP hD hS 0 rfl rfl 1 (by decide) (hts _ m_319) (fun _ h9 => h9) rfl (by decide +kernel) rfl rfl (Nat.le_of_ble_eq_true rfl) dX9_takeOut_30 (fun H locs hP hD hS => ?_)
    have hP : va_P D vwCl [(h_this, o_X9 v_kind (v_worlds - 1) h_arrows h_marks v_frames v_signs h_signAt h_behind v_formulas v_failsTold v_tellsTold v_seen h_seenWhat h_seenCan v_pageLength h_page v_stage v_newKind v_newWorlds v_newFrom v_newLast v_newP v_newQ h_newArrows v_wanted v_many h_to v_pNow v_qNow h_holds h_apart v_seedNow v_keptFrame v_keptKind v_keptWorlds v_keptSeen h_keptArrows h_keptMarks h_keptWhat h_keptCan v_h), (h_arrows, o_I cZ 16 a2.2.1), (h_marks, o_I cI 4 a2.2.2)] H := hP
    have hD : va_D A [(h_this, o_X9 v_kind (v_worlds - 1) h_arrows h_marks v_frames v_signs h_signAt h_behind v_formulas v_failsTold v_tellsTold v_seen h_seenWhat h_seenCan v_pageLength h_page v_stage v_newKind v_newWorlds v_newFrom v_newLast v_newP v_newQ h_newArrows v_wanted v_many h_to v_pNow v_qNow h_holds h_apart v_seedNow v_keptFrame v_keptKind v_keptWorlds v_keptSeen h_keptArrows h_keptMarks h_keptWhat h_keptCan v_h), (h_arrows, o_I cZ 16 a2.2.1), (h_marks, o_I cI 4 a2.2.2)] := hD
    refine lv_aload_n hx hb dX9_takeOut_33 rfl (lv_at hl 0 rfl) ?_
    refine lv_aload_n hx hb dX9_takeOut_34 rfl (lv_at hl 0 rfl) ?_
    refine va_get (D := D) (ci := 8) (v := .int (v_worlds - 1)) (C := RX9) (T := TX9) (N := 41) hx hb hts inlX9 hown hK hP 0 rfl rfl 1 (by decide) (hts _ m_319) (fun _ h9 => h9) rfl dX9_takeOut_35 ?_
    obtain ⟨q38, hq38, hf⟩ := k_bind hf
    refine k_callv (wN := [(h_this, o_X9 v_kind (v_worlds - 1) h_arrows h_marks v_frames v_signs h_signAt h_behind v_formulas v_failsTold v_tellsTold v_seen h_seenWhat h_seenCan v_pageLength h_page v_stage v_newKind v_newWorlds v_newFrom v_newLast v_newP v_newQ h_newArrows v_wanted v_many h_to v_pNow v_qNow h_holds h_apart v_seedNow v_keptFrame v_keptKind v_keptWorlds v_keptSeen h_keptArrows h_keptMarks h_keptWhat h_keptCan v_h), (h_arrows, o_I cZ 16 q38.1), (h_marks, o_I cI 4 q38.2)]) [0, 1, 2] [] [0, 1, 2] hP hD hS hA (va_runV (As := [.int (v_worlds - 1)]) (rest := []) ⟨hx, hb, hml, hown, hts⟩ (k_X9_emptyWorld l D cB cI cJ cZ tL tK h_this h_arrows h_marks h_signAt h_behind h_seenWhat h_seenCan h_page h_newArrows h_to h_holds h_apart h_keptArrows h_keptMarks h_keptWhat h_keptCan _ v_kind (v_worlds - 1) v_frames v_signs v_formulas v_failsTold v_tellsTold v_seen v_pageLength v_stage v_newKind v_newWorlds v_newFrom v_newLast v_newP v_newQ v_wanted v_many v_pNow v_qNow v_seedNow v_keptFrame v_keptKind v_keptWorlds v_keptSeen v_h a2.2.1 a2.2.2 (v_worlds - 1) q38 hq38) (cwV 1 hts (k_gV m_703 m_700 m_701 m_702 m_5) rfl rfl rfl (by decide +kernel) ⟨Nat.le_of_ble_eq_true rfl, Nat.le_of_ble_eq_true rfl⟩) (k_preV [0, 1, 2] hK hN hZ hP hD hS hA rfl rfl (va_recv hK hP (ci := 8) (q0 := 0) rfl rfl)) rfl rfl hl.1 rfl (lv_room (Nat.le_of_ble_eq_true rfl)) dX9_takeOut_38 ⟨Nat.le_refl _, Nat.le_refl _⟩) rfl rfl rfl rfl rfl (fun H locs hP hD hS => ?_)
    cases hf
    exact k_vret hx hb hr hlocks hAe hS hP hD dX9_takeOut_41
  · intro ex2 rc2 hE2 hR2 a2 H locs ls hf hP hD hS hl
    have hP : va_P D vwCl [(h_this, o_X9 v_kind v_worlds h_arrows h_marks v_frames v_signs h_signAt h_behind v_formulas v_failsTold v_tellsTold v_seen h_seenWhat h_seenCan v_pageLength h_page v_stage v_newKind v_newWorlds v_newFrom v_newLast v_newP v_newQ h_newArrows v_wanted v_many h_to v_pNow v_qNow h_holds h_apart v_seedNow v_keptFrame v_keptKind v_keptWorlds v_keptSeen h_keptArrows h_keptMarks h_keptWhat h_keptCan v_h), (h_arrows, o_I cZ 16 a2.2.1), (h_marks, o_I cI 4 a2.2.2)] H := hP
    have hD : va_D A [(h_this, o_X9 v_kind v_worlds h_arrows h_marks v_frames v_signs h_signAt h_behind v_formulas v_failsTold v_tellsTold v_seen h_seenWhat h_seenCan v_pageLength h_page v_stage v_newKind v_newWorlds v_newFrom v_newLast v_newP v_newQ h_newArrows v_wanted v_many h_to v_pNow v_qNow h_holds h_apart v_seedNow v_keptFrame v_keptKind v_keptWorlds v_keptSeen h_keptArrows h_keptMarks h_keptWhat h_keptCan v_h), (h_arrows, o_I cZ 16 a2.2.1), (h_marks, o_I cI 4 a2.2.2)] := hD
    have hl : lv_has ls 3 [(0, .ref h_this), (2, .int a2.1)] := hl
    refine lv_iload_n hx hb dX9_takeOut_2 rfl (lv_at hl 1 rfl) ?_
    refine lv_aload_n hx hb dX9_takeOut_3 rfl (lv_at hl 0 rfl) ?_
    refine va_get (D := D) (ci := 8) (v := .int v_worlds) (C := RX9) (T := TX9) (N := 41) hx hb hts inlX9 hown hK hP 0 rfl rfl 1 (by decide) (hts _ m_319) (fun _ h9 => h9) rfl dX9_takeOut_4 ?_
    refine lv_iconst (v := 1) hx hb dX9_takeOut_7 (by decide) ?_
    refine lv_isub hx hb dX9_takeOut_8 ?_
    refine lv_icmp_ge (tgt := 23) hx hb dX9_takeOut_9 (by decide) (fun c9 => ?_) (fun c9 => ?_)
    · replace hf := k_ifT c9 hf
      exact hE2 _ _ _ _ hf hP hD hS (lv_sub hl [0, 1] rfl)
    · replace hf := k_ifF c9 hf
      refine lv_aload_n hx hb dX9_takeOut_12 rfl (lv_at hl 0 rfl) ?_
      refine lv_iload_n hx hb dX9_takeOut_13 rfl (lv_at hl 1 rfl) ?_
      obtain ⟨q14, hq14, hf⟩ := k_bind hf
      refine k_callv (wN := [(h_this, o_X9 v_kind v_worlds h_arrows h_marks v_frames v_signs h_signAt h_behind v_formulas v_failsTold v_tellsTold v_seen h_seenWhat h_seenCan v_pageLength h_page v_stage v_newKind v_newWorlds v_newFrom v_newLast v_newP v_newQ h_newArrows v_wanted v_many h_to v_pNow v_qNow h_holds h_apart v_seedNow v_keptFrame v_keptKind v_keptWorlds v_keptSeen h_keptArrows h_keptMarks h_keptWhat h_keptCan v_h), (h_arrows, o_I cZ 16 q14.1), (h_marks, o_I cI 4 q14.2)]) [0, 1, 2] [] [0, 1, 2] hP hD hS hA (va_runV (As := [.int a2.1]) (rest := []) ⟨hx, hb, hml, hown, hts⟩ (k_X9_moveDown l D cB cI cJ cZ tL tK h_this h_arrows h_marks h_signAt h_behind h_seenWhat h_seenCan h_page h_newArrows h_to h_holds h_apart h_keptArrows h_keptMarks h_keptWhat h_keptCan _ v_kind v_worlds v_frames v_signs v_formulas v_failsTold v_tellsTold v_seen v_pageLength v_stage v_newKind v_newWorlds v_newFrom v_newLast v_newP v_newQ v_wanted v_many v_pNow v_qNow v_seedNow v_keptFrame v_keptKind v_keptWorlds v_keptSeen v_h a2.2.1 a2.2.2 a2.1 q14 hq14) (cwV 1 hts (k_gV m_726 m_723 m_724 m_725 m_5) rfl rfl rfl (by decide +kernel) ⟨Nat.le_of_ble_eq_true rfl, Nat.le_of_ble_eq_true rfl⟩) (k_preV [0, 1, 2] hK hN hZ hP hD hS hA rfl rfl (va_recv hK hP (ci := 8) (q0 := 0) rfl rfl)) rfl rfl hl.1 rfl (lv_room (Nat.le_of_ble_eq_true rfl)) dX9_takeOut_14 ⟨Nat.le_refl _, Nat.le_refl _⟩) rfl rfl rfl rfl rfl (fun H locs hP hD hS => ?_)
      refine lv_iinc (v := (a2.1 + 1)) (lv' := [(2, .int (a2.1 + 1)), (0, .ref h_this)]) hx hb dX9_takeOut_17 hl (k := 1) rfl rfl (by decide) rfl (fun ls hl => ?_)
      refine lv_goto (tgt := 2) hx hb dX9_takeOut_20 (by decide) ?_
      exact hR2 _ _ _ _ hf hP hD hS (lv_sub hl [1, 0] rfl)
set_option maxHeartbeats 4000000 in
set_option maxRecDepth 100000 in
theorem k_X9_take (l : Launch) (D : va_G) (cB cI cJ cZ : ClassId) (tL tK : Nat) (h_this h_arrows h_marks h_signAt h_behind h_seenWhat h_seenCan h_page h_newArrows h_to h_holds h_apart h_keptArrows h_keptMarks h_keptWhat h_keptCan : Nat) (sz : Nat) (v_kind : Int32) (v_worlds : Int32) (v_frames : Int32) (v_signs : Int32) (v_formulas : Int32) (v_failsTold : Int32) (v_tellsTold : Int32) (v_seen : Int32) (v_pageLength : Int32) (v_stage : Int32) (v_newKind : Int32) (v_newWorlds : Int32) (v_newFrom : Int32) (v_newLast : Int32) (v_newP : Int32) (v_newQ : Int32) (v_wanted : Int32) (v_many : Int32) (v_pNow : Int32) (v_qNow : Int32) (v_seedNow : Int64) (v_keptFrame : Int32) (v_keptKind : Int32) (v_keptWorlds : Int32) (v_keptSeen : Int32) (v_h : Int64) (v_arrows : (Nat → Int32)) (v_marks : (Nat → Int32)) (x1 : Int32) (q : Int32 × Int32 × (Nat → Int32) × (Nat → Int32)) (hf : f_X9_take v_worlds v_arrows v_marks x1 = some q) : Met l yX9_take (.code yX9_take cX9_take 2 (some .int) :: k_all) { frames := 2, cells := 0, slots := 0, locals := 44 } (k_P D cB cI cJ cZ tL tK [.ref h_this, .int x1] [(h_this, o_X9 v_kind v_worlds h_arrows h_marks v_frames v_signs h_signAt h_behind v_formulas v_failsTold v_tellsTold v_seen h_seenWhat h_seenCan v_pageLength h_page v_stage v_newKind v_newWorlds v_newFrom v_newLast v_newP v_newQ h_newArrows v_wanted v_many h_to v_pNow v_qNow h_holds h_apart v_seedNow v_keptFrame v_keptKind v_keptWorlds v_keptSeen h_keptArrows h_keptMarks h_keptWhat h_keptCan v_h), (h_arrows, o_I cZ 16 v_arrows), (h_marks, o_I cI 4 v_marks)] sz) (k_I D q.1 [(h_this, o_X9 v_kind v_worlds h_arrows h_marks v_frames v_signs h_signAt h_behind v_formulas v_failsTold v_tellsTold v_seen h_seenWhat h_seenCan v_pageLength h_page v_stage v_newKind v_newWorlds v_newFrom v_newLast v_newP v_newQ h_newArrows v_wanted v_many h_to v_pNow v_qNow h_holds h_apart v_seedNow v_keptFrame v_keptKind v_keptWorlds v_keptSeen h_keptArrows h_keptMarks h_keptWhat h_keptCan v_h), (h_arrows, o_I cZ 16 v_arrows), (h_marks, o_I cI 4 v_marks)] [(h_this, o_X9 v_kind q.2.1 h_arrows h_marks v_frames v_signs h_signAt h_behind v_formulas v_failsTold v_tellsTold v_seen h_seenWhat h_seenCan v_pageLength h_page v_stage v_newKind v_newWorlds v_newFrom v_newLast v_newP v_newQ h_newArrows v_wanted v_many h_to v_pNow v_qNow h_holds h_apart v_seedNow v_keptFrame v_keptKind v_keptWorlds v_keptSeen h_keptArrows h_keptMarks h_keptWhat h_keptCan v_h), (h_arrows, o_I cZ 16 q.2.2.1), (h_marks, o_I cI 4 q.2.2.2)] sz) 0 0 (va_A [(h_this, o_X9 v_kind v_worlds h_arrows h_marks v_frames v_signs h_signAt h_behind v_formulas v_failsTold v_tellsTold v_seen h_seenWhat h_seenCan v_pageLength h_page v_stage v_newKind v_newWorlds v_newFrom v_newLast v_newP v_newQ h_newArrows v_wanted v_many h_to v_pNow v_qNow h_holds h_apart v_seedNow v_keptFrame v_keptKind v_keptWorlds v_keptSeen h_keptArrows h_keptMarks h_keptWhat h_keptCan v_h), (h_arrows, o_I cZ 16 v_arrows), (h_marks, o_I cI 4 v_marks)] sz) := by
  unfold f_X9_take at hf
  refine k_met RX9 rfl (by decide +kernel) (Nat.le_of_ble_eq_true rfl) ?_
  intro p e s m below meth c A ls hx hb hr hml hown hts hlocks hin hsz hAe hA hK hN hZ hD hS hP hl
  have hl : lv_has ls 2 [(0, .ref h_this), (1, .int x1)] := hl
  refine lv_aload_n hx hb dX9_take_0 rfl (lv_at hl 0 rfl) ?_
  refine lv_iload_n hx hb dX9_take_1 rfl (lv_at hl 1 rfl) ?_
  obtain ⟨q2, hq2, hf⟩ := k_bind hf
  refine k_calli (wN := [(h_this, o_X9 v_kind v_worlds h_arrows h_marks v_frames v_signs h_signAt h_behind v_formulas v_failsTold v_tellsTold v_seen h_seenWhat h_seenCan v_pageLength h_page v_stage v_newKind v_newWorlds v_newFrom v_newLast v_newP v_newQ h_newArrows v_wanted v_many h_to v_pNow v_qNow h_holds h_apart v_seedNow v_keptFrame v_keptKind v_keptWorlds v_keptSeen h_keptArrows h_keptMarks h_keptWhat h_keptCan v_h), (h_arrows, o_I cZ 16 v_arrows), (h_marks, o_I cI 4 v_marks)]) [0] [1, 2] [2, 0, 1] hP hD hS hA (va_runV (As := [.int x1]) (rest := []) ⟨hx, hb, hml, hown, hts⟩ (k_X9_isWorld l D cB cI cJ cZ tL tK h_this h_arrows h_marks h_signAt h_behind h_seenWhat h_seenCan h_page h_newArrows h_to h_holds h_apart h_keptArrows h_keptMarks h_keptWhat h_keptCan _ v_kind v_worlds v_frames v_signs v_formulas v_failsTold v_tellsTold v_seen v_pageLength v_stage v_newKind v_newWorlds v_newFrom v_newLast v_newP v_newQ v_wanted v_many v_pNow v_qNow v_seedNow v_keptFrame v_keptKind v_keptWorlds v_keptSeen v_h x1 q2 hq2) (cwV 1 hts (k_gV m_595 m_592 m_593 m_594 m_5) rfl rfl rfl (by decide +kernel) ⟨Nat.le_of_ble_eq_true rfl, Nat.le_of_ble_eq_true rfl⟩) (k_preV [0] hK hN hZ hP hD hS hA rfl rfl (va_recv hK hP (ci := 8) (q0 := 0) rfl rfl)) rfl rfl hl.1 rfl (lv_room (Nat.le_of_ble_eq_true rfl)) dX9_take_2 ⟨Nat.le_refl _, Nat.le_refl _⟩) rfl rfl rfl rfl rfl (fun H locs hP hD hS => ?_)
  refine lv_if_ne (tgt := 11) hx hb dX9_take_5 (by decide) (fun c5 => ?_) (fun c5 => ?_)
  · replace hf := k_ifF c5 hf
    refine lv_aload_n hx hb dX9_take_11 rfl (lv_at hl 0 rfl) ?_
    refine va_get (D := D) (ci := 8) (v := .int v_worlds) (C := RX9) (T := TX9) (N := 41) hx hb hts inlX9 hown hK hP 0 rfl rfl 1 (by decide) (hts _ m_319) (fun _ h9 => h9) rfl dX9_take_12 ?_
    refine lv_iconst (v := 1) hx hb dX9_take_15 (by decide) ?_
    refine lv_icmp_ne (tgt := 22) hx hb dX9_take_16 (by decide) (fun c16 => ?_) (fun c16 => ?_)
    · replace hf := k_ifF c16 hf
      refine lv_aload_n hx hb dX9_take_22 rfl (lv_at hl 0 rfl) ?_
      refine lv_iload_n hx hb dX9_take_23 rfl (lv_at hl 1 rfl) ?_
      obtain ⟨q24, hq24, hf⟩ := k_bind hf
      refine k_callv (wN := [(h_this, o_X9 v_kind q24.1 h_arrows h_marks v_frames v_signs h_signAt h_behind v_formulas v_failsTold v_tellsTold v_seen h_seenWhat h_seenCan v_pageLength h_page v_stage v_newKind v_newWorlds v_newFrom v_newLast v_newP v_newQ h_newArrows v_wanted v_many h_to v_pNow v_qNow h_holds h_apart v_seedNow v_keptFrame v_keptKind v_keptWorlds v_keptSeen h_keptArrows h_keptMarks h_keptWhat h_keptCan v_h), (h_arrows, o_I cZ 16 q24.2.1), (h_marks, o_I cI 4 q24.2.2)]) [0, 1, 2] [] [0, 1, 2] hP hD hS hA (va_runV (As := [.int x1]) (rest := []) ⟨hx, hb, hml, hown, hts⟩ (k_X9_takeOut l D cB cI cJ cZ tL tK h_this h_arrows h_marks h_signAt h_behind h_seenWhat h_seenCan h_page h_newArrows h_to h_holds h_apart h_keptArrows h_keptMarks h_keptWhat h_keptCan _ v_kind v_worlds v_frames v_signs v_formulas v_failsTold v_tellsTold v_seen v_pageLength v_stage v_newKind v_newWorlds v_newFrom v_newLast v_newP v_newQ v_wanted v_many v_pNow v_qNow v_seedNow v_keptFrame v_keptKind v_keptWorlds v_keptSeen v_h v_arrows v_marks x1 q24 hq24) (cwV 1 hts (k_gV m_722 m_719 m_720 m_721 m_5) rfl rfl rfl (by decide +kernel) ⟨Nat.le_of_ble_eq_true rfl, Nat.le_of_ble_eq_true rfl⟩) (k_preV [0, 1, 2] hK hN hZ hP hD hS hA rfl rfl (va_recv hK hP (ci := 8) (q0 := 0) rfl rfl)) rfl rfl hl.1 rfl (lv_room (Nat.le_of_ble_eq_true rfl)) dX9_take_24 ⟨Nat.le_refl _, Nat.le_refl _⟩) rfl rfl rfl rfl rfl (fun H locs hP hD hS => ?_)
      refine lv_aload_n hx hb dX9_take_27 rfl (lv_at hl 0 rfl) ?_
      refine va_get (D := D) (ci := 8) (v := .int q24.1) (C := RX9) (T := TX9) (N := 41) hx hb hts inlX9 hown hK hP 0 rfl rfl 1 (by decide) (hts _ m_319) (fun _ h9 => h9) rfl dX9_take_28 ?_
      cases hf
      exact k_iret hx hb hr hlocks hAe hS hP hD dX9_take_31
    · replace hf := k_ifT c16 hf
      refine lv_bipush (v := (-103)) hx hb dX9_take_19 (by decide) ?_
      cases hf
      exact k_iret hx hb hr hlocks hAe hS hP hD dX9_take_21
  · replace hf := k_ifT c5 hf
    refine lv_bipush (v := (-101)) hx hb dX9_take_8 (by decide) ?_
    cases hf
    exact k_iret hx hb hr hlocks hAe hS hP hD dX9_take_10
set_option maxHeartbeats 4000000 in
set_option maxRecDepth 100000 in
theorem k_X9_be (l : Launch) (D : va_G) (cB cI cJ cZ : ClassId) (tL tK : Nat) (h_this h_arrows h_marks h_signAt h_behind h_seenWhat h_seenCan h_page h_newArrows h_to h_holds h_apart h_keptArrows h_keptMarks h_keptWhat h_keptCan : Nat) (sz : Nat) (v_kind : Int32) (v_worlds : Int32) (v_frames : Int32) (v_signs : Int32) (v_formulas : Int32) (v_failsTold : Int32) (v_tellsTold : Int32) (v_seen : Int32) (v_pageLength : Int32) (v_stage : Int32) (v_newKind : Int32) (v_newWorlds : Int32) (v_newFrom : Int32) (v_newLast : Int32) (v_newP : Int32) (v_newQ : Int32) (v_wanted : Int32) (v_many : Int32) (v_pNow : Int32) (v_qNow : Int32) (v_seedNow : Int64) (v_keptFrame : Int32) (v_keptKind : Int32) (v_keptWorlds : Int32) (v_keptSeen : Int32) (v_h : Int64) (x1 : Int32) (q : Int32 × Int32) (hf : f_X9_be v_kind v_worlds x1 = some q) : Met l yX9_be (.code yX9_be cX9_be 3 (some .int) :: k_all) { frames := 2, cells := 0, slots := 0, locals := 42 } (k_P D cB cI cJ cZ tL tK [.ref h_this, .int x1] [(h_this, o_X9 v_kind v_worlds h_arrows h_marks v_frames v_signs h_signAt h_behind v_formulas v_failsTold v_tellsTold v_seen h_seenWhat h_seenCan v_pageLength h_page v_stage v_newKind v_newWorlds v_newFrom v_newLast v_newP v_newQ h_newArrows v_wanted v_many h_to v_pNow v_qNow h_holds h_apart v_seedNow v_keptFrame v_keptKind v_keptWorlds v_keptSeen h_keptArrows h_keptMarks h_keptWhat h_keptCan v_h)] sz) (k_I D q.1 [(h_this, o_X9 v_kind v_worlds h_arrows h_marks v_frames v_signs h_signAt h_behind v_formulas v_failsTold v_tellsTold v_seen h_seenWhat h_seenCan v_pageLength h_page v_stage v_newKind v_newWorlds v_newFrom v_newLast v_newP v_newQ h_newArrows v_wanted v_many h_to v_pNow v_qNow h_holds h_apart v_seedNow v_keptFrame v_keptKind v_keptWorlds v_keptSeen h_keptArrows h_keptMarks h_keptWhat h_keptCan v_h)] [(h_this, o_X9 q.2 v_worlds h_arrows h_marks v_frames v_signs h_signAt h_behind v_formulas v_failsTold v_tellsTold v_seen h_seenWhat h_seenCan v_pageLength h_page v_stage v_newKind v_newWorlds v_newFrom v_newLast v_newP v_newQ h_newArrows v_wanted v_many h_to v_pNow v_qNow h_holds h_apart v_seedNow v_keptFrame v_keptKind v_keptWorlds v_keptSeen h_keptArrows h_keptMarks h_keptWhat h_keptCan v_h)] sz) 0 0 (va_A [(h_this, o_X9 v_kind v_worlds h_arrows h_marks v_frames v_signs h_signAt h_behind v_formulas v_failsTold v_tellsTold v_seen h_seenWhat h_seenCan v_pageLength h_page v_stage v_newKind v_newWorlds v_newFrom v_newLast v_newP v_newQ h_newArrows v_wanted v_many h_to v_pNow v_qNow h_holds h_apart v_seedNow v_keptFrame v_keptKind v_keptWorlds v_keptSeen h_keptArrows h_keptMarks h_keptWhat h_keptCan v_h)] sz) := by
  unfold f_X9_be at hf
  refine k_met RX9 rfl (by decide +kernel) (Nat.le_of_ble_eq_true rfl) ?_
  intro p e s m below meth c A ls hx hb hr hml hown hts hlocks hin hsz hAe hA hK hN hZ hD hS hP hl
  have hl : lv_has ls 3 [(0, .ref h_this), (1, .int x1)] := hl
  refine lv_iload_n hx hb dX9_be_0 rfl (lv_at hl 1 rfl) ?_
  obtain ⟨q1, hq1, hf⟩ := k_bind hf
  refine k_calli (wN := [(h_this, o_X9 v_kind v_worlds h_arrows h_marks v_frames v_signs h_signAt h_behind v_formulas v_failsTold v_tellsTold v_seen h_seenWhat h_seenCan v_pageLength h_page v_stage v_newKind v_newWorlds v_newFrom v_newLast v_newP v_newQ h_newArrows v_wanted v_many h_to v_pNow v_qNow h_holds h_apart v_seedNow v_keptFrame v_keptKind v_keptWorlds v_keptSeen h_keptArrows h_keptMarks h_keptWhat h_keptCan v_h)]) [] [0] [0] hP hD hS hA (va_runS (As := [.int x1]) (rest := []) ⟨hx, hb, hml, hown, hts⟩ (k_X9_isKind l D cB cI cJ cZ tL tK _ x1 q1 hq1) (va_cwS 1 hts (k_gS m_512 m_510 m_511 m_5) rfl rfl rfl (by decide +kernel) ⟨Nat.le_of_ble_eq_true rfl, Nat.le_of_ble_eq_true rfl⟩) (k_preS [] hK hN hZ hP hD hS hA rfl rfl) rfl rfl hl.1 rfl (lv_room (Nat.le_of_ble_eq_true rfl)) dX9_be_1 ⟨Nat.le_refl _, Nat.le_refl _⟩) rfl rfl rfl rfl rfl (fun H locs hP hD hS => ?_)
  refine lv_if_ne (tgt := 10) hx hb dX9_be_4 (by decide) (fun c4 => ?_) (fun c4 => ?_)
  · replace hf := k_ifF c4 hf
    refine lv_aload_n hx hb dX9_be_10 rfl (lv_at hl 0 rfl) ?_
    refine k_calli (wN := [(h_this, o_X9 v_kind v_worlds h_arrows h_marks v_frames v_signs h_signAt h_behind v_formulas v_failsTold v_tellsTold v_seen h_seenWhat h_seenCan v_pageLength h_page v_stage v_newKind v_newWorlds v_newFrom v_newLast v_newP v_newQ h_newArrows v_wanted v_many h_to v_pNow v_qNow h_holds h_apart v_seedNow v_keptFrame v_keptKind v_keptWorlds v_keptSeen h_keptArrows h_keptMarks h_keptWhat h_keptCan v_h)]) [0] [] [0] hP hD hS hA (va_runV (As := []) (rest := []) ⟨hx, hb, hml, hown, hts⟩ (k_X9_isFrame l D cB cI cJ cZ tL tK h_this h_arrows h_marks h_signAt h_behind h_seenWhat h_seenCan h_page h_newArrows h_to h_holds h_apart h_keptArrows h_keptMarks h_keptWhat h_keptCan _ v_kind v_worlds v_frames v_signs v_formulas v_failsTold v_tellsTold v_seen v_pageLength v_stage v_newKind v_newWorlds v_newFrom v_newLast v_newP v_newQ v_wanted v_many v_pNow v_qNow v_seedNow v_keptFrame v_keptKind v_keptWorlds v_keptSeen v_h (f_X9_isFrame v_worlds) rfl) (cwV 0 hts (k_gV m_444 m_441 m_442 m_443 m_5) rfl rfl rfl (by decide +kernel) ⟨Nat.le_of_ble_eq_true rfl, Nat.le_of_ble_eq_true rfl⟩) (k_preV [0] hK hN hZ hP hD hS hA rfl rfl (va_recv hK hP (ci := 8) (q0 := 0) rfl rfl)) rfl rfl hl.1 rfl (lv_room (Nat.le_of_ble_eq_true rfl)) dX9_be_11 ⟨Nat.le_refl _, Nat.le_refl _⟩) rfl rfl rfl rfl rfl (fun H locs hP hD hS => ?_)
    refine lv_if_ne (tgt := 20) hx hb dX9_be_14 (by decide) (fun c14 => ?_) (fun c14 => ?_)
    · replace hf := k_ifF c14 hf
      refine lv_aload_n hx hb dX9_be_20 rfl (lv_at hl 0 rfl) ?_
      refine va_get (D := D) (ci := 8) (v := .int v_kind) (C := RX9) (T := TX9) (N := 41) hx hb hts inlX9 hown hK hP 0 rfl rfl 0 (by decide) (hts _ m_318) (fun _ h9 => h9) rfl dX9_be_21 ?_
      refine lv_istore_n (lv' := [(2, .int v_kind), (0, .ref h_this), (1, .int x1)]) hx hb dX9_be_24 rfl hl (by decide) rfl (fun ls hl => ?_)
      refine lv_aload_n hx hb dX9_be_25 rfl (lv_at hl 1 rfl) ?_
      refine lv_iload_n hx hb dX9_be_26 rfl (lv_at hl 2 rfl) ?_
      refine va_put (D := D) (ci := 8) (v := .int x1) (ty := .int) (C := RX9) (T := TX9) (N := 41) hx hb hts inlX9 tyX9 tyX9_ok nmX9 hown hK hP hD hS 0 rfl rfl 0 (by decide) (hts _ m_318) (fun _ h9 => h9) rfl (by decide +kernel) rfl rfl (Nat.le_of_ble_eq_true rfl) dX9_be_27 (fun H locs hP hD hS => ?_)
      have hP : va_P D vwCl [(h_this, o_X9 x1 v_worlds h_arrows h_marks v_frames v_signs h_signAt h_behind v_formulas v_failsTold v_tellsTold v_seen h_seenWhat h_seenCan v_pageLength h_page v_stage v_newKind v_newWorlds v_newFrom v_newLast v_newP v_newQ h_newArrows v_wanted v_many h_to v_pNow v_qNow h_holds h_apart v_seedNow v_keptFrame v_keptKind v_keptWorlds v_keptSeen h_keptArrows h_keptMarks h_keptWhat h_keptCan v_h)] H := hP
      have hD : va_D A [(h_this, o_X9 x1 v_worlds h_arrows h_marks v_frames v_signs h_signAt h_behind v_formulas v_failsTold v_tellsTold v_seen h_seenWhat h_seenCan v_pageLength h_page v_stage v_newKind v_newWorlds v_newFrom v_newLast v_newP v_newQ h_newArrows v_wanted v_many h_to v_pNow v_qNow h_holds h_apart v_seedNow v_keptFrame v_keptKind v_keptWorlds v_keptSeen h_keptArrows h_keptMarks h_keptWhat h_keptCan v_h)] := hD
      refine lv_iload_n hx hb dX9_be_30 rfl (lv_at hl 0 rfl) ?_
      cases hf
      exact k_iret hx hb hr hlocks hAe hS hP hD dX9_be_31
    · replace hf := k_ifT c14 hf
      refine lv_bipush (v := (-103)) hx hb dX9_be_17 (by decide) ?_
      cases hf
      exact k_iret hx hb hr hlocks hAe hS hP hD dX9_be_19
  · replace hf := k_ifT c4 hf
    refine lv_bipush (v := (-102)) hx hb dX9_be_7 (by decide) ?_
    cases hf
    exact k_iret hx hb hr hlocks hAe hS hP hD dX9_be_9
set_option maxHeartbeats 4000000 in
set_option maxRecDepth 100000 in
theorem k_X9_isJoined (l : Launch) (D : va_G) (cB cI cJ cZ : ClassId) (tL tK : Nat) (h_this h_arrows h_marks h_signAt h_behind h_seenWhat h_seenCan h_page h_newArrows h_to h_holds h_apart h_keptArrows h_keptMarks h_keptWhat h_keptCan : Nat) (sz : Nat) (v_kind : Int32) (v_worlds : Int32) (v_frames : Int32) (v_signs : Int32) (v_formulas : Int32) (v_failsTold : Int32) (v_tellsTold : Int32) (v_seen : Int32) (v_pageLength : Int32) (v_stage : Int32) (v_newKind : Int32) (v_newWorlds : Int32) (v_newFrom : Int32) (v_newLast : Int32) (v_newP : Int32) (v_newQ : Int32) (v_wanted : Int32) (v_many : Int32) (v_pNow : Int32) (v_qNow : Int32) (v_seedNow : Int64) (v_keptFrame : Int32) (v_keptKind : Int32) (v_keptWorlds : Int32) (v_keptSeen : Int32) (v_h : Int64) (v_arrows : (Nat → Int32)) (x1 : Int32) (x2 : Int32) (q : Int32) (hf : f_X9_isJoined v_worlds v_arrows x1 x2 = some q) : Met l yX9_isJoined (.code yX9_isJoined cX9_isJoined 5 (some .boolean) :: k_all) { frames := 0, cells := 0, slots := 0, locals := 0 } (k_P D cB cI cJ cZ tL tK [.ref h_this, .int x1, .int x2] [(h_this, o_X9 v_kind v_worlds h_arrows h_marks v_frames v_signs h_signAt h_behind v_formulas v_failsTold v_tellsTold v_seen h_seenWhat h_seenCan v_pageLength h_page v_stage v_newKind v_newWorlds v_newFrom v_newLast v_newP v_newQ h_newArrows v_wanted v_many h_to v_pNow v_qNow h_holds h_apart v_seedNow v_keptFrame v_keptKind v_keptWorlds v_keptSeen h_keptArrows h_keptMarks h_keptWhat h_keptCan v_h), (h_arrows, o_I cZ 16 v_arrows)] sz) (k_I D q [(h_this, o_X9 v_kind v_worlds h_arrows h_marks v_frames v_signs h_signAt h_behind v_formulas v_failsTold v_tellsTold v_seen h_seenWhat h_seenCan v_pageLength h_page v_stage v_newKind v_newWorlds v_newFrom v_newLast v_newP v_newQ h_newArrows v_wanted v_many h_to v_pNow v_qNow h_holds h_apart v_seedNow v_keptFrame v_keptKind v_keptWorlds v_keptSeen h_keptArrows h_keptMarks h_keptWhat h_keptCan v_h), (h_arrows, o_I cZ 16 v_arrows)] [(h_this, o_X9 v_kind v_worlds h_arrows h_marks v_frames v_signs h_signAt h_behind v_formulas v_failsTold v_tellsTold v_seen h_seenWhat h_seenCan v_pageLength h_page v_stage v_newKind v_newWorlds v_newFrom v_newLast v_newP v_newQ h_newArrows v_wanted v_many h_to v_pNow v_qNow h_holds h_apart v_seedNow v_keptFrame v_keptKind v_keptWorlds v_keptSeen h_keptArrows h_keptMarks h_keptWhat h_keptCan v_h), (h_arrows, o_I cZ 16 v_arrows)] sz) 0 0 (va_A [(h_this, o_X9 v_kind v_worlds h_arrows h_marks v_frames v_signs h_signAt h_behind v_formulas v_failsTold v_tellsTold v_seen h_seenWhat h_seenCan v_pageLength h_page v_stage v_newKind v_newWorlds v_newFrom v_newLast v_newP v_newQ h_newArrows v_wanted v_many h_to v_pNow v_qNow h_holds h_apart v_seedNow v_keptFrame v_keptKind v_keptWorlds v_keptSeen h_keptArrows h_keptMarks h_keptWhat h_keptCan v_h), (h_arrows, o_I cZ 16 v_arrows)] sz) := by
  unfold f_X9_isJoined at hf
  refine k_met RX9 rfl (by decide +kernel) (Nat.le_of_ble_eq_true rfl) ?_
  intro p e s m below meth c A ls hx hb hr hml hown hts hlocks hin hsz hAe hA hK hN hZ hD hS hP hl
  have hl : lv_has ls 5 [(0, .ref h_this), (1, .int x1), (2, .int x2)] := hl
  refine lv_iconst (v := 0) hx hb dX9_isJoined_0 (by decide) ?_
  refine lv_istore_n (lv' := [(3, .int 0), (0, .ref h_this), (1, .int x1), (2, .int x2)]) hx hb dX9_isJoined_1 rfl hl (by decide) rfl (fun ls hl => ?_)
  refine lv_iconst (v := 0) hx hb dX9_isJoined_2 (by decide) ?_
  refine lv_istore (lv' := [(4, .int 0), (3, .int 0), (0, .ref h_this), (1, .int x1), (2, .int x2)]) hx hb dX9_isJoined_3 hl (by decide) rfl (fun ls hl => ?_)
  refine k_wl 58 (wsf := fun (a5 : Int32 × Int32) => [(h_this, o_X9 v_kind v_worlds h_arrows h_marks v_frames v_signs h_signAt h_behind v_formulas v_failsTold v_tellsTold v_seen h_seenWhat h_seenCan v_pageLength h_page v_stage v_newKind v_newWorlds v_newFrom v_newLast v_newP v_newQ h_newArrows v_wanted v_many h_to v_pNow v_qNow h_holds h_apart v_seedNow v_keptFrame v_keptKind v_keptWorlds v_keptSeen h_keptArrows h_keptMarks h_keptWhat h_keptCan v_h), (h_arrows, o_I cZ 16 v_arrows)]) (lvf := fun (a5 : Int32 × Int32) => [(0, .ref h_this), (1, .int x1), (2, .int x2), (3, .int a5.1), (4, .int a5.2)]) hf hP hD hS (lv_sub hl [2, 3, 4, 1, 0] rfl) ?_ ?_
  · intro a5 H locs ls hf hP hD hS hl
    have hP : va_P D vwCl [(h_this, o_X9 v_kind v_worlds h_arrows h_marks v_frames v_signs h_signAt h_behind v_formulas v_failsTold v_tellsTold v_seen h_seenWhat h_seenCan v_pageLength h_page v_stage v_newKind v_newWorlds v_newFrom v_newLast v_newP v_newQ h_newArrows v_wanted v_many h_to v_pNow v_qNow h_holds h_apart v_seedNow v_keptFrame v_keptKind v_keptWorlds v_keptSeen h_keptArrows h_keptMarks h_keptWhat h_keptCan v_h), (h_arrows, o_I cZ 16 v_arrows)] H := hP
    have hD : va_D A [(h_this, o_X9 v_kind v_worlds h_arrows h_marks v_frames v_signs h_signAt h_behind v_formulas v_failsTold v_tellsTold v_seen h_seenWhat h_seenCan v_pageLength h_page v_stage v_newKind v_newWorlds v_newFrom v_newLast v_newP v_newQ h_newArrows v_wanted v_many h_to v_pNow v_qNow h_holds h_apart v_seedNow v_keptFrame v_keptKind v_keptWorlds v_keptSeen h_keptArrows h_keptMarks h_keptWhat h_keptCan v_h), (h_arrows, o_I cZ 16 v_arrows)] := hD
    have hl : lv_has ls 5 [(0, .ref h_this), (1, .int x1), (2, .int x2), (3, .int a5.1), (4, .int a5.2)] := hl
    refine lv_iload_n hx hb dX9_isJoined_58 rfl (lv_at hl 3 rfl) ?_
    obtain ⟨hbl, hf⟩ := k_bl_some hf
    cases hf
    exact k_zret hx hb hr (k_bn hbl) hlocks hAe hS hP hD dX9_isJoined_59
  · intro ex5 rc5 hE5 hR5 a5 H locs ls hf hP hD hS hl
    have hP : va_P D vwCl [(h_this, o_X9 v_kind v_worlds h_arrows h_marks v_frames v_signs h_signAt h_behind v_formulas v_failsTold v_tellsTold v_seen h_seenWhat h_seenCan v_pageLength h_page v_stage v_newKind v_newWorlds v_newFrom v_newLast v_newP v_newQ h_newArrows v_wanted v_many h_to v_pNow v_qNow h_holds h_apart v_seedNow v_keptFrame v_keptKind v_keptWorlds v_keptSeen h_keptArrows h_keptMarks h_keptWhat h_keptCan v_h), (h_arrows, o_I cZ 16 v_arrows)] H := hP
    have hD : va_D A [(h_this, o_X9 v_kind v_worlds h_arrows h_marks v_frames v_signs h_signAt h_behind v_formulas v_failsTold v_tellsTold v_seen h_seenWhat h_seenCan v_pageLength h_page v_stage v_newKind v_newWorlds v_newFrom v_newLast v_newP v_newQ h_newArrows v_wanted v_many h_to v_pNow v_qNow h_holds h_apart v_seedNow v_keptFrame v_keptKind v_keptWorlds v_keptSeen h_keptArrows h_keptMarks h_keptWhat h_keptCan v_h), (h_arrows, o_I cZ 16 v_arrows)] := hD
    have hl : lv_has ls 5 [(0, .ref h_this), (1, .int x1), (2, .int x2), (3, .int a5.1), (4, .int a5.2)] := hl
    refine lv_iload hx hb dX9_isJoined_5 (lv_at hl 4 rfl) ?_
    refine lv_aload_n hx hb dX9_isJoined_7 rfl (lv_at hl 0 rfl) ?_
    refine va_get (D := D) (ci := 8) (v := .int v_worlds) (C := RX9) (T := TX9) (N := 41) hx hb hts inlX9 hown hK hP 0 rfl rfl 1 (by decide) (hts _ m_319) (fun _ h9 => h9) rfl dX9_isJoined_8 ?_
    refine lv_icmp_ge (tgt := 58) hx hb dX9_isJoined_11 (by decide) (fun c11 => ?_) (fun c11 => ?_)
    · replace hf := k_ifT c11 hf
      exact hE5 _ _ _ _ hf hP hD hS (lv_sub hl [0, 1, 2, 3, 4] rfl)
    · replace hf := k_ifF c11 hf
      refine lv_iload_n hx hb dX9_isJoined_14 rfl (lv_at hl 3 rfl) ?_
      refine lv_if_ne (tgt := 46) hx hb dX9_isJoined_15 (by decide) (fun c15 => ?_) (fun c15 => ?_)
      · replace hf := k_ifF c15 hf
        refine lv_iconst (v := 1) hx hb dX9_isJoined_46 (by decide) ?_
        refine lv_goto (tgt := 51) hx hb dX9_isJoined_47 (by decide) ?_
        refine lv_istore_n (lv' := [(3, .int 1), (0, .ref h_this), (1, .int x1), (2, .int x2), (4, .int a5.2)]) hx hb dX9_isJoined_51 rfl hl (by decide) rfl (fun ls hl => ?_)
        refine lv_iinc (v := (a5.2 + 1)) (lv' := [(4, .int (a5.2 + 1)), (3, .int 1), (0, .ref h_this), (1, .int x1), (2, .int x2)]) hx hb dX9_isJoined_52 hl (k := 4) rfl rfl (by decide) rfl (fun ls hl => ?_)
        refine lv_goto (tgt := 5) hx hb dX9_isJoined_55 (by decide) ?_
        exact hR5 _ _ _ _ hf hP hD hS (lv_sub hl [2, 3, 4, 1, 0] rfl)
      · replace hf := k_ifT c15 hf
        refine lv_aload_n hx hb dX9_isJoined_18 rfl (lv_at hl 0 rfl) ?_
        refine va_get (D := D) (ci := 8) (v := .ref h_arrows) (C := RX9) (T := TX9) (N := 41) hx hb hts inlX9 hown hK hP 0 rfl rfl 2 (by decide) (hts _ m_82) (fun _ h9 => h9) rfl dX9_isJoined_19 ?_
        refine lv_iconst (v := 4) hx hb dX9_isJoined_22 (by decide) ?_
        refine lv_iload_n hx hb dX9_isJoined_23 rfl (lv_at hl 1 rfl) ?_
        refine lv_imul hx hb dX9_isJoined_24 ?_
        refine lv_iload hx hb dX9_isJoined_25 (lv_at hl 4 rfl) ?_
        refine lv_iadd hx hb dX9_isJoined_27 ?_
        obtain ⟨hi28, hf⟩ := k_chk_some hf
        refine va_zald (D := D) hx hb hK hP 1 3 rfl rfl hi28 dX9_isJoined_28 ?_
        refine lv_if_eq (tgt := 50) hx hb dX9_isJoined_29 (by decide) (fun c29 => ?_) (fun c29 => ?_)
        · replace hf := k_ifT c29 hf
          refine lv_iconst (v := 0) hx hb dX9_isJoined_50 (by decide) ?_
          refine lv_istore_n (lv' := [(3, .int 0), (0, .ref h_this), (1, .int x1), (2, .int x2), (4, .int a5.2)]) hx hb dX9_isJoined_51 rfl hl (by decide) rfl (fun ls hl => ?_)
          refine lv_iinc (v := (a5.2 + 1)) (lv' := [(4, .int (a5.2 + 1)), (3, .int 0), (0, .ref h_this), (1, .int x1), (2, .int x2)]) hx hb dX9_isJoined_52 hl (k := 4) rfl rfl (by decide) rfl (fun ls hl => ?_)
          refine lv_goto (tgt := 5) hx hb dX9_isJoined_55 (by decide) ?_
          exact hR5 _ _ _ _ hf hP hD hS (lv_sub hl [2, 3, 4, 1, 0] rfl)
        · replace hf := k_ifF c29 hf
          refine lv_aload_n hx hb dX9_isJoined_32 rfl (lv_at hl 0 rfl) ?_
          refine va_get (D := D) (ci := 8) (v := .ref h_arrows) (C := RX9) (T := TX9) (N := 41) hx hb hts inlX9 hown hK hP 0 rfl rfl 2 (by decide) (hts _ m_82) (fun _ h9 => h9) rfl dX9_isJoined_33 ?_
          refine lv_iconst (v := 4) hx hb dX9_isJoined_36 (by decide) ?_
          refine lv_iload hx hb dX9_isJoined_37 (lv_at hl 4 rfl) ?_
          refine lv_imul hx hb dX9_isJoined_39 ?_
          refine lv_iload_n hx hb dX9_isJoined_40 rfl (lv_at hl 2 rfl) ?_
          refine lv_iadd hx hb dX9_isJoined_41 ?_
          obtain ⟨hi42, hf⟩ := k_chk_some hf
          refine va_zald (D := D) hx hb hK hP 1 3 rfl rfl hi42 dX9_isJoined_42 ?_
          refine lv_if_eq (tgt := 50) hx hb dX9_isJoined_43 (by decide) (fun c43 => ?_) (fun c43 => ?_)
          · replace hf := k_ifT c43 hf
            refine lv_iconst (v := 0) hx hb dX9_isJoined_50 (by decide) ?_
            refine lv_istore_n (lv' := [(3, .int 0), (0, .ref h_this), (1, .int x1), (2, .int x2), (4, .int a5.2)]) hx hb dX9_isJoined_51 rfl hl (by decide) rfl (fun ls hl => ?_)
            refine lv_iinc (v := (a5.2 + 1)) (lv' := [(4, .int (a5.2 + 1)), (3, .int 0), (0, .ref h_this), (1, .int x1), (2, .int x2)]) hx hb dX9_isJoined_52 hl (k := 4) rfl rfl (by decide) rfl (fun ls hl => ?_)
            refine lv_goto (tgt := 5) hx hb dX9_isJoined_55 (by decide) ?_
            exact hR5 _ _ _ _ hf hP hD hS (lv_sub hl [2, 3, 4, 1, 0] rfl)
          · replace hf := k_ifF c43 hf
            refine lv_iconst (v := 1) hx hb dX9_isJoined_46 (by decide) ?_
            refine lv_goto (tgt := 51) hx hb dX9_isJoined_47 (by decide) ?_
            refine lv_istore_n (lv' := [(3, .int 1), (0, .ref h_this), (1, .int x1), (2, .int x2), (4, .int a5.2)]) hx hb dX9_isJoined_51 rfl hl (by decide) rfl (fun ls hl => ?_)
            refine lv_iinc (v := (a5.2 + 1)) (lv' := [(4, .int (a5.2 + 1)), (3, .int 1), (0, .ref h_this), (1, .int x1), (2, .int x2)]) hx hb dX9_isJoined_52 hl (k := 4) rfl rfl (by decide) rfl (fun ls hl => ?_)
            refine lv_goto (tgt := 5) hx hb dX9_isJoined_55 (by decide) ?_
            exact hR5 _ _ _ _ hf hP hD hS (lv_sub hl [2, 3, 4, 1, 0] rfl)
set_option maxHeartbeats 4000000 in
set_option maxRecDepth 100000 in
theorem k_X9_wants (l : Launch) (D : va_G) (cB cI cJ cZ : ClassId) (tL tK : Nat) (h_this h_arrows h_marks h_signAt h_behind h_seenWhat h_seenCan h_page h_newArrows h_to h_holds h_apart h_keptArrows h_keptMarks h_keptWhat h_keptCan : Nat) (sz : Nat) (v_kind : Int32) (v_worlds : Int32) (v_frames : Int32) (v_signs : Int32) (v_formulas : Int32) (v_failsTold : Int32) (v_tellsTold : Int32) (v_seen : Int32) (v_pageLength : Int32) (v_stage : Int32) (v_newKind : Int32) (v_newWorlds : Int32) (v_newFrom : Int32) (v_newLast : Int32) (v_newP : Int32) (v_newQ : Int32) (v_wanted : Int32) (v_many : Int32) (v_pNow : Int32) (v_qNow : Int32) (v_seedNow : Int64) (v_keptFrame : Int32) (v_keptKind : Int32) (v_keptWorlds : Int32) (v_keptSeen : Int32) (v_h : Int64) (v_arrows : (Nat → Int32)) (x1 : Int32) (x2 : Int32) (q : Int32) (hf : f_X9_wants v_kind v_worlds v_arrows x1 x2 = some q) : Met l yX9_wants (.code yX9_wants cX9_wants 3 (some .boolean) :: k_all) { frames := 1, cells := 0, slots := 0, locals := 24 } (k_P D cB cI cJ cZ tL tK [.ref h_this, .int x1, .int x2] [(h_this, o_X9 v_kind v_worlds h_arrows h_marks v_frames v_signs h_signAt h_behind v_formulas v_failsTold v_tellsTold v_seen h_seenWhat h_seenCan v_pageLength h_page v_stage v_newKind v_newWorlds v_newFrom v_newLast v_newP v_newQ h_newArrows v_wanted v_many h_to v_pNow v_qNow h_holds h_apart v_seedNow v_keptFrame v_keptKind v_keptWorlds v_keptSeen h_keptArrows h_keptMarks h_keptWhat h_keptCan v_h), (h_arrows, o_I cZ 16 v_arrows)] sz) (k_I D q [(h_this, o_X9 v_kind v_worlds h_arrows h_marks v_frames v_signs h_signAt h_behind v_formulas v_failsTold v_tellsTold v_seen h_seenWhat h_seenCan v_pageLength h_page v_stage v_newKind v_newWorlds v_newFrom v_newLast v_newP v_newQ h_newArrows v_wanted v_many h_to v_pNow v_qNow h_holds h_apart v_seedNow v_keptFrame v_keptKind v_keptWorlds v_keptSeen h_keptArrows h_keptMarks h_keptWhat h_keptCan v_h), (h_arrows, o_I cZ 16 v_arrows)] [(h_this, o_X9 v_kind v_worlds h_arrows h_marks v_frames v_signs h_signAt h_behind v_formulas v_failsTold v_tellsTold v_seen h_seenWhat h_seenCan v_pageLength h_page v_stage v_newKind v_newWorlds v_newFrom v_newLast v_newP v_newQ h_newArrows v_wanted v_many h_to v_pNow v_qNow h_holds h_apart v_seedNow v_keptFrame v_keptKind v_keptWorlds v_keptSeen h_keptArrows h_keptMarks h_keptWhat h_keptCan v_h), (h_arrows, o_I cZ 16 v_arrows)] sz) 0 0 (va_A [(h_this, o_X9 v_kind v_worlds h_arrows h_marks v_frames v_signs h_signAt h_behind v_formulas v_failsTold v_tellsTold v_seen h_seenWhat h_seenCan v_pageLength h_page v_stage v_newKind v_newWorlds v_newFrom v_newLast v_newP v_newQ h_newArrows v_wanted v_many h_to v_pNow v_qNow h_holds h_apart v_seedNow v_keptFrame v_keptKind v_keptWorlds v_keptSeen h_keptArrows h_keptMarks h_keptWhat h_keptCan v_h), (h_arrows, o_I cZ 16 v_arrows)] sz) := by
  unfold f_X9_wants at hf
  refine k_met RX9 rfl (by decide +kernel) (Nat.le_of_ble_eq_true rfl) ?_
  intro p e s m below meth c A ls hx hb hr hml hown hts hlocks hin hsz hAe hA hK hN hZ hD hS hP hl
  have hl : lv_has ls 3 [(0, .ref h_this), (1, .int x1), (2, .int x2)] := hl
  refine lv_aload_n hx hb dX9_wants_0 rfl (lv_at hl 0 rfl) ?_
  refine va_get (D := D) (ci := 8) (v := .int v_kind) (C := RX9) (T := TX9) (N := 41) hx hb hts inlX9 hown hK hP 0 rfl rfl 0 (by decide) (hts _ m_318) (fun _ h9 => h9) rfl dX9_wants_1 ?_
  by_cases c4_1 : v_kind = 1
  · replace hf := k_ifT c4_1 hf
    refine lv_tableIn (tgt := 36) hx hb dX9_wants_4 (by rw [c4_1]; decide) (by rw [c4_1]; decide) (by rw [c4_1]; rfl) (by decide) ?_
    refine lv_iload_n hx hb dX9_wants_36 rfl (lv_at hl 1 rfl) ?_
    refine lv_iload_n hx hb dX9_wants_37 rfl (lv_at hl 2 rfl) ?_
    refine lv_icmp_ne (tgt := 45) hx hb dX9_wants_38 (by decide) (fun c38 => ?_) (fun c38 => ?_)
    · replace hf := k_ifF c38 hf
      refine lv_iconst (v := 0) hx hb dX9_wants_45 (by decide) ?_
      cases hf
      exact k_zret (r := 0) hx hb hr rfl hlocks hAe hS hP hD dX9_wants_46
    · replace hf := k_ifT c38 hf
      refine lv_iconst (v := 1) hx hb dX9_wants_41 (by decide) ?_
      refine lv_goto (tgt := 46) hx hb dX9_wants_42 (by decide) ?_
      cases hf
      exact k_zret (r := 1) hx hb hr rfl hlocks hAe hS hP hD dX9_wants_46
  · replace hf := k_ifF c4_1 hf
    by_cases c4_2 : v_kind = 2
    · replace hf := k_ifT c4_2 hf
      refine lv_tableIn (tgt := 47) hx hb dX9_wants_4 (by rw [c4_2]; decide) (by rw [c4_2]; decide) (by rw [c4_2]; rfl) (by decide) ?_
      refine lv_iload_n hx hb dX9_wants_47 rfl (lv_at hl 1 rfl) ?_
      refine lv_iload_n hx hb dX9_wants_48 rfl (lv_at hl 2 rfl) ?_
      refine lv_icmp_eq (tgt := 61) hx hb dX9_wants_49 (by decide) (fun c49 => ?_) (fun c49 => ?_)
      · replace hf := k_ifT c49 hf
        refine lv_iconst (v := 1) hx hb dX9_wants_61 (by decide) ?_
        refine lv_goto (tgt := 66) hx hb dX9_wants_62 (by decide) ?_
        cases hf
        exact k_zret (r := 1) hx hb hr rfl hlocks hAe hS hP hD dX9_wants_66
      · replace hf := k_ifF c49 hf
        refine lv_aload_n hx hb dX9_wants_52 rfl (lv_at hl 0 rfl) ?_
        refine lv_iload_n hx hb dX9_wants_53 rfl (lv_at hl 1 rfl) ?_
        refine lv_iload_n hx hb dX9_wants_54 rfl (lv_at hl 2 rfl) ?_
        obtain ⟨q55, hq55, hf⟩ := k_bind hf
        refine k_calli (wN := [(h_this, o_X9 v_kind v_worlds h_arrows h_marks v_frames v_signs h_signAt h_behind v_formulas v_failsTold v_tellsTold v_seen h_seenWhat h_seenCan v_pageLength h_page v_stage v_newKind v_newWorlds v_newFrom v_newLast v_newP v_newQ h_newArrows v_wanted v_many h_to v_pNow v_qNow h_holds h_apart v_seedNow v_keptFrame v_keptKind v_keptWorlds v_keptSeen h_keptArrows h_keptMarks h_keptWhat h_keptCan v_h), (h_arrows, o_I cZ 16 v_arrows)]) [0, 1] [] [0, 1] hP hD hS hA (va_runV (As := [.int x1, .int x2]) (rest := []) ⟨hx, hb, hml, hown, hts⟩ (k_X9_isJoined l D cB cI cJ cZ tL tK h_this h_arrows h_marks h_signAt h_behind h_seenWhat h_seenCan h_page h_newArrows h_to h_holds h_apart h_keptArrows h_keptMarks h_keptWhat h_keptCan _ v_kind v_worlds v_frames v_signs v_formulas v_failsTold v_tellsTold v_seen v_pageLength v_stage v_newKind v_newWorlds v_newFrom v_newLast v_newP v_newQ v_wanted v_many v_pNow v_qNow v_seedNow v_keptFrame v_keptKind v_keptWorlds v_keptSeen v_h v_arrows x1 x2 q55 hq55) (cwV 2 hts (k_gV m_762 m_759 m_760 m_761 m_5) rfl rfl rfl (by decide +kernel) ⟨Nat.le_of_ble_eq_true rfl, Nat.le_of_ble_eq_true rfl⟩) (k_preV [0, 1] hK hN hZ hP hD hS hA rfl rfl (va_recv hK hP (ci := 8) (q0 := 0) rfl rfl)) rfl rfl hl.1 rfl (lv_room (Nat.le_of_ble_eq_true rfl)) dX9_wants_55 ⟨Nat.le_refl _, Nat.le_refl _⟩) rfl rfl rfl rfl rfl (fun H locs hP hD hS => ?_)
        refine lv_if_eq (tgt := 65) hx hb dX9_wants_58 (by decide) (fun c58 => ?_) (fun c58 => ?_)
        · replace hf := k_ifT c58 hf
          refine lv_iconst (v := 0) hx hb dX9_wants_65 (by decide) ?_
          cases hf
          exact k_zret (r := 0) hx hb hr rfl hlocks hAe hS hP hD dX9_wants_66
        · replace hf := k_ifF c58 hf
          refine lv_iconst (v := 1) hx hb dX9_wants_61 (by decide) ?_
          refine lv_goto (tgt := 66) hx hb dX9_wants_62 (by decide) ?_
          cases hf
          exact k_zret (r := 1) hx hb hr rfl hlocks hAe hS hP hD dX9_wants_66
    · replace hf := k_ifF c4_2 hf
      by_cases c4_3 : v_kind = 3
      · replace hf := k_ifT c4_3 hf
        refine lv_tableIn (tgt := 67) hx hb dX9_wants_4 (by rw [c4_3]; decide) (by rw [c4_3]; decide) (by rw [c4_3]; rfl) (by decide) ?_
        refine lv_aload_n hx hb dX9_wants_67 rfl (lv_at hl 0 rfl) ?_
        refine va_get (D := D) (ci := 8) (v := .ref h_arrows) (C := RX9) (T := TX9) (N := 41) hx hb hts inlX9 hown hK hP 0 rfl rfl 2 (by decide) (hts _ m_82) (fun _ h9 => h9) rfl dX9_wants_68 ?_
        refine lv_iconst (v := 4) hx hb dX9_wants_71 (by decide) ?_
        refine lv_iload_n hx hb dX9_wants_72 rfl (lv_at hl 2 rfl) ?_
        refine lv_imul hx hb dX9_wants_73 ?_
        refine lv_iload_n hx hb dX9_wants_74 rfl (lv_at hl 1 rfl) ?_
        refine lv_iadd hx hb dX9_wants_75 ?_
        obtain ⟨hi76, hf⟩ := k_chk_some hf
        refine va_zald (D := D) hx hb hK hP 1 3 rfl rfl hi76 dX9_wants_76 ?_
        obtain ⟨hbl, hf⟩ := k_bl_some hf
        cases hf
        exact k_zret hx hb hr (k_bn hbl) hlocks hAe hS hP hD dX9_wants_77
      · replace hf := k_ifF c4_3 hf
        by_cases c4_4 : v_kind = 4
        · replace hf := k_ifT c4_4 hf
          refine lv_tableIn (tgt := 78) hx hb dX9_wants_4 (by rw [c4_4]; decide) (by rw [c4_4]; decide) (by rw [c4_4]; rfl) (by decide) ?_
          refine lv_iload_n hx hb dX9_wants_78 rfl (lv_at hl 1 rfl) ?_
          refine lv_iload_n hx hb dX9_wants_79 rfl (lv_at hl 2 rfl) ?_
          refine lv_icmp_ne (tgt := 95) hx hb dX9_wants_80 (by decide) (fun c80 => ?_) (fun c80 => ?_)
          · replace hf := k_ifF c80 hf
            refine lv_iconst (v := 0) hx hb dX9_wants_95 (by decide) ?_
            cases hf
            exact k_zret (r := 0) hx hb hr rfl hlocks hAe hS hP hD dX9_wants_96
          · replace hf := k_ifT c80 hf
            refine lv_aload_n hx hb dX9_wants_83 rfl (lv_at hl 0 rfl) ?_
            refine lv_iload_n hx hb dX9_wants_84 rfl (lv_at hl 1 rfl) ?_
            obtain ⟨q85, hq85, hf⟩ := k_bind hf
            refine k_calli (wN := [(h_this, o_X9 v_kind v_worlds h_arrows h_marks v_frames v_signs h_signAt h_behind v_formulas v_failsTold v_tellsTold v_seen h_seenWhat h_seenCan v_pageLength h_page v_stage v_newKind v_newWorlds v_newFrom v_newLast v_newP v_newQ h_newArrows v_wanted v_many h_to v_pNow v_qNow h_holds h_apart v_seedNow v_keptFrame v_keptKind v_keptWorlds v_keptSeen h_keptArrows h_keptMarks h_keptWhat h_keptCan v_h), (h_arrows, o_I cZ 16 v_arrows)]) [0, 1] [] [0, 1] hP hD hS hA (va_runV (As := [.int x1]) (rest := []) ⟨hx, hb, hml, hown, hts⟩ (k_X9_goOut l D cB cI cJ cZ tL tK h_this h_arrows h_marks h_signAt h_behind h_seenWhat h_seenCan h_page h_newArrows h_to h_holds h_apart h_keptArrows h_keptMarks h_keptWhat h_keptCan _ v_kind v_worlds v_frames v_signs v_formulas v_failsTold v_tellsTold v_seen v_pageLength v_stage v_newKind v_newWorlds v_newFrom v_newLast v_newP v_newQ v_wanted v_many v_pNow v_qNow v_seedNow v_keptFrame v_keptKind v_keptWorlds v_keptSeen v_h v_arrows x1 q85 hq85) (cwV 1 hts (k_gV m_603 m_600 m_601 m_602 m_5) rfl rfl rfl (by decide +kernel) ⟨Nat.le_of_ble_eq_true rfl, Nat.le_of_ble_eq_true rfl⟩) (k_preV [0, 1] hK hN hZ hP hD hS hA rfl rfl (va_recv hK hP (ci := 8) (q0 := 0) rfl rfl)) rfl rfl hl.1 rfl (lv_room (Nat.le_of_ble_eq_true rfl)) dX9_wants_85 ⟨Nat.le_refl _, Nat.le_refl _⟩) rfl rfl rfl rfl rfl (fun H locs hP hD hS => ?_)
            refine lv_if_ne (tgt := 95) hx hb dX9_wants_88 (by decide) (fun c88 => ?_) (fun c88 => ?_)
            · replace hf := k_ifF c88 hf
              refine lv_iconst (v := 0) hx hb dX9_wants_95 (by decide) ?_
              cases hf
              exact k_zret (r := 0) hx hb hr rfl hlocks hAe hS hP hD dX9_wants_96
            · replace hf := k_ifT c88 hf
              refine lv_iconst (v := 1) hx hb dX9_wants_91 (by decide) ?_
              refine lv_goto (tgt := 96) hx hb dX9_wants_92 (by decide) ?_
              cases hf
              exact k_zret (r := 1) hx hb hr rfl hlocks hAe hS hP hD dX9_wants_96
        · replace hf := k_ifF c4_4 hf
          refine lv_tableOut (tgt := 97) hx hb dX9_wants_4 (by have := lv_neT c4_1 (show (1 : Int32).toInt = 1 by decide); have := lv_neT c4_2 (show (2 : Int32).toInt = 2 by decide); have := lv_neT c4_3 (show (3 : Int32).toInt = 3 by decide); have := lv_neT c4_4 (show (4 : Int32).toInt = 4 by decide); omega) (by decide) ?_
          refine lv_iconst (v := 0) hx hb dX9_wants_97 (by decide) ?_
          cases hf
          exact k_zret (r := 0) hx hb hr rfl hlocks hAe hS hP hD dX9_wants_98
set_option maxHeartbeats 4000000 in
set_option maxRecDepth 100000 in
theorem k_X9_close (l : Launch) (D : va_G) (cB cI cJ cZ : ClassId) (tL tK : Nat) (h_this h_arrows h_marks h_signAt h_behind h_seenWhat h_seenCan h_page h_newArrows h_to h_holds h_apart h_keptArrows h_keptMarks h_keptWhat h_keptCan : Nat) (sz : Nat) (v_kind : Int32) (v_worlds : Int32) (v_frames : Int32) (v_signs : Int32) (v_formulas : Int32) (v_failsTold : Int32) (v_tellsTold : Int32) (v_seen : Int32) (v_pageLength : Int32) (v_stage : Int32) (v_newKind : Int32) (v_newWorlds : Int32) (v_newFrom : Int32) (v_newLast : Int32) (v_newP : Int32) (v_newQ : Int32) (v_wanted : Int32) (v_many : Int32) (v_pNow : Int32) (v_qNow : Int32) (v_seedNow : Int64) (v_keptFrame : Int32) (v_keptKind : Int32) (v_keptWorlds : Int32) (v_keptSeen : Int32) (v_h : Int64) (v_arrows : (Nat → Int32))  (q : Int32 × (Nat → Int32)) (hf : f_X9_close v_kind v_worlds v_arrows = some q) : Met l yX9_close (.code yX9_close cX9_close 6 (some .int) :: k_all) { frames := 2, cells := 0, slots := 0, locals := 46 } (k_P D cB cI cJ cZ tL tK [.ref h_this] [(h_this, o_X9 v_kind v_worlds h_arrows h_marks v_frames v_signs h_signAt h_behind v_formulas v_failsTold v_tellsTold v_seen h_seenWhat h_seenCan v_pageLength h_page v_stage v_newKind v_newWorlds v_newFrom v_newLast v_newP v_newQ h_newArrows v_wanted v_many h_to v_pNow v_qNow h_holds h_apart v_seedNow v_keptFrame v_keptKind v_keptWorlds v_keptSeen h_keptArrows h_keptMarks h_keptWhat h_keptCan v_h), (h_arrows, o_I cZ 16 v_arrows)] sz) (k_I D q.1 [(h_this, o_X9 v_kind v_worlds h_arrows h_marks v_frames v_signs h_signAt h_behind v_formulas v_failsTold v_tellsTold v_seen h_seenWhat h_seenCan v_pageLength h_page v_stage v_newKind v_newWorlds v_newFrom v_newLast v_newP v_newQ h_newArrows v_wanted v_many h_to v_pNow v_qNow h_holds h_apart v_seedNow v_keptFrame v_keptKind v_keptWorlds v_keptSeen h_keptArrows h_keptMarks h_keptWhat h_keptCan v_h), (h_arrows, o_I cZ 16 v_arrows)] [(h_this, o_X9 v_kind v_worlds h_arrows h_marks v_frames v_signs h_signAt h_behind v_formulas v_failsTold v_tellsTold v_seen h_seenWhat h_seenCan v_pageLength h_page v_stage v_newKind v_newWorlds v_newFrom v_newLast v_newP v_newQ h_newArrows v_wanted v_many h_to v_pNow v_qNow h_holds h_apart v_seedNow v_keptFrame v_keptKind v_keptWorlds v_keptSeen h_keptArrows h_keptMarks h_keptWhat h_keptCan v_h), (h_arrows, o_I cZ 16 q.2)] sz) 0 0 (va_A [(h_this, o_X9 v_kind v_worlds h_arrows h_marks v_frames v_signs h_signAt h_behind v_formulas v_failsTold v_tellsTold v_seen h_seenWhat h_seenCan v_pageLength h_page v_stage v_newKind v_newWorlds v_newFrom v_newLast v_newP v_newQ h_newArrows v_wanted v_many h_to v_pNow v_qNow h_holds h_apart v_seedNow v_keptFrame v_keptKind v_keptWorlds v_keptSeen h_keptArrows h_keptMarks h_keptWhat h_keptCan v_h), (h_arrows, o_I cZ 16 v_arrows)] sz) := by
  unfold f_X9_close at hf
  refine k_met RX9 rfl (by decide +kernel) (Nat.le_of_ble_eq_true rfl) ?_
  intro p e s m below meth c A ls hx hb hr hml hown hts hlocks hin hsz hAe hA hK hN hZ hD hS hP hl
  have hl : lv_has ls 6 [(0, .ref h_this)] := hl
  refine lv_aload_n hx hb dX9_close_0 rfl (lv_at hl 0 rfl) ?_
  refine k_calli (wN := [(h_this, o_X9 v_kind v_worlds h_arrows h_marks v_frames v_signs h_signAt h_behind v_formulas v_failsTold v_tellsTold v_seen h_seenWhat h_seenCan v_pageLength h_page v_stage v_newKind v_newWorlds v_newFrom v_newLast v_newP v_newQ h_newArrows v_wanted v_many h_to v_pNow v_qNow h_holds h_apart v_seedNow v_keptFrame v_keptKind v_keptWorlds v_keptSeen h_keptArrows h_keptMarks h_keptWhat h_keptCan v_h), (h_arrows, o_I cZ 16 v_arrows)]) [0] [1] [1, 0] hP hD hS hA (va_runV (As := []) (rest := []) ⟨hx, hb, hml, hown, hts⟩ (k_X9_isFrame l D cB cI cJ cZ tL tK h_this h_arrows h_marks h_signAt h_behind h_seenWhat h_seenCan h_page h_newArrows h_to h_holds h_apart h_keptArrows h_keptMarks h_keptWhat h_keptCan _ v_kind v_worlds v_frames v_signs v_formulas v_failsTold v_tellsTold v_seen v_pageLength v_stage v_newKind v_newWorlds v_newFrom v_newLast v_newP v_newQ v_wanted v_many v_pNow v_qNow v_seedNow v_keptFrame v_keptKind v_keptWorlds v_keptSeen v_h (f_X9_isFrame v_worlds) rfl) (cwV 0 hts (k_gV m_444 m_441 m_442 m_443 m_5) rfl rfl rfl (by decide +kernel) ⟨Nat.le_of_ble_eq_true rfl, Nat.le_of_ble_eq_true rfl⟩) (k_preV [0] hK hN hZ hP hD hS hA rfl rfl (va_recv hK hP (ci := 8) (q0 := 0) rfl rfl)) rfl rfl hl.1 rfl (lv_room (Nat.le_of_ble_eq_true rfl)) dX9_close_1 ⟨Nat.le_refl _, Nat.le_refl _⟩) rfl rfl rfl rfl rfl (fun H locs hP hD hS => ?_)
  refine lv_if_ne (tgt := 10) hx hb dX9_close_4 (by decide) (fun c4 => ?_) (fun c4 => ?_)
  · replace hf := k_ifF c4 hf
    refine lv_aload_n hx hb dX9_close_10 rfl (lv_at hl 0 rfl) ?_
    obtain ⟨q11, hq11, hf⟩ := k_bind hf
    refine k_calli (wN := [(h_this, o_X9 v_kind v_worlds h_arrows h_marks v_frames v_signs h_signAt h_behind v_formulas v_failsTold v_tellsTold v_seen h_seenWhat h_seenCan v_pageLength h_page v_stage v_newKind v_newWorlds v_newFrom v_newLast v_newP v_newQ h_newArrows v_wanted v_many h_to v_pNow v_qNow h_holds h_apart v_seedNow v_keptFrame v_keptKind v_keptWorlds v_keptSeen h_keptArrows h_keptMarks h_keptWhat h_keptCan v_h), (h_arrows, o_I cZ 16 v_arrows)]) [0, 1] [] [0, 1] hP hD hS hA (va_runV (As := []) (rest := []) ⟨hx, hb, hml, hown, hts⟩ (k_X9_allArrows l D cB cI cJ cZ tL tK h_this h_arrows h_marks h_signAt h_behind h_seenWhat h_seenCan h_page h_newArrows h_to h_holds h_apart h_keptArrows h_keptMarks h_keptWhat h_keptCan _ v_kind v_worlds v_frames v_signs v_formulas v_failsTold v_tellsTold v_seen v_pageLength v_stage v_newKind v_newWorlds v_newFrom v_newLast v_newP v_newQ v_wanted v_many v_pNow v_qNow v_seedNow v_keptFrame v_keptKind v_keptWorlds v_keptSeen v_h v_arrows q11 hq11) (cwV 0 hts (k_gV m_452 m_449 m_450 m_451 m_5) rfl rfl rfl (by decide +kernel) ⟨Nat.le_of_ble_eq_true rfl, Nat.le_of_ble_eq_true rfl⟩) (k_preV [0, 1] hK hN hZ hP hD hS hA rfl rfl (va_recv hK hP (ci := 8) (q0 := 0) rfl rfl)) rfl rfl hl.1 rfl (lv_room (Nat.le_of_ble_eq_true rfl)) dX9_close_11 ⟨Nat.le_refl _, Nat.le_refl _⟩) rfl rfl rfl rfl rfl (fun H locs hP hD hS => ?_)
    refine lv_istore_n (lv' := [(1, .int q11), (0, .ref h_this)]) hx hb dX9_close_14 rfl hl (by decide) rfl (fun ls hl => ?_)
    refine lv_iconst (v := 0) hx hb dX9_close_15 (by decide) ?_
    refine lv_istore_n (lv' := [(2, .int 0), (1, .int q11), (0, .ref h_this)]) hx hb dX9_close_16 rfl hl (by decide) rfl (fun ls hl => ?_)
    refine k_wl 109 (wsf := fun (a17 : Int32 × (Nat → Int32)) => [(h_this, o_X9 v_kind v_worlds h_arrows h_marks v_frames v_signs h_signAt h_behind v_formulas v_failsTold v_tellsTold v_seen h_seenWhat h_seenCan v_pageLength h_page v_stage v_newKind v_newWorlds v_newFrom v_newLast v_newP v_newQ h_newArrows v_wanted v_many h_to v_pNow v_qNow h_holds h_apart v_seedNow v_keptFrame v_keptKind v_keptWorlds v_keptSeen h_keptArrows h_keptMarks h_keptWhat h_keptCan v_h), (h_arrows, o_I cZ 16 a17.2)]) (lvf := fun (a17 : Int32 × (Nat → Int32)) => [(0, .ref h_this), (1, .int q11), (2, .int a17.1)]) hf hP hD hS (lv_sub hl [2, 1, 0] rfl) ?_ ?_
    · intro a17 H locs ls hf hP hD hS hl
      have hP : va_P D vwCl [(h_this, o_X9 v_kind v_worlds h_arrows h_marks v_frames v_signs h_signAt h_behind v_formulas v_failsTold v_tellsTold v_seen h_seenWhat h_seenCan v_pageLength h_page v_stage v_newKind v_newWorlds v_newFrom v_newLast v_newP v_newQ h_newArrows v_wanted v_many h_to v_pNow v_qNow h_holds h_apart v_seedNow v_keptFrame v_keptKind v_keptWorlds v_keptSeen h_keptArrows h_keptMarks h_keptWhat h_keptCan v_h), (h_arrows, o_I cZ 16 a17.2)] H := hP
      have hD : va_D A [(h_this, o_X9 v_kind v_worlds h_arrows h_marks v_frames v_signs h_signAt h_behind v_formulas v_failsTold v_tellsTold v_seen h_seenWhat h_seenCan v_pageLength h_page v_stage v_newKind v_newWorlds v_newFrom v_newLast v_newP v_newQ h_newArrows v_wanted v_many h_to v_pNow v_qNow h_holds h_apart v_seedNow v_keptFrame v_keptKind v_keptWorlds v_keptSeen h_keptArrows h_keptMarks h_keptWhat h_keptCan v_h), (h_arrows, o_I cZ 16 a17.2)] := hD
      have hl : lv_has ls 6 [(0, .ref h_this), (1, .int q11), (2, .int a17.1)] := hl
      refine lv_aload_n hx hb dX9_close_109 rfl (lv_at hl 0 rfl) ?_
      obtain ⟨q110, hq110, hf⟩ := k_bind hf
      refine k_calli (wN := [(h_this, o_X9 v_kind v_worlds h_arrows h_marks v_frames v_signs h_signAt h_behind v_formulas v_failsTold v_tellsTold v_seen h_seenWhat h_seenCan v_pageLength h_page v_stage v_newKind v_newWorlds v_newFrom v_newLast v_newP v_newQ h_newArrows v_wanted v_many h_to v_pNow v_qNow h_holds h_apart v_seedNow v_keptFrame v_keptKind v_keptWorlds v_keptSeen h_keptArrows h_keptMarks h_keptWhat h_keptCan v_h), (h_arrows, o_I cZ 16 a17.2)]) [0, 1] [] [0, 1] hP hD hS hA (va_runV (As := []) (rest := []) ⟨hx, hb, hml, hown, hts⟩ (k_X9_allArrows l D cB cI cJ cZ tL tK h_this h_arrows h_marks h_signAt h_behind h_seenWhat h_seenCan h_page h_newArrows h_to h_holds h_apart h_keptArrows h_keptMarks h_keptWhat h_keptCan _ v_kind v_worlds v_frames v_signs v_formulas v_failsTold v_tellsTold v_seen v_pageLength v_stage v_newKind v_newWorlds v_newFrom v_newLast v_newP v_newQ v_wanted v_many v_pNow v_qNow v_seedNow v_keptFrame v_keptKind v_keptWorlds v_keptSeen v_h a17.2 q110 hq110) (cwV 0 hts (k_gV m_452 m_449 m_450 m_451 m_5) rfl rfl rfl (by decide +kernel) ⟨Nat.le_of_ble_eq_true rfl, Nat.le_of_ble_eq_true rfl⟩) (k_preV [0, 1] hK hN hZ hP hD hS hA rfl rfl (va_recv hK hP (ci := 8) (q0 := 0) rfl rfl)) rfl rfl hl.1 rfl (lv_room (Nat.le_of_ble_eq_true rfl)) dX9_close_110 ⟨Nat.le_refl _, Nat.le_refl _⟩) rfl rfl rfl rfl rfl (fun H locs hP hD hS => ?_)
      refine lv_iload_n hx hb dX9_close_113 rfl (lv_at hl 1 rfl) ?_
      refine lv_isub hx hb dX9_close_114 ?_
      cases hf
      exact k_iret hx hb hr hlocks hAe hS hP hD dX9_close_115
    · intro ex17 rc17 hE17 hR17 a17 H locs ls hf hP hD hS hl
      have hP : va_P D vwCl [(h_this, o_X9 v_kind v_worlds h_arrows h_marks v_frames v_signs h_signAt h_behind v_formulas v_failsTold v_tellsTold v_seen h_seenWhat h_seenCan v_pageLength h_page v_stage v_newKind v_newWorlds v_newFrom v_newLast v_newP v_newQ h_newArrows v_wanted v_many h_to v_pNow v_qNow h_holds h_apart v_seedNow v_keptFrame v_keptKind v_keptWorlds v_keptSeen h_keptArrows h_keptMarks h_keptWhat h_keptCan v_h), (h_arrows, o_I cZ 16 a17.2)] H := hP
      have hD : va_D A [(h_this, o_X9 v_kind v_worlds h_arrows h_marks v_frames v_signs h_signAt h_behind v_formulas v_failsTold v_tellsTold v_seen h_seenWhat h_seenCan v_pageLength h_page v_stage v_newKind v_newWorlds v_newFrom v_newLast v_newP v_newQ h_newArrows v_wanted v_many h_to v_pNow v_qNow h_holds h_apart v_seedNow v_keptFrame v_keptKind v_keptWorlds v_keptSeen h_keptArrows h_keptMarks h_keptWhat h_keptCan v_h), (h_arrows, o_I cZ 16 a17.2)] := hD
      have hl : lv_has ls 6 [(0, .ref h_this), (1, .int q11), (2, .int a17.1)] := hl
      refine lv_iload_n hx hb dX9_close_17 rfl (lv_at hl 2 rfl) ?_
      refine lv_bipush (v := 16) hx hb dX9_close_18 (by decide) ?_
      refine lv_icmp_ge (tgt := 109) hx hb dX9_close_20 (by decide) (fun c20 => ?_) (fun c20 => ?_)
      · replace hf := k_ifT c20 hf
        exact hE17 _ _ _ _ hf hP hD hS (lv_sub hl [0, 1, 2] rfl)
      · replace hf := k_ifF c20 hf
        refine lv_iconst (v := 0) hx hb dX9_close_23 (by decide) ?_
        refine lv_istore_n (lv' := [(3, .int 0), (0, .ref h_this), (1, .int q11), (2, .int a17.1)]) hx hb dX9_close_24 rfl hl (by decide) rfl (fun ls hl => ?_)
        refine k_wl 103 (wsf := fun (a25 : Int32 × (Nat → Int32)) => [(h_this, o_X9 v_kind v_worlds h_arrows h_marks v_frames v_signs h_signAt h_behind v_formulas v_failsTold v_tellsTold v_seen h_seenWhat h_seenCan v_pageLength h_page v_stage v_newKind v_newWorlds v_newFrom v_newLast v_newP v_newQ h_newArrows v_wanted v_many h_to v_pNow v_qNow h_holds h_apart v_seedNow v_keptFrame v_keptKind v_keptWorlds v_keptSeen h_keptArrows h_keptMarks h_keptWhat h_keptCan v_h), (h_arrows, o_I cZ 16 a25.2)]) (lvf := fun (a25 : Int32 × (Nat → Int32)) => [(0, .ref h_this), (1, .int q11), (2, .int a17.1), (3, .int a25.1)]) hf hP hD hS (lv_sub hl [1, 2, 3, 0] rfl) ?_ ?_
        · intro a25 H locs ls hf hP hD hS hl
          have hP : va_P D vwCl [(h_this, o_X9 v_kind v_worlds h_arrows h_marks v_frames v_signs h_signAt h_behind v_formulas v_failsTold v_tellsTold v_seen h_seenWhat h_seenCan v_pageLength h_page v_stage v_newKind v_newWorlds v_newFrom v_newLast v_newP v_newQ h_newArrows v_wanted v_many h_to v_pNow v_qNow h_holds h_apart v_seedNow v_keptFrame v_keptKind v_keptWorlds v_keptSeen h_keptArrows h_keptMarks h_keptWhat h_keptCan v_h), (h_arrows, o_I cZ 16 a25.2)] H := hP
          have hD : va_D A [(h_this, o_X9 v_kind v_worlds h_arrows h_marks v_frames v_signs h_signAt h_behind v_formulas v_failsTold v_tellsTold v_seen h_seenWhat h_seenCan v_pageLength h_page v_stage v_newKind v_newWorlds v_newFrom v_newLast v_newP v_newQ h_newArrows v_wanted v_many h_to v_pNow v_qNow h_holds h_apart v_seedNow v_keptFrame v_keptKind v_keptWorlds v_keptSeen h_keptArrows h_keptMarks h_keptWhat h_keptCan v_h), (h_arrows, o_I cZ 16 a25.2)] := hD
          have hl : lv_has ls 6 [(0, .ref h_this), (1, .int q11), (2, .int a17.1), (3, .int a25.1)] := hl
          refine lv_iinc (v := (a17.1 + 1)) (lv' := [(2, .int (a17.1 + 1)), (0, .ref h_this), (1, .int q11), (3, .int a25.1)]) hx hb dX9_close_103 hl (k := 2) rfl rfl (by decide) rfl (fun ls hl => ?_)
          refine lv_goto (tgt := 17) hx hb dX9_close_106 (by decide) ?_
          exact hR17 _ _ _ _ hf hP hD hS (lv_sub hl [1, 2, 0] rfl)
        · intro ex25 rc25 hE25 hR25 a25 H locs ls hf hP hD hS hl
          have hP : va_P D vwCl [(h_this, o_X9 v_kind v_worlds h_arrows h_marks v_frames v_signs h_signAt h_behind v_formulas v_failsTold v_tellsTold v_seen h_seenWhat h_seenCan v_pageLength h_page v_stage v_newKind v_newWorlds v_newFrom v_newLast v_newP v_newQ h_newArrows v_wanted v_many h_to v_pNow v_qNow h_holds h_apart v_seedNow v_keptFrame v_keptKind v_keptWorlds v_keptSeen h_keptArrows h_keptMarks h_keptWhat h_keptCan v_h), (h_arrows, o_I cZ 16 a25.2)] H := hP
          have hD : va_D A [(h_this, o_X9 v_kind v_worlds h_arrows h_marks v_frames v_signs h_signAt h_behind v_formulas v_failsTold v_tellsTold v_seen h_seenWhat h_seenCan v_pageLength h_page v_stage v_newKind v_newWorlds v_newFrom v_newLast v_newP v_newQ h_newArrows v_wanted v_many h_to v_pNow v_qNow h_holds h_apart v_seedNow v_keptFrame v_keptKind v_keptWorlds v_keptSeen h_keptArrows h_keptMarks h_keptWhat h_keptCan v_h), (h_arrows, o_I cZ 16 a25.2)] := hD
          have hl : lv_has ls 6 [(0, .ref h_this), (1, .int q11), (2, .int a17.1), (3, .int a25.1)] := hl
          refine lv_iload_n hx hb dX9_close_25 rfl (lv_at hl 3 rfl) ?_
          refine lv_aload_n hx hb dX9_close_26 rfl (lv_at hl 0 rfl) ?_
          refine va_get (D := D) (ci := 8) (v := .int v_worlds) (C := RX9) (T := TX9) (N := 41) hx hb hts inlX9 hown hK hP 0 rfl rfl 1 (by decide) (hts _ m_319) (fun _ h9 => h9) rfl dX9_close_27 ?_
          refine lv_aload_n hx hb dX9_close_30 rfl (lv_at hl 0 rfl) ?_
          refine va_get (D := D) (ci := 8) (v := .int v_worlds) (C := RX9) (T := TX9) (N := 41) hx hb hts inlX9 hown hK hP 0 rfl rfl 1 (by decide) (hts _ m_319) (fun _ h9 => h9) rfl dX9_close_31 ?_
          refine lv_imul hx hb dX9_close_34 ?_
          refine lv_icmp_ge (tgt := 103) hx hb dX9_close_35 (by decide) (fun c35 => ?_) (fun c35 => ?_)
          · replace hf := k_ifT c35 hf
            exact hE25 _ _ _ _ hf hP hD hS (lv_sub hl [0, 1, 2, 3] rfl)
          · replace hf := k_ifF c35 hf
            refine lv_iload_n hx hb dX9_close_38 rfl (lv_at hl 3 rfl) ?_
            refine lv_aload_n hx hb dX9_close_39 rfl (lv_at hl 0 rfl) ?_
            refine va_get (D := D) (ci := 8) (v := .int v_worlds) (C := RX9) (T := TX9) (N := 41) hx hb hts inlX9 hown hK hP 0 rfl rfl 1 (by decide) (hts _ m_319) (fun _ h9 => h9) rfl dX9_close_40 ?_
            obtain ⟨hz43, hf⟩ := k_nz_some hf
            refine lv_idiv hx hb dX9_close_43 hz43 ?_
            refine lv_istore (lv' := [(4, .int (a25.1 / v_worlds)), (0, .ref h_this), (1, .int q11), (2, .int a17.1), (3, .int a25.1)]) hx hb dX9_close_44 hl (by decide) rfl (fun ls hl => ?_)
            refine lv_iload_n hx hb dX9_close_46 rfl (lv_at hl 4 rfl) ?_
            refine lv_aload_n hx hb dX9_close_47 rfl (lv_at hl 1 rfl) ?_
            refine va_get (D := D) (ci := 8) (v := .int v_worlds) (C := RX9) (T := TX9) (N := 41) hx hb hts inlX9 hown hK hP 0 rfl rfl 1 (by decide) (hts _ m_319) (fun _ h9 => h9) rfl dX9_close_48 ?_
            obtain ⟨hz51, hf⟩ := k_nz_some hf
            refine lv_irem hx hb dX9_close_51 hz51 ?_
            refine lv_istore (lv' := [(5, .int (a25.1 - a25.1 / v_worlds * v_worlds)), (4, .int (a25.1 / v_worlds)), (0, .ref h_this), (1, .int q11), (2, .int a17.1), (3, .int a25.1)]) hx hb dX9_close_52 hl (by decide) rfl (fun ls hl => ?_)
            refine lv_aload_n hx hb dX9_close_54 rfl (lv_at hl 2 rfl) ?_
            refine va_get (D := D) (ci := 8) (v := .ref h_arrows) (C := RX9) (T := TX9) (N := 41) hx hb hts inlX9 hown hK hP 0 rfl rfl 2 (by decide) (hts _ m_82) (fun _ h9 => h9) rfl dX9_close_55 ?_
            refine lv_iconst (v := 4) hx hb dX9_close_58 (by decide) ?_
            refine lv_iload hx hb dX9_close_59 (lv_at hl 1 rfl) ?_
            refine lv_imul hx hb dX9_close_61 ?_
            refine lv_iload hx hb dX9_close_62 (lv_at hl 0 rfl) ?_
            refine lv_iadd hx hb dX9_close_64 ?_
            refine lv_aload_n hx hb dX9_close_65 rfl (lv_at hl 2 rfl) ?_
            refine va_get (D := D) (ci := 8) (v := .ref h_arrows) (C := RX9) (T := TX9) (N := 41) hx hb hts inlX9 hown hK hP 0 rfl rfl 2 (by decide) (hts _ m_82) (fun _ h9 => h9) rfl dX9_close_66 ?_
            refine lv_iconst (v := 4) hx hb dX9_close_69 (by decide) ?_
            refine lv_iload hx hb dX9_close_70 (lv_at hl 1 rfl) ?_
            refine lv_imul hx hb dX9_close_72 ?_
            refine lv_iload hx hb dX9_close_73 (lv_at hl 0 rfl) ?_
            refine lv_iadd hx hb dX9_close_75 ?_
            obtain ⟨hi76, hf⟩ := k_chk_some hf
            refine va_zald (D := D) hx hb hK hP 1 3 rfl rfl hi76 dX9_close_76 ?_
            refine lv_if_ne (tgt := 91) hx hb dX9_close_77 (by decide) (fun c77 => ?_) (fun c77 => ?_)
            · replace hf := k_ifF c77 hf
              refine lv_iconst (v := 1) hx hb dX9_close_91 (by decide) ?_
              refine lv_goto (tgt := 96) hx hb dX9_close_92 (by decide) ?_
              obtain ⟨hi96, hf⟩ := k_chk_some hf
              refine va_zast (D := D) hx hb hK hP hD hS 1 3 rfl rfl hi96 dX9_close_96 (fun H locs hP hD hS => ?_)
              have hP : va_P D vwCl [(h_this, o_X9 v_kind v_worlds h_arrows h_marks v_frames v_signs h_signAt h_behind v_formulas v_failsTold v_tellsTold v_seen h_seenWhat h_seenCan v_pageLength h_page v_stage v_newKind v_newWorlds v_newFrom v_newLast v_newP v_newQ h_newArrows v_wanted v_many h_to v_pNow v_qNow h_holds h_apart v_seedNow v_keptFrame v_keptKind v_keptWorlds v_keptSeen h_keptArrows h_keptMarks h_keptWhat h_keptCan v_h), (h_arrows, o_I cZ 16 (upd a25.2 (Int32.toNatClampNeg ((4 * (a25.1 / v_worlds)) + (a25.1 - a25.1 / v_worlds * v_worlds))) (vp_nar .boolean 1)))] H := hP
              have hD : va_D A [(h_this, o_X9 v_kind v_worlds h_arrows h_marks v_frames v_signs h_signAt h_behind v_formulas v_failsTold v_tellsTold v_seen h_seenWhat h_seenCan v_pageLength h_page v_stage v_newKind v_newWorlds v_newFrom v_newLast v_newP v_newQ h_newArrows v_wanted v_many h_to v_pNow v_qNow h_holds h_apart v_seedNow v_keptFrame v_keptKind v_keptWorlds v_keptSeen h_keptArrows h_keptMarks h_keptWhat h_keptCan v_h), (h_arrows, o_I cZ 16 (upd a25.2 (Int32.toNatClampNeg ((4 * (a25.1 / v_worlds)) + (a25.1 - a25.1 / v_worlds * v_worlds))) (vp_nar .boolean 1)))] := hD
              refine lv_iinc (v := (a25.1 + 1)) (lv' := [(3, .int (a25.1 + 1)), (5, .int (a25.1 - a25.1 / v_worlds * v_worlds)), (4, .int (a25.1 / v_worlds)), (0, .ref h_this), (1, .int q11), (2, .int a17.1)]) hx hb dX9_close_97 hl (k := 5) rfl rfl (by decide) rfl (fun ls hl => ?_)
              refine lv_goto (tgt := 25) hx hb dX9_close_100 (by decide) ?_
              exact hR25 _ _ _ _ hf hP hD hS (lv_sub hl [3, 4, 5, 0] rfl)
            · replace hf := k_ifT c77 hf
              refine lv_aload_n hx hb dX9_close_80 rfl (lv_at hl 2 rfl) ?_
              refine lv_iload hx hb dX9_close_81 (lv_at hl 1 rfl) ?_
              refine lv_iload hx hb dX9_close_83 (lv_at hl 0 rfl) ?_
              obtain ⟨q85, hq85, hf⟩ := k_bind hf
              refine k_calli (wN := [(h_this, o_X9 v_kind v_worlds h_arrows h_marks v_frames v_signs h_signAt h_behind v_formulas v_failsTold v_tellsTold v_seen h_seenWhat h_seenCan v_pageLength h_page v_stage v_newKind v_newWorlds v_newFrom v_newLast v_newP v_newQ h_newArrows v_wanted v_many h_to v_pNow v_qNow h_holds h_apart v_seedNow v_keptFrame v_keptKind v_keptWorlds v_keptSeen h_keptArrows h_keptMarks h_keptWhat h_keptCan v_h), (h_arrows, o_I cZ 16 a25.2)]) [0, 1] [] [0, 1] hP hD hS hA (va_runV (As := [.int (a25.1 / v_worlds), .int (a25.1 - a25.1 / v_worlds * v_worlds)]) (rest := [.int ((4 * (a25.1 / v_worlds)) + (a25.1 - a25.1 / v_worlds * v_worlds)), .ref h_arrows]) ⟨hx, hb, hml, hown, hts⟩ (k_X9_wants l D cB cI cJ cZ tL tK h_this h_arrows h_marks h_signAt h_behind h_seenWhat h_seenCan h_page h_newArrows h_to h_holds h_apart h_keptArrows h_keptMarks h_keptWhat h_keptCan _ v_kind v_worlds v_frames v_signs v_formulas v_failsTold v_tellsTold v_seen v_pageLength v_stage v_newKind v_newWorlds v_newFrom v_newLast v_newP v_newQ v_wanted v_many v_pNow v_qNow v_seedNow v_keptFrame v_keptKind v_keptWorlds v_keptSeen v_h a25.2 (a25.1 / v_worlds) (a25.1 - a25.1 / v_worlds * v_worlds) q85 hq85) (cwV 2 hts (k_gV m_758 m_755 m_756 m_757 m_5) rfl rfl rfl (by decide +kernel) ⟨Nat.le_of_ble_eq_true rfl, Nat.le_of_ble_eq_true rfl⟩) (k_preV [0, 1] hK hN hZ hP hD hS hA rfl rfl (va_recv hK hP (ci := 8) (q0 := 0) rfl rfl)) rfl rfl hl.1 rfl (lv_room (Nat.le_of_ble_eq_true rfl)) dX9_close_85 ⟨Nat.le_refl _, Nat.le_refl _⟩) rfl rfl rfl rfl rfl (fun H locs hP hD hS => ?_)
              refine lv_if_eq (tgt := 95) hx hb dX9_close_88 (by decide) (fun c88 => ?_) (fun c88 => ?_)
              · replace hf := k_ifT c88 hf
                refine lv_iconst (v := 0) hx hb dX9_close_95 (by decide) ?_
                obtain ⟨hi96, hf⟩ := k_chk_some hf
                refine va_zast (D := D) hx hb hK hP hD hS 1 3 rfl rfl hi96 dX9_close_96 (fun H locs hP hD hS => ?_)
                have hP : va_P D vwCl [(h_this, o_X9 v_kind v_worlds h_arrows h_marks v_frames v_signs h_signAt h_behind v_formulas v_failsTold v_tellsTold v_seen h_seenWhat h_seenCan v_pageLength h_page v_stage v_newKind v_newWorlds v_newFrom v_newLast v_newP v_newQ h_newArrows v_wanted v_many h_to v_pNow v_qNow h_holds h_apart v_seedNow v_keptFrame v_keptKind v_keptWorlds v_keptSeen h_keptArrows h_keptMarks h_keptWhat h_keptCan v_h), (h_arrows, o_I cZ 16 (upd a25.2 (Int32.toNatClampNeg ((4 * (a25.1 / v_worlds)) + (a25.1 - a25.1 / v_worlds * v_worlds))) (vp_nar .boolean 0)))] H := hP
                have hD : va_D A [(h_this, o_X9 v_kind v_worlds h_arrows h_marks v_frames v_signs h_signAt h_behind v_formulas v_failsTold v_tellsTold v_seen h_seenWhat h_seenCan v_pageLength h_page v_stage v_newKind v_newWorlds v_newFrom v_newLast v_newP v_newQ h_newArrows v_wanted v_many h_to v_pNow v_qNow h_holds h_apart v_seedNow v_keptFrame v_keptKind v_keptWorlds v_keptSeen h_keptArrows h_keptMarks h_keptWhat h_keptCan v_h), (h_arrows, o_I cZ 16 (upd a25.2 (Int32.toNatClampNeg ((4 * (a25.1 / v_worlds)) + (a25.1 - a25.1 / v_worlds * v_worlds))) (vp_nar .boolean 0)))] := hD
                refine lv_iinc (v := (a25.1 + 1)) (lv' := [(3, .int (a25.1 + 1)), (5, .int (a25.1 - a25.1 / v_worlds * v_worlds)), (4, .int (a25.1 / v_worlds)), (0, .ref h_this), (1, .int q11), (2, .int a17.1)]) hx hb dX9_close_97 hl (k := 5) rfl rfl (by decide) rfl (fun ls hl => ?_)
                refine lv_goto (tgt := 25) hx hb dX9_close_100 (by decide) ?_
                exact hR25 _ _ _ _ hf hP hD hS (lv_sub hl [3, 4, 5, 0] rfl)
              · replace hf := k_ifF c88 hf
                refine lv_iconst (v := 1) hx hb dX9_close_91 (by decide) ?_
                refine lv_goto (tgt := 96) hx hb dX9_close_92 (by decide) ?_
                obtain ⟨hi96, hf⟩ := k_chk_some hf
                refine va_zast (D := D) hx hb hK hP hD hS 1 3 rfl rfl hi96 dX9_close_96 (fun H locs hP hD hS => ?_)
                have hP : va_P D vwCl [(h_this, o_X9 v_kind v_worlds h_arrows h_marks v_frames v_signs h_signAt h_behind v_formulas v_failsTold v_tellsTold v_seen h_seenWhat h_seenCan v_pageLength h_page v_stage v_newKind v_newWorlds v_newFrom v_newLast v_newP v_newQ h_newArrows v_wanted v_many h_to v_pNow v_qNow h_holds h_apart v_seedNow v_keptFrame v_keptKind v_keptWorlds v_keptSeen h_keptArrows h_keptMarks h_keptWhat h_keptCan v_h), (h_arrows, o_I cZ 16 (upd a25.2 (Int32.toNatClampNeg ((4 * (a25.1 / v_worlds)) + (a25.1 - a25.1 / v_worlds * v_worlds))) (vp_nar .boolean 1)))] H := hP
                have hD : va_D A [(h_this, o_X9 v_kind v_worlds h_arrows h_marks v_frames v_signs h_signAt h_behind v_formulas v_failsTold v_tellsTold v_seen h_seenWhat h_seenCan v_pageLength h_page v_stage v_newKind v_newWorlds v_newFrom v_newLast v_newP v_newQ h_newArrows v_wanted v_many h_to v_pNow v_qNow h_holds h_apart v_seedNow v_keptFrame v_keptKind v_keptWorlds v_keptSeen h_keptArrows h_keptMarks h_keptWhat h_keptCan v_h), (h_arrows, o_I cZ 16 (upd a25.2 (Int32.toNatClampNeg ((4 * (a25.1 / v_worlds)) + (a25.1 - a25.1 / v_worlds * v_worlds))) (vp_nar .boolean 1)))] := hD
                refine lv_iinc (v := (a25.1 + 1)) (lv' := [(3, .int (a25.1 + 1)), (5, .int (a25.1 - a25.1 / v_worlds * v_worlds)), (4, .int (a25.1 / v_worlds)), (0, .ref h_this), (1, .int q11), (2, .int a17.1)]) hx hb dX9_close_97 hl (k := 5) rfl rfl (by decide) rfl (fun ls hl => ?_)
                refine lv_goto (tgt := 25) hx hb dX9_close_100 (by decide) ?_
                exact hR25 _ _ _ _ hf hP hD hS (lv_sub hl [3, 4, 5, 0] rfl)
  · replace hf := k_ifT c4 hf
    refine lv_bipush (v := (-103)) hx hb dX9_close_7 (by decide) ?_
    cases hf
    exact k_iret hx hb hr hlocks hAe hS hP hD dX9_close_9
set_option maxHeartbeats 4000000 in
set_option maxRecDepth 100000 in
theorem k_X9_shrink (l : Launch) (D : va_G) (cB cI cJ cZ : ClassId) (tL tK : Nat) (h_this h_arrows h_marks h_signAt h_behind h_seenWhat h_seenCan h_page h_newArrows h_to h_holds h_apart h_keptArrows h_keptMarks h_keptWhat h_keptCan : Nat) (sz : Nat) (v_kind : Int32) (v_worlds : Int32) (v_frames : Int32) (v_signs : Int32) (v_formulas : Int32) (v_failsTold : Int32) (v_tellsTold : Int32) (v_seen : Int32) (v_pageLength : Int32) (v_stage : Int32) (v_newKind : Int32) (v_newWorlds : Int32) (v_newFrom : Int32) (v_newLast : Int32) (v_newP : Int32) (v_newQ : Int32) (v_wanted : Int32) (v_many : Int32) (v_pNow : Int32) (v_qNow : Int32) (v_seedNow : Int64) (v_keptFrame : Int32) (v_keptKind : Int32) (v_keptWorlds : Int32) (v_keptSeen : Int32) (v_h : Int64) (v_arrows : (Nat → Int32)) (v_marks : (Nat → Int32)) (v_apart : (Nat → Int32))  (q : Int32 × Int32 × (Nat → Int32) × (Nat → Int32) × (Nat → Int32)) (hf : f_X9_shrink v_worlds v_arrows v_marks v_apart = some q) : Met l yX9_shrink (.code yX9_shrink cX9_shrink 4 (some .int) :: k_all) { frames := 2, cells := 0, slots := 0, locals := 50 } (k_P D cB cI cJ cZ tL tK [.ref h_this] [(h_this, o_X9 v_kind v_worlds h_arrows h_marks v_frames v_signs h_signAt h_behind v_formulas v_failsTold v_tellsTold v_seen h_seenWhat h_seenCan v_pageLength h_page v_stage v_newKind v_newWorlds v_newFrom v_newLast v_newP v_newQ h_newArrows v_wanted v_many h_to v_pNow v_qNow h_holds h_apart v_seedNow v_keptFrame v_keptKind v_keptWorlds v_keptSeen h_keptArrows h_keptMarks h_keptWhat h_keptCan v_h), (h_arrows, o_I cZ 16 v_arrows), (h_marks, o_I cI 4 v_marks), (h_apart, o_I cZ 16 v_apart)] sz) (k_I D q.1 [(h_this, o_X9 v_kind v_worlds h_arrows h_marks v_frames v_signs h_signAt h_behind v_formulas v_failsTold v_tellsTold v_seen h_seenWhat h_seenCan v_pageLength h_page v_stage v_newKind v_newWorlds v_newFrom v_newLast v_newP v_newQ h_newArrows v_wanted v_many h_to v_pNow v_qNow h_holds h_apart v_seedNow v_keptFrame v_keptKind v_keptWorlds v_keptSeen h_keptArrows h_keptMarks h_keptWhat h_keptCan v_h), (h_arrows, o_I cZ 16 v_arrows), (h_marks, o_I cI 4 v_marks), (h_apart, o_I cZ 16 v_apart)] [(h_this, o_X9 v_kind q.2.1 h_arrows h_marks v_frames v_signs h_signAt h_behind v_formulas v_failsTold v_tellsTold v_seen h_seenWhat h_seenCan v_pageLength h_page v_stage v_newKind v_newWorlds v_newFrom v_newLast v_newP v_newQ h_newArrows v_wanted v_many h_to v_pNow v_qNow h_holds h_apart v_seedNow v_keptFrame v_keptKind v_keptWorlds v_keptSeen h_keptArrows h_keptMarks h_keptWhat h_keptCan v_h), (h_arrows, o_I cZ 16 q.2.2.1), (h_marks, o_I cI 4 q.2.2.2.1), (h_apart, o_I cZ 16 q.2.2.2.2)] sz) 0 0 (va_A [(h_this, o_X9 v_kind v_worlds h_arrows h_marks v_frames v_signs h_signAt h_behind v_formulas v_failsTold v_tellsTold v_seen h_seenWhat h_seenCan v_pageLength h_page v_stage v_newKind v_newWorlds v_newFrom v_newLast v_newP v_newQ h_newArrows v_wanted v_many h_to v_pNow v_qNow h_holds h_apart v_seedNow v_keptFrame v_keptKind v_keptWorlds v_keptSeen h_keptArrows h_keptMarks h_keptWhat h_keptCan v_h), (h_arrows, o_I cZ 16 v_arrows), (h_marks, o_I cI 4 v_marks), (h_apart, o_I cZ 16 v_apart)] sz) := by
  unfold f_X9_shrink at hf
  refine k_met RX9 rfl (by decide +kernel) (Nat.le_of_ble_eq_true rfl) ?_
  intro p e s m below meth c A ls hx hb hr hml hown hts hlocks hin hsz hAe hA hK hN hZ hD hS hP hl
  have hl : lv_has ls 4 [(0, .ref h_this)] := hl
  refine lv_aload_n hx hb dX9_shrink_0 rfl (lv_at hl 0 rfl) ?_
  refine k_calli (wN := [(h_this, o_X9 v_kind v_worlds h_arrows h_marks v_frames v_signs h_signAt h_behind v_formulas v_failsTold v_tellsTold v_seen h_seenWhat h_seenCan v_pageLength h_page v_stage v_newKind v_newWorlds v_newFrom v_newLast v_newP v_newQ h_newArrows v_wanted v_many h_to v_pNow v_qNow h_holds h_apart v_seedNow v_keptFrame v_keptKind v_keptWorlds v_keptSeen h_keptArrows h_keptMarks h_keptWhat h_keptCan v_h), (h_arrows, o_I cZ 16 v_arrows), (h_marks, o_I cI 4 v_marks), (h_apart, o_I cZ 16 v_apart)]) [0] [1, 2, 3] [3, 0, 1, 2] hP hD hS hA (va_runV (As := []) (rest := []) ⟨hx, hb, hml, hown, hts⟩ (k_X9_isFrame l D cB cI cJ cZ tL tK h_this h_arrows h_marks h_signAt h_behind h_seenWhat h_seenCan h_page h_newArrows h_to h_holds h_apart h_keptArrows h_keptMarks h_keptWhat h_keptCan _ v_kind v_worlds v_frames v_signs v_formulas v_failsTold v_tellsTold v_seen v_pageLength v_stage v_newKind v_newWorlds v_newFrom v_newLast v_newP v_newQ v_wanted v_many v_pNow v_qNow v_seedNow v_keptFrame v_keptKind v_keptWorlds v_keptSeen v_h (f_X9_isFrame v_worlds) rfl) (cwV 0 hts (k_gV m_444 m_441 m_442 m_443 m_5) rfl rfl rfl (by decide +kernel) ⟨Nat.le_of_ble_eq_true rfl, Nat.le_of_ble_eq_true rfl⟩) (k_preV [0] hK hN hZ hP hD hS hA rfl rfl (va_recv hK hP (ci := 8) (q0 := 0) rfl rfl)) rfl rfl hl.1 rfl (lv_room (Nat.le_of_ble_eq_true rfl)) dX9_shrink_1 ⟨Nat.le_refl _, Nat.le_refl _⟩) rfl rfl rfl rfl rfl (fun H locs hP hD hS => ?_)
  refine lv_if_ne (tgt := 10) hx hb dX9_shrink_4 (by decide) (fun c4 => ?_) (fun c4 => ?_)
  · replace hf := k_ifF c4 hf
    refine lv_aload_n hx hb dX9_shrink_10 rfl (lv_at hl 0 rfl) ?_
    obtain ⟨q11, hq11, hf⟩ := k_bind hf
    refine k_callv (wN := [(h_this, o_X9 v_kind v_worlds h_arrows h_marks v_frames v_signs h_signAt h_behind v_formulas v_failsTold v_tellsTold v_seen h_seenWhat h_seenCan v_pageLength h_page v_stage v_newKind v_newWorlds v_newFrom v_newLast v_newP v_newQ h_newArrows v_wanted v_many h_to v_pNow v_qNow h_holds h_apart v_seedNow v_keptFrame v_keptKind v_keptWorlds v_keptSeen h_keptArrows h_keptMarks h_keptWhat h_keptCan v_h), (h_arrows, o_I cZ 16 v_arrows), (h_marks, o_I cI 4 v_marks), (h_apart, o_I cZ 16 q11)]) [0, 1, 2, 3] [] [0, 1, 2, 3] hP hD hS hA (va_runV (As := []) (rest := []) ⟨hx, hb, hml, hown, hts⟩ (k_X9_layApart l D cB cI cJ cZ tL tK h_this h_arrows h_marks h_signAt h_behind h_seenWhat h_seenCan h_page h_newArrows h_to h_holds h_apart h_keptArrows h_keptMarks h_keptWhat h_keptCan _ v_kind v_worlds v_frames v_signs v_formulas v_failsTold v_tellsTold v_seen v_pageLength v_stage v_newKind v_newWorlds v_newFrom v_newLast v_newP v_newQ v_wanted v_many v_pNow v_qNow v_seedNow v_keptFrame v_keptKind v_keptWorlds v_keptSeen v_h v_arrows v_marks v_apart q11 hq11) (cwV 0 hts (k_gV m_490 m_487 m_488 m_489 m_5) rfl rfl rfl (by decide +kernel) ⟨Nat.le_of_ble_eq_true rfl, Nat.le_of_ble_eq_true rfl⟩) (k_preV [0, 1, 2, 3] hK hN hZ hP hD hS hA rfl rfl (va_recv hK hP (ci := 8) (q0 := 0) rfl rfl)) rfl rfl hl.1 rfl (lv_room (Nat.le_of_ble_eq_true rfl)) dX9_shrink_11 ⟨Nat.le_refl _, Nat.le_refl _⟩) rfl rfl rfl rfl rfl (fun H locs hP hD hS => ?_)
    refine lv_aload_n hx hb dX9_shrink_14 rfl (lv_at hl 0 rfl) ?_
    refine va_get (D := D) (ci := 8) (v := .int v_worlds) (C := RX9) (T := TX9) (N := 41) hx hb hts inlX9 hown hK hP 0 rfl rfl 1 (by decide) (hts _ m_319) (fun _ h9 => h9) rfl dX9_shrink_15 ?_
    refine lv_iconst (v := 1) hx hb dX9_shrink_18 (by decide) ?_
    refine lv_isub hx hb dX9_shrink_19 ?_
    refine lv_istore_n (lv' := [(1, .int (v_worlds - 1)), (0, .ref h_this)]) hx hb dX9_shrink_20 rfl hl (by decide) rfl (fun ls hl => ?_)
    refine k_wl 104 (wsf := fun (a21 : Int32 × Int32 × (Nat → Int32) × (Nat → Int32)) => [(h_this, o_X9 v_kind a21.2.1 h_arrows h_marks v_frames v_signs h_signAt h_behind v_formulas v_failsTold v_tellsTold v_seen h_seenWhat h_seenCan v_pageLength h_page v_stage v_newKind v_newWorlds v_newFrom v_newLast v_newP v_newQ h_newArrows v_wanted v_many h_to v_pNow v_qNow h_holds h_apart v_seedNow v_keptFrame v_keptKind v_keptWorlds v_keptSeen h_keptArrows h_keptMarks h_keptWhat h_keptCan v_h), (h_arrows, o_I cZ 16 a21.2.2.1), (h_marks, o_I cI 4 a21.2.2.2), (h_apart, o_I cZ 16 q11)]) (lvf := fun (a21 : Int32 × Int32 × (Nat → Int32) × (Nat → Int32)) => [(0, .ref h_this), (1, .int a21.1)]) hf hP hD hS (lv_sub hl [1, 0] rfl) ?_ ?_
    · intro a21 H locs ls hf hP hD hS hl
      have hP : va_P D vwCl [(h_this, o_X9 v_kind a21.2.1 h_arrows h_marks v_frames v_signs h_signAt h_behind v_formulas v_failsTold v_tellsTold v_seen h_seenWhat h_seenCan v_pageLength h_page v_stage v_newKind v_newWorlds v_newFrom v_newLast v_newP v_newQ h_newArrows v_wanted v_many h_to v_pNow v_qNow h_holds h_apart v_seedNow v_keptFrame v_keptKind v_keptWorlds v_keptSeen h_keptArrows h_keptMarks h_keptWhat h_keptCan v_h), (h_arrows, o_I cZ 16 a21.2.2.1), (h_marks, o_I cI 4 a21.2.2.2), (h_apart, o_I cZ 16 q11)] H := hP
      have hD : va_D A [(h_this, o_X9 v_kind a21.2.1 h_arrows h_marks v_frames v_signs h_signAt h_behind v_formulas v_failsTold v_tellsTold v_seen h_seenWhat h_seenCan v_pageLength h_page v_stage v_newKind v_newWorlds v_newFrom v_newLast v_newP v_newQ h_newArrows v_wanted v_many h_to v_pNow v_qNow h_holds h_apart v_seedNow v_keptFrame v_keptKind v_keptWorlds v_keptSeen h_keptArrows h_keptMarks h_keptWhat h_keptCan v_h), (h_arrows, o_I cZ 16 a21.2.2.1), (h_marks, o_I cI 4 a21.2.2.2), (h_apart, o_I cZ 16 q11)] := hD
      have hl : lv_has ls 4 [(0, .ref h_this), (1, .int a21.1)] := hl
      refine lv_aload_n hx hb dX9_shrink_104 rfl (lv_at hl 0 rfl) ?_
      refine va_get (D := D) (ci := 8) (v := .int a21.2.1) (C := RX9) (T := TX9) (N := 41) hx hb hts inlX9 hown hK hP 0 rfl rfl 1 (by decide) (hts _ m_319) (fun _ h9 => h9) rfl dX9_shrink_105 ?_
      cases hf
      exact k_iret hx hb hr hlocks hAe hS hP hD dX9_shrink_108
    · intro ex21 rc21 hE21 hR21 a21 H locs ls hf hP hD hS hl
      have hP : va_P D vwCl [(h_this, o_X9 v_kind a21.2.1 h_arrows h_marks v_frames v_signs h_signAt h_behind v_formulas v_failsTold v_tellsTold v_seen h_seenWhat h_seenCan v_pageLength h_page v_stage v_newKind v_newWorlds v_newFrom v_newLast v_newP v_newQ h_newArrows v_wanted v_many h_to v_pNow v_qNow h_holds h_apart v_seedNow v_keptFrame v_keptKind v_keptWorlds v_keptSeen h_keptArrows h_keptMarks h_keptWhat h_keptCan v_h), (h_arrows, o_I cZ 16 a21.2.2.1), (h_marks, o_I cI 4 a21.2.2.2), (h_apart, o_I cZ 16 q11)] H := hP
      have hD : va_D A [(h_this, o_X9 v_kind a21.2.1 h_arrows h_marks v_frames v_signs h_signAt h_behind v_formulas v_failsTold v_tellsTold v_seen h_seenWhat h_seenCan v_pageLength h_page v_stage v_newKind v_newWorlds v_newFrom v_newLast v_newP v_newQ h_newArrows v_wanted v_many h_to v_pNow v_qNow h_holds h_apart v_seedNow v_keptFrame v_keptKind v_keptWorlds v_keptSeen h_keptArrows h_keptMarks h_keptWhat h_keptCan v_h), (h_arrows, o_I cZ 16 a21.2.2.1), (h_marks, o_I cI 4 a21.2.2.2), (h_apart, o_I cZ 16 q11)] := hD
      have hl : lv_has ls 4 [(0, .ref h_this), (1, .int a21.1)] := hl
      refine lv_iload_n hx hb dX9_shrink_21 rfl (lv_at hl 1 rfl) ?_
      refine lv_if_lt (tgt := 104) hx hb dX9_shrink_22 (by decide) (fun c22 => ?_) (fun c22 => ?_)
      · replace hf := k_ifT c22 hf
        exact hE21 _ _ _ _ hf hP hD hS (lv_sub hl [0, 1] rfl)
      · replace hf := k_ifF c22 hf
        refine lv_aload_n hx hb dX9_shrink_25 rfl (lv_at hl 0 rfl) ?_
        refine lv_iload_n hx hb dX9_shrink_26 rfl (lv_at hl 1 rfl) ?_
        obtain ⟨q27, hq27, hf⟩ := k_bind hf
        refine k_calli (wN := [(h_this, o_X9 v_kind a21.2.1 h_arrows h_marks v_frames v_signs h_signAt h_behind v_formulas v_failsTold v_tellsTold v_seen h_seenWhat h_seenCan v_pageLength h_page v_stage v_newKind v_newWorlds v_newFrom v_newLast v_newP v_newQ h_newArrows v_wanted v_many h_to v_pNow v_qNow h_holds h_apart v_seedNow v_keptFrame v_keptKind v_keptWorlds v_keptSeen h_keptArrows h_keptMarks h_keptWhat h_keptCan v_h), (h_arrows, o_I cZ 16 a21.2.2.1), (h_marks, o_I cI 4 a21.2.2.2), (h_apart, o_I cZ 16 q11)]) [0, 3] [1, 2] [2, 0, 1, 3] hP hD hS hA (va_runV (As := [.int a21.1]) (rest := []) ⟨hx, hb, hml, hown, hts⟩ (k_X9_twinOf l D cB cI cJ cZ tL tK h_this h_arrows h_marks h_signAt h_behind h_seenWhat h_seenCan h_page h_newArrows h_to h_holds h_apart h_keptArrows h_keptMarks h_keptWhat h_keptCan _ v_kind a21.2.1 v_frames v_signs v_formulas v_failsTold v_tellsTold v_seen v_pageLength v_stage v_newKind v_newWorlds v_newFrom v_newLast v_newP v_newQ v_wanted v_many v_pNow v_qNow v_seedNow v_keptFrame v_keptKind v_keptWorlds v_keptSeen v_h q11 a21.1 q27 hq27) (cwV 1 hts (k_gV m_498 m_495 m_496 m_497 m_5) rfl rfl rfl (by decide +kernel) ⟨Nat.le_of_ble_eq_true rfl, Nat.le_of_ble_eq_true rfl⟩) (k_preV [0, 3] hK hN hZ hP hD hS hA rfl rfl (va_recv hK hP (ci := 8) (q0 := 0) rfl rfl)) rfl rfl hl.1 rfl (lv_room (Nat.le_of_ble_eq_true rfl)) dX9_shrink_27 ⟨Nat.le_refl _, Nat.le_refl _⟩) rfl rfl rfl rfl rfl (fun H locs hP hD hS => ?_)
        refine lv_istore_n (lv' := [(2, .int q27), (0, .ref h_this), (1, .int a21.1)]) hx hb dX9_shrink_30 rfl hl (by decide) rfl (fun ls hl => ?_)
        refine lv_iload_n hx hb dX9_shrink_31 rfl (lv_at hl 0 rfl) ?_
        refine lv_iload_n hx hb dX9_shrink_32 rfl (lv_at hl 2 rfl) ?_
        refine lv_icmp_eq (tgt := 98) hx hb dX9_shrink_33 (by decide) (fun c33 => ?_) (fun c33 => ?_)
        · replace hf := k_ifT c33 hf
          refine lv_iinc (v := (a21.1 + (-1))) (lv' := [(1, .int (a21.1 + (-1))), (2, .int q27), (0, .ref h_this)]) hx hb dX9_shrink_98 hl (k := 2) rfl rfl (by decide) rfl (fun ls hl => ?_)
          refine lv_goto (tgt := 21) hx hb dX9_shrink_101 (by decide) ?_
          exact hR21 _ _ _ _ hf hP hD hS (lv_sub hl [2, 0] rfl)
        · replace hf := k_ifF c33 hf
          refine lv_iconst (v := 0) hx hb dX9_shrink_36 (by decide) ?_
          refine lv_istore_n (lv' := [(3, .int 0), (2, .int q27), (0, .ref h_this), (1, .int a21.1)]) hx hb dX9_shrink_37 rfl hl (by decide) rfl (fun ls hl => ?_)
          refine k_wl 93 (wsf := fun (a38 : Int32 × (Nat → Int32)) => [(h_this, o_X9 v_kind a21.2.1 h_arrows h_marks v_frames v_signs h_signAt h_behind v_formulas v_failsTold v_tellsTold v_seen h_seenWhat h_seenCan v_pageLength h_page v_stage v_newKind v_newWorlds v_newFrom v_newLast v_newP v_newQ h_newArrows v_wanted v_many h_to v_pNow v_qNow h_holds h_apart v_seedNow v_keptFrame v_keptKind v_keptWorlds v_keptSeen h_keptArrows h_keptMarks h_keptWhat h_keptCan v_h), (h_arrows, o_I cZ 16 a38.2), (h_marks, o_I cI 4 a21.2.2.2), (h_apart, o_I cZ 16 q11)]) (lvf := fun (a38 : Int32 × (Nat → Int32)) => [(0, .ref h_this), (1, .int a21.1), (2, .int q27), (3, .int a38.1)]) hf hP hD hS (lv_sub hl [2, 3, 1, 0] rfl) ?_ ?_
          · intro a38 H locs ls hf hP hD hS hl
            have hP : va_P D vwCl [(h_this, o_X9 v_kind a21.2.1 h_arrows h_marks v_frames v_signs h_signAt h_behind v_formulas v_failsTold v_tellsTold v_seen h_seenWhat h_seenCan v_pageLength h_page v_stage v_newKind v_newWorlds v_newFrom v_newLast v_newP v_newQ h_newArrows v_wanted v_many h_to v_pNow v_qNow h_holds h_apart v_seedNow v_keptFrame v_keptKind v_keptWorlds v_keptSeen h_keptArrows h_keptMarks h_keptWhat h_keptCan v_h), (h_arrows, o_I cZ 16 a38.2), (h_marks, o_I cI 4 a21.2.2.2), (h_apart, o_I cZ 16 q11)] H := hP
            have hD : va_D A [(h_this, o_X9 v_kind a21.2.1 h_arrows h_marks v_frames v_signs h_signAt h_behind v_formulas v_failsTold v_tellsTold v_seen h_seenWhat h_seenCan v_pageLength h_page v_stage v_newKind v_newWorlds v_newFrom v_newLast v_newP v_newQ h_newArrows v_wanted v_many h_to v_pNow v_qNow h_holds h_apart v_seedNow v_keptFrame v_keptKind v_keptWorlds v_keptSeen h_keptArrows h_keptMarks h_keptWhat h_keptCan v_h), (h_arrows, o_I cZ 16 a38.2), (h_marks, o_I cI 4 a21.2.2.2), (h_apart, o_I cZ 16 q11)] := hD
            have hl : lv_has ls 4 [(0, .ref h_this), (1, .int a21.1), (2, .int q27), (3, .int a38.1)] := hl
            refine lv_aload_n hx hb dX9_shrink_93 rfl (lv_at hl 0 rfl) ?_
            refine lv_iload_n hx hb dX9_shrink_94 rfl (lv_at hl 1 rfl) ?_
            obtain ⟨q95, hq95, hf⟩ := k_bind hf
            refine k_callv (wN := [(h_this, o_X9 v_kind q95.1 h_arrows h_marks v_frames v_signs h_signAt h_behind v_formulas v_failsTold v_tellsTold v_seen h_seenWhat h_seenCan v_pageLength h_page v_stage v_newKind v_newWorlds v_newFrom v_newLast v_newP v_newQ h_newArrows v_wanted v_many h_to v_pNow v_qNow h_holds h_apart v_seedNow v_keptFrame v_keptKind v_keptWorlds v_keptSeen h_keptArrows h_keptMarks h_keptWhat h_keptCan v_h), (h_arrows, o_I cZ 16 q95.2.1), (h_marks, o_I cI 4 q95.2.2), (h_apart, o_I cZ 16 q11)]) [0, 1, 2] [3] [1, 2, 3, 0] hP hD hS hA (va_runV (As := [.int a21.1]) (rest := []) ⟨hx, hb, hml, hown, hts⟩ (k_X9_takeOut l D cB cI cJ cZ tL tK h_this h_arrows h_marks h_signAt h_behind h_seenWhat h_seenCan h_page h_newArrows h_to h_holds h_apart h_keptArrows h_keptMarks h_keptWhat h_keptCan _ v_kind a21.2.1 v_frames v_signs v_formulas v_failsTold v_tellsTold v_seen v_pageLength v_stage v_newKind v_newWorlds v_newFrom v_newLast v_newP v_newQ v_wanted v_many v_pNow v_qNow v_seedNow v_keptFrame v_keptKind v_keptWorlds v_keptSeen v_h a38.2 a21.2.2.2 a21.1 q95 hq95) (cwV 1 hts (k_gV m_722 m_719 m_720 m_721 m_5) rfl rfl rfl (by decide +kernel) ⟨Nat.le_of_ble_eq_true rfl, Nat.le_of_ble_eq_true rfl⟩) (k_preV [0, 1, 2] hK hN hZ hP hD hS hA rfl rfl (va_recv hK hP (ci := 8) (q0 := 0) rfl rfl)) rfl rfl hl.1 rfl (lv_room (Nat.le_of_ble_eq_true rfl)) dX9_shrink_95 ⟨Nat.le_refl _, Nat.le_refl _⟩) rfl rfl rfl rfl rfl (fun H locs hP hD hS => ?_)
            refine lv_iinc (v := (a21.1 + (-1))) (lv' := [(1, .int (a21.1 + (-1))), (0, .ref h_this), (2, .int q27), (3, .int a38.1)]) hx hb dX9_shrink_98 hl (k := 1) rfl rfl (by decide) rfl (fun ls hl => ?_)
            refine lv_goto (tgt := 21) hx hb dX9_shrink_101 (by decide) ?_
            exact hR21 _ _ _ _ hf hP hD hS (lv_sub hl [1, 0] rfl)
          · intro ex38 rc38 hE38 hR38 a38 H locs ls hf hP hD hS hl
            have hP : va_P D vwCl [(h_this, o_X9 v_kind a21.2.1 h_arrows h_marks v_frames v_signs h_signAt h_behind v_formulas v_failsTold v_tellsTold v_seen h_seenWhat h_seenCan v_pageLength h_page v_stage v_newKind v_newWorlds v_newFrom v_newLast v_newP v_newQ h_newArrows v_wanted v_many h_to v_pNow v_qNow h_holds h_apart v_seedNow v_keptFrame v_keptKind v_keptWorlds v_keptSeen h_keptArrows h_keptMarks h_keptWhat h_keptCan v_h), (h_arrows, o_I cZ 16 a38.2), (h_marks, o_I cI 4 a21.2.2.2), (h_apart, o_I cZ 16 q11)] H := hP
            have hD : va_D A [(h_this, o_X9 v_kind a21.2.1 h_arrows h_marks v_frames v_signs h_signAt h_behind v_formulas v_failsTold v_tellsTold v_seen h_seenWhat h_seenCan v_pageLength h_page v_stage v_newKind v_newWorlds v_newFrom v_newLast v_newP v_newQ h_newArrows v_wanted v_many h_to v_pNow v_qNow h_holds h_apart v_seedNow v_keptFrame v_keptKind v_keptWorlds v_keptSeen h_keptArrows h_keptMarks h_keptWhat h_keptCan v_h), (h_arrows, o_I cZ 16 a38.2), (h_marks, o_I cI 4 a21.2.2.2), (h_apart, o_I cZ 16 q11)] := hD
            have hl : lv_has ls 4 [(0, .ref h_this), (1, .int a21.1), (2, .int q27), (3, .int a38.1)] := hl
            refine lv_iload_n hx hb dX9_shrink_38 rfl (lv_at hl 3 rfl) ?_
            refine lv_aload_n hx hb dX9_shrink_39 rfl (lv_at hl 0 rfl) ?_
            refine va_get (D := D) (ci := 8) (v := .int a21.2.1) (C := RX9) (T := TX9) (N := 41) hx hb hts inlX9 hown hK hP 0 rfl rfl 1 (by decide) (hts _ m_319) (fun _ h9 => h9) rfl dX9_shrink_40 ?_
            refine lv_icmp_ge (tgt := 93) hx hb dX9_shrink_43 (by decide) (fun c43 => ?_) (fun c43 => ?_)
            · replace hf := k_ifT c43 hf
              exact hE38 _ _ _ _ hf hP hD hS (lv_sub hl [0, 1, 2, 3] rfl)
            · replace hf := k_ifF c43 hf
              refine lv_aload_n hx hb dX9_shrink_46 rfl (lv_at hl 0 rfl) ?_
              refine va_get (D := D) (ci := 8) (v := .ref h_arrows) (C := RX9) (T := TX9) (N := 41) hx hb hts inlX9 hown hK hP 0 rfl rfl 2 (by decide) (hts _ m_82) (fun _ h9 => h9) rfl dX9_shrink_47 ?_
              refine lv_iconst (v := 4) hx hb dX9_shrink_50 (by decide) ?_
              refine lv_iload_n hx hb dX9_shrink_51 rfl (lv_at hl 3 rfl) ?_
              refine lv_imul hx hb dX9_shrink_52 ?_
              refine lv_iload_n hx hb dX9_shrink_53 rfl (lv_at hl 2 rfl) ?_
              refine lv_iadd hx hb dX9_shrink_54 ?_
              refine lv_aload_n hx hb dX9_shrink_55 rfl (lv_at hl 0 rfl) ?_
              refine va_get (D := D) (ci := 8) (v := .ref h_arrows) (C := RX9) (T := TX9) (N := 41) hx hb hts inlX9 hown hK hP 0 rfl rfl 2 (by decide) (hts _ m_82) (fun _ h9 => h9) rfl dX9_shrink_56 ?_
              refine lv_iconst (v := 4) hx hb dX9_shrink_59 (by decide) ?_
              refine lv_iload_n hx hb dX9_shrink_60 rfl (lv_at hl 3 rfl) ?_
              refine lv_imul hx hb dX9_shrink_61 ?_
              refine lv_iload_n hx hb dX9_shrink_62 rfl (lv_at hl 2 rfl) ?_
              refine lv_iadd hx hb dX9_shrink_63 ?_
              obtain ⟨hi64, hf⟩ := k_chk_some hf
              refine va_zald (D := D) hx hb hK hP 1 3 rfl rfl hi64 dX9_shrink_64 ?_
              refine lv_if_ne (tgt := 81) hx hb dX9_shrink_65 (by decide) (fun c65 => ?_) (fun c65 => ?_)
              · replace hf := k_ifF c65 hf
                refine lv_iconst (v := 1) hx hb dX9_shrink_81 (by decide) ?_
                refine lv_goto (tgt := 86) hx hb dX9_shrink_82 (by decide) ?_
                obtain ⟨hi86, hf⟩ := k_chk_some hf
                refine va_zast (D := D) hx hb hK hP hD hS 1 3 rfl rfl hi86 dX9_shrink_86 (fun H locs hP hD hS => ?_)
                have hP : va_P D vwCl [(h_this, o_X9 v_kind a21.2.1 h_arrows h_marks v_frames v_signs h_signAt h_behind v_formulas v_failsTold v_tellsTold v_seen h_seenWhat h_seenCan v_pageLength h_page v_stage v_newKind v_newWorlds v_newFrom v_newLast v_newP v_newQ h_newArrows v_wanted v_many h_to v_pNow v_qNow h_holds h_apart v_seedNow v_keptFrame v_keptKind v_keptWorlds v_keptSeen h_keptArrows h_keptMarks h_keptWhat h_keptCan v_h), (h_arrows, o_I cZ 16 (upd a38.2 (Int32.toNatClampNeg ((4 * a38.1) + q27)) (vp_nar .boolean 1))), (h_marks, o_I cI 4 a21.2.2.2), (h_apart, o_I cZ 16 q11)] H := hP
                have hD : va_D A [(h_this, o_X9 v_kind a21.2.1 h_arrows h_marks v_frames v_signs h_signAt h_behind v_formulas v_failsTold v_tellsTold v_seen h_seenWhat h_seenCan v_pageLength h_page v_stage v_newKind v_newWorlds v_newFrom v_newLast v_newP v_newQ h_newArrows v_wanted v_many h_to v_pNow v_qNow h_holds h_apart v_seedNow v_keptFrame v_keptKind v_keptWorlds v_keptSeen h_keptArrows h_keptMarks h_keptWhat h_keptCan v_h), (h_arrows, o_I cZ 16 (upd a38.2 (Int32.toNatClampNeg ((4 * a38.1) + q27)) (vp_nar .boolean 1))), (h_marks, o_I cI 4 a21.2.2.2), (h_apart, o_I cZ 16 q11)] := hD
                refine lv_iinc (v := (a38.1 + 1)) (lv' := [(3, .int (a38.1 + 1)), (0, .ref h_this), (1, .int a21.1), (2, .int q27)]) hx hb dX9_shrink_87 hl (k := 3) rfl rfl (by decide) rfl (fun ls hl => ?_)
                refine lv_goto (tgt := 38) hx hb dX9_shrink_90 (by decide) ?_
                exact hR38 _ _ _ _ hf hP hD hS (lv_sub hl [1, 2, 3, 0] rfl)
              · replace hf := k_ifT c65 hf
                refine lv_aload_n hx hb dX9_shrink_68 rfl (lv_at hl 0 rfl) ?_
                refine va_get (D := D) (ci := 8) (v := .ref h_arrows) (C := RX9) (T := TX9) (N := 41) hx hb hts inlX9 hown hK hP 0 rfl rfl 2 (by decide) (hts _ m_82) (fun _ h9 => h9) rfl dX9_shrink_69 ?_
                refine lv_iconst (v := 4) hx hb dX9_shrink_72 (by decide) ?_
                refine lv_iload_n hx hb dX9_shrink_73 rfl (lv_at hl 3 rfl) ?_
                refine lv_imul hx hb dX9_shrink_74 ?_
                refine lv_iload_n hx hb dX9_shrink_75 rfl (lv_at hl 1 rfl) ?_
                refine lv_iadd hx hb dX9_shrink_76 ?_
                obtain ⟨hi77, hf⟩ := k_chk_some hf
                refine va_zald (D := D) hx hb hK hP 1 3 rfl rfl hi77 dX9_shrink_77 ?_
                refine lv_if_eq (tgt := 85) hx hb dX9_shrink_78 (by decide) (fun c78 => ?_) (fun c78 => ?_)
                · replace hf := k_ifT c78 hf
                  refine lv_iconst (v := 0) hx hb dX9_shrink_85 (by decide) ?_
                  obtain ⟨hi86, hf⟩ := k_chk_some hf
                  refine va_zast (D := D) hx hb hK hP hD hS 1 3 rfl rfl hi86 dX9_shrink_86 (fun H locs hP hD hS => ?_)
                  have hP : va_P D vwCl [(h_this, o_X9 v_kind a21.2.1 h_arrows h_marks v_frames v_signs h_signAt h_behind v_formulas v_failsTold v_tellsTold v_seen h_seenWhat h_seenCan v_pageLength h_page v_stage v_newKind v_newWorlds v_newFrom v_newLast v_newP v_newQ h_newArrows v_wanted v_many h_to v_pNow v_qNow h_holds h_apart v_seedNow v_keptFrame v_keptKind v_keptWorlds v_keptSeen h_keptArrows h_keptMarks h_keptWhat h_keptCan v_h), (h_arrows, o_I cZ 16 (upd a38.2 (Int32.toNatClampNeg ((4 * a38.1) + q27)) (vp_nar .boolean 0))), (h_marks, o_I cI 4 a21.2.2.2), (h_apart, o_I cZ 16 q11)] H := hP
                  have hD : va_D A [(h_this, o_X9 v_kind a21.2.1 h_arrows h_marks v_frames v_signs h_signAt h_behind v_formulas v_failsTold v_tellsTold v_seen h_seenWhat h_seenCan v_pageLength h_page v_stage v_newKind v_newWorlds v_newFrom v_newLast v_newP v_newQ h_newArrows v_wanted v_many h_to v_pNow v_qNow h_holds h_apart v_seedNow v_keptFrame v_keptKind v_keptWorlds v_keptSeen h_keptArrows h_keptMarks h_keptWhat h_keptCan v_h), (h_arrows, o_I cZ 16 (upd a38.2 (Int32.toNatClampNeg ((4 * a38.1) + q27)) (vp_nar .boolean 0))), (h_marks, o_I cI 4 a21.2.2.2), (h_apart, o_I cZ 16 q11)] := hD
                  refine lv_iinc (v := (a38.1 + 1)) (lv' := [(3, .int (a38.1 + 1)), (0, .ref h_this), (1, .int a21.1), (2, .int q27)]) hx hb dX9_shrink_87 hl (k := 3) rfl rfl (by decide) rfl (fun ls hl => ?_)
                  refine lv_goto (tgt := 38) hx hb dX9_shrink_90 (by decide) ?_
                  exact hR38 _ _ _ _ hf hP hD hS (lv_sub hl [1, 2, 3, 0] rfl)
                · replace hf := k_ifF c78 hf
                  refine lv_iconst (v := 1) hx hb dX9_shrink_81 (by decide) ?_
                  refine lv_goto (tgt := 86) hx hb dX9_shrink_82 (by decide) ?_
                  obtain ⟨hi86, hf⟩ := k_chk_some hf
                  refine va_zast (D := D) hx hb hK hP hD hS 1 3 rfl rfl hi86 dX9_shrink_86 (fun H locs hP hD hS => ?_)
                  have hP : va_P D vwCl [(h_this, o_X9 v_kind a21.2.1 h_arrows h_marks v_frames v_signs h_signAt h_behind v_formulas v_failsTold v_tellsTold v_seen h_seenWhat h_seenCan v_pageLength h_page v_stage v_newKind v_newWorlds v_newFrom v_newLast v_newP v_newQ h_newArrows v_wanted v_many h_to v_pNow v_qNow h_holds h_apart v_seedNow v_keptFrame v_keptKind v_keptWorlds v_keptSeen h_keptArrows h_keptMarks h_keptWhat h_keptCan v_h), (h_arrows, o_I cZ 16 (upd a38.2 (Int32.toNatClampNeg ((4 * a38.1) + q27)) (vp_nar .boolean 1))), (h_marks, o_I cI 4 a21.2.2.2), (h_apart, o_I cZ 16 q11)] H := hP
                  have hD : va_D A [(h_this, o_X9 v_kind a21.2.1 h_arrows h_marks v_frames v_signs h_signAt h_behind v_formulas v_failsTold v_tellsTold v_seen h_seenWhat h_seenCan v_pageLength h_page v_stage v_newKind v_newWorlds v_newFrom v_newLast v_newP v_newQ h_newArrows v_wanted v_many h_to v_pNow v_qNow h_holds h_apart v_seedNow v_keptFrame v_keptKind v_keptWorlds v_keptSeen h_keptArrows h_keptMarks h_keptWhat h_keptCan v_h), (h_arrows, o_I cZ 16 (upd a38.2 (Int32.toNatClampNeg ((4 * a38.1) + q27)) (vp_nar .boolean 1))), (h_marks, o_I cI 4 a21.2.2.2), (h_apart, o_I cZ 16 q11)] := hD
                  refine lv_iinc (v := (a38.1 + 1)) (lv' := [(3, .int (a38.1 + 1)), (0, .ref h_this), (1, .int a21.1), (2, .int q27)]) hx hb dX9_shrink_87 hl (k := 3) rfl rfl (by decide) rfl (fun ls hl => ?_)
                  refine lv_goto (tgt := 38) hx hb dX9_shrink_90 (by decide) ?_
                  exact hR38 _ _ _ _ hf hP hD hS (lv_sub hl [1, 2, 3, 0] rfl)
  · replace hf := k_ifT c4 hf
    refine lv_bipush (v := (-103)) hx hb dX9_shrink_7 (by decide) ?_
    cases hf
    exact k_iret hx hb hr hlocks hAe hS hP hD dX9_shrink_9
set_option maxHeartbeats 4000000 in
set_option maxRecDepth 100000 in
theorem k_X9_layMarks (l : Launch) (D : va_G) (cB cI cJ cZ : ClassId) (tL tK : Nat) (h_this h_arrows h_marks h_signAt h_behind h_seenWhat h_seenCan h_page h_newArrows h_to h_holds h_apart h_keptArrows h_keptMarks h_keptWhat h_keptCan : Nat) (sz : Nat) (v_kind : Int32) (v_worlds : Int32) (v_frames : Int32) (v_signs : Int32) (v_formulas : Int32) (v_failsTold : Int32) (v_tellsTold : Int32) (v_seen : Int32) (v_pageLength : Int32) (v_stage : Int32) (v_newKind : Int32) (v_newWorlds : Int32) (v_newFrom : Int32) (v_newLast : Int32) (v_newP : Int32) (v_newQ : Int32) (v_wanted : Int32) (v_many : Int32) (v_pNow : Int32) (v_qNow : Int32) (v_seedNow : Int64) (v_keptFrame : Int32) (v_keptKind : Int32) (v_keptWorlds : Int32) (v_keptSeen : Int32) (v_h : Int64) (x1 : Int32) (q : Int32 × Int32) (hf : f_X9_layMarks v_many v_pNow v_qNow x1 = q) : Met l yX9_layMarks (.code yX9_layMarks cX9_layMarks 2 none :: k_all) { frames := 0, cells := 0, slots := 0, locals := 0 } (k_P D cB cI cJ cZ tL tK [.ref h_this, .int x1] [(h_this, o_X9 v_kind v_worlds h_arrows h_marks v_frames v_signs h_signAt h_behind v_formulas v_failsTold v_tellsTold v_seen h_seenWhat h_seenCan v_pageLength h_page v_stage v_newKind v_newWorlds v_newFrom v_newLast v_newP v_newQ h_newArrows v_wanted v_many h_to v_pNow v_qNow h_holds h_apart v_seedNow v_keptFrame v_keptKind v_keptWorlds v_keptSeen h_keptArrows h_keptMarks h_keptWhat h_keptCan v_h)] sz) (k_V D [(h_this, o_X9 v_kind v_worlds h_arrows h_marks v_frames v_signs h_signAt h_behind v_formulas v_failsTold v_tellsTold v_seen h_seenWhat h_seenCan v_pageLength h_page v_stage v_newKind v_newWorlds v_newFrom v_newLast v_newP v_newQ h_newArrows v_wanted v_many h_to v_pNow v_qNow h_holds h_apart v_seedNow v_keptFrame v_keptKind v_keptWorlds v_keptSeen h_keptArrows h_keptMarks h_keptWhat h_keptCan v_h)] [(h_this, o_X9 v_kind v_worlds h_arrows h_marks v_frames v_signs h_signAt h_behind v_formulas v_failsTold v_tellsTold v_seen h_seenWhat h_seenCan v_pageLength h_page v_stage v_newKind v_newWorlds v_newFrom v_newLast v_newP v_newQ h_newArrows v_wanted v_many h_to q.1 q.2 h_holds h_apart v_seedNow v_keptFrame v_keptKind v_keptWorlds v_keptSeen h_keptArrows h_keptMarks h_keptWhat h_keptCan v_h)] sz) 0 0 (va_A [(h_this, o_X9 v_kind v_worlds h_arrows h_marks v_frames v_signs h_signAt h_behind v_formulas v_failsTold v_tellsTold v_seen h_seenWhat h_seenCan v_pageLength h_page v_stage v_newKind v_newWorlds v_newFrom v_newLast v_newP v_newQ h_newArrows v_wanted v_many h_to v_pNow v_qNow h_holds h_apart v_seedNow v_keptFrame v_keptKind v_keptWorlds v_keptSeen h_keptArrows h_keptMarks h_keptWhat h_keptCan v_h)] sz) := by
  unfold f_X9_layMarks at hf
  refine k_met RX9 rfl (by decide +kernel) (Nat.le_of_ble_eq_true rfl) ?_
  intro p e s m below meth c A ls hx hb hr hml hown hts hlocks hin hsz hAe hA hK hN hZ hD hS hP hl
  have hl : lv_has ls 2 [(0, .ref h_this), (1, .int x1)] := hl
  refine lv_aload_n hx hb dX9_layMarks_0 rfl (lv_at hl 0 rfl) ?_
  refine lv_iload_n hx hb dX9_layMarks_1 rfl (lv_at hl 1 rfl) ?_
  refine lv_iconst (v := 1) hx hb dX9_layMarks_2 (by decide) ?_
  refine lv_aload_n hx hb dX9_layMarks_3 rfl (lv_at hl 0 rfl) ?_
  refine va_get (D := D) (ci := 8) (v := .int v_many) (C := RX9) (T := TX9) (N := 41) hx hb hts inlX9 hown hK hP 0 rfl rfl 25 (by decide) (hts _ m_461) (fun _ h9 => h9) rfl dX9_layMarks_4 ?_
  refine lv_ishl hx hb dX9_layMarks_7 ?_
  refine lv_iconst (v := 1) hx hb dX9_layMarks_8 (by decide) ?_
  refine lv_isub hx hb dX9_layMarks_9 ?_
  refine lv_iand hx hb dX9_layMarks_10 ?_
  refine va_put (D := D) (ci := 8) (v := .int (x1 &&& (((1 : Int32) <<< (v_many &&& 31)) - 1))) (ty := .int) (C := RX9) (T := TX9) (N := 41) hx hb hts inlX9 tyX9 tyX9_ok nmX9 hown hK hP hD hS 0 rfl rfl 27 (by decide) (hts _ m_462) (fun _ h9 => h9) rfl (by decide +kernel) rfl rfl (Nat.le_of_ble_eq_true rfl) dX9_layMarks_11 (fun H locs hP hD hS => ?_)
  have hP : va_P D vwCl [(h_this, o_X9 v_kind v_worlds h_arrows h_marks v_frames v_signs h_signAt h_behind v_formulas v_failsTold v_tellsTold v_seen h_seenWhat h_seenCan v_pageLength h_page v_stage v_newKind v_newWorlds v_newFrom v_newLast v_newP v_newQ h_newArrows v_wanted v_many h_to (x1 &&& (((1 : Int32) <<< (v_many &&& 31)) - 1)) v_qNow h_holds h_apart v_seedNow v_keptFrame v_keptKind v_keptWorlds v_keptSeen h_keptArrows h_keptMarks h_keptWhat h_keptCan v_h)] H := hP
  have hD : va_D A [(h_this, o_X9 v_kind v_worlds h_arrows h_marks v_frames v_signs h_signAt h_behind v_formulas v_failsTold v_tellsTold v_seen h_seenWhat h_seenCan v_pageLength h_page v_stage v_newKind v_newWorlds v_newFrom v_newLast v_newP v_newQ h_newArrows v_wanted v_many h_to (x1 &&& (((1 : Int32) <<< (v_many &&& 31)) - 1)) v_qNow h_holds h_apart v_seedNow v_keptFrame v_keptKind v_keptWorlds v_keptSeen h_keptArrows h_keptMarks h_keptWhat h_keptCan v_h)] := hD
  refine lv_aload_n hx hb dX9_layMarks_14 rfl (lv_at hl 0 rfl) ?_
  refine lv_iload_n hx hb dX9_layMarks_15 rfl (lv_at hl 1 rfl) ?_
  refine lv_aload_n hx hb dX9_layMarks_16 rfl (lv_at hl 0 rfl) ?_
  refine va_get (D := D) (ci := 8) (v := .int v_many) (C := RX9) (T := TX9) (N := 41) hx hb hts inlX9 hown hK hP 0 rfl rfl 25 (by decide) (hts _ m_461) (fun _ h9 => h9) rfl dX9_layMarks_17 ?_
  refine lv_ishr hx hb dX9_layMarks_20 ?_
  refine va_put (D := D) (ci := 8) (v := .int (x1 >>> (v_many &&& 31))) (ty := .int) (C := RX9) (T := TX9) (N := 41) hx hb hts inlX9 tyX9 tyX9_ok nmX9 hown hK hP hD hS 0 rfl rfl 28 (by decide) (hts _ m_463) (fun _ h9 => h9) rfl (by decide +kernel) rfl rfl (Nat.le_of_ble_eq_true rfl) dX9_layMarks_21 (fun H locs hP hD hS => ?_)
  have hP : va_P D vwCl [(h_this, o_X9 v_kind v_worlds h_arrows h_marks v_frames v_signs h_signAt h_behind v_formulas v_failsTold v_tellsTold v_seen h_seenWhat h_seenCan v_pageLength h_page v_stage v_newKind v_newWorlds v_newFrom v_newLast v_newP v_newQ h_newArrows v_wanted v_many h_to (x1 &&& (((1 : Int32) <<< (v_many &&& 31)) - 1)) (x1 >>> (v_many &&& 31)) h_holds h_apart v_seedNow v_keptFrame v_keptKind v_keptWorlds v_keptSeen h_keptArrows h_keptMarks h_keptWhat h_keptCan v_h)] H := hP
  have hD : va_D A [(h_this, o_X9 v_kind v_worlds h_arrows h_marks v_frames v_signs h_signAt h_behind v_formulas v_failsTold v_tellsTold v_seen h_seenWhat h_seenCan v_pageLength h_page v_stage v_newKind v_newWorlds v_newFrom v_newLast v_newP v_newQ h_newArrows v_wanted v_many h_to (x1 &&& (((1 : Int32) <<< (v_many &&& 31)) - 1)) (x1 >>> (v_many &&& 31)) h_holds h_apart v_seedNow v_keptFrame v_keptKind v_keptWorlds v_keptSeen h_keptArrows h_keptMarks h_keptWhat h_keptCan v_h)] := hD
  subst hf
  exact k_vret hx hb hr hlocks hAe hS hP hD dX9_layMarks_24
set_option maxHeartbeats 4000000 in
set_option maxRecDepth 100000 in
theorem k_X9_failing (l : Launch) (D : va_G) (cB cI cJ cZ : ClassId) (tL tK : Nat) (h_this h_arrows h_marks h_signAt h_behind h_seenWhat h_seenCan h_page h_newArrows h_to h_holds h_apart h_keptArrows h_keptMarks h_keptWhat h_keptCan : Nat) (sz : Nat) (v_kind : Int32) (v_worlds : Int32) (v_frames : Int32) (v_signs : Int32) (v_formulas : Int32) (v_failsTold : Int32) (v_tellsTold : Int32) (v_seen : Int32) (v_pageLength : Int32) (v_stage : Int32) (v_newKind : Int32) (v_newWorlds : Int32) (v_newFrom : Int32) (v_newLast : Int32) (v_newP : Int32) (v_newQ : Int32) (v_wanted : Int32) (v_many : Int32) (v_pNow : Int32) (v_qNow : Int32) (v_seedNow : Int64) (v_keptFrame : Int32) (v_keptKind : Int32) (v_keptWorlds : Int32) (v_keptSeen : Int32) (v_h : Int64) (v_signAt : (Nat → Int32)) (v_behind : (Nat → Int32)) (v_to : (Nat → Int32)) (v_holds : (Nat → Int32))  (q : Int32 × Int32 × Int32 × (Nat → Int32)) (hf : f_X9_failing v_signs v_many v_pNow v_qNow v_signAt v_behind v_to v_holds = some q) : Met l yX9_failing (.code yX9_failing cX9_failing 2 (some .int) :: k_all) { frames := 3, cells := 0, slots := 0, locals := 68 } (k_P D cB cI cJ cZ tL tK [.ref h_this] [(h_this, o_X9 v_kind v_worlds h_arrows h_marks v_frames v_signs h_signAt h_behind v_formulas v_failsTold v_tellsTold v_seen h_seenWhat h_seenCan v_pageLength h_page v_stage v_newKind v_newWorlds v_newFrom v_newLast v_newP v_newQ h_newArrows v_wanted v_many h_to v_pNow v_qNow h_holds h_apart v_seedNow v_keptFrame v_keptKind v_keptWorlds v_keptSeen h_keptArrows h_keptMarks h_keptWhat h_keptCan v_h), (h_signAt, o_I cB 16 v_signAt), (h_behind, o_I cI 17 v_behind), (h_to, o_I cI 4 v_to), (h_holds, o_I cI 16 v_holds)] sz) (k_I D q.1 [(h_this, o_X9 v_kind v_worlds h_arrows h_marks v_frames v_signs h_signAt h_behind v_formulas v_failsTold v_tellsTold v_seen h_seenWhat h_seenCan v_pageLength h_page v_stage v_newKind v_newWorlds v_newFrom v_newLast v_newP v_newQ h_newArrows v_wanted v_many h_to v_pNow v_qNow h_holds h_apart v_seedNow v_keptFrame v_keptKind v_keptWorlds v_keptSeen h_keptArrows h_keptMarks h_keptWhat h_keptCan v_h), (h_signAt, o_I cB 16 v_signAt), (h_behind, o_I cI 17 v_behind), (h_to, o_I cI 4 v_to), (h_holds, o_I cI 16 v_holds)] [(h_this, o_X9 v_kind v_worlds h_arrows h_marks v_frames v_signs h_signAt h_behind v_formulas v_failsTold v_tellsTold v_seen h_seenWhat h_seenCan v_pageLength h_page v_stage v_newKind v_newWorlds v_newFrom v_newLast v_newP v_newQ h_newArrows v_wanted v_many h_to q.2.1 q.2.2.1 h_holds h_apart v_seedNow v_keptFrame v_keptKind v_keptWorlds v_keptSeen h_keptArrows h_keptMarks h_keptWhat h_keptCan v_h), (h_signAt, o_I cB 16 v_signAt), (h_behind, o_I cI 17 v_behind), (h_to, o_I cI 4 v_to), (h_holds, o_I cI 16 q.2.2.2)] sz) 0 0 (va_A [(h_this, o_X9 v_kind v_worlds h_arrows h_marks v_frames v_signs h_signAt h_behind v_formulas v_failsTold v_tellsTold v_seen h_seenWhat h_seenCan v_pageLength h_page v_stage v_newKind v_newWorlds v_newFrom v_newLast v_newP v_newQ h_newArrows v_wanted v_many h_to v_pNow v_qNow h_holds h_apart v_seedNow v_keptFrame v_keptKind v_keptWorlds v_keptSeen h_keptArrows h_keptMarks h_keptWhat h_keptCan v_h), (h_signAt, o_I cB 16 v_signAt), (h_behind, o_I cI 17 v_behind), (h_to, o_I cI 4 v_to), (h_holds, o_I cI 16 v_holds)] sz) := by
  unfold f_X9_failing at hf
  refine k_met RX9 rfl (by decide +kernel) (Nat.le_of_ble_eq_true rfl) ?_
  intro p e s m below meth c A ls hx hb hr hml hown hts hlocks hin hsz hAe hA hK hN hZ hD hS hP hl
  have hl : lv_has ls 2 [(0, .ref h_this)] := hl
  refine lv_iconst (v := 0) hx hb dX9_failing_0 (by decide) ?_
  refine lv_istore_n (lv' := [(1, .int 0), (0, .ref h_this)]) hx hb dX9_failing_1 rfl hl (by decide) rfl (fun ls hl => ?_)
  refine k_wl 48 (wsf := fun (a2 : Int32 × Int32 × Int32 × (Nat → Int32)) => [(h_this, o_X9 v_kind v_worlds h_arrows h_marks v_frames v_signs h_signAt h_behind v_formulas v_failsTold v_tellsTold v_seen h_seenWhat h_seenCan v_pageLength h_page v_stage v_newKind v_newWorlds v_newFrom v_newLast v_newP v_newQ h_newArrows v_wanted v_many h_to a2.2.1 a2.2.2.1 h_holds h_apart v_seedNow v_keptFrame v_keptKind v_keptWorlds v_keptSeen h_keptArrows h_keptMarks h_keptWhat h_keptCan v_h), (h_signAt, o_I cB 16 v_signAt), (h_behind, o_I cI 17 v_behind), (h_to, o_I cI 4 v_to), (h_holds, o_I cI 16 a2.2.2.2)]) (lvf := fun (a2 : Int32 × Int32 × Int32 × (Nat → Int32)) => [(0, .ref h_this), (1, .int a2.1)]) hf hP hD hS (lv_sub hl [1, 0] rfl) ?_ ?_
  · intro a2 H locs ls hf hP hD hS hl
    have hP : va_P D vwCl [(h_this, o_X9 v_kind v_worlds h_arrows h_marks v_frames v_signs h_signAt h_behind v_formulas v_failsTold v_tellsTold v_seen h_seenWhat h_seenCan v_pageLength h_page v_stage v_newKind v_newWorlds v_newFrom v_newLast v_newP v_newQ h_newArrows v_wanted v_many h_to a2.2.1 a2.2.2.1 h_holds h_apart v_seedNow v_keptFrame v_keptKind v_keptWorlds v_keptSeen h_keptArrows h_keptMarks h_keptWhat h_keptCan v_h), (h_signAt, o_I cB 16 v_signAt), (h_behind, o_I cI 17 v_behind), (h_to, o_I cI 4 v_to), (h_holds, o_I cI 16 a2.2.2.2)] H := hP
    have hD : va_D A [(h_this, o_X9 v_kind v_worlds h_arrows h_marks v_frames v_signs h_signAt h_behind v_formulas v_failsTold v_tellsTold v_seen h_seenWhat h_seenCan v_pageLength h_page v_stage v_newKind v_newWorlds v_newFrom v_newLast v_newP v_newQ h_newArrows v_wanted v_many h_to a2.2.1 a2.2.2.1 h_holds h_apart v_seedNow v_keptFrame v_keptKind v_keptWorlds v_keptSeen h_keptArrows h_keptMarks h_keptWhat h_keptCan v_h), (h_signAt, o_I cB 16 v_signAt), (h_behind, o_I cI 17 v_behind), (h_to, o_I cI 4 v_to), (h_holds, o_I cI 16 a2.2.2.2)] := hD
    have hl : lv_has ls 2 [(0, .ref h_this), (1, .int a2.1)] := hl
    refine lv_iconst (v := (-1)) hx hb dX9_failing_48 (by decide) ?_
    cases hf
    exact k_iret hx hb hr hlocks hAe hS hP hD dX9_failing_49
  · intro ex2 rc2 hE2 hR2 a2 H locs ls hf hP hD hS hl
    have hP : va_P D vwCl [(h_this, o_X9 v_kind v_worlds h_arrows h_marks v_frames v_signs h_signAt h_behind v_formulas v_failsTold v_tellsTold v_seen h_seenWhat h_seenCan v_pageLength h_page v_stage v_newKind v_newWorlds v_newFrom v_newLast v_newP v_newQ h_newArrows v_wanted v_many h_to a2.2.1 a2.2.2.1 h_holds h_apart v_seedNow v_keptFrame v_keptKind v_keptWorlds v_keptSeen h_keptArrows h_keptMarks h_keptWhat h_keptCan v_h), (h_signAt, o_I cB 16 v_signAt), (h_behind, o_I cI 17 v_behind), (h_to, o_I cI 4 v_to), (h_holds, o_I cI 16 a2.2.2.2)] H := hP
    have hD : va_D A [(h_this, o_X9 v_kind v_worlds h_arrows h_marks v_frames v_signs h_signAt h_behind v_formulas v_failsTold v_tellsTold v_seen h_seenWhat h_seenCan v_pageLength h_page v_stage v_newKind v_newWorlds v_newFrom v_newLast v_newP v_newQ h_newArrows v_wanted v_many h_to a2.2.1 a2.2.2.1 h_holds h_apart v_seedNow v_keptFrame v_keptKind v_keptWorlds v_keptSeen h_keptArrows h_keptMarks h_keptWhat h_keptCan v_h), (h_signAt, o_I cB 16 v_signAt), (h_behind, o_I cI 17 v_behind), (h_to, o_I cI 4 v_to), (h_holds, o_I cI 16 a2.2.2.2)] := hD
    have hl : lv_has ls 2 [(0, .ref h_this), (1, .int a2.1)] := hl
    refine lv_iload_n hx hb dX9_failing_2 rfl (lv_at hl 1 rfl) ?_
    refine lv_iconst (v := 1) hx hb dX9_failing_3 (by decide) ?_
    refine lv_iconst (v := 2) hx hb dX9_failing_4 (by decide) ?_
    refine lv_aload_n hx hb dX9_failing_5 rfl (lv_at hl 0 rfl) ?_
    refine va_get (D := D) (ci := 8) (v := .int v_many) (C := RX9) (T := TX9) (N := 41) hx hb hts inlX9 hown hK hP 0 rfl rfl 25 (by decide) (hts _ m_461) (fun _ h9 => h9) rfl dX9_failing_6 ?_
    refine lv_imul hx hb dX9_failing_9 ?_
    refine lv_ishl hx hb dX9_failing_10 ?_
    refine lv_icmp_ge (tgt := 48) hx hb dX9_failing_11 (by decide) (fun c11 => ?_) (fun c11 => ?_)
    · replace hf := k_ifT c11 hf
      exact hE2 _ _ _ _ hf hP hD hS (lv_sub hl [0, 1] rfl)
    · replace hf := k_ifF c11 hf
      refine lv_aload_n hx hb dX9_failing_14 rfl (lv_at hl 0 rfl) ?_
      refine lv_iload_n hx hb dX9_failing_15 rfl (lv_at hl 1 rfl) ?_
      obtain ⟨q16, hq16, hf⟩ := k_let_ex hf
      refine k_callv (wN := [(h_this, o_X9 v_kind v_worlds h_arrows h_marks v_frames v_signs h_signAt h_behind v_formulas v_failsTold v_tellsTold v_seen h_seenWhat h_seenCan v_pageLength h_page v_stage v_newKind v_newWorlds v_newFrom v_newLast v_newP v_newQ h_newArrows v_wanted v_many h_to q16.1 q16.2 h_holds h_apart v_seedNow v_keptFrame v_keptKind v_keptWorlds v_keptSeen h_keptArrows h_keptMarks h_keptWhat h_keptCan v_h), (h_signAt, o_I cB 16 v_signAt), (h_behind, o_I cI 17 v_behind), (h_to, o_I cI 4 v_to), (h_holds, o_I cI 16 a2.2.2.2)]) [0] [1, 2, 3, 4] [4, 0, 1, 2, 3] hP hD hS hA (va_runV (As := [.int a2.1]) (rest := []) ⟨hx, hb, hml, hown, hts⟩ (k_X9_layMarks l D cB cI cJ cZ tL tK h_this h_arrows h_marks h_signAt h_behind h_seenWhat h_seenCan h_page h_newArrows h_to h_holds h_apart h_keptArrows h_keptMarks h_keptWhat h_keptCan _ v_kind v_worlds v_frames v_signs v_formulas v_failsTold v_tellsTold v_seen v_pageLength v_stage v_newKind v_newWorlds v_newFrom v_newLast v_newP v_newQ v_wanted v_many a2.2.1 a2.2.2.1 v_seedNow v_keptFrame v_keptKind v_keptWorlds v_keptSeen v_h a2.1 q16 hq16) (cwV 1 hts (k_gV m_812 m_809 m_810 m_811 m_5) rfl rfl rfl (by decide +kernel) ⟨Nat.le_of_ble_eq_true rfl, Nat.le_of_ble_eq_true rfl⟩) (k_preV [0] hK hN hZ hP hD hS hA rfl rfl (va_recv hK hP (ci := 8) (q0 := 0) rfl rfl)) rfl rfl hl.1 rfl (lv_room (Nat.le_of_ble_eq_true rfl)) dX9_failing_16 ⟨Nat.le_refl _, Nat.le_refl _⟩) rfl rfl rfl rfl rfl (fun H locs hP hD hS => ?_)
      refine lv_aload_n hx hb dX9_failing_19 rfl (lv_at hl 0 rfl) ?_
      obtain ⟨q20, hq20, hf⟩ := k_bind hf
      refine k_callv (wN := [(h_this, o_X9 v_kind v_worlds h_arrows h_marks v_frames v_signs h_signAt h_behind v_formulas v_failsTold v_tellsTold v_seen h_seenWhat h_seenCan v_pageLength h_page v_stage v_newKind v_newWorlds v_newFrom v_newLast v_newP v_newQ h_newArrows v_wanted v_many h_to q16.1 q16.2 h_holds h_apart v_seedNow v_keptFrame v_keptKind v_keptWorlds v_keptSeen h_keptArrows h_keptMarks h_keptWhat h_keptCan v_h), (h_signAt, o_I cB 16 v_signAt), (h_behind, o_I cI 17 v_behind), (h_to, o_I cI 4 v_to), (h_holds, o_I cI 16 q20)]) [0, 1, 2, 3, 4] [] [0, 1, 2, 3, 4] hP hD hS hA (va_runV (As := []) (rest := []) ⟨hx, hb, hml, hown, hts⟩ (k_X9_layHolds l D cB cI cJ cZ tL tK h_this h_arrows h_marks h_signAt h_behind h_seenWhat h_seenCan h_page h_newArrows h_to h_holds h_apart h_keptArrows h_keptMarks h_keptWhat h_keptCan _ v_kind v_worlds v_frames v_signs v_formulas v_failsTold v_tellsTold v_seen v_pageLength v_stage v_newKind v_newWorlds v_newFrom v_newLast v_newP v_newQ v_wanted v_many q16.1 q16.2 v_seedNow v_keptFrame v_keptKind v_keptWorlds v_keptSeen v_h v_signAt v_behind v_to a2.2.2.2 q20 hq20) (cwV 0 hts (k_gV m_619 m_616 m_617 m_618 m_5) rfl rfl rfl (by decide +kernel) ⟨Nat.le_of_ble_eq_true rfl, Nat.le_of_ble_eq_true rfl⟩) (k_preV [0, 1, 2, 3, 4] hK hN hZ hP hD hS hA rfl rfl (va_recv hK hP (ci := 8) (q0 := 0) rfl rfl)) rfl rfl hl.1 rfl (lv_room (Nat.le_of_ble_eq_true rfl)) dX9_failing_20 ⟨Nat.le_refl _, Nat.le_refl _⟩) rfl rfl rfl rfl rfl (fun H locs hP hD hS => ?_)
      refine lv_aload_n hx hb dX9_failing_23 rfl (lv_at hl 0 rfl) ?_
      refine va_get (D := D) (ci := 8) (v := .ref h_holds) (C := RX9) (T := TX9) (N := 41) hx hb hts inlX9 hown hK hP 0 rfl rfl 29 (by decide) (hts _ m_92) (fun _ h9 => h9) rfl dX9_failing_24 ?_
      refine lv_iconst (v := 0) hx hb dX9_failing_27 (by decide) ?_
      obtain ⟨hi28, hf⟩ := k_chk_some hf
      refine va_iald (D := D) hx hb hK hP 4 1 rfl rfl hi28 dX9_failing_28 ?_
      refine lv_iconst (v := 1) hx hb dX9_failing_29 (by decide) ?_
      refine lv_aload_n hx hb dX9_failing_30 rfl (lv_at hl 0 rfl) ?_
      refine va_get (D := D) (ci := 8) (v := .int v_many) (C := RX9) (T := TX9) (N := 41) hx hb hts inlX9 hown hK hP 0 rfl rfl 25 (by decide) (hts _ m_461) (fun _ h9 => h9) rfl dX9_failing_31 ?_
      refine lv_ishl hx hb dX9_failing_34 ?_
      refine lv_iconst (v := 1) hx hb dX9_failing_35 (by decide) ?_
      refine lv_isub hx hb dX9_failing_36 ?_
      refine lv_icmp_eq (tgt := 42) hx hb dX9_failing_37 (by decide) (fun c37 => ?_) (fun c37 => ?_)
      · replace hf := k_ifT c37 hf
        refine lv_iinc (v := (a2.1 + 1)) (lv' := [(1, .int (a2.1 + 1)), (0, .ref h_this)]) hx hb dX9_failing_42 hl (k := 1) rfl rfl (by decide) rfl (fun ls hl => ?_)
        refine lv_goto (tgt := 2) hx hb dX9_failing_45 (by decide) ?_
        exact hR2 _ _ _ _ hf hP hD hS (lv_sub hl [1, 0] rfl)
      · replace hf := k_ifF c37 hf
        refine lv_iload_n hx hb dX9_failing_40 rfl (lv_at hl 1 rfl) ?_
        cases hf
        exact k_iret hx hb hr hlocks hAe hS hP hD dX9_failing_41
set_option maxHeartbeats 4000000 in
set_option maxRecDepth 100000 in
theorem k_X9_validNow (l : Launch) (D : va_G) (cB cI cJ cZ : ClassId) (tL tK : Nat) (h_this h_arrows h_marks h_signAt h_behind h_seenWhat h_seenCan h_page h_newArrows h_to h_holds h_apart h_keptArrows h_keptMarks h_keptWhat h_keptCan : Nat) (sz : Nat) (v_kind : Int32) (v_worlds : Int32) (v_frames : Int32) (v_signs : Int32) (v_formulas : Int32) (v_failsTold : Int32) (v_tellsTold : Int32) (v_seen : Int32) (v_pageLength : Int32) (v_stage : Int32) (v_newKind : Int32) (v_newWorlds : Int32) (v_newFrom : Int32) (v_newLast : Int32) (v_newP : Int32) (v_newQ : Int32) (v_wanted : Int32) (v_many : Int32) (v_pNow : Int32) (v_qNow : Int32) (v_seedNow : Int64) (v_keptFrame : Int32) (v_keptKind : Int32) (v_keptWorlds : Int32) (v_keptSeen : Int32) (v_h : Int64) (v_arrows : (Nat → Int32)) (v_marks : (Nat → Int32)) (v_signAt : (Nat → Int32)) (v_behind : (Nat → Int32)) (v_to : (Nat → Int32)) (v_holds : (Nat → Int32))  (q : Int32 × Int32 × Int32 × Int32 × (Nat → Int32) × (Nat → Int32)) (hf : f_X9_validNow v_worlds v_signs v_many v_pNow v_qNow v_arrows v_marks v_signAt v_behind v_to v_holds = some q) : Met l yX9_validNow (.code yX9_validNow cX9_validNow 1 (some .int) :: k_all) { frames := 4, cells := 0, slots := 0, locals := 89 } (k_P D cB cI cJ cZ tL tK [.ref h_this] [(h_this, o_X9 v_kind v_worlds h_arrows h_marks v_frames v_signs h_signAt h_behind v_formulas v_failsTold v_tellsTold v_seen h_seenWhat h_seenCan v_pageLength h_page v_stage v_newKind v_newWorlds v_newFrom v_newLast v_newP v_newQ h_newArrows v_wanted v_many h_to v_pNow v_qNow h_holds h_apart v_seedNow v_keptFrame v_keptKind v_keptWorlds v_keptSeen h_keptArrows h_keptMarks h_keptWhat h_keptCan v_h), (h_arrows, o_I cZ 16 v_arrows), (h_marks, o_I cI 4 v_marks), (h_signAt, o_I cB 16 v_signAt), (h_behind, o_I cI 17 v_behind), (h_to, o_I cI 4 v_to), (h_holds, o_I cI 16 v_holds)] sz) (k_I D q.1 [(h_this, o_X9 v_kind v_worlds h_arrows h_marks v_frames v_signs h_signAt h_behind v_formulas v_failsTold v_tellsTold v_seen h_seenWhat h_seenCan v_pageLength h_page v_stage v_newKind v_newWorlds v_newFrom v_newLast v_newP v_newQ h_newArrows v_wanted v_many h_to v_pNow v_qNow h_holds h_apart v_seedNow v_keptFrame v_keptKind v_keptWorlds v_keptSeen h_keptArrows h_keptMarks h_keptWhat h_keptCan v_h), (h_arrows, o_I cZ 16 v_arrows), (h_marks, o_I cI 4 v_marks), (h_signAt, o_I cB 16 v_signAt), (h_behind, o_I cI 17 v_behind), (h_to, o_I cI 4 v_to), (h_holds, o_I cI 16 v_holds)] [(h_this, o_X9 v_kind v_worlds h_arrows h_marks v_frames v_signs h_signAt h_behind v_formulas v_failsTold v_tellsTold v_seen h_seenWhat h_seenCan v_pageLength h_page v_stage v_newKind v_newWorlds v_newFrom v_newLast v_newP v_newQ h_newArrows v_wanted q.2.1 h_to q.2.2.1 q.2.2.2.1 h_holds h_apart v_seedNow v_keptFrame v_keptKind v_keptWorlds v_keptSeen h_keptArrows h_keptMarks h_keptWhat h_keptCan v_h), (h_arrows, o_I cZ 16 v_arrows), (h_marks, o_I cI 4 v_marks), (h_signAt, o_I cB 16 v_signAt), (h_behind, o_I cI 17 v_behind), (h_to, o_I cI 4 q.2.2.2.2.1), (h_holds, o_I cI 16 q.2.2.2.2.2)] sz) 0 0 (va_A [(h_this, o_X9 v_kind v_worlds h_arrows h_marks v_frames v_signs h_signAt h_behind v_formulas v_failsTold v_tellsTold v_seen h_seenWhat h_seenCan v_pageLength h_page v_stage v_newKind v_newWorlds v_newFrom v_newLast v_newP v_newQ h_newArrows v_wanted v_many h_to v_pNow v_qNow h_holds h_apart v_seedNow v_keptFrame v_keptKind v_keptWorlds v_keptSeen h_keptArrows h_keptMarks h_keptWhat h_keptCan v_h), (h_arrows, o_I cZ 16 v_arrows), (h_marks, o_I cI 4 v_marks), (h_signAt, o_I cB 16 v_signAt), (h_behind, o_I cI 17 v_behind), (h_to, o_I cI 4 v_to), (h_holds, o_I cI 16 v_holds)] sz) := by
  unfold f_X9_validNow at hf
  refine k_met RX9 rfl (by decide +kernel) (Nat.le_of_ble_eq_true rfl) ?_
  intro p e s m below meth c A ls hx hb hr hml hown hts hlocks hin hsz hAe hA hK hN hZ hD hS hP hl
  have hl : lv_has ls 1 [(0, .ref h_this)] := hl
  refine lv_aload_n hx hb dX9_validNow_0 rfl (lv_at hl 0 rfl) ?_
  obtain ⟨q1, hq1, hf⟩ := k_bind hf
  refine k_callv (wN := [(h_this, o_X9 v_kind v_worlds h_arrows h_marks v_frames v_signs h_signAt h_behind v_formulas v_failsTold v_tellsTold v_seen h_seenWhat h_seenCan v_pageLength h_page v_stage v_newKind v_newWorlds v_newFrom v_newLast v_newP v_newQ h_newArrows v_wanted q1.1 h_to q1.2.1 q1.2.2.1 h_holds h_apart v_seedNow v_keptFrame v_keptKind v_keptWorlds v_keptSeen h_keptArrows h_keptMarks h_keptWhat h_keptCan v_h), (h_arrows, o_I cZ 16 v_arrows), (h_marks, o_I cI 4 v_marks), (h_signAt, o_I cB 16 v_signAt), (h_behind, o_I cI 17 v_behind), (h_to, o_I cI 4 q1.2.2.2), (h_holds, o_I cI 16 v_holds)]) [0, 1, 2, 5] [3, 4, 6] [3, 4, 5, 0, 1, 6, 2] hP hD hS hA (va_runV (As := []) (rest := []) ⟨hx, hb, hml, hown, hts⟩ (k_X9_layFrame l D cB cI cJ cZ tL tK h_this h_arrows h_marks h_signAt h_behind h_seenWhat h_seenCan h_page h_newArrows h_to h_holds h_apart h_keptArrows h_keptMarks h_keptWhat h_keptCan _ v_kind v_worlds v_frames v_signs v_formulas v_failsTold v_tellsTold v_seen v_pageLength v_stage v_newKind v_newWorlds v_newFrom v_newLast v_newP v_newQ v_wanted v_many v_pNow v_qNow v_seedNow v_keptFrame v_keptKind v_keptWorlds v_keptSeen v_h v_arrows v_marks v_to q1 hq1) (cwV 0 hts (k_gV m_460 m_457 m_458 m_459 m_5) rfl rfl rfl (by decide +kernel) ⟨Nat.le_of_ble_eq_true rfl, Nat.le_of_ble_eq_true rfl⟩) (k_preV [0, 1, 2, 5] hK hN hZ hP hD hS hA rfl rfl (va_recv hK hP (ci := 8) (q0 := 0) rfl rfl)) rfl rfl hl.1 rfl (lv_room (Nat.le_of_ble_eq_true rfl)) dX9_validNow_1 ⟨Nat.le_refl _, Nat.le_refl _⟩) rfl rfl rfl rfl rfl (fun H locs hP hD hS => ?_)
  refine lv_aload_n hx hb dX9_validNow_4 rfl (lv_at hl 0 rfl) ?_
  obtain ⟨q5, hq5, hf⟩ := k_bind hf
  refine k_calli (wN := [(h_this, o_X9 v_kind v_worlds h_arrows h_marks v_frames v_signs h_signAt h_behind v_formulas v_failsTold v_tellsTold v_seen h_seenWhat h_seenCan v_pageLength h_page v_stage v_newKind v_newWorlds v_newFrom v_newLast v_newP v_newQ h_newArrows v_wanted q1.1 h_to q5.2.1 q5.2.2.1 h_holds h_apart v_seedNow v_keptFrame v_keptKind v_keptWorlds v_keptSeen h_keptArrows h_keptMarks h_keptWhat h_keptCan v_h), (h_arrows, o_I cZ 16 v_arrows), (h_marks, o_I cI 4 v_marks), (h_signAt, o_I cB 16 v_signAt), (h_behind, o_I cI 17 v_behind), (h_to, o_I cI 4 q1.2.2.2), (h_holds, o_I cI 16 q5.2.2.2)]) [0, 3, 4, 5, 6] [1, 2] [2, 0, 1, 3, 4, 5, 6] hP hD hS hA (va_runV (As := []) (rest := []) ⟨hx, hb, hml, hown, hts⟩ (k_X9_failing l D cB cI cJ cZ tL tK h_this h_arrows h_marks h_signAt h_behind h_seenWhat h_seenCan h_page h_newArrows h_to h_holds h_apart h_keptArrows h_keptMarks h_keptWhat h_keptCan _ v_kind v_worlds v_frames v_signs v_formulas v_failsTold v_tellsTold v_seen v_pageLength v_stage v_newKind v_newWorlds v_newFrom v_newLast v_newP v_newQ v_wanted q1.1 q1.2.1 q1.2.2.1 v_seedNow v_keptFrame v_keptKind v_keptWorlds v_keptSeen v_h v_signAt v_behind q1.2.2.2 v_holds q5 hq5) (cwV 0 hts (k_gV m_808 m_805 m_806 m_807 m_5) rfl rfl rfl (by decide +kernel) ⟨Nat.le_of_ble_eq_true rfl, Nat.le_of_ble_eq_true rfl⟩) (k_preV [0, 3, 4, 5, 6] hK hN hZ hP hD hS hA rfl rfl (va_recv hK hP (ci := 8) (q0 := 0) rfl rfl)) rfl rfl hl.1 rfl (lv_room (Nat.le_of_ble_eq_true rfl)) dX9_validNow_5 ⟨Nat.le_refl _, Nat.le_refl _⟩) rfl rfl rfl rfl rfl (fun H locs hP hD hS => ?_)
  refine lv_iconst (v := (-1)) hx hb dX9_validNow_8 (by decide) ?_
  refine lv_icmp_ne (tgt := 16) hx hb dX9_validNow_9 (by decide) (fun c9 => ?_) (fun c9 => ?_)
  · replace hf := k_ifF c9 hf
    refine lv_iconst (v := 0) hx hb dX9_validNow_16 (by decide) ?_
    cases hf
    exact k_iret hx hb hr hlocks hAe hS hP hD dX9_validNow_17
  · replace hf := k_ifT c9 hf
    refine lv_iconst (v := 1) hx hb dX9_validNow_12 (by decide) ?_
    refine lv_goto (tgt := 17) hx hb dX9_validNow_13 (by decide) ?_
    cases hf
    exact k_iret hx hb hr hlocks hAe hS hP hD dX9_validNow_17
