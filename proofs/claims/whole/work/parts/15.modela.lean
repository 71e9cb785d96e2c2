set_option maxHeartbeats 4000000 in
set_option maxRecDepth 100000 in
theorem k_X9_within (l : Launch) (D : va_G) (cB cI cJ cZ : ClassId) (tL tK : Nat) (sz : Nat)  (x1 : Int32) (x2 : Int32) (x3 : Int32) (q : Int32) (hf : f_X9_within x1 x2 x3 = q) : Met l yX9_within (.code yX9_within cX9_within 3 (some .boolean) :: k_all) { frames := 0, cells := 0, slots := 0, locals := 0 } (k_P D cB cI cJ cZ tL tK [.int x1, .int x2, .int x3] [] sz) (k_I D q [] [] sz) 0 0 (va_A [] sz) := by
  unfold f_X9_within at hf
  refine k_met RX9 rfl (by decide +kernel) (Nat.le_of_ble_eq_true rfl) ?_
  intro p e s m below meth c A ls hx hb hr hml hown hts hlocks hin hsz hAe hA hK hN hZ hD hS hP hl
  have hl : lv_has ls 3 [(0, .int x1), (1, .int x2), (2, .int x3)] := hl
  refine lv_iload_n hx hb dX9_within_0 rfl (lv_at hl 0 rfl) ?_
  refine lv_iload_n hx hb dX9_within_1 rfl (lv_at hl 1 rfl) ?_
  refine lv_icmp_lt (tgt := 14) hx hb dX9_within_2 (by decide) (fun c2 => ?_) (fun c2 => ?_)
  · replace hf := k_ifT c2 hf
    refine lv_iconst (v := 0) hx hb dX9_within_14 (by decide) ?_
    subst hf
    exact k_zret (r := 0) hx hb hr rfl hlocks hAe hS hP hD dX9_within_15
  · replace hf := k_ifF c2 hf
    refine lv_iload_n hx hb dX9_within_5 rfl (lv_at hl 0 rfl) ?_
    refine lv_iload_n hx hb dX9_within_6 rfl (lv_at hl 2 rfl) ?_
    refine lv_icmp_gt (tgt := 14) hx hb dX9_within_7 (by decide) (fun c7 => ?_) (fun c7 => ?_)
    · replace hf := k_ifT c7 hf
      refine lv_iconst (v := 0) hx hb dX9_within_14 (by decide) ?_
      subst hf
      exact k_zret (r := 0) hx hb hr rfl hlocks hAe hS hP hD dX9_within_15
    · replace hf := k_ifF c7 hf
      refine lv_iconst (v := 1) hx hb dX9_within_10 (by decide) ?_
      refine lv_goto (tgt := 15) hx hb dX9_within_11 (by decide) ?_
      subst hf
      exact k_zret (r := 1) hx hb hr rfl hlocks hAe hS hP hD dX9_within_15
set_option maxHeartbeats 4000000 in
set_option maxRecDepth 100000 in
theorem k_X9_letter (l : Launch) (D : va_G) (cB cI cJ cZ : ClassId) (tL tK : Nat) (h_this h_arrows h_marks h_signAt h_behind h_seenWhat h_seenCan h_page h_newArrows h_to h_holds h_apart h_keptArrows h_keptMarks h_keptWhat h_keptCan : Nat) (sz : Nat) (v_kind : Int32) (v_worlds : Int32) (v_frames : Int32) (v_signs : Int32) (v_formulas : Int32) (v_failsTold : Int32) (v_tellsTold : Int32) (v_seen : Int32) (v_pageLength : Int32) (v_stage : Int32) (v_newKind : Int32) (v_newWorlds : Int32) (v_newFrom : Int32) (v_newLast : Int32) (v_newP : Int32) (v_newQ : Int32) (v_wanted : Int32) (v_many : Int32) (v_pNow : Int32) (v_qNow : Int32) (v_seedNow : Int64) (v_keptFrame : Int32) (v_keptKind : Int32) (v_keptWorlds : Int32) (v_keptSeen : Int32) (v_h : Int64) (v_page : (Nat → Int32)) (x1 : Int32) (q : Int32 × Int32 × (Nat → Int32)) (hf : f_X9_letter v_pageLength v_page x1 = some q) : Met l yX9_letter (.code yX9_letter cX9_letter 2 (some .int) :: k_all) { frames := 1, cells := 0, slots := 0, locals := 22 } (k_P D cB cI cJ cZ tL tK [.ref h_this, .int x1] [(h_this, o_X9 v_kind v_worlds h_arrows h_marks v_frames v_signs h_signAt h_behind v_formulas v_failsTold v_tellsTold v_seen h_seenWhat h_seenCan v_pageLength h_page v_stage v_newKind v_newWorlds v_newFrom v_newLast v_newP v_newQ h_newArrows v_wanted v_many h_to v_pNow v_qNow h_holds h_apart v_seedNow v_keptFrame v_keptKind v_keptWorlds v_keptSeen h_keptArrows h_keptMarks h_keptWhat h_keptCan v_h), (h_page, o_I cB 66 v_page)] sz) (k_I D q.1 [(h_this, o_X9 v_kind v_worlds h_arrows h_marks v_frames v_signs h_signAt h_behind v_formulas v_failsTold v_tellsTold v_seen h_seenWhat h_seenCan v_pageLength h_page v_stage v_newKind v_newWorlds v_newFrom v_newLast v_newP v_newQ h_newArrows v_wanted v_many h_to v_pNow v_qNow h_holds h_apart v_seedNow v_keptFrame v_keptKind v_keptWorlds v_keptSeen h_keptArrows h_keptMarks h_keptWhat h_keptCan v_h), (h_page, o_I cB 66 v_page)] [(h_this, o_X9 v_kind v_worlds h_arrows h_marks v_frames v_signs h_signAt h_behind v_formulas v_failsTold v_tellsTold v_seen h_seenWhat h_seenCan q.2.1 h_page v_stage v_newKind v_newWorlds v_newFrom v_newLast v_newP v_newQ h_newArrows v_wanted v_many h_to v_pNow v_qNow h_holds h_apart v_seedNow v_keptFrame v_keptKind v_keptWorlds v_keptSeen h_keptArrows h_keptMarks h_keptWhat h_keptCan v_h), (h_page, o_I cB 66 q.2.2)] sz) 0 0 (va_A [(h_this, o_X9 v_kind v_worlds h_arrows h_marks v_frames v_signs h_signAt h_behind v_formulas v_failsTold v_tellsTold v_seen h_seenWhat h_seenCan v_pageLength h_page v_stage v_newKind v_newWorlds v_newFrom v_newLast v_newP v_newQ h_newArrows v_wanted v_many h_to v_pNow v_qNow h_holds h_apart v_seedNow v_keptFrame v_keptKind v_keptWorlds v_keptSeen h_keptArrows h_keptMarks h_keptWhat h_keptCan v_h), (h_page, o_I cB 66 v_page)] sz) := by
  unfold f_X9_letter at hf
  refine k_met RX9 rfl (by decide +kernel) (Nat.le_of_ble_eq_true rfl) ?_
  intro p e s m below meth c A ls hx hb hr hml hown hts hlocks hin hsz hAe hA hK hN hZ hD hS hP hl
  have hl : lv_has ls 2 [(0, .ref h_this), (1, .int x1)] := hl
  refine lv_iload_n hx hb dX9_letter_0 rfl (lv_at hl 1 rfl) ?_
  refine lv_bipush (v := 32) hx hb dX9_letter_1 (by decide) ?_
  refine lv_bipush (v := 126) hx hb dX9_letter_3 (by decide) ?_
  refine k_calli (wN := [(h_this, o_X9 v_kind v_worlds h_arrows h_marks v_frames v_signs h_signAt h_behind v_formulas v_failsTold v_tellsTold v_seen h_seenWhat h_seenCan v_pageLength h_page v_stage v_newKind v_newWorlds v_newFrom v_newLast v_newP v_newQ h_newArrows v_wanted v_many h_to v_pNow v_qNow h_holds h_apart v_seedNow v_keptFrame v_keptKind v_keptWorlds v_keptSeen h_keptArrows h_keptMarks h_keptWhat h_keptCan v_h), (h_page, o_I cB 66 v_page)]) [] [0, 1] [0, 1] hP hD hS hA (va_runS (As := [.int x1, .int 32, .int 126]) (rest := []) ⟨hx, hb, hml, hown, hts⟩ (k_X9_within l D cB cI cJ cZ tL tK _ x1 32 126 (f_X9_within x1 32 126) rfl) (va_cwS 3 hts (k_gS m_120 m_118 m_119 m_5) rfl rfl rfl (by decide +kernel) ⟨Nat.le_of_ble_eq_true rfl, Nat.le_of_ble_eq_true rfl⟩) (k_preS [] hK hN hZ hP hD hS hA rfl rfl) rfl rfl hl.1 rfl (lv_room (Nat.le_of_ble_eq_true rfl)) dX9_letter_5 ⟨Nat.le_refl _, Nat.le_refl _⟩) rfl rfl rfl rfl rfl (fun H locs hP hD hS => ?_)
  refine lv_if_ne (tgt := 14) hx hb dX9_letter_8 (by decide) (fun c8 => ?_) (fun c8 => ?_)
  · replace hf := k_ifF c8 hf
    refine lv_aload_n hx hb dX9_letter_14 rfl (lv_at hl 0 rfl) ?_
    refine va_get (D := D) (ci := 8) (v := .int v_pageLength) (C := RX9) (T := TX9) (N := 41) hx hb hts inlX9 hown hK hP 0 rfl rfl 14 (by decide) (hts _ m_117) (fun _ h9 => h9) rfl dX9_letter_15 ?_
    refine lv_bipush (v := 66) hx hb dX9_letter_18 (by decide) ?_
    refine lv_icmp_ne (tgt := 26) hx hb dX9_letter_20 (by decide) (fun c20 => ?_) (fun c20 => ?_)
    · replace hf := k_ifF c20 hf
      refine lv_aload_n hx hb dX9_letter_26 rfl (lv_at hl 0 rfl) ?_
      refine va_get (D := D) (ci := 8) (v := .ref h_page) (C := RX9) (T := TX9) (N := 41) hx hb hts inlX9 hown hK hP 0 rfl rfl 15 (by decide) (hts _ m_89) (fun _ h9 => h9) rfl dX9_letter_27 ?_
      refine lv_aload_n hx hb dX9_letter_30 rfl (lv_at hl 0 rfl) ?_
      refine va_get (D := D) (ci := 8) (v := .int v_pageLength) (C := RX9) (T := TX9) (N := 41) hx hb hts inlX9 hown hK hP 0 rfl rfl 14 (by decide) (hts _ m_117) (fun _ h9 => h9) rfl dX9_letter_31 ?_
      refine lv_iload_n hx hb dX9_letter_34 rfl (lv_at hl 1 rfl) ?_
      refine lv_i2b hx hb dX9_letter_35 rfl ?_
      obtain ⟨hi36, hf⟩ := k_chk_some hf
      refine va_bast (D := D) hx hb hK hP hD hS 1 0 rfl rfl hi36 dX9_letter_36 (fun H locs hP hD hS => ?_)
      have hP : va_P D vwCl [(h_this, o_X9 v_kind v_worlds h_arrows h_marks v_frames v_signs h_signAt h_behind v_formulas v_failsTold v_tellsTold v_seen h_seenWhat h_seenCan v_pageLength h_page v_stage v_newKind v_newWorlds v_newFrom v_newLast v_newP v_newQ h_newArrows v_wanted v_many h_to v_pNow v_qNow h_holds h_apart v_seedNow v_keptFrame v_keptKind v_keptWorlds v_keptSeen h_keptArrows h_keptMarks h_keptWhat h_keptCan v_h), (h_page, o_I cB 66 (upd v_page (Int32.toNatClampNeg v_pageLength) (vp_nar .byte (Int8.toInt32 (Int32.toInt8 x1)))))] H := hP
      have hD : va_D A [(h_this, o_X9 v_kind v_worlds h_arrows h_marks v_frames v_signs h_signAt h_behind v_formulas v_failsTold v_tellsTold v_seen h_seenWhat h_seenCan v_pageLength h_page v_stage v_newKind v_newWorlds v_newFrom v_newLast v_newP v_newQ h_newArrows v_wanted v_many h_to v_pNow v_qNow h_holds h_apart v_seedNow v_keptFrame v_keptKind v_keptWorlds v_keptSeen h_keptArrows h_keptMarks h_keptWhat h_keptCan v_h), (h_page, o_I cB 66 (upd v_page (Int32.toNatClampNeg v_pageLength) (vp_nar .byte (Int8.toInt32 (Int32.toInt8 x1)))))] := hD
      refine lv_aload_n hx hb dX9_letter_37 rfl (lv_at hl 0 rfl) ?_
      refine lv_dup hx hb dX9_letter_38 rfl ?_
      refine va_get (D := D) (ci := 8) (v := .int v_pageLength) (C := RX9) (T := TX9) (N := 41) hx hb hts inlX9 hown hK hP 0 rfl rfl 14 (by decide) (hts _ m_117) (fun _ h9 => h9) rfl dX9_letter_39 ?_
      refine lv_iconst (v := 1) hx hb dX9_letter_42 (by decide) ?_
      refine lv_iadd hx hb dX9_letter_43 ?_
      refine va_put (D := D) (ci := 8) (v := .int (v_pageLength + 1)) (ty := .int) (C := RX9) (T := TX9) (N := 41) hx hb hts inlX9 tyX9 tyX9_ok nmX9 hown hK hP hD hS 0 rfl rfl 14 (by decide) (hts _ m_117) (fun _ h9 => h9) rfl (by decide +kernel) rfl rfl (Nat.le_of_ble_eq_true rfl) dX9_letter_44 (fun H locs hP hD hS => ?_)
      have hP : va_P D vwCl [(h_this, o_X9 v_kind v_worlds h_arrows h_marks v_frames v_signs h_signAt h_behind v_formulas v_failsTold v_tellsTold v_seen h_seenWhat h_seenCan (v_pageLength + 1) h_page v_stage v_newKind v_newWorlds v_newFrom v_newLast v_newP v_newQ h_newArrows v_wanted v_many h_to v_pNow v_qNow h_holds h_apart v_seedNow v_keptFrame v_keptKind v_keptWorlds v_keptSeen h_keptArrows h_keptMarks h_keptWhat h_keptCan v_h), (h_page, o_I cB 66 (upd v_page (Int32.toNatClampNeg v_pageLength) (vp_nar .byte (Int8.toInt32 (Int32.toInt8 x1)))))] H := hP
      have hD : va_D A [(h_this, o_X9 v_kind v_worlds h_arrows h_marks v_frames v_signs h_signAt h_behind v_formulas v_failsTold v_tellsTold v_seen h_seenWhat h_seenCan (v_pageLength + 1) h_page v_stage v_newKind v_newWorlds v_newFrom v_newLast v_newP v_newQ h_newArrows v_wanted v_many h_to v_pNow v_qNow h_holds h_apart v_seedNow v_keptFrame v_keptKind v_keptWorlds v_keptSeen h_keptArrows h_keptMarks h_keptWhat h_keptCan v_h), (h_page, o_I cB 66 (upd v_page (Int32.toNatClampNeg v_pageLength) (vp_nar .byte (Int8.toInt32 (Int32.toInt8 x1)))))] := hD
      refine lv_aload_n hx hb dX9_letter_47 rfl (lv_at hl 0 rfl) ?_
      refine va_get (D := D) (ci := 8) (v := .int (v_pageLength + 1)) (C := RX9) (T := TX9) (N := 41) hx hb hts inlX9 hown hK hP 0 rfl rfl 14 (by decide) (hts _ m_117) (fun _ h9 => h9) rfl dX9_letter_48 ?_
      cases hf
      exact k_iret hx hb hr hlocks hAe hS hP hD dX9_letter_51
    · replace hf := k_ifT c20 hf
      refine lv_bipush (v := (-104)) hx hb dX9_letter_23 (by decide) ?_
      cases hf
      exact k_iret hx hb hr hlocks hAe hS hP hD dX9_letter_25
  · replace hf := k_ifT c8 hf
    refine lv_bipush (v := (-102)) hx hb dX9_letter_11 (by decide) ?_
    cases hf
    exact k_iret hx hb hr hlocks hAe hS hP hD dX9_letter_13
set_option maxHeartbeats 4000000 in
set_option maxRecDepth 100000 in
theorem k_X9_blank (l : Launch) (D : va_G) (cB cI cJ cZ : ClassId) (tL tK : Nat) (h_this h_arrows h_marks h_signAt h_behind h_seenWhat h_seenCan h_page h_newArrows h_to h_holds h_apart h_keptArrows h_keptMarks h_keptWhat h_keptCan : Nat) (sz : Nat) (v_kind : Int32) (v_worlds : Int32) (v_frames : Int32) (v_signs : Int32) (v_formulas : Int32) (v_failsTold : Int32) (v_tellsTold : Int32) (v_seen : Int32) (v_pageLength : Int32) (v_stage : Int32) (v_newKind : Int32) (v_newWorlds : Int32) (v_newFrom : Int32) (v_newLast : Int32) (v_newP : Int32) (v_newQ : Int32) (v_wanted : Int32) (v_many : Int32) (v_pNow : Int32) (v_qNow : Int32) (v_seedNow : Int64) (v_keptFrame : Int32) (v_keptKind : Int32) (v_keptWorlds : Int32) (v_keptSeen : Int32) (v_h : Int64)  (q : Int32 × Int32) (hf : f_X9_blank v_pageLength = q) : Met l yX9_blank (.code yX9_blank cX9_blank 2 (some .int) :: k_all) { frames := 0, cells := 0, slots := 0, locals := 0 } (k_P D cB cI cJ cZ tL tK [.ref h_this] [(h_this, o_X9 v_kind v_worlds h_arrows h_marks v_frames v_signs h_signAt h_behind v_formulas v_failsTold v_tellsTold v_seen h_seenWhat h_seenCan v_pageLength h_page v_stage v_newKind v_newWorlds v_newFrom v_newLast v_newP v_newQ h_newArrows v_wanted v_many h_to v_pNow v_qNow h_holds h_apart v_seedNow v_keptFrame v_keptKind v_keptWorlds v_keptSeen h_keptArrows h_keptMarks h_keptWhat h_keptCan v_h)] sz) (k_I D q.1 [(h_this, o_X9 v_kind v_worlds h_arrows h_marks v_frames v_signs h_signAt h_behind v_formulas v_failsTold v_tellsTold v_seen h_seenWhat h_seenCan v_pageLength h_page v_stage v_newKind v_newWorlds v_newFrom v_newLast v_newP v_newQ h_newArrows v_wanted v_many h_to v_pNow v_qNow h_holds h_apart v_seedNow v_keptFrame v_keptKind v_keptWorlds v_keptSeen h_keptArrows h_keptMarks h_keptWhat h_keptCan v_h)] [(h_this, o_X9 v_kind v_worlds h_arrows h_marks v_frames v_signs h_signAt h_behind v_formulas v_failsTold v_tellsTold v_seen h_seenWhat h_seenCan q.2 h_page v_stage v_newKind v_newWorlds v_newFrom v_newLast v_newP v_newQ h_newArrows v_wanted v_many h_to v_pNow v_qNow h_holds h_apart v_seedNow v_keptFrame v_keptKind v_keptWorlds v_keptSeen h_keptArrows h_keptMarks h_keptWhat h_keptCan v_h)] sz) 0 0 (va_A [(h_this, o_X9 v_kind v_worlds h_arrows h_marks v_frames v_signs h_signAt h_behind v_formulas v_failsTold v_tellsTold v_seen h_seenWhat h_seenCan v_pageLength h_page v_stage v_newKind v_newWorlds v_newFrom v_newLast v_newP v_newQ h_newArrows v_wanted v_many h_to v_pNow v_qNow h_holds h_apart v_seedNow v_keptFrame v_keptKind v_keptWorlds v_keptSeen h_keptArrows h_keptMarks h_keptWhat h_keptCan v_h)] sz) := by
  unfold f_X9_blank at hf
  refine k_met RX9 rfl (by decide +kernel) (Nat.le_of_ble_eq_true rfl) ?_
  intro p e s m below meth c A ls hx hb hr hml hown hts hlocks hin hsz hAe hA hK hN hZ hD hS hP hl
  have hl : lv_has ls 2 [(0, .ref h_this)] := hl
  refine lv_aload_n hx hb dX9_blank_0 rfl (lv_at hl 0 rfl) ?_
  refine va_get (D := D) (ci := 8) (v := .int v_pageLength) (C := RX9) (T := TX9) (N := 41) hx hb hts inlX9 hown hK hP 0 rfl rfl 14 (by decide) (hts _ m_117) (fun _ h9 => h9) rfl dX9_blank_1 ?_
  refine lv_istore_n (lv' := [(1, .int v_pageLength), (0, .ref h_this)]) hx hb dX9_blank_4 rfl hl (by decide) rfl (fun ls hl => ?_)
  refine lv_aload_n hx hb dX9_blank_5 rfl (lv_at hl 1 rfl) ?_
  refine lv_iconst (v := 0) hx hb dX9_blank_6 (by decide) ?_
  refine va_put (D := D) (ci := 8) (v := .int 0) (ty := .int) (C := RX9) (T := TX9) (N := 41) hx hb hts inlX9 tyX9 tyX9_ok nmX9 hown hK hP hD hS 0 rfl rfl 14 (by decide) (hts _ m_117) (fun _ h9 => h9) rfl (by decide +kernel) rfl rfl (Nat.le_of_ble_eq_true rfl) dX9_blank_7 (fun H locs hP hD hS => ?_)
  have hP : va_P D vwCl [(h_this, o_X9 v_kind v_worlds h_arrows h_marks v_frames v_signs h_signAt h_behind v_formulas v_failsTold v_tellsTold v_seen h_seenWhat h_seenCan 0 h_page v_stage v_newKind v_newWorlds v_newFrom v_newLast v_newP v_newQ h_newArrows v_wanted v_many h_to v_pNow v_qNow h_holds h_apart v_seedNow v_keptFrame v_keptKind v_keptWorlds v_keptSeen h_keptArrows h_keptMarks h_keptWhat h_keptCan v_h)] H := hP
  have hD : va_D A [(h_this, o_X9 v_kind v_worlds h_arrows h_marks v_frames v_signs h_signAt h_behind v_formulas v_failsTold v_tellsTold v_seen h_seenWhat h_seenCan 0 h_page v_stage v_newKind v_newWorlds v_newFrom v_newLast v_newP v_newQ h_newArrows v_wanted v_many h_to v_pNow v_qNow h_holds h_apart v_seedNow v_keptFrame v_keptKind v_keptWorlds v_keptSeen h_keptArrows h_keptMarks h_keptWhat h_keptCan v_h)] := hD
  refine lv_iload_n hx hb dX9_blank_10 rfl (lv_at hl 0 rfl) ?_
  subst hf
  exact k_iret hx hb hr hlocks hAe hS hP hD dX9_blank_11
set_option maxHeartbeats 4000000 in
set_option maxRecDepth 100000 in
theorem k_X9_takesMark (l : Launch) (D : va_G) (cB cI cJ cZ : ClassId) (tL tK : Nat) (h_this h_arrows h_marks h_signAt h_behind h_seenWhat h_seenCan h_page h_newArrows h_to h_holds h_apart h_keptArrows h_keptMarks h_keptWhat h_keptCan : Nat) (sz : Nat) (v_kind : Int32) (v_worlds : Int32) (v_frames : Int32) (v_signs : Int32) (v_formulas : Int32) (v_failsTold : Int32) (v_tellsTold : Int32) (v_seen : Int32) (v_pageLength : Int32) (v_stage : Int32) (v_newKind : Int32) (v_newWorlds : Int32) (v_newFrom : Int32) (v_newLast : Int32) (v_newP : Int32) (v_newQ : Int32) (v_wanted : Int32) (v_many : Int32) (v_pNow : Int32) (v_qNow : Int32) (v_seedNow : Int64) (v_keptFrame : Int32) (v_keptKind : Int32) (v_keptWorlds : Int32) (v_keptSeen : Int32) (v_h : Int64) (x1 : Int32) (x2 : Int32) (x3 : Int32) (q : Int32 × Int32 × Int32 × Int32 × Int32) (hf : f_X9_takesMark v_stage v_newLast v_newP v_newQ x1 x2 x3 = some q) : Met l yX9_takesMark (.code yX9_takesMark cX9_takesMark 4 (some .boolean) :: k_all) { frames := 0, cells := 0, slots := 0, locals := 0 } (k_P D cB cI cJ cZ tL tK [.ref h_this, .int x1, .int x2, .int x3] [(h_this, o_X9 v_kind v_worlds h_arrows h_marks v_frames v_signs h_signAt h_behind v_formulas v_failsTold v_tellsTold v_seen h_seenWhat h_seenCan v_pageLength h_page v_stage v_newKind v_newWorlds v_newFrom v_newLast v_newP v_newQ h_newArrows v_wanted v_many h_to v_pNow v_qNow h_holds h_apart v_seedNow v_keptFrame v_keptKind v_keptWorlds v_keptSeen h_keptArrows h_keptMarks h_keptWhat h_keptCan v_h)] sz) (k_I D q.1 [(h_this, o_X9 v_kind v_worlds h_arrows h_marks v_frames v_signs h_signAt h_behind v_formulas v_failsTold v_tellsTold v_seen h_seenWhat h_seenCan v_pageLength h_page v_stage v_newKind v_newWorlds v_newFrom v_newLast v_newP v_newQ h_newArrows v_wanted v_many h_to v_pNow v_qNow h_holds h_apart v_seedNow v_keptFrame v_keptKind v_keptWorlds v_keptSeen h_keptArrows h_keptMarks h_keptWhat h_keptCan v_h)] [(h_this, o_X9 v_kind v_worlds h_arrows h_marks v_frames v_signs h_signAt h_behind v_formulas v_failsTold v_tellsTold v_seen h_seenWhat h_seenCan v_pageLength h_page q.2.1 v_newKind v_newWorlds v_newFrom q.2.2.1 q.2.2.2.1 q.2.2.2.2 h_newArrows v_wanted v_many h_to v_pNow v_qNow h_holds h_apart v_seedNow v_keptFrame v_keptKind v_keptWorlds v_keptSeen h_keptArrows h_keptMarks h_keptWhat h_keptCan v_h)] sz) 0 0 (va_A [(h_this, o_X9 v_kind v_worlds h_arrows h_marks v_frames v_signs h_signAt h_behind v_formulas v_failsTold v_tellsTold v_seen h_seenWhat h_seenCan v_pageLength h_page v_stage v_newKind v_newWorlds v_newFrom v_newLast v_newP v_newQ h_newArrows v_wanted v_many h_to v_pNow v_qNow h_holds h_apart v_seedNow v_keptFrame v_keptKind v_keptWorlds v_keptSeen h_keptArrows h_keptMarks h_keptWhat h_keptCan v_h)] sz) := by
  unfold f_X9_takesMark at hf
  refine k_met RX9 rfl (by decide +kernel) (Nat.le_of_ble_eq_true rfl) ?_
  intro p e s m below meth c A ls hx hb hr hml hown hts hlocks hin hsz hAe hA hK hN hZ hD hS hP hl
  have hl : lv_has ls 4 [(0, .ref h_this), (1, .int x1), (2, .int x2), (3, .int x3)] := hl
  refine lv_aload_n hx hb dX9_takesMark_0 rfl (lv_at hl 0 rfl) ?_
  refine va_get (D := D) (ci := 8) (v := .int v_stage) (C := RX9) (T := TX9) (N := 41) hx hb hts inlX9 hown hK hP 0 rfl rfl 16 (by decide) (hts _ m_246) (fun _ h9 => h9) rfl dX9_takesMark_1 ?_
  refine lv_bipush (v := 8) hx hb dX9_takesMark_4 (by decide) ?_
  refine lv_icmp_ne (tgt := 28) hx hb dX9_takesMark_6 (by decide) (fun c6 => ?_) (fun c6 => ?_)
  · replace hf := k_ifF c6 hf
    refine lv_iload_n hx hb dX9_takesMark_28 rfl (lv_at hl 2 rfl) ?_
    refine lv_if_eq (tgt := 87) hx hb dX9_takesMark_29 (by decide) (fun c29 => ?_) (fun c29 => ?_)
    · replace hf := k_ifT c29 hf
      refine lv_iload_n hx hb dX9_takesMark_87 rfl (lv_at hl 2 rfl) ?_
      obtain ⟨hbl, hf⟩ := k_bl_some hf
      cases hf
      exact k_zret hx hb hr (k_bn hbl) hlocks hAe hS hP hD dX9_takesMark_88
    · replace hf := k_ifF c29 hf
      refine lv_aload_n hx hb dX9_takesMark_32 rfl (lv_at hl 0 rfl) ?_
      refine lv_iload_n hx hb dX9_takesMark_33 rfl (lv_at hl 3 rfl) ?_
      refine va_put (D := D) (ci := 8) (v := .int x3) (ty := .int) (C := RX9) (T := TX9) (N := 41) hx hb hts inlX9 tyX9 tyX9_ok nmX9 hown hK hP hD hS 0 rfl rfl 20 (by decide) (hts _ m_248) (fun _ h9 => h9) rfl (by decide +kernel) rfl rfl (Nat.le_of_ble_eq_true rfl) dX9_takesMark_34 (fun H locs hP hD hS => ?_)
      have hP : va_P D vwCl [(h_this, o_X9 v_kind v_worlds h_arrows h_marks v_frames v_signs h_signAt h_behind v_formulas v_failsTold v_tellsTold v_seen h_seenWhat h_seenCan v_pageLength h_page v_stage v_newKind v_newWorlds v_newFrom x3 v_newP v_newQ h_newArrows v_wanted v_many h_to v_pNow v_qNow h_holds h_apart v_seedNow v_keptFrame v_keptKind v_keptWorlds v_keptSeen h_keptArrows h_keptMarks h_keptWhat h_keptCan v_h)] H := hP
      have hD : va_D A [(h_this, o_X9 v_kind v_worlds h_arrows h_marks v_frames v_signs h_signAt h_behind v_formulas v_failsTold v_tellsTold v_seen h_seenWhat h_seenCan v_pageLength h_page v_stage v_newKind v_newWorlds v_newFrom x3 v_newP v_newQ h_newArrows v_wanted v_many h_to v_pNow v_qNow h_holds h_apart v_seedNow v_keptFrame v_keptKind v_keptWorlds v_keptSeen h_keptArrows h_keptMarks h_keptWhat h_keptCan v_h)] := hD
      refine lv_aload_n hx hb dX9_takesMark_37 rfl (lv_at hl 0 rfl) ?_
      refine lv_dup hx hb dX9_takesMark_38 rfl ?_
      refine va_get (D := D) (ci := 8) (v := .int v_newP) (C := RX9) (T := TX9) (N := 41) hx hb hts inlX9 hown hK hP 0 rfl rfl 21 (by decide) (hts _ m_249) (fun _ h9 => h9) rfl dX9_takesMark_39 ?_
      refine lv_aload_n hx hb dX9_takesMark_42 rfl (lv_at hl 0 rfl) ?_
      refine va_get (D := D) (ci := 8) (v := .int v_stage) (C := RX9) (T := TX9) (N := 41) hx hb hts inlX9 hown hK hP 0 rfl rfl 16 (by decide) (hts _ m_246) (fun _ h9 => h9) rfl dX9_takesMark_43 ?_
      refine lv_bipush (v := 8) hx hb dX9_takesMark_46 (by decide) ?_
      refine k_jn (D := D) (A := A) (nL := 4) hf (fun (j48 : Int32) => [(h_this, o_X9 v_kind v_worlds h_arrows h_marks v_frames v_signs h_signAt h_behind v_formulas v_failsTold v_tellsTold v_seen h_seenWhat h_seenCan v_pageLength h_page v_stage v_newKind v_newWorlds v_newFrom x3 v_newP v_newQ h_newArrows v_wanted v_many h_to v_pNow v_qNow h_holds h_apart v_seedNow v_keptFrame v_keptKind v_keptWorlds v_keptSeen h_keptArrows h_keptMarks h_keptWhat h_keptCan v_h)]) (fun (j48 : Int32) => [(0, .ref h_this), (2, .int x2), (3, .int x3)]) (fun (j48 : Int32) => [.int j48, .int v_newP, .ref h_this]) 58 ?_ ?_
      · intro j48 H locs ls hf hP hD hS hl
        have hP : va_P D vwCl [(h_this, o_X9 v_kind v_worlds h_arrows h_marks v_frames v_signs h_signAt h_behind v_formulas v_failsTold v_tellsTold v_seen h_seenWhat h_seenCan v_pageLength h_page v_stage v_newKind v_newWorlds v_newFrom x3 v_newP v_newQ h_newArrows v_wanted v_many h_to v_pNow v_qNow h_holds h_apart v_seedNow v_keptFrame v_keptKind v_keptWorlds v_keptSeen h_keptArrows h_keptMarks h_keptWhat h_keptCan v_h)] H := hP
        have hD : va_D A [(h_this, o_X9 v_kind v_worlds h_arrows h_marks v_frames v_signs h_signAt h_behind v_formulas v_failsTold v_tellsTold v_seen h_seenWhat h_seenCan v_pageLength h_page v_stage v_newKind v_newWorlds v_newFrom x3 v_newP v_newQ h_newArrows v_wanted v_many h_to v_pNow v_qNow h_holds h_apart v_seedNow v_keptFrame v_keptKind v_keptWorlds v_keptSeen h_keptArrows h_keptMarks h_keptWhat h_keptCan v_h)] := hD
        have hl : lv_has ls 4 [(0, .ref h_this), (2, .int x2), (3, .int x3)] := hl
        show W p l e _ s m _ below meth c H locs _ _ _ (F0 m 58 ls [.int j48, .int v_newP, .ref h_this])
        refine lv_ior hx hb dX9_takesMark_58 ?_
        refine va_put (D := D) (ci := 8) (v := .int (v_newP ||| j48)) (ty := .int) (C := RX9) (T := TX9) (N := 41) hx hb hts inlX9 tyX9 tyX9_ok nmX9 hown hK hP hD hS 0 rfl rfl 21 (by decide) (hts _ m_249) (fun _ h9 => h9) rfl (by decide +kernel) rfl rfl (Nat.le_of_ble_eq_true rfl) dX9_takesMark_59 (fun H locs hP hD hS => ?_)
        have hP : va_P D vwCl [(h_this, o_X9 v_kind v_worlds h_arrows h_marks v_frames v_signs h_signAt h_behind v_formulas v_failsTold v_tellsTold v_seen h_seenWhat h_seenCan v_pageLength h_page v_stage v_newKind v_newWorlds v_newFrom x3 (v_newP ||| j48) v_newQ h_newArrows v_wanted v_many h_to v_pNow v_qNow h_holds h_apart v_seedNow v_keptFrame v_keptKind v_keptWorlds v_keptSeen h_keptArrows h_keptMarks h_keptWhat h_keptCan v_h)] H := hP
        have hD : va_D A [(h_this, o_X9 v_kind v_worlds h_arrows h_marks v_frames v_signs h_signAt h_behind v_formulas v_failsTold v_tellsTold v_seen h_seenWhat h_seenCan v_pageLength h_page v_stage v_newKind v_newWorlds v_newFrom x3 (v_newP ||| j48) v_newQ h_newArrows v_wanted v_many h_to v_pNow v_qNow h_holds h_apart v_seedNow v_keptFrame v_keptKind v_keptWorlds v_keptSeen h_keptArrows h_keptMarks h_keptWhat h_keptCan v_h)] := hD
        refine lv_aload_n hx hb dX9_takesMark_62 rfl (lv_at hl 0 rfl) ?_
        refine lv_dup hx hb dX9_takesMark_63 rfl ?_
        refine va_get (D := D) (ci := 8) (v := .int v_newQ) (C := RX9) (T := TX9) (N := 41) hx hb hts inlX9 hown hK hP 0 rfl rfl 22 (by decide) (hts _ m_250) (fun _ h9 => h9) rfl dX9_takesMark_64 ?_
        refine lv_aload_n hx hb dX9_takesMark_67 rfl (lv_at hl 0 rfl) ?_
        refine va_get (D := D) (ci := 8) (v := .int v_stage) (C := RX9) (T := TX9) (N := 41) hx hb hts inlX9 hown hK hP 0 rfl rfl 16 (by decide) (hts _ m_246) (fun _ h9 => h9) rfl dX9_takesMark_68 ?_
        refine lv_bipush (v := 9) hx hb dX9_takesMark_71 (by decide) ?_
        refine lv_icmp_ne (tgt := 82) hx hb dX9_takesMark_73 (by decide) (fun c73 => ?_) (fun c73 => ?_)
        · replace hf := k_ifF c73 hf
          refine lv_iconst (v := 0) hx hb dX9_takesMark_82 (by decide) ?_
          refine lv_ior hx hb dX9_takesMark_83 ?_
          refine va_put (D := D) (ci := 8) (v := .int (v_newQ ||| 0)) (ty := .int) (C := RX9) (T := TX9) (N := 41) hx hb hts inlX9 tyX9 tyX9_ok nmX9 hown hK hP hD hS 0 rfl rfl 22 (by decide) (hts _ m_250) (fun _ h9 => h9) rfl (by decide +kernel) rfl rfl (Nat.le_of_ble_eq_true rfl) dX9_takesMark_84 (fun H locs hP hD hS => ?_)
          have hP : va_P D vwCl [(h_this, o_X9 v_kind v_worlds h_arrows h_marks v_frames v_signs h_signAt h_behind v_formulas v_failsTold v_tellsTold v_seen h_seenWhat h_seenCan v_pageLength h_page v_stage v_newKind v_newWorlds v_newFrom x3 (v_newP ||| j48) (v_newQ ||| 0) h_newArrows v_wanted v_many h_to v_pNow v_qNow h_holds h_apart v_seedNow v_keptFrame v_keptKind v_keptWorlds v_keptSeen h_keptArrows h_keptMarks h_keptWhat h_keptCan v_h)] H := hP
          have hD : va_D A [(h_this, o_X9 v_kind v_worlds h_arrows h_marks v_frames v_signs h_signAt h_behind v_formulas v_failsTold v_tellsTold v_seen h_seenWhat h_seenCan v_pageLength h_page v_stage v_newKind v_newWorlds v_newFrom x3 (v_newP ||| j48) (v_newQ ||| 0) h_newArrows v_wanted v_many h_to v_pNow v_qNow h_holds h_apart v_seedNow v_keptFrame v_keptKind v_keptWorlds v_keptSeen h_keptArrows h_keptMarks h_keptWhat h_keptCan v_h)] := hD
          refine lv_iload_n hx hb dX9_takesMark_87 rfl (lv_at hl 1 rfl) ?_
          obtain ⟨hbl, hf⟩ := k_bl_some hf
          cases hf
          exact k_zret hx hb hr (k_bn hbl) hlocks hAe hS hP hD dX9_takesMark_88
        · replace hf := k_ifT c73 hf
          refine lv_iconst (v := 1) hx hb dX9_takesMark_76 (by decide) ?_
          refine lv_iload_n hx hb dX9_takesMark_77 rfl (lv_at hl 2 rfl) ?_
          refine lv_ishl hx hb dX9_takesMark_78 ?_
          refine lv_goto (tgt := 83) hx hb dX9_takesMark_79 (by decide) ?_
          refine lv_ior hx hb dX9_takesMark_83 ?_
          refine va_put (D := D) (ci := 8) (v := .int (v_newQ ||| ((1 : Int32) <<< (x3 &&& 31)))) (ty := .int) (C := RX9) (T := TX9) (N := 41) hx hb hts inlX9 tyX9 tyX9_ok nmX9 hown hK hP hD hS 0 rfl rfl 22 (by decide) (hts _ m_250) (fun _ h9 => h9) rfl (by decide +kernel) rfl rfl (Nat.le_of_ble_eq_true rfl) dX9_takesMark_84 (fun H locs hP hD hS => ?_)
          have hP : va_P D vwCl [(h_this, o_X9 v_kind v_worlds h_arrows h_marks v_frames v_signs h_signAt h_behind v_formulas v_failsTold v_tellsTold v_seen h_seenWhat h_seenCan v_pageLength h_page v_stage v_newKind v_newWorlds v_newFrom x3 (v_newP ||| j48) (v_newQ ||| ((1 : Int32) <<< (x3 &&& 31))) h_newArrows v_wanted v_many h_to v_pNow v_qNow h_holds h_apart v_seedNow v_keptFrame v_keptKind v_keptWorlds v_keptSeen h_keptArrows h_keptMarks h_keptWhat h_keptCan v_h)] H := hP
          have hD : va_D A [(h_this, o_X9 v_kind v_worlds h_arrows h_marks v_frames v_signs h_signAt h_behind v_formulas v_failsTold v_tellsTold v_seen h_seenWhat h_seenCan v_pageLength h_page v_stage v_newKind v_newWorlds v_newFrom x3 (v_newP ||| j48) (v_newQ ||| ((1 : Int32) <<< (x3 &&& 31))) h_newArrows v_wanted v_many h_to v_pNow v_qNow h_holds h_apart v_seedNow v_keptFrame v_keptKind v_keptWorlds v_keptSeen h_keptArrows h_keptMarks h_keptWhat h_keptCan v_h)] := hD
          refine lv_iload_n hx hb dX9_takesMark_87 rfl (lv_at hl 1 rfl) ?_
          obtain ⟨hbl, hf⟩ := k_bl_some hf
          cases hf
          exact k_zret hx hb hr (k_bn hbl) hlocks hAe hS hP hD dX9_takesMark_88
      · intro j48 hf hj48
        refine lv_icmp_ne (tgt := 57) hx hb dX9_takesMark_48 (by decide) (fun c48 => ?_) (fun c48 => ?_)
        · replace hf := k_ifF c48 hf
          refine lv_iconst (v := 0) hx hb dX9_takesMark_57 (by decide) ?_
          cases hf
          exact hj48 _ _ _ hP hD hS (lv_sub hl [0, 2, 3] rfl)
        · replace hf := k_ifT c48 hf
          refine lv_iconst (v := 1) hx hb dX9_takesMark_51 (by decide) ?_
          refine lv_iload_n hx hb dX9_takesMark_52 rfl (lv_at hl 3 rfl) ?_
          refine lv_ishl hx hb dX9_takesMark_53 ?_
          refine lv_goto (tgt := 58) hx hb dX9_takesMark_54 (by decide) ?_
          cases hf
          exact hj48 _ _ _ hP hD hS (lv_sub hl [0, 2, 3] rfl)
  · replace hf := k_ifT c6 hf
    refine lv_iload_n hx hb dX9_takesMark_9 rfl (lv_at hl 1 rfl) ?_
    refine lv_bipush (v := 113) hx hb dX9_takesMark_10 (by decide) ?_
    refine lv_icmp_ne (tgt := 28) hx hb dX9_takesMark_12 (by decide) (fun c12 => ?_) (fun c12 => ?_)
    · replace hf := k_ifF c12 hf
      refine lv_iload_n hx hb dX9_takesMark_28 rfl (lv_at hl 2 rfl) ?_
      refine lv_if_eq (tgt := 87) hx hb dX9_takesMark_29 (by decide) (fun c29 => ?_) (fun c29 => ?_)
      · replace hf := k_ifT c29 hf
        refine lv_iload_n hx hb dX9_takesMark_87 rfl (lv_at hl 2 rfl) ?_
        obtain ⟨hbl, hf⟩ := k_bl_some hf
        cases hf
        exact k_zret hx hb hr (k_bn hbl) hlocks hAe hS hP hD dX9_takesMark_88
      · replace hf := k_ifF c29 hf
        refine lv_aload_n hx hb dX9_takesMark_32 rfl (lv_at hl 0 rfl) ?_
        refine lv_iload_n hx hb dX9_takesMark_33 rfl (lv_at hl 3 rfl) ?_
        refine va_put (D := D) (ci := 8) (v := .int x3) (ty := .int) (C := RX9) (T := TX9) (N := 41) hx hb hts inlX9 tyX9 tyX9_ok nmX9 hown hK hP hD hS 0 rfl rfl 20 (by decide) (hts _ m_248) (fun _ h9 => h9) rfl (by decide +kernel) rfl rfl (Nat.le_of_ble_eq_true rfl) dX9_takesMark_34 (fun H locs hP hD hS => ?_)
        have hP : va_P D vwCl [(h_this, o_X9 v_kind v_worlds h_arrows h_marks v_frames v_signs h_signAt h_behind v_formulas v_failsTold v_tellsTold v_seen h_seenWhat h_seenCan v_pageLength h_page v_stage v_newKind v_newWorlds v_newFrom x3 v_newP v_newQ h_newArrows v_wanted v_many h_to v_pNow v_qNow h_holds h_apart v_seedNow v_keptFrame v_keptKind v_keptWorlds v_keptSeen h_keptArrows h_keptMarks h_keptWhat h_keptCan v_h)] H := hP
        have hD : va_D A [(h_this, o_X9 v_kind v_worlds h_arrows h_marks v_frames v_signs h_signAt h_behind v_formulas v_failsTold v_tellsTold v_seen h_seenWhat h_seenCan v_pageLength h_page v_stage v_newKind v_newWorlds v_newFrom x3 v_newP v_newQ h_newArrows v_wanted v_many h_to v_pNow v_qNow h_holds h_apart v_seedNow v_keptFrame v_keptKind v_keptWorlds v_keptSeen h_keptArrows h_keptMarks h_keptWhat h_keptCan v_h)] := hD
        refine lv_aload_n hx hb dX9_takesMark_37 rfl (lv_at hl 0 rfl) ?_
        refine lv_dup hx hb dX9_takesMark_38 rfl ?_
        refine va_get (D := D) (ci := 8) (v := .int v_newP) (C := RX9) (T := TX9) (N := 41) hx hb hts inlX9 hown hK hP 0 rfl rfl 21 (by decide) (hts _ m_249) (fun _ h9 => h9) rfl dX9_takesMark_39 ?_
        refine lv_aload_n hx hb dX9_takesMark_42 rfl (lv_at hl 0 rfl) ?_
        refine va_get (D := D) (ci := 8) (v := .int v_stage) (C := RX9) (T := TX9) (N := 41) hx hb hts inlX9 hown hK hP 0 rfl rfl 16 (by decide) (hts _ m_246) (fun _ h9 => h9) rfl dX9_takesMark_43 ?_
        refine lv_bipush (v := 8) hx hb dX9_takesMark_46 (by decide) ?_
        refine k_jn (D := D) (A := A) (nL := 4) hf (fun (j48 : Int32) => [(h_this, o_X9 v_kind v_worlds h_arrows h_marks v_frames v_signs h_signAt h_behind v_formulas v_failsTold v_tellsTold v_seen h_seenWhat h_seenCan v_pageLength h_page v_stage v_newKind v_newWorlds v_newFrom x3 v_newP v_newQ h_newArrows v_wanted v_many h_to v_pNow v_qNow h_holds h_apart v_seedNow v_keptFrame v_keptKind v_keptWorlds v_keptSeen h_keptArrows h_keptMarks h_keptWhat h_keptCan v_h)]) (fun (j48 : Int32) => [(0, .ref h_this), (2, .int x2), (3, .int x3)]) (fun (j48 : Int32) => [.int j48, .int v_newP, .ref h_this]) 58 ?_ ?_
        · intro j48 H locs ls hf hP hD hS hl
          have hP : va_P D vwCl [(h_this, o_X9 v_kind v_worlds h_arrows h_marks v_frames v_signs h_signAt h_behind v_formulas v_failsTold v_tellsTold v_seen h_seenWhat h_seenCan v_pageLength h_page v_stage v_newKind v_newWorlds v_newFrom x3 v_newP v_newQ h_newArrows v_wanted v_many h_to v_pNow v_qNow h_holds h_apart v_seedNow v_keptFrame v_keptKind v_keptWorlds v_keptSeen h_keptArrows h_keptMarks h_keptWhat h_keptCan v_h)] H := hP
          have hD : va_D A [(h_this, o_X9 v_kind v_worlds h_arrows h_marks v_frames v_signs h_signAt h_behind v_formulas v_failsTold v_tellsTold v_seen h_seenWhat h_seenCan v_pageLength h_page v_stage v_newKind v_newWorlds v_newFrom x3 v_newP v_newQ h_newArrows v_wanted v_many h_to v_pNow v_qNow h_holds h_apart v_seedNow v_keptFrame v_keptKind v_keptWorlds v_keptSeen h_keptArrows h_keptMarks h_keptWhat h_keptCan v_h)] := hD
          have hl : lv_has ls 4 [(0, .ref h_this), (2, .int x2), (3, .int x3)] := hl
          show W p l e _ s m _ below meth c H locs _ _ _ (F0 m 58 ls [.int j48, .int v_newP, .ref h_this])
          refine lv_ior hx hb dX9_takesMark_58 ?_
          refine va_put (D := D) (ci := 8) (v := .int (v_newP ||| j48)) (ty := .int) (C := RX9) (T := TX9) (N := 41) hx hb hts inlX9 tyX9 tyX9_ok nmX9 hown hK hP hD hS 0 rfl rfl 21 (by decide) (hts _ m_249) (fun _ h9 => h9) rfl (by decide +kernel) rfl rfl (Nat.le_of_ble_eq_true rfl) dX9_takesMark_59 (fun H locs hP hD hS => ?_)
          have hP : va_P D vwCl [(h_this, o_X9 v_kind v_worlds h_arrows h_marks v_frames v_signs h_signAt h_behind v_formulas v_failsTold v_tellsTold v_seen h_seenWhat h_seenCan v_pageLength h_page v_stage v_newKind v_newWorlds v_newFrom x3 (v_newP ||| j48) v_newQ h_newArrows v_wanted v_many h_to v_pNow v_qNow h_holds h_apart v_seedNow v_keptFrame v_keptKind v_keptWorlds v_keptSeen h_keptArrows h_keptMarks h_keptWhat h_keptCan v_h)] H := hP
          have hD : va_D A [(h_this, o_X9 v_kind v_worlds h_arrows h_marks v_frames v_signs h_signAt h_behind v_formulas v_failsTold v_tellsTold v_seen h_seenWhat h_seenCan v_pageLength h_page v_stage v_newKind v_newWorlds v_newFrom x3 (v_newP ||| j48) v_newQ h_newArrows v_wanted v_many h_to v_pNow v_qNow h_holds h_apart v_seedNow v_keptFrame v_keptKind v_keptWorlds v_keptSeen h_keptArrows h_keptMarks h_keptWhat h_keptCan v_h)] := hD
          refine lv_aload_n hx hb dX9_takesMark_62 rfl (lv_at hl 0 rfl) ?_
          refine lv_dup hx hb dX9_takesMark_63 rfl ?_
          refine va_get (D := D) (ci := 8) (v := .int v_newQ) (C := RX9) (T := TX9) (N := 41) hx hb hts inlX9 hown hK hP 0 rfl rfl 22 (by decide) (hts _ m_250) (fun _ h9 => h9) rfl dX9_takesMark_64 ?_
          refine lv_aload_n hx hb dX9_takesMark_67 rfl (lv_at hl 0 rfl) ?_
          refine va_get (D := D) (ci := 8) (v := .int v_stage) (C := RX9) (T := TX9) (N := 41) hx hb hts inlX9 hown hK hP 0 rfl rfl 16 (by decide) (hts _ m_246) (fun _ h9 => h9) rfl dX9_takesMark_68 ?_
          refine lv_bipush (v := 9) hx hb dX9_takesMark_71 (by decide) ?_
          refine lv_icmp_ne (tgt := 82) hx hb dX9_takesMark_73 (by decide) (fun c73 => ?_) (fun c73 => ?_)
          · replace hf := k_ifF c73 hf
            refine lv_iconst (v := 0) hx hb dX9_takesMark_82 (by decide) ?_
            refine lv_ior hx hb dX9_takesMark_83 ?_
            refine va_put (D := D) (ci := 8) (v := .int (v_newQ ||| 0)) (ty := .int) (C := RX9) (T := TX9) (N := 41) hx hb hts inlX9 tyX9 tyX9_ok nmX9 hown hK hP hD hS 0 rfl rfl 22 (by decide) (hts _ m_250) (fun _ h9 => h9) rfl (by decide +kernel) rfl rfl (Nat.le_of_ble_eq_true rfl) dX9_takesMark_84 (fun H locs hP hD hS => ?_)
            have hP : va_P D vwCl [(h_this, o_X9 v_kind v_worlds h_arrows h_marks v_frames v_signs h_signAt h_behind v_formulas v_failsTold v_tellsTold v_seen h_seenWhat h_seenCan v_pageLength h_page v_stage v_newKind v_newWorlds v_newFrom x3 (v_newP ||| j48) (v_newQ ||| 0) h_newArrows v_wanted v_many h_to v_pNow v_qNow h_holds h_apart v_seedNow v_keptFrame v_keptKind v_keptWorlds v_keptSeen h_keptArrows h_keptMarks h_keptWhat h_keptCan v_h)] H := hP
            have hD : va_D A [(h_this, o_X9 v_kind v_worlds h_arrows h_marks v_frames v_signs h_signAt h_behind v_formulas v_failsTold v_tellsTold v_seen h_seenWhat h_seenCan v_pageLength h_page v_stage v_newKind v_newWorlds v_newFrom x3 (v_newP ||| j48) (v_newQ ||| 0) h_newArrows v_wanted v_many h_to v_pNow v_qNow h_holds h_apart v_seedNow v_keptFrame v_keptKind v_keptWorlds v_keptSeen h_keptArrows h_keptMarks h_keptWhat h_keptCan v_h)] := hD
            refine lv_iload_n hx hb dX9_takesMark_87 rfl (lv_at hl 1 rfl) ?_
            obtain ⟨hbl, hf⟩ := k_bl_some hf
            cases hf
            exact k_zret hx hb hr (k_bn hbl) hlocks hAe hS hP hD dX9_takesMark_88
          · replace hf := k_ifT c73 hf
            refine lv_iconst (v := 1) hx hb dX9_takesMark_76 (by decide) ?_
            refine lv_iload_n hx hb dX9_takesMark_77 rfl (lv_at hl 2 rfl) ?_
            refine lv_ishl hx hb dX9_takesMark_78 ?_
            refine lv_goto (tgt := 83) hx hb dX9_takesMark_79 (by decide) ?_
            refine lv_ior hx hb dX9_takesMark_83 ?_
            refine va_put (D := D) (ci := 8) (v := .int (v_newQ ||| ((1 : Int32) <<< (x3 &&& 31)))) (ty := .int) (C := RX9) (T := TX9) (N := 41) hx hb hts inlX9 tyX9 tyX9_ok nmX9 hown hK hP hD hS 0 rfl rfl 22 (by decide) (hts _ m_250) (fun _ h9 => h9) rfl (by decide +kernel) rfl rfl (Nat.le_of_ble_eq_true rfl) dX9_takesMark_84 (fun H locs hP hD hS => ?_)
            have hP : va_P D vwCl [(h_this, o_X9 v_kind v_worlds h_arrows h_marks v_frames v_signs h_signAt h_behind v_formulas v_failsTold v_tellsTold v_seen h_seenWhat h_seenCan v_pageLength h_page v_stage v_newKind v_newWorlds v_newFrom x3 (v_newP ||| j48) (v_newQ ||| ((1 : Int32) <<< (x3 &&& 31))) h_newArrows v_wanted v_many h_to v_pNow v_qNow h_holds h_apart v_seedNow v_keptFrame v_keptKind v_keptWorlds v_keptSeen h_keptArrows h_keptMarks h_keptWhat h_keptCan v_h)] H := hP
            have hD : va_D A [(h_this, o_X9 v_kind v_worlds h_arrows h_marks v_frames v_signs h_signAt h_behind v_formulas v_failsTold v_tellsTold v_seen h_seenWhat h_seenCan v_pageLength h_page v_stage v_newKind v_newWorlds v_newFrom x3 (v_newP ||| j48) (v_newQ ||| ((1 : Int32) <<< (x3 &&& 31))) h_newArrows v_wanted v_many h_to v_pNow v_qNow h_holds h_apart v_seedNow v_keptFrame v_keptKind v_keptWorlds v_keptSeen h_keptArrows h_keptMarks h_keptWhat h_keptCan v_h)] := hD
            refine lv_iload_n hx hb dX9_takesMark_87 rfl (lv_at hl 1 rfl) ?_
            obtain ⟨hbl, hf⟩ := k_bl_some hf
            cases hf
            exact k_zret hx hb hr (k_bn hbl) hlocks hAe hS hP hD dX9_takesMark_88
        · intro j48 hf hj48
          refine lv_icmp_ne (tgt := 57) hx hb dX9_takesMark_48 (by decide) (fun c48 => ?_) (fun c48 => ?_)
          · replace hf := k_ifF c48 hf
            refine lv_iconst (v := 0) hx hb dX9_takesMark_57 (by decide) ?_
            cases hf
            exact hj48 _ _ _ hP hD hS (lv_sub hl [0, 2, 3] rfl)
          · replace hf := k_ifT c48 hf
            refine lv_iconst (v := 1) hx hb dX9_takesMark_51 (by decide) ?_
            refine lv_iload_n hx hb dX9_takesMark_52 rfl (lv_at hl 3 rfl) ?_
            refine lv_ishl hx hb dX9_takesMark_53 ?_
            refine lv_goto (tgt := 58) hx hb dX9_takesMark_54 (by decide) ?_
            cases hf
            exact hj48 _ _ _ hP hD hS (lv_sub hl [0, 2, 3] rfl)
    · replace hf := k_ifT c12 hf
      refine lv_aload_n hx hb dX9_takesMark_15 rfl (lv_at hl 0 rfl) ?_
      refine lv_iconst (v := (-1)) hx hb dX9_takesMark_16 (by decide) ?_
      refine va_put (D := D) (ci := 8) (v := .int (-1)) (ty := .int) (C := RX9) (T := TX9) (N := 41) hx hb hts inlX9 tyX9 tyX9_ok nmX9 hown hK hP hD hS 0 rfl rfl 20 (by decide) (hts _ m_248) (fun _ h9 => h9) rfl (by decide +kernel) rfl rfl (Nat.le_of_ble_eq_true rfl) dX9_takesMark_17 (fun H locs hP hD hS => ?_)
      have hP : va_P D vwCl [(h_this, o_X9 v_kind v_worlds h_arrows h_marks v_frames v_signs h_signAt h_behind v_formulas v_failsTold v_tellsTold v_seen h_seenWhat h_seenCan v_pageLength h_page v_stage v_newKind v_newWorlds v_newFrom (-1) v_newP v_newQ h_newArrows v_wanted v_many h_to v_pNow v_qNow h_holds h_apart v_seedNow v_keptFrame v_keptKind v_keptWorlds v_keptSeen h_keptArrows h_keptMarks h_keptWhat h_keptCan v_h)] H := hP
      have hD : va_D A [(h_this, o_X9 v_kind v_worlds h_arrows h_marks v_frames v_signs h_signAt h_behind v_formulas v_failsTold v_tellsTold v_seen h_seenWhat h_seenCan v_pageLength h_page v_stage v_newKind v_newWorlds v_newFrom (-1) v_newP v_newQ h_newArrows v_wanted v_many h_to v_pNow v_qNow h_holds h_apart v_seedNow v_keptFrame v_keptKind v_keptWorlds v_keptSeen h_keptArrows h_keptMarks h_keptWhat h_keptCan v_h)] := hD
      refine lv_aload_n hx hb dX9_takesMark_20 rfl (lv_at hl 0 rfl) ?_
      refine lv_bipush (v := 9) hx hb dX9_takesMark_21 (by decide) ?_
      refine va_put (D := D) (ci := 8) (v := .int 9) (ty := .int) (C := RX9) (T := TX9) (N := 41) hx hb hts inlX9 tyX9 tyX9_ok nmX9 hown hK hP hD hS 0 rfl rfl 16 (by decide) (hts _ m_246) (fun _ h9 => h9) rfl (by decide +kernel) rfl rfl (Nat.le_of_ble_eq_true rfl) dX9_takesMark_23 (fun H locs hP hD hS => ?_)
      have hP : va_P D vwCl [(h_this, o_X9 v_kind v_worlds h_arrows h_marks v_frames v_signs h_signAt h_behind v_formulas v_failsTold v_tellsTold v_seen h_seenWhat h_seenCan v_pageLength h_page 9 v_newKind v_newWorlds v_newFrom (-1) v_newP v_newQ h_newArrows v_wanted v_many h_to v_pNow v_qNow h_holds h_apart v_seedNow v_keptFrame v_keptKind v_keptWorlds v_keptSeen h_keptArrows h_keptMarks h_keptWhat h_keptCan v_h)] H := hP
      have hD : va_D A [(h_this, o_X9 v_kind v_worlds h_arrows h_marks v_frames v_signs h_signAt h_behind v_formulas v_failsTold v_tellsTold v_seen h_seenWhat h_seenCan v_pageLength h_page 9 v_newKind v_newWorlds v_newFrom (-1) v_newP v_newQ h_newArrows v_wanted v_many h_to v_pNow v_qNow h_holds h_apart v_seedNow v_keptFrame v_keptKind v_keptWorlds v_keptSeen h_keptArrows h_keptMarks h_keptWhat h_keptCan v_h)] := hD
      refine lv_iconst (v := 1) hx hb dX9_takesMark_26 (by decide) ?_
      cases hf
      exact k_zret (r := 1) hx hb hr rfl hlocks hAe hS hP hD dX9_takesMark_27
set_option maxHeartbeats 4000000 in
set_option maxRecDepth 100000 in
theorem k_X9_goes (l : Launch) (D : va_G) (cB cI cJ cZ : ClassId) (tL tK : Nat) (h_this h_arrows h_marks h_signAt h_behind h_seenWhat h_seenCan h_page h_newArrows h_to h_holds h_apart h_keptArrows h_keptMarks h_keptWhat h_keptCan : Nat) (sz : Nat) (v_kind : Int32) (v_worlds : Int32) (v_frames : Int32) (v_signs : Int32) (v_formulas : Int32) (v_failsTold : Int32) (v_tellsTold : Int32) (v_seen : Int32) (v_pageLength : Int32) (v_stage : Int32) (v_newKind : Int32) (v_newWorlds : Int32) (v_newFrom : Int32) (v_newLast : Int32) (v_newP : Int32) (v_newQ : Int32) (v_wanted : Int32) (v_many : Int32) (v_pNow : Int32) (v_qNow : Int32) (v_seedNow : Int64) (v_keptFrame : Int32) (v_keptKind : Int32) (v_keptWorlds : Int32) (v_keptSeen : Int32) (v_h : Int64) (x1 : Int32) (x2 : Int32) (q : Int32 × Int32) (hf : f_X9_goes v_stage x1 x2 = some q) : Met l yX9_goes (.code yX9_goes cX9_goes 3 (some .boolean) :: k_all) { frames := 0, cells := 0, slots := 0, locals := 0 } (k_P D cB cI cJ cZ tL tK [.ref h_this, .int x1, .int x2] [(h_this, o_X9 v_kind v_worlds h_arrows h_marks v_frames v_signs h_signAt h_behind v_formulas v_failsTold v_tellsTold v_seen h_seenWhat h_seenCan v_pageLength h_page v_stage v_newKind v_newWorlds v_newFrom v_newLast v_newP v_newQ h_newArrows v_wanted v_many h_to v_pNow v_qNow h_holds h_apart v_seedNow v_keptFrame v_keptKind v_keptWorlds v_keptSeen h_keptArrows h_keptMarks h_keptWhat h_keptCan v_h)] sz) (k_I D q.1 [(h_this, o_X9 v_kind v_worlds h_arrows h_marks v_frames v_signs h_signAt h_behind v_formulas v_failsTold v_tellsTold v_seen h_seenWhat h_seenCan v_pageLength h_page v_stage v_newKind v_newWorlds v_newFrom v_newLast v_newP v_newQ h_newArrows v_wanted v_many h_to v_pNow v_qNow h_holds h_apart v_seedNow v_keptFrame v_keptKind v_keptWorlds v_keptSeen h_keptArrows h_keptMarks h_keptWhat h_keptCan v_h)] [(h_this, o_X9 v_kind v_worlds h_arrows h_marks v_frames v_signs h_signAt h_behind v_formulas v_failsTold v_tellsTold v_seen h_seenWhat h_seenCan v_pageLength h_page q.2 v_newKind v_newWorlds v_newFrom v_newLast v_newP v_newQ h_newArrows v_wanted v_many h_to v_pNow v_qNow h_holds h_apart v_seedNow v_keptFrame v_keptKind v_keptWorlds v_keptSeen h_keptArrows h_keptMarks h_keptWhat h_keptCan v_h)] sz) 0 0 (va_A [(h_this, o_X9 v_kind v_worlds h_arrows h_marks v_frames v_signs h_signAt h_behind v_formulas v_failsTold v_tellsTold v_seen h_seenWhat h_seenCan v_pageLength h_page v_stage v_newKind v_newWorlds v_newFrom v_newLast v_newP v_newQ h_newArrows v_wanted v_many h_to v_pNow v_qNow h_holds h_apart v_seedNow v_keptFrame v_keptKind v_keptWorlds v_keptSeen h_keptArrows h_keptMarks h_keptWhat h_keptCan v_h)] sz) := by
  unfold f_X9_goes at hf
  refine k_met RX9 rfl (by decide +kernel) (Nat.le_of_ble_eq_true rfl) ?_
  intro p e s m below meth c A ls hx hb hr hml hown hts hlocks hin hsz hAe hA hK hN hZ hD hS hP hl
  have hl : lv_has ls 3 [(0, .ref h_this), (1, .int x1), (2, .int x2)] := hl
  refine lv_iload_n hx hb dX9_goes_0 rfl (lv_at hl 1 rfl) ?_
  refine lv_if_eq (tgt := 9) hx hb dX9_goes_1 (by decide) (fun c1 => ?_) (fun c1 => ?_)
  · replace hf := k_ifT c1 hf
    refine lv_iload_n hx hb dX9_goes_9 rfl (lv_at hl 1 rfl) ?_
    obtain ⟨hbl, hf⟩ := k_bl_some hf
    cases hf
    exact k_zret hx hb hr (k_bn hbl) hlocks hAe hS hP hD dX9_goes_10
  · replace hf := k_ifF c1 hf
    refine lv_aload_n hx hb dX9_goes_4 rfl (lv_at hl 0 rfl) ?_
    refine lv_iload_n hx hb dX9_goes_5 rfl (lv_at hl 2 rfl) ?_
    refine va_put (D := D) (ci := 8) (v := .int x2) (ty := .int) (C := RX9) (T := TX9) (N := 41) hx hb hts inlX9 tyX9 tyX9_ok nmX9 hown hK hP hD hS 0 rfl rfl 16 (by decide) (hts _ m_246) (fun _ h9 => h9) rfl (by decide +kernel) rfl rfl (Nat.le_of_ble_eq_true rfl) dX9_goes_6 (fun H locs hP hD hS => ?_)
    have hP : va_P D vwCl [(h_this, o_X9 v_kind v_worlds h_arrows h_marks v_frames v_signs h_signAt h_behind v_formulas v_failsTold v_tellsTold v_seen h_seenWhat h_seenCan v_pageLength h_page x2 v_newKind v_newWorlds v_newFrom v_newLast v_newP v_newQ h_newArrows v_wanted v_many h_to v_pNow v_qNow h_holds h_apart v_seedNow v_keptFrame v_keptKind v_keptWorlds v_keptSeen h_keptArrows h_keptMarks h_keptWhat h_keptCan v_h)] H := hP
    have hD : va_D A [(h_this, o_X9 v_kind v_worlds h_arrows h_marks v_frames v_signs h_signAt h_behind v_formulas v_failsTold v_tellsTold v_seen h_seenWhat h_seenCan v_pageLength h_page x2 v_newKind v_newWorlds v_newFrom v_newLast v_newP v_newQ h_newArrows v_wanted v_many h_to v_pNow v_qNow h_holds h_apart v_seedNow v_keptFrame v_keptKind v_keptWorlds v_keptSeen h_keptArrows h_keptMarks h_keptWhat h_keptCan v_h)] := hD
    refine lv_iload_n hx hb dX9_goes_9 rfl (lv_at hl 1 rfl) ?_
    obtain ⟨hbl, hf⟩ := k_bl_some hf
    cases hf
    exact k_zret hx hb hr (k_bn hbl) hlocks hAe hS hP hD dX9_goes_10
set_option maxHeartbeats 4000000 in
set_option maxRecDepth 100000 in
theorem k_X9_takesArrow (l : Launch) (D : va_G) (cB cI cJ cZ : ClassId) (tL tK : Nat) (h_this h_arrows h_marks h_signAt h_behind h_seenWhat h_seenCan h_page h_newArrows h_to h_holds h_apart h_keptArrows h_keptMarks h_keptWhat h_keptCan : Nat) (sz : Nat) (v_kind : Int32) (v_worlds : Int32) (v_frames : Int32) (v_signs : Int32) (v_formulas : Int32) (v_failsTold : Int32) (v_tellsTold : Int32) (v_seen : Int32) (v_pageLength : Int32) (v_stage : Int32) (v_newKind : Int32) (v_newWorlds : Int32) (v_newFrom : Int32) (v_newLast : Int32) (v_newP : Int32) (v_newQ : Int32) (v_wanted : Int32) (v_many : Int32) (v_pNow : Int32) (v_qNow : Int32) (v_seedNow : Int64) (v_keptFrame : Int32) (v_keptKind : Int32) (v_keptWorlds : Int32) (v_keptSeen : Int32) (v_h : Int64) (v_newArrows : (Nat → Int32)) (x1 : Int32) (x2 : Int32) (q : Int32 × Int32 × (Nat → Int32)) (hf : f_X9_takesArrow v_stage v_newFrom v_newArrows x1 x2 = some q) : Met l yX9_takesArrow (.code yX9_takesArrow cX9_takesArrow 4 (some .boolean) :: k_all) { frames := 0, cells := 0, slots := 0, locals := 0 } (k_P D cB cI cJ cZ tL tK [.ref h_this, .int x1, .int x2] [(h_this, o_X9 v_kind v_worlds h_arrows h_marks v_frames v_signs h_signAt h_behind v_formulas v_failsTold v_tellsTold v_seen h_seenWhat h_seenCan v_pageLength h_page v_stage v_newKind v_newWorlds v_newFrom v_newLast v_newP v_newQ h_newArrows v_wanted v_many h_to v_pNow v_qNow h_holds h_apart v_seedNow v_keptFrame v_keptKind v_keptWorlds v_keptSeen h_keptArrows h_keptMarks h_keptWhat h_keptCan v_h), (h_newArrows, o_I cZ 16 v_newArrows)] sz) (k_I D q.1 [(h_this, o_X9 v_kind v_worlds h_arrows h_marks v_frames v_signs h_signAt h_behind v_formulas v_failsTold v_tellsTold v_seen h_seenWhat h_seenCan v_pageLength h_page v_stage v_newKind v_newWorlds v_newFrom v_newLast v_newP v_newQ h_newArrows v_wanted v_many h_to v_pNow v_qNow h_holds h_apart v_seedNow v_keptFrame v_keptKind v_keptWorlds v_keptSeen h_keptArrows h_keptMarks h_keptWhat h_keptCan v_h), (h_newArrows, o_I cZ 16 v_newArrows)] [(h_this, o_X9 v_kind v_worlds h_arrows h_marks v_frames v_signs h_signAt h_behind v_formulas v_failsTold v_tellsTold v_seen h_seenWhat h_seenCan v_pageLength h_page q.2.1 v_newKind v_newWorlds v_newFrom v_newLast v_newP v_newQ h_newArrows v_wanted v_many h_to v_pNow v_qNow h_holds h_apart v_seedNow v_keptFrame v_keptKind v_keptWorlds v_keptSeen h_keptArrows h_keptMarks h_keptWhat h_keptCan v_h), (h_newArrows, o_I cZ 16 q.2.2)] sz) 0 0 (va_A [(h_this, o_X9 v_kind v_worlds h_arrows h_marks v_frames v_signs h_signAt h_behind v_formulas v_failsTold v_tellsTold v_seen h_seenWhat h_seenCan v_pageLength h_page v_stage v_newKind v_newWorlds v_newFrom v_newLast v_newP v_newQ h_newArrows v_wanted v_many h_to v_pNow v_qNow h_holds h_apart v_seedNow v_keptFrame v_keptKind v_keptWorlds v_keptSeen h_keptArrows h_keptMarks h_keptWhat h_keptCan v_h), (h_newArrows, o_I cZ 16 v_newArrows)] sz) := by
  unfold f_X9_takesArrow at hf
  refine k_met RX9 rfl (by decide +kernel) (Nat.le_of_ble_eq_true rfl) ?_
  intro p e s m below meth c A ls hx hb hr hml hown hts hlocks hin hsz hAe hA hK hN hZ hD hS hP hl
  have hl : lv_has ls 4 [(0, .ref h_this), (1, .int x1), (2, .int x2)] := hl
  refine lv_iload_n hx hb dX9_takesArrow_0 rfl (lv_at hl 1 rfl) ?_
  refine k_jn (D := D) (A := A) (nL := 4) hf (fun (j1 : Int32) => [(h_this, o_X9 v_kind v_worlds h_arrows h_marks v_frames v_signs h_signAt h_behind v_formulas v_failsTold v_tellsTold v_seen h_seenWhat h_seenCan v_pageLength h_page v_stage v_newKind v_newWorlds v_newFrom v_newLast v_newP v_newQ h_newArrows v_wanted v_many h_to v_pNow v_qNow h_holds h_apart v_seedNow v_keptFrame v_keptKind v_keptWorlds v_keptSeen h_keptArrows h_keptMarks h_keptWhat h_keptCan v_h), (h_newArrows, o_I cZ 16 v_newArrows)]) (fun (j1 : Int32) => [(0, .ref h_this), (2, .int x2)]) (fun (j1 : Int32) => [.int j1]) 25 ?_ ?_
  · intro j1 H locs ls hf hP hD hS hl
    have hP : va_P D vwCl [(h_this, o_X9 v_kind v_worlds h_arrows h_marks v_frames v_signs h_signAt h_behind v_formulas v_failsTold v_tellsTold v_seen h_seenWhat h_seenCan v_pageLength h_page v_stage v_newKind v_newWorlds v_newFrom v_newLast v_newP v_newQ h_newArrows v_wanted v_many h_to v_pNow v_qNow h_holds h_apart v_seedNow v_keptFrame v_keptKind v_keptWorlds v_keptSeen h_keptArrows h_keptMarks h_keptWhat h_keptCan v_h), (h_newArrows, o_I cZ 16 v_newArrows)] H := hP
    have hD : va_D A [(h_this, o_X9 v_kind v_worlds h_arrows h_marks v_frames v_signs h_signAt h_behind v_formulas v_failsTold v_tellsTold v_seen h_seenWhat h_seenCan v_pageLength h_page v_stage v_newKind v_newWorlds v_newFrom v_newLast v_newP v_newQ h_newArrows v_wanted v_many h_to v_pNow v_qNow h_holds h_apart v_seedNow v_keptFrame v_keptKind v_keptWorlds v_keptSeen h_keptArrows h_keptMarks h_keptWhat h_keptCan v_h), (h_newArrows, o_I cZ 16 v_newArrows)] := hD
    have hl : lv_has ls 4 [(0, .ref h_this), (2, .int x2)] := hl
    show W p l e _ s m _ below meth c H locs _ _ _ (F0 m 25 ls [.int j1])
    refine lv_istore_n (lv' := [(3, .int j1), (0, .ref h_this), (2, .int x2)]) hx hb dX9_takesArrow_25 rfl hl (by decide) rfl (fun ls hl => ?_)
    refine lv_iload_n hx hb dX9_takesArrow_26 rfl (lv_at hl 0 rfl) ?_
    refine lv_if_eq (tgt := 49) hx hb dX9_takesArrow_27 (by decide) (fun c27 => ?_) (fun c27 => ?_)
    · replace hf := k_ifT c27 hf
      refine lv_iload_n hx hb dX9_takesArrow_49 rfl (lv_at hl 0 rfl) ?_
      obtain ⟨hbl, hf⟩ := k_bl_some hf
      cases hf
      exact k_zret hx hb hr (k_bn hbl) hlocks hAe hS hP hD dX9_takesArrow_50
    · replace hf := k_ifF c27 hf
      refine lv_aload_n hx hb dX9_takesArrow_30 rfl (lv_at hl 1 rfl) ?_
      refine va_get (D := D) (ci := 8) (v := .ref h_newArrows) (C := RX9) (T := TX9) (N := 41) hx hb hts inlX9 hown hK hP 0 rfl rfl 23 (by decide) (hts _ m_90) (fun _ h9 => h9) rfl dX9_takesArrow_31 ?_
      refine lv_iconst (v := 4) hx hb dX9_takesArrow_34 (by decide) ?_
      refine lv_aload_n hx hb dX9_takesArrow_35 rfl (lv_at hl 1 rfl) ?_
      refine va_get (D := D) (ci := 8) (v := .int v_newFrom) (C := RX9) (T := TX9) (N := 41) hx hb hts inlX9 hown hK hP 0 rfl rfl 19 (by decide) (hts _ m_256) (fun _ h9 => h9) rfl dX9_takesArrow_36 ?_
      refine lv_imul hx hb dX9_takesArrow_39 ?_
      refine lv_iload_n hx hb dX9_takesArrow_40 rfl (lv_at hl 2 rfl) ?_
      refine lv_iadd hx hb dX9_takesArrow_41 ?_
      refine lv_iconst (v := 1) hx hb dX9_takesArrow_42 (by decide) ?_
      obtain ⟨hi43, hf⟩ := k_chk_some hf
      refine va_zast (D := D) hx hb hK hP hD hS 1 3 rfl rfl hi43 dX9_takesArrow_43 (fun H locs hP hD hS => ?_)
      have hP : va_P D vwCl [(h_this, o_X9 v_kind v_worlds h_arrows h_marks v_frames v_signs h_signAt h_behind v_formulas v_failsTold v_tellsTold v_seen h_seenWhat h_seenCan v_pageLength h_page v_stage v_newKind v_newWorlds v_newFrom v_newLast v_newP v_newQ h_newArrows v_wanted v_many h_to v_pNow v_qNow h_holds h_apart v_seedNow v_keptFrame v_keptKind v_keptWorlds v_keptSeen h_keptArrows h_keptMarks h_keptWhat h_keptCan v_h), (h_newArrows, o_I cZ 16 (upd v_newArrows (Int32.toNatClampNeg ((4 * v_newFrom) + x2)) (vp_nar .boolean 1)))] H := hP
      have hD : va_D A [(h_this, o_X9 v_kind v_worlds h_arrows h_marks v_frames v_signs h_signAt h_behind v_formulas v_failsTold v_tellsTold v_seen h_seenWhat h_seenCan v_pageLength h_page v_stage v_newKind v_newWorlds v_newFrom v_newLast v_newP v_newQ h_newArrows v_wanted v_many h_to v_pNow v_qNow h_holds h_apart v_seedNow v_keptFrame v_keptKind v_keptWorlds v_keptSeen h_keptArrows h_keptMarks h_keptWhat h_keptCan v_h), (h_newArrows, o_I cZ 16 (upd v_newArrows (Int32.toNatClampNeg ((4 * v_newFrom) + x2)) (vp_nar .boolean 1)))] := hD
      refine lv_aload_n hx hb dX9_takesArrow_44 rfl (lv_at hl 1 rfl) ?_
      refine lv_iconst (v := 5) hx hb dX9_takesArrow_45 (by decide) ?_
      refine va_put (D := D) (ci := 8) (v := .int 5) (ty := .int) (C := RX9) (T := TX9) (N := 41) hx hb hts inlX9 tyX9 tyX9_ok nmX9 hown hK hP hD hS 0 rfl rfl 16 (by decide) (hts _ m_246) (fun _ h9 => h9) rfl (by decide +kernel) rfl rfl (Nat.le_of_ble_eq_true rfl) dX9_takesArrow_46 (fun H locs hP hD hS => ?_)
      have hP : va_P D vwCl [(h_this, o_X9 v_kind v_worlds h_arrows h_marks v_frames v_signs h_signAt h_behind v_formulas v_failsTold v_tellsTold v_seen h_seenWhat h_seenCan v_pageLength h_page 5 v_newKind v_newWorlds v_newFrom v_newLast v_newP v_newQ h_newArrows v_wanted v_many h_to v_pNow v_qNow h_holds h_apart v_seedNow v_keptFrame v_keptKind v_keptWorlds v_keptSeen h_keptArrows h_keptMarks h_keptWhat h_keptCan v_h), (h_newArrows, o_I cZ 16 (upd v_newArrows (Int32.toNatClampNeg ((4 * v_newFrom) + x2)) (vp_nar .boolean 1)))] H := hP
      have hD : va_D A [(h_this, o_X9 v_kind v_worlds h_arrows h_marks v_frames v_signs h_signAt h_behind v_formulas v_failsTold v_tellsTold v_seen h_seenWhat h_seenCan v_pageLength h_page 5 v_newKind v_newWorlds v_newFrom v_newLast v_newP v_newQ h_newArrows v_wanted v_many h_to v_pNow v_qNow h_holds h_apart v_seedNow v_keptFrame v_keptKind v_keptWorlds v_keptSeen h_keptArrows h_keptMarks h_keptWhat h_keptCan v_h), (h_newArrows, o_I cZ 16 (upd v_newArrows (Int32.toNatClampNeg ((4 * v_newFrom) + x2)) (vp_nar .boolean 1)))] := hD
      refine lv_iload_n hx hb dX9_takesArrow_49 rfl (lv_at hl 0 rfl) ?_
      obtain ⟨hbl, hf⟩ := k_bl_some hf
      cases hf
      exact k_zret hx hb hr (k_bn hbl) hlocks hAe hS hP hD dX9_takesArrow_50
  · intro j1 hf hj1
    refine lv_if_eq (tgt := 24) hx hb dX9_takesArrow_1 (by decide) (fun c1 => ?_) (fun c1 => ?_)
    · replace hf := k_ifT c1 hf
      refine lv_iconst (v := 0) hx hb dX9_takesArrow_24 (by decide) ?_
      cases hf
      exact hj1 _ _ _ hP hD hS (lv_sub hl [0, 2] rfl)
    · replace hf := k_ifF c1 hf
      refine lv_aload_n hx hb dX9_takesArrow_4 rfl (lv_at hl 0 rfl) ?_
      refine va_get (D := D) (ci := 8) (v := .ref h_newArrows) (C := RX9) (T := TX9) (N := 41) hx hb hts inlX9 hown hK hP 0 rfl rfl 23 (by decide) (hts _ m_90) (fun _ h9 => h9) rfl dX9_takesArrow_5 ?_
      refine lv_iconst (v := 4) hx hb dX9_takesArrow_8 (by decide) ?_
      refine lv_aload_n hx hb dX9_takesArrow_9 rfl (lv_at hl 0 rfl) ?_
      refine va_get (D := D) (ci := 8) (v := .int v_newFrom) (C := RX9) (T := TX9) (N := 41) hx hb hts inlX9 hown hK hP 0 rfl rfl 19 (by decide) (hts _ m_256) (fun _ h9 => h9) rfl dX9_takesArrow_10 ?_
      refine lv_imul hx hb dX9_takesArrow_13 ?_
      refine lv_iload_n hx hb dX9_takesArrow_14 rfl (lv_at hl 2 rfl) ?_
      refine lv_iadd hx hb dX9_takesArrow_15 ?_
      obtain ⟨hi16, hf⟩ := k_chk_some hf
      refine va_zald (D := D) hx hb hK hP 1 3 rfl rfl hi16 dX9_takesArrow_16 ?_
      refine lv_if_ne (tgt := 24) hx hb dX9_takesArrow_17 (by decide) (fun c17 => ?_) (fun c17 => ?_)
      · replace hf := k_ifF c17 hf
        refine lv_iconst (v := 0) hx hb dX9_takesArrow_24 (by decide) ?_
        cases hf
        exact hj1 _ _ _ hP hD hS (lv_sub hl [0, 2] rfl)
      · replace hf := k_ifT c17 hf
        refine lv_iconst (v := 1) hx hb dX9_takesArrow_20 (by decide) ?_
        refine lv_goto (tgt := 25) hx hb dX9_takesArrow_21 (by decide) ?_
        cases hf
        exact hj1 _ _ _ hP hD hS (lv_sub hl [0, 2] rfl)
set_option maxHeartbeats 4000000 in
set_option maxRecDepth 100000 in
theorem k_X9_kindBy (l : Launch) (D : va_G) (cB cI cJ cZ : ClassId) (tL tK : Nat) (sz : Nat)  (x1 : Int32) (q : Int32) (hf : f_X9_kindBy x1 = q) : Met l yX9_kindBy (.code yX9_kindBy cX9_kindBy 1 (some .int) :: k_all) { frames := 0, cells := 0, slots := 0, locals := 0 } (k_P D cB cI cJ cZ tL tK [.int x1] [] sz) (k_I D q [] [] sz) 0 0 (va_A [] sz) := by
  unfold f_X9_kindBy at hf
  refine k_met RX9 rfl (by decide +kernel) (Nat.le_of_ble_eq_true rfl) ?_
  intro p e s m below meth c A ls hx hb hr hml hown hts hlocks hin hsz hAe hA hK hN hZ hD hS hP hl
  have hl : lv_has ls 1 [(0, .int x1)] := hl
  refine lv_iload_n hx hb dX9_kindBy_0 rfl (lv_at hl 0 rfl) ?_
  by_cases c1_100 : x1 = 100
  · replace hf := k_ifT c1_100 hf
    refine lv_lookup (tgt := 60) (off := 59) hx hb dX9_kindBy_1 (by decide) (by rw [c1_100]; rfl) (by decide) ?_
    refine lv_iconst (v := 4) hx hb dX9_kindBy_60 (by decide) ?_
    subst hf
    exact k_iret hx hb hr hlocks hAe hS hP hD dX9_kindBy_61
  · replace hf := k_ifF c1_100 hf
    by_cases c1_107 : x1 = 107
    · replace hf := k_ifT c1_107 hf
      refine lv_lookup (tgt := 52) (off := 51) hx hb dX9_kindBy_1 (by decide) (by rw [c1_107]; rfl) (by decide) ?_
      refine lv_iconst (v := 0) hx hb dX9_kindBy_52 (by decide) ?_
      subst hf
      exact k_iret hx hb hr hlocks hAe hS hP hD dX9_kindBy_53
    · replace hf := k_ifF c1_107 hf
      by_cases c1_115 : x1 = 115
      · replace hf := k_ifT c1_115 hf
        refine lv_lookup (tgt := 56) (off := 55) hx hb dX9_kindBy_1 (by decide) (by rw [c1_115]; rfl) (by decide) ?_
        refine lv_iconst (v := 2) hx hb dX9_kindBy_56 (by decide) ?_
        subst hf
        exact k_iret hx hb hr hlocks hAe hS hP hD dX9_kindBy_57
      · replace hf := k_ifF c1_115 hf
        by_cases c1_116 : x1 = 116
        · replace hf := k_ifT c1_116 hf
          refine lv_lookup (tgt := 54) (off := 53) hx hb dX9_kindBy_1 (by decide) (by rw [c1_116]; rfl) (by decide) ?_
          refine lv_iconst (v := 1) hx hb dX9_kindBy_54 (by decide) ?_
          subst hf
          exact k_iret hx hb hr hlocks hAe hS hP hD dX9_kindBy_55
        · replace hf := k_ifF c1_116 hf
          by_cases c1_121 : x1 = 121
          · replace hf := k_ifT c1_121 hf
            refine lv_lookup (tgt := 58) (off := 57) hx hb dX9_kindBy_1 (by decide) (by rw [c1_121]; rfl) (by decide) ?_
            refine lv_iconst (v := 3) hx hb dX9_kindBy_58 (by decide) ?_
            subst hf
            exact k_iret hx hb hr hlocks hAe hS hP hD dX9_kindBy_59
          · replace hf := k_ifF c1_121 hf
            refine lv_lookup (tgt := 62) (off := 61) hx hb dX9_kindBy_1 (by decide) (by rw [lv_osw c1_100 (show (100 : Int32).toInt = 100 by decide)]; rw [lv_osw c1_107 (show (107 : Int32).toInt = 107 by decide)]; rw [lv_osw c1_115 (show (115 : Int32).toInt = 115 by decide)]; rw [lv_osw c1_116 (show (116 : Int32).toInt = 116 by decide)]; rw [lv_osw c1_121 (show (121 : Int32).toInt = 121 by decide)]; rfl) (by decide) ?_
            refine lv_iconst (v := (-1)) hx hb dX9_kindBy_62 (by decide) ?_
            subst hf
            exact k_iret hx hb hr hlocks hAe hS hP hD dX9_kindBy_63
set_option maxHeartbeats 4000000 in
set_option maxRecDepth 100000 in
theorem k_X9_takes (l : Launch) (D : va_G) (cB cI cJ cZ : ClassId) (tL tK : Nat) (h_this h_arrows h_marks h_signAt h_behind h_seenWhat h_seenCan h_page h_newArrows h_to h_holds h_apart h_keptArrows h_keptMarks h_keptWhat h_keptCan : Nat) (sz : Nat) (v_kind : Int32) (v_worlds : Int32) (v_frames : Int32) (v_signs : Int32) (v_formulas : Int32) (v_failsTold : Int32) (v_tellsTold : Int32) (v_seen : Int32) (v_pageLength : Int32) (v_stage : Int32) (v_newKind : Int32) (v_newWorlds : Int32) (v_newFrom : Int32) (v_newLast : Int32) (v_newP : Int32) (v_newQ : Int32) (v_wanted : Int32) (v_many : Int32) (v_pNow : Int32) (v_qNow : Int32) (v_seedNow : Int64) (v_keptFrame : Int32) (v_keptKind : Int32) (v_keptWorlds : Int32) (v_keptSeen : Int32) (v_h : Int64) (v_newArrows : (Nat → Int32)) (x1 : Int32) (q : Int32 × Int32 × Int32 × Int32 × Int32 × Int32 × Int32 × Int32 × (Nat → Int32)) (hf : f_X9_takes v_stage v_newKind v_newWorlds v_newFrom v_newLast v_newP v_newQ v_newArrows x1 = some q) : Met l yX9_takes (.code yX9_takes cX9_takes 4 (some .boolean) :: k_all) { frames := 1, cells := 0, slots := 0, locals := 23 } (k_P D cB cI cJ cZ tL tK [.ref h_this, .int x1] [(h_this, o_X9 v_kind v_worlds h_arrows h_marks v_frames v_signs h_signAt h_behind v_formulas v_failsTold v_tellsTold v_seen h_seenWhat h_seenCan v_pageLength h_page v_stage v_newKind v_newWorlds v_newFrom v_newLast v_newP v_newQ h_newArrows v_wanted v_many h_to v_pNow v_qNow h_holds h_apart v_seedNow v_keptFrame v_keptKind v_keptWorlds v_keptSeen h_keptArrows h_keptMarks h_keptWhat h_keptCan v_h), (h_newArrows, o_I cZ 16 v_newArrows)] sz) (k_I D q.1 [(h_this, o_X9 v_kind v_worlds h_arrows h_marks v_frames v_signs h_signAt h_behind v_formulas v_failsTold v_tellsTold v_seen h_seenWhat h_seenCan v_pageLength h_page v_stage v_newKind v_newWorlds v_newFrom v_newLast v_newP v_newQ h_newArrows v_wanted v_many h_to v_pNow v_qNow h_holds h_apart v_seedNow v_keptFrame v_keptKind v_keptWorlds v_keptSeen h_keptArrows h_keptMarks h_keptWhat h_keptCan v_h), (h_newArrows, o_I cZ 16 v_newArrows)] [(h_this, o_X9 v_kind v_worlds h_arrows h_marks v_frames v_signs h_signAt h_behind v_formulas v_failsTold v_tellsTold v_seen h_seenWhat h_seenCan v_pageLength h_page q.2.1 q.2.2.1 q.2.2.2.1 q.2.2.2.2.1 q.2.2.2.2.2.1 q.2.2.2.2.2.2.1 q.2.2.2.2.2.2.2.1 h_newArrows v_wanted v_many h_to v_pNow v_qNow h_holds h_apart v_seedNow v_keptFrame v_keptKind v_keptWorlds v_keptSeen h_keptArrows h_keptMarks h_keptWhat h_keptCan v_h), (h_newArrows, o_I cZ 16 q.2.2.2.2.2.2.2.2)] sz) 0 0 (va_A [(h_this, o_X9 v_kind v_worlds h_arrows h_marks v_frames v_signs h_signAt h_behind v_formulas v_failsTold v_tellsTold v_seen h_seenWhat h_seenCan v_pageLength h_page v_stage v_newKind v_newWorlds v_newFrom v_newLast v_newP v_newQ h_newArrows v_wanted v_many h_to v_pNow v_qNow h_holds h_apart v_seedNow v_keptFrame v_keptKind v_keptWorlds v_keptSeen h_keptArrows h_keptMarks h_keptWhat h_keptCan v_h), (h_newArrows, o_I cZ 16 v_newArrows)] sz) := by
  unfold f_X9_takes at hf
  refine k_met RX9 rfl (by decide +kernel) (Nat.le_of_ble_eq_true rfl) ?_
  intro p e s m below meth c A ls hx hb hr hml hown hts hlocks hin hsz hAe hA hK hN hZ hD hS hP hl
  have hl : lv_has ls 4 [(0, .ref h_this), (1, .int x1)] := hl
  refine lv_iload_n hx hb dX9_takes_0 rfl (lv_at hl 1 rfl) ?_
  refine lv_bipush (v := 48) hx hb dX9_takes_1 (by decide) ?_
  refine lv_isub hx hb dX9_takes_3 ?_
  refine lv_istore_n (lv' := [(2, .int (x1 - 48)), (0, .ref h_this), (1, .int x1)]) hx hb dX9_takes_4 rfl hl (by decide) rfl (fun ls hl => ?_)
  refine lv_iload_n hx hb dX9_takes_5 rfl (lv_at hl 0 rfl) ?_
  refine lv_iconst (v := 0) hx hb dX9_takes_6 (by decide) ?_
  refine lv_aload_n hx hb dX9_takes_7 rfl (lv_at hl 1 rfl) ?_
  refine va_get (D := D) (ci := 8) (v := .int v_newWorlds) (C := RX9) (T := TX9) (N := 41) hx hb hts inlX9 hown hK hP 0 rfl rfl 18 (by decide) (hts _ m_247) (fun _ h9 => h9) rfl dX9_takes_8 ?_
  refine lv_iconst (v := 1) hx hb dX9_takes_11 (by decide) ?_
  refine lv_isub hx hb dX9_takes_12 ?_
  refine k_calli (wN := [(h_this, o_X9 v_kind v_worlds h_arrows h_marks v_frames v_signs h_signAt h_behind v_formulas v_failsTold v_tellsTold v_seen h_seenWhat h_seenCan v_pageLength h_page v_stage v_newKind v_newWorlds v_newFrom v_newLast v_newP v_newQ h_newArrows v_wanted v_many h_to v_pNow v_qNow h_holds h_apart v_seedNow v_keptFrame v_keptKind v_keptWorlds v_keptSeen h_keptArrows h_keptMarks h_keptWhat h_keptCan v_h), (h_newArrows, o_I cZ 16 v_newArrows)]) [] [0, 1] [0, 1] hP hD hS hA (va_runS (As := [.int (x1 - 48), .int 0, .int (v_newWorlds - 1)]) (rest := []) ⟨hx, hb, hml, hown, hts⟩ (k_X9_within l D cB cI cJ cZ tL tK _ (x1 - 48) 0 (v_newWorlds - 1) (f_X9_within (x1 - 48) 0 (v_newWorlds - 1)) rfl) (va_cwS 3 hts (k_gS m_120 m_118 m_119 m_5) rfl rfl rfl (by decide +kernel) ⟨Nat.le_of_ble_eq_true rfl, Nat.le_of_ble_eq_true rfl⟩) (k_preS [] hK hN hZ hP hD hS hA rfl rfl) rfl rfl hl.1 rfl (lv_room (Nat.le_of_ble_eq_true rfl)) dX9_takes_13 ⟨Nat.le_refl _, Nat.le_refl _⟩) rfl rfl rfl rfl rfl (fun H locs hP hD hS => ?_)
  refine lv_istore_n (lv' := [(3, .int (f_X9_within (x1 - 48) 0 (v_newWorlds - 1))), (2, .int (x1 - 48)), (0, .ref h_this), (1, .int x1)]) hx hb dX9_takes_16 rfl hl (by decide) rfl (fun ls hl => ?_)
  refine lv_aload_n hx hb dX9_takes_17 rfl (lv_at hl 2 rfl) ?_
  refine va_get (D := D) (ci := 8) (v := .int v_stage) (C := RX9) (T := TX9) (N := 41) hx hb hts inlX9 hown hK hP 0 rfl rfl 16 (by decide) (hts _ m_246) (fun _ h9 => h9) rfl dX9_takes_18 ?_
  by_cases c21_0 : v_stage = 0
  · replace hf := k_ifT c21_0 hf
    refine lv_tableIn (tgt := 68) hx hb dX9_takes_21 (by rw [c21_0]; decide) (by rw [c21_0]; decide) (by rw [c21_0]; rfl) (by decide) ?_
    refine lv_aload_n hx hb dX9_takes_68 rfl (lv_at hl 2 rfl) ?_
    refine lv_iload_n hx hb dX9_takes_69 rfl (lv_at hl 3 rfl) ?_
    refine k_calli (wN := [(h_this, o_X9 v_kind v_worlds h_arrows h_marks v_frames v_signs h_signAt h_behind v_formulas v_failsTold v_tellsTold v_seen h_seenWhat h_seenCan v_pageLength h_page v_stage v_newKind v_newWorlds v_newFrom v_newLast v_newP v_newQ h_newArrows v_wanted v_many h_to v_pNow v_qNow h_holds h_apart v_seedNow v_keptFrame v_keptKind v_keptWorlds v_keptSeen h_keptArrows h_keptMarks h_keptWhat h_keptCan v_h), (h_newArrows, o_I cZ 16 v_newArrows)]) [] [0, 1] [0, 1] hP hD hS hA (va_runS (As := [.int x1]) (rest := [.ref h_this]) ⟨hx, hb, hml, hown, hts⟩ (k_X9_kindBy l D cB cI cJ cZ tL tK _ x1 (f_X9_kindBy x1) rfl) (va_cwS 1 hts (k_gS m_259 m_257 m_258 m_5) rfl rfl rfl (by decide +kernel) ⟨Nat.le_of_ble_eq_true rfl, Nat.le_of_ble_eq_true rfl⟩) (k_preS [] hK hN hZ hP hD hS hA rfl rfl) rfl rfl hl.1 rfl (lv_room (Nat.le_of_ble_eq_true rfl)) dX9_takes_70 ⟨Nat.le_refl _, Nat.le_refl _⟩) rfl rfl rfl rfl rfl (fun H locs hP hD hS => ?_)
    refine va_put (D := D) (ci := 8) (v := .int (f_X9_kindBy x1)) (ty := .int) (C := RX9) (T := TX9) (N := 41) hx hb hts inlX9 tyX9 tyX9_ok nmX9 hown hK hP hD hS 0 rfl rfl 17 (by decide) (hts _ m_255) (fun _ h9 => h9) rfl (by decide +kernel) rfl rfl (Nat.le_of_ble_eq_true rfl) dX9_takes_73 (fun H locs hP hD hS => ?_)
    have hP : va_P D vwCl [(h_this, o_X9 v_kind v_worlds h_arrows h_marks v_frames v_signs h_signAt h_behind v_formulas v_failsTold v_tellsTold v_seen h_seenWhat h_seenCan v_pageLength h_page v_stage (f_X9_kindBy x1) v_newWorlds v_newFrom v_newLast v_newP v_newQ h_newArrows v_wanted v_many h_to v_pNow v_qNow h_holds h_apart v_seedNow v_keptFrame v_keptKind v_keptWorlds v_keptSeen h_keptArrows h_keptMarks h_keptWhat h_keptCan v_h), (h_newArrows, o_I cZ 16 v_newArrows)] H := hP
    have hD : va_D A [(h_this, o_X9 v_kind v_worlds h_arrows h_marks v_frames v_signs h_signAt h_behind v_formulas v_failsTold v_tellsTold v_seen h_seenWhat h_seenCan v_pageLength h_page v_stage (f_X9_kindBy x1) v_newWorlds v_newFrom v_newLast v_newP v_newQ h_newArrows v_wanted v_many h_to v_pNow v_qNow h_holds h_apart v_seedNow v_keptFrame v_keptKind v_keptWorlds v_keptSeen h_keptArrows h_keptMarks h_keptWhat h_keptCan v_h), (h_newArrows, o_I cZ 16 v_newArrows)] := hD
    refine lv_aload_n hx hb dX9_takes_76 rfl (lv_at hl 2 rfl) ?_
    refine lv_aload_n hx hb dX9_takes_77 rfl (lv_at hl 2 rfl) ?_
    refine va_get (D := D) (ci := 8) (v := .int (f_X9_kindBy x1)) (C := RX9) (T := TX9) (N := 41) hx hb hts inlX9 hown hK hP 0 rfl rfl 17 (by decide) (hts _ m_255) (fun _ h9 => h9) rfl dX9_takes_78 ?_
    refine lv_iconst (v := (-1)) hx hb dX9_takes_81 (by decide) ?_
    refine lv_icmp_eq (tgt := 89) hx hb dX9_takes_82 (by decide) (fun c82 => ?_) (fun c82 => ?_)
    · replace hf := k_ifT c82 hf
      refine lv_iconst (v := 0) hx hb dX9_takes_89 (by decide) ?_
      refine lv_iconst (v := 1) hx hb dX9_takes_90 (by decide) ?_
      obtain ⟨q91, hq91, hf⟩ := k_bind hf
      refine k_calli (wN := [(h_this, o_X9 v_kind v_worlds h_arrows h_marks v_frames v_signs h_signAt h_behind v_formulas v_failsTold v_tellsTold v_seen h_seenWhat h_seenCan v_pageLength h_page q91.2 (f_X9_kindBy x1) v_newWorlds v_newFrom v_newLast v_newP v_newQ h_newArrows v_wanted v_many h_to v_pNow v_qNow h_holds h_apart v_seedNow v_keptFrame v_keptKind v_keptWorlds v_keptSeen h_keptArrows h_keptMarks h_keptWhat h_keptCan v_h), (h_newArrows, o_I cZ 16 v_newArrows)]) [0] [1] [1, 0] hP hD hS hA (va_runV (As := [.int 0, .int 1]) (rest := []) ⟨hx, hb, hml, hown, hts⟩ (k_X9_goes l D cB cI cJ cZ tL tK h_this h_arrows h_marks h_signAt h_behind h_seenWhat h_seenCan h_page h_newArrows h_to h_holds h_apart h_keptArrows h_keptMarks h_keptWhat h_keptCan _ v_kind v_worlds v_frames v_signs v_formulas v_failsTold v_tellsTold v_seen v_pageLength v_stage (f_X9_kindBy x1) v_newWorlds v_newFrom v_newLast v_newP v_newQ v_wanted v_many v_pNow v_qNow v_seedNow v_keptFrame v_keptKind v_keptWorlds v_keptSeen v_h 0 1 q91 hq91) (cwV 2 hts (k_gV m_263 m_260 m_261 m_262 m_5) rfl rfl rfl (by decide +kernel) ⟨Nat.le_of_ble_eq_true rfl, Nat.le_of_ble_eq_true rfl⟩) (k_preV [0] hK hN hZ hP hD hS hA rfl rfl (va_recv hK hP (ci := 8) (q0 := 0) rfl rfl)) rfl rfl hl.1 rfl (lv_room (Nat.le_of_ble_eq_true rfl)) dX9_takes_91 ⟨Nat.le_refl _, Nat.le_refl _⟩) rfl rfl rfl rfl rfl (fun H locs hP hD hS => ?_)
      obtain ⟨hbl, hf⟩ := k_bl_some hf
      cases hf
      exact k_zret hx hb hr (k_bn hbl) hlocks hAe hS hP hD dX9_takes_94
    · replace hf := k_ifF c82 hf
      refine lv_iconst (v := 1) hx hb dX9_takes_85 (by decide) ?_
      refine lv_goto (tgt := 90) hx hb dX9_takes_86 (by decide) ?_
      refine lv_iconst (v := 1) hx hb dX9_takes_90 (by decide) ?_
      obtain ⟨q91, hq91, hf⟩ := k_bind hf
      refine k_calli (wN := [(h_this, o_X9 v_kind v_worlds h_arrows h_marks v_frames v_signs h_signAt h_behind v_formulas v_failsTold v_tellsTold v_seen h_seenWhat h_seenCan v_pageLength h_page q91.2 (f_X9_kindBy x1) v_newWorlds v_newFrom v_newLast v_newP v_newQ h_newArrows v_wanted v_many h_to v_pNow v_qNow h_holds h_apart v_seedNow v_keptFrame v_keptKind v_keptWorlds v_keptSeen h_keptArrows h_keptMarks h_keptWhat h_keptCan v_h), (h_newArrows, o_I cZ 16 v_newArrows)]) [0] [1] [1, 0] hP hD hS hA (va_runV (As := [.int 1, .int 1]) (rest := []) ⟨hx, hb, hml, hown, hts⟩ (k_X9_goes l D cB cI cJ cZ tL tK h_this h_arrows h_marks h_signAt h_behind h_seenWhat h_seenCan h_page h_newArrows h_to h_holds h_apart h_keptArrows h_keptMarks h_keptWhat h_keptCan _ v_kind v_worlds v_frames v_signs v_formulas v_failsTold v_tellsTold v_seen v_pageLength v_stage (f_X9_kindBy x1) v_newWorlds v_newFrom v_newLast v_newP v_newQ v_wanted v_many v_pNow v_qNow v_seedNow v_keptFrame v_keptKind v_keptWorlds v_keptSeen v_h 1 1 q91 hq91) (cwV 2 hts (k_gV m_263 m_260 m_261 m_262 m_5) rfl rfl rfl (by decide +kernel) ⟨Nat.le_of_ble_eq_true rfl, Nat.le_of_ble_eq_true rfl⟩) (k_preV [0] hK hN hZ hP hD hS hA rfl rfl (va_recv hK hP (ci := 8) (q0 := 0) rfl rfl)) rfl rfl hl.1 rfl (lv_room (Nat.le_of_ble_eq_true rfl)) dX9_takes_91 ⟨Nat.le_refl _, Nat.le_refl _⟩) rfl rfl rfl rfl rfl (fun H locs hP hD hS => ?_)
      obtain ⟨hbl, hf⟩ := k_bl_some hf
      cases hf
      exact k_zret hx hb hr (k_bn hbl) hlocks hAe hS hP hD dX9_takes_94
  · replace hf := k_ifF c21_0 hf
    by_cases c21_1 : v_stage = 1
    · replace hf := k_ifT c21_1 hf
      refine lv_tableIn (tgt := 95) hx hb dX9_takes_21 (by rw [c21_1]; decide) (by rw [c21_1]; decide) (by rw [c21_1]; rfl) (by decide) ?_
      refine lv_aload_n hx hb dX9_takes_95 rfl (lv_at hl 2 rfl) ?_
      refine lv_iload_n hx hb dX9_takes_96 rfl (lv_at hl 1 rfl) ?_
      refine va_put (D := D) (ci := 8) (v := .int (x1 - 48)) (ty := .int) (C := RX9) (T := TX9) (N := 41) hx hb hts inlX9 tyX9 tyX9_ok nmX9 hown hK hP hD hS 0 rfl rfl 18 (by decide) (hts _ m_247) (fun _ h9 => h9) rfl (by decide +kernel) rfl rfl (Nat.le_of_ble_eq_true rfl) dX9_takes_97 (fun H locs hP hD hS => ?_)
      have hP : va_P D vwCl [(h_this, o_X9 v_kind v_worlds h_arrows h_marks v_frames v_signs h_signAt h_behind v_formulas v_failsTold v_tellsTold v_seen h_seenWhat h_seenCan v_pageLength h_page v_stage v_newKind (x1 - 48) v_newFrom v_newLast v_newP v_newQ h_newArrows v_wanted v_many h_to v_pNow v_qNow h_holds h_apart v_seedNow v_keptFrame v_keptKind v_keptWorlds v_keptSeen h_keptArrows h_keptMarks h_keptWhat h_keptCan v_h), (h_newArrows, o_I cZ 16 v_newArrows)] H := hP
      have hD : va_D A [(h_this, o_X9 v_kind v_worlds h_arrows h_marks v_frames v_signs h_signAt h_behind v_formulas v_failsTold v_tellsTold v_seen h_seenWhat h_seenCan v_pageLength h_page v_stage v_newKind (x1 - 48) v_newFrom v_newLast v_newP v_newQ h_newArrows v_wanted v_many h_to v_pNow v_qNow h_holds h_apart v_seedNow v_keptFrame v_keptKind v_keptWorlds v_keptSeen h_keptArrows h_keptMarks h_keptWhat h_keptCan v_h), (h_newArrows, o_I cZ 16 v_newArrows)] := hD
      refine lv_aload_n hx hb dX9_takes_100 rfl (lv_at hl 2 rfl) ?_
      refine lv_iload_n hx hb dX9_takes_101 rfl (lv_at hl 1 rfl) ?_
      refine lv_iconst (v := 1) hx hb dX9_takes_102 (by decide) ?_
      refine lv_iconst (v := 4) hx hb dX9_takes_103 (by decide) ?_
      refine k_calli (wN := [(h_this, o_X9 v_kind v_worlds h_arrows h_marks v_frames v_signs h_signAt h_behind v_formulas v_failsTold v_tellsTold v_seen h_seenWhat h_seenCan v_pageLength h_page v_stage v_newKind (x1 - 48) v_newFrom v_newLast v_newP v_newQ h_newArrows v_wanted v_many h_to v_pNow v_qNow h_holds h_apart v_seedNow v_keptFrame v_keptKind v_keptWorlds v_keptSeen h_keptArrows h_keptMarks h_keptWhat h_keptCan v_h), (h_newArrows, o_I cZ 16 v_newArrows)]) [] [0, 1] [0, 1] hP hD hS hA (va_runS (As := [.int (x1 - 48), .int 1, .int 4]) (rest := [.ref h_this]) ⟨hx, hb, hml, hown, hts⟩ (k_X9_within l D cB cI cJ cZ tL tK _ (x1 - 48) 1 4 (f_X9_within (x1 - 48) 1 4) rfl) (va_cwS 3 hts (k_gS m_120 m_118 m_119 m_5) rfl rfl rfl (by decide +kernel) ⟨Nat.le_of_ble_eq_true rfl, Nat.le_of_ble_eq_true rfl⟩) (k_preS [] hK hN hZ hP hD hS hA rfl rfl) rfl rfl hl.1 rfl (lv_room (Nat.le_of_ble_eq_true rfl)) dX9_takes_104 ⟨Nat.le_refl _, Nat.le_refl _⟩) rfl rfl rfl rfl rfl (fun H locs hP hD hS => ?_)
      refine lv_iconst (v := 2) hx hb dX9_takes_107 (by decide) ?_
      obtain ⟨q108, hq108, hf⟩ := k_bind hf
      refine k_calli (wN := [(h_this, o_X9 v_kind v_worlds h_arrows h_marks v_frames v_signs h_signAt h_behind v_formulas v_failsTold v_tellsTold v_seen h_seenWhat h_seenCan v_pageLength h_page q108.2 v_newKind (x1 - 48) v_newFrom v_newLast v_newP v_newQ h_newArrows v_wanted v_many h_to v_pNow v_qNow h_holds h_apart v_seedNow v_keptFrame v_keptKind v_keptWorlds v_keptSeen h_keptArrows h_keptMarks h_keptWhat h_keptCan v_h), (h_newArrows, o_I cZ 16 v_newArrows)]) [0] [1] [1, 0] hP hD hS hA (va_runV (As := [.int (f_X9_within (x1 - 48) 1 4), .int 2]) (rest := []) ⟨hx, hb, hml, hown, hts⟩ (k_X9_goes l D cB cI cJ cZ tL tK h_this h_arrows h_marks h_signAt h_behind h_seenWhat h_seenCan h_page h_newArrows h_to h_holds h_apart h_keptArrows h_keptMarks h_keptWhat h_keptCan _ v_kind v_worlds v_frames v_signs v_formulas v_failsTold v_tellsTold v_seen v_pageLength v_stage v_newKind (x1 - 48) v_newFrom v_newLast v_newP v_newQ v_wanted v_many v_pNow v_qNow v_seedNow v_keptFrame v_keptKind v_keptWorlds v_keptSeen v_h (f_X9_within (x1 - 48) 1 4) 2 q108 hq108) (cwV 2 hts (k_gV m_263 m_260 m_261 m_262 m_5) rfl rfl rfl (by decide +kernel) ⟨Nat.le_of_ble_eq_true rfl, Nat.le_of_ble_eq_true rfl⟩) (k_preV [0] hK hN hZ hP hD hS hA rfl rfl (va_recv hK hP (ci := 8) (q0 := 0) rfl rfl)) rfl rfl hl.1 rfl (lv_room (Nat.le_of_ble_eq_true rfl)) dX9_takes_108 ⟨Nat.le_refl _, Nat.le_refl _⟩) rfl rfl rfl rfl rfl (fun H locs hP hD hS => ?_)
      obtain ⟨hbl, hf⟩ := k_bl_some hf
      cases hf
      exact k_zret hx hb hr (k_bn hbl) hlocks hAe hS hP hD dX9_takes_111
    · replace hf := k_ifF c21_1 hf
      by_cases c21_2 : v_stage = 2
      · replace hf := k_ifT c21_2 hf
        refine lv_tableIn (tgt := 112) hx hb dX9_takes_21 (by rw [c21_2]; decide) (by rw [c21_2]; decide) (by rw [c21_2]; rfl) (by decide) ?_
        refine lv_aload_n hx hb dX9_takes_112 rfl (lv_at hl 2 rfl) ?_
        refine lv_iload_n hx hb dX9_takes_113 rfl (lv_at hl 3 rfl) ?_
        refine lv_bipush (v := 58) hx hb dX9_takes_114 (by decide) ?_
        refine lv_icmp_ne (tgt := 123) hx hb dX9_takes_116 (by decide) (fun c116 => ?_) (fun c116 => ?_)
        · replace hf := k_ifF c116 hf
          refine lv_iconst (v := 0) hx hb dX9_takes_123 (by decide) ?_
          refine lv_iconst (v := 3) hx hb dX9_takes_124 (by decide) ?_
          obtain ⟨q125, hq125, hf⟩ := k_bind hf
          refine k_calli (wN := [(h_this, o_X9 v_kind v_worlds h_arrows h_marks v_frames v_signs h_signAt h_behind v_formulas v_failsTold v_tellsTold v_seen h_seenWhat h_seenCan v_pageLength h_page q125.2 v_newKind v_newWorlds v_newFrom v_newLast v_newP v_newQ h_newArrows v_wanted v_many h_to v_pNow v_qNow h_holds h_apart v_seedNow v_keptFrame v_keptKind v_keptWorlds v_keptSeen h_keptArrows h_keptMarks h_keptWhat h_keptCan v_h), (h_newArrows, o_I cZ 16 v_newArrows)]) [0] [1] [1, 0] hP hD hS hA (va_runV (As := [.int 0, .int 3]) (rest := []) ⟨hx, hb, hml, hown, hts⟩ (k_X9_goes l D cB cI cJ cZ tL tK h_this h_arrows h_marks h_signAt h_behind h_seenWhat h_seenCan h_page h_newArrows h_to h_holds h_apart h_keptArrows h_keptMarks h_keptWhat h_keptCan _ v_kind v_worlds v_frames v_signs v_formulas v_failsTold v_tellsTold v_seen v_pageLength v_stage v_newKind v_newWorlds v_newFrom v_newLast v_newP v_newQ v_wanted v_many v_pNow v_qNow v_seedNow v_keptFrame v_keptKind v_keptWorlds v_keptSeen v_h 0 3 q125 hq125) (cwV 2 hts (k_gV m_263 m_260 m_261 m_262 m_5) rfl rfl rfl (by decide +kernel) ⟨Nat.le_of_ble_eq_true rfl, Nat.le_of_ble_eq_true rfl⟩) (k_preV [0] hK hN hZ hP hD hS hA rfl rfl (va_recv hK hP (ci := 8) (q0 := 0) rfl rfl)) rfl rfl hl.1 rfl (lv_room (Nat.le_of_ble_eq_true rfl)) dX9_takes_125 ⟨Nat.le_refl _, Nat.le_refl _⟩) rfl rfl rfl rfl rfl (fun H locs hP hD hS => ?_)
          obtain ⟨hbl, hf⟩ := k_bl_some hf
          cases hf
          exact k_zret hx hb hr (k_bn hbl) hlocks hAe hS hP hD dX9_takes_128
        · replace hf := k_ifT c116 hf
          refine lv_iconst (v := 1) hx hb dX9_takes_119 (by decide) ?_
          refine lv_goto (tgt := 124) hx hb dX9_takes_120 (by decide) ?_
          refine lv_iconst (v := 3) hx hb dX9_takes_124 (by decide) ?_
          obtain ⟨q125, hq125, hf⟩ := k_bind hf
          refine k_calli (wN := [(h_this, o_X9 v_kind v_worlds h_arrows h_marks v_frames v_signs h_signAt h_behind v_formulas v_failsTold v_tellsTold v_seen h_seenWhat h_seenCan v_pageLength h_page q125.2 v_newKind v_newWorlds v_newFrom v_newLast v_newP v_newQ h_newArrows v_wanted v_many h_to v_pNow v_qNow h_holds h_apart v_seedNow v_keptFrame v_keptKind v_keptWorlds v_keptSeen h_keptArrows h_keptMarks h_keptWhat h_keptCan v_h), (h_newArrows, o_I cZ 16 v_newArrows)]) [0] [1] [1, 0] hP hD hS hA (va_runV (As := [.int 1, .int 3]) (rest := []) ⟨hx, hb, hml, hown, hts⟩ (k_X9_goes l D cB cI cJ cZ tL tK h_this h_arrows h_marks h_signAt h_behind h_seenWhat h_seenCan h_page h_newArrows h_to h_holds h_apart h_keptArrows h_keptMarks h_keptWhat h_keptCan _ v_kind v_worlds v_frames v_signs v_formulas v_failsTold v_tellsTold v_seen v_pageLength v_stage v_newKind v_newWorlds v_newFrom v_newLast v_newP v_newQ v_wanted v_many v_pNow v_qNow v_seedNow v_keptFrame v_keptKind v_keptWorlds v_keptSeen v_h 1 3 q125 hq125) (cwV 2 hts (k_gV m_263 m_260 m_261 m_262 m_5) rfl rfl rfl (by decide +kernel) ⟨Nat.le_of_ble_eq_true rfl, Nat.le_of_ble_eq_true rfl⟩) (k_preV [0] hK hN hZ hP hD hS hA rfl rfl (va_recv hK hP (ci := 8) (q0 := 0) rfl rfl)) rfl rfl hl.1 rfl (lv_room (Nat.le_of_ble_eq_true rfl)) dX9_takes_125 ⟨Nat.le_refl _, Nat.le_refl _⟩) rfl rfl rfl rfl rfl (fun H locs hP hD hS => ?_)
          obtain ⟨hbl, hf⟩ := k_bl_some hf
          cases hf
          exact k_zret hx hb hr (k_bn hbl) hlocks hAe hS hP hD dX9_takes_128
      · replace hf := k_ifF c21_2 hf
        by_cases c21_3 : v_stage = 3
        · replace hf := k_ifT c21_3 hf
          refine lv_tableIn (tgt := 129) hx hb dX9_takes_21 (by rw [c21_3]; decide) (by rw [c21_3]; decide) (by rw [c21_3]; rfl) (by decide) ?_
          refine lv_aload_n hx hb dX9_takes_129 rfl (lv_at hl 2 rfl) ?_
          refine lv_iload_n hx hb dX9_takes_130 rfl (lv_at hl 1 rfl) ?_
          refine va_put (D := D) (ci := 8) (v := .int (x1 - 48)) (ty := .int) (C := RX9) (T := TX9) (N := 41) hx hb hts inlX9 tyX9 tyX9_ok nmX9 hown hK hP hD hS 0 rfl rfl 19 (by decide) (hts _ m_256) (fun _ h9 => h9) rfl (by decide +kernel) rfl rfl (Nat.le_of_ble_eq_true rfl) dX9_takes_131 (fun H locs hP hD hS => ?_)
          have hP : va_P D vwCl [(h_this, o_X9 v_kind v_worlds h_arrows h_marks v_frames v_signs h_signAt h_behind v_formulas v_failsTold v_tellsTold v_seen h_seenWhat h_seenCan v_pageLength h_page v_stage v_newKind v_newWorlds (x1 - 48) v_newLast v_newP v_newQ h_newArrows v_wanted v_many h_to v_pNow v_qNow h_holds h_apart v_seedNow v_keptFrame v_keptKind v_keptWorlds v_keptSeen h_keptArrows h_keptMarks h_keptWhat h_keptCan v_h), (h_newArrows, o_I cZ 16 v_newArrows)] H := hP
          have hD : va_D A [(h_this, o_X9 v_kind v_worlds h_arrows h_marks v_frames v_signs h_signAt h_behind v_formulas v_failsTold v_tellsTold v_seen h_seenWhat h_seenCan v_pageLength h_page v_stage v_newKind v_newWorlds (x1 - 48) v_newLast v_newP v_newQ h_newArrows v_wanted v_many h_to v_pNow v_qNow h_holds h_apart v_seedNow v_keptFrame v_keptKind v_keptWorlds v_keptSeen h_keptArrows h_keptMarks h_keptWhat h_keptCan v_h), (h_newArrows, o_I cZ 16 v_newArrows)] := hD
          refine lv_iload_n hx hb dX9_takes_134 rfl (lv_at hl 3 rfl) ?_
          refine lv_bipush (v := 59) hx hb dX9_takes_135 (by decide) ?_
          refine lv_icmp_ne (tgt := 150) hx hb dX9_takes_137 (by decide) (fun c137 => ?_) (fun c137 => ?_)
          · replace hf := k_ifF c137 hf
            refine lv_aload_n hx hb dX9_takes_150 rfl (lv_at hl 2 rfl) ?_
            refine lv_iload_n hx hb dX9_takes_151 rfl (lv_at hl 0 rfl) ?_
            refine lv_iconst (v := 4) hx hb dX9_takes_152 (by decide) ?_
            obtain ⟨q153, hq153, hf⟩ := k_bind hf
            refine k_calli (wN := [(h_this, o_X9 v_kind v_worlds h_arrows h_marks v_frames v_signs h_signAt h_behind v_formulas v_failsTold v_tellsTold v_seen h_seenWhat h_seenCan v_pageLength h_page q153.2 v_newKind v_newWorlds (x1 - 48) v_newLast v_newP v_newQ h_newArrows v_wanted v_many h_to v_pNow v_qNow h_holds h_apart v_seedNow v_keptFrame v_keptKind v_keptWorlds v_keptSeen h_keptArrows h_keptMarks h_keptWhat h_keptCan v_h), (h_newArrows, o_I cZ 16 v_newArrows)]) [0] [1] [1, 0] hP hD hS hA (va_runV (As := [.int (f_X9_within (x1 - 48) 0 (v_newWorlds - 1)), .int 4]) (rest := []) ⟨hx, hb, hml, hown, hts⟩ (k_X9_goes l D cB cI cJ cZ tL tK h_this h_arrows h_marks h_signAt h_behind h_seenWhat h_seenCan h_page h_newArrows h_to h_holds h_apart h_keptArrows h_keptMarks h_keptWhat h_keptCan _ v_kind v_worlds v_frames v_signs v_formulas v_failsTold v_tellsTold v_seen v_pageLength v_stage v_newKind v_newWorlds (x1 - 48) v_newLast v_newP v_newQ v_wanted v_many v_pNow v_qNow v_seedNow v_keptFrame v_keptKind v_keptWorlds v_keptSeen v_h (f_X9_within (x1 - 48) 0 (v_newWorlds - 1)) 4 q153 hq153) (cwV 2 hts (k_gV m_263 m_260 m_261 m_262 m_5) rfl rfl rfl (by decide +kernel) ⟨Nat.le_of_ble_eq_true rfl, Nat.le_of_ble_eq_true rfl⟩) (k_preV [0] hK hN hZ hP hD hS hA rfl rfl (va_recv hK hP (ci := 8) (q0 := 0) rfl rfl)) rfl rfl hl.1 rfl (lv_room (Nat.le_of_ble_eq_true rfl)) dX9_takes_153 ⟨Nat.le_refl _, Nat.le_refl _⟩) rfl rfl rfl rfl rfl (fun H locs hP hD hS => ?_)
            obtain ⟨hbl, hf⟩ := k_bl_some hf
            cases hf
            exact k_zret hx hb hr (k_bn hbl) hlocks hAe hS hP hD dX9_takes_156
          · replace hf := k_ifT c137 hf
            refine lv_aload_n hx hb dX9_takes_140 rfl (lv_at hl 2 rfl) ?_
            refine lv_iconst (v := 1) hx hb dX9_takes_141 (by decide) ?_
            refine lv_bipush (v := 7) hx hb dX9_takes_142 (by decide) ?_
            obtain ⟨q144, hq144, hf⟩ := k_bind hf
            refine k_calli (wN := [(h_this, o_X9 v_kind v_worlds h_arrows h_marks v_frames v_signs h_signAt h_behind v_formulas v_failsTold v_tellsTold v_seen h_seenWhat h_seenCan v_pageLength h_page q144.2 v_newKind v_newWorlds (x1 - 48) v_newLast v_newP v_newQ h_newArrows v_wanted v_many h_to v_pNow v_qNow h_holds h_apart v_seedNow v_keptFrame v_keptKind v_keptWorlds v_keptSeen h_keptArrows h_keptMarks h_keptWhat h_keptCan v_h), (h_newArrows, o_I cZ 16 v_newArrows)]) [0] [1] [1, 0] hP hD hS hA (va_runV (As := [.int 1, .int 7]) (rest := []) ⟨hx, hb, hml, hown, hts⟩ (k_X9_goes l D cB cI cJ cZ tL tK h_this h_arrows h_marks h_signAt h_behind h_seenWhat h_seenCan h_page h_newArrows h_to h_holds h_apart h_keptArrows h_keptMarks h_keptWhat h_keptCan _ v_kind v_worlds v_frames v_signs v_formulas v_failsTold v_tellsTold v_seen v_pageLength v_stage v_newKind v_newWorlds (x1 - 48) v_newLast v_newP v_newQ v_wanted v_many v_pNow v_qNow v_seedNow v_keptFrame v_keptKind v_keptWorlds v_keptSeen v_h 1 7 q144 hq144) (cwV 2 hts (k_gV m_263 m_260 m_261 m_262 m_5) rfl rfl rfl (by decide +kernel) ⟨Nat.le_of_ble_eq_true rfl, Nat.le_of_ble_eq_true rfl⟩) (k_preV [0] hK hN hZ hP hD hS hA rfl rfl (va_recv hK hP (ci := 8) (q0 := 0) rfl rfl)) rfl rfl hl.1 rfl (lv_room (Nat.le_of_ble_eq_true rfl)) dX9_takes_144 ⟨Nat.le_refl _, Nat.le_refl _⟩) rfl rfl rfl rfl rfl (fun H locs hP hD hS => ?_)
            refine lv_goto (tgt := 156) hx hb dX9_takes_147 (by decide) ?_
            obtain ⟨hbl, hf⟩ := k_bl_some hf
            cases hf
            exact k_zret hx hb hr (k_bn hbl) hlocks hAe hS hP hD dX9_takes_156
        · replace hf := k_ifF c21_3 hf
          by_cases c21_4 : v_stage = 4
          · replace hf := k_ifT c21_4 hf
            refine lv_tableIn (tgt := 157) hx hb dX9_takes_21 (by rw [c21_4]; decide) (by rw [c21_4]; decide) (by rw [c21_4]; rfl) (by decide) ?_
            refine lv_aload_n hx hb dX9_takes_157 rfl (lv_at hl 2 rfl) ?_
            refine lv_iload_n hx hb dX9_takes_158 rfl (lv_at hl 0 rfl) ?_
            refine lv_iload_n hx hb dX9_takes_159 rfl (lv_at hl 1 rfl) ?_
            obtain ⟨q160, hq160, hf⟩ := k_bind hf
            refine k_calli (wN := [(h_this, o_X9 v_kind v_worlds h_arrows h_marks v_frames v_signs h_signAt h_behind v_formulas v_failsTold v_tellsTold v_seen h_seenWhat h_seenCan v_pageLength h_page q160.2.1 v_newKind v_newWorlds v_newFrom v_newLast v_newP v_newQ h_newArrows v_wanted v_many h_to v_pNow v_qNow h_holds h_apart v_seedNow v_keptFrame v_keptKind v_keptWorlds v_keptSeen h_keptArrows h_keptMarks h_keptWhat h_keptCan v_h), (h_newArrows, o_I cZ 16 q160.2.2)]) [0, 1] [] [0, 1] hP hD hS hA (va_runV (As := [.int (f_X9_within (x1 - 48) 0 (v_newWorlds - 1)), .int (x1 - 48)]) (rest := []) ⟨hx, hb, hml, hown, hts⟩ (k_X9_takesArrow l D cB cI cJ cZ tL tK h_this h_arrows h_marks h_signAt h_behind h_seenWhat h_seenCan h_page h_newArrows h_to h_holds h_apart h_keptArrows h_keptMarks h_keptWhat h_keptCan _ v_kind v_worlds v_frames v_signs v_formulas v_failsTold v_tellsTold v_seen v_pageLength v_stage v_newKind v_newWorlds v_newFrom v_newLast v_newP v_newQ v_wanted v_many v_pNow v_qNow v_seedNow v_keptFrame v_keptKind v_keptWorlds v_keptSeen v_h v_newArrows (f_X9_within (x1 - 48) 0 (v_newWorlds - 1)) (x1 - 48) q160 hq160) (cwV 2 hts (k_gV m_267 m_264 m_265 m_266 m_5) rfl rfl rfl (by decide +kernel) ⟨Nat.le_of_ble_eq_true rfl, Nat.le_of_ble_eq_true rfl⟩) (k_preV [0, 1] hK hN hZ hP hD hS hA rfl rfl (va_recv hK hP (ci := 8) (q0 := 0) rfl rfl)) rfl rfl hl.1 rfl (lv_room (Nat.le_of_ble_eq_true rfl)) dX9_takes_160 ⟨Nat.le_refl _, Nat.le_refl _⟩) rfl rfl rfl rfl rfl (fun H locs hP hD hS => ?_)
            obtain ⟨hbl, hf⟩ := k_bl_some hf
            cases hf
            exact k_zret hx hb hr (k_bn hbl) hlocks hAe hS hP hD dX9_takes_163
          · replace hf := k_ifF c21_4 hf
            by_cases c21_5 : v_stage = 5
            · replace hf := k_ifT c21_5 hf
              refine lv_tableIn (tgt := 164) hx hb dX9_takes_21 (by rw [c21_5]; decide) (by rw [c21_5]; decide) (by rw [c21_5]; rfl) (by decide) ?_
              refine lv_iload_n hx hb dX9_takes_164 rfl (lv_at hl 3 rfl) ?_
              refine lv_bipush (v := 59) hx hb dX9_takes_165 (by decide) ?_
              refine lv_icmp_ne (tgt := 180) hx hb dX9_takes_167 (by decide) (fun c167 => ?_) (fun c167 => ?_)
              · replace hf := k_ifF c167 hf
                refine lv_aload_n hx hb dX9_takes_180 rfl (lv_at hl 2 rfl) ?_
                refine lv_iload_n hx hb dX9_takes_181 rfl (lv_at hl 3 rfl) ?_
                refine lv_bipush (v := 44) hx hb dX9_takes_182 (by decide) ?_
                refine lv_icmp_ne (tgt := 191) hx hb dX9_takes_184 (by decide) (fun c184 => ?_) (fun c184 => ?_)
                · replace hf := k_ifF c184 hf
                  refine lv_iconst (v := 0) hx hb dX9_takes_191 (by decide) ?_
                  refine lv_bipush (v := 6) hx hb dX9_takes_192 (by decide) ?_
                  obtain ⟨q194, hq194, hf⟩ := k_bind hf
                  refine k_calli (wN := [(h_this, o_X9 v_kind v_worlds h_arrows h_marks v_frames v_signs h_signAt h_behind v_formulas v_failsTold v_tellsTold v_seen h_seenWhat h_seenCan v_pageLength h_page q194.2 v_newKind v_newWorlds v_newFrom v_newLast v_newP v_newQ h_newArrows v_wanted v_many h_to v_pNow v_qNow h_holds h_apart v_seedNow v_keptFrame v_keptKind v_keptWorlds v_keptSeen h_keptArrows h_keptMarks h_keptWhat h_keptCan v_h), (h_newArrows, o_I cZ 16 v_newArrows)]) [0] [1] [1, 0] hP hD hS hA (va_runV (As := [.int 0, .int 6]) (rest := []) ⟨hx, hb, hml, hown, hts⟩ (k_X9_goes l D cB cI cJ cZ tL tK h_this h_arrows h_marks h_signAt h_behind h_seenWhat h_seenCan h_page h_newArrows h_to h_holds h_apart h_keptArrows h_keptMarks h_keptWhat h_keptCan _ v_kind v_worlds v_frames v_signs v_formulas v_failsTold v_tellsTold v_seen v_pageLength v_stage v_newKind v_newWorlds v_newFrom v_newLast v_newP v_newQ v_wanted v_many v_pNow v_qNow v_seedNow v_keptFrame v_keptKind v_keptWorlds v_keptSeen v_h 0 6 q194 hq194) (cwV 2 hts (k_gV m_263 m_260 m_261 m_262 m_5) rfl rfl rfl (by decide +kernel) ⟨Nat.le_of_ble_eq_true rfl, Nat.le_of_ble_eq_true rfl⟩) (k_preV [0] hK hN hZ hP hD hS hA rfl rfl (va_recv hK hP (ci := 8) (q0 := 0) rfl rfl)) rfl rfl hl.1 rfl (lv_room (Nat.le_of_ble_eq_true rfl)) dX9_takes_194 ⟨Nat.le_refl _, Nat.le_refl _⟩) rfl rfl rfl rfl rfl (fun H locs hP hD hS => ?_)
                  obtain ⟨hbl, hf⟩ := k_bl_some hf
                  cases hf
                  exact k_zret hx hb hr (k_bn hbl) hlocks hAe hS hP hD dX9_takes_197
                · replace hf := k_ifT c184 hf
                  refine lv_iconst (v := 1) hx hb dX9_takes_187 (by decide) ?_
                  refine lv_goto (tgt := 192) hx hb dX9_takes_188 (by decide) ?_
                  refine lv_bipush (v := 6) hx hb dX9_takes_192 (by decide) ?_
                  obtain ⟨q194, hq194, hf⟩ := k_bind hf
                  refine k_calli (wN := [(h_this, o_X9 v_kind v_worlds h_arrows h_marks v_frames v_signs h_signAt h_behind v_formulas v_failsTold v_tellsTold v_seen h_seenWhat h_seenCan v_pageLength h_page q194.2 v_newKind v_newWorlds v_newFrom v_newLast v_newP v_newQ h_newArrows v_wanted v_many h_to v_pNow v_qNow h_holds h_apart v_seedNow v_keptFrame v_keptKind v_keptWorlds v_keptSeen h_keptArrows h_keptMarks h_keptWhat h_keptCan v_h), (h_newArrows, o_I cZ 16 v_newArrows)]) [0] [1] [1, 0] hP hD hS hA (va_runV (As := [.int 1, .int 6]) (rest := []) ⟨hx, hb, hml, hown, hts⟩ (k_X9_goes l D cB cI cJ cZ tL tK h_this h_arrows h_marks h_signAt h_behind h_seenWhat h_seenCan h_page h_newArrows h_to h_holds h_apart h_keptArrows h_keptMarks h_keptWhat h_keptCan _ v_kind v_worlds v_frames v_signs v_formulas v_failsTold v_tellsTold v_seen v_pageLength v_stage v_newKind v_newWorlds v_newFrom v_newLast v_newP v_newQ v_wanted v_many v_pNow v_qNow v_seedNow v_keptFrame v_keptKind v_keptWorlds v_keptSeen v_h 1 6 q194 hq194) (cwV 2 hts (k_gV m_263 m_260 m_261 m_262 m_5) rfl rfl rfl (by decide +kernel) ⟨Nat.le_of_ble_eq_true rfl, Nat.le_of_ble_eq_true rfl⟩) (k_preV [0] hK hN hZ hP hD hS hA rfl rfl (va_recv hK hP (ci := 8) (q0 := 0) rfl rfl)) rfl rfl hl.1 rfl (lv_room (Nat.le_of_ble_eq_true rfl)) dX9_takes_194 ⟨Nat.le_refl _, Nat.le_refl _⟩) rfl rfl rfl rfl rfl (fun H locs hP hD hS => ?_)
                  obtain ⟨hbl, hf⟩ := k_bl_some hf
                  cases hf
                  exact k_zret hx hb hr (k_bn hbl) hlocks hAe hS hP hD dX9_takes_197
              · replace hf := k_ifT c167 hf
                refine lv_aload_n hx hb dX9_takes_170 rfl (lv_at hl 2 rfl) ?_
                refine lv_iconst (v := 1) hx hb dX9_takes_171 (by decide) ?_
                refine lv_bipush (v := 7) hx hb dX9_takes_172 (by decide) ?_
                obtain ⟨q174, hq174, hf⟩ := k_bind hf
                refine k_calli (wN := [(h_this, o_X9 v_kind v_worlds h_arrows h_marks v_frames v_signs h_signAt h_behind v_formulas v_failsTold v_tellsTold v_seen h_seenWhat h_seenCan v_pageLength h_page q174.2 v_newKind v_newWorlds v_newFrom v_newLast v_newP v_newQ h_newArrows v_wanted v_many h_to v_pNow v_qNow h_holds h_apart v_seedNow v_keptFrame v_keptKind v_keptWorlds v_keptSeen h_keptArrows h_keptMarks h_keptWhat h_keptCan v_h), (h_newArrows, o_I cZ 16 v_newArrows)]) [0] [1] [1, 0] hP hD hS hA (va_runV (As := [.int 1, .int 7]) (rest := []) ⟨hx, hb, hml, hown, hts⟩ (k_X9_goes l D cB cI cJ cZ tL tK h_this h_arrows h_marks h_signAt h_behind h_seenWhat h_seenCan h_page h_newArrows h_to h_holds h_apart h_keptArrows h_keptMarks h_keptWhat h_keptCan _ v_kind v_worlds v_frames v_signs v_formulas v_failsTold v_tellsTold v_seen v_pageLength v_stage v_newKind v_newWorlds v_newFrom v_newLast v_newP v_newQ v_wanted v_many v_pNow v_qNow v_seedNow v_keptFrame v_keptKind v_keptWorlds v_keptSeen v_h 1 7 q174 hq174) (cwV 2 hts (k_gV m_263 m_260 m_261 m_262 m_5) rfl rfl rfl (by decide +kernel) ⟨Nat.le_of_ble_eq_true rfl, Nat.le_of_ble_eq_true rfl⟩) (k_preV [0] hK hN hZ hP hD hS hA rfl rfl (va_recv hK hP (ci := 8) (q0 := 0) rfl rfl)) rfl rfl hl.1 rfl (lv_room (Nat.le_of_ble_eq_true rfl)) dX9_takes_174 ⟨Nat.le_refl _, Nat.le_refl _⟩) rfl rfl rfl rfl rfl (fun H locs hP hD hS => ?_)
                refine lv_goto (tgt := 197) hx hb dX9_takes_177 (by decide) ?_
                obtain ⟨hbl, hf⟩ := k_bl_some hf
                cases hf
                exact k_zret hx hb hr (k_bn hbl) hlocks hAe hS hP hD dX9_takes_197
            · replace hf := k_ifF c21_5 hf
              by_cases c21_6 : v_stage = 6
              · replace hf := k_ifT c21_6 hf
                refine lv_tableIn (tgt := 198) hx hb dX9_takes_21 (by rw [c21_6]; decide) (by rw [c21_6]; decide) (by rw [c21_6]; rfl) (by decide) ?_
                refine lv_aload_n hx hb dX9_takes_198 rfl (lv_at hl 2 rfl) ?_
                refine lv_iload_n hx hb dX9_takes_199 rfl (lv_at hl 1 rfl) ?_
                refine va_put (D := D) (ci := 8) (v := .int (x1 - 48)) (ty := .int) (C := RX9) (T := TX9) (N := 41) hx hb hts inlX9 tyX9 tyX9_ok nmX9 hown hK hP hD hS 0 rfl rfl 19 (by decide) (hts _ m_256) (fun _ h9 => h9) rfl (by decide +kernel) rfl rfl (Nat.le_of_ble_eq_true rfl) dX9_takes_200 (fun H locs hP hD hS => ?_)
                have hP : va_P D vwCl [(h_this, o_X9 v_kind v_worlds h_arrows h_marks v_frames v_signs h_signAt h_behind v_formulas v_failsTold v_tellsTold v_seen h_seenWhat h_seenCan v_pageLength h_page v_stage v_newKind v_newWorlds (x1 - 48) v_newLast v_newP v_newQ h_newArrows v_wanted v_many h_to v_pNow v_qNow h_holds h_apart v_seedNow v_keptFrame v_keptKind v_keptWorlds v_keptSeen h_keptArrows h_keptMarks h_keptWhat h_keptCan v_h), (h_newArrows, o_I cZ 16 v_newArrows)] H := hP
                have hD : va_D A [(h_this, o_X9 v_kind v_worlds h_arrows h_marks v_frames v_signs h_signAt h_behind v_formulas v_failsTold v_tellsTold v_seen h_seenWhat h_seenCan v_pageLength h_page v_stage v_newKind v_newWorlds (x1 - 48) v_newLast v_newP v_newQ h_newArrows v_wanted v_many h_to v_pNow v_qNow h_holds h_apart v_seedNow v_keptFrame v_keptKind v_keptWorlds v_keptSeen h_keptArrows h_keptMarks h_keptWhat h_keptCan v_h), (h_newArrows, o_I cZ 16 v_newArrows)] := hD
                refine lv_aload_n hx hb dX9_takes_203 rfl (lv_at hl 2 rfl) ?_
                refine lv_iload_n hx hb dX9_takes_204 rfl (lv_at hl 0 rfl) ?_
                refine lv_iconst (v := 4) hx hb dX9_takes_205 (by decide) ?_
                obtain ⟨q206, hq206, hf⟩ := k_bind hf
                refine k_calli (wN := [(h_this, o_X9 v_kind v_worlds h_arrows h_marks v_frames v_signs h_signAt h_behind v_formulas v_failsTold v_tellsTold v_seen h_seenWhat h_seenCan v_pageLength h_page q206.2 v_newKind v_newWorlds (x1 - 48) v_newLast v_newP v_newQ h_newArrows v_wanted v_many h_to v_pNow v_qNow h_holds h_apart v_seedNow v_keptFrame v_keptKind v_keptWorlds v_keptSeen h_keptArrows h_keptMarks h_keptWhat h_keptCan v_h), (h_newArrows, o_I cZ 16 v_newArrows)]) [0] [1] [1, 0] hP hD hS hA (va_runV (As := [.int (f_X9_within (x1 - 48) 0 (v_newWorlds - 1)), .int 4]) (rest := []) ⟨hx, hb, hml, hown, hts⟩ (k_X9_goes l D cB cI cJ cZ tL tK h_this h_arrows h_marks h_signAt h_behind h_seenWhat h_seenCan h_page h_newArrows h_to h_holds h_apart h_keptArrows h_keptMarks h_keptWhat h_keptCan _ v_kind v_worlds v_frames v_signs v_formulas v_failsTold v_tellsTold v_seen v_pageLength v_stage v_newKind v_newWorlds (x1 - 48) v_newLast v_newP v_newQ v_wanted v_many v_pNow v_qNow v_seedNow v_keptFrame v_keptKind v_keptWorlds v_keptSeen v_h (f_X9_within (x1 - 48) 0 (v_newWorlds - 1)) 4 q206 hq206) (cwV 2 hts (k_gV m_263 m_260 m_261 m_262 m_5) rfl rfl rfl (by decide +kernel) ⟨Nat.le_of_ble_eq_true rfl, Nat.le_of_ble_eq_true rfl⟩) (k_preV [0] hK hN hZ hP hD hS hA rfl rfl (va_recv hK hP (ci := 8) (q0 := 0) rfl rfl)) rfl rfl hl.1 rfl (lv_room (Nat.le_of_ble_eq_true rfl)) dX9_takes_206 ⟨Nat.le_refl _, Nat.le_refl _⟩) rfl rfl rfl rfl rfl (fun H locs hP hD hS => ?_)
                obtain ⟨hbl, hf⟩ := k_bl_some hf
                cases hf
                exact k_zret hx hb hr (k_bn hbl) hlocks hAe hS hP hD dX9_takes_209
              · replace hf := k_ifF c21_6 hf
                by_cases c21_7 : v_stage = 7
                · replace hf := k_ifT c21_7 hf
                  refine lv_tableIn (tgt := 210) hx hb dX9_takes_21 (by rw [c21_7]; decide) (by rw [c21_7]; decide) (by rw [c21_7]; rfl) (by decide) ?_
                  refine lv_aload_n hx hb dX9_takes_210 rfl (lv_at hl 2 rfl) ?_
                  refine lv_iload_n hx hb dX9_takes_211 rfl (lv_at hl 3 rfl) ?_
                  refine lv_bipush (v := 112) hx hb dX9_takes_212 (by decide) ?_
                  refine lv_icmp_ne (tgt := 221) hx hb dX9_takes_214 (by decide) (fun c214 => ?_) (fun c214 => ?_)
                  · replace hf := k_ifF c214 hf
                    refine lv_iconst (v := 0) hx hb dX9_takes_221 (by decide) ?_
                    refine lv_bipush (v := 8) hx hb dX9_takes_222 (by decide) ?_
                    obtain ⟨q224, hq224, hf⟩ := k_bind hf
                    refine k_calli (wN := [(h_this, o_X9 v_kind v_worlds h_arrows h_marks v_frames v_signs h_signAt h_behind v_formulas v_failsTold v_tellsTold v_seen h_seenWhat h_seenCan v_pageLength h_page q224.2 v_newKind v_newWorlds v_newFrom v_newLast v_newP v_newQ h_newArrows v_wanted v_many h_to v_pNow v_qNow h_holds h_apart v_seedNow v_keptFrame v_keptKind v_keptWorlds v_keptSeen h_keptArrows h_keptMarks h_keptWhat h_keptCan v_h), (h_newArrows, o_I cZ 16 v_newArrows)]) [0] [1] [1, 0] hP hD hS hA (va_runV (As := [.int 0, .int 8]) (rest := []) ⟨hx, hb, hml, hown, hts⟩ (k_X9_goes l D cB cI cJ cZ tL tK h_this h_arrows h_marks h_signAt h_behind h_seenWhat h_seenCan h_page h_newArrows h_to h_holds h_apart h_keptArrows h_keptMarks h_keptWhat h_keptCan _ v_kind v_worlds v_frames v_signs v_formulas v_failsTold v_tellsTold v_seen v_pageLength v_stage v_newKind v_newWorlds v_newFrom v_newLast v_newP v_newQ v_wanted v_many v_pNow v_qNow v_seedNow v_keptFrame v_keptKind v_keptWorlds v_keptSeen v_h 0 8 q224 hq224) (cwV 2 hts (k_gV m_263 m_260 m_261 m_262 m_5) rfl rfl rfl (by decide +kernel) ⟨Nat.le_of_ble_eq_true rfl, Nat.le_of_ble_eq_true rfl⟩) (k_preV [0] hK hN hZ hP hD hS hA rfl rfl (va_recv hK hP (ci := 8) (q0 := 0) rfl rfl)) rfl rfl hl.1 rfl (lv_room (Nat.le_of_ble_eq_true rfl)) dX9_takes_224 ⟨Nat.le_refl _, Nat.le_refl _⟩) rfl rfl rfl rfl rfl (fun H locs hP hD hS => ?_)
                    obtain ⟨hbl, hf⟩ := k_bl_some hf
                    cases hf
                    exact k_zret hx hb hr (k_bn hbl) hlocks hAe hS hP hD dX9_takes_227
                  · replace hf := k_ifT c214 hf
                    refine lv_iconst (v := 1) hx hb dX9_takes_217 (by decide) ?_
                    refine lv_goto (tgt := 222) hx hb dX9_takes_218 (by decide) ?_
                    refine lv_bipush (v := 8) hx hb dX9_takes_222 (by decide) ?_
                    obtain ⟨q224, hq224, hf⟩ := k_bind hf
                    refine k_calli (wN := [(h_this, o_X9 v_kind v_worlds h_arrows h_marks v_frames v_signs h_signAt h_behind v_formulas v_failsTold v_tellsTold v_seen h_seenWhat h_seenCan v_pageLength h_page q224.2 v_newKind v_newWorlds v_newFrom v_newLast v_newP v_newQ h_newArrows v_wanted v_many h_to v_pNow v_qNow h_holds h_apart v_seedNow v_keptFrame v_keptKind v_keptWorlds v_keptSeen h_keptArrows h_keptMarks h_keptWhat h_keptCan v_h), (h_newArrows, o_I cZ 16 v_newArrows)]) [0] [1] [1, 0] hP hD hS hA (va_runV (As := [.int 1, .int 8]) (rest := []) ⟨hx, hb, hml, hown, hts⟩ (k_X9_goes l D cB cI cJ cZ tL tK h_this h_arrows h_marks h_signAt h_behind h_seenWhat h_seenCan h_page h_newArrows h_to h_holds h_apart h_keptArrows h_keptMarks h_keptWhat h_keptCan _ v_kind v_worlds v_frames v_signs v_formulas v_failsTold v_tellsTold v_seen v_pageLength v_stage v_newKind v_newWorlds v_newFrom v_newLast v_newP v_newQ v_wanted v_many v_pNow v_qNow v_seedNow v_keptFrame v_keptKind v_keptWorlds v_keptSeen v_h 1 8 q224 hq224) (cwV 2 hts (k_gV m_263 m_260 m_261 m_262 m_5) rfl rfl rfl (by decide +kernel) ⟨Nat.le_of_ble_eq_true rfl, Nat.le_of_ble_eq_true rfl⟩) (k_preV [0] hK hN hZ hP hD hS hA rfl rfl (va_recv hK hP (ci := 8) (q0 := 0) rfl rfl)) rfl rfl hl.1 rfl (lv_room (Nat.le_of_ble_eq_true rfl)) dX9_takes_224 ⟨Nat.le_refl _, Nat.le_refl _⟩) rfl rfl rfl rfl rfl (fun H locs hP hD hS => ?_)
                    obtain ⟨hbl, hf⟩ := k_bl_some hf
                    cases hf
                    exact k_zret hx hb hr (k_bn hbl) hlocks hAe hS hP hD dX9_takes_227
                · replace hf := k_ifF c21_7 hf
                  refine lv_tableOut (tgt := 228) hx hb dX9_takes_21 (by have := lv_neT c21_0 (show (0 : Int32).toInt = 0 by decide); have := lv_neT c21_1 (show (1 : Int32).toInt = 1 by decide); have := lv_neT c21_2 (show (2 : Int32).toInt = 2 by decide); have := lv_neT c21_3 (show (3 : Int32).toInt = 3 by decide); have := lv_neT c21_4 (show (4 : Int32).toInt = 4 by decide); have := lv_neT c21_5 (show (5 : Int32).toInt = 5 by decide); have := lv_neT c21_6 (show (6 : Int32).toInt = 6 by decide); have := lv_neT c21_7 (show (7 : Int32).toInt = 7 by decide); omega) (by decide) ?_
                  refine lv_aload_n hx hb dX9_takes_228 rfl (lv_at hl 2 rfl) ?_
                  refine lv_iload_n hx hb dX9_takes_229 rfl (lv_at hl 3 rfl) ?_
                  refine lv_iload_n hx hb dX9_takes_230 rfl (lv_at hl 0 rfl) ?_
                  refine lv_if_eq (tgt := 246) hx hb dX9_takes_231 (by decide) (fun c231 => ?_) (fun c231 => ?_)
                  · replace hf := k_ifT c231 hf
                    refine lv_iconst (v := 0) hx hb dX9_takes_246 (by decide) ?_
                    refine lv_iload_n hx hb dX9_takes_247 rfl (lv_at hl 1 rfl) ?_
                    obtain ⟨q248, hq248, hf⟩ := k_bind hf
                    refine k_calli (wN := [(h_this, o_X9 v_kind v_worlds h_arrows h_marks v_frames v_signs h_signAt h_behind v_formulas v_failsTold v_tellsTold v_seen h_seenWhat h_seenCan v_pageLength h_page q248.2.1 v_newKind v_newWorlds v_newFrom q248.2.2.1 q248.2.2.2.1 q248.2.2.2.2 h_newArrows v_wanted v_many h_to v_pNow v_qNow h_holds h_apart v_seedNow v_keptFrame v_keptKind v_keptWorlds v_keptSeen h_keptArrows h_keptMarks h_keptWhat h_keptCan v_h), (h_newArrows, o_I cZ 16 v_newArrows)]) [0] [1] [1, 0] hP hD hS hA (va_runV (As := [.int x1, .int 0, .int (x1 - 48)]) (rest := []) ⟨hx, hb, hml, hown, hts⟩ (k_X9_takesMark l D cB cI cJ cZ tL tK h_this h_arrows h_marks h_signAt h_behind h_seenWhat h_seenCan h_page h_newArrows h_to h_holds h_apart h_keptArrows h_keptMarks h_keptWhat h_keptCan _ v_kind v_worlds v_frames v_signs v_formulas v_failsTold v_tellsTold v_seen v_pageLength v_stage v_newKind v_newWorlds v_newFrom v_newLast v_newP v_newQ v_wanted v_many v_pNow v_qNow v_seedNow v_keptFrame v_keptKind v_keptWorlds v_keptSeen v_h x1 0 (x1 - 48) q248 hq248) (cwV 3 hts (k_gV m_271 m_268 m_269 m_270 m_5) rfl rfl rfl (by decide +kernel) ⟨Nat.le_of_ble_eq_true rfl, Nat.le_of_ble_eq_true rfl⟩) (k_preV [0] hK hN hZ hP hD hS hA rfl rfl (va_recv hK hP (ci := 8) (q0 := 0) rfl rfl)) rfl rfl hl.1 rfl (lv_room (Nat.le_of_ble_eq_true rfl)) dX9_takes_248 ⟨Nat.le_refl _, Nat.le_refl _⟩) rfl rfl rfl rfl rfl (fun H locs hP hD hS => ?_)
                    obtain ⟨hbl, hf⟩ := k_bl_some hf
                    cases hf
                    exact k_zret hx hb hr (k_bn hbl) hlocks hAe hS hP hD dX9_takes_251
                  · replace hf := k_ifF c231 hf
                    refine lv_iload_n hx hb dX9_takes_234 rfl (lv_at hl 1 rfl) ?_
                    refine lv_aload_n hx hb dX9_takes_235 rfl (lv_at hl 2 rfl) ?_
                    refine va_get (D := D) (ci := 8) (v := .int v_newLast) (C := RX9) (T := TX9) (N := 41) hx hb hts inlX9 hown hK hP 0 rfl rfl 20 (by decide) (hts _ m_248) (fun _ h9 => h9) rfl dX9_takes_236 ?_
                    refine lv_icmp_le (tgt := 246) hx hb dX9_takes_239 (by decide) (fun c239 => ?_) (fun c239 => ?_)
                    · replace hf := k_ifT c239 hf
                      refine lv_iconst (v := 0) hx hb dX9_takes_246 (by decide) ?_
                      refine lv_iload_n hx hb dX9_takes_247 rfl (lv_at hl 1 rfl) ?_
                      obtain ⟨q248, hq248, hf⟩ := k_bind hf
                      refine k_calli (wN := [(h_this, o_X9 v_kind v_worlds h_arrows h_marks v_frames v_signs h_signAt h_behind v_formulas v_failsTold v_tellsTold v_seen h_seenWhat h_seenCan v_pageLength h_page q248.2.1 v_newKind v_newWorlds v_newFrom q248.2.2.1 q248.2.2.2.1 q248.2.2.2.2 h_newArrows v_wanted v_many h_to v_pNow v_qNow h_holds h_apart v_seedNow v_keptFrame v_keptKind v_keptWorlds v_keptSeen h_keptArrows h_keptMarks h_keptWhat h_keptCan v_h), (h_newArrows, o_I cZ 16 v_newArrows)]) [0] [1] [1, 0] hP hD hS hA (va_runV (As := [.int x1, .int 0, .int (x1 - 48)]) (rest := []) ⟨hx, hb, hml, hown, hts⟩ (k_X9_takesMark l D cB cI cJ cZ tL tK h_this h_arrows h_marks h_signAt h_behind h_seenWhat h_seenCan h_page h_newArrows h_to h_holds h_apart h_keptArrows h_keptMarks h_keptWhat h_keptCan _ v_kind v_worlds v_frames v_signs v_formulas v_failsTold v_tellsTold v_seen v_pageLength v_stage v_newKind v_newWorlds v_newFrom v_newLast v_newP v_newQ v_wanted v_many v_pNow v_qNow v_seedNow v_keptFrame v_keptKind v_keptWorlds v_keptSeen v_h x1 0 (x1 - 48) q248 hq248) (cwV 3 hts (k_gV m_271 m_268 m_269 m_270 m_5) rfl rfl rfl (by decide +kernel) ⟨Nat.le_of_ble_eq_true rfl, Nat.le_of_ble_eq_true rfl⟩) (k_preV [0] hK hN hZ hP hD hS hA rfl rfl (va_recv hK hP (ci := 8) (q0 := 0) rfl rfl)) rfl rfl hl.1 rfl (lv_room (Nat.le_of_ble_eq_true rfl)) dX9_takes_248 ⟨Nat.le_refl _, Nat.le_refl _⟩) rfl rfl rfl rfl rfl (fun H locs hP hD hS => ?_)
                      obtain ⟨hbl, hf⟩ := k_bl_some hf
                      cases hf
                      exact k_zret hx hb hr (k_bn hbl) hlocks hAe hS hP hD dX9_takes_251
                    · replace hf := k_ifF c239 hf
                      refine lv_iconst (v := 1) hx hb dX9_takes_242 (by decide) ?_
                      refine lv_goto (tgt := 247) hx hb dX9_takes_243 (by decide) ?_
                      refine lv_iload_n hx hb dX9_takes_247 rfl (lv_at hl 1 rfl) ?_
                      obtain ⟨q248, hq248, hf⟩ := k_bind hf
                      refine k_calli (wN := [(h_this, o_X9 v_kind v_worlds h_arrows h_marks v_frames v_signs h_signAt h_behind v_formulas v_failsTold v_tellsTold v_seen h_seenWhat h_seenCan v_pageLength h_page q248.2.1 v_newKind v_newWorlds v_newFrom q248.2.2.1 q248.2.2.2.1 q248.2.2.2.2 h_newArrows v_wanted v_many h_to v_pNow v_qNow h_holds h_apart v_seedNow v_keptFrame v_keptKind v_keptWorlds v_keptSeen h_keptArrows h_keptMarks h_keptWhat h_keptCan v_h), (h_newArrows, o_I cZ 16 v_newArrows)]) [0] [1] [1, 0] hP hD hS hA (va_runV (As := [.int x1, .int 1, .int (x1 - 48)]) (rest := []) ⟨hx, hb, hml, hown, hts⟩ (k_X9_takesMark l D cB cI cJ cZ tL tK h_this h_arrows h_marks h_signAt h_behind h_seenWhat h_seenCan h_page h_newArrows h_to h_holds h_apart h_keptArrows h_keptMarks h_keptWhat h_keptCan _ v_kind v_worlds v_frames v_signs v_formulas v_failsTold v_tellsTold v_seen v_pageLength v_stage v_newKind v_newWorlds v_newFrom v_newLast v_newP v_newQ v_wanted v_many v_pNow v_qNow v_seedNow v_keptFrame v_keptKind v_keptWorlds v_keptSeen v_h x1 1 (x1 - 48) q248 hq248) (cwV 3 hts (k_gV m_271 m_268 m_269 m_270 m_5) rfl rfl rfl (by decide +kernel) ⟨Nat.le_of_ble_eq_true rfl, Nat.le_of_ble_eq_true rfl⟩) (k_preV [0] hK hN hZ hP hD hS hA rfl rfl (va_recv hK hP (ci := 8) (q0 := 0) rfl rfl)) rfl rfl hl.1 rfl (lv_room (Nat.le_of_ble_eq_true rfl)) dX9_takes_248 ⟨Nat.le_refl _, Nat.le_refl _⟩) rfl rfl rfl rfl rfl (fun H locs hP hD hS => ?_)
                      obtain ⟨hbl, hf⟩ := k_bl_some hf
                      cases hf
                      exact k_zret hx hb hr (k_bn hbl) hlocks hAe hS hP hD dX9_takes_251
set_option maxHeartbeats 4000000 in
set_option maxRecDepth 100000 in
theorem k_X9_readFrame (l : Launch) (D : va_G) (cB cI cJ cZ : ClassId) (tL tK : Nat) (h_this h_arrows h_marks h_signAt h_behind h_seenWhat h_seenCan h_page h_newArrows h_to h_holds h_apart h_keptArrows h_keptMarks h_keptWhat h_keptCan : Nat) (sz : Nat) (v_kind : Int32) (v_worlds : Int32) (v_frames : Int32) (v_signs : Int32) (v_formulas : Int32) (v_failsTold : Int32) (v_tellsTold : Int32) (v_seen : Int32) (v_pageLength : Int32) (v_stage : Int32) (v_newKind : Int32) (v_newWorlds : Int32) (v_newFrom : Int32) (v_newLast : Int32) (v_newP : Int32) (v_newQ : Int32) (v_wanted : Int32) (v_many : Int32) (v_pNow : Int32) (v_qNow : Int32) (v_seedNow : Int64) (v_keptFrame : Int32) (v_keptKind : Int32) (v_keptWorlds : Int32) (v_keptSeen : Int32) (v_h : Int64) (v_page : (Nat → Int32)) (v_newArrows : (Nat → Int32))  (q : Int32 × Int32 × Int32 × Int32 × Int32 × Int32 × Int32 × Int32 × (Nat → Int32)) (hf : f_X9_readFrame v_pageLength v_stage v_newKind v_newWorlds v_newFrom v_newLast v_newP v_newQ v_page v_newArrows = some q) : Met l yX9_readFrame (.code yX9_readFrame cX9_readFrame 2 (some .int) :: k_all) { frames := 2, cells := 0, slots := 0, locals := 46 } (k_P D cB cI cJ cZ tL tK [.ref h_this] [(h_this, o_X9 v_kind v_worlds h_arrows h_marks v_frames v_signs h_signAt h_behind v_formulas v_failsTold v_tellsTold v_seen h_seenWhat h_seenCan v_pageLength h_page v_stage v_newKind v_newWorlds v_newFrom v_newLast v_newP v_newQ h_newArrows v_wanted v_many h_to v_pNow v_qNow h_holds h_apart v_seedNow v_keptFrame v_keptKind v_keptWorlds v_keptSeen h_keptArrows h_keptMarks h_keptWhat h_keptCan v_h), (h_page, o_I cB 66 v_page), (h_newArrows, o_I cZ 16 v_newArrows)] sz) (k_I D q.1 [(h_this, o_X9 v_kind v_worlds h_arrows h_marks v_frames v_signs h_signAt h_behind v_formulas v_failsTold v_tellsTold v_seen h_seenWhat h_seenCan v_pageLength h_page v_stage v_newKind v_newWorlds v_newFrom v_newLast v_newP v_newQ h_newArrows v_wanted v_many h_to v_pNow v_qNow h_holds h_apart v_seedNow v_keptFrame v_keptKind v_keptWorlds v_keptSeen h_keptArrows h_keptMarks h_keptWhat h_keptCan v_h), (h_page, o_I cB 66 v_page), (h_newArrows, o_I cZ 16 v_newArrows)] [(h_this, o_X9 v_kind v_worlds h_arrows h_marks v_frames v_signs h_signAt h_behind v_formulas v_failsTold v_tellsTold v_seen h_seenWhat h_seenCan v_pageLength h_page q.2.1 q.2.2.1 q.2.2.2.1 q.2.2.2.2.1 q.2.2.2.2.2.1 q.2.2.2.2.2.2.1 q.2.2.2.2.2.2.2.1 h_newArrows v_wanted v_many h_to v_pNow v_qNow h_holds h_apart v_seedNow v_keptFrame v_keptKind v_keptWorlds v_keptSeen h_keptArrows h_keptMarks h_keptWhat h_keptCan v_h), (h_page, o_I cB 66 v_page), (h_newArrows, o_I cZ 16 q.2.2.2.2.2.2.2.2)] sz) 0 0 (va_A [(h_this, o_X9 v_kind v_worlds h_arrows h_marks v_frames v_signs h_signAt h_behind v_formulas v_failsTold v_tellsTold v_seen h_seenWhat h_seenCan v_pageLength h_page v_stage v_newKind v_newWorlds v_newFrom v_newLast v_newP v_newQ h_newArrows v_wanted v_many h_to v_pNow v_qNow h_holds h_apart v_seedNow v_keptFrame v_keptKind v_keptWorlds v_keptSeen h_keptArrows h_keptMarks h_keptWhat h_keptCan v_h), (h_page, o_I cB 66 v_page), (h_newArrows, o_I cZ 16 v_newArrows)] sz) := by
  unfold f_X9_readFrame at hf
  refine k_met RX9 rfl (by decide +kernel) (Nat.le_of_ble_eq_true rfl) ?_
  intro p e s m below meth c A ls hx hb hr hml hown hts hlocks hin hsz hAe hA hK hN hZ hD hS hP hl
  have hl : lv_has ls 2 [(0, .ref h_this)] := hl
  refine lv_aload_n hx hb dX9_readFrame_0 rfl (lv_at hl 0 rfl) ?_
  refine lv_iconst (v := 0) hx hb dX9_readFrame_1 (by decide) ?_
  refine va_put (D := D) (ci := 8) (v := .int 0) (ty := .int) (C := RX9) (T := TX9) (N := 41) hx hb hts inlX9 tyX9 tyX9_ok nmX9 hown hK hP hD hS 0 rfl rfl 16 (by decide) (hts _ m_246) (fun _ h9 => h9) rfl (by decide +kernel) rfl rfl (Nat.le_of_ble_eq_true rfl) dX9_readFrame_2 (fun H locs hP hD hS => ?_)
  have hP : va_P D vwCl [(h_this, o_X9 v_kind v_worlds h_arrows h_marks v_frames v_signs h_signAt h_behind v_formulas v_failsTold v_tellsTold v_seen h_seenWhat h_seenCan v_pageLength h_page 0 v_newKind v_newWorlds v_newFrom v_newLast v_newP v_newQ h_newArrows v_wanted v_many h_to v_pNow v_qNow h_holds h_apart v_seedNow v_keptFrame v_keptKind v_keptWorlds v_keptSeen h_keptArrows h_keptMarks h_keptWhat h_keptCan v_h), (h_page, o_I cB 66 v_page), (h_newArrows, o_I cZ 16 v_newArrows)] H := hP
  have hD : va_D A [(h_this, o_X9 v_kind v_worlds h_arrows h_marks v_frames v_signs h_signAt h_behind v_formulas v_failsTold v_tellsTold v_seen h_seenWhat h_seenCan v_pageLength h_page 0 v_newKind v_newWorlds v_newFrom v_newLast v_newP v_newQ h_newArrows v_wanted v_many h_to v_pNow v_qNow h_holds h_apart v_seedNow v_keptFrame v_keptKind v_keptWorlds v_keptSeen h_keptArrows h_keptMarks h_keptWhat h_keptCan v_h), (h_page, o_I cB 66 v_page), (h_newArrows, o_I cZ 16 v_newArrows)] := hD
  refine lv_aload_n hx hb dX9_readFrame_5 rfl (lv_at hl 0 rfl) ?_
  refine lv_iconst (v := 0) hx hb dX9_readFrame_6 (by decide) ?_
  refine va_put (D := D) (ci := 8) (v := .int 0) (ty := .int) (C := RX9) (T := TX9) (N := 41) hx hb hts inlX9 tyX9 tyX9_ok nmX9 hown hK hP hD hS 0 rfl rfl 18 (by decide) (hts _ m_247) (fun _ h9 => h9) rfl (by decide +kernel) rfl rfl (Nat.le_of_ble_eq_true rfl) dX9_readFrame_7 (fun H locs hP hD hS => ?_)
  have hP : va_P D vwCl [(h_this, o_X9 v_kind v_worlds h_arrows h_marks v_frames v_signs h_signAt h_behind v_formulas v_failsTold v_tellsTold v_seen h_seenWhat h_seenCan v_pageLength h_page 0 v_newKind 0 v_newFrom v_newLast v_newP v_newQ h_newArrows v_wanted v_many h_to v_pNow v_qNow h_holds h_apart v_seedNow v_keptFrame v_keptKind v_keptWorlds v_keptSeen h_keptArrows h_keptMarks h_keptWhat h_keptCan v_h), (h_page, o_I cB 66 v_page), (h_newArrows, o_I cZ 16 v_newArrows)] H := hP
  have hD : va_D A [(h_this, o_X9 v_kind v_worlds h_arrows h_marks v_frames v_signs h_signAt h_behind v_formulas v_failsTold v_tellsTold v_seen h_seenWhat h_seenCan v_pageLength h_page 0 v_newKind 0 v_newFrom v_newLast v_newP v_newQ h_newArrows v_wanted v_many h_to v_pNow v_qNow h_holds h_apart v_seedNow v_keptFrame v_keptKind v_keptWorlds v_keptSeen h_keptArrows h_keptMarks h_keptWhat h_keptCan v_h), (h_page, o_I cB 66 v_page), (h_newArrows, o_I cZ 16 v_newArrows)] := hD
  refine lv_aload_n hx hb dX9_readFrame_10 rfl (lv_at hl 0 rfl) ?_
  refine lv_iconst (v := (-1)) hx hb dX9_readFrame_11 (by decide) ?_
  refine va_put (D := D) (ci := 8) (v := .int (-1)) (ty := .int) (C := RX9) (T := TX9) (N := 41) hx hb hts inlX9 tyX9 tyX9_ok nmX9 hown hK hP hD hS 0 rfl rfl 20 (by decide) (hts _ m_248) (fun _ h9 => h9) rfl (by decide +kernel) rfl rfl (Nat.le_of_ble_eq_true rfl) dX9_readFrame_12 (fun H locs hP hD hS => ?_)
  have hP : va_P D vwCl [(h_this, o_X9 v_kind v_worlds h_arrows h_marks v_frames v_signs h_signAt h_behind v_formulas v_failsTold v_tellsTold v_seen h_seenWhat h_seenCan v_pageLength h_page 0 v_newKind 0 v_newFrom (-1) v_newP v_newQ h_newArrows v_wanted v_many h_to v_pNow v_qNow h_holds h_apart v_seedNow v_keptFrame v_keptKind v_keptWorlds v_keptSeen h_keptArrows h_keptMarks h_keptWhat h_keptCan v_h), (h_page, o_I cB 66 v_page), (h_newArrows, o_I cZ 16 v_newArrows)] H := hP
  have hD : va_D A [(h_this, o_X9 v_kind v_worlds h_arrows h_marks v_frames v_signs h_signAt h_behind v_formulas v_failsTold v_tellsTold v_seen h_seenWhat h_seenCan v_pageLength h_page 0 v_newKind 0 v_newFrom (-1) v_newP v_newQ h_newArrows v_wanted v_many h_to v_pNow v_qNow h_holds h_apart v_seedNow v_keptFrame v_keptKind v_keptWorlds v_keptSeen h_keptArrows h_keptMarks h_keptWhat h_keptCan v_h), (h_page, o_I cB 66 v_page), (h_newArrows, o_I cZ 16 v_newArrows)] := hD
  refine lv_aload_n hx hb dX9_readFrame_15 rfl (lv_at hl 0 rfl) ?_
  refine lv_iconst (v := 0) hx hb dX9_readFrame_16 (by decide) ?_
  refine va_put (D := D) (ci := 8) (v := .int 0) (ty := .int) (C := RX9) (T := TX9) (N := 41) hx hb hts inlX9 tyX9 tyX9_ok nmX9 hown hK hP hD hS 0 rfl rfl 21 (by decide) (hts _ m_249) (fun _ h9 => h9) rfl (by decide +kernel) rfl rfl (Nat.le_of_ble_eq_true rfl) dX9_readFrame_17 (fun H locs hP hD hS => ?_)
  have hP : va_P D vwCl [(h_this, o_X9 v_kind v_worlds h_arrows h_marks v_frames v_signs h_signAt h_behind v_formulas v_failsTold v_tellsTold v_seen h_seenWhat h_seenCan v_pageLength h_page 0 v_newKind 0 v_newFrom (-1) 0 v_newQ h_newArrows v_wanted v_many h_to v_pNow v_qNow h_holds h_apart v_seedNow v_keptFrame v_keptKind v_keptWorlds v_keptSeen h_keptArrows h_keptMarks h_keptWhat h_keptCan v_h), (h_page, o_I cB 66 v_page), (h_newArrows, o_I cZ 16 v_newArrows)] H := hP
  have hD : va_D A [(h_this, o_X9 v_kind v_worlds h_arrows h_marks v_frames v_signs h_signAt h_behind v_formulas v_failsTold v_tellsTold v_seen h_seenWhat h_seenCan v_pageLength h_page 0 v_newKind 0 v_newFrom (-1) 0 v_newQ h_newArrows v_wanted v_many h_to v_pNow v_qNow h_holds h_apart v_seedNow v_keptFrame v_keptKind v_keptWorlds v_keptSeen h_keptArrows h_keptMarks h_keptWhat h_keptCan v_h), (h_page, o_I cB 66 v_page), (h_newArrows, o_I cZ 16 v_newArrows)] := hD
  refine lv_aload_n hx hb dX9_readFrame_20 rfl (lv_at hl 0 rfl) ?_
  refine lv_iconst (v := 0) hx hb dX9_readFrame_21 (by decide) ?_
  refine va_put (D := D) (ci := 8) (v := .int 0) (ty := .int) (C := RX9) (T := TX9) (N := 41) hx hb hts inlX9 tyX9 tyX9_ok nmX9 hown hK hP hD hS 0 rfl rfl 22 (by decide) (hts _ m_250) (fun _ h9 => h9) rfl (by decide +kernel) rfl rfl (Nat.le_of_ble_eq_true rfl) dX9_readFrame_22 (fun H locs hP hD hS => ?_)
  have hP : va_P D vwCl [(h_this, o_X9 v_kind v_worlds h_arrows h_marks v_frames v_signs h_signAt h_behind v_formulas v_failsTold v_tellsTold v_seen h_seenWhat h_seenCan v_pageLength h_page 0 v_newKind 0 v_newFrom (-1) 0 0 h_newArrows v_wanted v_many h_to v_pNow v_qNow h_holds h_apart v_seedNow v_keptFrame v_keptKind v_keptWorlds v_keptSeen h_keptArrows h_keptMarks h_keptWhat h_keptCan v_h), (h_page, o_I cB 66 v_page), (h_newArrows, o_I cZ 16 v_newArrows)] H := hP
  have hD : va_D A [(h_this, o_X9 v_kind v_worlds h_arrows h_marks v_frames v_signs h_signAt h_behind v_formulas v_failsTold v_tellsTold v_seen h_seenWhat h_seenCan v_pageLength h_page 0 v_newKind 0 v_newFrom (-1) 0 0 h_newArrows v_wanted v_many h_to v_pNow v_qNow h_holds h_apart v_seedNow v_keptFrame v_keptKind v_keptWorlds v_keptSeen h_keptArrows h_keptMarks h_keptWhat h_keptCan v_h), (h_page, o_I cB 66 v_page), (h_newArrows, o_I cZ 16 v_newArrows)] := hD
  refine lv_iconst (v := 0) hx hb dX9_readFrame_25 (by decide) ?_
  refine lv_istore_n (lv' := [(1, .int 0), (0, .ref h_this)]) hx hb dX9_readFrame_26 rfl hl (by decide) rfl (fun ls hl => ?_)
  refine k_wl 46 (wsf := fun (a27 : Int32 × (Nat → Int32)) => [(h_this, o_X9 v_kind v_worlds h_arrows h_marks v_frames v_signs h_signAt h_behind v_formulas v_failsTold v_tellsTold v_seen h_seenWhat h_seenCan v_pageLength h_page 0 v_newKind 0 v_newFrom (-1) 0 0 h_newArrows v_wanted v_many h_to v_pNow v_qNow h_holds h_apart v_seedNow v_keptFrame v_keptKind v_keptWorlds v_keptSeen h_keptArrows h_keptMarks h_keptWhat h_keptCan v_h), (h_page, o_I cB 66 v_page), (h_newArrows, o_I cZ 16 a27.2)]) (lvf := fun (a27 : Int32 × (Nat → Int32)) => [(0, .ref h_this), (1, .int a27.1)]) hf hP hD hS (lv_sub hl [1, 0] rfl) ?_ ?_
  · intro a27 H locs ls hf hP hD hS hl
    have hP : va_P D vwCl [(h_this, o_X9 v_kind v_worlds h_arrows h_marks v_frames v_signs h_signAt h_behind v_formulas v_failsTold v_tellsTold v_seen h_seenWhat h_seenCan v_pageLength h_page 0 v_newKind 0 v_newFrom (-1) 0 0 h_newArrows v_wanted v_many h_to v_pNow v_qNow h_holds h_apart v_seedNow v_keptFrame v_keptKind v_keptWorlds v_keptSeen h_keptArrows h_keptMarks h_keptWhat h_keptCan v_h), (h_page, o_I cB 66 v_page), (h_newArrows, o_I cZ 16 a27.2)] H := hP
    have hD : va_D A [(h_this, o_X9 v_kind v_worlds h_arrows h_marks v_frames v_signs h_signAt h_behind v_formulas v_failsTold v_tellsTold v_seen h_seenWhat h_seenCan v_pageLength h_page 0 v_newKind 0 v_newFrom (-1) 0 0 h_newArrows v_wanted v_many h_to v_pNow v_qNow h_holds h_apart v_seedNow v_keptFrame v_keptKind v_keptWorlds v_keptSeen h_keptArrows h_keptMarks h_keptWhat h_keptCan v_h), (h_page, o_I cB 66 v_page), (h_newArrows, o_I cZ 16 a27.2)] := hD
    have hl : lv_has ls 2 [(0, .ref h_this), (1, .int a27.1)] := hl
    refine lv_iconst (v := 0) hx hb dX9_readFrame_46 (by decide) ?_
    refine lv_istore_n (lv' := [(1, .int 0), (0, .ref h_this)]) hx hb dX9_readFrame_47 rfl hl (by decide) rfl (fun ls hl => ?_)
    refine k_wl 75 (wsf := fun (a48 : Int32 × Int32 × Int32 × Int32 × Int32 × Int32 × Int32 × Int32 × (Nat → Int32)) => [(h_this, o_X9 v_kind v_worlds h_arrows h_marks v_frames v_signs h_signAt h_behind v_formulas v_failsTold v_tellsTold v_seen h_seenWhat h_seenCan v_pageLength h_page a48.2.1 a48.2.2.1 a48.2.2.2.1 a48.2.2.2.2.1 a48.2.2.2.2.2.1 a48.2.2.2.2.2.2.1 a48.2.2.2.2.2.2.2.1 h_newArrows v_wanted v_many h_to v_pNow v_qNow h_holds h_apart v_seedNow v_keptFrame v_keptKind v_keptWorlds v_keptSeen h_keptArrows h_keptMarks h_keptWhat h_keptCan v_h), (h_page, o_I cB 66 v_page), (h_newArrows, o_I cZ 16 a48.2.2.2.2.2.2.2.2)]) (lvf := fun (a48 : Int32 × Int32 × Int32 × Int32 × Int32 × Int32 × Int32 × Int32 × (Nat → Int32)) => [(0, .ref h_this), (1, .int a48.1)]) hf hP hD hS (lv_sub hl [1, 0] rfl) ?_ ?_
    · intro a48 H locs ls hf hP hD hS hl
      have hP : va_P D vwCl [(h_this, o_X9 v_kind v_worlds h_arrows h_marks v_frames v_signs h_signAt h_behind v_formulas v_failsTold v_tellsTold v_seen h_seenWhat h_seenCan v_pageLength h_page a48.2.1 a48.2.2.1 a48.2.2.2.1 a48.2.2.2.2.1 a48.2.2.2.2.2.1 a48.2.2.2.2.2.2.1 a48.2.2.2.2.2.2.2.1 h_newArrows v_wanted v_many h_to v_pNow v_qNow h_holds h_apart v_seedNow v_keptFrame v_keptKind v_keptWorlds v_keptSeen h_keptArrows h_keptMarks h_keptWhat h_keptCan v_h), (h_page, o_I cB 66 v_page), (h_newArrows, o_I cZ 16 a48.2.2.2.2.2.2.2.2)] H := hP
      have hD : va_D A [(h_this, o_X9 v_kind v_worlds h_arrows h_marks v_frames v_signs h_signAt h_behind v_formulas v_failsTold v_tellsTold v_seen h_seenWhat h_seenCan v_pageLength h_page a48.2.1 a48.2.2.1 a48.2.2.2.1 a48.2.2.2.2.1 a48.2.2.2.2.2.1 a48.2.2.2.2.2.2.1 a48.2.2.2.2.2.2.2.1 h_newArrows v_wanted v_many h_to v_pNow v_qNow h_holds h_apart v_seedNow v_keptFrame v_keptKind v_keptWorlds v_keptSeen h_keptArrows h_keptMarks h_keptWhat h_keptCan v_h), (h_page, o_I cB 66 v_page), (h_newArrows, o_I cZ 16 a48.2.2.2.2.2.2.2.2)] := hD
      have hl : lv_has ls 2 [(0, .ref h_this), (1, .int a48.1)] := hl
      refine lv_iload_n hx hb dX9_readFrame_75 rfl (lv_at hl 1 rfl) ?_
      cases hf
      exact k_iret hx hb hr hlocks hAe hS hP hD dX9_readFrame_76
    · intro ex48 rc48 hE48 hR48 a48 H locs ls hf hP hD hS hl
      have hP : va_P D vwCl [(h_this, o_X9 v_kind v_worlds h_arrows h_marks v_frames v_signs h_signAt h_behind v_formulas v_failsTold v_tellsTold v_seen h_seenWhat h_seenCan v_pageLength h_page a48.2.1 a48.2.2.1 a48.2.2.2.1 a48.2.2.2.2.1 a48.2.2.2.2.2.1 a48.2.2.2.2.2.2.1 a48.2.2.2.2.2.2.2.1 h_newArrows v_wanted v_many h_to v_pNow v_qNow h_holds h_apart v_seedNow v_keptFrame v_keptKind v_keptWorlds v_keptSeen h_keptArrows h_keptMarks h_keptWhat h_keptCan v_h), (h_page, o_I cB 66 v_page), (h_newArrows, o_I cZ 16 a48.2.2.2.2.2.2.2.2)] H := hP
      have hD : va_D A [(h_this, o_X9 v_kind v_worlds h_arrows h_marks v_frames v_signs h_signAt h_behind v_formulas v_failsTold v_tellsTold v_seen h_seenWhat h_seenCan v_pageLength h_page a48.2.1 a48.2.2.1 a48.2.2.2.1 a48.2.2.2.2.1 a48.2.2.2.2.2.1 a48.2.2.2.2.2.2.1 a48.2.2.2.2.2.2.2.1 h_newArrows v_wanted v_many h_to v_pNow v_qNow h_holds h_apart v_seedNow v_keptFrame v_keptKind v_keptWorlds v_keptSeen h_keptArrows h_keptMarks h_keptWhat h_keptCan v_h), (h_page, o_I cB 66 v_page), (h_newArrows, o_I cZ 16 a48.2.2.2.2.2.2.2.2)] := hD
      have hl : lv_has ls 2 [(0, .ref h_this), (1, .int a48.1)] := hl
      refine lv_iload_n hx hb dX9_readFrame_48 rfl (lv_at hl 1 rfl) ?_
      refine lv_aload_n hx hb dX9_readFrame_49 rfl (lv_at hl 0 rfl) ?_
      refine va_get (D := D) (ci := 8) (v := .int v_pageLength) (C := RX9) (T := TX9) (N := 41) hx hb hts inlX9 hown hK hP 0 rfl rfl 14 (by decide) (hts _ m_117) (fun _ h9 => h9) rfl dX9_readFrame_50 ?_
      refine lv_icmp_ge (tgt := 75) hx hb dX9_readFrame_53 (by decide) (fun c53 => ?_) (fun c53 => ?_)
      · replace hf := k_ifT c53 hf
        exact hE48 _ _ _ _ hf hP hD hS (lv_sub hl [0, 1] rfl)
      · replace hf := k_ifF c53 hf
        refine lv_aload_n hx hb dX9_readFrame_56 rfl (lv_at hl 0 rfl) ?_
        refine lv_aload_n hx hb dX9_readFrame_57 rfl (lv_at hl 0 rfl) ?_
        refine va_get (D := D) (ci := 8) (v := .ref h_page) (C := RX9) (T := TX9) (N := 41) hx hb hts inlX9 hown hK hP 0 rfl rfl 15 (by decide) (hts _ m_89) (fun _ h9 => h9) rfl dX9_readFrame_58 ?_
        refine lv_iload_n hx hb dX9_readFrame_61 rfl (lv_at hl 1 rfl) ?_
        obtain ⟨hi62, hf⟩ := k_chk_some hf
        refine va_bald (D := D) hx hb hK hP 1 0 rfl rfl hi62 dX9_readFrame_62 ?_
        obtain ⟨q63, hq63, hf⟩ := k_bind hf
        refine k_calli (wN := [(h_this, o_X9 v_kind v_worlds h_arrows h_marks v_frames v_signs h_signAt h_behind v_formulas v_failsTold v_tellsTold v_seen h_seenWhat h_seenCan v_pageLength h_page q63.2.1 q63.2.2.1 q63.2.2.2.1 q63.2.2.2.2.1 q63.2.2.2.2.2.1 q63.2.2.2.2.2.2.1 q63.2.2.2.2.2.2.2.1 h_newArrows v_wanted v_many h_to v_pNow v_qNow h_holds h_apart v_seedNow v_keptFrame v_keptKind v_keptWorlds v_keptSeen h_keptArrows h_keptMarks h_keptWhat h_keptCan v_h), (h_page, o_I cB 66 v_page), (h_newArrows, o_I cZ 16 q63.2.2.2.2.2.2.2.2)]) [0, 2] [1] [1, 0, 2] hP hD hS hA (va_runV (As := [.int (v_page (Int32.toNatClampNeg a48.1))]) (rest := []) ⟨hx, hb, hml, hown, hts⟩ (k_X9_takes l D cB cI cJ cZ tL tK h_this h_arrows h_marks h_signAt h_behind h_seenWhat h_seenCan h_page h_newArrows h_to h_holds h_apart h_keptArrows h_keptMarks h_keptWhat h_keptCan _ v_kind v_worlds v_frames v_signs v_formulas v_failsTold v_tellsTold v_seen v_pageLength a48.2.1 a48.2.2.1 a48.2.2.2.1 a48.2.2.2.2.1 a48.2.2.2.2.2.1 a48.2.2.2.2.2.2.1 a48.2.2.2.2.2.2.2.1 v_wanted v_many v_pNow v_qNow v_seedNow v_keptFrame v_keptKind v_keptWorlds v_keptSeen v_h a48.2.2.2.2.2.2.2.2 (v_page (Int32.toNatClampNeg a48.1)) q63 hq63) (cwV 1 hts (k_gV m_254 m_251 m_252 m_253 m_5) rfl rfl rfl (by decide +kernel) ⟨Nat.le_of_ble_eq_true rfl, Nat.le_of_ble_eq_true rfl⟩) (k_preV [0, 2] hK hN hZ hP hD hS hA rfl rfl (va_recv hK hP (ci := 8) (q0 := 0) rfl rfl)) rfl rfl hl.1 rfl (lv_room (Nat.le_of_ble_eq_true rfl)) dX9_readFrame_63 ⟨Nat.le_refl _, Nat.le_refl _⟩) rfl rfl rfl rfl rfl (fun H locs hP hD hS => ?_)
        refine lv_if_eq (tgt := 75) hx hb dX9_readFrame_66 (by decide) (fun c66 => ?_) (fun c66 => ?_)
        · replace hf := k_ifT c66 hf
          exact hE48 _ _ _ _ hf hP hD hS (lv_sub hl [0, 1] rfl)
        · replace hf := k_ifF c66 hf
          refine lv_iinc (v := (a48.1 + 1)) (lv' := [(1, .int (a48.1 + 1)), (0, .ref h_this)]) hx hb dX9_readFrame_69 hl (k := 1) rfl rfl (by decide) rfl (fun ls hl => ?_)
          refine lv_goto (tgt := 48) hx hb dX9_readFrame_72 (by decide) ?_
          exact hR48 _ _ _ _ hf hP hD hS (lv_sub hl [1, 0] rfl)
  · intro ex27 rc27 hE27 hR27 a27 H locs ls hf hP hD hS hl
    have hP : va_P D vwCl [(h_this, o_X9 v_kind v_worlds h_arrows h_marks v_frames v_signs h_signAt h_behind v_formulas v_failsTold v_tellsTold v_seen h_seenWhat h_seenCan v_pageLength h_page 0 v_newKind 0 v_newFrom (-1) 0 0 h_newArrows v_wanted v_many h_to v_pNow v_qNow h_holds h_apart v_seedNow v_keptFrame v_keptKind v_keptWorlds v_keptSeen h_keptArrows h_keptMarks h_keptWhat h_keptCan v_h), (h_page, o_I cB 66 v_page), (h_newArrows, o_I cZ 16 a27.2)] H := hP
    have hD : va_D A [(h_this, o_X9 v_kind v_worlds h_arrows h_marks v_frames v_signs h_signAt h_behind v_formulas v_failsTold v_tellsTold v_seen h_seenWhat h_seenCan v_pageLength h_page 0 v_newKind 0 v_newFrom (-1) 0 0 h_newArrows v_wanted v_many h_to v_pNow v_qNow h_holds h_apart v_seedNow v_keptFrame v_keptKind v_keptWorlds v_keptSeen h_keptArrows h_keptMarks h_keptWhat h_keptCan v_h), (h_page, o_I cB 66 v_page), (h_newArrows, o_I cZ 16 a27.2)] := hD
    have hl : lv_has ls 2 [(0, .ref h_this), (1, .int a27.1)] := hl
    refine lv_iload_n hx hb dX9_readFrame_27 rfl (lv_at hl 1 rfl) ?_
    refine lv_bipush (v := 16) hx hb dX9_readFrame_28 (by decide) ?_
    refine lv_icmp_ge (tgt := 46) hx hb dX9_readFrame_30 (by decide) (fun c30 => ?_) (fun c30 => ?_)
    · replace hf := k_ifT c30 hf
      exact hE27 _ _ _ _ hf hP hD hS (lv_sub hl [0, 1] rfl)
    · replace hf := k_ifF c30 hf
      refine lv_aload_n hx hb dX9_readFrame_33 rfl (lv_at hl 0 rfl) ?_
      refine va_get (D := D) (ci := 8) (v := .ref h_newArrows) (C := RX9) (T := TX9) (N := 41) hx hb hts inlX9 hown hK hP 0 rfl rfl 23 (by decide) (hts _ m_90) (fun _ h9 => h9) rfl dX9_readFrame_34 ?_
      refine lv_iload_n hx hb dX9_readFrame_37 rfl (lv_at hl 1 rfl) ?_
      refine lv_iconst (v := 0) hx hb dX9_readFrame_38 (by decide) ?_
      obtain ⟨hi39, hf⟩ := k_chk_some hf
      refine va_zast (D := D) hx hb hK hP hD hS 2 3 rfl rfl hi39 dX9_readFrame_39 (fun H locs hP hD hS => ?_)
      have hP : va_P D vwCl [(h_this, o_X9 v_kind v_worlds h_arrows h_marks v_frames v_signs h_signAt h_behind v_formulas v_failsTold v_tellsTold v_seen h_seenWhat h_seenCan v_pageLength h_page 0 v_newKind 0 v_newFrom (-1) 0 0 h_newArrows v_wanted v_many h_to v_pNow v_qNow h_holds h_apart v_seedNow v_keptFrame v_keptKind v_keptWorlds v_keptSeen h_keptArrows h_keptMarks h_keptWhat h_keptCan v_h), (h_page, o_I cB 66 v_page), (h_newArrows, o_I cZ 16 (upd a27.2 (Int32.toNatClampNeg a27.1) (vp_nar .boolean 0)))] H := hP
      have hD : va_D A [(h_this, o_X9 v_kind v_worlds h_arrows h_marks v_frames v_signs h_signAt h_behind v_formulas v_failsTold v_tellsTold v_seen h_seenWhat h_seenCan v_pageLength h_page 0 v_newKind 0 v_newFrom (-1) 0 0 h_newArrows v_wanted v_many h_to v_pNow v_qNow h_holds h_apart v_seedNow v_keptFrame v_keptKind v_keptWorlds v_keptSeen h_keptArrows h_keptMarks h_keptWhat h_keptCan v_h), (h_page, o_I cB 66 v_page), (h_newArrows, o_I cZ 16 (upd a27.2 (Int32.toNatClampNeg a27.1) (vp_nar .boolean 0)))] := hD
      refine lv_iinc (v := (a27.1 + 1)) (lv' := [(1, .int (a27.1 + 1)), (0, .ref h_this)]) hx hb dX9_readFrame_40 hl (k := 1) rfl rfl (by decide) rfl (fun ls hl => ?_)
      refine lv_goto (tgt := 27) hx hb dX9_readFrame_43 (by decide) ?_
      exact hR27 _ _ _ _ hf hP hD hS (lv_sub hl [1, 0] rfl)
set_option maxHeartbeats 4000000 in
set_option maxRecDepth 100000 in
theorem k_X9_partsOf (l : Launch) (D : va_G) (cB cI cJ cZ : ClassId) (tL tK : Nat) (sz : Nat)  (x1 : Int32) (q : Int32) (hf : f_X9_partsOf x1 = q) : Met l yX9_partsOf (.code yX9_partsOf cX9_partsOf 1 (some .int) :: k_all) { frames := 0, cells := 0, slots := 0, locals := 0 } (k_P D cB cI cJ cZ tL tK [.int x1] [] sz) (k_I D q [] [] sz) 0 0 (va_A [] sz) := by
  unfold f_X9_partsOf at hf
  refine k_met RX9 rfl (by decide +kernel) (Nat.le_of_ble_eq_true rfl) ?_
  intro p e s m below meth c A ls hx hb hr hml hown hts hlocks hin hsz hAe hA hK hN hZ hD hS hP hl
  have hl : lv_has ls 1 [(0, .int x1)] := hl
  refine lv_iload_n hx hb dX9_partsOf_0 rfl (lv_at hl 0 rfl) ?_
  by_cases c1_38 : x1 = 38
  · replace hf := k_ifT c1_38 hf
    refine lv_lookup (tgt := 80) (off := 79) hx hb dX9_partsOf_1 (by decide) (by rw [c1_38]; rfl) (by decide) ?_
    refine lv_iconst (v := 2) hx hb dX9_partsOf_80 (by decide) ?_
    subst hf
    exact k_iret hx hb hr hlocks hAe hS hP hD dX9_partsOf_81
  · replace hf := k_ifF c1_38 hf
    by_cases c1_62 : x1 = 62
    · replace hf := k_ifT c1_62 hf
      refine lv_lookup (tgt := 80) (off := 79) hx hb dX9_partsOf_1 (by decide) (by rw [c1_62]; rfl) (by decide) ?_
      refine lv_iconst (v := 2) hx hb dX9_partsOf_80 (by decide) ?_
      subst hf
      exact k_iret hx hb hr hlocks hAe hS hP hD dX9_partsOf_81
    · replace hf := k_ifF c1_62 hf
      by_cases c1_77 : x1 = 77
      · replace hf := k_ifT c1_77 hf
        refine lv_lookup (tgt := 78) (off := 77) hx hb dX9_partsOf_1 (by decide) (by rw [c1_77]; rfl) (by decide) ?_
        refine lv_iconst (v := 1) hx hb dX9_partsOf_78 (by decide) ?_
        subst hf
        exact k_iret hx hb hr hlocks hAe hS hP hD dX9_partsOf_79
      · replace hf := k_ifF c1_77 hf
        by_cases c1_78 : x1 = 78
        · replace hf := k_ifT c1_78 hf
          refine lv_lookup (tgt := 78) (off := 77) hx hb dX9_partsOf_1 (by decide) (by rw [c1_78]; rfl) (by decide) ?_
          refine lv_iconst (v := 1) hx hb dX9_partsOf_78 (by decide) ?_
          subst hf
          exact k_iret hx hb hr hlocks hAe hS hP hD dX9_partsOf_79
        · replace hf := k_ifF c1_78 hf
          by_cases c1_112 : x1 = 112
          · replace hf := k_ifT c1_112 hf
            refine lv_lookup (tgt := 76) (off := 75) hx hb dX9_partsOf_1 (by decide) (by rw [c1_112]; rfl) (by decide) ?_
            refine lv_iconst (v := 0) hx hb dX9_partsOf_76 (by decide) ?_
            subst hf
            exact k_iret hx hb hr hlocks hAe hS hP hD dX9_partsOf_77
          · replace hf := k_ifF c1_112 hf
            by_cases c1_113 : x1 = 113
            · replace hf := k_ifT c1_113 hf
              refine lv_lookup (tgt := 76) (off := 75) hx hb dX9_partsOf_1 (by decide) (by rw [c1_113]; rfl) (by decide) ?_
              refine lv_iconst (v := 0) hx hb dX9_partsOf_76 (by decide) ?_
              subst hf
              exact k_iret hx hb hr hlocks hAe hS hP hD dX9_partsOf_77
            · replace hf := k_ifF c1_113 hf
              by_cases c1_124 : x1 = 124
              · replace hf := k_ifT c1_124 hf
                refine lv_lookup (tgt := 80) (off := 79) hx hb dX9_partsOf_1 (by decide) (by rw [c1_124]; rfl) (by decide) ?_
                refine lv_iconst (v := 2) hx hb dX9_partsOf_80 (by decide) ?_
                subst hf
                exact k_iret hx hb hr hlocks hAe hS hP hD dX9_partsOf_81
              · replace hf := k_ifF c1_124 hf
                by_cases c1_126 : x1 = 126
                · replace hf := k_ifT c1_126 hf
                  refine lv_lookup (tgt := 78) (off := 77) hx hb dX9_partsOf_1 (by decide) (by rw [c1_126]; rfl) (by decide) ?_
                  refine lv_iconst (v := 1) hx hb dX9_partsOf_78 (by decide) ?_
                  subst hf
                  exact k_iret hx hb hr hlocks hAe hS hP hD dX9_partsOf_79
                · replace hf := k_ifF c1_126 hf
                  refine lv_lookup (tgt := 82) (off := 81) hx hb dX9_partsOf_1 (by decide) (by rw [lv_osw c1_38 (show (38 : Int32).toInt = 38 by decide)]; rw [lv_osw c1_62 (show (62 : Int32).toInt = 62 by decide)]; rw [lv_osw c1_77 (show (77 : Int32).toInt = 77 by decide)]; rw [lv_osw c1_78 (show (78 : Int32).toInt = 78 by decide)]; rw [lv_osw c1_112 (show (112 : Int32).toInt = 112 by decide)]; rw [lv_osw c1_113 (show (113 : Int32).toInt = 113 by decide)]; rw [lv_osw c1_124 (show (124 : Int32).toInt = 124 by decide)]; rw [lv_osw c1_126 (show (126 : Int32).toInt = 126 by decide)]; rfl) (by decide) ?_
                  refine lv_iconst (v := (-1)) hx hb dX9_partsOf_82 (by decide) ?_
                  subst hf
                  exact k_iret hx hb hr hlocks hAe hS hP hD dX9_partsOf_83
set_option maxHeartbeats 4000000 in
set_option maxRecDepth 100000 in
theorem k_X9_readFormula (l : Launch) (D : va_G) (cB cI cJ cZ : ClassId) (tL tK : Nat) (h_this h_arrows h_marks h_signAt h_behind h_seenWhat h_seenCan h_page h_newArrows h_to h_holds h_apart h_keptArrows h_keptMarks h_keptWhat h_keptCan : Nat) (sz : Nat) (v_kind : Int32) (v_worlds : Int32) (v_frames : Int32) (v_signs : Int32) (v_formulas : Int32) (v_failsTold : Int32) (v_tellsTold : Int32) (v_seen : Int32) (v_pageLength : Int32) (v_stage : Int32) (v_newKind : Int32) (v_newWorlds : Int32) (v_newFrom : Int32) (v_newLast : Int32) (v_newP : Int32) (v_newQ : Int32) (v_wanted : Int32) (v_many : Int32) (v_pNow : Int32) (v_qNow : Int32) (v_seedNow : Int64) (v_keptFrame : Int32) (v_keptKind : Int32) (v_keptWorlds : Int32) (v_keptSeen : Int32) (v_h : Int64) (v_page : (Nat → Int32))  (q : Int32 × Int32) (hf : f_X9_readFormula v_pageLength v_wanted v_page = some q) : Met l yX9_readFormula (.code yX9_readFormula cX9_readFormula 4 (some .int) :: k_all) { frames := 1, cells := 0, slots := 0, locals := 20 } (k_P D cB cI cJ cZ tL tK [.ref h_this] [(h_this, o_X9 v_kind v_worlds h_arrows h_marks v_frames v_signs h_signAt h_behind v_formulas v_failsTold v_tellsTold v_seen h_seenWhat h_seenCan v_pageLength h_page v_stage v_newKind v_newWorlds v_newFrom v_newLast v_newP v_newQ h_newArrows v_wanted v_many h_to v_pNow v_qNow h_holds h_apart v_seedNow v_keptFrame v_keptKind v_keptWorlds v_keptSeen h_keptArrows h_keptMarks h_keptWhat h_keptCan v_h), (h_page, o_I cB 66 v_page)] sz) (k_I D q.1 [(h_this, o_X9 v_kind v_worlds h_arrows h_marks v_frames v_signs h_signAt h_behind v_formulas v_failsTold v_tellsTold v_seen h_seenWhat h_seenCan v_pageLength h_page v_stage v_newKind v_newWorlds v_newFrom v_newLast v_newP v_newQ h_newArrows v_wanted v_many h_to v_pNow v_qNow h_holds h_apart v_seedNow v_keptFrame v_keptKind v_keptWorlds v_keptSeen h_keptArrows h_keptMarks h_keptWhat h_keptCan v_h), (h_page, o_I cB 66 v_page)] [(h_this, o_X9 v_kind v_worlds h_arrows h_marks v_frames v_signs h_signAt h_behind v_formulas v_failsTold v_tellsTold v_seen h_seenWhat h_seenCan v_pageLength h_page v_stage v_newKind v_newWorlds v_newFrom v_newLast v_newP v_newQ h_newArrows q.2 v_many h_to v_pNow v_qNow h_holds h_apart v_seedNow v_keptFrame v_keptKind v_keptWorlds v_keptSeen h_keptArrows h_keptMarks h_keptWhat h_keptCan v_h), (h_page, o_I cB 66 v_page)] sz) 0 0 (va_A [(h_this, o_X9 v_kind v_worlds h_arrows h_marks v_frames v_signs h_signAt h_behind v_formulas v_failsTold v_tellsTold v_seen h_seenWhat h_seenCan v_pageLength h_page v_stage v_newKind v_newWorlds v_newFrom v_newLast v_newP v_newQ h_newArrows v_wanted v_many h_to v_pNow v_qNow h_holds h_apart v_seedNow v_keptFrame v_keptKind v_keptWorlds v_keptSeen h_keptArrows h_keptMarks h_keptWhat h_keptCan v_h), (h_page, o_I cB 66 v_page)] sz) := by
  unfold f_X9_readFormula at hf
  refine k_met RX9 rfl (by decide +kernel) (Nat.le_of_ble_eq_true rfl) ?_
  intro p e s m below meth c A ls hx hb hr hml hown hts hlocks hin hsz hAe hA hK hN hZ hD hS hP hl
  have hl : lv_has ls 4 [(0, .ref h_this)] := hl
  refine lv_aload_n hx hb dX9_readFormula_0 rfl (lv_at hl 0 rfl) ?_
  refine lv_iconst (v := 1) hx hb dX9_readFormula_1 (by decide) ?_
  refine va_put (D := D) (ci := 8) (v := .int 1) (ty := .int) (C := RX9) (T := TX9) (N := 41) hx hb hts inlX9 tyX9 tyX9_ok nmX9 hown hK hP hD hS 0 rfl rfl 24 (by decide) (hts _ m_276) (fun _ h9 => h9) rfl (by decide +kernel) rfl rfl (Nat.le_of_ble_eq_true rfl) dX9_readFormula_2 (fun H locs hP hD hS => ?_)
  have hP : va_P D vwCl [(h_this, o_X9 v_kind v_worlds h_arrows h_marks v_frames v_signs h_signAt h_behind v_formulas v_failsTold v_tellsTold v_seen h_seenWhat h_seenCan v_pageLength h_page v_stage v_newKind v_newWorlds v_newFrom v_newLast v_newP v_newQ h_newArrows 1 v_many h_to v_pNow v_qNow h_holds h_apart v_seedNow v_keptFrame v_keptKind v_keptWorlds v_keptSeen h_keptArrows h_keptMarks h_keptWhat h_keptCan v_h), (h_page, o_I cB 66 v_page)] H := hP
  have hD : va_D A [(h_this, o_X9 v_kind v_worlds h_arrows h_marks v_frames v_signs h_signAt h_behind v_formulas v_failsTold v_tellsTold v_seen h_seenWhat h_seenCan v_pageLength h_page v_stage v_newKind v_newWorlds v_newFrom v_newLast v_newP v_newQ h_newArrows 1 v_many h_to v_pNow v_qNow h_holds h_apart v_seedNow v_keptFrame v_keptKind v_keptWorlds v_keptSeen h_keptArrows h_keptMarks h_keptWhat h_keptCan v_h), (h_page, o_I cB 66 v_page)] := hD
  refine lv_iconst (v := 0) hx hb dX9_readFormula_5 (by decide) ?_
  refine lv_istore_n (lv' := [(1, .int 0), (0, .ref h_this)]) hx hb dX9_readFormula_6 rfl hl (by decide) rfl (fun ls hl => ?_)
  refine lv_iconst (v := 1) hx hb dX9_readFormula_7 (by decide) ?_
  refine lv_istore_n (lv' := [(2, .int 1), (1, .int 0), (0, .ref h_this)]) hx hb dX9_readFormula_8 rfl hl (by decide) rfl (fun ls hl => ?_)
  refine k_wl 84 (wsf := fun (a9 : Int32 × Int32 × Int32) => [(h_this, o_X9 v_kind v_worlds h_arrows h_marks v_frames v_signs h_signAt h_behind v_formulas v_failsTold v_tellsTold v_seen h_seenWhat h_seenCan v_pageLength h_page v_stage v_newKind v_newWorlds v_newFrom v_newLast v_newP v_newQ h_newArrows a9.2.2 v_many h_to v_pNow v_qNow h_holds h_apart v_seedNow v_keptFrame v_keptKind v_keptWorlds v_keptSeen h_keptArrows h_keptMarks h_keptWhat h_keptCan v_h), (h_page, o_I cB 66 v_page)]) (lvf := fun (a9 : Int32 × Int32 × Int32) => [(0, .ref h_this), (1, .int a9.1), (2, .int a9.2.1)]) hf hP hD hS (lv_sub hl [2, 1, 0] rfl) ?_ ?_
  · intro a9 H locs ls hf hP hD hS hl
    have hP : va_P D vwCl [(h_this, o_X9 v_kind v_worlds h_arrows h_marks v_frames v_signs h_signAt h_behind v_formulas v_failsTold v_tellsTold v_seen h_seenWhat h_seenCan v_pageLength h_page v_stage v_newKind v_newWorlds v_newFrom v_newLast v_newP v_newQ h_newArrows a9.2.2 v_many h_to v_pNow v_qNow h_holds h_apart v_seedNow v_keptFrame v_keptKind v_keptWorlds v_keptSeen h_keptArrows h_keptMarks h_keptWhat h_keptCan v_h), (h_page, o_I cB 66 v_page)] H := hP
    have hD : va_D A [(h_this, o_X9 v_kind v_worlds h_arrows h_marks v_frames v_signs h_signAt h_behind v_formulas v_failsTold v_tellsTold v_seen h_seenWhat h_seenCan v_pageLength h_page v_stage v_newKind v_newWorlds v_newFrom v_newLast v_newP v_newQ h_newArrows a9.2.2 v_many h_to v_pNow v_qNow h_holds h_apart v_seedNow v_keptFrame v_keptKind v_keptWorlds v_keptSeen h_keptArrows h_keptMarks h_keptWhat h_keptCan v_h), (h_page, o_I cB 66 v_page)] := hD
    have hl : lv_has ls 4 [(0, .ref h_this), (1, .int a9.1), (2, .int a9.2.1)] := hl
    refine lv_iload_n hx hb dX9_readFormula_84 rfl (lv_at hl 1 rfl) ?_
    cases hf
    exact k_iret hx hb hr hlocks hAe hS hP hD dX9_readFormula_85
  · intro ex9 rc9 hE9 hR9 a9 H locs ls hf hP hD hS hl
    have hP : va_P D vwCl [(h_this, o_X9 v_kind v_worlds h_arrows h_marks v_frames v_signs h_signAt h_behind v_formulas v_failsTold v_tellsTold v_seen h_seenWhat h_seenCan v_pageLength h_page v_stage v_newKind v_newWorlds v_newFrom v_newLast v_newP v_newQ h_newArrows a9.2.2 v_many h_to v_pNow v_qNow h_holds h_apart v_seedNow v_keptFrame v_keptKind v_keptWorlds v_keptSeen h_keptArrows h_keptMarks h_keptWhat h_keptCan v_h), (h_page, o_I cB 66 v_page)] H := hP
    have hD : va_D A [(h_this, o_X9 v_kind v_worlds h_arrows h_marks v_frames v_signs h_signAt h_behind v_formulas v_failsTold v_tellsTold v_seen h_seenWhat h_seenCan v_pageLength h_page v_stage v_newKind v_newWorlds v_newFrom v_newLast v_newP v_newQ h_newArrows a9.2.2 v_many h_to v_pNow v_qNow h_holds h_apart v_seedNow v_keptFrame v_keptKind v_keptWorlds v_keptSeen h_keptArrows h_keptMarks h_keptWhat h_keptCan v_h), (h_page, o_I cB 66 v_page)] := hD
    have hl : lv_has ls 4 [(0, .ref h_this), (1, .int a9.1), (2, .int a9.2.1)] := hl
    refine lv_iload_n hx hb dX9_readFormula_9 rfl (lv_at hl 1 rfl) ?_
    refine lv_aload_n hx hb dX9_readFormula_10 rfl (lv_at hl 0 rfl) ?_
    refine va_get (D := D) (ci := 8) (v := .int v_pageLength) (C := RX9) (T := TX9) (N := 41) hx hb hts inlX9 hown hK hP 0 rfl rfl 14 (by decide) (hts _ m_117) (fun _ h9 => h9) rfl dX9_readFormula_11 ?_
    refine lv_icmp_ge (tgt := 84) hx hb dX9_readFormula_14 (by decide) (fun c14 => ?_) (fun c14 => ?_)
    · replace hf := k_ifT c14 hf
      exact hE9 _ _ _ _ hf hP hD hS (lv_sub hl [0, 1, 2] rfl)
    · replace hf := k_ifF c14 hf
      refine lv_iload_n hx hb dX9_readFormula_17 rfl (lv_at hl 2 rfl) ?_
      refine lv_if_eq (tgt := 84) hx hb dX9_readFormula_18 (by decide) (fun c18 => ?_) (fun c18 => ?_)
      · replace hf := k_ifT c18 hf
        exact hE9 _ _ _ _ hf hP hD hS (lv_sub hl [0, 1, 2] rfl)
      · replace hf := k_ifF c18 hf
        refine lv_aload_n hx hb dX9_readFormula_21 rfl (lv_at hl 0 rfl) ?_
        refine va_get (D := D) (ci := 8) (v := .ref h_page) (C := RX9) (T := TX9) (N := 41) hx hb hts inlX9 hown hK hP 0 rfl rfl 15 (by decide) (hts _ m_89) (fun _ h9 => h9) rfl dX9_readFormula_22 ?_
        refine lv_iload_n hx hb dX9_readFormula_25 rfl (lv_at hl 1 rfl) ?_
        obtain ⟨hi26, hf⟩ := k_chk_some hf
        refine va_bald (D := D) hx hb hK hP 1 0 rfl rfl hi26 dX9_readFormula_26 ?_
        refine k_calli (wN := [(h_this, o_X9 v_kind v_worlds h_arrows h_marks v_frames v_signs h_signAt h_behind v_formulas v_failsTold v_tellsTold v_seen h_seenWhat h_seenCan v_pageLength h_page v_stage v_newKind v_newWorlds v_newFrom v_newLast v_newP v_newQ h_newArrows a9.2.2 v_many h_to v_pNow v_qNow h_holds h_apart v_seedNow v_keptFrame v_keptKind v_keptWorlds v_keptSeen h_keptArrows h_keptMarks h_keptWhat h_keptCan v_h), (h_page, o_I cB 66 v_page)]) [] [0, 1] [0, 1] hP hD hS hA (va_runS (As := [.int (v_page (Int32.toNatClampNeg a9.1))]) (rest := []) ⟨hx, hb, hml, hown, hts⟩ (k_X9_partsOf l D cB cI cJ cZ tL tK _ (v_page (Int32.toNatClampNeg a9.1)) (f_X9_partsOf (v_page (Int32.toNatClampNeg a9.1))) rfl) (va_cwS 1 hts (k_gS m_279 m_277 m_278 m_5) rfl rfl rfl (by decide +kernel) ⟨Nat.le_of_ble_eq_true rfl, Nat.le_of_ble_eq_true rfl⟩) (k_preS [] hK hN hZ hP hD hS hA rfl rfl) rfl rfl hl.1 rfl (lv_room (Nat.le_of_ble_eq_true rfl)) dX9_readFormula_27 ⟨Nat.le_refl _, Nat.le_refl _⟩) rfl rfl rfl rfl rfl (fun H locs hP hD hS => ?_)
        refine lv_istore_n (lv' := [(3, .int (f_X9_partsOf (v_page (Int32.toNatClampNeg a9.1)))), (0, .ref h_this), (1, .int a9.1), (2, .int a9.2.1)]) hx hb dX9_readFormula_30 rfl hl (by decide) rfl (fun ls hl => ?_)
        refine lv_aload_n hx hb dX9_readFormula_31 rfl (lv_at hl 1 rfl) ?_
        refine va_get (D := D) (ci := 8) (v := .int a9.2.2) (C := RX9) (T := TX9) (N := 41) hx hb hts inlX9 hown hK hP 0 rfl rfl 24 (by decide) (hts _ m_276) (fun _ h9 => h9) rfl dX9_readFormula_32 ?_
        refine k_jn (D := D) (A := A) (nL := 4) hf (fun (j35 : Int32) => [(h_this, o_X9 v_kind v_worlds h_arrows h_marks v_frames v_signs h_signAt h_behind v_formulas v_failsTold v_tellsTold v_seen h_seenWhat h_seenCan v_pageLength h_page v_stage v_newKind v_newWorlds v_newFrom v_newLast v_newP v_newQ h_newArrows a9.2.2 v_many h_to v_pNow v_qNow h_holds h_apart v_seedNow v_keptFrame v_keptKind v_keptWorlds v_keptSeen h_keptArrows h_keptMarks h_keptWhat h_keptCan v_h), (h_page, o_I cB 66 v_page)]) (fun (j35 : Int32) => [(0, .ref h_this), (1, .int a9.1), (3, .int (f_X9_partsOf (v_page (Int32.toNatClampNeg a9.1))))]) (fun (j35 : Int32) => [.int j35]) 61 ?_ ?_
        · intro j35 H locs ls hf hP hD hS hl
          have hP : va_P D vwCl [(h_this, o_X9 v_kind v_worlds h_arrows h_marks v_frames v_signs h_signAt h_behind v_formulas v_failsTold v_tellsTold v_seen h_seenWhat h_seenCan v_pageLength h_page v_stage v_newKind v_newWorlds v_newFrom v_newLast v_newP v_newQ h_newArrows a9.2.2 v_many h_to v_pNow v_qNow h_holds h_apart v_seedNow v_keptFrame v_keptKind v_keptWorlds v_keptSeen h_keptArrows h_keptMarks h_keptWhat h_keptCan v_h), (h_page, o_I cB 66 v_page)] H := hP
          have hD : va_D A [(h_this, o_X9 v_kind v_worlds h_arrows h_marks v_frames v_signs h_signAt h_behind v_formulas v_failsTold v_tellsTold v_seen h_seenWhat h_seenCan v_pageLength h_page v_stage v_newKind v_newWorlds v_newFrom v_newLast v_newP v_newQ h_newArrows a9.2.2 v_many h_to v_pNow v_qNow h_holds h_apart v_seedNow v_keptFrame v_keptKind v_keptWorlds v_keptSeen h_keptArrows h_keptMarks h_keptWhat h_keptCan v_h), (h_page, o_I cB 66 v_page)] := hD
          have hl : lv_has ls 4 [(0, .ref h_this), (1, .int a9.1), (3, .int (f_X9_partsOf (v_page (Int32.toNatClampNeg a9.1))))] := hl
          show W p l e _ s m _ below meth c H locs _ _ _ (F0 m 61 ls [.int j35])
          refine lv_istore_n (lv' := [(2, .int j35), (0, .ref h_this), (1, .int a9.1), (3, .int (f_X9_partsOf (v_page (Int32.toNatClampNeg a9.1))))]) hx hb dX9_readFormula_61 rfl hl (by decide) rfl (fun ls hl => ?_)
          refine lv_iload_n hx hb dX9_readFormula_62 rfl (lv_at hl 0 rfl) ?_
          refine lv_if_eq (tgt := 81) hx hb dX9_readFormula_63 (by decide) (fun c63 => ?_) (fun c63 => ?_)
          · replace hf := k_ifT c63 hf
            refine lv_goto (tgt := 9) hx hb dX9_readFormula_81 (by decide) ?_
            exact hR9 _ _ _ _ hf hP hD hS (lv_sub hl [1, 2, 0] rfl)
          · replace hf := k_ifF c63 hf
            refine lv_aload_n hx hb dX9_readFormula_66 rfl (lv_at hl 1 rfl) ?_
            refine lv_dup hx hb dX9_readFormula_67 rfl ?_
            refine va_get (D := D) (ci := 8) (v := .int a9.2.2) (C := RX9) (T := TX9) (N := 41) hx hb hts inlX9 hown hK hP 0 rfl rfl 24 (by decide) (hts _ m_276) (fun _ h9 => h9) rfl dX9_readFormula_68 ?_
            refine lv_iload_n hx hb dX9_readFormula_71 rfl (lv_at hl 3 rfl) ?_
            refine lv_iconst (v := 1) hx hb dX9_readFormula_72 (by decide) ?_
            refine lv_isub hx hb dX9_readFormula_73 ?_
            refine lv_iadd hx hb dX9_readFormula_74 ?_
            refine va_put (D := D) (ci := 8) (v := .int (a9.2.2 + ((f_X9_partsOf (v_page (Int32.toNatClampNeg a9.1))) - 1))) (ty := .int) (C := RX9) (T := TX9) (N := 41) hx hb hts inlX9 tyX9 tyX9_ok nmX9 hown hK hP hD hS 0 rfl rfl 24 (by decide) (hts _ m_276) (fun _ h9 => h9) rfl (by decide +kernel) rfl rfl (Nat.le_of_ble_eq_true rfl) dX9_readFormula_75 (fun H locs hP hD hS => ?_)
            have hP : va_P D vwCl [(h_this, o_X9 v_kind v_worlds h_arrows h_marks v_frames v_signs h_signAt h_behind v_formulas v_failsTold v_tellsTold v_seen h_seenWhat h_seenCan v_pageLength h_page v_stage v_newKind v_newWorlds v_newFrom v_newLast v_newP v_newQ h_newArrows (a9.2.2 + ((f_X9_partsOf (v_page (Int32.toNatClampNeg a9.1))) - 1)) v_many h_to v_pNow v_qNow h_holds h_apart v_seedNow v_keptFrame v_keptKind v_keptWorlds v_keptSeen h_keptArrows h_keptMarks h_keptWhat h_keptCan v_h), (h_page, o_I cB 66 v_page)] H := hP
            have hD : va_D A [(h_this, o_X9 v_kind v_worlds h_arrows h_marks v_frames v_signs h_signAt h_behind v_formulas v_failsTold v_tellsTold v_seen h_seenWhat h_seenCan v_pageLength h_page v_stage v_newKind v_newWorlds v_newFrom v_newLast v_newP v_newQ h_newArrows (a9.2.2 + ((f_X9_partsOf (v_page (Int32.toNatClampNeg a9.1))) - 1)) v_many h_to v_pNow v_qNow h_holds h_apart v_seedNow v_keptFrame v_keptKind v_keptWorlds v_keptSeen h_keptArrows h_keptMarks h_keptWhat h_keptCan v_h), (h_page, o_I cB 66 v_page)] := hD
            refine lv_iinc (v := (a9.1 + 1)) (lv' := [(1, .int (a9.1 + 1)), (2, .int j35), (0, .ref h_this), (3, .int (f_X9_partsOf (v_page (Int32.toNatClampNeg a9.1))))]) hx hb dX9_readFormula_78 hl (k := 2) rfl rfl (by decide) rfl (fun ls hl => ?_)
            refine lv_goto (tgt := 9) hx hb dX9_readFormula_81 (by decide) ?_
            exact hR9 _ _ _ _ hf hP hD hS (lv_sub hl [2, 0, 1] rfl)
        · intro j35 hf hj35
          refine lv_if_le (tgt := 60) hx hb dX9_readFormula_35 (by decide) (fun c35 => ?_) (fun c35 => ?_)
          · replace hf := k_ifT c35 hf
            refine lv_iconst (v := 0) hx hb dX9_readFormula_60 (by decide) ?_
            cases hf
            exact hj35 _ _ _ hP hD hS (lv_sub hl [1, 2, 0] rfl)
          · replace hf := k_ifF c35 hf
            refine lv_iload_n hx hb dX9_readFormula_38 rfl (lv_at hl 0 rfl) ?_
            refine lv_iconst (v := (-1)) hx hb dX9_readFormula_39 (by decide) ?_
            refine lv_icmp_eq (tgt := 60) hx hb dX9_readFormula_40 (by decide) (fun c40 => ?_) (fun c40 => ?_)
            · replace hf := k_ifT c40 hf
              refine lv_iconst (v := 0) hx hb dX9_readFormula_60 (by decide) ?_
              cases hf
              exact hj35 _ _ _ hP hD hS (lv_sub hl [1, 2, 0] rfl)
            · replace hf := k_ifF c40 hf
              refine lv_iload_n hx hb dX9_readFormula_43 rfl (lv_at hl 2 rfl) ?_
              refine lv_aload_n hx hb dX9_readFormula_44 rfl (lv_at hl 1 rfl) ?_
              refine va_get (D := D) (ci := 8) (v := .int a9.2.2) (C := RX9) (T := TX9) (N := 41) hx hb hts inlX9 hown hK hP 0 rfl rfl 24 (by decide) (hts _ m_276) (fun _ h9 => h9) rfl dX9_readFormula_45 ?_
              refine lv_iadd hx hb dX9_readFormula_48 ?_
              refine lv_iload_n hx hb dX9_readFormula_49 rfl (lv_at hl 0 rfl) ?_
              refine lv_iadd hx hb dX9_readFormula_50 ?_
              refine lv_bipush (v := 16) hx hb dX9_readFormula_51 (by decide) ?_
              refine lv_icmp_gt (tgt := 60) hx hb dX9_readFormula_53 (by decide) (fun c53 => ?_) (fun c53 => ?_)
              · replace hf := k_ifT c53 hf
                refine lv_iconst (v := 0) hx hb dX9_readFormula_60 (by decide) ?_
                cases hf
                exact hj35 _ _ _ hP hD hS (lv_sub hl [1, 2, 0] rfl)
              · replace hf := k_ifF c53 hf
                refine lv_iconst (v := 1) hx hb dX9_readFormula_56 (by decide) ?_
                refine lv_goto (tgt := 61) hx hb dX9_readFormula_57 (by decide) ?_
                cases hf
                exact hj35 _ _ _ hP hD hS (lv_sub hl [1, 2, 0] rfl)
set_option maxHeartbeats 4000000 in
set_option maxRecDepth 100000 in
theorem k_X9_fault (l : Launch) (D : va_G) (cB cI cJ cZ : ClassId) (tL tK : Nat) (h_this h_arrows h_marks h_signAt h_behind h_seenWhat h_seenCan h_page h_newArrows h_to h_holds h_apart h_keptArrows h_keptMarks h_keptWhat h_keptCan : Nat) (sz : Nat) (v_kind : Int32) (v_worlds : Int32) (v_frames : Int32) (v_signs : Int32) (v_formulas : Int32) (v_failsTold : Int32) (v_tellsTold : Int32) (v_seen : Int32) (v_pageLength : Int32) (v_stage : Int32) (v_newKind : Int32) (v_newWorlds : Int32) (v_newFrom : Int32) (v_newLast : Int32) (v_newP : Int32) (v_newQ : Int32) (v_wanted : Int32) (v_many : Int32) (v_pNow : Int32) (v_qNow : Int32) (v_seedNow : Int64) (v_keptFrame : Int32) (v_keptKind : Int32) (v_keptWorlds : Int32) (v_keptSeen : Int32) (v_h : Int64) (v_page : (Nat → Int32)) (v_newArrows : (Nat → Int32)) (x1 : Int32) (q : Int32 × Int32 × Int32 × Int32 × Int32 × Int32 × Int32 × Int32 × Int32 × (Nat → Int32)) (hf : f_X9_fault v_pageLength v_stage v_newKind v_newWorlds v_newFrom v_newLast v_newP v_newQ v_wanted v_page v_newArrows x1 = some q) : Met l yX9_fault (.code yX9_fault cX9_fault 2 (some .int) :: k_all) { frames := 3, cells := 0, slots := 0, locals := 67 } (k_P D cB cI cJ cZ tL tK [.ref h_this, .int x1] [(h_this, o_X9 v_kind v_worlds h_arrows h_marks v_frames v_signs h_signAt h_behind v_formulas v_failsTold v_tellsTold v_seen h_seenWhat h_seenCan v_pageLength h_page v_stage v_newKind v_newWorlds v_newFrom v_newLast v_newP v_newQ h_newArrows v_wanted v_many h_to v_pNow v_qNow h_holds h_apart v_seedNow v_keptFrame v_keptKind v_keptWorlds v_keptSeen h_keptArrows h_keptMarks h_keptWhat h_keptCan v_h), (h_page, o_I cB 66 v_page), (h_newArrows, o_I cZ 16 v_newArrows)] sz) (k_I D q.1 [(h_this, o_X9 v_kind v_worlds h_arrows h_marks v_frames v_signs h_signAt h_behind v_formulas v_failsTold v_tellsTold v_seen h_seenWhat h_seenCan v_pageLength h_page v_stage v_newKind v_newWorlds v_newFrom v_newLast v_newP v_newQ h_newArrows v_wanted v_many h_to v_pNow v_qNow h_holds h_apart v_seedNow v_keptFrame v_keptKind v_keptWorlds v_keptSeen h_keptArrows h_keptMarks h_keptWhat h_keptCan v_h), (h_page, o_I cB 66 v_page), (h_newArrows, o_I cZ 16 v_newArrows)] [(h_this, o_X9 v_kind v_worlds h_arrows h_marks v_frames v_signs h_signAt h_behind v_formulas v_failsTold v_tellsTold v_seen h_seenWhat h_seenCan v_pageLength h_page q.2.1 q.2.2.1 q.2.2.2.1 q.2.2.2.2.1 q.2.2.2.2.2.1 q.2.2.2.2.2.2.1 q.2.2.2.2.2.2.2.1 h_newArrows q.2.2.2.2.2.2.2.2.1 v_many h_to v_pNow v_qNow h_holds h_apart v_seedNow v_keptFrame v_keptKind v_keptWorlds v_keptSeen h_keptArrows h_keptMarks h_keptWhat h_keptCan v_h), (h_page, o_I cB 66 v_page), (h_newArrows, o_I cZ 16 q.2.2.2.2.2.2.2.2.2)] sz) 0 0 (va_A [(h_this, o_X9 v_kind v_worlds h_arrows h_marks v_frames v_signs h_signAt h_behind v_formulas v_failsTold v_tellsTold v_seen h_seenWhat h_seenCan v_pageLength h_page v_stage v_newKind v_newWorlds v_newFrom v_newLast v_newP v_newQ h_newArrows v_wanted v_many h_to v_pNow v_qNow h_holds h_apart v_seedNow v_keptFrame v_keptKind v_keptWorlds v_keptSeen h_keptArrows h_keptMarks h_keptWhat h_keptCan v_h), (h_page, o_I cB 66 v_page), (h_newArrows, o_I cZ 16 v_newArrows)] sz) := by
  unfold f_X9_fault at hf
  refine k_met RX9 rfl (by decide +kernel) (Nat.le_of_ble_eq_true rfl) ?_
  intro p e s m below meth c A ls hx hb hr hml hown hts hlocks hin hsz hAe hA hK hN hZ hD hS hP hl
  have hl : lv_has ls 2 [(0, .ref h_this), (1, .int x1)] := hl
  refine lv_iload_n hx hb dX9_fault_0 rfl (lv_at hl 1 rfl) ?_
  refine lv_iconst (v := 0) hx hb dX9_fault_1 (by decide) ?_
  refine lv_iconst (v := 1) hx hb dX9_fault_2 (by decide) ?_
  refine k_calli (wN := [(h_this, o_X9 v_kind v_worlds h_arrows h_marks v_frames v_signs h_signAt h_behind v_formulas v_failsTold v_tellsTold v_seen h_seenWhat h_seenCan v_pageLength h_page v_stage v_newKind v_newWorlds v_newFrom v_newLast v_newP v_newQ h_newArrows v_wanted v_many h_to v_pNow v_qNow h_holds h_apart v_seedNow v_keptFrame v_keptKind v_keptWorlds v_keptSeen h_keptArrows h_keptMarks h_keptWhat h_keptCan v_h), (h_page, o_I cB 66 v_page), (h_newArrows, o_I cZ 16 v_newArrows)]) [] [0, 1, 2] [0, 1, 2] hP hD hS hA (va_runS (As := [.int x1, .int 0, .int 1]) (rest := []) ⟨hx, hb, hml, hown, hts⟩ (k_X9_within l D cB cI cJ cZ tL tK _ x1 0 1 (f_X9_within x1 0 1) rfl) (va_cwS 3 hts (k_gS m_120 m_118 m_119 m_5) rfl rfl rfl (by decide +kernel) ⟨Nat.le_of_ble_eq_true rfl, Nat.le_of_ble_eq_true rfl⟩) (k_preS [] hK hN hZ hP hD hS hA rfl rfl) rfl rfl hl.1 rfl (lv_room (Nat.le_of_ble_eq_true rfl)) dX9_fault_3 ⟨Nat.le_refl _, Nat.le_refl _⟩) rfl rfl rfl rfl rfl (fun H locs hP hD hS => ?_)
  refine lv_if_ne (tgt := 14) hx hb dX9_fault_6 (by decide) (fun c6 => ?_) (fun c6 => ?_)
  · replace hf := k_ifF c6 hf
    refine lv_iload_n hx hb dX9_fault_14 rfl (lv_at hl 1 rfl) ?_
    refine lv_if_ne (tgt := 25) hx hb dX9_fault_15 (by decide) (fun c15 => ?_) (fun c15 => ?_)
    · replace hf := k_ifF c15 hf
      refine lv_aload_n hx hb dX9_fault_25 rfl (lv_at hl 0 rfl) ?_
      obtain ⟨q26, hq26, hf⟩ := k_bind hf
      refine k_calli (wN := [(h_this, o_X9 v_kind v_worlds h_arrows h_marks v_frames v_signs h_signAt h_behind v_formulas v_failsTold v_tellsTold v_seen h_seenWhat h_seenCan v_pageLength h_page v_stage v_newKind v_newWorlds v_newFrom v_newLast v_newP v_newQ h_newArrows q26.2 v_many h_to v_pNow v_qNow h_holds h_apart v_seedNow v_keptFrame v_keptKind v_keptWorlds v_keptSeen h_keptArrows h_keptMarks h_keptWhat h_keptCan v_h), (h_page, o_I cB 66 v_page), (h_newArrows, o_I cZ 16 v_newArrows)]) [0, 1] [2] [1, 2, 0] hP hD hS hA (va_runV (As := []) (rest := []) ⟨hx, hb, hml, hown, hts⟩ (k_X9_readFormula l D cB cI cJ cZ tL tK h_this h_arrows h_marks h_signAt h_behind h_seenWhat h_seenCan h_page h_newArrows h_to h_holds h_apart h_keptArrows h_keptMarks h_keptWhat h_keptCan _ v_kind v_worlds v_frames v_signs v_formulas v_failsTold v_tellsTold v_seen v_pageLength v_stage v_newKind v_newWorlds v_newFrom v_newLast v_newP v_newQ v_wanted v_many v_pNow v_qNow v_seedNow v_keptFrame v_keptKind v_keptWorlds v_keptSeen v_h v_page q26 hq26) (cwV 0 hts (k_gV m_275 m_272 m_273 m_274 m_5) rfl rfl rfl (by decide +kernel) ⟨Nat.le_of_ble_eq_true rfl, Nat.le_of_ble_eq_true rfl⟩) (k_preV [0, 1] hK hN hZ hP hD hS hA rfl rfl (va_recv hK hP (ci := 8) (q0 := 0) rfl rfl)) rfl rfl hl.1 rfl (lv_room (Nat.le_of_ble_eq_true rfl)) dX9_fault_26 ⟨Nat.le_refl _, Nat.le_refl _⟩) rfl rfl rfl rfl rfl (fun H locs hP hD hS => ?_)
      cases hf
      exact k_iret hx hb hr hlocks hAe hS hP hD dX9_fault_29
    · replace hf := k_ifT c15 hf
      refine lv_aload_n hx hb dX9_fault_18 rfl (lv_at hl 0 rfl) ?_
      obtain ⟨q19, hq19, hf⟩ := k_bind hf
      refine k_calli (wN := [(h_this, o_X9 v_kind v_worlds h_arrows h_marks v_frames v_signs h_signAt h_behind v_formulas v_failsTold v_tellsTold v_seen h_seenWhat h_seenCan v_pageLength h_page q19.2.1 q19.2.2.1 q19.2.2.2.1 q19.2.2.2.2.1 q19.2.2.2.2.2.1 q19.2.2.2.2.2.2.1 q19.2.2.2.2.2.2.2.1 h_newArrows v_wanted v_many h_to v_pNow v_qNow h_holds h_apart v_seedNow v_keptFrame v_keptKind v_keptWorlds v_keptSeen h_keptArrows h_keptMarks h_keptWhat h_keptCan v_h), (h_page, o_I cB 66 v_page), (h_newArrows, o_I cZ 16 q19.2.2.2.2.2.2.2.2)]) [0, 1, 2] [] [0, 1, 2] hP hD hS hA (va_runV (As := []) (rest := []) ⟨hx, hb, hml, hown, hts⟩ (k_X9_readFrame l D cB cI cJ cZ tL tK h_this h_arrows h_marks h_signAt h_behind h_seenWhat h_seenCan h_page h_newArrows h_to h_holds h_apart h_keptArrows h_keptMarks h_keptWhat h_keptCan _ v_kind v_worlds v_frames v_signs v_formulas v_failsTold v_tellsTold v_seen v_pageLength v_stage v_newKind v_newWorlds v_newFrom v_newLast v_newP v_newQ v_wanted v_many v_pNow v_qNow v_seedNow v_keptFrame v_keptKind v_keptWorlds v_keptSeen v_h v_page v_newArrows q19 hq19) (cwV 0 hts (k_gV m_245 m_242 m_243 m_244 m_5) rfl rfl rfl (by decide +kernel) ⟨Nat.le_of_ble_eq_true rfl, Nat.le_of_ble_eq_true rfl⟩) (k_preV [0, 1, 2] hK hN hZ hP hD hS hA rfl rfl (va_recv hK hP (ci := 8) (q0 := 0) rfl rfl)) rfl rfl hl.1 rfl (lv_room (Nat.le_of_ble_eq_true rfl)) dX9_fault_19 ⟨Nat.le_refl _, Nat.le_refl _⟩) rfl rfl rfl rfl rfl (fun H locs hP hD hS => ?_)
      refine lv_goto (tgt := 29) hx hb dX9_fault_22 (by decide) ?_
      cases hf
      exact k_iret hx hb hr hlocks hAe hS hP hD dX9_fault_29
  · replace hf := k_ifT c6 hf
    refine lv_bipush (v := (-102)) hx hb dX9_fault_9 (by decide) ?_
    refine lv_goto (tgt := 29) hx hb dX9_fault_11 (by decide) ?_
    cases hf
    exact k_iret hx hb hr hlocks hAe hS hP hD dX9_fault_29
