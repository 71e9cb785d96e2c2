set_option maxHeartbeats 4000000 in
set_option maxRecDepth 100000 in
theorem k_X9_frame (l : Launch) (D : va_G) (cB cI cJ cZ : ClassId) (tL tK : Nat) (h_this h_arrows h_marks h_signAt h_behind h_seenWhat h_seenCan h_page h_newArrows h_to h_holds h_apart h_keptArrows h_keptMarks h_keptWhat h_keptCan : Nat) (sz : Nat) (v_kind : Int32) (v_worlds : Int32) (v_frames : Int32) (v_signs : Int32) (v_formulas : Int32) (v_failsTold : Int32) (v_tellsTold : Int32) (v_seen : Int32) (v_pageLength : Int32) (v_stage : Int32) (v_newKind : Int32) (v_newWorlds : Int32) (v_newFrom : Int32) (v_newLast : Int32) (v_newP : Int32) (v_newQ : Int32) (v_wanted : Int32) (v_many : Int32) (v_pNow : Int32) (v_qNow : Int32) (v_seedNow : Int64) (v_keptFrame : Int32) (v_keptKind : Int32) (v_keptWorlds : Int32) (v_keptSeen : Int32) (v_h : Int64) (v_arrows : (Nat → Int32)) (v_marks : (Nat → Int32)) (v_page : (Nat → Int32)) (v_newArrows : (Nat → Int32))  (q : Int32 × Int32 × Int32 × Int32 × Int32 × Int32 × Int32 × Int32 × Int32 × Int32 × Int32 × Int32 × Int32 × (Nat → Int32) × (Nat → Int32) × (Nat → Int32)) (hf : f_X9_frame v_kind v_worlds v_frames v_seen v_pageLength v_stage v_newKind v_newWorlds v_newFrom v_newLast v_newP v_newQ v_arrows v_marks v_page v_newArrows = some q) : Met l yX9_frame (.code yX9_frame cX9_frame 2 (some .int) :: k_all) { frames := 3, cells := 0, slots := 0, locals := 67 } (k_P D cB cI cJ cZ tL tK [.ref h_this] [(h_this, o_X9 v_kind v_worlds h_arrows h_marks v_frames v_signs h_signAt h_behind v_formulas v_failsTold v_tellsTold v_seen h_seenWhat h_seenCan v_pageLength h_page v_stage v_newKind v_newWorlds v_newFrom v_newLast v_newP v_newQ h_newArrows v_wanted v_many h_to v_pNow v_qNow h_holds h_apart v_seedNow v_keptFrame v_keptKind v_keptWorlds v_keptSeen h_keptArrows h_keptMarks h_keptWhat h_keptCan v_h), (h_arrows, o_I cZ 16 v_arrows), (h_marks, o_I cI 4 v_marks), (h_page, o_I cB 66 v_page), (h_newArrows, o_I cZ 16 v_newArrows)] sz) (k_I D q.1 [(h_this, o_X9 v_kind v_worlds h_arrows h_marks v_frames v_signs h_signAt h_behind v_formulas v_failsTold v_tellsTold v_seen h_seenWhat h_seenCan v_pageLength h_page v_stage v_newKind v_newWorlds v_newFrom v_newLast v_newP v_newQ h_newArrows v_wanted v_many h_to v_pNow v_qNow h_holds h_apart v_seedNow v_keptFrame v_keptKind v_keptWorlds v_keptSeen h_keptArrows h_keptMarks h_keptWhat h_keptCan v_h), (h_arrows, o_I cZ 16 v_arrows), (h_marks, o_I cI 4 v_marks), (h_page, o_I cB 66 v_page), (h_newArrows, o_I cZ 16 v_newArrows)] [(h_this, o_X9 q.2.1 q.2.2.1 h_arrows h_marks q.2.2.2.1 v_signs h_signAt h_behind v_formulas v_failsTold v_tellsTold q.2.2.2.2.1 h_seenWhat h_seenCan q.2.2.2.2.2.1 h_page q.2.2.2.2.2.2.1 q.2.2.2.2.2.2.2.1 q.2.2.2.2.2.2.2.2.1 q.2.2.2.2.2.2.2.2.2.1 q.2.2.2.2.2.2.2.2.2.2.1 q.2.2.2.2.2.2.2.2.2.2.2.1 q.2.2.2.2.2.2.2.2.2.2.2.2.1 h_newArrows v_wanted v_many h_to v_pNow v_qNow h_holds h_apart v_seedNow v_keptFrame v_keptKind v_keptWorlds v_keptSeen h_keptArrows h_keptMarks h_keptWhat h_keptCan v_h), (h_arrows, o_I cZ 16 q.2.2.2.2.2.2.2.2.2.2.2.2.2.1), (h_marks, o_I cI 4 q.2.2.2.2.2.2.2.2.2.2.2.2.2.2.1), (h_page, o_I cB 66 v_page), (h_newArrows, o_I cZ 16 q.2.2.2.2.2.2.2.2.2.2.2.2.2.2.2)] sz) 0 0 (va_A [(h_this, o_X9 v_kind v_worlds h_arrows h_marks v_frames v_signs h_signAt h_behind v_formulas v_failsTold v_tellsTold v_seen h_seenWhat h_seenCan v_pageLength h_page v_stage v_newKind v_newWorlds v_newFrom v_newLast v_newP v_newQ h_newArrows v_wanted v_many h_to v_pNow v_qNow h_holds h_apart v_seedNow v_keptFrame v_keptKind v_keptWorlds v_keptSeen h_keptArrows h_keptMarks h_keptWhat h_keptCan v_h), (h_arrows, o_I cZ 16 v_arrows), (h_marks, o_I cI 4 v_marks), (h_page, o_I cB 66 v_page), (h_newArrows, o_I cZ 16 v_newArrows)] sz) := by
  unfold f_X9_frame at hf
  refine k_met RX9 rfl (by decide +kernel) (Nat.le_of_ble_eq_true rfl) ?_
  intro p e s m below meth c A ls hx hb hr hml hown hts hlocks hin hsz hAe hA hK hN hZ hD hS hP hl
  have hl : lv_has ls 2 [(0, .ref h_this)] := hl
  refine lv_aload_n hx hb dX9_frame_0 rfl (lv_at hl 0 rfl) ?_
  obtain ⟨q1, hq1, hf⟩ := k_bind hf
  refine k_calli (wN := [(h_this, o_X9 v_kind v_worlds h_arrows h_marks v_frames v_signs h_signAt h_behind v_formulas v_failsTold v_tellsTold v_seen h_seenWhat h_seenCan v_pageLength h_page q1.2.1 q1.2.2.1 q1.2.2.2.1 q1.2.2.2.2.1 q1.2.2.2.2.2.1 q1.2.2.2.2.2.2.1 q1.2.2.2.2.2.2.2.1 h_newArrows v_wanted v_many h_to v_pNow v_qNow h_holds h_apart v_seedNow v_keptFrame v_keptKind v_keptWorlds v_keptSeen h_keptArrows h_keptMarks h_keptWhat h_keptCan v_h), (h_arrows, o_I cZ 16 v_arrows), (h_marks, o_I cI 4 v_marks), (h_page, o_I cB 66 v_page), (h_newArrows, o_I cZ 16 q1.2.2.2.2.2.2.2.2)]) [0, 3, 4] [1, 2] [2, 0, 1, 3, 4] hP hD hS hA (va_runV (As := []) (rest := []) ⟨hx, hb, hml, hown, hts⟩ (k_X9_readFrame l D cB cI cJ cZ tL tK h_this h_arrows h_marks h_signAt h_behind h_seenWhat h_seenCan h_page h_newArrows h_to h_holds h_apart h_keptArrows h_keptMarks h_keptWhat h_keptCan _ v_kind v_worlds v_frames v_signs v_formulas v_failsTold v_tellsTold v_seen v_pageLength v_stage v_newKind v_newWorlds v_newFrom v_newLast v_newP v_newQ v_wanted v_many v_pNow v_qNow v_seedNow v_keptFrame v_keptKind v_keptWorlds v_keptSeen v_h v_page v_newArrows q1 hq1) (cwV 0 hts (k_gV m_245 m_242 m_243 m_244 m_5) rfl rfl rfl (by decide +kernel) ⟨Nat.le_of_ble_eq_true rfl, Nat.le_of_ble_eq_true rfl⟩) (k_preV [0, 3, 4] hK hN hZ hP hD hS hA rfl rfl (va_recv hK hP (ci := 8) (q0 := 0) rfl rfl)) rfl rfl hl.1 rfl (lv_room (Nat.le_of_ble_eq_true rfl)) dX9_frame_1 ⟨Nat.le_refl _, Nat.le_refl _⟩) rfl rfl rfl rfl rfl (fun H locs hP hD hS => ?_)
  refine lv_aload_n hx hb dX9_frame_4 rfl (lv_at hl 0 rfl) ?_
  refine va_get (D := D) (ci := 8) (v := .int v_pageLength) (C := RX9) (T := TX9) (N := 41) hx hb hts inlX9 hown hK hP 0 rfl rfl 14 (by decide) (hts _ m_117) (fun _ h9 => h9) rfl dX9_frame_5 ?_
  refine lv_icmp_lt (tgt := 20) hx hb dX9_frame_8 (by decide) (fun c8 => ?_) (fun c8 => ?_)
  · replace hf := k_ifT c8 hf
    refine lv_bipush (v := (-103)) hx hb dX9_frame_20 (by decide) ?_
    cases hf
    exact k_iret hx hb hr hlocks hAe hS hP hD dX9_frame_22
  · replace hf := k_ifF c8 hf
    refine lv_aload_n hx hb dX9_frame_11 rfl (lv_at hl 0 rfl) ?_
    refine va_get (D := D) (ci := 8) (v := .int q1.2.1) (C := RX9) (T := TX9) (N := 41) hx hb hts inlX9 hown hK hP 0 rfl rfl 16 (by decide) (hts _ m_246) (fun _ h9 => h9) rfl dX9_frame_12 ?_
    refine lv_bipush (v := 9) hx hb dX9_frame_15 (by decide) ?_
    refine lv_icmp_eq (tgt := 23) hx hb dX9_frame_17 (by decide) (fun c17 => ?_) (fun c17 => ?_)
    · replace hf := k_ifT c17 hf
      refine lv_aload_n hx hb dX9_frame_23 rfl (lv_at hl 0 rfl) ?_
      refine lv_aload_n hx hb dX9_frame_24 rfl (lv_at hl 0 rfl) ?_
      refine va_get (D := D) (ci := 8) (v := .int q1.2.2.1) (C := RX9) (T := TX9) (N := 41) hx hb hts inlX9 hown hK hP 0 rfl rfl 17 (by decide) (hts _ m_255) (fun _ h9 => h9) rfl dX9_frame_25 ?_
      refine va_put (D := D) (ci := 8) (v := .int q1.2.2.1) (ty := .int) (C := RX9) (T := TX9) (N := 41) hx hb hts inlX9 tyX9 tyX9_ok nmX9 hown hK hP hD hS 0 rfl rfl 0 (by decide) (hts _ m_318) (fun _ h9 => h9) rfl (by decide +kernel) rfl rfl (Nat.le_of_ble_eq_true rfl) dX9_frame_28 (fun H locs hP hD hS => ?_)
      have hP : va_P D vwCl [(h_this, o_X9 q1.2.2.1 v_worlds h_arrows h_marks v_frames v_signs h_signAt h_behind v_formulas v_failsTold v_tellsTold v_seen h_seenWhat h_seenCan v_pageLength h_page q1.2.1 q1.2.2.1 q1.2.2.2.1 q1.2.2.2.2.1 q1.2.2.2.2.2.1 q1.2.2.2.2.2.2.1 q1.2.2.2.2.2.2.2.1 h_newArrows v_wanted v_many h_to v_pNow v_qNow h_holds h_apart v_seedNow v_keptFrame v_keptKind v_keptWorlds v_keptSeen h_keptArrows h_keptMarks h_keptWhat h_keptCan v_h), (h_arrows, o_I cZ 16 v_arrows), (h_marks, o_I cI 4 v_marks), (h_page, o_I cB 66 v_page), (h_newArrows, o_I cZ 16 q1.2.2.2.2.2.2.2.2)] H := hP
      have hD : va_D A [(h_this, o_X9 q1.2.2.1 v_worlds h_arrows h_marks v_frames v_signs h_signAt h_behind v_formulas v_failsTold v_tellsTold v_seen h_seenWhat h_seenCan v_pageLength h_page q1.2.1 q1.2.2.1 q1.2.2.2.1 q1.2.2.2.2.1 q1.2.2.2.2.2.1 q1.2.2.2.2.2.2.1 q1.2.2.2.2.2.2.2.1 h_newArrows v_wanted v_many h_to v_pNow v_qNow h_holds h_apart v_seedNow v_keptFrame v_keptKind v_keptWorlds v_keptSeen h_keptArrows h_keptMarks h_keptWhat h_keptCan v_h), (h_arrows, o_I cZ 16 v_arrows), (h_marks, o_I cI 4 v_marks), (h_page, o_I cB 66 v_page), (h_newArrows, o_I cZ 16 q1.2.2.2.2.2.2.2.2)] := hD
      refine lv_aload_n hx hb dX9_frame_31 rfl (lv_at hl 0 rfl) ?_
      refine lv_aload_n hx hb dX9_frame_32 rfl (lv_at hl 0 rfl) ?_
      refine va_get (D := D) (ci := 8) (v := .int q1.2.2.2.1) (C := RX9) (T := TX9) (N := 41) hx hb hts inlX9 hown hK hP 0 rfl rfl 18 (by decide) (hts _ m_247) (fun _ h9 => h9) rfl dX9_frame_33 ?_
      refine va_put (D := D) (ci := 8) (v := .int q1.2.2.2.1) (ty := .int) (C := RX9) (T := TX9) (N := 41) hx hb hts inlX9 tyX9 tyX9_ok nmX9 hown hK hP hD hS 0 rfl rfl 1 (by decide) (hts _ m_319) (fun _ h9 => h9) rfl (by decide +kernel) rfl rfl (Nat.le_of_ble_eq_true rfl) dX9_frame_36 (fun H locs hP hD hS => ?_)
      have hP : va_P D vwCl [(h_this, o_X9 q1.2.2.1 q1.2.2.2.1 h_arrows h_marks v_frames v_signs h_signAt h_behind v_formulas v_failsTold v_tellsTold v_seen h_seenWhat h_seenCan v_pageLength h_page q1.2.1 q1.2.2.1 q1.2.2.2.1 q1.2.2.2.2.1 q1.2.2.2.2.2.1 q1.2.2.2.2.2.2.1 q1.2.2.2.2.2.2.2.1 h_newArrows v_wanted v_many h_to v_pNow v_qNow h_holds h_apart v_seedNow v_keptFrame v_keptKind v_keptWorlds v_keptSeen h_keptArrows h_keptMarks h_keptWhat h_keptCan v_h), (h_arrows, o_I cZ 16 v_arrows), (h_marks, o_I cI 4 v_marks), (h_page, o_I cB 66 v_page), (h_newArrows, o_I cZ 16 q1.2.2.2.2.2.2.2.2)] H := hP
      have hD : va_D A [(h_this, o_X9 q1.2.2.1 q1.2.2.2.1 h_arrows h_marks v_frames v_signs h_signAt h_behind v_formulas v_failsTold v_tellsTold v_seen h_seenWhat h_seenCan v_pageLength h_page q1.2.1 q1.2.2.1 q1.2.2.2.1 q1.2.2.2.2.1 q1.2.2.2.2.2.1 q1.2.2.2.2.2.2.1 q1.2.2.2.2.2.2.2.1 h_newArrows v_wanted v_many h_to v_pNow v_qNow h_holds h_apart v_seedNow v_keptFrame v_keptKind v_keptWorlds v_keptSeen h_keptArrows h_keptMarks h_keptWhat h_keptCan v_h), (h_arrows, o_I cZ 16 v_arrows), (h_marks, o_I cI 4 v_marks), (h_page, o_I cB 66 v_page), (h_newArrows, o_I cZ 16 q1.2.2.2.2.2.2.2.2)] := hD
      refine lv_iconst (v := 0) hx hb dX9_frame_39 (by decide) ?_
      refine lv_istore_n (lv' := [(1, .int 0), (0, .ref h_this)]) hx hb dX9_frame_40 rfl hl (by decide) rfl (fun ls hl => ?_)
      refine k_wl 65 (wsf := fun (a41 : Int32 × (Nat → Int32)) => [(h_this, o_X9 q1.2.2.1 q1.2.2.2.1 h_arrows h_marks v_frames v_signs h_signAt h_behind v_formulas v_failsTold v_tellsTold v_seen h_seenWhat h_seenCan v_pageLength h_page q1.2.1 q1.2.2.1 q1.2.2.2.1 q1.2.2.2.2.1 q1.2.2.2.2.2.1 q1.2.2.2.2.2.2.1 q1.2.2.2.2.2.2.2.1 h_newArrows v_wanted v_many h_to v_pNow v_qNow h_holds h_apart v_seedNow v_keptFrame v_keptKind v_keptWorlds v_keptSeen h_keptArrows h_keptMarks h_keptWhat h_keptCan v_h), (h_arrows, o_I cZ 16 a41.2), (h_marks, o_I cI 4 v_marks), (h_page, o_I cB 66 v_page), (h_newArrows, o_I cZ 16 q1.2.2.2.2.2.2.2.2)]) (lvf := fun (a41 : Int32 × (Nat → Int32)) => [(0, .ref h_this), (1, .int a41.1)]) hf hP hD hS (lv_sub hl [1, 0] rfl) ?_ ?_
      · intro a41 H locs ls hf hP hD hS hl
        have hP : va_P D vwCl [(h_this, o_X9 q1.2.2.1 q1.2.2.2.1 h_arrows h_marks v_frames v_signs h_signAt h_behind v_formulas v_failsTold v_tellsTold v_seen h_seenWhat h_seenCan v_pageLength h_page q1.2.1 q1.2.2.1 q1.2.2.2.1 q1.2.2.2.2.1 q1.2.2.2.2.2.1 q1.2.2.2.2.2.2.1 q1.2.2.2.2.2.2.2.1 h_newArrows v_wanted v_many h_to v_pNow v_qNow h_holds h_apart v_seedNow v_keptFrame v_keptKind v_keptWorlds v_keptSeen h_keptArrows h_keptMarks h_keptWhat h_keptCan v_h), (h_arrows, o_I cZ 16 a41.2), (h_marks, o_I cI 4 v_marks), (h_page, o_I cB 66 v_page), (h_newArrows, o_I cZ 16 q1.2.2.2.2.2.2.2.2)] H := hP
        have hD : va_D A [(h_this, o_X9 q1.2.2.1 q1.2.2.2.1 h_arrows h_marks v_frames v_signs h_signAt h_behind v_formulas v_failsTold v_tellsTold v_seen h_seenWhat h_seenCan v_pageLength h_page q1.2.1 q1.2.2.1 q1.2.2.2.1 q1.2.2.2.2.1 q1.2.2.2.2.2.1 q1.2.2.2.2.2.2.1 q1.2.2.2.2.2.2.2.1 h_newArrows v_wanted v_many h_to v_pNow v_qNow h_holds h_apart v_seedNow v_keptFrame v_keptKind v_keptWorlds v_keptSeen h_keptArrows h_keptMarks h_keptWhat h_keptCan v_h), (h_arrows, o_I cZ 16 a41.2), (h_marks, o_I cI 4 v_marks), (h_page, o_I cB 66 v_page), (h_newArrows, o_I cZ 16 q1.2.2.2.2.2.2.2.2)] := hD
        have hl : lv_has ls 2 [(0, .ref h_this), (1, .int a41.1)] := hl
        refine lv_iconst (v := 0) hx hb dX9_frame_65 (by decide) ?_
        refine lv_istore_n (lv' := [(1, .int 0), (0, .ref h_this)]) hx hb dX9_frame_66 rfl hl (by decide) rfl (fun ls hl => ?_)
        refine k_wl 103 (wsf := fun (a67 : Int32 × (Nat → Int32)) => [(h_this, o_X9 q1.2.2.1 q1.2.2.2.1 h_arrows h_marks v_frames v_signs h_signAt h_behind v_formulas v_failsTold v_tellsTold v_seen h_seenWhat h_seenCan v_pageLength h_page q1.2.1 q1.2.2.1 q1.2.2.2.1 q1.2.2.2.2.1 q1.2.2.2.2.2.1 q1.2.2.2.2.2.2.1 q1.2.2.2.2.2.2.2.1 h_newArrows v_wanted v_many h_to v_pNow v_qNow h_holds h_apart v_seedNow v_keptFrame v_keptKind v_keptWorlds v_keptSeen h_keptArrows h_keptMarks h_keptWhat h_keptCan v_h), (h_arrows, o_I cZ 16 a41.2), (h_marks, o_I cI 4 a67.2), (h_page, o_I cB 66 v_page), (h_newArrows, o_I cZ 16 q1.2.2.2.2.2.2.2.2)]) (lvf := fun (a67 : Int32 × (Nat → Int32)) => [(0, .ref h_this), (1, .int a67.1)]) hf hP hD hS (lv_sub hl [1, 0] rfl) ?_ ?_
        · intro a67 H locs ls hf hP hD hS hl
          have hP : va_P D vwCl [(h_this, o_X9 q1.2.2.1 q1.2.2.2.1 h_arrows h_marks v_frames v_signs h_signAt h_behind v_formulas v_failsTold v_tellsTold v_seen h_seenWhat h_seenCan v_pageLength h_page q1.2.1 q1.2.2.1 q1.2.2.2.1 q1.2.2.2.2.1 q1.2.2.2.2.2.1 q1.2.2.2.2.2.2.1 q1.2.2.2.2.2.2.2.1 h_newArrows v_wanted v_many h_to v_pNow v_qNow h_holds h_apart v_seedNow v_keptFrame v_keptKind v_keptWorlds v_keptSeen h_keptArrows h_keptMarks h_keptWhat h_keptCan v_h), (h_arrows, o_I cZ 16 a41.2), (h_marks, o_I cI 4 a67.2), (h_page, o_I cB 66 v_page), (h_newArrows, o_I cZ 16 q1.2.2.2.2.2.2.2.2)] H := hP
          have hD : va_D A [(h_this, o_X9 q1.2.2.1 q1.2.2.2.1 h_arrows h_marks v_frames v_signs h_signAt h_behind v_formulas v_failsTold v_tellsTold v_seen h_seenWhat h_seenCan v_pageLength h_page q1.2.1 q1.2.2.1 q1.2.2.2.1 q1.2.2.2.2.1 q1.2.2.2.2.2.1 q1.2.2.2.2.2.2.1 q1.2.2.2.2.2.2.2.1 h_newArrows v_wanted v_many h_to v_pNow v_qNow h_holds h_apart v_seedNow v_keptFrame v_keptKind v_keptWorlds v_keptSeen h_keptArrows h_keptMarks h_keptWhat h_keptCan v_h), (h_arrows, o_I cZ 16 a41.2), (h_marks, o_I cI 4 a67.2), (h_page, o_I cB 66 v_page), (h_newArrows, o_I cZ 16 q1.2.2.2.2.2.2.2.2)] := hD
          have hl : lv_has ls 2 [(0, .ref h_this), (1, .int a67.1)] := hl
          refine lv_aload_n hx hb dX9_frame_103 rfl (lv_at hl 0 rfl) ?_
          refine lv_dup hx hb dX9_frame_104 rfl ?_
          refine va_get (D := D) (ci := 8) (v := .int v_frames) (C := RX9) (T := TX9) (N := 41) hx hb hts inlX9 hown hK hP 0 rfl rfl 4 (by decide) (hts _ m_320) (fun _ h9 => h9) rfl dX9_frame_105 ?_
          refine lv_iconst (v := 1) hx hb dX9_frame_108 (by decide) ?_
          refine lv_iadd hx hb dX9_frame_109 ?_
          refine va_put (D := D) (ci := 8) (v := .int (v_frames + 1)) (ty := .int) (C := RX9) (T := TX9) (N := 41) hx hb hts inlX9 tyX9 tyX9_ok nmX9 hown hK hP hD hS 0 rfl rfl 4 (by decide) (hts _ m_320) (fun _ h9 => h9) rfl (by decide +kernel) rfl rfl (Nat.le_of_ble_eq_true rfl) dX9_frame_110 (fun H locs hP hD hS => ?_)
          have hP : va_P D vwCl [(h_this, o_X9 q1.2.2.1 q1.2.2.2.1 h_arrows h_marks (v_frames + 1) v_signs h_signAt h_behind v_formulas v_failsTold v_tellsTold v_seen h_seenWhat h_seenCan v_pageLength h_page q1.2.1 q1.2.2.1 q1.2.2.2.1 q1.2.2.2.2.1 q1.2.2.2.2.2.1 q1.2.2.2.2.2.2.1 q1.2.2.2.2.2.2.2.1 h_newArrows v_wanted v_many h_to v_pNow v_qNow h_holds h_apart v_seedNow v_keptFrame v_keptKind v_keptWorlds v_keptSeen h_keptArrows h_keptMarks h_keptWhat h_keptCan v_h), (h_arrows, o_I cZ 16 a41.2), (h_marks, o_I cI 4 a67.2), (h_page, o_I cB 66 v_page), (h_newArrows, o_I cZ 16 q1.2.2.2.2.2.2.2.2)] H := hP
          have hD : va_D A [(h_this, o_X9 q1.2.2.1 q1.2.2.2.1 h_arrows h_marks (v_frames + 1) v_signs h_signAt h_behind v_formulas v_failsTold v_tellsTold v_seen h_seenWhat h_seenCan v_pageLength h_page q1.2.1 q1.2.2.1 q1.2.2.2.1 q1.2.2.2.2.1 q1.2.2.2.2.2.1 q1.2.2.2.2.2.2.1 q1.2.2.2.2.2.2.2.1 h_newArrows v_wanted v_many h_to v_pNow v_qNow h_holds h_apart v_seedNow v_keptFrame v_keptKind v_keptWorlds v_keptSeen h_keptArrows h_keptMarks h_keptWhat h_keptCan v_h), (h_arrows, o_I cZ 16 a41.2), (h_marks, o_I cI 4 a67.2), (h_page, o_I cB 66 v_page), (h_newArrows, o_I cZ 16 q1.2.2.2.2.2.2.2.2)] := hD
          refine lv_aload_n hx hb dX9_frame_113 rfl (lv_at hl 0 rfl) ?_
          refine lv_iconst (v := 0) hx hb dX9_frame_114 (by decide) ?_
          refine va_put (D := D) (ci := 8) (v := .int 0) (ty := .int) (C := RX9) (T := TX9) (N := 41) hx hb hts inlX9 tyX9 tyX9_ok nmX9 hown hK hP hD hS 0 rfl rfl 11 (by decide) (hts _ m_321) (fun _ h9 => h9) rfl (by decide +kernel) rfl rfl (Nat.le_of_ble_eq_true rfl) dX9_frame_115 (fun H locs hP hD hS => ?_)
          have hP : va_P D vwCl [(h_this, o_X9 q1.2.2.1 q1.2.2.2.1 h_arrows h_marks (v_frames + 1) v_signs h_signAt h_behind v_formulas v_failsTold v_tellsTold 0 h_seenWhat h_seenCan v_pageLength h_page q1.2.1 q1.2.2.1 q1.2.2.2.1 q1.2.2.2.2.1 q1.2.2.2.2.2.1 q1.2.2.2.2.2.2.1 q1.2.2.2.2.2.2.2.1 h_newArrows v_wanted v_many h_to v_pNow v_qNow h_holds h_apart v_seedNow v_keptFrame v_keptKind v_keptWorlds v_keptSeen h_keptArrows h_keptMarks h_keptWhat h_keptCan v_h), (h_arrows, o_I cZ 16 a41.2), (h_marks, o_I cI 4 a67.2), (h_page, o_I cB 66 v_page), (h_newArrows, o_I cZ 16 q1.2.2.2.2.2.2.2.2)] H := hP
          have hD : va_D A [(h_this, o_X9 q1.2.2.1 q1.2.2.2.1 h_arrows h_marks (v_frames + 1) v_signs h_signAt h_behind v_formulas v_failsTold v_tellsTold 0 h_seenWhat h_seenCan v_pageLength h_page q1.2.1 q1.2.2.1 q1.2.2.2.1 q1.2.2.2.2.1 q1.2.2.2.2.2.1 q1.2.2.2.2.2.2.1 q1.2.2.2.2.2.2.2.1 h_newArrows v_wanted v_many h_to v_pNow v_qNow h_holds h_apart v_seedNow v_keptFrame v_keptKind v_keptWorlds v_keptSeen h_keptArrows h_keptMarks h_keptWhat h_keptCan v_h), (h_arrows, o_I cZ 16 a41.2), (h_marks, o_I cI 4 a67.2), (h_page, o_I cB 66 v_page), (h_newArrows, o_I cZ 16 q1.2.2.2.2.2.2.2.2)] := hD
          refine lv_aload_n hx hb dX9_frame_118 rfl (lv_at hl 0 rfl) ?_
          refine lv_iconst (v := 0) hx hb dX9_frame_119 (by decide) ?_
          refine va_put (D := D) (ci := 8) (v := .int 0) (ty := .int) (C := RX9) (T := TX9) (N := 41) hx hb hts inlX9 tyX9 tyX9_ok nmX9 hown hK hP hD hS 0 rfl rfl 14 (by decide) (hts _ m_117) (fun _ h9 => h9) rfl (by decide +kernel) rfl rfl (Nat.le_of_ble_eq_true rfl) dX9_frame_120 (fun H locs hP hD hS => ?_)
          have hP : va_P D vwCl [(h_this, o_X9 q1.2.2.1 q1.2.2.2.1 h_arrows h_marks (v_frames + 1) v_signs h_signAt h_behind v_formulas v_failsTold v_tellsTold 0 h_seenWhat h_seenCan 0 h_page q1.2.1 q1.2.2.1 q1.2.2.2.1 q1.2.2.2.2.1 q1.2.2.2.2.2.1 q1.2.2.2.2.2.2.1 q1.2.2.2.2.2.2.2.1 h_newArrows v_wanted v_many h_to v_pNow v_qNow h_holds h_apart v_seedNow v_keptFrame v_keptKind v_keptWorlds v_keptSeen h_keptArrows h_keptMarks h_keptWhat h_keptCan v_h), (h_arrows, o_I cZ 16 a41.2), (h_marks, o_I cI 4 a67.2), (h_page, o_I cB 66 v_page), (h_newArrows, o_I cZ 16 q1.2.2.2.2.2.2.2.2)] H := hP
          have hD : va_D A [(h_this, o_X9 q1.2.2.1 q1.2.2.2.1 h_arrows h_marks (v_frames + 1) v_signs h_signAt h_behind v_formulas v_failsTold v_tellsTold 0 h_seenWhat h_seenCan 0 h_page q1.2.1 q1.2.2.1 q1.2.2.2.1 q1.2.2.2.2.1 q1.2.2.2.2.2.1 q1.2.2.2.2.2.2.1 q1.2.2.2.2.2.2.2.1 h_newArrows v_wanted v_many h_to v_pNow v_qNow h_holds h_apart v_seedNow v_keptFrame v_keptKind v_keptWorlds v_keptSeen h_keptArrows h_keptMarks h_keptWhat h_keptCan v_h), (h_arrows, o_I cZ 16 a41.2), (h_marks, o_I cI 4 a67.2), (h_page, o_I cB 66 v_page), (h_newArrows, o_I cZ 16 q1.2.2.2.2.2.2.2.2)] := hD
          refine lv_aload_n hx hb dX9_frame_123 rfl (lv_at hl 0 rfl) ?_
          refine va_get (D := D) (ci := 8) (v := .int q1.2.2.2.1) (C := RX9) (T := TX9) (N := 41) hx hb hts inlX9 hown hK hP 0 rfl rfl 1 (by decide) (hts _ m_319) (fun _ h9 => h9) rfl dX9_frame_124 ?_
          cases hf
          exact k_iret hx hb hr hlocks hAe hS hP hD dX9_frame_127
        · intro ex67 rc67 hE67 hR67 a67 H locs ls hf hP hD hS hl
          have hP : va_P D vwCl [(h_this, o_X9 q1.2.2.1 q1.2.2.2.1 h_arrows h_marks v_frames v_signs h_signAt h_behind v_formulas v_failsTold v_tellsTold v_seen h_seenWhat h_seenCan v_pageLength h_page q1.2.1 q1.2.2.1 q1.2.2.2.1 q1.2.2.2.2.1 q1.2.2.2.2.2.1 q1.2.2.2.2.2.2.1 q1.2.2.2.2.2.2.2.1 h_newArrows v_wanted v_many h_to v_pNow v_qNow h_holds h_apart v_seedNow v_keptFrame v_keptKind v_keptWorlds v_keptSeen h_keptArrows h_keptMarks h_keptWhat h_keptCan v_h), (h_arrows, o_I cZ 16 a41.2), (h_marks, o_I cI 4 a67.2), (h_page, o_I cB 66 v_page), (h_newArrows, o_I cZ 16 q1.2.2.2.2.2.2.2.2)] H := hP
          have hD : va_D A [(h_this, o_X9 q1.2.2.1 q1.2.2.2.1 h_arrows h_marks v_frames v_signs h_signAt h_behind v_formulas v_failsTold v_tellsTold v_seen h_seenWhat h_seenCan v_pageLength h_page q1.2.1 q1.2.2.1 q1.2.2.2.1 q1.2.2.2.2.1 q1.2.2.2.2.2.1 q1.2.2.2.2.2.2.1 q1.2.2.2.2.2.2.2.1 h_newArrows v_wanted v_many h_to v_pNow v_qNow h_holds h_apart v_seedNow v_keptFrame v_keptKind v_keptWorlds v_keptSeen h_keptArrows h_keptMarks h_keptWhat h_keptCan v_h), (h_arrows, o_I cZ 16 a41.2), (h_marks, o_I cI 4 a67.2), (h_page, o_I cB 66 v_page), (h_newArrows, o_I cZ 16 q1.2.2.2.2.2.2.2.2)] := hD
          have hl : lv_has ls 2 [(0, .ref h_this), (1, .int a67.1)] := hl
          refine lv_iload_n hx hb dX9_frame_67 rfl (lv_at hl 1 rfl) ?_
          refine lv_iconst (v := 4) hx hb dX9_frame_68 (by decide) ?_
          refine lv_icmp_ge (tgt := 103) hx hb dX9_frame_69 (by decide) (fun c69 => ?_) (fun c69 => ?_)
          · replace hf := k_ifT c69 hf
            exact hE67 _ _ _ _ hf hP hD hS (lv_sub hl [0, 1] rfl)
          · replace hf := k_ifF c69 hf
            refine lv_aload_n hx hb dX9_frame_72 rfl (lv_at hl 0 rfl) ?_
            refine va_get (D := D) (ci := 8) (v := .ref h_marks) (C := RX9) (T := TX9) (N := 41) hx hb hts inlX9 hown hK hP 0 rfl rfl 3 (by decide) (hts _ m_83) (fun _ h9 => h9) rfl dX9_frame_73 ?_
            refine lv_iload_n hx hb dX9_frame_76 rfl (lv_at hl 1 rfl) ?_
            refine lv_aload_n hx hb dX9_frame_77 rfl (lv_at hl 0 rfl) ?_
            refine va_get (D := D) (ci := 8) (v := .int q1.2.2.2.2.2.2.1) (C := RX9) (T := TX9) (N := 41) hx hb hts inlX9 hown hK hP 0 rfl rfl 21 (by decide) (hts _ m_249) (fun _ h9 => h9) rfl dX9_frame_78 ?_
            refine lv_iload_n hx hb dX9_frame_81 rfl (lv_at hl 1 rfl) ?_
            refine lv_ishr hx hb dX9_frame_82 ?_
            refine lv_iconst (v := 1) hx hb dX9_frame_83 (by decide) ?_
            refine lv_iand hx hb dX9_frame_84 ?_
            refine lv_iconst (v := 2) hx hb dX9_frame_85 (by decide) ?_
            refine lv_aload_n hx hb dX9_frame_86 rfl (lv_at hl 0 rfl) ?_
            refine va_get (D := D) (ci := 8) (v := .int q1.2.2.2.2.2.2.2.1) (C := RX9) (T := TX9) (N := 41) hx hb hts inlX9 hown hK hP 0 rfl rfl 22 (by decide) (hts _ m_250) (fun _ h9 => h9) rfl dX9_frame_87 ?_
            refine lv_iload_n hx hb dX9_frame_90 rfl (lv_at hl 1 rfl) ?_
            refine lv_ishr hx hb dX9_frame_91 ?_
            refine lv_iconst (v := 1) hx hb dX9_frame_92 (by decide) ?_
            refine lv_iand hx hb dX9_frame_93 ?_
            refine lv_imul hx hb dX9_frame_94 ?_
            refine lv_iadd hx hb dX9_frame_95 ?_
            obtain ⟨hi96, hf⟩ := k_chk_some hf
            refine va_iast (D := D) hx hb hK hP hD hS 2 1 rfl rfl hi96 dX9_frame_96 (fun H locs hP hD hS => ?_)
            have hP : va_P D vwCl [(h_this, o_X9 q1.2.2.1 q1.2.2.2.1 h_arrows h_marks v_frames v_signs h_signAt h_behind v_formulas v_failsTold v_tellsTold v_seen h_seenWhat h_seenCan v_pageLength h_page q1.2.1 q1.2.2.1 q1.2.2.2.1 q1.2.2.2.2.1 q1.2.2.2.2.2.1 q1.2.2.2.2.2.2.1 q1.2.2.2.2.2.2.2.1 h_newArrows v_wanted v_many h_to v_pNow v_qNow h_holds h_apart v_seedNow v_keptFrame v_keptKind v_keptWorlds v_keptSeen h_keptArrows h_keptMarks h_keptWhat h_keptCan v_h), (h_arrows, o_I cZ 16 a41.2), (h_marks, o_I cI 4 (upd a67.2 (Int32.toNatClampNeg a67.1) (((q1.2.2.2.2.2.2.1 >>> (a67.1 &&& 31)) &&& 1) + (2 * ((q1.2.2.2.2.2.2.2.1 >>> (a67.1 &&& 31)) &&& 1))))), (h_page, o_I cB 66 v_page), (h_newArrows, o_I cZ 16 q1.2.2.2.2.2.2.2.2)] H := hP
            have hD : va_D A [(h_this, o_X9 q1.2.2.1 q1.2.2.2.1 h_arrows h_marks v_frames v_signs h_signAt h_behind v_formulas v_failsTold v_tellsTold v_seen h_seenWhat h_seenCan v_pageLength h_page q1.2.1 q1.2.2.1 q1.2.2.2.1 q1.2.2.2.2.1 q1.2.2.2.2.2.1 q1.2.2.2.2.2.2.1 q1.2.2.2.2.2.2.2.1 h_newArrows v_wanted v_many h_to v_pNow v_qNow h_holds h_apart v_seedNow v_keptFrame v_keptKind v_keptWorlds v_keptSeen h_keptArrows h_keptMarks h_keptWhat h_keptCan v_h), (h_arrows, o_I cZ 16 a41.2), (h_marks, o_I cI 4 (upd a67.2 (Int32.toNatClampNeg a67.1) (((q1.2.2.2.2.2.2.1 >>> (a67.1 &&& 31)) &&& 1) + (2 * ((q1.2.2.2.2.2.2.2.1 >>> (a67.1 &&& 31)) &&& 1))))), (h_page, o_I cB 66 v_page), (h_newArrows, o_I cZ 16 q1.2.2.2.2.2.2.2.2)] := hD
            refine lv_iinc (v := (a67.1 + 1)) (lv' := [(1, .int (a67.1 + 1)), (0, .ref h_this)]) hx hb dX9_frame_97 hl (k := 1) rfl rfl (by decide) rfl (fun ls hl => ?_)
            refine lv_goto (tgt := 67) hx hb dX9_frame_100 (by decide) ?_
            exact hR67 _ _ _ _ hf hP hD hS (lv_sub hl [1, 0] rfl)
      · intro ex41 rc41 hE41 hR41 a41 H locs ls hf hP hD hS hl
        have hP : va_P D vwCl [(h_this, o_X9 q1.2.2.1 q1.2.2.2.1 h_arrows h_marks v_frames v_signs h_signAt h_behind v_formulas v_failsTold v_tellsTold v_seen h_seenWhat h_seenCan v_pageLength h_page q1.2.1 q1.2.2.1 q1.2.2.2.1 q1.2.2.2.2.1 q1.2.2.2.2.2.1 q1.2.2.2.2.2.2.1 q1.2.2.2.2.2.2.2.1 h_newArrows v_wanted v_many h_to v_pNow v_qNow h_holds h_apart v_seedNow v_keptFrame v_keptKind v_keptWorlds v_keptSeen h_keptArrows h_keptMarks h_keptWhat h_keptCan v_h), (h_arrows, o_I cZ 16 a41.2), (h_marks, o_I cI 4 v_marks), (h_page, o_I cB 66 v_page), (h_newArrows, o_I cZ 16 q1.2.2.2.2.2.2.2.2)] H := hP
        have hD : va_D A [(h_this, o_X9 q1.2.2.1 q1.2.2.2.1 h_arrows h_marks v_frames v_signs h_signAt h_behind v_formulas v_failsTold v_tellsTold v_seen h_seenWhat h_seenCan v_pageLength h_page q1.2.1 q1.2.2.1 q1.2.2.2.1 q1.2.2.2.2.1 q1.2.2.2.2.2.1 q1.2.2.2.2.2.2.1 q1.2.2.2.2.2.2.2.1 h_newArrows v_wanted v_many h_to v_pNow v_qNow h_holds h_apart v_seedNow v_keptFrame v_keptKind v_keptWorlds v_keptSeen h_keptArrows h_keptMarks h_keptWhat h_keptCan v_h), (h_arrows, o_I cZ 16 a41.2), (h_marks, o_I cI 4 v_marks), (h_page, o_I cB 66 v_page), (h_newArrows, o_I cZ 16 q1.2.2.2.2.2.2.2.2)] := hD
        have hl : lv_has ls 2 [(0, .ref h_this), (1, .int a41.1)] := hl
        refine lv_iload_n hx hb dX9_frame_41 rfl (lv_at hl 1 rfl) ?_
        refine lv_bipush (v := 16) hx hb dX9_frame_42 (by decide) ?_
        refine lv_icmp_ge (tgt := 65) hx hb dX9_frame_44 (by decide) (fun c44 => ?_) (fun c44 => ?_)
        · replace hf := k_ifT c44 hf
          exact hE41 _ _ _ _ hf hP hD hS (lv_sub hl [0, 1] rfl)
        · replace hf := k_ifF c44 hf
          refine lv_aload_n hx hb dX9_frame_47 rfl (lv_at hl 0 rfl) ?_
          refine va_get (D := D) (ci := 8) (v := .ref h_arrows) (C := RX9) (T := TX9) (N := 41) hx hb hts inlX9 hown hK hP 0 rfl rfl 2 (by decide) (hts _ m_82) (fun _ h9 => h9) rfl dX9_frame_48 ?_
          refine lv_iload_n hx hb dX9_frame_51 rfl (lv_at hl 1 rfl) ?_
          refine lv_aload_n hx hb dX9_frame_52 rfl (lv_at hl 0 rfl) ?_
          refine va_get (D := D) (ci := 8) (v := .ref h_newArrows) (C := RX9) (T := TX9) (N := 41) hx hb hts inlX9 hown hK hP 0 rfl rfl 23 (by decide) (hts _ m_90) (fun _ h9 => h9) rfl dX9_frame_53 ?_
          refine lv_iload_n hx hb dX9_frame_56 rfl (lv_at hl 1 rfl) ?_
          obtain ⟨hi57, hf⟩ := k_chk_some hf
          refine va_zald (D := D) hx hb hK hP 4 3 rfl rfl hi57 dX9_frame_57 ?_
          obtain ⟨hi58, hf⟩ := k_chk_some hf
          refine va_zast (D := D) hx hb hK hP hD hS 1 3 rfl rfl hi58 dX9_frame_58 (fun H locs hP hD hS => ?_)
          have hP : va_P D vwCl [(h_this, o_X9 q1.2.2.1 q1.2.2.2.1 h_arrows h_marks v_frames v_signs h_signAt h_behind v_formulas v_failsTold v_tellsTold v_seen h_seenWhat h_seenCan v_pageLength h_page q1.2.1 q1.2.2.1 q1.2.2.2.1 q1.2.2.2.2.1 q1.2.2.2.2.2.1 q1.2.2.2.2.2.2.1 q1.2.2.2.2.2.2.2.1 h_newArrows v_wanted v_many h_to v_pNow v_qNow h_holds h_apart v_seedNow v_keptFrame v_keptKind v_keptWorlds v_keptSeen h_keptArrows h_keptMarks h_keptWhat h_keptCan v_h), (h_arrows, o_I cZ 16 (upd a41.2 (Int32.toNatClampNeg a41.1) (vp_nar .boolean (q1.2.2.2.2.2.2.2.2 (Int32.toNatClampNeg a41.1))))), (h_marks, o_I cI 4 v_marks), (h_page, o_I cB 66 v_page), (h_newArrows, o_I cZ 16 q1.2.2.2.2.2.2.2.2)] H := hP
          have hD : va_D A [(h_this, o_X9 q1.2.2.1 q1.2.2.2.1 h_arrows h_marks v_frames v_signs h_signAt h_behind v_formulas v_failsTold v_tellsTold v_seen h_seenWhat h_seenCan v_pageLength h_page q1.2.1 q1.2.2.1 q1.2.2.2.1 q1.2.2.2.2.1 q1.2.2.2.2.2.1 q1.2.2.2.2.2.2.1 q1.2.2.2.2.2.2.2.1 h_newArrows v_wanted v_many h_to v_pNow v_qNow h_holds h_apart v_seedNow v_keptFrame v_keptKind v_keptWorlds v_keptSeen h_keptArrows h_keptMarks h_keptWhat h_keptCan v_h), (h_arrows, o_I cZ 16 (upd a41.2 (Int32.toNatClampNeg a41.1) (vp_nar .boolean (q1.2.2.2.2.2.2.2.2 (Int32.toNatClampNeg a41.1))))), (h_marks, o_I cI 4 v_marks), (h_page, o_I cB 66 v_page), (h_newArrows, o_I cZ 16 q1.2.2.2.2.2.2.2.2)] := hD
          refine lv_iinc (v := (a41.1 + 1)) (lv' := [(1, .int (a41.1 + 1)), (0, .ref h_this)]) hx hb dX9_frame_59 hl (k := 1) rfl rfl (by decide) rfl (fun ls hl => ?_)
          refine lv_goto (tgt := 41) hx hb dX9_frame_62 (by decide) ?_
          exact hR41 _ _ _ _ hf hP hD hS (lv_sub hl [1, 0] rfl)
    · replace hf := k_ifF c17 hf
      refine lv_bipush (v := (-103)) hx hb dX9_frame_20 (by decide) ?_
      cases hf
      exact k_iret hx hb hr hlocks hAe hS hP hD dX9_frame_22
set_option maxHeartbeats 4000000 in
set_option maxRecDepth 100000 in
theorem k_X9_formula (l : Launch) (D : va_G) (cB cI cJ cZ : ClassId) (tL tK : Nat) (h_this h_arrows h_marks h_signAt h_behind h_seenWhat h_seenCan h_page h_newArrows h_to h_holds h_apart h_keptArrows h_keptMarks h_keptWhat h_keptCan : Nat) (sz : Nat) (v_kind : Int32) (v_worlds : Int32) (v_frames : Int32) (v_signs : Int32) (v_formulas : Int32) (v_failsTold : Int32) (v_tellsTold : Int32) (v_seen : Int32) (v_pageLength : Int32) (v_stage : Int32) (v_newKind : Int32) (v_newWorlds : Int32) (v_newFrom : Int32) (v_newLast : Int32) (v_newP : Int32) (v_newQ : Int32) (v_wanted : Int32) (v_many : Int32) (v_pNow : Int32) (v_qNow : Int32) (v_seedNow : Int64) (v_keptFrame : Int32) (v_keptKind : Int32) (v_keptWorlds : Int32) (v_keptSeen : Int32) (v_h : Int64) (v_signAt : (Nat → Int32)) (v_behind : (Nat → Int32)) (v_page : (Nat → Int32))  (q : Int32 × Int32 × Int32 × Int32 × Int32 × (Nat → Int32) × (Nat → Int32)) (hf : f_X9_formula v_signs v_formulas v_pageLength v_wanted v_signAt v_behind v_page = some q) : Met l yX9_formula (.code yX9_formula cX9_formula 5 (some .int) :: k_all) { frames := 2, cells := 0, slots := 0, locals := 43 } (k_P D cB cI cJ cZ tL tK [.ref h_this] [(h_this, o_X9 v_kind v_worlds h_arrows h_marks v_frames v_signs h_signAt h_behind v_formulas v_failsTold v_tellsTold v_seen h_seenWhat h_seenCan v_pageLength h_page v_stage v_newKind v_newWorlds v_newFrom v_newLast v_newP v_newQ h_newArrows v_wanted v_many h_to v_pNow v_qNow h_holds h_apart v_seedNow v_keptFrame v_keptKind v_keptWorlds v_keptSeen h_keptArrows h_keptMarks h_keptWhat h_keptCan v_h), (h_signAt, o_I cB 16 v_signAt), (h_behind, o_I cI 17 v_behind), (h_page, o_I cB 66 v_page)] sz) (k_I D q.1 [(h_this, o_X9 v_kind v_worlds h_arrows h_marks v_frames v_signs h_signAt h_behind v_formulas v_failsTold v_tellsTold v_seen h_seenWhat h_seenCan v_pageLength h_page v_stage v_newKind v_newWorlds v_newFrom v_newLast v_newP v_newQ h_newArrows v_wanted v_many h_to v_pNow v_qNow h_holds h_apart v_seedNow v_keptFrame v_keptKind v_keptWorlds v_keptSeen h_keptArrows h_keptMarks h_keptWhat h_keptCan v_h), (h_signAt, o_I cB 16 v_signAt), (h_behind, o_I cI 17 v_behind), (h_page, o_I cB 66 v_page)] [(h_this, o_X9 v_kind v_worlds h_arrows h_marks v_frames q.2.1 h_signAt h_behind q.2.2.1 v_failsTold v_tellsTold v_seen h_seenWhat h_seenCan q.2.2.2.1 h_page v_stage v_newKind v_newWorlds v_newFrom v_newLast v_newP v_newQ h_newArrows q.2.2.2.2.1 v_many h_to v_pNow v_qNow h_holds h_apart v_seedNow v_keptFrame v_keptKind v_keptWorlds v_keptSeen h_keptArrows h_keptMarks h_keptWhat h_keptCan v_h), (h_signAt, o_I cB 16 q.2.2.2.2.2.1), (h_behind, o_I cI 17 q.2.2.2.2.2.2), (h_page, o_I cB 66 v_page)] sz) 0 0 (va_A [(h_this, o_X9 v_kind v_worlds h_arrows h_marks v_frames v_signs h_signAt h_behind v_formulas v_failsTold v_tellsTold v_seen h_seenWhat h_seenCan v_pageLength h_page v_stage v_newKind v_newWorlds v_newFrom v_newLast v_newP v_newQ h_newArrows v_wanted v_many h_to v_pNow v_qNow h_holds h_apart v_seedNow v_keptFrame v_keptKind v_keptWorlds v_keptSeen h_keptArrows h_keptMarks h_keptWhat h_keptCan v_h), (h_signAt, o_I cB 16 v_signAt), (h_behind, o_I cI 17 v_behind), (h_page, o_I cB 66 v_page)] sz) := by
  unfold f_X9_formula at hf
  refine k_met RX9 rfl (by decide +kernel) (Nat.le_of_ble_eq_true rfl) ?_
  intro p e s m below meth c A ls hx hb hr hml hown hts hlocks hin hsz hAe hA hK hN hZ hD hS hP hl
  have hl : lv_has ls 5 [(0, .ref h_this)] := hl
  refine lv_aload_n hx hb dX9_formula_0 rfl (lv_at hl 0 rfl) ?_
  obtain ⟨q1, hq1, hf⟩ := k_bind hf
  refine k_calli (wN := [(h_this, o_X9 v_kind v_worlds h_arrows h_marks v_frames v_signs h_signAt h_behind v_formulas v_failsTold v_tellsTold v_seen h_seenWhat h_seenCan v_pageLength h_page v_stage v_newKind v_newWorlds v_newFrom v_newLast v_newP v_newQ h_newArrows q1.2 v_many h_to v_pNow v_qNow h_holds h_apart v_seedNow v_keptFrame v_keptKind v_keptWorlds v_keptSeen h_keptArrows h_keptMarks h_keptWhat h_keptCan v_h), (h_signAt, o_I cB 16 v_signAt), (h_behind, o_I cI 17 v_behind), (h_page, o_I cB 66 v_page)]) [0, 3] [1, 2] [2, 0, 1, 3] hP hD hS hA (va_runV (As := []) (rest := []) ⟨hx, hb, hml, hown, hts⟩ (k_X9_readFormula l D cB cI cJ cZ tL tK h_this h_arrows h_marks h_signAt h_behind h_seenWhat h_seenCan h_page h_newArrows h_to h_holds h_apart h_keptArrows h_keptMarks h_keptWhat h_keptCan _ v_kind v_worlds v_frames v_signs v_formulas v_failsTold v_tellsTold v_seen v_pageLength v_stage v_newKind v_newWorlds v_newFrom v_newLast v_newP v_newQ v_wanted v_many v_pNow v_qNow v_seedNow v_keptFrame v_keptKind v_keptWorlds v_keptSeen v_h v_page q1 hq1) (cwV 0 hts (k_gV m_275 m_272 m_273 m_274 m_5) rfl rfl rfl (by decide +kernel) ⟨Nat.le_of_ble_eq_true rfl, Nat.le_of_ble_eq_true rfl⟩) (k_preV [0, 3] hK hN hZ hP hD hS hA rfl rfl (va_recv hK hP (ci := 8) (q0 := 0) rfl rfl)) rfl rfl hl.1 rfl (lv_room (Nat.le_of_ble_eq_true rfl)) dX9_formula_1 ⟨Nat.le_refl _, Nat.le_refl _⟩) rfl rfl rfl rfl rfl (fun H locs hP hD hS => ?_)
  refine lv_aload_n hx hb dX9_formula_4 rfl (lv_at hl 0 rfl) ?_
  refine va_get (D := D) (ci := 8) (v := .int v_pageLength) (C := RX9) (T := TX9) (N := 41) hx hb hts inlX9 hown hK hP 0 rfl rfl 14 (by decide) (hts _ m_117) (fun _ h9 => h9) rfl dX9_formula_5 ?_
  refine lv_icmp_lt (tgt := 18) hx hb dX9_formula_8 (by decide) (fun c8 => ?_) (fun c8 => ?_)
  · replace hf := k_ifT c8 hf
    refine lv_bipush (v := (-103)) hx hb dX9_formula_18 (by decide) ?_
    cases hf
    exact k_iret hx hb hr hlocks hAe hS hP hD dX9_formula_20
  · replace hf := k_ifF c8 hf
    refine lv_aload_n hx hb dX9_formula_11 rfl (lv_at hl 0 rfl) ?_
    refine va_get (D := D) (ci := 8) (v := .int q1.2) (C := RX9) (T := TX9) (N := 41) hx hb hts inlX9 hown hK hP 0 rfl rfl 24 (by decide) (hts _ m_276) (fun _ h9 => h9) rfl dX9_formula_12 ?_
    refine lv_if_eq (tgt := 21) hx hb dX9_formula_15 (by decide) (fun c15 => ?_) (fun c15 => ?_)
    · replace hf := k_ifT c15 hf
      refine lv_aload_n hx hb dX9_formula_21 rfl (lv_at hl 0 rfl) ?_
      refine lv_aload_n hx hb dX9_formula_22 rfl (lv_at hl 0 rfl) ?_
      refine va_get (D := D) (ci := 8) (v := .int v_pageLength) (C := RX9) (T := TX9) (N := 41) hx hb hts inlX9 hown hK hP 0 rfl rfl 14 (by decide) (hts _ m_117) (fun _ h9 => h9) rfl dX9_formula_23 ?_
      refine va_put (D := D) (ci := 8) (v := .int v_pageLength) (ty := .int) (C := RX9) (T := TX9) (N := 41) hx hb hts inlX9 tyX9 tyX9_ok nmX9 hown hK hP hD hS 0 rfl rfl 5 (by decide) (hts _ m_358) (fun _ h9 => h9) rfl (by decide +kernel) rfl rfl (Nat.le_of_ble_eq_true rfl) dX9_formula_26 (fun H locs hP hD hS => ?_)
      have hP : va_P D vwCl [(h_this, o_X9 v_kind v_worlds h_arrows h_marks v_frames v_pageLength h_signAt h_behind v_formulas v_failsTold v_tellsTold v_seen h_seenWhat h_seenCan v_pageLength h_page v_stage v_newKind v_newWorlds v_newFrom v_newLast v_newP v_newQ h_newArrows q1.2 v_many h_to v_pNow v_qNow h_holds h_apart v_seedNow v_keptFrame v_keptKind v_keptWorlds v_keptSeen h_keptArrows h_keptMarks h_keptWhat h_keptCan v_h), (h_signAt, o_I cB 16 v_signAt), (h_behind, o_I cI 17 v_behind), (h_page, o_I cB 66 v_page)] H := hP
      have hD : va_D A [(h_this, o_X9 v_kind v_worlds h_arrows h_marks v_frames v_pageLength h_signAt h_behind v_formulas v_failsTold v_tellsTold v_seen h_seenWhat h_seenCan v_pageLength h_page v_stage v_newKind v_newWorlds v_newFrom v_newLast v_newP v_newQ h_newArrows q1.2 v_many h_to v_pNow v_qNow h_holds h_apart v_seedNow v_keptFrame v_keptKind v_keptWorlds v_keptSeen h_keptArrows h_keptMarks h_keptWhat h_keptCan v_h), (h_signAt, o_I cB 16 v_signAt), (h_behind, o_I cI 17 v_behind), (h_page, o_I cB 66 v_page)] := hD
      refine lv_aload_n hx hb dX9_formula_29 rfl (lv_at hl 0 rfl) ?_
      refine va_get (D := D) (ci := 8) (v := .int v_pageLength) (C := RX9) (T := TX9) (N := 41) hx hb hts inlX9 hown hK hP 0 rfl rfl 5 (by decide) (hts _ m_358) (fun _ h9 => h9) rfl dX9_formula_30 ?_
      refine lv_iconst (v := 1) hx hb dX9_formula_33 (by decide) ?_
      refine lv_isub hx hb dX9_formula_34 ?_
      refine lv_istore_n (lv' := [(1, .int (v_pageLength - 1)), (0, .ref h_this)]) hx hb dX9_formula_35 rfl hl (by decide) rfl (fun ls hl => ?_)
      refine k_wl 101 (wsf := fun (a36 : Int32 × (Nat → Int32) × (Nat → Int32)) => [(h_this, o_X9 v_kind v_worlds h_arrows h_marks v_frames v_pageLength h_signAt h_behind v_formulas v_failsTold v_tellsTold v_seen h_seenWhat h_seenCan v_pageLength h_page v_stage v_newKind v_newWorlds v_newFrom v_newLast v_newP v_newQ h_newArrows q1.2 v_many h_to v_pNow v_qNow h_holds h_apart v_seedNow v_keptFrame v_keptKind v_keptWorlds v_keptSeen h_keptArrows h_keptMarks h_keptWhat h_keptCan v_h), (h_signAt, o_I cB 16 a36.2.1), (h_behind, o_I cI 17 a36.2.2), (h_page, o_I cB 66 v_page)]) (lvf := fun (a36 : Int32 × (Nat → Int32) × (Nat → Int32)) => [(0, .ref h_this), (1, .int a36.1)]) hf hP hD hS (lv_sub hl [1, 0] rfl) ?_ ?_
      · intro a36 H locs ls hf hP hD hS hl
        have hP : va_P D vwCl [(h_this, o_X9 v_kind v_worlds h_arrows h_marks v_frames v_pageLength h_signAt h_behind v_formulas v_failsTold v_tellsTold v_seen h_seenWhat h_seenCan v_pageLength h_page v_stage v_newKind v_newWorlds v_newFrom v_newLast v_newP v_newQ h_newArrows q1.2 v_many h_to v_pNow v_qNow h_holds h_apart v_seedNow v_keptFrame v_keptKind v_keptWorlds v_keptSeen h_keptArrows h_keptMarks h_keptWhat h_keptCan v_h), (h_signAt, o_I cB 16 a36.2.1), (h_behind, o_I cI 17 a36.2.2), (h_page, o_I cB 66 v_page)] H := hP
        have hD : va_D A [(h_this, o_X9 v_kind v_worlds h_arrows h_marks v_frames v_pageLength h_signAt h_behind v_formulas v_failsTold v_tellsTold v_seen h_seenWhat h_seenCan v_pageLength h_page v_stage v_newKind v_newWorlds v_newFrom v_newLast v_newP v_newQ h_newArrows q1.2 v_many h_to v_pNow v_qNow h_holds h_apart v_seedNow v_keptFrame v_keptKind v_keptWorlds v_keptSeen h_keptArrows h_keptMarks h_keptWhat h_keptCan v_h), (h_signAt, o_I cB 16 a36.2.1), (h_behind, o_I cI 17 a36.2.2), (h_page, o_I cB 66 v_page)] := hD
        have hl : lv_has ls 5 [(0, .ref h_this), (1, .int a36.1)] := hl
        refine lv_aload_n hx hb dX9_formula_101 rfl (lv_at hl 0 rfl) ?_
        refine lv_dup hx hb dX9_formula_102 rfl ?_
        refine va_get (D := D) (ci := 8) (v := .int v_formulas) (C := RX9) (T := TX9) (N := 41) hx hb hts inlX9 hown hK hP 0 rfl rfl 8 (by decide) (hts _ m_359) (fun _ h9 => h9) rfl dX9_formula_103 ?_
        refine lv_iconst (v := 1) hx hb dX9_formula_106 (by decide) ?_
        refine lv_iadd hx hb dX9_formula_107 ?_
        refine va_put (D := D) (ci := 8) (v := .int (v_formulas + 1)) (ty := .int) (C := RX9) (T := TX9) (N := 41) hx hb hts inlX9 tyX9 tyX9_ok nmX9 hown hK hP hD hS 0 rfl rfl 8 (by decide) (hts _ m_359) (fun _ h9 => h9) rfl (by decide +kernel) rfl rfl (Nat.le_of_ble_eq_true rfl) dX9_formula_108 (fun H locs hP hD hS => ?_)
        have hP : va_P D vwCl [(h_this, o_X9 v_kind v_worlds h_arrows h_marks v_frames v_pageLength h_signAt h_behind (v_formulas + 1) v_failsTold v_tellsTold v_seen h_seenWhat h_seenCan v_pageLength h_page v_stage v_newKind v_newWorlds v_newFrom v_newLast v_newP v_newQ h_newArrows q1.2 v_many h_to v_pNow v_qNow h_holds h_apart v_seedNow v_keptFrame v_keptKind v_keptWorlds v_keptSeen h_keptArrows h_keptMarks h_keptWhat h_keptCan v_h), (h_signAt, o_I cB 16 a36.2.1), (h_behind, o_I cI 17 a36.2.2), (h_page, o_I cB 66 v_page)] H := hP
        have hD : va_D A [(h_this, o_X9 v_kind v_worlds h_arrows h_marks v_frames v_pageLength h_signAt h_behind (v_formulas + 1) v_failsTold v_tellsTold v_seen h_seenWhat h_seenCan v_pageLength h_page v_stage v_newKind v_newWorlds v_newFrom v_newLast v_newP v_newQ h_newArrows q1.2 v_many h_to v_pNow v_qNow h_holds h_apart v_seedNow v_keptFrame v_keptKind v_keptWorlds v_keptSeen h_keptArrows h_keptMarks h_keptWhat h_keptCan v_h), (h_signAt, o_I cB 16 a36.2.1), (h_behind, o_I cI 17 a36.2.2), (h_page, o_I cB 66 v_page)] := hD
        refine lv_aload_n hx hb dX9_formula_111 rfl (lv_at hl 0 rfl) ?_
        refine lv_iconst (v := 0) hx hb dX9_formula_112 (by decide) ?_
        refine va_put (D := D) (ci := 8) (v := .int 0) (ty := .int) (C := RX9) (T := TX9) (N := 41) hx hb hts inlX9 tyX9 tyX9_ok nmX9 hown hK hP hD hS 0 rfl rfl 14 (by decide) (hts _ m_117) (fun _ h9 => h9) rfl (by decide +kernel) rfl rfl (Nat.le_of_ble_eq_true rfl) dX9_formula_113 (fun H locs hP hD hS => ?_)
        have hP : va_P D vwCl [(h_this, o_X9 v_kind v_worlds h_arrows h_marks v_frames v_pageLength h_signAt h_behind (v_formulas + 1) v_failsTold v_tellsTold v_seen h_seenWhat h_seenCan 0 h_page v_stage v_newKind v_newWorlds v_newFrom v_newLast v_newP v_newQ h_newArrows q1.2 v_many h_to v_pNow v_qNow h_holds h_apart v_seedNow v_keptFrame v_keptKind v_keptWorlds v_keptSeen h_keptArrows h_keptMarks h_keptWhat h_keptCan v_h), (h_signAt, o_I cB 16 a36.2.1), (h_behind, o_I cI 17 a36.2.2), (h_page, o_I cB 66 v_page)] H := hP
        have hD : va_D A [(h_this, o_X9 v_kind v_worlds h_arrows h_marks v_frames v_pageLength h_signAt h_behind (v_formulas + 1) v_failsTold v_tellsTold v_seen h_seenWhat h_seenCan 0 h_page v_stage v_newKind v_newWorlds v_newFrom v_newLast v_newP v_newQ h_newArrows q1.2 v_many h_to v_pNow v_qNow h_holds h_apart v_seedNow v_keptFrame v_keptKind v_keptWorlds v_keptSeen h_keptArrows h_keptMarks h_keptWhat h_keptCan v_h), (h_signAt, o_I cB 16 a36.2.1), (h_behind, o_I cI 17 a36.2.2), (h_page, o_I cB 66 v_page)] := hD
        refine lv_aload_n hx hb dX9_formula_116 rfl (lv_at hl 0 rfl) ?_
        refine va_get (D := D) (ci := 8) (v := .int v_pageLength) (C := RX9) (T := TX9) (N := 41) hx hb hts inlX9 hown hK hP 0 rfl rfl 5 (by decide) (hts _ m_358) (fun _ h9 => h9) rfl dX9_formula_117 ?_
        cases hf
        exact k_iret hx hb hr hlocks hAe hS hP hD dX9_formula_120
      · intro ex36 rc36 hE36 hR36 a36 H locs ls hf hP hD hS hl
        have hP : va_P D vwCl [(h_this, o_X9 v_kind v_worlds h_arrows h_marks v_frames v_pageLength h_signAt h_behind v_formulas v_failsTold v_tellsTold v_seen h_seenWhat h_seenCan v_pageLength h_page v_stage v_newKind v_newWorlds v_newFrom v_newLast v_newP v_newQ h_newArrows q1.2 v_many h_to v_pNow v_qNow h_holds h_apart v_seedNow v_keptFrame v_keptKind v_keptWorlds v_keptSeen h_keptArrows h_keptMarks h_keptWhat h_keptCan v_h), (h_signAt, o_I cB 16 a36.2.1), (h_behind, o_I cI 17 a36.2.2), (h_page, o_I cB 66 v_page)] H := hP
        have hD : va_D A [(h_this, o_X9 v_kind v_worlds h_arrows h_marks v_frames v_pageLength h_signAt h_behind v_formulas v_failsTold v_tellsTold v_seen h_seenWhat h_seenCan v_pageLength h_page v_stage v_newKind v_newWorlds v_newFrom v_newLast v_newP v_newQ h_newArrows q1.2 v_many h_to v_pNow v_qNow h_holds h_apart v_seedNow v_keptFrame v_keptKind v_keptWorlds v_keptSeen h_keptArrows h_keptMarks h_keptWhat h_keptCan v_h), (h_signAt, o_I cB 16 a36.2.1), (h_behind, o_I cI 17 a36.2.2), (h_page, o_I cB 66 v_page)] := hD
        have hl : lv_has ls 5 [(0, .ref h_this), (1, .int a36.1)] := hl
        refine lv_iload_n hx hb dX9_formula_36 rfl (lv_at hl 1 rfl) ?_
        refine lv_if_lt (tgt := 101) hx hb dX9_formula_37 (by decide) (fun c37 => ?_) (fun c37 => ?_)
        · replace hf := k_ifT c37 hf
          exact hE36 _ _ _ _ hf hP hD hS (lv_sub hl [0, 1] rfl)
        · replace hf := k_ifF c37 hf
          refine lv_aload_n hx hb dX9_formula_40 rfl (lv_at hl 0 rfl) ?_
          refine va_get (D := D) (ci := 8) (v := .ref h_signAt) (C := RX9) (T := TX9) (N := 41) hx hb hts inlX9 hown hK hP 0 rfl rfl 6 (by decide) (hts _ m_85) (fun _ h9 => h9) rfl dX9_formula_41 ?_
          refine lv_iload_n hx hb dX9_formula_44 rfl (lv_at hl 1 rfl) ?_
          refine lv_aload_n hx hb dX9_formula_45 rfl (lv_at hl 0 rfl) ?_
          refine va_get (D := D) (ci := 8) (v := .ref h_page) (C := RX9) (T := TX9) (N := 41) hx hb hts inlX9 hown hK hP 0 rfl rfl 15 (by decide) (hts _ m_89) (fun _ h9 => h9) rfl dX9_formula_46 ?_
          refine lv_iload_n hx hb dX9_formula_49 rfl (lv_at hl 1 rfl) ?_
          obtain ⟨hi50, hf⟩ := k_chk_some hf
          refine va_bald (D := D) hx hb hK hP 3 0 rfl rfl hi50 dX9_formula_50 ?_
          obtain ⟨hi51, hf⟩ := k_chk_some hf
          refine va_bast (D := D) hx hb hK hP hD hS 1 0 rfl rfl hi51 dX9_formula_51 (fun H locs hP hD hS => ?_)
          have hP : va_P D vwCl [(h_this, o_X9 v_kind v_worlds h_arrows h_marks v_frames v_pageLength h_signAt h_behind v_formulas v_failsTold v_tellsTold v_seen h_seenWhat h_seenCan v_pageLength h_page v_stage v_newKind v_newWorlds v_newFrom v_newLast v_newP v_newQ h_newArrows q1.2 v_many h_to v_pNow v_qNow h_holds h_apart v_seedNow v_keptFrame v_keptKind v_keptWorlds v_keptSeen h_keptArrows h_keptMarks h_keptWhat h_keptCan v_h), (h_signAt, o_I cB 16 (upd a36.2.1 (Int32.toNatClampNeg a36.1) (vp_nar .byte (v_page (Int32.toNatClampNeg a36.1))))), (h_behind, o_I cI 17 a36.2.2), (h_page, o_I cB 66 v_page)] H := hP
          have hD : va_D A [(h_this, o_X9 v_kind v_worlds h_arrows h_marks v_frames v_pageLength h_signAt h_behind v_formulas v_failsTold v_tellsTold v_seen h_seenWhat h_seenCan v_pageLength h_page v_stage v_newKind v_newWorlds v_newFrom v_newLast v_newP v_newQ h_newArrows q1.2 v_many h_to v_pNow v_qNow h_holds h_apart v_seedNow v_keptFrame v_keptKind v_keptWorlds v_keptSeen h_keptArrows h_keptMarks h_keptWhat h_keptCan v_h), (h_signAt, o_I cB 16 (upd a36.2.1 (Int32.toNatClampNeg a36.1) (vp_nar .byte (v_page (Int32.toNatClampNeg a36.1))))), (h_behind, o_I cI 17 a36.2.2), (h_page, o_I cB 66 v_page)] := hD
          refine lv_aload_n hx hb dX9_formula_52 rfl (lv_at hl 0 rfl) ?_
          refine va_get (D := D) (ci := 8) (v := .ref h_page) (C := RX9) (T := TX9) (N := 41) hx hb hts inlX9 hown hK hP 0 rfl rfl 15 (by decide) (hts _ m_89) (fun _ h9 => h9) rfl dX9_formula_53 ?_
          refine lv_iload_n hx hb dX9_formula_56 rfl (lv_at hl 1 rfl) ?_
          obtain ⟨hi57, hf⟩ := k_chk_some hf
          refine va_bald (D := D) hx hb hK hP 3 0 rfl rfl hi57 dX9_formula_57 ?_
          refine k_calli (wN := [(h_this, o_X9 v_kind v_worlds h_arrows h_marks v_frames v_pageLength h_signAt h_behind v_formulas v_failsTold v_tellsTold v_seen h_seenWhat h_seenCan v_pageLength h_page v_stage v_newKind v_newWorlds v_newFrom v_newLast v_newP v_newQ h_newArrows q1.2 v_many h_to v_pNow v_qNow h_holds h_apart v_seedNow v_keptFrame v_keptKind v_keptWorlds v_keptSeen h_keptArrows h_keptMarks h_keptWhat h_keptCan v_h), (h_signAt, o_I cB 16 (upd a36.2.1 (Int32.toNatClampNeg a36.1) (vp_nar .byte (v_page (Int32.toNatClampNeg a36.1))))), (h_behind, o_I cI 17 a36.2.2), (h_page, o_I cB 66 v_page)]) [] [0, 1, 2, 3] [0, 1, 2, 3] hP hD hS hA (va_runS (As := [.int (v_page (Int32.toNatClampNeg a36.1))]) (rest := []) ⟨hx, hb, hml, hown, hts⟩ (k_X9_partsOf l D cB cI cJ cZ tL tK _ (v_page (Int32.toNatClampNeg a36.1)) (f_X9_partsOf (v_page (Int32.toNatClampNeg a36.1))) rfl) (va_cwS 1 hts (k_gS m_279 m_277 m_278 m_5) rfl rfl rfl (by decide +kernel) ⟨Nat.le_of_ble_eq_true rfl, Nat.le_of_ble_eq_true rfl⟩) (k_preS [] hK hN hZ hP hD hS hA rfl rfl) rfl rfl hl.1 rfl (lv_room (Nat.le_of_ble_eq_true rfl)) dX9_formula_58 ⟨Nat.le_refl _, Nat.le_refl _⟩) rfl rfl rfl rfl rfl (fun H locs hP hD hS => ?_)
          refine lv_istore_n (lv' := [(2, .int (f_X9_partsOf (v_page (Int32.toNatClampNeg a36.1)))), (0, .ref h_this), (1, .int a36.1)]) hx hb dX9_formula_61 rfl hl (by decide) rfl (fun ls hl => ?_)
          refine lv_iload_n hx hb dX9_formula_62 rfl (lv_at hl 2 rfl) ?_
          refine lv_iconst (v := 1) hx hb dX9_formula_63 (by decide) ?_
          refine lv_iadd hx hb dX9_formula_64 ?_
          refine lv_istore_n (lv' := [(3, .int (a36.1 + 1)), (2, .int (f_X9_partsOf (v_page (Int32.toNatClampNeg a36.1)))), (0, .ref h_this), (1, .int a36.1)]) hx hb dX9_formula_65 rfl hl (by decide) rfl (fun ls hl => ?_)
          refine lv_iconst (v := 0) hx hb dX9_formula_66 (by decide) ?_
          refine lv_istore (lv' := [(4, .int 0), (3, .int (a36.1 + 1)), (2, .int (f_X9_partsOf (v_page (Int32.toNatClampNeg a36.1)))), (0, .ref h_this), (1, .int a36.1)]) hx hb dX9_formula_67 hl (by decide) rfl (fun ls hl => ?_)
          refine k_wl 88 (wsf := fun (a69 : Int32 × Int32) => [(h_this, o_X9 v_kind v_worlds h_arrows h_marks v_frames v_pageLength h_signAt h_behind v_formulas v_failsTold v_tellsTold v_seen h_seenWhat h_seenCan v_pageLength h_page v_stage v_newKind v_newWorlds v_newFrom v_newLast v_newP v_newQ h_newArrows q1.2 v_many h_to v_pNow v_qNow h_holds h_apart v_seedNow v_keptFrame v_keptKind v_keptWorlds v_keptSeen h_keptArrows h_keptMarks h_keptWhat h_keptCan v_h), (h_signAt, o_I cB 16 (upd a36.2.1 (Int32.toNatClampNeg a36.1) (vp_nar .byte (v_page (Int32.toNatClampNeg a36.1))))), (h_behind, o_I cI 17 a36.2.2), (h_page, o_I cB 66 v_page)]) (lvf := fun (a69 : Int32 × Int32) => [(0, .ref h_this), (1, .int a36.1), (2, .int (f_X9_partsOf (v_page (Int32.toNatClampNeg a36.1)))), (3, .int a69.1), (4, .int a69.2)]) hf hP hD hS (lv_sub hl [3, 4, 2, 1, 0] rfl) ?_ ?_
          · intro a69 H locs ls hf hP hD hS hl
            have hP : va_P D vwCl [(h_this, o_X9 v_kind v_worlds h_arrows h_marks v_frames v_pageLength h_signAt h_behind v_formulas v_failsTold v_tellsTold v_seen h_seenWhat h_seenCan v_pageLength h_page v_stage v_newKind v_newWorlds v_newFrom v_newLast v_newP v_newQ h_newArrows q1.2 v_many h_to v_pNow v_qNow h_holds h_apart v_seedNow v_keptFrame v_keptKind v_keptWorlds v_keptSeen h_keptArrows h_keptMarks h_keptWhat h_keptCan v_h), (h_signAt, o_I cB 16 (upd a36.2.1 (Int32.toNatClampNeg a36.1) (vp_nar .byte (v_page (Int32.toNatClampNeg a36.1))))), (h_behind, o_I cI 17 a36.2.2), (h_page, o_I cB 66 v_page)] H := hP
            have hD : va_D A [(h_this, o_X9 v_kind v_worlds h_arrows h_marks v_frames v_pageLength h_signAt h_behind v_formulas v_failsTold v_tellsTold v_seen h_seenWhat h_seenCan v_pageLength h_page v_stage v_newKind v_newWorlds v_newFrom v_newLast v_newP v_newQ h_newArrows q1.2 v_many h_to v_pNow v_qNow h_holds h_apart v_seedNow v_keptFrame v_keptKind v_keptWorlds v_keptSeen h_keptArrows h_keptMarks h_keptWhat h_keptCan v_h), (h_signAt, o_I cB 16 (upd a36.2.1 (Int32.toNatClampNeg a36.1) (vp_nar .byte (v_page (Int32.toNatClampNeg a36.1))))), (h_behind, o_I cI 17 a36.2.2), (h_page, o_I cB 66 v_page)] := hD
            have hl : lv_has ls 5 [(0, .ref h_this), (1, .int a36.1), (2, .int (f_X9_partsOf (v_page (Int32.toNatClampNeg a36.1)))), (3, .int a69.1), (4, .int a69.2)] := hl
            refine lv_aload_n hx hb dX9_formula_88 rfl (lv_at hl 0 rfl) ?_
            refine va_get (D := D) (ci := 8) (v := .ref h_behind) (C := RX9) (T := TX9) (N := 41) hx hb hts inlX9 hown hK hP 0 rfl rfl 7 (by decide) (hts _ m_86) (fun _ h9 => h9) rfl dX9_formula_89 ?_
            refine lv_iload_n hx hb dX9_formula_92 rfl (lv_at hl 1 rfl) ?_
            refine lv_iload_n hx hb dX9_formula_93 rfl (lv_at hl 3 rfl) ?_
            obtain ⟨hi94, hf⟩ := k_chk_some hf
            refine va_iast (D := D) hx hb hK hP hD hS 2 1 rfl rfl hi94 dX9_formula_94 (fun H locs hP hD hS => ?_)
            have hP : va_P D vwCl [(h_this, o_X9 v_kind v_worlds h_arrows h_marks v_frames v_pageLength h_signAt h_behind v_formulas v_failsTold v_tellsTold v_seen h_seenWhat h_seenCan v_pageLength h_page v_stage v_newKind v_newWorlds v_newFrom v_newLast v_newP v_newQ h_newArrows q1.2 v_many h_to v_pNow v_qNow h_holds h_apart v_seedNow v_keptFrame v_keptKind v_keptWorlds v_keptSeen h_keptArrows h_keptMarks h_keptWhat h_keptCan v_h), (h_signAt, o_I cB 16 (upd a36.2.1 (Int32.toNatClampNeg a36.1) (vp_nar .byte (v_page (Int32.toNatClampNeg a36.1))))), (h_behind, o_I cI 17 (upd a36.2.2 (Int32.toNatClampNeg a36.1) a69.1)), (h_page, o_I cB 66 v_page)] H := hP
            have hD : va_D A [(h_this, o_X9 v_kind v_worlds h_arrows h_marks v_frames v_pageLength h_signAt h_behind v_formulas v_failsTold v_tellsTold v_seen h_seenWhat h_seenCan v_pageLength h_page v_stage v_newKind v_newWorlds v_newFrom v_newLast v_newP v_newQ h_newArrows q1.2 v_many h_to v_pNow v_qNow h_holds h_apart v_seedNow v_keptFrame v_keptKind v_keptWorlds v_keptSeen h_keptArrows h_keptMarks h_keptWhat h_keptCan v_h), (h_signAt, o_I cB 16 (upd a36.2.1 (Int32.toNatClampNeg a36.1) (vp_nar .byte (v_page (Int32.toNatClampNeg a36.1))))), (h_behind, o_I cI 17 (upd a36.2.2 (Int32.toNatClampNeg a36.1) a69.1)), (h_page, o_I cB 66 v_page)] := hD
            refine lv_iinc (v := (a36.1 + (-1))) (lv' := [(1, .int (a36.1 + (-1))), (0, .ref h_this), (2, .int (f_X9_partsOf (v_page (Int32.toNatClampNeg a36.1)))), (3, .int a69.1), (4, .int a69.2)]) hx hb dX9_formula_95 hl (k := 1) rfl rfl (by decide) rfl (fun ls hl => ?_)
            refine lv_goto (tgt := 36) hx hb dX9_formula_98 (by decide) ?_
            exact hR36 _ _ _ _ hf hP hD hS (lv_sub hl [1, 0] rfl)
          · intro ex69 rc69 hE69 hR69 a69 H locs ls hf hP hD hS hl
            have hP : va_P D vwCl [(h_this, o_X9 v_kind v_worlds h_arrows h_marks v_frames v_pageLength h_signAt h_behind v_formulas v_failsTold v_tellsTold v_seen h_seenWhat h_seenCan v_pageLength h_page v_stage v_newKind v_newWorlds v_newFrom v_newLast v_newP v_newQ h_newArrows q1.2 v_many h_to v_pNow v_qNow h_holds h_apart v_seedNow v_keptFrame v_keptKind v_keptWorlds v_keptSeen h_keptArrows h_keptMarks h_keptWhat h_keptCan v_h), (h_signAt, o_I cB 16 (upd a36.2.1 (Int32.toNatClampNeg a36.1) (vp_nar .byte (v_page (Int32.toNatClampNeg a36.1))))), (h_behind, o_I cI 17 a36.2.2), (h_page, o_I cB 66 v_page)] H := hP
            have hD : va_D A [(h_this, o_X9 v_kind v_worlds h_arrows h_marks v_frames v_pageLength h_signAt h_behind v_formulas v_failsTold v_tellsTold v_seen h_seenWhat h_seenCan v_pageLength h_page v_stage v_newKind v_newWorlds v_newFrom v_newLast v_newP v_newQ h_newArrows q1.2 v_many h_to v_pNow v_qNow h_holds h_apart v_seedNow v_keptFrame v_keptKind v_keptWorlds v_keptSeen h_keptArrows h_keptMarks h_keptWhat h_keptCan v_h), (h_signAt, o_I cB 16 (upd a36.2.1 (Int32.toNatClampNeg a36.1) (vp_nar .byte (v_page (Int32.toNatClampNeg a36.1))))), (h_behind, o_I cI 17 a36.2.2), (h_page, o_I cB 66 v_page)] := hD
            have hl : lv_has ls 5 [(0, .ref h_this), (1, .int a36.1), (2, .int (f_X9_partsOf (v_page (Int32.toNatClampNeg a36.1)))), (3, .int a69.1), (4, .int a69.2)] := hl
            refine lv_iload hx hb dX9_formula_69 (lv_at hl 4 rfl) ?_
            refine lv_iload_n hx hb dX9_formula_71 rfl (lv_at hl 2 rfl) ?_
            refine lv_icmp_ge (tgt := 88) hx hb dX9_formula_72 (by decide) (fun c72 => ?_) (fun c72 => ?_)
            · replace hf := k_ifT c72 hf
              exact hE69 _ _ _ _ hf hP hD hS (lv_sub hl [0, 1, 2, 3, 4] rfl)
            · replace hf := k_ifF c72 hf
              refine lv_aload_n hx hb dX9_formula_75 rfl (lv_at hl 0 rfl) ?_
              refine va_get (D := D) (ci := 8) (v := .ref h_behind) (C := RX9) (T := TX9) (N := 41) hx hb hts inlX9 hown hK hP 0 rfl rfl 7 (by decide) (hts _ m_86) (fun _ h9 => h9) rfl dX9_formula_76 ?_
              refine lv_iload_n hx hb dX9_formula_79 rfl (lv_at hl 3 rfl) ?_
              obtain ⟨hi80, hf⟩ := k_chk_some hf
              refine va_iald (D := D) hx hb hK hP 2 1 rfl rfl hi80 dX9_formula_80 ?_
              refine lv_istore_n (lv' := [(3, .int (a36.2.2 (Int32.toNatClampNeg a69.1))), (0, .ref h_this), (1, .int a36.1), (2, .int (f_X9_partsOf (v_page (Int32.toNatClampNeg a36.1)))), (4, .int a69.2)]) hx hb dX9_formula_81 rfl hl (by decide) rfl (fun ls hl => ?_)
              refine lv_iinc (v := (a69.2 + 1)) (lv' := [(4, .int (a69.2 + 1)), (3, .int (a36.2.2 (Int32.toNatClampNeg a69.1))), (0, .ref h_this), (1, .int a36.1), (2, .int (f_X9_partsOf (v_page (Int32.toNatClampNeg a36.1))))]) hx hb dX9_formula_82 hl (k := 4) rfl rfl (by decide) rfl (fun ls hl => ?_)
              refine lv_goto (tgt := 69) hx hb dX9_formula_85 (by decide) ?_
              exact hR69 _ _ _ _ hf hP hD hS (lv_sub hl [2, 3, 4, 1, 0] rfl)
    · replace hf := k_ifF c15 hf
      refine lv_bipush (v := (-103)) hx hb dX9_formula_18 (by decide) ?_
      cases hf
      exact k_iret hx hb hr hlocks hAe hS hP hD dX9_formula_20
set_option maxHeartbeats 4000000 in
set_option maxRecDepth 100000 in
theorem k_X9_isFrame (l : Launch) (D : va_G) (cB cI cJ cZ : ClassId) (tL tK : Nat) (h_this h_arrows h_marks h_signAt h_behind h_seenWhat h_seenCan h_page h_newArrows h_to h_holds h_apart h_keptArrows h_keptMarks h_keptWhat h_keptCan : Nat) (sz : Nat) (v_kind : Int32) (v_worlds : Int32) (v_frames : Int32) (v_signs : Int32) (v_formulas : Int32) (v_failsTold : Int32) (v_tellsTold : Int32) (v_seen : Int32) (v_pageLength : Int32) (v_stage : Int32) (v_newKind : Int32) (v_newWorlds : Int32) (v_newFrom : Int32) (v_newLast : Int32) (v_newP : Int32) (v_newQ : Int32) (v_wanted : Int32) (v_many : Int32) (v_pNow : Int32) (v_qNow : Int32) (v_seedNow : Int64) (v_keptFrame : Int32) (v_keptKind : Int32) (v_keptWorlds : Int32) (v_keptSeen : Int32) (v_h : Int64)  (q : Int32) (hf : f_X9_isFrame v_worlds = q) : Met l yX9_isFrame (.code yX9_isFrame cX9_isFrame 1 (some .boolean) :: k_all) { frames := 0, cells := 0, slots := 0, locals := 0 } (k_P D cB cI cJ cZ tL tK [.ref h_this] [(h_this, o_X9 v_kind v_worlds h_arrows h_marks v_frames v_signs h_signAt h_behind v_formulas v_failsTold v_tellsTold v_seen h_seenWhat h_seenCan v_pageLength h_page v_stage v_newKind v_newWorlds v_newFrom v_newLast v_newP v_newQ h_newArrows v_wanted v_many h_to v_pNow v_qNow h_holds h_apart v_seedNow v_keptFrame v_keptKind v_keptWorlds v_keptSeen h_keptArrows h_keptMarks h_keptWhat h_keptCan v_h)] sz) (k_I D q [(h_this, o_X9 v_kind v_worlds h_arrows h_marks v_frames v_signs h_signAt h_behind v_formulas v_failsTold v_tellsTold v_seen h_seenWhat h_seenCan v_pageLength h_page v_stage v_newKind v_newWorlds v_newFrom v_newLast v_newP v_newQ h_newArrows v_wanted v_many h_to v_pNow v_qNow h_holds h_apart v_seedNow v_keptFrame v_keptKind v_keptWorlds v_keptSeen h_keptArrows h_keptMarks h_keptWhat h_keptCan v_h)] [(h_this, o_X9 v_kind v_worlds h_arrows h_marks v_frames v_signs h_signAt h_behind v_formulas v_failsTold v_tellsTold v_seen h_seenWhat h_seenCan v_pageLength h_page v_stage v_newKind v_newWorlds v_newFrom v_newLast v_newP v_newQ h_newArrows v_wanted v_many h_to v_pNow v_qNow h_holds h_apart v_seedNow v_keptFrame v_keptKind v_keptWorlds v_keptSeen h_keptArrows h_keptMarks h_keptWhat h_keptCan v_h)] sz) 0 0 (va_A [(h_this, o_X9 v_kind v_worlds h_arrows h_marks v_frames v_signs h_signAt h_behind v_formulas v_failsTold v_tellsTold v_seen h_seenWhat h_seenCan v_pageLength h_page v_stage v_newKind v_newWorlds v_newFrom v_newLast v_newP v_newQ h_newArrows v_wanted v_many h_to v_pNow v_qNow h_holds h_apart v_seedNow v_keptFrame v_keptKind v_keptWorlds v_keptSeen h_keptArrows h_keptMarks h_keptWhat h_keptCan v_h)] sz) := by
  unfold f_X9_isFrame at hf
  refine k_met RX9 rfl (by decide +kernel) (Nat.le_of_ble_eq_true rfl) ?_
  intro p e s m below meth c A ls hx hb hr hml hown hts hlocks hin hsz hAe hA hK hN hZ hD hS hP hl
  have hl : lv_has ls 1 [(0, .ref h_this)] := hl
  refine lv_aload_n hx hb dX9_isFrame_0 rfl (lv_at hl 0 rfl) ?_
  refine va_get (D := D) (ci := 8) (v := .int v_worlds) (C := RX9) (T := TX9) (N := 41) hx hb hts inlX9 hown hK hP 0 rfl rfl 1 (by decide) (hts _ m_319) (fun _ h9 => h9) rfl dX9_isFrame_1 ?_
  refine lv_if_le (tgt := 11) hx hb dX9_isFrame_4 (by decide) (fun c4 => ?_) (fun c4 => ?_)
  · replace hf := k_ifT c4 hf
    refine lv_iconst (v := 0) hx hb dX9_isFrame_11 (by decide) ?_
    subst hf
    exact k_zret (r := 0) hx hb hr rfl hlocks hAe hS hP hD dX9_isFrame_12
  · replace hf := k_ifF c4 hf
    refine lv_iconst (v := 1) hx hb dX9_isFrame_7 (by decide) ?_
    refine lv_goto (tgt := 12) hx hb dX9_isFrame_8 (by decide) ?_
    subst hf
    exact k_zret (r := 1) hx hb hr rfl hlocks hAe hS hP hD dX9_isFrame_12
set_option maxHeartbeats 4000000 in
set_option maxRecDepth 100000 in
theorem k_X9_allArrows (l : Launch) (D : va_G) (cB cI cJ cZ : ClassId) (tL tK : Nat) (h_this h_arrows h_marks h_signAt h_behind h_seenWhat h_seenCan h_page h_newArrows h_to h_holds h_apart h_keptArrows h_keptMarks h_keptWhat h_keptCan : Nat) (sz : Nat) (v_kind : Int32) (v_worlds : Int32) (v_frames : Int32) (v_signs : Int32) (v_formulas : Int32) (v_failsTold : Int32) (v_tellsTold : Int32) (v_seen : Int32) (v_pageLength : Int32) (v_stage : Int32) (v_newKind : Int32) (v_newWorlds : Int32) (v_newFrom : Int32) (v_newLast : Int32) (v_newP : Int32) (v_newQ : Int32) (v_wanted : Int32) (v_many : Int32) (v_pNow : Int32) (v_qNow : Int32) (v_seedNow : Int64) (v_keptFrame : Int32) (v_keptKind : Int32) (v_keptWorlds : Int32) (v_keptSeen : Int32) (v_h : Int64) (v_arrows : (Nat → Int32))  (q : Int32) (hf : f_X9_allArrows v_arrows = some q) : Met l yX9_allArrows (.code yX9_allArrows cX9_allArrows 3 (some .int) :: k_all) { frames := 0, cells := 0, slots := 0, locals := 0 } (k_P D cB cI cJ cZ tL tK [.ref h_this] [(h_this, o_X9 v_kind v_worlds h_arrows h_marks v_frames v_signs h_signAt h_behind v_formulas v_failsTold v_tellsTold v_seen h_seenWhat h_seenCan v_pageLength h_page v_stage v_newKind v_newWorlds v_newFrom v_newLast v_newP v_newQ h_newArrows v_wanted v_many h_to v_pNow v_qNow h_holds h_apart v_seedNow v_keptFrame v_keptKind v_keptWorlds v_keptSeen h_keptArrows h_keptMarks h_keptWhat h_keptCan v_h), (h_arrows, o_I cZ 16 v_arrows)] sz) (k_I D q [(h_this, o_X9 v_kind v_worlds h_arrows h_marks v_frames v_signs h_signAt h_behind v_formulas v_failsTold v_tellsTold v_seen h_seenWhat h_seenCan v_pageLength h_page v_stage v_newKind v_newWorlds v_newFrom v_newLast v_newP v_newQ h_newArrows v_wanted v_many h_to v_pNow v_qNow h_holds h_apart v_seedNow v_keptFrame v_keptKind v_keptWorlds v_keptSeen h_keptArrows h_keptMarks h_keptWhat h_keptCan v_h), (h_arrows, o_I cZ 16 v_arrows)] [(h_this, o_X9 v_kind v_worlds h_arrows h_marks v_frames v_signs h_signAt h_behind v_formulas v_failsTold v_tellsTold v_seen h_seenWhat h_seenCan v_pageLength h_page v_stage v_newKind v_newWorlds v_newFrom v_newLast v_newP v_newQ h_newArrows v_wanted v_many h_to v_pNow v_qNow h_holds h_apart v_seedNow v_keptFrame v_keptKind v_keptWorlds v_keptSeen h_keptArrows h_keptMarks h_keptWhat h_keptCan v_h), (h_arrows, o_I cZ 16 v_arrows)] sz) 0 0 (va_A [(h_this, o_X9 v_kind v_worlds h_arrows h_marks v_frames v_signs h_signAt h_behind v_formulas v_failsTold v_tellsTold v_seen h_seenWhat h_seenCan v_pageLength h_page v_stage v_newKind v_newWorlds v_newFrom v_newLast v_newP v_newQ h_newArrows v_wanted v_many h_to v_pNow v_qNow h_holds h_apart v_seedNow v_keptFrame v_keptKind v_keptWorlds v_keptSeen h_keptArrows h_keptMarks h_keptWhat h_keptCan v_h), (h_arrows, o_I cZ 16 v_arrows)] sz) := by
  unfold f_X9_allArrows at hf
  refine k_met RX9 rfl (by decide +kernel) (Nat.le_of_ble_eq_true rfl) ?_
  intro p e s m below meth c A ls hx hb hr hml hown hts hlocks hin hsz hAe hA hK hN hZ hD hS hP hl
  have hl : lv_has ls 3 [(0, .ref h_this)] := hl
  refine lv_iconst (v := 0) hx hb dX9_allArrows_0 (by decide) ?_
  refine lv_istore_n (lv' := [(1, .int 0), (0, .ref h_this)]) hx hb dX9_allArrows_1 rfl hl (by decide) rfl (fun ls hl => ?_)
  refine lv_iconst (v := 0) hx hb dX9_allArrows_2 (by decide) ?_
  refine lv_istore_n (lv' := [(2, .int 0), (1, .int 0), (0, .ref h_this)]) hx hb dX9_allArrows_3 rfl hl (by decide) rfl (fun ls hl => ?_)
  refine k_wl 33 (wsf := fun (a4 : Int32 × Int32) => [(h_this, o_X9 v_kind v_worlds h_arrows h_marks v_frames v_signs h_signAt h_behind v_formulas v_failsTold v_tellsTold v_seen h_seenWhat h_seenCan v_pageLength h_page v_stage v_newKind v_newWorlds v_newFrom v_newLast v_newP v_newQ h_newArrows v_wanted v_many h_to v_pNow v_qNow h_holds h_apart v_seedNow v_keptFrame v_keptKind v_keptWorlds v_keptSeen h_keptArrows h_keptMarks h_keptWhat h_keptCan v_h), (h_arrows, o_I cZ 16 v_arrows)]) (lvf := fun (a4 : Int32 × Int32) => [(0, .ref h_this), (1, .int a4.1), (2, .int a4.2)]) hf hP hD hS (lv_sub hl [2, 1, 0] rfl) ?_ ?_
  · intro a4 H locs ls hf hP hD hS hl
    have hP : va_P D vwCl [(h_this, o_X9 v_kind v_worlds h_arrows h_marks v_frames v_signs h_signAt h_behind v_formulas v_failsTold v_tellsTold v_seen h_seenWhat h_seenCan v_pageLength h_page v_stage v_newKind v_newWorlds v_newFrom v_newLast v_newP v_newQ h_newArrows v_wanted v_many h_to v_pNow v_qNow h_holds h_apart v_seedNow v_keptFrame v_keptKind v_keptWorlds v_keptSeen h_keptArrows h_keptMarks h_keptWhat h_keptCan v_h), (h_arrows, o_I cZ 16 v_arrows)] H := hP
    have hD : va_D A [(h_this, o_X9 v_kind v_worlds h_arrows h_marks v_frames v_signs h_signAt h_behind v_formulas v_failsTold v_tellsTold v_seen h_seenWhat h_seenCan v_pageLength h_page v_stage v_newKind v_newWorlds v_newFrom v_newLast v_newP v_newQ h_newArrows v_wanted v_many h_to v_pNow v_qNow h_holds h_apart v_seedNow v_keptFrame v_keptKind v_keptWorlds v_keptSeen h_keptArrows h_keptMarks h_keptWhat h_keptCan v_h), (h_arrows, o_I cZ 16 v_arrows)] := hD
    have hl : lv_has ls 3 [(0, .ref h_this), (1, .int a4.1), (2, .int a4.2)] := hl
    refine lv_iload_n hx hb dX9_allArrows_33 rfl (lv_at hl 1 rfl) ?_
    cases hf
    exact k_iret hx hb hr hlocks hAe hS hP hD dX9_allArrows_34
  · intro ex4 rc4 hE4 hR4 a4 H locs ls hf hP hD hS hl
    have hP : va_P D vwCl [(h_this, o_X9 v_kind v_worlds h_arrows h_marks v_frames v_signs h_signAt h_behind v_formulas v_failsTold v_tellsTold v_seen h_seenWhat h_seenCan v_pageLength h_page v_stage v_newKind v_newWorlds v_newFrom v_newLast v_newP v_newQ h_newArrows v_wanted v_many h_to v_pNow v_qNow h_holds h_apart v_seedNow v_keptFrame v_keptKind v_keptWorlds v_keptSeen h_keptArrows h_keptMarks h_keptWhat h_keptCan v_h), (h_arrows, o_I cZ 16 v_arrows)] H := hP
    have hD : va_D A [(h_this, o_X9 v_kind v_worlds h_arrows h_marks v_frames v_signs h_signAt h_behind v_formulas v_failsTold v_tellsTold v_seen h_seenWhat h_seenCan v_pageLength h_page v_stage v_newKind v_newWorlds v_newFrom v_newLast v_newP v_newQ h_newArrows v_wanted v_many h_to v_pNow v_qNow h_holds h_apart v_seedNow v_keptFrame v_keptKind v_keptWorlds v_keptSeen h_keptArrows h_keptMarks h_keptWhat h_keptCan v_h), (h_arrows, o_I cZ 16 v_arrows)] := hD
    have hl : lv_has ls 3 [(0, .ref h_this), (1, .int a4.1), (2, .int a4.2)] := hl
    refine lv_iload_n hx hb dX9_allArrows_4 rfl (lv_at hl 2 rfl) ?_
    refine lv_bipush (v := 16) hx hb dX9_allArrows_5 (by decide) ?_
    refine lv_icmp_ge (tgt := 33) hx hb dX9_allArrows_7 (by decide) (fun c7 => ?_) (fun c7 => ?_)
    · replace hf := k_ifT c7 hf
      exact hE4 _ _ _ _ hf hP hD hS (lv_sub hl [0, 1, 2] rfl)
    · replace hf := k_ifF c7 hf
      refine lv_iload_n hx hb dX9_allArrows_10 rfl (lv_at hl 1 rfl) ?_
      refine lv_aload_n hx hb dX9_allArrows_11 rfl (lv_at hl 0 rfl) ?_
      refine va_get (D := D) (ci := 8) (v := .ref h_arrows) (C := RX9) (T := TX9) (N := 41) hx hb hts inlX9 hown hK hP 0 rfl rfl 2 (by decide) (hts _ m_82) (fun _ h9 => h9) rfl dX9_allArrows_12 ?_
      refine lv_iload_n hx hb dX9_allArrows_15 rfl (lv_at hl 2 rfl) ?_
      obtain ⟨hi16, hf⟩ := k_chk_some hf
      refine va_zald (D := D) hx hb hK hP 1 3 rfl rfl hi16 dX9_allArrows_16 ?_
      refine lv_if_eq (tgt := 24) hx hb dX9_allArrows_17 (by decide) (fun c17 => ?_) (fun c17 => ?_)
      · replace hf := k_ifT c17 hf
        refine lv_iconst (v := 0) hx hb dX9_allArrows_24 (by decide) ?_
        refine lv_iadd hx hb dX9_allArrows_25 ?_
        refine lv_istore_n (lv' := [(1, .int (a4.1 + 0)), (0, .ref h_this), (2, .int a4.2)]) hx hb dX9_allArrows_26 rfl hl (by decide) rfl (fun ls hl => ?_)
        refine lv_iinc (v := (a4.2 + 1)) (lv' := [(2, .int (a4.2 + 1)), (1, .int (a4.1 + 0)), (0, .ref h_this)]) hx hb dX9_allArrows_27 hl (k := 2) rfl rfl (by decide) rfl (fun ls hl => ?_)
        refine lv_goto (tgt := 4) hx hb dX9_allArrows_30 (by decide) ?_
        exact hR4 _ _ _ _ hf hP hD hS (lv_sub hl [2, 1, 0] rfl)
      · replace hf := k_ifF c17 hf
        refine lv_iconst (v := 1) hx hb dX9_allArrows_20 (by decide) ?_
        refine lv_goto (tgt := 25) hx hb dX9_allArrows_21 (by decide) ?_
        refine lv_iadd hx hb dX9_allArrows_25 ?_
        refine lv_istore_n (lv' := [(1, .int (a4.1 + 1)), (0, .ref h_this), (2, .int a4.2)]) hx hb dX9_allArrows_26 rfl hl (by decide) rfl (fun ls hl => ?_)
        refine lv_iinc (v := (a4.2 + 1)) (lv' := [(2, .int (a4.2 + 1)), (1, .int (a4.1 + 1)), (0, .ref h_this)]) hx hb dX9_allArrows_27 hl (k := 2) rfl rfl (by decide) rfl (fun ls hl => ?_)
        refine lv_goto (tgt := 4) hx hb dX9_allArrows_30 (by decide) ?_
        exact hR4 _ _ _ _ hf hP hD hS (lv_sub hl [2, 1, 0] rfl)
set_option maxHeartbeats 4000000 in
set_option maxRecDepth 100000 in
theorem k_X9_layFrame (l : Launch) (D : va_G) (cB cI cJ cZ : ClassId) (tL tK : Nat) (h_this h_arrows h_marks h_signAt h_behind h_seenWhat h_seenCan h_page h_newArrows h_to h_holds h_apart h_keptArrows h_keptMarks h_keptWhat h_keptCan : Nat) (sz : Nat) (v_kind : Int32) (v_worlds : Int32) (v_frames : Int32) (v_signs : Int32) (v_formulas : Int32) (v_failsTold : Int32) (v_tellsTold : Int32) (v_seen : Int32) (v_pageLength : Int32) (v_stage : Int32) (v_newKind : Int32) (v_newWorlds : Int32) (v_newFrom : Int32) (v_newLast : Int32) (v_newP : Int32) (v_newQ : Int32) (v_wanted : Int32) (v_many : Int32) (v_pNow : Int32) (v_qNow : Int32) (v_seedNow : Int64) (v_keptFrame : Int32) (v_keptKind : Int32) (v_keptWorlds : Int32) (v_keptSeen : Int32) (v_h : Int64) (v_arrows : (Nat → Int32)) (v_marks : (Nat → Int32)) (v_to : (Nat → Int32))  (q : Int32 × Int32 × Int32 × (Nat → Int32)) (hf : f_X9_layFrame v_worlds v_many v_pNow v_qNow v_arrows v_marks v_to = some q) : Met l yX9_layFrame (.code yX9_layFrame cX9_layFrame 3 none :: k_all) { frames := 0, cells := 0, slots := 0, locals := 0 } (k_P D cB cI cJ cZ tL tK [.ref h_this] [(h_this, o_X9 v_kind v_worlds h_arrows h_marks v_frames v_signs h_signAt h_behind v_formulas v_failsTold v_tellsTold v_seen h_seenWhat h_seenCan v_pageLength h_page v_stage v_newKind v_newWorlds v_newFrom v_newLast v_newP v_newQ h_newArrows v_wanted v_many h_to v_pNow v_qNow h_holds h_apart v_seedNow v_keptFrame v_keptKind v_keptWorlds v_keptSeen h_keptArrows h_keptMarks h_keptWhat h_keptCan v_h), (h_arrows, o_I cZ 16 v_arrows), (h_marks, o_I cI 4 v_marks), (h_to, o_I cI 4 v_to)] sz) (k_V D [(h_this, o_X9 v_kind v_worlds h_arrows h_marks v_frames v_signs h_signAt h_behind v_formulas v_failsTold v_tellsTold v_seen h_seenWhat h_seenCan v_pageLength h_page v_stage v_newKind v_newWorlds v_newFrom v_newLast v_newP v_newQ h_newArrows v_wanted v_many h_to v_pNow v_qNow h_holds h_apart v_seedNow v_keptFrame v_keptKind v_keptWorlds v_keptSeen h_keptArrows h_keptMarks h_keptWhat h_keptCan v_h), (h_arrows, o_I cZ 16 v_arrows), (h_marks, o_I cI 4 v_marks), (h_to, o_I cI 4 v_to)] [(h_this, o_X9 v_kind v_worlds h_arrows h_marks v_frames v_signs h_signAt h_behind v_formulas v_failsTold v_tellsTold v_seen h_seenWhat h_seenCan v_pageLength h_page v_stage v_newKind v_newWorlds v_newFrom v_newLast v_newP v_newQ h_newArrows v_wanted q.1 h_to q.2.1 q.2.2.1 h_holds h_apart v_seedNow v_keptFrame v_keptKind v_keptWorlds v_keptSeen h_keptArrows h_keptMarks h_keptWhat h_keptCan v_h), (h_arrows, o_I cZ 16 v_arrows), (h_marks, o_I cI 4 v_marks), (h_to, o_I cI 4 q.2.2.2)] sz) 0 0 (va_A [(h_this, o_X9 v_kind v_worlds h_arrows h_marks v_frames v_signs h_signAt h_behind v_formulas v_failsTold v_tellsTold v_seen h_seenWhat h_seenCan v_pageLength h_page v_stage v_newKind v_newWorlds v_newFrom v_newLast v_newP v_newQ h_newArrows v_wanted v_many h_to v_pNow v_qNow h_holds h_apart v_seedNow v_keptFrame v_keptKind v_keptWorlds v_keptSeen h_keptArrows h_keptMarks h_keptWhat h_keptCan v_h), (h_arrows, o_I cZ 16 v_arrows), (h_marks, o_I cI 4 v_marks), (h_to, o_I cI 4 v_to)] sz) := by
  unfold f_X9_layFrame at hf
  refine k_met RX9 rfl (by decide +kernel) (Nat.le_of_ble_eq_true rfl) ?_
  intro p e s m below meth c A ls hx hb hr hml hown hts hlocks hin hsz hAe hA hK hN hZ hD hS hP hl
  have hl : lv_has ls 3 [(0, .ref h_this)] := hl
  refine lv_aload_n hx hb dX9_layFrame_0 rfl (lv_at hl 0 rfl) ?_
  refine lv_aload_n hx hb dX9_layFrame_1 rfl (lv_at hl 0 rfl) ?_
  refine va_get (D := D) (ci := 8) (v := .int v_worlds) (C := RX9) (T := TX9) (N := 41) hx hb hts inlX9 hown hK hP 0 rfl rfl 1 (by decide) (hts _ m_319) (fun _ h9 => h9) rfl dX9_layFrame_2 ?_
  refine va_put (D := D) (ci := 8) (v := .int v_worlds) (ty := .int) (C := RX9) (T := TX9) (N := 41) hx hb hts inlX9 tyX9 tyX9_ok nmX9 hown hK hP hD hS 0 rfl rfl 25 (by decide) (hts _ m_461) (fun _ h9 => h9) rfl (by decide +kernel) rfl rfl (Nat.le_of_ble_eq_true rfl) dX9_layFrame_5 (fun H locs hP hD hS => ?_)
  have hP : va_P D vwCl [(h_this, o_X9 v_kind v_worlds h_arrows h_marks v_frames v_signs h_signAt h_behind v_formulas v_failsTold v_tellsTold v_seen h_seenWhat h_seenCan v_pageLength h_page v_stage v_newKind v_newWorlds v_newFrom v_newLast v_newP v_newQ h_newArrows v_wanted v_worlds h_to v_pNow v_qNow h_holds h_apart v_seedNow v_keptFrame v_keptKind v_keptWorlds v_keptSeen h_keptArrows h_keptMarks h_keptWhat h_keptCan v_h), (h_arrows, o_I cZ 16 v_arrows), (h_marks, o_I cI 4 v_marks), (h_to, o_I cI 4 v_to)] H := hP
  have hD : va_D A [(h_this, o_X9 v_kind v_worlds h_arrows h_marks v_frames v_signs h_signAt h_behind v_formulas v_failsTold v_tellsTold v_seen h_seenWhat h_seenCan v_pageLength h_page v_stage v_newKind v_newWorlds v_newFrom v_newLast v_newP v_newQ h_newArrows v_wanted v_worlds h_to v_pNow v_qNow h_holds h_apart v_seedNow v_keptFrame v_keptKind v_keptWorlds v_keptSeen h_keptArrows h_keptMarks h_keptWhat h_keptCan v_h), (h_arrows, o_I cZ 16 v_arrows), (h_marks, o_I cI 4 v_marks), (h_to, o_I cI 4 v_to)] := hD
  refine lv_aload_n hx hb dX9_layFrame_8 rfl (lv_at hl 0 rfl) ?_
  refine lv_iconst (v := 0) hx hb dX9_layFrame_9 (by decide) ?_
  refine va_put (D := D) (ci := 8) (v := .int 0) (ty := .int) (C := RX9) (T := TX9) (N := 41) hx hb hts inlX9 tyX9 tyX9_ok nmX9 hown hK hP hD hS 0 rfl rfl 27 (by decide) (hts _ m_462) (fun _ h9 => h9) rfl (by decide +kernel) rfl rfl (Nat.le_of_ble_eq_true rfl) dX9_layFrame_10 (fun H locs hP hD hS => ?_)
  have hP : va_P D vwCl [(h_this, o_X9 v_kind v_worlds h_arrows h_marks v_frames v_signs h_signAt h_behind v_formulas v_failsTold v_tellsTold v_seen h_seenWhat h_seenCan v_pageLength h_page v_stage v_newKind v_newWorlds v_newFrom v_newLast v_newP v_newQ h_newArrows v_wanted v_worlds h_to 0 v_qNow h_holds h_apart v_seedNow v_keptFrame v_keptKind v_keptWorlds v_keptSeen h_keptArrows h_keptMarks h_keptWhat h_keptCan v_h), (h_arrows, o_I cZ 16 v_arrows), (h_marks, o_I cI 4 v_marks), (h_to, o_I cI 4 v_to)] H := hP
  have hD : va_D A [(h_this, o_X9 v_kind v_worlds h_arrows h_marks v_frames v_signs h_signAt h_behind v_formulas v_failsTold v_tellsTold v_seen h_seenWhat h_seenCan v_pageLength h_page v_stage v_newKind v_newWorlds v_newFrom v_newLast v_newP v_newQ h_newArrows v_wanted v_worlds h_to 0 v_qNow h_holds h_apart v_seedNow v_keptFrame v_keptKind v_keptWorlds v_keptSeen h_keptArrows h_keptMarks h_keptWhat h_keptCan v_h), (h_arrows, o_I cZ 16 v_arrows), (h_marks, o_I cI 4 v_marks), (h_to, o_I cI 4 v_to)] := hD
  refine lv_aload_n hx hb dX9_layFrame_13 rfl (lv_at hl 0 rfl) ?_
  refine lv_iconst (v := 0) hx hb dX9_layFrame_14 (by decide) ?_
  refine va_put (D := D) (ci := 8) (v := .int 0) (ty := .int) (C := RX9) (T := TX9) (N := 41) hx hb hts inlX9 tyX9 tyX9_ok nmX9 hown hK hP hD hS 0 rfl rfl 28 (by decide) (hts _ m_463) (fun _ h9 => h9) rfl (by decide +kernel) rfl rfl (Nat.le_of_ble_eq_true rfl) dX9_layFrame_15 (fun H locs hP hD hS => ?_)
  have hP : va_P D vwCl [(h_this, o_X9 v_kind v_worlds h_arrows h_marks v_frames v_signs h_signAt h_behind v_formulas v_failsTold v_tellsTold v_seen h_seenWhat h_seenCan v_pageLength h_page v_stage v_newKind v_newWorlds v_newFrom v_newLast v_newP v_newQ h_newArrows v_wanted v_worlds h_to 0 0 h_holds h_apart v_seedNow v_keptFrame v_keptKind v_keptWorlds v_keptSeen h_keptArrows h_keptMarks h_keptWhat h_keptCan v_h), (h_arrows, o_I cZ 16 v_arrows), (h_marks, o_I cI 4 v_marks), (h_to, o_I cI 4 v_to)] H := hP
  have hD : va_D A [(h_this, o_X9 v_kind v_worlds h_arrows h_marks v_frames v_signs h_signAt h_behind v_formulas v_failsTold v_tellsTold v_seen h_seenWhat h_seenCan v_pageLength h_page v_stage v_newKind v_newWorlds v_newFrom v_newLast v_newP v_newQ h_newArrows v_wanted v_worlds h_to 0 0 h_holds h_apart v_seedNow v_keptFrame v_keptKind v_keptWorlds v_keptSeen h_keptArrows h_keptMarks h_keptWhat h_keptCan v_h), (h_arrows, o_I cZ 16 v_arrows), (h_marks, o_I cI 4 v_marks), (h_to, o_I cI 4 v_to)] := hD
  refine lv_iconst (v := 0) hx hb dX9_layFrame_18 (by decide) ?_
  refine lv_istore_n (lv' := [(1, .int 0), (0, .ref h_this)]) hx hb dX9_layFrame_19 rfl hl (by decide) rfl (fun ls hl => ?_)
  refine k_wl 124 (wsf := fun (a20 : Int32 × Int32 × Int32 × (Nat → Int32)) => [(h_this, o_X9 v_kind v_worlds h_arrows h_marks v_frames v_signs h_signAt h_behind v_formulas v_failsTold v_tellsTold v_seen h_seenWhat h_seenCan v_pageLength h_page v_stage v_newKind v_newWorlds v_newFrom v_newLast v_newP v_newQ h_newArrows v_wanted v_worlds h_to a20.2.1 a20.2.2.1 h_holds h_apart v_seedNow v_keptFrame v_keptKind v_keptWorlds v_keptSeen h_keptArrows h_keptMarks h_keptWhat h_keptCan v_h), (h_arrows, o_I cZ 16 v_arrows), (h_marks, o_I cI 4 v_marks), (h_to, o_I cI 4 a20.2.2.2)]) (lvf := fun (a20 : Int32 × Int32 × Int32 × (Nat → Int32)) => [(0, .ref h_this), (1, .int a20.1)]) hf hP hD hS (lv_sub hl [1, 0] rfl) ?_ ?_
  · intro a20 H locs ls hf hP hD hS hl
    have hP : va_P D vwCl [(h_this, o_X9 v_kind v_worlds h_arrows h_marks v_frames v_signs h_signAt h_behind v_formulas v_failsTold v_tellsTold v_seen h_seenWhat h_seenCan v_pageLength h_page v_stage v_newKind v_newWorlds v_newFrom v_newLast v_newP v_newQ h_newArrows v_wanted v_worlds h_to a20.2.1 a20.2.2.1 h_holds h_apart v_seedNow v_keptFrame v_keptKind v_keptWorlds v_keptSeen h_keptArrows h_keptMarks h_keptWhat h_keptCan v_h), (h_arrows, o_I cZ 16 v_arrows), (h_marks, o_I cI 4 v_marks), (h_to, o_I cI 4 a20.2.2.2)] H := hP
    have hD : va_D A [(h_this, o_X9 v_kind v_worlds h_arrows h_marks v_frames v_signs h_signAt h_behind v_formulas v_failsTold v_tellsTold v_seen h_seenWhat h_seenCan v_pageLength h_page v_stage v_newKind v_newWorlds v_newFrom v_newLast v_newP v_newQ h_newArrows v_wanted v_worlds h_to a20.2.1 a20.2.2.1 h_holds h_apart v_seedNow v_keptFrame v_keptKind v_keptWorlds v_keptSeen h_keptArrows h_keptMarks h_keptWhat h_keptCan v_h), (h_arrows, o_I cZ 16 v_arrows), (h_marks, o_I cI 4 v_marks), (h_to, o_I cI 4 a20.2.2.2)] := hD
    have hl : lv_has ls 3 [(0, .ref h_this), (1, .int a20.1)] := hl
    cases hf
    exact k_vret hx hb hr hlocks hAe hS hP hD dX9_layFrame_124
  · intro ex20 rc20 hE20 hR20 a20 H locs ls hf hP hD hS hl
    have hP : va_P D vwCl [(h_this, o_X9 v_kind v_worlds h_arrows h_marks v_frames v_signs h_signAt h_behind v_formulas v_failsTold v_tellsTold v_seen h_seenWhat h_seenCan v_pageLength h_page v_stage v_newKind v_newWorlds v_newFrom v_newLast v_newP v_newQ h_newArrows v_wanted v_worlds h_to a20.2.1 a20.2.2.1 h_holds h_apart v_seedNow v_keptFrame v_keptKind v_keptWorlds v_keptSeen h_keptArrows h_keptMarks h_keptWhat h_keptCan v_h), (h_arrows, o_I cZ 16 v_arrows), (h_marks, o_I cI 4 v_marks), (h_to, o_I cI 4 a20.2.2.2)] H := hP
    have hD : va_D A [(h_this, o_X9 v_kind v_worlds h_arrows h_marks v_frames v_signs h_signAt h_behind v_formulas v_failsTold v_tellsTold v_seen h_seenWhat h_seenCan v_pageLength h_page v_stage v_newKind v_newWorlds v_newFrom v_newLast v_newP v_newQ h_newArrows v_wanted v_worlds h_to a20.2.1 a20.2.2.1 h_holds h_apart v_seedNow v_keptFrame v_keptKind v_keptWorlds v_keptSeen h_keptArrows h_keptMarks h_keptWhat h_keptCan v_h), (h_arrows, o_I cZ 16 v_arrows), (h_marks, o_I cI 4 v_marks), (h_to, o_I cI 4 a20.2.2.2)] := hD
    have hl : lv_has ls 3 [(0, .ref h_this), (1, .int a20.1)] := hl
    refine lv_iload_n hx hb dX9_layFrame_20 rfl (lv_at hl 1 rfl) ?_
    refine lv_aload_n hx hb dX9_layFrame_21 rfl (lv_at hl 0 rfl) ?_
    refine va_get (D := D) (ci := 8) (v := .int v_worlds) (C := RX9) (T := TX9) (N := 41) hx hb hts inlX9 hown hK hP 0 rfl rfl 1 (by decide) (hts _ m_319) (fun _ h9 => h9) rfl dX9_layFrame_22 ?_
    refine lv_icmp_ge (tgt := 124) hx hb dX9_layFrame_25 (by decide) (fun c25 => ?_) (fun c25 => ?_)
    · replace hf := k_ifT c25 hf
      exact hE20 _ _ _ _ hf hP hD hS (lv_sub hl [0, 1] rfl)
    · replace hf := k_ifF c25 hf
      refine lv_aload_n hx hb dX9_layFrame_28 rfl (lv_at hl 0 rfl) ?_
      refine va_get (D := D) (ci := 8) (v := .ref h_to) (C := RX9) (T := TX9) (N := 41) hx hb hts inlX9 hown hK hP 0 rfl rfl 26 (by decide) (hts _ m_91) (fun _ h9 => h9) rfl dX9_layFrame_29 ?_
      refine lv_iload_n hx hb dX9_layFrame_32 rfl (lv_at hl 1 rfl) ?_
      refine lv_iconst (v := 0) hx hb dX9_layFrame_33 (by decide) ?_
      obtain ⟨hi34, hf⟩ := k_chk_some hf
      refine va_iast (D := D) hx hb hK hP hD hS 3 1 rfl rfl hi34 dX9_layFrame_34 (fun H locs hP hD hS => ?_)
      have hP : va_P D vwCl [(h_this, o_X9 v_kind v_worlds h_arrows h_marks v_frames v_signs h_signAt h_behind v_formulas v_failsTold v_tellsTold v_seen h_seenWhat h_seenCan v_pageLength h_page v_stage v_newKind v_newWorlds v_newFrom v_newLast v_newP v_newQ h_newArrows v_wanted v_worlds h_to a20.2.1 a20.2.2.1 h_holds h_apart v_seedNow v_keptFrame v_keptKind v_keptWorlds v_keptSeen h_keptArrows h_keptMarks h_keptWhat h_keptCan v_h), (h_arrows, o_I cZ 16 v_arrows), (h_marks, o_I cI 4 v_marks), (h_to, o_I cI 4 (upd a20.2.2.2 (Int32.toNatClampNeg a20.1) 0))] H := hP
      have hD : va_D A [(h_this, o_X9 v_kind v_worlds h_arrows h_marks v_frames v_signs h_signAt h_behind v_formulas v_failsTold v_tellsTold v_seen h_seenWhat h_seenCan v_pageLength h_page v_stage v_newKind v_newWorlds v_newFrom v_newLast v_newP v_newQ h_newArrows v_wanted v_worlds h_to a20.2.1 a20.2.2.1 h_holds h_apart v_seedNow v_keptFrame v_keptKind v_keptWorlds v_keptSeen h_keptArrows h_keptMarks h_keptWhat h_keptCan v_h), (h_arrows, o_I cZ 16 v_arrows), (h_marks, o_I cI 4 v_marks), (h_to, o_I cI 4 (upd a20.2.2.2 (Int32.toNatClampNeg a20.1) 0))] := hD
      refine lv_iconst (v := 0) hx hb dX9_layFrame_35 (by decide) ?_
      refine lv_istore_n (lv' := [(2, .int 0), (0, .ref h_this), (1, .int a20.1)]) hx hb dX9_layFrame_36 rfl hl (by decide) rfl (fun ls hl => ?_)
      refine k_wl 80 (wsf := fun (a37 : Int32 × (Nat → Int32)) => [(h_this, o_X9 v_kind v_worlds h_arrows h_marks v_frames v_signs h_signAt h_behind v_formulas v_failsTold v_tellsTold v_seen h_seenWhat h_seenCan v_pageLength h_page v_stage v_newKind v_newWorlds v_newFrom v_newLast v_newP v_newQ h_newArrows v_wanted v_worlds h_to a20.2.1 a20.2.2.1 h_holds h_apart v_seedNow v_keptFrame v_keptKind v_keptWorlds v_keptSeen h_keptArrows h_keptMarks h_keptWhat h_keptCan v_h), (h_arrows, o_I cZ 16 v_arrows), (h_marks, o_I cI 4 v_marks), (h_to, o_I cI 4 a37.2)]) (lvf := fun (a37 : Int32 × (Nat → Int32)) => [(0, .ref h_this), (1, .int a20.1), (2, .int a37.1)]) hf hP hD hS (lv_sub hl [1, 2, 0] rfl) ?_ ?_
      · intro a37 H locs ls hf hP hD hS hl
        have hP : va_P D vwCl [(h_this, o_X9 v_kind v_worlds h_arrows h_marks v_frames v_signs h_signAt h_behind v_formulas v_failsTold v_tellsTold v_seen h_seenWhat h_seenCan v_pageLength h_page v_stage v_newKind v_newWorlds v_newFrom v_newLast v_newP v_newQ h_newArrows v_wanted v_worlds h_to a20.2.1 a20.2.2.1 h_holds h_apart v_seedNow v_keptFrame v_keptKind v_keptWorlds v_keptSeen h_keptArrows h_keptMarks h_keptWhat h_keptCan v_h), (h_arrows, o_I cZ 16 v_arrows), (h_marks, o_I cI 4 v_marks), (h_to, o_I cI 4 a37.2)] H := hP
        have hD : va_D A [(h_this, o_X9 v_kind v_worlds h_arrows h_marks v_frames v_signs h_signAt h_behind v_formulas v_failsTold v_tellsTold v_seen h_seenWhat h_seenCan v_pageLength h_page v_stage v_newKind v_newWorlds v_newFrom v_newLast v_newP v_newQ h_newArrows v_wanted v_worlds h_to a20.2.1 a20.2.2.1 h_holds h_apart v_seedNow v_keptFrame v_keptKind v_keptWorlds v_keptSeen h_keptArrows h_keptMarks h_keptWhat h_keptCan v_h), (h_arrows, o_I cZ 16 v_arrows), (h_marks, o_I cI 4 v_marks), (h_to, o_I cI 4 a37.2)] := hD
        have hl : lv_has ls 3 [(0, .ref h_this), (1, .int a20.1), (2, .int a37.1)] := hl
        refine lv_aload_n hx hb dX9_layFrame_80 rfl (lv_at hl 0 rfl) ?_
        refine lv_dup hx hb dX9_layFrame_81 rfl ?_
        refine va_get (D := D) (ci := 8) (v := .int a20.2.1) (C := RX9) (T := TX9) (N := 41) hx hb hts inlX9 hown hK hP 0 rfl rfl 27 (by decide) (hts _ m_462) (fun _ h9 => h9) rfl dX9_layFrame_82 ?_
        refine lv_aload_n hx hb dX9_layFrame_85 rfl (lv_at hl 0 rfl) ?_
        refine va_get (D := D) (ci := 8) (v := .ref h_marks) (C := RX9) (T := TX9) (N := 41) hx hb hts inlX9 hown hK hP 0 rfl rfl 3 (by decide) (hts _ m_83) (fun _ h9 => h9) rfl dX9_layFrame_86 ?_
        refine lv_iload_n hx hb dX9_layFrame_89 rfl (lv_at hl 1 rfl) ?_
        obtain ⟨hi90, hf⟩ := k_chk_some hf
        refine va_iald (D := D) hx hb hK hP 2 1 rfl rfl hi90 dX9_layFrame_90 ?_
        refine lv_iconst (v := 1) hx hb dX9_layFrame_91 (by decide) ?_
        refine lv_iand hx hb dX9_layFrame_92 ?_
        refine lv_iload_n hx hb dX9_layFrame_93 rfl (lv_at hl 1 rfl) ?_
        refine lv_ishl hx hb dX9_layFrame_94 ?_
        refine lv_ior hx hb dX9_layFrame_95 ?_
        refine lv_topi (fun y96 ey96 => ?_)
        replace hf := k_let_at ey96 hf
        refine va_put (D := D) (ci := 8) (v := .int y96) (ty := .int) (C := RX9) (T := TX9) (N := 41) hx hb hts inlX9 tyX9 tyX9_ok nmX9 hown hK hP hD hS 0 rfl rfl 27 (by decide) (hts _ m_462) (fun _ h9 => h9) rfl (by decide +kernel) rfl rfl (Nat.le_of_ble_eq_true rfl) dX9_layFrame_96 (fun H locs hP hD hS => ?_)
        have hP : va_P D vwCl [(h_this, o_X9 v_kind v_worlds h_arrows h_marks v_frames v_signs h_signAt h_behind v_formulas v_failsTold v_tellsTold v_seen h_seenWhat h_seenCan v_pageLength h_page v_stage v_newKind v_newWorlds v_newFrom v_newLast v_newP v_newQ h_newArrows v_wanted v_worlds h_to y96 a20.2.2.1 h_holds h_apart v_seedNow v_keptFrame v_keptKind v_keptWorlds v_keptSeen h_keptArrows h_keptMarks h_keptWhat h_keptCan v_h), (h_arrows, o_I cZ 16 v_arrows), (h_marks, o_I cI 4 v_marks), (h_to, o_I cI 4 a37.2)] H := hP
        have hD : va_D A [(h_this, o_X9 v_kind v_worlds h_arrows h_marks v_frames v_signs h_signAt h_behind v_formulas v_failsTold v_tellsTold v_seen h_seenWhat h_seenCan v_pageLength h_page v_stage v_newKind v_newWorlds v_newFrom v_newLast v_newP v_newQ h_newArrows v_wanted v_worlds h_to y96 a20.2.2.1 h_holds h_apart v_seedNow v_keptFrame v_keptKind v_keptWorlds v_keptSeen h_keptArrows h_keptMarks h_keptWhat h_keptCan v_h), (h_arrows, o_I cZ 16 v_arrows), (h_marks, o_I cI 4 v_marks), (h_to, o_I cI 4 a37.2)] := hD
        refine lv_aload_n hx hb dX9_layFrame_99 rfl (lv_at hl 0 rfl) ?_
        refine lv_dup hx hb dX9_layFrame_100 rfl ?_
        refine va_get (D := D) (ci := 8) (v := .int a20.2.2.1) (C := RX9) (T := TX9) (N := 41) hx hb hts inlX9 hown hK hP 0 rfl rfl 28 (by decide) (hts _ m_463) (fun _ h9 => h9) rfl dX9_layFrame_101 ?_
        refine lv_aload_n hx hb dX9_layFrame_104 rfl (lv_at hl 0 rfl) ?_
        refine va_get (D := D) (ci := 8) (v := .ref h_marks) (C := RX9) (T := TX9) (N := 41) hx hb hts inlX9 hown hK hP 0 rfl rfl 3 (by decide) (hts _ m_83) (fun _ h9 => h9) rfl dX9_layFrame_105 ?_
        refine lv_iload_n hx hb dX9_layFrame_108 rfl (lv_at hl 1 rfl) ?_
        obtain ⟨hi109, hf⟩ := k_chk_some hf
        refine va_iald (D := D) hx hb hK hP 2 1 rfl rfl hi109 dX9_layFrame_109 ?_
        refine lv_iconst (v := 1) hx hb dX9_layFrame_110 (by decide) ?_
        refine lv_ishr hx hb dX9_layFrame_111 ?_
        refine lv_iload_n hx hb dX9_layFrame_112 rfl (lv_at hl 1 rfl) ?_
        refine lv_ishl hx hb dX9_layFrame_113 ?_
        refine lv_ior hx hb dX9_layFrame_114 ?_
        refine lv_topi (fun y115 ey115 => ?_)
        replace hf := k_let_at ey115 hf
        refine va_put (D := D) (ci := 8) (v := .int y115) (ty := .int) (C := RX9) (T := TX9) (N := 41) hx hb hts inlX9 tyX9 tyX9_ok nmX9 hown hK hP hD hS 0 rfl rfl 28 (by decide) (hts _ m_463) (fun _ h9 => h9) rfl (by decide +kernel) rfl rfl (Nat.le_of_ble_eq_true rfl) dX9_layFrame_115 (fun H locs hP hD hS => ?_)
        have hP : va_P D vwCl [(h_this, o_X9 v_kind v_worlds h_arrows h_marks v_frames v_signs h_signAt h_behind v_formulas v_failsTold v_tellsTold v_seen h_seenWhat h_seenCan v_pageLength h_page v_stage v_newKind v_newWorlds v_newFrom v_newLast v_newP v_newQ h_newArrows v_wanted v_worlds h_to y96 y115 h_holds h_apart v_seedNow v_keptFrame v_keptKind v_keptWorlds v_keptSeen h_keptArrows h_keptMarks h_keptWhat h_keptCan v_h), (h_arrows, o_I cZ 16 v_arrows), (h_marks, o_I cI 4 v_marks), (h_to, o_I cI 4 a37.2)] H := hP
        have hD : va_D A [(h_this, o_X9 v_kind v_worlds h_arrows h_marks v_frames v_signs h_signAt h_behind v_formulas v_failsTold v_tellsTold v_seen h_seenWhat h_seenCan v_pageLength h_page v_stage v_newKind v_newWorlds v_newFrom v_newLast v_newP v_newQ h_newArrows v_wanted v_worlds h_to y96 y115 h_holds h_apart v_seedNow v_keptFrame v_keptKind v_keptWorlds v_keptSeen h_keptArrows h_keptMarks h_keptWhat h_keptCan v_h), (h_arrows, o_I cZ 16 v_arrows), (h_marks, o_I cI 4 v_marks), (h_to, o_I cI 4 a37.2)] := hD
        refine lv_iinc (v := (a20.1 + 1)) (lv' := [(1, .int (a20.1 + 1)), (0, .ref h_this), (2, .int a37.1)]) hx hb dX9_layFrame_118 hl (k := 1) rfl rfl (by decide) rfl (fun ls hl => ?_)
        refine lv_goto (tgt := 20) hx hb dX9_layFrame_121 (by decide) ?_
        exact hR20 _ _ _ _ hf hP hD hS (lv_sub hl [1, 0] rfl)
      · intro ex37 rc37 hE37 hR37 a37 H locs ls hf hP hD hS hl
        have hP : va_P D vwCl [(h_this, o_X9 v_kind v_worlds h_arrows h_marks v_frames v_signs h_signAt h_behind v_formulas v_failsTold v_tellsTold v_seen h_seenWhat h_seenCan v_pageLength h_page v_stage v_newKind v_newWorlds v_newFrom v_newLast v_newP v_newQ h_newArrows v_wanted v_worlds h_to a20.2.1 a20.2.2.1 h_holds h_apart v_seedNow v_keptFrame v_keptKind v_keptWorlds v_keptSeen h_keptArrows h_keptMarks h_keptWhat h_keptCan v_h), (h_arrows, o_I cZ 16 v_arrows), (h_marks, o_I cI 4 v_marks), (h_to, o_I cI 4 a37.2)] H := hP
        have hD : va_D A [(h_this, o_X9 v_kind v_worlds h_arrows h_marks v_frames v_signs h_signAt h_behind v_formulas v_failsTold v_tellsTold v_seen h_seenWhat h_seenCan v_pageLength h_page v_stage v_newKind v_newWorlds v_newFrom v_newLast v_newP v_newQ h_newArrows v_wanted v_worlds h_to a20.2.1 a20.2.2.1 h_holds h_apart v_seedNow v_keptFrame v_keptKind v_keptWorlds v_keptSeen h_keptArrows h_keptMarks h_keptWhat h_keptCan v_h), (h_arrows, o_I cZ 16 v_arrows), (h_marks, o_I cI 4 v_marks), (h_to, o_I cI 4 a37.2)] := hD
        have hl : lv_has ls 3 [(0, .ref h_this), (1, .int a20.1), (2, .int a37.1)] := hl
        refine lv_iload_n hx hb dX9_layFrame_37 rfl (lv_at hl 2 rfl) ?_
        refine lv_aload_n hx hb dX9_layFrame_38 rfl (lv_at hl 0 rfl) ?_
        refine va_get (D := D) (ci := 8) (v := .int v_worlds) (C := RX9) (T := TX9) (N := 41) hx hb hts inlX9 hown hK hP 0 rfl rfl 1 (by decide) (hts _ m_319) (fun _ h9 => h9) rfl dX9_layFrame_39 ?_
        refine lv_icmp_ge (tgt := 80) hx hb dX9_layFrame_42 (by decide) (fun c42 => ?_) (fun c42 => ?_)
        · replace hf := k_ifT c42 hf
          exact hE37 _ _ _ _ hf hP hD hS (lv_sub hl [0, 1, 2] rfl)
        · replace hf := k_ifF c42 hf
          refine lv_aload_n hx hb dX9_layFrame_45 rfl (lv_at hl 0 rfl) ?_
          refine va_get (D := D) (ci := 8) (v := .ref h_to) (C := RX9) (T := TX9) (N := 41) hx hb hts inlX9 hown hK hP 0 rfl rfl 26 (by decide) (hts _ m_91) (fun _ h9 => h9) rfl dX9_layFrame_46 ?_
          refine lv_iload_n hx hb dX9_layFrame_49 rfl (lv_at hl 1 rfl) ?_
          refine lv_dup2_11 hx hb dX9_layFrame_50 rfl rfl ?_
          obtain ⟨hi51, hf⟩ := k_chk_some hf
          refine va_iald (D := D) hx hb hK hP 3 1 rfl rfl hi51 dX9_layFrame_51 ?_
          refine lv_aload_n hx hb dX9_layFrame_52 rfl (lv_at hl 0 rfl) ?_
          refine va_get (D := D) (ci := 8) (v := .ref h_arrows) (C := RX9) (T := TX9) (N := 41) hx hb hts inlX9 hown hK hP 0 rfl rfl 2 (by decide) (hts _ m_82) (fun _ h9 => h9) rfl dX9_layFrame_53 ?_
          refine lv_iconst (v := 4) hx hb dX9_layFrame_56 (by decide) ?_
          refine lv_iload_n hx hb dX9_layFrame_57 rfl (lv_at hl 1 rfl) ?_
          refine lv_imul hx hb dX9_layFrame_58 ?_
          refine lv_iload_n hx hb dX9_layFrame_59 rfl (lv_at hl 2 rfl) ?_
          refine lv_iadd hx hb dX9_layFrame_60 ?_
          obtain ⟨hi61, hf⟩ := k_chk_some hf
          refine va_zald (D := D) hx hb hK hP 1 3 rfl rfl hi61 dX9_layFrame_61 ?_
          refine lv_if_eq (tgt := 71) hx hb dX9_layFrame_62 (by decide) (fun c62 => ?_) (fun c62 => ?_)
          · replace hf := k_ifT c62 hf
            refine lv_iconst (v := 0) hx hb dX9_layFrame_71 (by decide) ?_
            refine lv_ior hx hb dX9_layFrame_72 ?_
            obtain ⟨hi73, hf⟩ := k_chk_some hf
            refine va_iast (D := D) hx hb hK hP hD hS 3 1 rfl rfl hi73 dX9_layFrame_73 (fun H locs hP hD hS => ?_)
            have hP : va_P D vwCl [(h_this, o_X9 v_kind v_worlds h_arrows h_marks v_frames v_signs h_signAt h_behind v_formulas v_failsTold v_tellsTold v_seen h_seenWhat h_seenCan v_pageLength h_page v_stage v_newKind v_newWorlds v_newFrom v_newLast v_newP v_newQ h_newArrows v_wanted v_worlds h_to a20.2.1 a20.2.2.1 h_holds h_apart v_seedNow v_keptFrame v_keptKind v_keptWorlds v_keptSeen h_keptArrows h_keptMarks h_keptWhat h_keptCan v_h), (h_arrows, o_I cZ 16 v_arrows), (h_marks, o_I cI 4 v_marks), (h_to, o_I cI 4 (upd a37.2 (Int32.toNatClampNeg a20.1) ((a37.2 (Int32.toNatClampNeg a20.1)) ||| 0)))] H := hP
            have hD : va_D A [(h_this, o_X9 v_kind v_worlds h_arrows h_marks v_frames v_signs h_signAt h_behind v_formulas v_failsTold v_tellsTold v_seen h_seenWhat h_seenCan v_pageLength h_page v_stage v_newKind v_newWorlds v_newFrom v_newLast v_newP v_newQ h_newArrows v_wanted v_worlds h_to a20.2.1 a20.2.2.1 h_holds h_apart v_seedNow v_keptFrame v_keptKind v_keptWorlds v_keptSeen h_keptArrows h_keptMarks h_keptWhat h_keptCan v_h), (h_arrows, o_I cZ 16 v_arrows), (h_marks, o_I cI 4 v_marks), (h_to, o_I cI 4 (upd a37.2 (Int32.toNatClampNeg a20.1) ((a37.2 (Int32.toNatClampNeg a20.1)) ||| 0)))] := hD
            refine lv_iinc (v := (a37.1 + 1)) (lv' := [(2, .int (a37.1 + 1)), (0, .ref h_this), (1, .int a20.1)]) hx hb dX9_layFrame_74 hl (k := 2) rfl rfl (by decide) rfl (fun ls hl => ?_)
            refine lv_goto (tgt := 37) hx hb dX9_layFrame_77 (by decide) ?_
            exact hR37 _ _ _ _ hf hP hD hS (lv_sub hl [1, 2, 0] rfl)
          · replace hf := k_ifF c62 hf
            refine lv_iconst (v := 1) hx hb dX9_layFrame_65 (by decide) ?_
            refine lv_iload_n hx hb dX9_layFrame_66 rfl (lv_at hl 2 rfl) ?_
            refine lv_ishl hx hb dX9_layFrame_67 ?_
            refine lv_goto (tgt := 72) hx hb dX9_layFrame_68 (by decide) ?_
            refine lv_ior hx hb dX9_layFrame_72 ?_
            obtain ⟨hi73, hf⟩ := k_chk_some hf
            refine va_iast (D := D) hx hb hK hP hD hS 3 1 rfl rfl hi73 dX9_layFrame_73 (fun H locs hP hD hS => ?_)
            have hP : va_P D vwCl [(h_this, o_X9 v_kind v_worlds h_arrows h_marks v_frames v_signs h_signAt h_behind v_formulas v_failsTold v_tellsTold v_seen h_seenWhat h_seenCan v_pageLength h_page v_stage v_newKind v_newWorlds v_newFrom v_newLast v_newP v_newQ h_newArrows v_wanted v_worlds h_to a20.2.1 a20.2.2.1 h_holds h_apart v_seedNow v_keptFrame v_keptKind v_keptWorlds v_keptSeen h_keptArrows h_keptMarks h_keptWhat h_keptCan v_h), (h_arrows, o_I cZ 16 v_arrows), (h_marks, o_I cI 4 v_marks), (h_to, o_I cI 4 (upd a37.2 (Int32.toNatClampNeg a20.1) ((a37.2 (Int32.toNatClampNeg a20.1)) ||| ((1 : Int32) <<< (a37.1 &&& 31)))))] H := hP
            have hD : va_D A [(h_this, o_X9 v_kind v_worlds h_arrows h_marks v_frames v_signs h_signAt h_behind v_formulas v_failsTold v_tellsTold v_seen h_seenWhat h_seenCan v_pageLength h_page v_stage v_newKind v_newWorlds v_newFrom v_newLast v_newP v_newQ h_newArrows v_wanted v_worlds h_to a20.2.1 a20.2.2.1 h_holds h_apart v_seedNow v_keptFrame v_keptKind v_keptWorlds v_keptSeen h_keptArrows h_keptMarks h_keptWhat h_keptCan v_h), (h_arrows, o_I cZ 16 v_arrows), (h_marks, o_I cI 4 v_marks), (h_to, o_I cI 4 (upd a37.2 (Int32.toNatClampNeg a20.1) ((a37.2 (Int32.toNatClampNeg a20.1)) ||| ((1 : Int32) <<< (a37.1 &&& 31)))))] := hD
            refine lv_iinc (v := (a37.1 + 1)) (lv' := [(2, .int (a37.1 + 1)), (0, .ref h_this), (1, .int a20.1)]) hx hb dX9_layFrame_74 hl (k := 2) rfl rfl (by decide) rfl (fun ls hl => ?_)
            refine lv_goto (tgt := 37) hx hb dX9_layFrame_77 (by decide) ?_
            exact hR37 _ _ _ _ hf hP hD hS (lv_sub hl [1, 2, 0] rfl)
set_option maxHeartbeats 4000000 in
set_option maxRecDepth 100000 in
theorem k_X9_isIn (l : Launch) (D : va_G) (cB cI cJ cZ : ClassId) (tL tK : Nat) (sz : Nat)  (x1 : Int32) (x2 : Int32) (q : Int32) (hf : f_X9_isIn x1 x2 = q) : Met l yX9_isIn (.code yX9_isIn cX9_isIn 2 (some .boolean) :: k_all) { frames := 0, cells := 0, slots := 0, locals := 0 } (k_P D cB cI cJ cZ tL tK [.int x1, .int x2] [] sz) (k_I D q [] [] sz) 0 0 (va_A [] sz) := by
  unfold f_X9_isIn at hf
  refine k_met RX9 rfl (by decide +kernel) (Nat.le_of_ble_eq_true rfl) ?_
  intro p e s m below meth c A ls hx hb hr hml hown hts hlocks hin hsz hAe hA hK hN hZ hD hS hP hl
  have hl : lv_has ls 2 [(0, .int x1), (1, .int x2)] := hl
  refine lv_iload_n hx hb dX9_isIn_0 rfl (lv_at hl 0 rfl) ?_
  refine lv_iload_n hx hb dX9_isIn_1 rfl (lv_at hl 1 rfl) ?_
  refine lv_ishr hx hb dX9_isIn_2 ?_
  refine lv_iconst (v := 1) hx hb dX9_isIn_3 (by decide) ?_
  refine lv_iand hx hb dX9_isIn_4 ?_
  refine lv_iconst (v := 1) hx hb dX9_isIn_5 (by decide) ?_
  refine lv_icmp_ne (tgt := 13) hx hb dX9_isIn_6 (by decide) (fun c6 => ?_) (fun c6 => ?_)
  · replace hf := k_ifF c6 hf
    refine lv_iconst (v := 0) hx hb dX9_isIn_13 (by decide) ?_
    subst hf
    exact k_zret (r := 0) hx hb hr rfl hlocks hAe hS hP hD dX9_isIn_14
  · replace hf := k_ifT c6 hf
    refine lv_iconst (v := 1) hx hb dX9_isIn_9 (by decide) ?_
    refine lv_goto (tgt := 14) hx hb dX9_isIn_10 (by decide) ?_
    subst hf
    exact k_zret (r := 1) hx hb hr rfl hlocks hAe hS hP hD dX9_isIn_14
set_option maxHeartbeats 4000000 in
set_option maxRecDepth 100000 in
theorem k_X9_isArrow (l : Launch) (D : va_G) (cB cI cJ cZ : ClassId) (tL tK : Nat) (h_this h_arrows h_marks h_signAt h_behind h_seenWhat h_seenCan h_page h_newArrows h_to h_holds h_apart h_keptArrows h_keptMarks h_keptWhat h_keptCan : Nat) (sz : Nat) (v_kind : Int32) (v_worlds : Int32) (v_frames : Int32) (v_signs : Int32) (v_formulas : Int32) (v_failsTold : Int32) (v_tellsTold : Int32) (v_seen : Int32) (v_pageLength : Int32) (v_stage : Int32) (v_newKind : Int32) (v_newWorlds : Int32) (v_newFrom : Int32) (v_newLast : Int32) (v_newP : Int32) (v_newQ : Int32) (v_wanted : Int32) (v_many : Int32) (v_pNow : Int32) (v_qNow : Int32) (v_seedNow : Int64) (v_keptFrame : Int32) (v_keptKind : Int32) (v_keptWorlds : Int32) (v_keptSeen : Int32) (v_h : Int64) (v_to : (Nat → Int32)) (x1 : Int32) (x2 : Int32) (q : Int32) (hf : f_X9_isArrow v_to x1 x2 = some q) : Met l yX9_isArrow (.code yX9_isArrow cX9_isArrow 3 (some .boolean) :: k_all) { frames := 1, cells := 0, slots := 0, locals := 21 } (k_P D cB cI cJ cZ tL tK [.ref h_this, .int x1, .int x2] [(h_this, o_X9 v_kind v_worlds h_arrows h_marks v_frames v_signs h_signAt h_behind v_formulas v_failsTold v_tellsTold v_seen h_seenWhat h_seenCan v_pageLength h_page v_stage v_newKind v_newWorlds v_newFrom v_newLast v_newP v_newQ h_newArrows v_wanted v_many h_to v_pNow v_qNow h_holds h_apart v_seedNow v_keptFrame v_keptKind v_keptWorlds v_keptSeen h_keptArrows h_keptMarks h_keptWhat h_keptCan v_h), (h_to, o_I cI 4 v_to)] sz) (k_I D q [(h_this, o_X9 v_kind v_worlds h_arrows h_marks v_frames v_signs h_signAt h_behind v_formulas v_failsTold v_tellsTold v_seen h_seenWhat h_seenCan v_pageLength h_page v_stage v_newKind v_newWorlds v_newFrom v_newLast v_newP v_newQ h_newArrows v_wanted v_many h_to v_pNow v_qNow h_holds h_apart v_seedNow v_keptFrame v_keptKind v_keptWorlds v_keptSeen h_keptArrows h_keptMarks h_keptWhat h_keptCan v_h), (h_to, o_I cI 4 v_to)] [(h_this, o_X9 v_kind v_worlds h_arrows h_marks v_frames v_signs h_signAt h_behind v_formulas v_failsTold v_tellsTold v_seen h_seenWhat h_seenCan v_pageLength h_page v_stage v_newKind v_newWorlds v_newFrom v_newLast v_newP v_newQ h_newArrows v_wanted v_many h_to v_pNow v_qNow h_holds h_apart v_seedNow v_keptFrame v_keptKind v_keptWorlds v_keptSeen h_keptArrows h_keptMarks h_keptWhat h_keptCan v_h), (h_to, o_I cI 4 v_to)] sz) 0 0 (va_A [(h_this, o_X9 v_kind v_worlds h_arrows h_marks v_frames v_signs h_signAt h_behind v_formulas v_failsTold v_tellsTold v_seen h_seenWhat h_seenCan v_pageLength h_page v_stage v_newKind v_newWorlds v_newFrom v_newLast v_newP v_newQ h_newArrows v_wanted v_many h_to v_pNow v_qNow h_holds h_apart v_seedNow v_keptFrame v_keptKind v_keptWorlds v_keptSeen h_keptArrows h_keptMarks h_keptWhat h_keptCan v_h), (h_to, o_I cI 4 v_to)] sz) := by
  unfold f_X9_isArrow at hf
  refine k_met RX9 rfl (by decide +kernel) (Nat.le_of_ble_eq_true rfl) ?_
  intro p e s m below meth c A ls hx hb hr hml hown hts hlocks hin hsz hAe hA hK hN hZ hD hS hP hl
  have hl : lv_has ls 3 [(0, .ref h_this), (1, .int x1), (2, .int x2)] := hl
  refine lv_aload_n hx hb dX9_isArrow_0 rfl (lv_at hl 0 rfl) ?_
  refine va_get (D := D) (ci := 8) (v := .ref h_to) (C := RX9) (T := TX9) (N := 41) hx hb hts inlX9 hown hK hP 0 rfl rfl 26 (by decide) (hts _ m_91) (fun _ h9 => h9) rfl dX9_isArrow_1 ?_
  refine lv_iload_n hx hb dX9_isArrow_4 rfl (lv_at hl 1 rfl) ?_
  obtain ⟨hi5, hf⟩ := k_chk_some hf
  refine va_iald (D := D) hx hb hK hP 1 1 rfl rfl hi5 dX9_isArrow_5 ?_
  refine lv_iload_n hx hb dX9_isArrow_6 rfl (lv_at hl 2 rfl) ?_
  refine k_calli (wN := [(h_this, o_X9 v_kind v_worlds h_arrows h_marks v_frames v_signs h_signAt h_behind v_formulas v_failsTold v_tellsTold v_seen h_seenWhat h_seenCan v_pageLength h_page v_stage v_newKind v_newWorlds v_newFrom v_newLast v_newP v_newQ h_newArrows v_wanted v_many h_to v_pNow v_qNow h_holds h_apart v_seedNow v_keptFrame v_keptKind v_keptWorlds v_keptSeen h_keptArrows h_keptMarks h_keptWhat h_keptCan v_h), (h_to, o_I cI 4 v_to)]) [] [0, 1] [0, 1] hP hD hS hA (va_runS (As := [.int (v_to (Int32.toNatClampNeg x1)), .int x2]) (rest := []) ⟨hx, hb, hml, hown, hts⟩ (k_X9_isIn l D cB cI cJ cZ tL tK _ (v_to (Int32.toNatClampNeg x1)) x2 (f_X9_isIn (v_to (Int32.toNatClampNeg x1)) x2) rfl) (va_cwS 2 hts (k_gS m_482 m_480 m_481 m_5) rfl rfl rfl (by decide +kernel) ⟨Nat.le_of_ble_eq_true rfl, Nat.le_of_ble_eq_true rfl⟩) (k_preS [] hK hN hZ hP hD hS hA rfl rfl) rfl rfl hl.1 rfl (lv_room (Nat.le_of_ble_eq_true rfl)) dX9_isArrow_7 ⟨Nat.le_refl _, Nat.le_refl _⟩) rfl rfl rfl rfl rfl (fun H locs hP hD hS => ?_)
  obtain ⟨hbl, hf⟩ := k_bl_some hf
  cases hf
  exact k_zret hx hb hr (k_bn hbl) hlocks hAe hS hP hD dX9_isArrow_10
set_option maxHeartbeats 4000000 in
set_option maxRecDepth 100000 in
theorem k_X9_keepsHere (l : Launch) (D : va_G) (cB cI cJ cZ : ClassId) (tL tK : Nat) (h_this h_arrows h_marks h_signAt h_behind h_seenWhat h_seenCan h_page h_newArrows h_to h_holds h_apart h_keptArrows h_keptMarks h_keptWhat h_keptCan : Nat) (sz : Nat) (v_kind : Int32) (v_worlds : Int32) (v_frames : Int32) (v_signs : Int32) (v_formulas : Int32) (v_failsTold : Int32) (v_tellsTold : Int32) (v_seen : Int32) (v_pageLength : Int32) (v_stage : Int32) (v_newKind : Int32) (v_newWorlds : Int32) (v_newFrom : Int32) (v_newLast : Int32) (v_newP : Int32) (v_newQ : Int32) (v_wanted : Int32) (v_many : Int32) (v_pNow : Int32) (v_qNow : Int32) (v_seedNow : Int64) (v_keptFrame : Int32) (v_keptKind : Int32) (v_keptWorlds : Int32) (v_keptSeen : Int32) (v_h : Int64) (v_to : (Nat → Int32)) (x1 : Int32) (x2 : Int32) (x3 : Int32) (x4 : Int32) (q : Int32) (hf : f_X9_keepsHere v_to x1 x2 x3 x4 = some q) : Met l yX9_keepsHere (.code yX9_keepsHere cX9_keepsHere 5 (some .boolean) :: k_all) { frames := 2, cells := 0, slots := 0, locals := 43 } (k_P D cB cI cJ cZ tL tK [.ref h_this, .int x1, .int x2, .int x3, .int x4] [(h_this, o_X9 v_kind v_worlds h_arrows h_marks v_frames v_signs h_signAt h_behind v_formulas v_failsTold v_tellsTold v_seen h_seenWhat h_seenCan v_pageLength h_page v_stage v_newKind v_newWorlds v_newFrom v_newLast v_newP v_newQ h_newArrows v_wanted v_many h_to v_pNow v_qNow h_holds h_apart v_seedNow v_keptFrame v_keptKind v_keptWorlds v_keptSeen h_keptArrows h_keptMarks h_keptWhat h_keptCan v_h), (h_to, o_I cI 4 v_to)] sz) (k_I D q [(h_this, o_X9 v_kind v_worlds h_arrows h_marks v_frames v_signs h_signAt h_behind v_formulas v_failsTold v_tellsTold v_seen h_seenWhat h_seenCan v_pageLength h_page v_stage v_newKind v_newWorlds v_newFrom v_newLast v_newP v_newQ h_newArrows v_wanted v_many h_to v_pNow v_qNow h_holds h_apart v_seedNow v_keptFrame v_keptKind v_keptWorlds v_keptSeen h_keptArrows h_keptMarks h_keptWhat h_keptCan v_h), (h_to, o_I cI 4 v_to)] [(h_this, o_X9 v_kind v_worlds h_arrows h_marks v_frames v_signs h_signAt h_behind v_formulas v_failsTold v_tellsTold v_seen h_seenWhat h_seenCan v_pageLength h_page v_stage v_newKind v_newWorlds v_newFrom v_newLast v_newP v_newQ h_newArrows v_wanted v_many h_to v_pNow v_qNow h_holds h_apart v_seedNow v_keptFrame v_keptKind v_keptWorlds v_keptSeen h_keptArrows h_keptMarks h_keptWhat h_keptCan v_h), (h_to, o_I cI 4 v_to)] sz) 0 0 (va_A [(h_this, o_X9 v_kind v_worlds h_arrows h_marks v_frames v_signs h_signAt h_behind v_formulas v_failsTold v_tellsTold v_seen h_seenWhat h_seenCan v_pageLength h_page v_stage v_newKind v_newWorlds v_newFrom v_newLast v_newP v_newQ h_newArrows v_wanted v_many h_to v_pNow v_qNow h_holds h_apart v_seedNow v_keptFrame v_keptKind v_keptWorlds v_keptSeen h_keptArrows h_keptMarks h_keptWhat h_keptCan v_h), (h_to, o_I cI 4 v_to)] sz) := by
  unfold f_X9_keepsHere at hf
  refine k_met RX9 rfl (by decide +kernel) (Nat.le_of_ble_eq_true rfl) ?_
  intro p e s m below meth c A ls hx hb hr hml hown hts hlocks hin hsz hAe hA hK hN hZ hD hS hP hl
  have hl : lv_has ls 5 [(0, .ref h_this), (1, .int x1), (2, .int x2), (3, .int x3), (4, .int x4)] := hl
  refine lv_iload_n hx hb dX9_keepsHere_0 rfl (lv_at hl 1 rfl) ?_
  by_cases c1_0 : x1 = 0
  · replace hf := k_ifT c1_0 hf
    refine lv_tableIn (tgt := 32) hx hb dX9_keepsHere_1 (by rw [c1_0]; decide) (by rw [c1_0]; decide) (by rw [c1_0]; rfl) (by decide) ?_
    refine lv_aload_n hx hb dX9_keepsHere_32 rfl (lv_at hl 0 rfl) ?_
    refine lv_iload_n hx hb dX9_keepsHere_33 rfl (lv_at hl 2 rfl) ?_
    refine lv_iload_n hx hb dX9_keepsHere_34 rfl (lv_at hl 2 rfl) ?_
    obtain ⟨q35, hq35, hf⟩ := k_bind hf
    refine k_calli (wN := [(h_this, o_X9 v_kind v_worlds h_arrows h_marks v_frames v_signs h_signAt h_behind v_formulas v_failsTold v_tellsTold v_seen h_seenWhat h_seenCan v_pageLength h_page v_stage v_newKind v_newWorlds v_newFrom v_newLast v_newP v_newQ h_newArrows v_wanted v_many h_to v_pNow v_qNow h_holds h_apart v_seedNow v_keptFrame v_keptKind v_keptWorlds v_keptSeen h_keptArrows h_keptMarks h_keptWhat h_keptCan v_h), (h_to, o_I cI 4 v_to)]) [0, 1] [] [0, 1] hP hD hS hA (va_runV (As := [.int x2, .int x2]) (rest := []) ⟨hx, hb, hml, hown, hts⟩ (k_X9_isArrow l D cB cI cJ cZ tL tK h_this h_arrows h_marks h_signAt h_behind h_seenWhat h_seenCan h_page h_newArrows h_to h_holds h_apart h_keptArrows h_keptMarks h_keptWhat h_keptCan _ v_kind v_worlds v_frames v_signs v_formulas v_failsTold v_tellsTold v_seen v_pageLength v_stage v_newKind v_newWorlds v_newFrom v_newLast v_newP v_newQ v_wanted v_many v_pNow v_qNow v_seedNow v_keptFrame v_keptKind v_keptWorlds v_keptSeen v_h v_to x2 x2 q35 hq35) (cwV 2 hts (k_gV m_479 m_476 m_477 m_478 m_5) rfl rfl rfl (by decide +kernel) ⟨Nat.le_of_ble_eq_true rfl, Nat.le_of_ble_eq_true rfl⟩) (k_preV [0, 1] hK hN hZ hP hD hS hA rfl rfl (va_recv hK hP (ci := 8) (q0 := 0) rfl rfl)) rfl rfl hl.1 rfl (lv_room (Nat.le_of_ble_eq_true rfl)) dX9_keepsHere_35 ⟨Nat.le_refl _, Nat.le_refl _⟩) rfl rfl rfl rfl rfl (fun H locs hP hD hS => ?_)
    obtain ⟨hbl, hf⟩ := k_bl_some hf
    cases hf
    exact k_zret hx hb hr (k_bn hbl) hlocks hAe hS hP hD dX9_keepsHere_38
  · replace hf := k_ifF c1_0 hf
    by_cases c1_1 : x1 = 1
    · replace hf := k_ifT c1_1 hf
      refine lv_tableIn (tgt := 39) hx hb dX9_keepsHere_1 (by rw [c1_1]; decide) (by rw [c1_1]; decide) (by rw [c1_1]; rfl) (by decide) ?_
      refine lv_aload_n hx hb dX9_keepsHere_39 rfl (lv_at hl 0 rfl) ?_
      refine lv_iload_n hx hb dX9_keepsHere_40 rfl (lv_at hl 2 rfl) ?_
      refine lv_iload_n hx hb dX9_keepsHere_41 rfl (lv_at hl 3 rfl) ?_
      obtain ⟨q42, hq42, hf⟩ := k_bind hf
      refine k_calli (wN := [(h_this, o_X9 v_kind v_worlds h_arrows h_marks v_frames v_signs h_signAt h_behind v_formulas v_failsTold v_tellsTold v_seen h_seenWhat h_seenCan v_pageLength h_page v_stage v_newKind v_newWorlds v_newFrom v_newLast v_newP v_newQ h_newArrows v_wanted v_many h_to v_pNow v_qNow h_holds h_apart v_seedNow v_keptFrame v_keptKind v_keptWorlds v_keptSeen h_keptArrows h_keptMarks h_keptWhat h_keptCan v_h), (h_to, o_I cI 4 v_to)]) [0, 1] [] [0, 1] hP hD hS hA (va_runV (As := [.int x2, .int x3]) (rest := []) ⟨hx, hb, hml, hown, hts⟩ (k_X9_isArrow l D cB cI cJ cZ tL tK h_this h_arrows h_marks h_signAt h_behind h_seenWhat h_seenCan h_page h_newArrows h_to h_holds h_apart h_keptArrows h_keptMarks h_keptWhat h_keptCan _ v_kind v_worlds v_frames v_signs v_formulas v_failsTold v_tellsTold v_seen v_pageLength v_stage v_newKind v_newWorlds v_newFrom v_newLast v_newP v_newQ v_wanted v_many v_pNow v_qNow v_seedNow v_keptFrame v_keptKind v_keptWorlds v_keptSeen v_h v_to x2 x3 q42 hq42) (cwV 2 hts (k_gV m_479 m_476 m_477 m_478 m_5) rfl rfl rfl (by decide +kernel) ⟨Nat.le_of_ble_eq_true rfl, Nat.le_of_ble_eq_true rfl⟩) (k_preV [0, 1] hK hN hZ hP hD hS hA rfl rfl (va_recv hK hP (ci := 8) (q0 := 0) rfl rfl)) rfl rfl hl.1 rfl (lv_room (Nat.le_of_ble_eq_true rfl)) dX9_keepsHere_42 ⟨Nat.le_refl _, Nat.le_refl _⟩) rfl rfl rfl rfl rfl (fun H locs hP hD hS => ?_)
      refine lv_if_eq (tgt := 68) hx hb dX9_keepsHere_45 (by decide) (fun c45 => ?_) (fun c45 => ?_)
      · replace hf := k_ifT c45 hf
        refine lv_iconst (v := 1) hx hb dX9_keepsHere_68 (by decide) ?_
        refine lv_goto (tgt := 73) hx hb dX9_keepsHere_69 (by decide) ?_
        cases hf
        exact k_zret (r := 1) hx hb hr rfl hlocks hAe hS hP hD dX9_keepsHere_73
      · replace hf := k_ifF c45 hf
        refine lv_aload_n hx hb dX9_keepsHere_48 rfl (lv_at hl 0 rfl) ?_
        refine lv_iload_n hx hb dX9_keepsHere_49 rfl (lv_at hl 3 rfl) ?_
        refine lv_iload hx hb dX9_keepsHere_50 (lv_at hl 4 rfl) ?_
        obtain ⟨q52, hq52, hf⟩ := k_bind hf
        refine k_calli (wN := [(h_this, o_X9 v_kind v_worlds h_arrows h_marks v_frames v_signs h_signAt h_behind v_formulas v_failsTold v_tellsTold v_seen h_seenWhat h_seenCan v_pageLength h_page v_stage v_newKind v_newWorlds v_newFrom v_newLast v_newP v_newQ h_newArrows v_wanted v_many h_to v_pNow v_qNow h_holds h_apart v_seedNow v_keptFrame v_keptKind v_keptWorlds v_keptSeen h_keptArrows h_keptMarks h_keptWhat h_keptCan v_h), (h_to, o_I cI 4 v_to)]) [0, 1] [] [0, 1] hP hD hS hA (va_runV (As := [.int x3, .int x4]) (rest := []) ⟨hx, hb, hml, hown, hts⟩ (k_X9_isArrow l D cB cI cJ cZ tL tK h_this h_arrows h_marks h_signAt h_behind h_seenWhat h_seenCan h_page h_newArrows h_to h_holds h_apart h_keptArrows h_keptMarks h_keptWhat h_keptCan _ v_kind v_worlds v_frames v_signs v_formulas v_failsTold v_tellsTold v_seen v_pageLength v_stage v_newKind v_newWorlds v_newFrom v_newLast v_newP v_newQ v_wanted v_many v_pNow v_qNow v_seedNow v_keptFrame v_keptKind v_keptWorlds v_keptSeen v_h v_to x3 x4 q52 hq52) (cwV 2 hts (k_gV m_479 m_476 m_477 m_478 m_5) rfl rfl rfl (by decide +kernel) ⟨Nat.le_of_ble_eq_true rfl, Nat.le_of_ble_eq_true rfl⟩) (k_preV [0, 1] hK hN hZ hP hD hS hA rfl rfl (va_recv hK hP (ci := 8) (q0 := 0) rfl rfl)) rfl rfl hl.1 rfl (lv_room (Nat.le_of_ble_eq_true rfl)) dX9_keepsHere_52 ⟨Nat.le_refl _, Nat.le_refl _⟩) rfl rfl rfl rfl rfl (fun H locs hP hD hS => ?_)
        refine lv_if_eq (tgt := 68) hx hb dX9_keepsHere_55 (by decide) (fun c55 => ?_) (fun c55 => ?_)
        · replace hf := k_ifT c55 hf
          refine lv_iconst (v := 1) hx hb dX9_keepsHere_68 (by decide) ?_
          refine lv_goto (tgt := 73) hx hb dX9_keepsHere_69 (by decide) ?_
          cases hf
          exact k_zret (r := 1) hx hb hr rfl hlocks hAe hS hP hD dX9_keepsHere_73
        · replace hf := k_ifF c55 hf
          refine lv_aload_n hx hb dX9_keepsHere_58 rfl (lv_at hl 0 rfl) ?_
          refine lv_iload_n hx hb dX9_keepsHere_59 rfl (lv_at hl 2 rfl) ?_
          refine lv_iload hx hb dX9_keepsHere_60 (lv_at hl 4 rfl) ?_
          obtain ⟨q62, hq62, hf⟩ := k_bind hf
          refine k_calli (wN := [(h_this, o_X9 v_kind v_worlds h_arrows h_marks v_frames v_signs h_signAt h_behind v_formulas v_failsTold v_tellsTold v_seen h_seenWhat h_seenCan v_pageLength h_page v_stage v_newKind v_newWorlds v_newFrom v_newLast v_newP v_newQ h_newArrows v_wanted v_many h_to v_pNow v_qNow h_holds h_apart v_seedNow v_keptFrame v_keptKind v_keptWorlds v_keptSeen h_keptArrows h_keptMarks h_keptWhat h_keptCan v_h), (h_to, o_I cI 4 v_to)]) [0, 1] [] [0, 1] hP hD hS hA (va_runV (As := [.int x2, .int x4]) (rest := []) ⟨hx, hb, hml, hown, hts⟩ (k_X9_isArrow l D cB cI cJ cZ tL tK h_this h_arrows h_marks h_signAt h_behind h_seenWhat h_seenCan h_page h_newArrows h_to h_holds h_apart h_keptArrows h_keptMarks h_keptWhat h_keptCan _ v_kind v_worlds v_frames v_signs v_formulas v_failsTold v_tellsTold v_seen v_pageLength v_stage v_newKind v_newWorlds v_newFrom v_newLast v_newP v_newQ v_wanted v_many v_pNow v_qNow v_seedNow v_keptFrame v_keptKind v_keptWorlds v_keptSeen v_h v_to x2 x4 q62 hq62) (cwV 2 hts (k_gV m_479 m_476 m_477 m_478 m_5) rfl rfl rfl (by decide +kernel) ⟨Nat.le_of_ble_eq_true rfl, Nat.le_of_ble_eq_true rfl⟩) (k_preV [0, 1] hK hN hZ hP hD hS hA rfl rfl (va_recv hK hP (ci := 8) (q0 := 0) rfl rfl)) rfl rfl hl.1 rfl (lv_room (Nat.le_of_ble_eq_true rfl)) dX9_keepsHere_62 ⟨Nat.le_refl _, Nat.le_refl _⟩) rfl rfl rfl rfl rfl (fun H locs hP hD hS => ?_)
          refine lv_if_eq (tgt := 72) hx hb dX9_keepsHere_65 (by decide) (fun c65 => ?_) (fun c65 => ?_)
          · replace hf := k_ifT c65 hf
            refine lv_iconst (v := 0) hx hb dX9_keepsHere_72 (by decide) ?_
            cases hf
            exact k_zret (r := 0) hx hb hr rfl hlocks hAe hS hP hD dX9_keepsHere_73
          · replace hf := k_ifF c65 hf
            refine lv_iconst (v := 1) hx hb dX9_keepsHere_68 (by decide) ?_
            refine lv_goto (tgt := 73) hx hb dX9_keepsHere_69 (by decide) ?_
            cases hf
            exact k_zret (r := 1) hx hb hr rfl hlocks hAe hS hP hD dX9_keepsHere_73
    · replace hf := k_ifF c1_1 hf
      by_cases c1_2 : x1 = 2
      · replace hf := k_ifT c1_2 hf
        refine lv_tableIn (tgt := 74) hx hb dX9_keepsHere_1 (by rw [c1_2]; decide) (by rw [c1_2]; decide) (by rw [c1_2]; rfl) (by decide) ?_
        refine lv_aload_n hx hb dX9_keepsHere_74 rfl (lv_at hl 0 rfl) ?_
        refine lv_iload_n hx hb dX9_keepsHere_75 rfl (lv_at hl 2 rfl) ?_
        refine lv_iload_n hx hb dX9_keepsHere_76 rfl (lv_at hl 3 rfl) ?_
        obtain ⟨q77, hq77, hf⟩ := k_bind hf
        refine k_calli (wN := [(h_this, o_X9 v_kind v_worlds h_arrows h_marks v_frames v_signs h_signAt h_behind v_formulas v_failsTold v_tellsTold v_seen h_seenWhat h_seenCan v_pageLength h_page v_stage v_newKind v_newWorlds v_newFrom v_newLast v_newP v_newQ h_newArrows v_wanted v_many h_to v_pNow v_qNow h_holds h_apart v_seedNow v_keptFrame v_keptKind v_keptWorlds v_keptSeen h_keptArrows h_keptMarks h_keptWhat h_keptCan v_h), (h_to, o_I cI 4 v_to)]) [0, 1] [] [0, 1] hP hD hS hA (va_runV (As := [.int x2, .int x3]) (rest := []) ⟨hx, hb, hml, hown, hts⟩ (k_X9_isArrow l D cB cI cJ cZ tL tK h_this h_arrows h_marks h_signAt h_behind h_seenWhat h_seenCan h_page h_newArrows h_to h_holds h_apart h_keptArrows h_keptMarks h_keptWhat h_keptCan _ v_kind v_worlds v_frames v_signs v_formulas v_failsTold v_tellsTold v_seen v_pageLength v_stage v_newKind v_newWorlds v_newFrom v_newLast v_newP v_newQ v_wanted v_many v_pNow v_qNow v_seedNow v_keptFrame v_keptKind v_keptWorlds v_keptSeen v_h v_to x2 x3 q77 hq77) (cwV 2 hts (k_gV m_479 m_476 m_477 m_478 m_5) rfl rfl rfl (by decide +kernel) ⟨Nat.le_of_ble_eq_true rfl, Nat.le_of_ble_eq_true rfl⟩) (k_preV [0, 1] hK hN hZ hP hD hS hA rfl rfl (va_recv hK hP (ci := 8) (q0 := 0) rfl rfl)) rfl rfl hl.1 rfl (lv_room (Nat.le_of_ble_eq_true rfl)) dX9_keepsHere_77 ⟨Nat.le_refl _, Nat.le_refl _⟩) rfl rfl rfl rfl rfl (fun H locs hP hD hS => ?_)
        refine lv_if_eq (tgt := 92) hx hb dX9_keepsHere_80 (by decide) (fun c80 => ?_) (fun c80 => ?_)
        · replace hf := k_ifT c80 hf
          refine lv_iconst (v := 1) hx hb dX9_keepsHere_92 (by decide) ?_
          refine lv_goto (tgt := 97) hx hb dX9_keepsHere_93 (by decide) ?_
          cases hf
          exact k_zret (r := 1) hx hb hr rfl hlocks hAe hS hP hD dX9_keepsHere_97
        · replace hf := k_ifF c80 hf
          refine lv_aload_n hx hb dX9_keepsHere_83 rfl (lv_at hl 0 rfl) ?_
          refine lv_iload_n hx hb dX9_keepsHere_84 rfl (lv_at hl 3 rfl) ?_
          refine lv_iload_n hx hb dX9_keepsHere_85 rfl (lv_at hl 2 rfl) ?_
          obtain ⟨q86, hq86, hf⟩ := k_bind hf
          refine k_calli (wN := [(h_this, o_X9 v_kind v_worlds h_arrows h_marks v_frames v_signs h_signAt h_behind v_formulas v_failsTold v_tellsTold v_seen h_seenWhat h_seenCan v_pageLength h_page v_stage v_newKind v_newWorlds v_newFrom v_newLast v_newP v_newQ h_newArrows v_wanted v_many h_to v_pNow v_qNow h_holds h_apart v_seedNow v_keptFrame v_keptKind v_keptWorlds v_keptSeen h_keptArrows h_keptMarks h_keptWhat h_keptCan v_h), (h_to, o_I cI 4 v_to)]) [0, 1] [] [0, 1] hP hD hS hA (va_runV (As := [.int x3, .int x2]) (rest := []) ⟨hx, hb, hml, hown, hts⟩ (k_X9_isArrow l D cB cI cJ cZ tL tK h_this h_arrows h_marks h_signAt h_behind h_seenWhat h_seenCan h_page h_newArrows h_to h_holds h_apart h_keptArrows h_keptMarks h_keptWhat h_keptCan _ v_kind v_worlds v_frames v_signs v_formulas v_failsTold v_tellsTold v_seen v_pageLength v_stage v_newKind v_newWorlds v_newFrom v_newLast v_newP v_newQ v_wanted v_many v_pNow v_qNow v_seedNow v_keptFrame v_keptKind v_keptWorlds v_keptSeen v_h v_to x3 x2 q86 hq86) (cwV 2 hts (k_gV m_479 m_476 m_477 m_478 m_5) rfl rfl rfl (by decide +kernel) ⟨Nat.le_of_ble_eq_true rfl, Nat.le_of_ble_eq_true rfl⟩) (k_preV [0, 1] hK hN hZ hP hD hS hA rfl rfl (va_recv hK hP (ci := 8) (q0 := 0) rfl rfl)) rfl rfl hl.1 rfl (lv_room (Nat.le_of_ble_eq_true rfl)) dX9_keepsHere_86 ⟨Nat.le_refl _, Nat.le_refl _⟩) rfl rfl rfl rfl rfl (fun H locs hP hD hS => ?_)
          refine lv_if_eq (tgt := 96) hx hb dX9_keepsHere_89 (by decide) (fun c89 => ?_) (fun c89 => ?_)
          · replace hf := k_ifT c89 hf
            refine lv_iconst (v := 0) hx hb dX9_keepsHere_96 (by decide) ?_
            cases hf
            exact k_zret (r := 0) hx hb hr rfl hlocks hAe hS hP hD dX9_keepsHere_97
          · replace hf := k_ifF c89 hf
            refine lv_iconst (v := 1) hx hb dX9_keepsHere_92 (by decide) ?_
            refine lv_goto (tgt := 97) hx hb dX9_keepsHere_93 (by decide) ?_
            cases hf
            exact k_zret (r := 1) hx hb hr rfl hlocks hAe hS hP hD dX9_keepsHere_97
      · replace hf := k_ifF c1_2 hf
        by_cases c1_3 : x1 = 3
        · replace hf := k_ifT c1_3 hf
          refine lv_tableIn (tgt := 98) hx hb dX9_keepsHere_1 (by rw [c1_3]; decide) (by rw [c1_3]; decide) (by rw [c1_3]; rfl) (by decide) ?_
          refine lv_aload_n hx hb dX9_keepsHere_98 rfl (lv_at hl 0 rfl) ?_
          refine va_get (D := D) (ci := 8) (v := .ref h_to) (C := RX9) (T := TX9) (N := 41) hx hb hts inlX9 hown hK hP 0 rfl rfl 26 (by decide) (hts _ m_91) (fun _ h9 => h9) rfl dX9_keepsHere_99 ?_
          refine lv_iload_n hx hb dX9_keepsHere_102 rfl (lv_at hl 2 rfl) ?_
          obtain ⟨hi103, hf⟩ := k_chk_some hf
          refine va_iald (D := D) hx hb hK hP 1 1 rfl rfl hi103 dX9_keepsHere_103 ?_
          refine lv_if_eq (tgt := 111) hx hb dX9_keepsHere_104 (by decide) (fun c104 => ?_) (fun c104 => ?_)
          · replace hf := k_ifT c104 hf
            refine lv_iconst (v := 0) hx hb dX9_keepsHere_111 (by decide) ?_
            cases hf
            exact k_zret (r := 0) hx hb hr rfl hlocks hAe hS hP hD dX9_keepsHere_112
          · replace hf := k_ifF c104 hf
            refine lv_iconst (v := 1) hx hb dX9_keepsHere_107 (by decide) ?_
            refine lv_goto (tgt := 112) hx hb dX9_keepsHere_108 (by decide) ?_
            cases hf
            exact k_zret (r := 1) hx hb hr rfl hlocks hAe hS hP hD dX9_keepsHere_112
        · replace hf := k_ifF c1_3 hf
          refine lv_tableOut (tgt := 113) hx hb dX9_keepsHere_1 (by have := lv_neT c1_0 (show (0 : Int32).toInt = 0 by decide); have := lv_neT c1_1 (show (1 : Int32).toInt = 1 by decide); have := lv_neT c1_2 (show (2 : Int32).toInt = 2 by decide); have := lv_neT c1_3 (show (3 : Int32).toInt = 3 by decide); omega) (by decide) ?_
          refine lv_aload_n hx hb dX9_keepsHere_113 rfl (lv_at hl 0 rfl) ?_
          refine lv_iload_n hx hb dX9_keepsHere_114 rfl (lv_at hl 2 rfl) ?_
          refine lv_iload_n hx hb dX9_keepsHere_115 rfl (lv_at hl 3 rfl) ?_
          obtain ⟨q116, hq116, hf⟩ := k_bind hf
          refine k_calli (wN := [(h_this, o_X9 v_kind v_worlds h_arrows h_marks v_frames v_signs h_signAt h_behind v_formulas v_failsTold v_tellsTold v_seen h_seenWhat h_seenCan v_pageLength h_page v_stage v_newKind v_newWorlds v_newFrom v_newLast v_newP v_newQ h_newArrows v_wanted v_many h_to v_pNow v_qNow h_holds h_apart v_seedNow v_keptFrame v_keptKind v_keptWorlds v_keptSeen h_keptArrows h_keptMarks h_keptWhat h_keptCan v_h), (h_to, o_I cI 4 v_to)]) [0, 1] [] [0, 1] hP hD hS hA (va_runV (As := [.int x2, .int x3]) (rest := []) ⟨hx, hb, hml, hown, hts⟩ (k_X9_isArrow l D cB cI cJ cZ tL tK h_this h_arrows h_marks h_signAt h_behind h_seenWhat h_seenCan h_page h_newArrows h_to h_holds h_apart h_keptArrows h_keptMarks h_keptWhat h_keptCan _ v_kind v_worlds v_frames v_signs v_formulas v_failsTold v_tellsTold v_seen v_pageLength v_stage v_newKind v_newWorlds v_newFrom v_newLast v_newP v_newQ v_wanted v_many v_pNow v_qNow v_seedNow v_keptFrame v_keptKind v_keptWorlds v_keptSeen v_h v_to x2 x3 q116 hq116) (cwV 2 hts (k_gV m_479 m_476 m_477 m_478 m_5) rfl rfl rfl (by decide +kernel) ⟨Nat.le_of_ble_eq_true rfl, Nat.le_of_ble_eq_true rfl⟩) (k_preV [0, 1] hK hN hZ hP hD hS hA rfl rfl (va_recv hK hP (ci := 8) (q0 := 0) rfl rfl)) rfl rfl hl.1 rfl (lv_room (Nat.le_of_ble_eq_true rfl)) dX9_keepsHere_116 ⟨Nat.le_refl _, Nat.le_refl _⟩) rfl rfl rfl rfl rfl (fun H locs hP hD hS => ?_)
          refine lv_if_eq (tgt := 142) hx hb dX9_keepsHere_119 (by decide) (fun c119 => ?_) (fun c119 => ?_)
          · replace hf := k_ifT c119 hf
            refine lv_iconst (v := 1) hx hb dX9_keepsHere_142 (by decide) ?_
            refine lv_goto (tgt := 147) hx hb dX9_keepsHere_143 (by decide) ?_
            cases hf
            exact k_zret (r := 1) hx hb hr rfl hlocks hAe hS hP hD dX9_keepsHere_147
          · replace hf := k_ifF c119 hf
            refine lv_aload_n hx hb dX9_keepsHere_122 rfl (lv_at hl 0 rfl) ?_
            refine lv_iload_n hx hb dX9_keepsHere_123 rfl (lv_at hl 2 rfl) ?_
            refine lv_iload hx hb dX9_keepsHere_124 (lv_at hl 4 rfl) ?_
            obtain ⟨q126, hq126, hf⟩ := k_bind hf
            refine k_calli (wN := [(h_this, o_X9 v_kind v_worlds h_arrows h_marks v_frames v_signs h_signAt h_behind v_formulas v_failsTold v_tellsTold v_seen h_seenWhat h_seenCan v_pageLength h_page v_stage v_newKind v_newWorlds v_newFrom v_newLast v_newP v_newQ h_newArrows v_wanted v_many h_to v_pNow v_qNow h_holds h_apart v_seedNow v_keptFrame v_keptKind v_keptWorlds v_keptSeen h_keptArrows h_keptMarks h_keptWhat h_keptCan v_h), (h_to, o_I cI 4 v_to)]) [0, 1] [] [0, 1] hP hD hS hA (va_runV (As := [.int x2, .int x4]) (rest := []) ⟨hx, hb, hml, hown, hts⟩ (k_X9_isArrow l D cB cI cJ cZ tL tK h_this h_arrows h_marks h_signAt h_behind h_seenWhat h_seenCan h_page h_newArrows h_to h_holds h_apart h_keptArrows h_keptMarks h_keptWhat h_keptCan _ v_kind v_worlds v_frames v_signs v_formulas v_failsTold v_tellsTold v_seen v_pageLength v_stage v_newKind v_newWorlds v_newFrom v_newLast v_newP v_newQ v_wanted v_many v_pNow v_qNow v_seedNow v_keptFrame v_keptKind v_keptWorlds v_keptSeen v_h v_to x2 x4 q126 hq126) (cwV 2 hts (k_gV m_479 m_476 m_477 m_478 m_5) rfl rfl rfl (by decide +kernel) ⟨Nat.le_of_ble_eq_true rfl, Nat.le_of_ble_eq_true rfl⟩) (k_preV [0, 1] hK hN hZ hP hD hS hA rfl rfl (va_recv hK hP (ci := 8) (q0 := 0) rfl rfl)) rfl rfl hl.1 rfl (lv_room (Nat.le_of_ble_eq_true rfl)) dX9_keepsHere_126 ⟨Nat.le_refl _, Nat.le_refl _⟩) rfl rfl rfl rfl rfl (fun H locs hP hD hS => ?_)
            refine lv_if_eq (tgt := 142) hx hb dX9_keepsHere_129 (by decide) (fun c129 => ?_) (fun c129 => ?_)
            · replace hf := k_ifT c129 hf
              refine lv_iconst (v := 1) hx hb dX9_keepsHere_142 (by decide) ?_
              refine lv_goto (tgt := 147) hx hb dX9_keepsHere_143 (by decide) ?_
              cases hf
              exact k_zret (r := 1) hx hb hr rfl hlocks hAe hS hP hD dX9_keepsHere_147
            · replace hf := k_ifF c129 hf
              refine lv_aload_n hx hb dX9_keepsHere_132 rfl (lv_at hl 0 rfl) ?_
              refine lv_iload_n hx hb dX9_keepsHere_133 rfl (lv_at hl 3 rfl) ?_
              refine lv_iload hx hb dX9_keepsHere_134 (lv_at hl 4 rfl) ?_
              obtain ⟨q136, hq136, hf⟩ := k_bind hf
              refine k_calli (wN := [(h_this, o_X9 v_kind v_worlds h_arrows h_marks v_frames v_signs h_signAt h_behind v_formulas v_failsTold v_tellsTold v_seen h_seenWhat h_seenCan v_pageLength h_page v_stage v_newKind v_newWorlds v_newFrom v_newLast v_newP v_newQ h_newArrows v_wanted v_many h_to v_pNow v_qNow h_holds h_apart v_seedNow v_keptFrame v_keptKind v_keptWorlds v_keptSeen h_keptArrows h_keptMarks h_keptWhat h_keptCan v_h), (h_to, o_I cI 4 v_to)]) [0, 1] [] [0, 1] hP hD hS hA (va_runV (As := [.int x3, .int x4]) (rest := []) ⟨hx, hb, hml, hown, hts⟩ (k_X9_isArrow l D cB cI cJ cZ tL tK h_this h_arrows h_marks h_signAt h_behind h_seenWhat h_seenCan h_page h_newArrows h_to h_holds h_apart h_keptArrows h_keptMarks h_keptWhat h_keptCan _ v_kind v_worlds v_frames v_signs v_formulas v_failsTold v_tellsTold v_seen v_pageLength v_stage v_newKind v_newWorlds v_newFrom v_newLast v_newP v_newQ v_wanted v_many v_pNow v_qNow v_seedNow v_keptFrame v_keptKind v_keptWorlds v_keptSeen v_h v_to x3 x4 q136 hq136) (cwV 2 hts (k_gV m_479 m_476 m_477 m_478 m_5) rfl rfl rfl (by decide +kernel) ⟨Nat.le_of_ble_eq_true rfl, Nat.le_of_ble_eq_true rfl⟩) (k_preV [0, 1] hK hN hZ hP hD hS hA rfl rfl (va_recv hK hP (ci := 8) (q0 := 0) rfl rfl)) rfl rfl hl.1 rfl (lv_room (Nat.le_of_ble_eq_true rfl)) dX9_keepsHere_136 ⟨Nat.le_refl _, Nat.le_refl _⟩) rfl rfl rfl rfl rfl (fun H locs hP hD hS => ?_)
              refine lv_if_eq (tgt := 146) hx hb dX9_keepsHere_139 (by decide) (fun c139 => ?_) (fun c139 => ?_)
              · replace hf := k_ifT c139 hf
                refine lv_iconst (v := 0) hx hb dX9_keepsHere_146 (by decide) ?_
                cases hf
                exact k_zret (r := 0) hx hb hr rfl hlocks hAe hS hP hD dX9_keepsHere_147
              · replace hf := k_ifF c139 hf
                refine lv_iconst (v := 1) hx hb dX9_keepsHere_142 (by decide) ?_
                refine lv_goto (tgt := 147) hx hb dX9_keepsHere_143 (by decide) ?_
                cases hf
                exact k_zret (r := 1) hx hb hr rfl hlocks hAe hS hP hD dX9_keepsHere_147
set_option maxHeartbeats 4000000 in
set_option maxRecDepth 100000 in
theorem k_X9_keepsNow (l : Launch) (D : va_G) (cB cI cJ cZ : ClassId) (tL tK : Nat) (h_this h_arrows h_marks h_signAt h_behind h_seenWhat h_seenCan h_page h_newArrows h_to h_holds h_apart h_keptArrows h_keptMarks h_keptWhat h_keptCan : Nat) (sz : Nat) (v_kind : Int32) (v_worlds : Int32) (v_frames : Int32) (v_signs : Int32) (v_formulas : Int32) (v_failsTold : Int32) (v_tellsTold : Int32) (v_seen : Int32) (v_pageLength : Int32) (v_stage : Int32) (v_newKind : Int32) (v_newWorlds : Int32) (v_newFrom : Int32) (v_newLast : Int32) (v_newP : Int32) (v_newQ : Int32) (v_wanted : Int32) (v_many : Int32) (v_pNow : Int32) (v_qNow : Int32) (v_seedNow : Int64) (v_keptFrame : Int32) (v_keptKind : Int32) (v_keptWorlds : Int32) (v_keptSeen : Int32) (v_h : Int64) (v_to : (Nat → Int32)) (x1 : Int32) (q : Int32) (hf : f_X9_keepsNow v_many v_to x1 = some q) : Met l yX9_keepsNow (.code yX9_keepsNow cX9_keepsNow 4 (some .boolean) :: k_all) { frames := 3, cells := 0, slots := 0, locals := 67 } (k_P D cB cI cJ cZ tL tK [.ref h_this, .int x1] [(h_this, o_X9 v_kind v_worlds h_arrows h_marks v_frames v_signs h_signAt h_behind v_formulas v_failsTold v_tellsTold v_seen h_seenWhat h_seenCan v_pageLength h_page v_stage v_newKind v_newWorlds v_newFrom v_newLast v_newP v_newQ h_newArrows v_wanted v_many h_to v_pNow v_qNow h_holds h_apart v_seedNow v_keptFrame v_keptKind v_keptWorlds v_keptSeen h_keptArrows h_keptMarks h_keptWhat h_keptCan v_h), (h_to, o_I cI 4 v_to)] sz) (k_I D q [(h_this, o_X9 v_kind v_worlds h_arrows h_marks v_frames v_signs h_signAt h_behind v_formulas v_failsTold v_tellsTold v_seen h_seenWhat h_seenCan v_pageLength h_page v_stage v_newKind v_newWorlds v_newFrom v_newLast v_newP v_newQ h_newArrows v_wanted v_many h_to v_pNow v_qNow h_holds h_apart v_seedNow v_keptFrame v_keptKind v_keptWorlds v_keptSeen h_keptArrows h_keptMarks h_keptWhat h_keptCan v_h), (h_to, o_I cI 4 v_to)] [(h_this, o_X9 v_kind v_worlds h_arrows h_marks v_frames v_signs h_signAt h_behind v_formulas v_failsTold v_tellsTold v_seen h_seenWhat h_seenCan v_pageLength h_page v_stage v_newKind v_newWorlds v_newFrom v_newLast v_newP v_newQ h_newArrows v_wanted v_many h_to v_pNow v_qNow h_holds h_apart v_seedNow v_keptFrame v_keptKind v_keptWorlds v_keptSeen h_keptArrows h_keptMarks h_keptWhat h_keptCan v_h), (h_to, o_I cI 4 v_to)] sz) 0 0 (va_A [(h_this, o_X9 v_kind v_worlds h_arrows h_marks v_frames v_signs h_signAt h_behind v_formulas v_failsTold v_tellsTold v_seen h_seenWhat h_seenCan v_pageLength h_page v_stage v_newKind v_newWorlds v_newFrom v_newLast v_newP v_newQ h_newArrows v_wanted v_many h_to v_pNow v_qNow h_holds h_apart v_seedNow v_keptFrame v_keptKind v_keptWorlds v_keptSeen h_keptArrows h_keptMarks h_keptWhat h_keptCan v_h), (h_to, o_I cI 4 v_to)] sz) := by
  unfold f_X9_keepsNow at hf
  refine k_met RX9 rfl (by decide +kernel) (Nat.le_of_ble_eq_true rfl) ?_
  intro p e s m below meth c A ls hx hb hr hml hown hts hlocks hin hsz hAe hA hK hN hZ hD hS hP hl
  have hl : lv_has ls 4 [(0, .ref h_this), (1, .int x1)] := hl
  refine lv_iconst (v := 1) hx hb dX9_keepsNow_0 (by decide) ?_
  refine lv_istore_n (lv' := [(2, .int 1), (0, .ref h_this), (1, .int x1)]) hx hb dX9_keepsNow_1 rfl hl (by decide) rfl (fun ls hl => ?_)
  refine lv_iconst (v := 0) hx hb dX9_keepsNow_2 (by decide) ?_
  refine lv_istore_n (lv' := [(3, .int 0), (2, .int 1), (0, .ref h_this), (1, .int x1)]) hx hb dX9_keepsNow_3 rfl hl (by decide) rfl (fun ls hl => ?_)
  refine k_wl 74 (wsf := fun (a4 : Int32 × Int32) => [(h_this, o_X9 v_kind v_worlds h_arrows h_marks v_frames v_signs h_signAt h_behind v_formulas v_failsTold v_tellsTold v_seen h_seenWhat h_seenCan v_pageLength h_page v_stage v_newKind v_newWorlds v_newFrom v_newLast v_newP v_newQ h_newArrows v_wanted v_many h_to v_pNow v_qNow h_holds h_apart v_seedNow v_keptFrame v_keptKind v_keptWorlds v_keptSeen h_keptArrows h_keptMarks h_keptWhat h_keptCan v_h), (h_to, o_I cI 4 v_to)]) (lvf := fun (a4 : Int32 × Int32) => [(0, .ref h_this), (1, .int x1), (2, .int a4.1), (3, .int a4.2)]) hf hP hD hS (lv_sub hl [2, 3, 1, 0] rfl) ?_ ?_
  · intro a4 H locs ls hf hP hD hS hl
    have hP : va_P D vwCl [(h_this, o_X9 v_kind v_worlds h_arrows h_marks v_frames v_signs h_signAt h_behind v_formulas v_failsTold v_tellsTold v_seen h_seenWhat h_seenCan v_pageLength h_page v_stage v_newKind v_newWorlds v_newFrom v_newLast v_newP v_newQ h_newArrows v_wanted v_many h_to v_pNow v_qNow h_holds h_apart v_seedNow v_keptFrame v_keptKind v_keptWorlds v_keptSeen h_keptArrows h_keptMarks h_keptWhat h_keptCan v_h), (h_to, o_I cI 4 v_to)] H := hP
    have hD : va_D A [(h_this, o_X9 v_kind v_worlds h_arrows h_marks v_frames v_signs h_signAt h_behind v_formulas v_failsTold v_tellsTold v_seen h_seenWhat h_seenCan v_pageLength h_page v_stage v_newKind v_newWorlds v_newFrom v_newLast v_newP v_newQ h_newArrows v_wanted v_many h_to v_pNow v_qNow h_holds h_apart v_seedNow v_keptFrame v_keptKind v_keptWorlds v_keptSeen h_keptArrows h_keptMarks h_keptWhat h_keptCan v_h), (h_to, o_I cI 4 v_to)] := hD
    have hl : lv_has ls 4 [(0, .ref h_this), (1, .int x1), (2, .int a4.1), (3, .int a4.2)] := hl
    refine lv_iload_n hx hb dX9_keepsNow_74 rfl (lv_at hl 2 rfl) ?_
    obtain ⟨hbl, hf⟩ := k_bl_some hf
    cases hf
    exact k_zret hx hb hr (k_bn hbl) hlocks hAe hS hP hD dX9_keepsNow_75
  · intro ex4 rc4 hE4 hR4 a4 H locs ls hf hP hD hS hl
    have hP : va_P D vwCl [(h_this, o_X9 v_kind v_worlds h_arrows h_marks v_frames v_signs h_signAt h_behind v_formulas v_failsTold v_tellsTold v_seen h_seenWhat h_seenCan v_pageLength h_page v_stage v_newKind v_newWorlds v_newFrom v_newLast v_newP v_newQ h_newArrows v_wanted v_many h_to v_pNow v_qNow h_holds h_apart v_seedNow v_keptFrame v_keptKind v_keptWorlds v_keptSeen h_keptArrows h_keptMarks h_keptWhat h_keptCan v_h), (h_to, o_I cI 4 v_to)] H := hP
    have hD : va_D A [(h_this, o_X9 v_kind v_worlds h_arrows h_marks v_frames v_signs h_signAt h_behind v_formulas v_failsTold v_tellsTold v_seen h_seenWhat h_seenCan v_pageLength h_page v_stage v_newKind v_newWorlds v_newFrom v_newLast v_newP v_newQ h_newArrows v_wanted v_many h_to v_pNow v_qNow h_holds h_apart v_seedNow v_keptFrame v_keptKind v_keptWorlds v_keptSeen h_keptArrows h_keptMarks h_keptWhat h_keptCan v_h), (h_to, o_I cI 4 v_to)] := hD
    have hl : lv_has ls 4 [(0, .ref h_this), (1, .int x1), (2, .int a4.1), (3, .int a4.2)] := hl
    refine lv_iload_n hx hb dX9_keepsNow_4 rfl (lv_at hl 3 rfl) ?_
    refine lv_aload_n hx hb dX9_keepsNow_5 rfl (lv_at hl 0 rfl) ?_
    refine va_get (D := D) (ci := 8) (v := .int v_many) (C := RX9) (T := TX9) (N := 41) hx hb hts inlX9 hown hK hP 0 rfl rfl 25 (by decide) (hts _ m_461) (fun _ h9 => h9) rfl dX9_keepsNow_6 ?_
    refine lv_aload_n hx hb dX9_keepsNow_9 rfl (lv_at hl 0 rfl) ?_
    refine va_get (D := D) (ci := 8) (v := .int v_many) (C := RX9) (T := TX9) (N := 41) hx hb hts inlX9 hown hK hP 0 rfl rfl 25 (by decide) (hts _ m_461) (fun _ h9 => h9) rfl dX9_keepsNow_10 ?_
    refine lv_imul hx hb dX9_keepsNow_13 ?_
    refine lv_aload_n hx hb dX9_keepsNow_14 rfl (lv_at hl 0 rfl) ?_
    refine va_get (D := D) (ci := 8) (v := .int v_many) (C := RX9) (T := TX9) (N := 41) hx hb hts inlX9 hown hK hP 0 rfl rfl 25 (by decide) (hts _ m_461) (fun _ h9 => h9) rfl dX9_keepsNow_15 ?_
    refine lv_imul hx hb dX9_keepsNow_18 ?_
    refine lv_icmp_ge (tgt := 74) hx hb dX9_keepsNow_19 (by decide) (fun c19 => ?_) (fun c19 => ?_)
    · replace hf := k_ifT c19 hf
      exact hE4 _ _ _ _ hf hP hD hS (lv_sub hl [0, 1, 2, 3] rfl)
    · replace hf := k_ifF c19 hf
      refine lv_iload_n hx hb dX9_keepsNow_22 rfl (lv_at hl 2 rfl) ?_
      refine lv_if_eq (tgt := 66) hx hb dX9_keepsNow_23 (by decide) (fun c23 => ?_) (fun c23 => ?_)
      · replace hf := k_ifT c23 hf
        refine lv_iconst (v := 0) hx hb dX9_keepsNow_66 (by decide) ?_
        refine lv_istore_n (lv' := [(2, .int 0), (0, .ref h_this), (1, .int x1), (3, .int a4.2)]) hx hb dX9_keepsNow_67 rfl hl (by decide) rfl (fun ls hl => ?_)
        refine lv_iinc (v := (a4.2 + 1)) (lv' := [(3, .int (a4.2 + 1)), (2, .int 0), (0, .ref h_this), (1, .int x1)]) hx hb dX9_keepsNow_68 hl (k := 3) rfl rfl (by decide) rfl (fun ls hl => ?_)
        refine lv_goto (tgt := 4) hx hb dX9_keepsNow_71 (by decide) ?_
        exact hR4 _ _ _ _ hf hP hD hS (lv_sub hl [2, 3, 1, 0] rfl)
      · replace hf := k_ifF c23 hf
        refine lv_aload_n hx hb dX9_keepsNow_26 rfl (lv_at hl 0 rfl) ?_
        refine lv_iload_n hx hb dX9_keepsNow_27 rfl (lv_at hl 1 rfl) ?_
        refine lv_iload_n hx hb dX9_keepsNow_28 rfl (lv_at hl 3 rfl) ?_
        refine lv_aload_n hx hb dX9_keepsNow_29 rfl (lv_at hl 0 rfl) ?_
        refine va_get (D := D) (ci := 8) (v := .int v_many) (C := RX9) (T := TX9) (N := 41) hx hb hts inlX9 hown hK hP 0 rfl rfl 25 (by decide) (hts _ m_461) (fun _ h9 => h9) rfl dX9_keepsNow_30 ?_
        obtain ⟨hz33, hf⟩ := k_nz_some hf
        refine lv_idiv hx hb dX9_keepsNow_33 hz33 ?_
        refine lv_aload_n hx hb dX9_keepsNow_34 rfl (lv_at hl 0 rfl) ?_
        refine va_get (D := D) (ci := 8) (v := .int v_many) (C := RX9) (T := TX9) (N := 41) hx hb hts inlX9 hown hK hP 0 rfl rfl 25 (by decide) (hts _ m_461) (fun _ h9 => h9) rfl dX9_keepsNow_35 ?_
        obtain ⟨hz38, hf⟩ := k_nz_some hf
        refine lv_idiv hx hb dX9_keepsNow_38 hz38 ?_
        refine lv_iload_n hx hb dX9_keepsNow_39 rfl (lv_at hl 3 rfl) ?_
        refine lv_aload_n hx hb dX9_keepsNow_40 rfl (lv_at hl 0 rfl) ?_
        refine va_get (D := D) (ci := 8) (v := .int v_many) (C := RX9) (T := TX9) (N := 41) hx hb hts inlX9 hown hK hP 0 rfl rfl 25 (by decide) (hts _ m_461) (fun _ h9 => h9) rfl dX9_keepsNow_41 ?_
        obtain ⟨hz44, hf⟩ := k_nz_some hf
        refine lv_idiv hx hb dX9_keepsNow_44 hz44 ?_
        refine lv_aload_n hx hb dX9_keepsNow_45 rfl (lv_at hl 0 rfl) ?_
        refine va_get (D := D) (ci := 8) (v := .int v_many) (C := RX9) (T := TX9) (N := 41) hx hb hts inlX9 hown hK hP 0 rfl rfl 25 (by decide) (hts _ m_461) (fun _ h9 => h9) rfl dX9_keepsNow_46 ?_
        obtain ⟨hz49, hf⟩ := k_nz_some hf
        refine lv_irem hx hb dX9_keepsNow_49 hz49 ?_
        refine lv_iload_n hx hb dX9_keepsNow_50 rfl (lv_at hl 3 rfl) ?_
        refine lv_aload_n hx hb dX9_keepsNow_51 rfl (lv_at hl 0 rfl) ?_
        refine va_get (D := D) (ci := 8) (v := .int v_many) (C := RX9) (T := TX9) (N := 41) hx hb hts inlX9 hown hK hP 0 rfl rfl 25 (by decide) (hts _ m_461) (fun _ h9 => h9) rfl dX9_keepsNow_52 ?_
        obtain ⟨hz55, hf⟩ := k_nz_some hf
        refine lv_irem hx hb dX9_keepsNow_55 hz55 ?_
        obtain ⟨q56, hq56, hf⟩ := k_bind hf
        refine k_calli (wN := [(h_this, o_X9 v_kind v_worlds h_arrows h_marks v_frames v_signs h_signAt h_behind v_formulas v_failsTold v_tellsTold v_seen h_seenWhat h_seenCan v_pageLength h_page v_stage v_newKind v_newWorlds v_newFrom v_newLast v_newP v_newQ h_newArrows v_wanted v_many h_to v_pNow v_qNow h_holds h_apart v_seedNow v_keptFrame v_keptKind v_keptWorlds v_keptSeen h_keptArrows h_keptMarks h_keptWhat h_keptCan v_h), (h_to, o_I cI 4 v_to)]) [0, 1] [] [0, 1] hP hD hS hA (va_runV (As := [.int x1, .int ((a4.2 / v_many) / v_many), .int ((a4.2 / v_many) - (a4.2 / v_many) / v_many * v_many), .int (a4.2 - a4.2 / v_many * v_many)]) (rest := []) ⟨hx, hb, hml, hown, hts⟩ (k_X9_keepsHere l D cB cI cJ cZ tL tK h_this h_arrows h_marks h_signAt h_behind h_seenWhat h_seenCan h_page h_newArrows h_to h_holds h_apart h_keptArrows h_keptMarks h_keptWhat h_keptCan _ v_kind v_worlds v_frames v_signs v_formulas v_failsTold v_tellsTold v_seen v_pageLength v_stage v_newKind v_newWorlds v_newFrom v_newLast v_newP v_newQ v_wanted v_many v_pNow v_qNow v_seedNow v_keptFrame v_keptKind v_keptWorlds v_keptSeen v_h v_to x1 ((a4.2 / v_many) / v_many) ((a4.2 / v_many) - (a4.2 / v_many) / v_many * v_many) (a4.2 - a4.2 / v_many * v_many) q56 hq56) (cwV 4 hts (k_gV m_475 m_472 m_473 m_474 m_5) rfl rfl rfl (by decide +kernel) ⟨Nat.le_of_ble_eq_true rfl, Nat.le_of_ble_eq_true rfl⟩) (k_preV [0, 1] hK hN hZ hP hD hS hA rfl rfl (va_recv hK hP (ci := 8) (q0 := 0) rfl rfl)) rfl rfl hl.1 rfl (lv_room (Nat.le_of_ble_eq_true rfl)) dX9_keepsNow_56 ⟨Nat.le_refl _, Nat.le_refl _⟩) rfl rfl rfl rfl rfl (fun H locs hP hD hS => ?_)
        refine lv_if_eq (tgt := 66) hx hb dX9_keepsNow_59 (by decide) (fun c59 => ?_) (fun c59 => ?_)
        · replace hf := k_ifT c59 hf
          refine lv_iconst (v := 0) hx hb dX9_keepsNow_66 (by decide) ?_
          refine lv_istore_n (lv' := [(2, .int 0), (0, .ref h_this), (1, .int x1), (3, .int a4.2)]) hx hb dX9_keepsNow_67 rfl hl (by decide) rfl (fun ls hl => ?_)
          refine lv_iinc (v := (a4.2 + 1)) (lv' := [(3, .int (a4.2 + 1)), (2, .int 0), (0, .ref h_this), (1, .int x1)]) hx hb dX9_keepsNow_68 hl (k := 3) rfl rfl (by decide) rfl (fun ls hl => ?_)
          refine lv_goto (tgt := 4) hx hb dX9_keepsNow_71 (by decide) ?_
          exact hR4 _ _ _ _ hf hP hD hS (lv_sub hl [2, 3, 1, 0] rfl)
        · replace hf := k_ifF c59 hf
          refine lv_iconst (v := 1) hx hb dX9_keepsNow_62 (by decide) ?_
          refine lv_goto (tgt := 67) hx hb dX9_keepsNow_63 (by decide) ?_
          refine lv_istore_n (lv' := [(2, .int 1), (0, .ref h_this), (1, .int x1), (3, .int a4.2)]) hx hb dX9_keepsNow_67 rfl hl (by decide) rfl (fun ls hl => ?_)
          refine lv_iinc (v := (a4.2 + 1)) (lv' := [(3, .int (a4.2 + 1)), (2, .int 1), (0, .ref h_this), (1, .int x1)]) hx hb dX9_keepsNow_68 hl (k := 3) rfl rfl (by decide) rfl (fun ls hl => ?_)
          refine lv_goto (tgt := 4) hx hb dX9_keepsNow_71 (by decide) ?_
          exact hR4 _ _ _ _ hf hP hD hS (lv_sub hl [2, 3, 1, 0] rfl)
set_option maxHeartbeats 4000000 in
set_option maxRecDepth 100000 in
theorem k_X9_fitsNow (l : Launch) (D : va_G) (cB cI cJ cZ : ClassId) (tL tK : Nat) (h_this h_arrows h_marks h_signAt h_behind h_seenWhat h_seenCan h_page h_newArrows h_to h_holds h_apart h_keptArrows h_keptMarks h_keptWhat h_keptCan : Nat) (sz : Nat) (v_kind : Int32) (v_worlds : Int32) (v_frames : Int32) (v_signs : Int32) (v_formulas : Int32) (v_failsTold : Int32) (v_tellsTold : Int32) (v_seen : Int32) (v_pageLength : Int32) (v_stage : Int32) (v_newKind : Int32) (v_newWorlds : Int32) (v_newFrom : Int32) (v_newLast : Int32) (v_newP : Int32) (v_newQ : Int32) (v_wanted : Int32) (v_many : Int32) (v_pNow : Int32) (v_qNow : Int32) (v_seedNow : Int64) (v_keptFrame : Int32) (v_keptKind : Int32) (v_keptWorlds : Int32) (v_keptSeen : Int32) (v_h : Int64) (v_to : (Nat → Int32)) (x1 : Int32) (q : Int32) (hf : f_X9_fitsNow v_many v_to x1 = some q) : Met l yX9_fitsNow (.code yX9_fitsNow cX9_fitsNow 2 (some .boolean) :: k_all) { frames := 4, cells := 0, slots := 0, locals := 90 } (k_P D cB cI cJ cZ tL tK [.ref h_this, .int x1] [(h_this, o_X9 v_kind v_worlds h_arrows h_marks v_frames v_signs h_signAt h_behind v_formulas v_failsTold v_tellsTold v_seen h_seenWhat h_seenCan v_pageLength h_page v_stage v_newKind v_newWorlds v_newFrom v_newLast v_newP v_newQ h_newArrows v_wanted v_many h_to v_pNow v_qNow h_holds h_apart v_seedNow v_keptFrame v_keptKind v_keptWorlds v_keptSeen h_keptArrows h_keptMarks h_keptWhat h_keptCan v_h), (h_to, o_I cI 4 v_to)] sz) (k_I D q [(h_this, o_X9 v_kind v_worlds h_arrows h_marks v_frames v_signs h_signAt h_behind v_formulas v_failsTold v_tellsTold v_seen h_seenWhat h_seenCan v_pageLength h_page v_stage v_newKind v_newWorlds v_newFrom v_newLast v_newP v_newQ h_newArrows v_wanted v_many h_to v_pNow v_qNow h_holds h_apart v_seedNow v_keptFrame v_keptKind v_keptWorlds v_keptSeen h_keptArrows h_keptMarks h_keptWhat h_keptCan v_h), (h_to, o_I cI 4 v_to)] [(h_this, o_X9 v_kind v_worlds h_arrows h_marks v_frames v_signs h_signAt h_behind v_formulas v_failsTold v_tellsTold v_seen h_seenWhat h_seenCan v_pageLength h_page v_stage v_newKind v_newWorlds v_newFrom v_newLast v_newP v_newQ h_newArrows v_wanted v_many h_to v_pNow v_qNow h_holds h_apart v_seedNow v_keptFrame v_keptKind v_keptWorlds v_keptSeen h_keptArrows h_keptMarks h_keptWhat h_keptCan v_h), (h_to, o_I cI 4 v_to)] sz) 0 0 (va_A [(h_this, o_X9 v_kind v_worlds h_arrows h_marks v_frames v_signs h_signAt h_behind v_formulas v_failsTold v_tellsTold v_seen h_seenWhat h_seenCan v_pageLength h_page v_stage v_newKind v_newWorlds v_newFrom v_newLast v_newP v_newQ h_newArrows v_wanted v_many h_to v_pNow v_qNow h_holds h_apart v_seedNow v_keptFrame v_keptKind v_keptWorlds v_keptSeen h_keptArrows h_keptMarks h_keptWhat h_keptCan v_h), (h_to, o_I cI 4 v_to)] sz) := by
  unfold f_X9_fitsNow at hf
  refine k_met RX9 rfl (by decide +kernel) (Nat.le_of_ble_eq_true rfl) ?_
  intro p e s m below meth c A ls hx hb hr hml hown hts hlocks hin hsz hAe hA hK hN hZ hD hS hP hl
  have hl : lv_has ls 2 [(0, .ref h_this), (1, .int x1)] := hl
  refine lv_iload_n hx hb dX9_fitsNow_0 rfl (lv_at hl 1 rfl) ?_
  by_cases c1_1 : x1 = 1
  · replace hf := k_ifT c1_1 hf
    refine lv_tableIn (tgt := 32) hx hb dX9_fitsNow_1 (by rw [c1_1]; decide) (by rw [c1_1]; decide) (by rw [c1_1]; rfl) (by decide) ?_
    refine lv_aload_n hx hb dX9_fitsNow_32 rfl (lv_at hl 0 rfl) ?_
    refine lv_iconst (v := 0) hx hb dX9_fitsNow_33 (by decide) ?_
    obtain ⟨q34, hq34, hf⟩ := k_bind hf
    refine k_calli (wN := [(h_this, o_X9 v_kind v_worlds h_arrows h_marks v_frames v_signs h_signAt h_behind v_formulas v_failsTold v_tellsTold v_seen h_seenWhat h_seenCan v_pageLength h_page v_stage v_newKind v_newWorlds v_newFrom v_newLast v_newP v_newQ h_newArrows v_wanted v_many h_to v_pNow v_qNow h_holds h_apart v_seedNow v_keptFrame v_keptKind v_keptWorlds v_keptSeen h_keptArrows h_keptMarks h_keptWhat h_keptCan v_h), (h_to, o_I cI 4 v_to)]) [0, 1] [] [0, 1] hP hD hS hA (va_runV (As := [.int 0]) (rest := []) ⟨hx, hb, hml, hown, hts⟩ (k_X9_keepsNow l D cB cI cJ cZ tL tK h_this h_arrows h_marks h_signAt h_behind h_seenWhat h_seenCan h_page h_newArrows h_to h_holds h_apart h_keptArrows h_keptMarks h_keptWhat h_keptCan _ v_kind v_worlds v_frames v_signs v_formulas v_failsTold v_tellsTold v_seen v_pageLength v_stage v_newKind v_newWorlds v_newFrom v_newLast v_newP v_newQ v_wanted v_many v_pNow v_qNow v_seedNow v_keptFrame v_keptKind v_keptWorlds v_keptSeen v_h v_to 0 q34 hq34) (cwV 1 hts (k_gV m_471 m_468 m_469 m_470 m_5) rfl rfl rfl (by decide +kernel) ⟨Nat.le_of_ble_eq_true rfl, Nat.le_of_ble_eq_true rfl⟩) (k_preV [0, 1] hK hN hZ hP hD hS hA rfl rfl (va_recv hK hP (ci := 8) (q0 := 0) rfl rfl)) rfl rfl hl.1 rfl (lv_room (Nat.le_of_ble_eq_true rfl)) dX9_fitsNow_34 ⟨Nat.le_refl _, Nat.le_refl _⟩) rfl rfl rfl rfl rfl (fun H locs hP hD hS => ?_)
    obtain ⟨hbl, hf⟩ := k_bl_some hf
    cases hf
    exact k_zret hx hb hr (k_bn hbl) hlocks hAe hS hP hD dX9_fitsNow_37
  · replace hf := k_ifF c1_1 hf
    by_cases c1_2 : x1 = 2
    · replace hf := k_ifT c1_2 hf
      refine lv_tableIn (tgt := 38) hx hb dX9_fitsNow_1 (by rw [c1_2]; decide) (by rw [c1_2]; decide) (by rw [c1_2]; rfl) (by decide) ?_
      refine lv_aload_n hx hb dX9_fitsNow_38 rfl (lv_at hl 0 rfl) ?_
      refine lv_iconst (v := 0) hx hb dX9_fitsNow_39 (by decide) ?_
      obtain ⟨q40, hq40, hf⟩ := k_bind hf
      refine k_calli (wN := [(h_this, o_X9 v_kind v_worlds h_arrows h_marks v_frames v_signs h_signAt h_behind v_formulas v_failsTold v_tellsTold v_seen h_seenWhat h_seenCan v_pageLength h_page v_stage v_newKind v_newWorlds v_newFrom v_newLast v_newP v_newQ h_newArrows v_wanted v_many h_to v_pNow v_qNow h_holds h_apart v_seedNow v_keptFrame v_keptKind v_keptWorlds v_keptSeen h_keptArrows h_keptMarks h_keptWhat h_keptCan v_h), (h_to, o_I cI 4 v_to)]) [0, 1] [] [0, 1] hP hD hS hA (va_runV (As := [.int 0]) (rest := []) ⟨hx, hb, hml, hown, hts⟩ (k_X9_keepsNow l D cB cI cJ cZ tL tK h_this h_arrows h_marks h_signAt h_behind h_seenWhat h_seenCan h_page h_newArrows h_to h_holds h_apart h_keptArrows h_keptMarks h_keptWhat h_keptCan _ v_kind v_worlds v_frames v_signs v_formulas v_failsTold v_tellsTold v_seen v_pageLength v_stage v_newKind v_newWorlds v_newFrom v_newLast v_newP v_newQ v_wanted v_many v_pNow v_qNow v_seedNow v_keptFrame v_keptKind v_keptWorlds v_keptSeen v_h v_to 0 q40 hq40) (cwV 1 hts (k_gV m_471 m_468 m_469 m_470 m_5) rfl rfl rfl (by decide +kernel) ⟨Nat.le_of_ble_eq_true rfl, Nat.le_of_ble_eq_true rfl⟩) (k_preV [0, 1] hK hN hZ hP hD hS hA rfl rfl (va_recv hK hP (ci := 8) (q0 := 0) rfl rfl)) rfl rfl hl.1 rfl (lv_room (Nat.le_of_ble_eq_true rfl)) dX9_fitsNow_40 ⟨Nat.le_refl _, Nat.le_refl _⟩) rfl rfl rfl rfl rfl (fun H locs hP hD hS => ?_)
      refine lv_if_eq (tgt := 58) hx hb dX9_fitsNow_43 (by decide) (fun c43 => ?_) (fun c43 => ?_)
      · replace hf := k_ifT c43 hf
        refine lv_iconst (v := 0) hx hb dX9_fitsNow_58 (by decide) ?_
        cases hf
        exact k_zret (r := 0) hx hb hr rfl hlocks hAe hS hP hD dX9_fitsNow_59
      · replace hf := k_ifF c43 hf
        refine lv_aload_n hx hb dX9_fitsNow_46 rfl (lv_at hl 0 rfl) ?_
        refine lv_iconst (v := 1) hx hb dX9_fitsNow_47 (by decide) ?_
        obtain ⟨q48, hq48, hf⟩ := k_bind hf
        refine k_calli (wN := [(h_this, o_X9 v_kind v_worlds h_arrows h_marks v_frames v_signs h_signAt h_behind v_formulas v_failsTold v_tellsTold v_seen h_seenWhat h_seenCan v_pageLength h_page v_stage v_newKind v_newWorlds v_newFrom v_newLast v_newP v_newQ h_newArrows v_wanted v_many h_to v_pNow v_qNow h_holds h_apart v_seedNow v_keptFrame v_keptKind v_keptWorlds v_keptSeen h_keptArrows h_keptMarks h_keptWhat h_keptCan v_h), (h_to, o_I cI 4 v_to)]) [0, 1] [] [0, 1] hP hD hS hA (va_runV (As := [.int 1]) (rest := []) ⟨hx, hb, hml, hown, hts⟩ (k_X9_keepsNow l D cB cI cJ cZ tL tK h_this h_arrows h_marks h_signAt h_behind h_seenWhat h_seenCan h_page h_newArrows h_to h_holds h_apart h_keptArrows h_keptMarks h_keptWhat h_keptCan _ v_kind v_worlds v_frames v_signs v_formulas v_failsTold v_tellsTold v_seen v_pageLength v_stage v_newKind v_newWorlds v_newFrom v_newLast v_newP v_newQ v_wanted v_many v_pNow v_qNow v_seedNow v_keptFrame v_keptKind v_keptWorlds v_keptSeen v_h v_to 1 q48 hq48) (cwV 1 hts (k_gV m_471 m_468 m_469 m_470 m_5) rfl rfl rfl (by decide +kernel) ⟨Nat.le_of_ble_eq_true rfl, Nat.le_of_ble_eq_true rfl⟩) (k_preV [0, 1] hK hN hZ hP hD hS hA rfl rfl (va_recv hK hP (ci := 8) (q0 := 0) rfl rfl)) rfl rfl hl.1 rfl (lv_room (Nat.le_of_ble_eq_true rfl)) dX9_fitsNow_48 ⟨Nat.le_refl _, Nat.le_refl _⟩) rfl rfl rfl rfl rfl (fun H locs hP hD hS => ?_)
        refine lv_if_eq (tgt := 58) hx hb dX9_fitsNow_51 (by decide) (fun c51 => ?_) (fun c51 => ?_)
        · replace hf := k_ifT c51 hf
          refine lv_iconst (v := 0) hx hb dX9_fitsNow_58 (by decide) ?_
          cases hf
          exact k_zret (r := 0) hx hb hr rfl hlocks hAe hS hP hD dX9_fitsNow_59
        · replace hf := k_ifF c51 hf
          refine lv_iconst (v := 1) hx hb dX9_fitsNow_54 (by decide) ?_
          refine lv_goto (tgt := 59) hx hb dX9_fitsNow_55 (by decide) ?_
          cases hf
          exact k_zret (r := 1) hx hb hr rfl hlocks hAe hS hP hD dX9_fitsNow_59
    · replace hf := k_ifF c1_2 hf
      by_cases c1_3 : x1 = 3
      · replace hf := k_ifT c1_3 hf
        refine lv_tableIn (tgt := 60) hx hb dX9_fitsNow_1 (by rw [c1_3]; decide) (by rw [c1_3]; decide) (by rw [c1_3]; rfl) (by decide) ?_
        refine lv_aload_n hx hb dX9_fitsNow_60 rfl (lv_at hl 0 rfl) ?_
        refine lv_iconst (v := 2) hx hb dX9_fitsNow_61 (by decide) ?_
        obtain ⟨q62, hq62, hf⟩ := k_bind hf
        refine k_calli (wN := [(h_this, o_X9 v_kind v_worlds h_arrows h_marks v_frames v_signs h_signAt h_behind v_formulas v_failsTold v_tellsTold v_seen h_seenWhat h_seenCan v_pageLength h_page v_stage v_newKind v_newWorlds v_newFrom v_newLast v_newP v_newQ h_newArrows v_wanted v_many h_to v_pNow v_qNow h_holds h_apart v_seedNow v_keptFrame v_keptKind v_keptWorlds v_keptSeen h_keptArrows h_keptMarks h_keptWhat h_keptCan v_h), (h_to, o_I cI 4 v_to)]) [0, 1] [] [0, 1] hP hD hS hA (va_runV (As := [.int 2]) (rest := []) ⟨hx, hb, hml, hown, hts⟩ (k_X9_keepsNow l D cB cI cJ cZ tL tK h_this h_arrows h_marks h_signAt h_behind h_seenWhat h_seenCan h_page h_newArrows h_to h_holds h_apart h_keptArrows h_keptMarks h_keptWhat h_keptCan _ v_kind v_worlds v_frames v_signs v_formulas v_failsTold v_tellsTold v_seen v_pageLength v_stage v_newKind v_newWorlds v_newFrom v_newLast v_newP v_newQ v_wanted v_many v_pNow v_qNow v_seedNow v_keptFrame v_keptKind v_keptWorlds v_keptSeen v_h v_to 2 q62 hq62) (cwV 1 hts (k_gV m_471 m_468 m_469 m_470 m_5) rfl rfl rfl (by decide +kernel) ⟨Nat.le_of_ble_eq_true rfl, Nat.le_of_ble_eq_true rfl⟩) (k_preV [0, 1] hK hN hZ hP hD hS hA rfl rfl (va_recv hK hP (ci := 8) (q0 := 0) rfl rfl)) rfl rfl hl.1 rfl (lv_room (Nat.le_of_ble_eq_true rfl)) dX9_fitsNow_62 ⟨Nat.le_refl _, Nat.le_refl _⟩) rfl rfl rfl rfl rfl (fun H locs hP hD hS => ?_)
        obtain ⟨hbl, hf⟩ := k_bl_some hf
        cases hf
        exact k_zret hx hb hr (k_bn hbl) hlocks hAe hS hP hD dX9_fitsNow_65
      · replace hf := k_ifF c1_3 hf
        by_cases c1_4 : x1 = 4
        · replace hf := k_ifT c1_4 hf
          refine lv_tableIn (tgt := 66) hx hb dX9_fitsNow_1 (by rw [c1_4]; decide) (by rw [c1_4]; decide) (by rw [c1_4]; rfl) (by decide) ?_
          refine lv_aload_n hx hb dX9_fitsNow_66 rfl (lv_at hl 0 rfl) ?_
          refine lv_iconst (v := 3) hx hb dX9_fitsNow_67 (by decide) ?_
          obtain ⟨q68, hq68, hf⟩ := k_bind hf
          refine k_calli (wN := [(h_this, o_X9 v_kind v_worlds h_arrows h_marks v_frames v_signs h_signAt h_behind v_formulas v_failsTold v_tellsTold v_seen h_seenWhat h_seenCan v_pageLength h_page v_stage v_newKind v_newWorlds v_newFrom v_newLast v_newP v_newQ h_newArrows v_wanted v_many h_to v_pNow v_qNow h_holds h_apart v_seedNow v_keptFrame v_keptKind v_keptWorlds v_keptSeen h_keptArrows h_keptMarks h_keptWhat h_keptCan v_h), (h_to, o_I cI 4 v_to)]) [0, 1] [] [0, 1] hP hD hS hA (va_runV (As := [.int 3]) (rest := []) ⟨hx, hb, hml, hown, hts⟩ (k_X9_keepsNow l D cB cI cJ cZ tL tK h_this h_arrows h_marks h_signAt h_behind h_seenWhat h_seenCan h_page h_newArrows h_to h_holds h_apart h_keptArrows h_keptMarks h_keptWhat h_keptCan _ v_kind v_worlds v_frames v_signs v_formulas v_failsTold v_tellsTold v_seen v_pageLength v_stage v_newKind v_newWorlds v_newFrom v_newLast v_newP v_newQ v_wanted v_many v_pNow v_qNow v_seedNow v_keptFrame v_keptKind v_keptWorlds v_keptSeen v_h v_to 3 q68 hq68) (cwV 1 hts (k_gV m_471 m_468 m_469 m_470 m_5) rfl rfl rfl (by decide +kernel) ⟨Nat.le_of_ble_eq_true rfl, Nat.le_of_ble_eq_true rfl⟩) (k_preV [0, 1] hK hN hZ hP hD hS hA rfl rfl (va_recv hK hP (ci := 8) (q0 := 0) rfl rfl)) rfl rfl hl.1 rfl (lv_room (Nat.le_of_ble_eq_true rfl)) dX9_fitsNow_68 ⟨Nat.le_refl _, Nat.le_refl _⟩) rfl rfl rfl rfl rfl (fun H locs hP hD hS => ?_)
          obtain ⟨hbl, hf⟩ := k_bl_some hf
          cases hf
          exact k_zret hx hb hr (k_bn hbl) hlocks hAe hS hP hD dX9_fitsNow_71
        · replace hf := k_ifF c1_4 hf
          refine lv_tableOut (tgt := 72) hx hb dX9_fitsNow_1 (by have := lv_neT c1_1 (show (1 : Int32).toInt = 1 by decide); have := lv_neT c1_2 (show (2 : Int32).toInt = 2 by decide); have := lv_neT c1_3 (show (3 : Int32).toInt = 3 by decide); have := lv_neT c1_4 (show (4 : Int32).toInt = 4 by decide); omega) (by decide) ?_
          refine lv_iconst (v := 1) hx hb dX9_fitsNow_72 (by decide) ?_
          cases hf
          exact k_zret (r := 1) hx hb hr rfl hlocks hAe hS hP hD dX9_fitsNow_73
set_option maxHeartbeats 4000000 in
set_option maxRecDepth 100000 in
theorem k_X9_fitsTold (l : Launch) (D : va_G) (cB cI cJ cZ : ClassId) (tL tK : Nat) (h_this h_arrows h_marks h_signAt h_behind h_seenWhat h_seenCan h_page h_newArrows h_to h_holds h_apart h_keptArrows h_keptMarks h_keptWhat h_keptCan : Nat) (sz : Nat) (v_kind : Int32) (v_worlds : Int32) (v_frames : Int32) (v_signs : Int32) (v_formulas : Int32) (v_failsTold : Int32) (v_tellsTold : Int32) (v_seen : Int32) (v_pageLength : Int32) (v_stage : Int32) (v_newKind : Int32) (v_newWorlds : Int32) (v_newFrom : Int32) (v_newLast : Int32) (v_newP : Int32) (v_newQ : Int32) (v_wanted : Int32) (v_many : Int32) (v_pNow : Int32) (v_qNow : Int32) (v_seedNow : Int64) (v_keptFrame : Int32) (v_keptKind : Int32) (v_keptWorlds : Int32) (v_keptSeen : Int32) (v_h : Int64) (v_arrows : (Nat → Int32)) (v_marks : (Nat → Int32)) (v_to : (Nat → Int32))  (q : Int32 × Int32 × Int32 × Int32 × (Nat → Int32)) (hf : f_X9_fitsTold v_kind v_worlds v_many v_pNow v_qNow v_arrows v_marks v_to = some q) : Met l yX9_fitsTold (.code yX9_fitsTold cX9_fitsTold 1 (some .int) :: k_all) { frames := 5, cells := 0, slots := 0, locals := 111 } (k_P D cB cI cJ cZ tL tK [.ref h_this] [(h_this, o_X9 v_kind v_worlds h_arrows h_marks v_frames v_signs h_signAt h_behind v_formulas v_failsTold v_tellsTold v_seen h_seenWhat h_seenCan v_pageLength h_page v_stage v_newKind v_newWorlds v_newFrom v_newLast v_newP v_newQ h_newArrows v_wanted v_many h_to v_pNow v_qNow h_holds h_apart v_seedNow v_keptFrame v_keptKind v_keptWorlds v_keptSeen h_keptArrows h_keptMarks h_keptWhat h_keptCan v_h), (h_arrows, o_I cZ 16 v_arrows), (h_marks, o_I cI 4 v_marks), (h_to, o_I cI 4 v_to)] sz) (k_I D q.1 [(h_this, o_X9 v_kind v_worlds h_arrows h_marks v_frames v_signs h_signAt h_behind v_formulas v_failsTold v_tellsTold v_seen h_seenWhat h_seenCan v_pageLength h_page v_stage v_newKind v_newWorlds v_newFrom v_newLast v_newP v_newQ h_newArrows v_wanted v_many h_to v_pNow v_qNow h_holds h_apart v_seedNow v_keptFrame v_keptKind v_keptWorlds v_keptSeen h_keptArrows h_keptMarks h_keptWhat h_keptCan v_h), (h_arrows, o_I cZ 16 v_arrows), (h_marks, o_I cI 4 v_marks), (h_to, o_I cI 4 v_to)] [(h_this, o_X9 v_kind v_worlds h_arrows h_marks v_frames v_signs h_signAt h_behind v_formulas v_failsTold v_tellsTold v_seen h_seenWhat h_seenCan v_pageLength h_page v_stage v_newKind v_newWorlds v_newFrom v_newLast v_newP v_newQ h_newArrows v_wanted q.2.1 h_to q.2.2.1 q.2.2.2.1 h_holds h_apart v_seedNow v_keptFrame v_keptKind v_keptWorlds v_keptSeen h_keptArrows h_keptMarks h_keptWhat h_keptCan v_h), (h_arrows, o_I cZ 16 v_arrows), (h_marks, o_I cI 4 v_marks), (h_to, o_I cI 4 q.2.2.2.2)] sz) 0 0 (va_A [(h_this, o_X9 v_kind v_worlds h_arrows h_marks v_frames v_signs h_signAt h_behind v_formulas v_failsTold v_tellsTold v_seen h_seenWhat h_seenCan v_pageLength h_page v_stage v_newKind v_newWorlds v_newFrom v_newLast v_newP v_newQ h_newArrows v_wanted v_many h_to v_pNow v_qNow h_holds h_apart v_seedNow v_keptFrame v_keptKind v_keptWorlds v_keptSeen h_keptArrows h_keptMarks h_keptWhat h_keptCan v_h), (h_arrows, o_I cZ 16 v_arrows), (h_marks, o_I cI 4 v_marks), (h_to, o_I cI 4 v_to)] sz) := by
  unfold f_X9_fitsTold at hf
  refine k_met RX9 rfl (by decide +kernel) (Nat.le_of_ble_eq_true rfl) ?_
  intro p e s m below meth c A ls hx hb hr hml hown hts hlocks hin hsz hAe hA hK hN hZ hD hS hP hl
  have hl : lv_has ls 1 [(0, .ref h_this)] := hl
  refine lv_aload_n hx hb dX9_fitsTold_0 rfl (lv_at hl 0 rfl) ?_
  obtain ⟨q1, hq1, hf⟩ := k_bind hf
  refine k_callv (wN := [(h_this, o_X9 v_kind v_worlds h_arrows h_marks v_frames v_signs h_signAt h_behind v_formulas v_failsTold v_tellsTold v_seen h_seenWhat h_seenCan v_pageLength h_page v_stage v_newKind v_newWorlds v_newFrom v_newLast v_newP v_newQ h_newArrows v_wanted q1.1 h_to q1.2.1 q1.2.2.1 h_holds h_apart v_seedNow v_keptFrame v_keptKind v_keptWorlds v_keptSeen h_keptArrows h_keptMarks h_keptWhat h_keptCan v_h), (h_arrows, o_I cZ 16 v_arrows), (h_marks, o_I cI 4 v_marks), (h_to, o_I cI 4 q1.2.2.2)]) [0, 1, 2, 3] [] [0, 1, 2, 3] hP hD hS hA (va_runV (As := []) (rest := []) ⟨hx, hb, hml, hown, hts⟩ (k_X9_layFrame l D cB cI cJ cZ tL tK h_this h_arrows h_marks h_signAt h_behind h_seenWhat h_seenCan h_page h_newArrows h_to h_holds h_apart h_keptArrows h_keptMarks h_keptWhat h_keptCan _ v_kind v_worlds v_frames v_signs v_formulas v_failsTold v_tellsTold v_seen v_pageLength v_stage v_newKind v_newWorlds v_newFrom v_newLast v_newP v_newQ v_wanted v_many v_pNow v_qNow v_seedNow v_keptFrame v_keptKind v_keptWorlds v_keptSeen v_h v_arrows v_marks v_to q1 hq1) (cwV 0 hts (k_gV m_460 m_457 m_458 m_459 m_5) rfl rfl rfl (by decide +kernel) ⟨Nat.le_of_ble_eq_true rfl, Nat.le_of_ble_eq_true rfl⟩) (k_preV [0, 1, 2, 3] hK hN hZ hP hD hS hA rfl rfl (va_recv hK hP (ci := 8) (q0 := 0) rfl rfl)) rfl rfl hl.1 rfl (lv_room (Nat.le_of_ble_eq_true rfl)) dX9_fitsTold_1 ⟨Nat.le_refl _, Nat.le_refl _⟩) rfl rfl rfl rfl rfl (fun H locs hP hD hS => ?_)
  refine lv_aload_n hx hb dX9_fitsTold_4 rfl (lv_at hl 0 rfl) ?_
  refine lv_aload_n hx hb dX9_fitsTold_5 rfl (lv_at hl 0 rfl) ?_
  refine va_get (D := D) (ci := 8) (v := .int v_kind) (C := RX9) (T := TX9) (N := 41) hx hb hts inlX9 hown hK hP 0 rfl rfl 0 (by decide) (hts _ m_318) (fun _ h9 => h9) rfl dX9_fitsTold_6 ?_
  obtain ⟨q9, hq9, hf⟩ := k_bind hf
  refine k_calli (wN := [(h_this, o_X9 v_kind v_worlds h_arrows h_marks v_frames v_signs h_signAt h_behind v_formulas v_failsTold v_tellsTold v_seen h_seenWhat h_seenCan v_pageLength h_page v_stage v_newKind v_newWorlds v_newFrom v_newLast v_newP v_newQ h_newArrows v_wanted q1.1 h_to q1.2.1 q1.2.2.1 h_holds h_apart v_seedNow v_keptFrame v_keptKind v_keptWorlds v_keptSeen h_keptArrows h_keptMarks h_keptWhat h_keptCan v_h), (h_arrows, o_I cZ 16 v_arrows), (h_marks, o_I cI 4 v_marks), (h_to, o_I cI 4 q1.2.2.2)]) [0, 3] [1, 2] [2, 0, 1, 3] hP hD hS hA (va_runV (As := [.int v_kind]) (rest := []) ⟨hx, hb, hml, hown, hts⟩ (k_X9_fitsNow l D cB cI cJ cZ tL tK h_this h_arrows h_marks h_signAt h_behind h_seenWhat h_seenCan h_page h_newArrows h_to h_holds h_apart h_keptArrows h_keptMarks h_keptWhat h_keptCan _ v_kind v_worlds v_frames v_signs v_formulas v_failsTold v_tellsTold v_seen v_pageLength v_stage v_newKind v_newWorlds v_newFrom v_newLast v_newP v_newQ v_wanted q1.1 q1.2.1 q1.2.2.1 v_seedNow v_keptFrame v_keptKind v_keptWorlds v_keptSeen v_h q1.2.2.2 v_kind q9 hq9) (cwV 1 hts (k_gV m_467 m_464 m_465 m_466 m_5) rfl rfl rfl (by decide +kernel) ⟨Nat.le_of_ble_eq_true rfl, Nat.le_of_ble_eq_true rfl⟩) (k_preV [0, 3] hK hN hZ hP hD hS hA rfl rfl (va_recv hK hP (ci := 8) (q0 := 0) rfl rfl)) rfl rfl hl.1 rfl (lv_room (Nat.le_of_ble_eq_true rfl)) dX9_fitsTold_9 ⟨Nat.le_refl _, Nat.le_refl _⟩) rfl rfl rfl rfl rfl (fun H locs hP hD hS => ?_)
  refine lv_if_eq (tgt := 19) hx hb dX9_fitsTold_12 (by decide) (fun c12 => ?_) (fun c12 => ?_)
  · replace hf := k_ifT c12 hf
    refine lv_iconst (v := 0) hx hb dX9_fitsTold_19 (by decide) ?_
    cases hf
    exact k_iret hx hb hr hlocks hAe hS hP hD dX9_fitsTold_20
  · replace hf := k_ifF c12 hf
    refine lv_iconst (v := 1) hx hb dX9_fitsTold_15 (by decide) ?_
    refine lv_goto (tgt := 20) hx hb dX9_fitsTold_16 (by decide) ?_
    cases hf
    exact k_iret hx hb hr hlocks hAe hS hP hD dX9_fitsTold_20
