set_option maxHeartbeats 4000000 in
set_option maxRecDepth 100000 in
theorem k_X9_isMet (l : Launch) (D : va_G) (cB cI cJ cZ : ClassId) (tL tK : Nat) (h_this h_arrows h_marks h_signAt h_behind h_seenWhat h_seenCan h_page h_newArrows h_to h_holds h_apart h_keptArrows h_keptMarks h_keptWhat h_keptCan : Nat) (sz : Nat) (v_kind : Int32) (v_worlds : Int32) (v_frames : Int32) (v_signs : Int32) (v_formulas : Int32) (v_failsTold : Int32) (v_tellsTold : Int32) (v_seen : Int32) (v_pageLength : Int32) (v_stage : Int32) (v_newKind : Int32) (v_newWorlds : Int32) (v_newFrom : Int32) (v_newLast : Int32) (v_newP : Int32) (v_newQ : Int32) (v_wanted : Int32) (v_many : Int32) (v_pNow : Int32) (v_qNow : Int32) (v_seedNow : Int64) (v_keptFrame : Int32) (v_keptKind : Int32) (v_keptWorlds : Int32) (v_keptSeen : Int32) (v_h : Int64) (v_arrows : (Nat → Int32)) (v_apart : (Nat → Int32)) (x1 : Int32) (x2 : Int32) (q : Int32) (hf : f_X9_isMet v_worlds v_arrows v_apart x1 x2 = some q) : Met l yX9_isMet (.code yX9_isMet cX9_isMet 7 (some .boolean) :: k_all) { frames := 0, cells := 0, slots := 0, locals := 0 } (k_P D cB cI cJ cZ tL tK [.ref h_this, .int x1, .int x2] [(h_this, o_X9 v_kind v_worlds h_arrows h_marks v_frames v_signs h_signAt h_behind v_formulas v_failsTold v_tellsTold v_seen h_seenWhat h_seenCan v_pageLength h_page v_stage v_newKind v_newWorlds v_newFrom v_newLast v_newP v_newQ h_newArrows v_wanted v_many h_to v_pNow v_qNow h_holds h_apart v_seedNow v_keptFrame v_keptKind v_keptWorlds v_keptSeen h_keptArrows h_keptMarks h_keptWhat h_keptCan v_h), (h_arrows, o_I cZ 16 v_arrows), (h_apart, o_I cZ 16 v_apart)] sz) (k_I D q [(h_this, o_X9 v_kind v_worlds h_arrows h_marks v_frames v_signs h_signAt h_behind v_formulas v_failsTold v_tellsTold v_seen h_seenWhat h_seenCan v_pageLength h_page v_stage v_newKind v_newWorlds v_newFrom v_newLast v_newP v_newQ h_newArrows v_wanted v_many h_to v_pNow v_qNow h_holds h_apart v_seedNow v_keptFrame v_keptKind v_keptWorlds v_keptSeen h_keptArrows h_keptMarks h_keptWhat h_keptCan v_h), (h_arrows, o_I cZ 16 v_arrows), (h_apart, o_I cZ 16 v_apart)] [(h_this, o_X9 v_kind v_worlds h_arrows h_marks v_frames v_signs h_signAt h_behind v_formulas v_failsTold v_tellsTold v_seen h_seenWhat h_seenCan v_pageLength h_page v_stage v_newKind v_newWorlds v_newFrom v_newLast v_newP v_newQ h_newArrows v_wanted v_many h_to v_pNow v_qNow h_holds h_apart v_seedNow v_keptFrame v_keptKind v_keptWorlds v_keptSeen h_keptArrows h_keptMarks h_keptWhat h_keptCan v_h), (h_arrows, o_I cZ 16 v_arrows), (h_apart, o_I cZ 16 v_apart)] sz) 0 0 (va_A [(h_this, o_X9 v_kind v_worlds h_arrows h_marks v_frames v_signs h_signAt h_behind v_formulas v_failsTold v_tellsTold v_seen h_seenWhat h_seenCan v_pageLength h_page v_stage v_newKind v_newWorlds v_newFrom v_newLast v_newP v_newQ h_newArrows v_wanted v_many h_to v_pNow v_qNow h_holds h_apart v_seedNow v_keptFrame v_keptKind v_keptWorlds v_keptSeen h_keptArrows h_keptMarks h_keptWhat h_keptCan v_h), (h_arrows, o_I cZ 16 v_arrows), (h_apart, o_I cZ 16 v_apart)] sz) := by
  unfold f_X9_isMet at hf
  refine k_met RX9 rfl (by decide +kernel) (Nat.le_of_ble_eq_true rfl) ?_
  intro p e s m below meth c A ls hx hb hr hml hown hts hlocks hin hsz hAe hA hK hN hZ hD hS hP hl
  have hl : lv_has ls 7 [(0, .ref h_this), (1, .int x1), (2, .int x2)] := hl
  refine lv_iconst (v := 1) hx hb dX9_isMet_0 (by decide) ?_
  refine lv_istore_n (lv' := [(3, .int 1), (0, .ref h_this), (1, .int x1), (2, .int x2)]) hx hb dX9_isMet_1 rfl hl (by decide) rfl (fun ls hl => ?_)
  refine lv_iconst (v := 0) hx hb dX9_isMet_2 (by decide) ?_
  refine lv_istore (lv' := [(4, .int 0), (3, .int 1), (0, .ref h_this), (1, .int x1), (2, .int x2)]) hx hb dX9_isMet_3 hl (by decide) rfl (fun ls hl => ?_)
  refine k_wl 115 (wsf := fun (a5 : Int32 × Int32) => [(h_this, o_X9 v_kind v_worlds h_arrows h_marks v_frames v_signs h_signAt h_behind v_formulas v_failsTold v_tellsTold v_seen h_seenWhat h_seenCan v_pageLength h_page v_stage v_newKind v_newWorlds v_newFrom v_newLast v_newP v_newQ h_newArrows v_wanted v_many h_to v_pNow v_qNow h_holds h_apart v_seedNow v_keptFrame v_keptKind v_keptWorlds v_keptSeen h_keptArrows h_keptMarks h_keptWhat h_keptCan v_h), (h_arrows, o_I cZ 16 v_arrows), (h_apart, o_I cZ 16 v_apart)]) (lvf := fun (a5 : Int32 × Int32) => [(0, .ref h_this), (1, .int x1), (2, .int x2), (3, .int a5.1), (4, .int a5.2)]) hf hP hD hS (lv_sub hl [2, 3, 4, 1, 0] rfl) ?_ ?_
  · intro a5 H locs ls hf hP hD hS hl
    have hP : va_P D vwCl [(h_this, o_X9 v_kind v_worlds h_arrows h_marks v_frames v_signs h_signAt h_behind v_formulas v_failsTold v_tellsTold v_seen h_seenWhat h_seenCan v_pageLength h_page v_stage v_newKind v_newWorlds v_newFrom v_newLast v_newP v_newQ h_newArrows v_wanted v_many h_to v_pNow v_qNow h_holds h_apart v_seedNow v_keptFrame v_keptKind v_keptWorlds v_keptSeen h_keptArrows h_keptMarks h_keptWhat h_keptCan v_h), (h_arrows, o_I cZ 16 v_arrows), (h_apart, o_I cZ 16 v_apart)] H := hP
    have hD : va_D A [(h_this, o_X9 v_kind v_worlds h_arrows h_marks v_frames v_signs h_signAt h_behind v_formulas v_failsTold v_tellsTold v_seen h_seenWhat h_seenCan v_pageLength h_page v_stage v_newKind v_newWorlds v_newFrom v_newLast v_newP v_newQ h_newArrows v_wanted v_many h_to v_pNow v_qNow h_holds h_apart v_seedNow v_keptFrame v_keptKind v_keptWorlds v_keptSeen h_keptArrows h_keptMarks h_keptWhat h_keptCan v_h), (h_arrows, o_I cZ 16 v_arrows), (h_apart, o_I cZ 16 v_apart)] := hD
    have hl : lv_has ls 7 [(0, .ref h_this), (1, .int x1), (2, .int x2), (3, .int a5.1), (4, .int a5.2)] := hl
    refine lv_iload_n hx hb dX9_isMet_115 rfl (lv_at hl 3 rfl) ?_
    obtain ⟨hbl, hf⟩ := k_bl_some hf
    cases hf
    exact k_zret hx hb hr (k_bn hbl) hlocks hAe hS hP hD dX9_isMet_116
  · intro ex5 rc5 hE5 hR5 a5 H locs ls hf hP hD hS hl
    have hP : va_P D vwCl [(h_this, o_X9 v_kind v_worlds h_arrows h_marks v_frames v_signs h_signAt h_behind v_formulas v_failsTold v_tellsTold v_seen h_seenWhat h_seenCan v_pageLength h_page v_stage v_newKind v_newWorlds v_newFrom v_newLast v_newP v_newQ h_newArrows v_wanted v_many h_to v_pNow v_qNow h_holds h_apart v_seedNow v_keptFrame v_keptKind v_keptWorlds v_keptSeen h_keptArrows h_keptMarks h_keptWhat h_keptCan v_h), (h_arrows, o_I cZ 16 v_arrows), (h_apart, o_I cZ 16 v_apart)] H := hP
    have hD : va_D A [(h_this, o_X9 v_kind v_worlds h_arrows h_marks v_frames v_signs h_signAt h_behind v_formulas v_failsTold v_tellsTold v_seen h_seenWhat h_seenCan v_pageLength h_page v_stage v_newKind v_newWorlds v_newFrom v_newLast v_newP v_newQ h_newArrows v_wanted v_many h_to v_pNow v_qNow h_holds h_apart v_seedNow v_keptFrame v_keptKind v_keptWorlds v_keptSeen h_keptArrows h_keptMarks h_keptWhat h_keptCan v_h), (h_arrows, o_I cZ 16 v_arrows), (h_apart, o_I cZ 16 v_apart)] := hD
    have hl : lv_has ls 7 [(0, .ref h_this), (1, .int x1), (2, .int x2), (3, .int a5.1), (4, .int a5.2)] := hl
    refine lv_iload hx hb dX9_isMet_5 (lv_at hl 4 rfl) ?_
    refine lv_aload_n hx hb dX9_isMet_7 rfl (lv_at hl 0 rfl) ?_
    refine va_get (D := D) (ci := 8) (v := .int v_worlds) (C := RX9) (T := TX9) (N := 41) hx hb hts inlX9 hown hK hP 0 rfl rfl 1 (by decide) (hts _ m_319) (fun _ h9 => h9) rfl dX9_isMet_8 ?_
    refine lv_icmp_ge (tgt := 115) hx hb dX9_isMet_11 (by decide) (fun c11 => ?_) (fun c11 => ?_)
    · replace hf := k_ifT c11 hf
      exact hE5 _ _ _ _ hf hP hD hS (lv_sub hl [0, 1, 2, 3, 4] rfl)
    · replace hf := k_ifF c11 hf
      refine lv_aload_n hx hb dX9_isMet_14 rfl (lv_at hl 0 rfl) ?_
      refine va_get (D := D) (ci := 8) (v := .ref h_arrows) (C := RX9) (T := TX9) (N := 41) hx hb hts inlX9 hown hK hP 0 rfl rfl 2 (by decide) (hts _ m_82) (fun _ h9 => h9) rfl dX9_isMet_15 ?_
      refine lv_iconst (v := 4) hx hb dX9_isMet_18 (by decide) ?_
      refine lv_iload_n hx hb dX9_isMet_19 rfl (lv_at hl 1 rfl) ?_
      refine lv_imul hx hb dX9_isMet_20 ?_
      refine lv_iload hx hb dX9_isMet_21 (lv_at hl 4 rfl) ?_
      refine lv_iadd hx hb dX9_isMet_23 ?_
      obtain ⟨hi24, hf⟩ := k_chk_some hf
      refine va_zald (D := D) hx hb hK hP 1 3 rfl rfl hi24 dX9_isMet_24 ?_
      refine k_jn (D := D) (A := A) (nL := 7) hf (fun (j25 : Int32) => [(h_this, o_X9 v_kind v_worlds h_arrows h_marks v_frames v_signs h_signAt h_behind v_formulas v_failsTold v_tellsTold v_seen h_seenWhat h_seenCan v_pageLength h_page v_stage v_newKind v_newWorlds v_newFrom v_newLast v_newP v_newQ h_newArrows v_wanted v_many h_to v_pNow v_qNow h_holds h_apart v_seedNow v_keptFrame v_keptKind v_keptWorlds v_keptSeen h_keptArrows h_keptMarks h_keptWhat h_keptCan v_h), (h_arrows, o_I cZ 16 v_arrows), (h_apart, o_I cZ 16 v_apart)]) (fun (j25 : Int32) => [(0, .ref h_this), (1, .int x1), (2, .int x2), (3, .int a5.1), (4, .int a5.2)]) (fun (j25 : Int32) => [.int j25]) 33 ?_ ?_
      · intro j25 H locs ls hf hP hD hS hl
        have hP : va_P D vwCl [(h_this, o_X9 v_kind v_worlds h_arrows h_marks v_frames v_signs h_signAt h_behind v_formulas v_failsTold v_tellsTold v_seen h_seenWhat h_seenCan v_pageLength h_page v_stage v_newKind v_newWorlds v_newFrom v_newLast v_newP v_newQ h_newArrows v_wanted v_many h_to v_pNow v_qNow h_holds h_apart v_seedNow v_keptFrame v_keptKind v_keptWorlds v_keptSeen h_keptArrows h_keptMarks h_keptWhat h_keptCan v_h), (h_arrows, o_I cZ 16 v_arrows), (h_apart, o_I cZ 16 v_apart)] H := hP
        have hD : va_D A [(h_this, o_X9 v_kind v_worlds h_arrows h_marks v_frames v_signs h_signAt h_behind v_formulas v_failsTold v_tellsTold v_seen h_seenWhat h_seenCan v_pageLength h_page v_stage v_newKind v_newWorlds v_newFrom v_newLast v_newP v_newQ h_newArrows v_wanted v_many h_to v_pNow v_qNow h_holds h_apart v_seedNow v_keptFrame v_keptKind v_keptWorlds v_keptSeen h_keptArrows h_keptMarks h_keptWhat h_keptCan v_h), (h_arrows, o_I cZ 16 v_arrows), (h_apart, o_I cZ 16 v_apart)] := hD
        have hl : lv_has ls 7 [(0, .ref h_this), (1, .int x1), (2, .int x2), (3, .int a5.1), (4, .int a5.2)] := hl
        show W p l e _ s m _ below meth c H locs _ _ _ (F0 m 33 ls [.int j25])
        refine lv_istore (lv' := [(5, .int j25), (0, .ref h_this), (1, .int x1), (2, .int x2), (3, .int a5.1), (4, .int a5.2)]) hx hb dX9_isMet_33 hl (by decide) rfl (fun ls hl => ?_)
        refine lv_iconst (v := 0) hx hb dX9_isMet_35 (by decide) ?_
        refine lv_istore (lv' := [(6, .int 0), (5, .int j25), (0, .ref h_this), (1, .int x1), (2, .int x2), (3, .int a5.1), (4, .int a5.2)]) hx hb dX9_isMet_36 hl (by decide) rfl (fun ls hl => ?_)
        refine k_wl 94 (wsf := fun (a38 : Int32 × Int32) => [(h_this, o_X9 v_kind v_worlds h_arrows h_marks v_frames v_signs h_signAt h_behind v_formulas v_failsTold v_tellsTold v_seen h_seenWhat h_seenCan v_pageLength h_page v_stage v_newKind v_newWorlds v_newFrom v_newLast v_newP v_newQ h_newArrows v_wanted v_many h_to v_pNow v_qNow h_holds h_apart v_seedNow v_keptFrame v_keptKind v_keptWorlds v_keptSeen h_keptArrows h_keptMarks h_keptWhat h_keptCan v_h), (h_arrows, o_I cZ 16 v_arrows), (h_apart, o_I cZ 16 v_apart)]) (lvf := fun (a38 : Int32 × Int32) => [(0, .ref h_this), (1, .int x1), (2, .int x2), (3, .int a5.1), (4, .int a5.2), (5, .int a38.1), (6, .int a38.2)]) hf hP hD hS (lv_sub hl [2, 3, 4, 5, 6, 1, 0] rfl) ?_ ?_
        · intro a38 H locs ls hf hP hD hS hl
          have hP : va_P D vwCl [(h_this, o_X9 v_kind v_worlds h_arrows h_marks v_frames v_signs h_signAt h_behind v_formulas v_failsTold v_tellsTold v_seen h_seenWhat h_seenCan v_pageLength h_page v_stage v_newKind v_newWorlds v_newFrom v_newLast v_newP v_newQ h_newArrows v_wanted v_many h_to v_pNow v_qNow h_holds h_apart v_seedNow v_keptFrame v_keptKind v_keptWorlds v_keptSeen h_keptArrows h_keptMarks h_keptWhat h_keptCan v_h), (h_arrows, o_I cZ 16 v_arrows), (h_apart, o_I cZ 16 v_apart)] H := hP
          have hD : va_D A [(h_this, o_X9 v_kind v_worlds h_arrows h_marks v_frames v_signs h_signAt h_behind v_formulas v_failsTold v_tellsTold v_seen h_seenWhat h_seenCan v_pageLength h_page v_stage v_newKind v_newWorlds v_newFrom v_newLast v_newP v_newQ h_newArrows v_wanted v_many h_to v_pNow v_qNow h_holds h_apart v_seedNow v_keptFrame v_keptKind v_keptWorlds v_keptSeen h_keptArrows h_keptMarks h_keptWhat h_keptCan v_h), (h_arrows, o_I cZ 16 v_arrows), (h_apart, o_I cZ 16 v_apart)] := hD
          have hl : lv_has ls 7 [(0, .ref h_this), (1, .int x1), (2, .int x2), (3, .int a5.1), (4, .int a5.2), (5, .int a38.1), (6, .int a38.2)] := hl
          refine lv_iload_n hx hb dX9_isMet_94 rfl (lv_at hl 3 rfl) ?_
          refine lv_if_eq (tgt := 107) hx hb dX9_isMet_95 (by decide) (fun c95 => ?_) (fun c95 => ?_)
          · replace hf := k_ifT c95 hf
            refine lv_iconst (v := 0) hx hb dX9_isMet_107 (by decide) ?_
            refine lv_istore_n (lv' := [(3, .int 0), (0, .ref h_this), (1, .int x1), (2, .int x2), (4, .int a5.2), (5, .int a38.1), (6, .int a38.2)]) hx hb dX9_isMet_108 rfl hl (by decide) rfl (fun ls hl => ?_)
            refine lv_iinc (v := (a5.2 + 1)) (lv' := [(4, .int (a5.2 + 1)), (3, .int 0), (0, .ref h_this), (1, .int x1), (2, .int x2), (5, .int a38.1), (6, .int a38.2)]) hx hb dX9_isMet_109 hl (k := 4) rfl rfl (by decide) rfl (fun ls hl => ?_)
            refine lv_goto (tgt := 5) hx hb dX9_isMet_112 (by decide) ?_
            exact hR5 _ _ _ _ hf hP hD hS (lv_sub hl [2, 3, 4, 1, 0] rfl)
          · replace hf := k_ifF c95 hf
            refine lv_iload hx hb dX9_isMet_98 (lv_at hl 5 rfl) ?_
            refine lv_if_eq (tgt := 107) hx hb dX9_isMet_100 (by decide) (fun c100 => ?_) (fun c100 => ?_)
            · replace hf := k_ifT c100 hf
              refine lv_iconst (v := 0) hx hb dX9_isMet_107 (by decide) ?_
              refine lv_istore_n (lv' := [(3, .int 0), (0, .ref h_this), (1, .int x1), (2, .int x2), (4, .int a5.2), (5, .int a38.1), (6, .int a38.2)]) hx hb dX9_isMet_108 rfl hl (by decide) rfl (fun ls hl => ?_)
              refine lv_iinc (v := (a5.2 + 1)) (lv' := [(4, .int (a5.2 + 1)), (3, .int 0), (0, .ref h_this), (1, .int x1), (2, .int x2), (5, .int a38.1), (6, .int a38.2)]) hx hb dX9_isMet_109 hl (k := 4) rfl rfl (by decide) rfl (fun ls hl => ?_)
              refine lv_goto (tgt := 5) hx hb dX9_isMet_112 (by decide) ?_
              exact hR5 _ _ _ _ hf hP hD hS (lv_sub hl [2, 3, 4, 1, 0] rfl)
            · replace hf := k_ifF c100 hf
              refine lv_iconst (v := 1) hx hb dX9_isMet_103 (by decide) ?_
              refine lv_goto (tgt := 108) hx hb dX9_isMet_104 (by decide) ?_
              refine lv_istore_n (lv' := [(3, .int 1), (0, .ref h_this), (1, .int x1), (2, .int x2), (4, .int a5.2), (5, .int a38.1), (6, .int a38.2)]) hx hb dX9_isMet_108 rfl hl (by decide) rfl (fun ls hl => ?_)
              refine lv_iinc (v := (a5.2 + 1)) (lv' := [(4, .int (a5.2 + 1)), (3, .int 1), (0, .ref h_this), (1, .int x1), (2, .int x2), (5, .int a38.1), (6, .int a38.2)]) hx hb dX9_isMet_109 hl (k := 4) rfl rfl (by decide) rfl (fun ls hl => ?_)
              refine lv_goto (tgt := 5) hx hb dX9_isMet_112 (by decide) ?_
              exact hR5 _ _ _ _ hf hP hD hS (lv_sub hl [2, 3, 4, 1, 0] rfl)
        · intro ex38 rc38 hE38 hR38 a38 H locs ls hf hP hD hS hl
          have hP : va_P D vwCl [(h_this, o_X9 v_kind v_worlds h_arrows h_marks v_frames v_signs h_signAt h_behind v_formulas v_failsTold v_tellsTold v_seen h_seenWhat h_seenCan v_pageLength h_page v_stage v_newKind v_newWorlds v_newFrom v_newLast v_newP v_newQ h_newArrows v_wanted v_many h_to v_pNow v_qNow h_holds h_apart v_seedNow v_keptFrame v_keptKind v_keptWorlds v_keptSeen h_keptArrows h_keptMarks h_keptWhat h_keptCan v_h), (h_arrows, o_I cZ 16 v_arrows), (h_apart, o_I cZ 16 v_apart)] H := hP
          have hD : va_D A [(h_this, o_X9 v_kind v_worlds h_arrows h_marks v_frames v_signs h_signAt h_behind v_formulas v_failsTold v_tellsTold v_seen h_seenWhat h_seenCan v_pageLength h_page v_stage v_newKind v_newWorlds v_newFrom v_newLast v_newP v_newQ h_newArrows v_wanted v_many h_to v_pNow v_qNow h_holds h_apart v_seedNow v_keptFrame v_keptKind v_keptWorlds v_keptSeen h_keptArrows h_keptMarks h_keptWhat h_keptCan v_h), (h_arrows, o_I cZ 16 v_arrows), (h_apart, o_I cZ 16 v_apart)] := hD
          have hl : lv_has ls 7 [(0, .ref h_this), (1, .int x1), (2, .int x2), (3, .int a5.1), (4, .int a5.2), (5, .int a38.1), (6, .int a38.2)] := hl
          refine lv_iload hx hb dX9_isMet_38 (lv_at hl 6 rfl) ?_
          refine lv_aload_n hx hb dX9_isMet_40 rfl (lv_at hl 0 rfl) ?_
          refine va_get (D := D) (ci := 8) (v := .int v_worlds) (C := RX9) (T := TX9) (N := 41) hx hb hts inlX9 hown hK hP 0 rfl rfl 1 (by decide) (hts _ m_319) (fun _ h9 => h9) rfl dX9_isMet_41 ?_
          refine lv_icmp_ge (tgt := 94) hx hb dX9_isMet_44 (by decide) (fun c44 => ?_) (fun c44 => ?_)
          · replace hf := k_ifT c44 hf
            exact hE38 _ _ _ _ hf hP hD hS (lv_sub hl [0, 1, 2, 3, 4, 5, 6] rfl)
          · replace hf := k_ifF c44 hf
            refine lv_iload hx hb dX9_isMet_47 (lv_at hl 5 rfl) ?_
            refine lv_if_ne (tgt := 81) hx hb dX9_isMet_49 (by decide) (fun c49 => ?_) (fun c49 => ?_)
            · replace hf := k_ifF c49 hf
              refine lv_iconst (v := 1) hx hb dX9_isMet_81 (by decide) ?_
              refine lv_goto (tgt := 86) hx hb dX9_isMet_82 (by decide) ?_
              refine lv_istore (lv' := [(5, .int 1), (0, .ref h_this), (1, .int x1), (2, .int x2), (3, .int a5.1), (4, .int a5.2), (6, .int a38.2)]) hx hb dX9_isMet_86 hl (by decide) rfl (fun ls hl => ?_)
              refine lv_iinc (v := (a38.2 + 1)) (lv' := [(6, .int (a38.2 + 1)), (5, .int 1), (0, .ref h_this), (1, .int x1), (2, .int x2), (3, .int a5.1), (4, .int a5.2)]) hx hb dX9_isMet_88 hl (k := 6) rfl rfl (by decide) rfl (fun ls hl => ?_)
              refine lv_goto (tgt := 38) hx hb dX9_isMet_91 (by decide) ?_
              exact hR38 _ _ _ _ hf hP hD hS (lv_sub hl [2, 3, 4, 5, 6, 1, 0] rfl)
            · replace hf := k_ifT c49 hf
              refine lv_aload_n hx hb dX9_isMet_52 rfl (lv_at hl 0 rfl) ?_
              refine va_get (D := D) (ci := 8) (v := .ref h_arrows) (C := RX9) (T := TX9) (N := 41) hx hb hts inlX9 hown hK hP 0 rfl rfl 2 (by decide) (hts _ m_82) (fun _ h9 => h9) rfl dX9_isMet_53 ?_
              refine lv_iconst (v := 4) hx hb dX9_isMet_56 (by decide) ?_
              refine lv_iload_n hx hb dX9_isMet_57 rfl (lv_at hl 2 rfl) ?_
              refine lv_imul hx hb dX9_isMet_58 ?_
              refine lv_iload hx hb dX9_isMet_59 (lv_at hl 6 rfl) ?_
              refine lv_iadd hx hb dX9_isMet_61 ?_
              obtain ⟨hi62, hf⟩ := k_chk_some hf
              refine va_zald (D := D) hx hb hK hP 1 3 rfl rfl hi62 dX9_isMet_62 ?_
              refine lv_if_eq (tgt := 85) hx hb dX9_isMet_63 (by decide) (fun c63 => ?_) (fun c63 => ?_)
              · replace hf := k_ifT c63 hf
                refine lv_iconst (v := 0) hx hb dX9_isMet_85 (by decide) ?_
                refine lv_istore (lv' := [(5, .int 0), (0, .ref h_this), (1, .int x1), (2, .int x2), (3, .int a5.1), (4, .int a5.2), (6, .int a38.2)]) hx hb dX9_isMet_86 hl (by decide) rfl (fun ls hl => ?_)
                refine lv_iinc (v := (a38.2 + 1)) (lv' := [(6, .int (a38.2 + 1)), (5, .int 0), (0, .ref h_this), (1, .int x1), (2, .int x2), (3, .int a5.1), (4, .int a5.2)]) hx hb dX9_isMet_88 hl (k := 6) rfl rfl (by decide) rfl (fun ls hl => ?_)
                refine lv_goto (tgt := 38) hx hb dX9_isMet_91 (by decide) ?_
                exact hR38 _ _ _ _ hf hP hD hS (lv_sub hl [2, 3, 4, 5, 6, 1, 0] rfl)
              · replace hf := k_ifF c63 hf
                refine lv_aload_n hx hb dX9_isMet_66 rfl (lv_at hl 0 rfl) ?_
                refine va_get (D := D) (ci := 8) (v := .ref h_apart) (C := RX9) (T := TX9) (N := 41) hx hb hts inlX9 hown hK hP 0 rfl rfl 30 (by decide) (hts _ m_93) (fun _ h9 => h9) rfl dX9_isMet_67 ?_
                refine lv_iconst (v := 4) hx hb dX9_isMet_70 (by decide) ?_
                refine lv_iload hx hb dX9_isMet_71 (lv_at hl 4 rfl) ?_
                refine lv_imul hx hb dX9_isMet_73 ?_
                refine lv_iload hx hb dX9_isMet_74 (lv_at hl 6 rfl) ?_
                refine lv_iadd hx hb dX9_isMet_76 ?_
                obtain ⟨hi77, hf⟩ := k_chk_some hf
                refine va_zald (D := D) hx hb hK hP 2 3 rfl rfl hi77 dX9_isMet_77 ?_
                refine lv_if_ne (tgt := 85) hx hb dX9_isMet_78 (by decide) (fun c78 => ?_) (fun c78 => ?_)
                · replace hf := k_ifF c78 hf
                  refine lv_iconst (v := 0) hx hb dX9_isMet_85 (by decide) ?_
                  refine lv_istore (lv' := [(5, .int 0), (0, .ref h_this), (1, .int x1), (2, .int x2), (3, .int a5.1), (4, .int a5.2), (6, .int a38.2)]) hx hb dX9_isMet_86 hl (by decide) rfl (fun ls hl => ?_)
                  refine lv_iinc (v := (a38.2 + 1)) (lv' := [(6, .int (a38.2 + 1)), (5, .int 0), (0, .ref h_this), (1, .int x1), (2, .int x2), (3, .int a5.1), (4, .int a5.2)]) hx hb dX9_isMet_88 hl (k := 6) rfl rfl (by decide) rfl (fun ls hl => ?_)
                  refine lv_goto (tgt := 38) hx hb dX9_isMet_91 (by decide) ?_
                  exact hR38 _ _ _ _ hf hP hD hS (lv_sub hl [2, 3, 4, 5, 6, 1, 0] rfl)
                · replace hf := k_ifT c78 hf
                  refine lv_iconst (v := 1) hx hb dX9_isMet_81 (by decide) ?_
                  refine lv_goto (tgt := 86) hx hb dX9_isMet_82 (by decide) ?_
                  refine lv_istore (lv' := [(5, .int 1), (0, .ref h_this), (1, .int x1), (2, .int x2), (3, .int a5.1), (4, .int a5.2), (6, .int a38.2)]) hx hb dX9_isMet_86 hl (by decide) rfl (fun ls hl => ?_)
                  refine lv_iinc (v := (a38.2 + 1)) (lv' := [(6, .int (a38.2 + 1)), (5, .int 1), (0, .ref h_this), (1, .int x1), (2, .int x2), (3, .int a5.1), (4, .int a5.2)]) hx hb dX9_isMet_88 hl (k := 6) rfl rfl (by decide) rfl (fun ls hl => ?_)
                  refine lv_goto (tgt := 38) hx hb dX9_isMet_91 (by decide) ?_
                  exact hR38 _ _ _ _ hf hP hD hS (lv_sub hl [2, 3, 4, 5, 6, 1, 0] rfl)
      · intro j25 hf hj25
        refine lv_if_ne (tgt := 32) hx hb dX9_isMet_25 (by decide) (fun c25 => ?_) (fun c25 => ?_)
        · replace hf := k_ifF c25 hf
          refine lv_iconst (v := 0) hx hb dX9_isMet_32 (by decide) ?_
          cases hf
          exact hj25 _ _ _ hP hD hS (lv_sub hl [0, 1, 2, 3, 4] rfl)
        · replace hf := k_ifT c25 hf
          refine lv_iconst (v := 1) hx hb dX9_isMet_28 (by decide) ?_
          refine lv_goto (tgt := 33) hx hb dX9_isMet_29 (by decide) ?_
          cases hf
          exact hj25 _ _ _ hP hD hS (lv_sub hl [0, 1, 2, 3, 4] rfl)
set_option maxHeartbeats 4000000 in
set_option maxRecDepth 100000 in
theorem k_X9_layApart (l : Launch) (D : va_G) (cB cI cJ cZ : ClassId) (tL tK : Nat) (h_this h_arrows h_marks h_signAt h_behind h_seenWhat h_seenCan h_page h_newArrows h_to h_holds h_apart h_keptArrows h_keptMarks h_keptWhat h_keptCan : Nat) (sz : Nat) (v_kind : Int32) (v_worlds : Int32) (v_frames : Int32) (v_signs : Int32) (v_formulas : Int32) (v_failsTold : Int32) (v_tellsTold : Int32) (v_seen : Int32) (v_pageLength : Int32) (v_stage : Int32) (v_newKind : Int32) (v_newWorlds : Int32) (v_newFrom : Int32) (v_newLast : Int32) (v_newP : Int32) (v_newQ : Int32) (v_wanted : Int32) (v_many : Int32) (v_pNow : Int32) (v_qNow : Int32) (v_seedNow : Int64) (v_keptFrame : Int32) (v_keptKind : Int32) (v_keptWorlds : Int32) (v_keptSeen : Int32) (v_h : Int64) (v_arrows : (Nat → Int32)) (v_marks : (Nat → Int32)) (v_apart : (Nat → Int32))  (q : (Nat → Int32)) (hf : f_X9_layApart v_worlds v_arrows v_marks v_apart = some q) : Met l yX9_layApart (.code yX9_layApart cX9_layApart 5 none :: k_all) { frames := 1, cells := 0, slots := 0, locals := 26 } (k_P D cB cI cJ cZ tL tK [.ref h_this] [(h_this, o_X9 v_kind v_worlds h_arrows h_marks v_frames v_signs h_signAt h_behind v_formulas v_failsTold v_tellsTold v_seen h_seenWhat h_seenCan v_pageLength h_page v_stage v_newKind v_newWorlds v_newFrom v_newLast v_newP v_newQ h_newArrows v_wanted v_many h_to v_pNow v_qNow h_holds h_apart v_seedNow v_keptFrame v_keptKind v_keptWorlds v_keptSeen h_keptArrows h_keptMarks h_keptWhat h_keptCan v_h), (h_arrows, o_I cZ 16 v_arrows), (h_marks, o_I cI 4 v_marks), (h_apart, o_I cZ 16 v_apart)] sz) (k_V D [(h_this, o_X9 v_kind v_worlds h_arrows h_marks v_frames v_signs h_signAt h_behind v_formulas v_failsTold v_tellsTold v_seen h_seenWhat h_seenCan v_pageLength h_page v_stage v_newKind v_newWorlds v_newFrom v_newLast v_newP v_newQ h_newArrows v_wanted v_many h_to v_pNow v_qNow h_holds h_apart v_seedNow v_keptFrame v_keptKind v_keptWorlds v_keptSeen h_keptArrows h_keptMarks h_keptWhat h_keptCan v_h), (h_arrows, o_I cZ 16 v_arrows), (h_marks, o_I cI 4 v_marks), (h_apart, o_I cZ 16 v_apart)] [(h_this, o_X9 v_kind v_worlds h_arrows h_marks v_frames v_signs h_signAt h_behind v_formulas v_failsTold v_tellsTold v_seen h_seenWhat h_seenCan v_pageLength h_page v_stage v_newKind v_newWorlds v_newFrom v_newLast v_newP v_newQ h_newArrows v_wanted v_many h_to v_pNow v_qNow h_holds h_apart v_seedNow v_keptFrame v_keptKind v_keptWorlds v_keptSeen h_keptArrows h_keptMarks h_keptWhat h_keptCan v_h), (h_arrows, o_I cZ 16 v_arrows), (h_marks, o_I cI 4 v_marks), (h_apart, o_I cZ 16 q)] sz) 0 0 (va_A [(h_this, o_X9 v_kind v_worlds h_arrows h_marks v_frames v_signs h_signAt h_behind v_formulas v_failsTold v_tellsTold v_seen h_seenWhat h_seenCan v_pageLength h_page v_stage v_newKind v_newWorlds v_newFrom v_newLast v_newP v_newQ h_newArrows v_wanted v_many h_to v_pNow v_qNow h_holds h_apart v_seedNow v_keptFrame v_keptKind v_keptWorlds v_keptSeen h_keptArrows h_keptMarks h_keptWhat h_keptCan v_h), (h_arrows, o_I cZ 16 v_arrows), (h_marks, o_I cI 4 v_marks), (h_apart, o_I cZ 16 v_apart)] sz) := by
  unfold f_X9_layApart at hf
  refine k_met RX9 rfl (by decide +kernel) (Nat.le_of_ble_eq_true rfl) ?_
  intro p e s m below meth c A ls hx hb hr hml hown hts hlocks hin hsz hAe hA hK hN hZ hD hS hP hl
  have hl : lv_has ls 5 [(0, .ref h_this)] := hl
  refine lv_iconst (v := 0) hx hb dX9_layApart_0 (by decide) ?_
  refine lv_istore_n (lv' := [(1, .int 0), (0, .ref h_this)]) hx hb dX9_layApart_1 rfl hl (by decide) rfl (fun ls hl => ?_)
  refine k_wl 44 (wsf := fun (a2 : Int32 × (Nat → Int32)) => [(h_this, o_X9 v_kind v_worlds h_arrows h_marks v_frames v_signs h_signAt h_behind v_formulas v_failsTold v_tellsTold v_seen h_seenWhat h_seenCan v_pageLength h_page v_stage v_newKind v_newWorlds v_newFrom v_newLast v_newP v_newQ h_newArrows v_wanted v_many h_to v_pNow v_qNow h_holds h_apart v_seedNow v_keptFrame v_keptKind v_keptWorlds v_keptSeen h_keptArrows h_keptMarks h_keptWhat h_keptCan v_h), (h_arrows, o_I cZ 16 v_arrows), (h_marks, o_I cI 4 v_marks), (h_apart, o_I cZ 16 a2.2)]) (lvf := fun (a2 : Int32 × (Nat → Int32)) => [(0, .ref h_this), (1, .int a2.1)]) hf hP hD hS (lv_sub hl [1, 0] rfl) ?_ ?_
  · intro a2 H locs ls hf hP hD hS hl
    have hP : va_P D vwCl [(h_this, o_X9 v_kind v_worlds h_arrows h_marks v_frames v_signs h_signAt h_behind v_formulas v_failsTold v_tellsTold v_seen h_seenWhat h_seenCan v_pageLength h_page v_stage v_newKind v_newWorlds v_newFrom v_newLast v_newP v_newQ h_newArrows v_wanted v_many h_to v_pNow v_qNow h_holds h_apart v_seedNow v_keptFrame v_keptKind v_keptWorlds v_keptSeen h_keptArrows h_keptMarks h_keptWhat h_keptCan v_h), (h_arrows, o_I cZ 16 v_arrows), (h_marks, o_I cI 4 v_marks), (h_apart, o_I cZ 16 a2.2)] H := hP
    have hD : va_D A [(h_this, o_X9 v_kind v_worlds h_arrows h_marks v_frames v_signs h_signAt h_behind v_formulas v_failsTold v_tellsTold v_seen h_seenWhat h_seenCan v_pageLength h_page v_stage v_newKind v_newWorlds v_newFrom v_newLast v_newP v_newQ h_newArrows v_wanted v_many h_to v_pNow v_qNow h_holds h_apart v_seedNow v_keptFrame v_keptKind v_keptWorlds v_keptSeen h_keptArrows h_keptMarks h_keptWhat h_keptCan v_h), (h_arrows, o_I cZ 16 v_arrows), (h_marks, o_I cI 4 v_marks), (h_apart, o_I cZ 16 a2.2)] := hD
    have hl : lv_has ls 5 [(0, .ref h_this), (1, .int a2.1)] := hl
    refine lv_iconst (v := 0) hx hb dX9_layApart_44 (by decide) ?_
    refine lv_istore_n (lv' := [(1, .int 0), (0, .ref h_this)]) hx hb dX9_layApart_45 rfl hl (by decide) rfl (fun ls hl => ?_)
    refine k_wl 152 (wsf := fun (a46 : Int32 × (Nat → Int32)) => [(h_this, o_X9 v_kind v_worlds h_arrows h_marks v_frames v_signs h_signAt h_behind v_formulas v_failsTold v_tellsTold v_seen h_seenWhat h_seenCan v_pageLength h_page v_stage v_newKind v_newWorlds v_newFrom v_newLast v_newP v_newQ h_newArrows v_wanted v_many h_to v_pNow v_qNow h_holds h_apart v_seedNow v_keptFrame v_keptKind v_keptWorlds v_keptSeen h_keptArrows h_keptMarks h_keptWhat h_keptCan v_h), (h_arrows, o_I cZ 16 v_arrows), (h_marks, o_I cI 4 v_marks), (h_apart, o_I cZ 16 a46.2)]) (lvf := fun (a46 : Int32 × (Nat → Int32)) => [(0, .ref h_this), (1, .int a46.1)]) hf hP hD hS (lv_sub hl [1, 0] rfl) ?_ ?_
    · intro a46 H locs ls hf hP hD hS hl
      have hP : va_P D vwCl [(h_this, o_X9 v_kind v_worlds h_arrows h_marks v_frames v_signs h_signAt h_behind v_formulas v_failsTold v_tellsTold v_seen h_seenWhat h_seenCan v_pageLength h_page v_stage v_newKind v_newWorlds v_newFrom v_newLast v_newP v_newQ h_newArrows v_wanted v_many h_to v_pNow v_qNow h_holds h_apart v_seedNow v_keptFrame v_keptKind v_keptWorlds v_keptSeen h_keptArrows h_keptMarks h_keptWhat h_keptCan v_h), (h_arrows, o_I cZ 16 v_arrows), (h_marks, o_I cI 4 v_marks), (h_apart, o_I cZ 16 a46.2)] H := hP
      have hD : va_D A [(h_this, o_X9 v_kind v_worlds h_arrows h_marks v_frames v_signs h_signAt h_behind v_formulas v_failsTold v_tellsTold v_seen h_seenWhat h_seenCan v_pageLength h_page v_stage v_newKind v_newWorlds v_newFrom v_newLast v_newP v_newQ h_newArrows v_wanted v_many h_to v_pNow v_qNow h_holds h_apart v_seedNow v_keptFrame v_keptKind v_keptWorlds v_keptSeen h_keptArrows h_keptMarks h_keptWhat h_keptCan v_h), (h_arrows, o_I cZ 16 v_arrows), (h_marks, o_I cI 4 v_marks), (h_apart, o_I cZ 16 a46.2)] := hD
      have hl : lv_has ls 5 [(0, .ref h_this), (1, .int a46.1)] := hl
      cases hf
      exact k_vret hx hb hr hlocks hAe hS hP hD dX9_layApart_152
    · intro ex46 rc46 hE46 hR46 a46 H locs ls hf hP hD hS hl
      have hP : va_P D vwCl [(h_this, o_X9 v_kind v_worlds h_arrows h_marks v_frames v_signs h_signAt h_behind v_formulas v_failsTold v_tellsTold v_seen h_seenWhat h_seenCan v_pageLength h_page v_stage v_newKind v_newWorlds v_newFrom v_newLast v_newP v_newQ h_newArrows v_wanted v_many h_to v_pNow v_qNow h_holds h_apart v_seedNow v_keptFrame v_keptKind v_keptWorlds v_keptSeen h_keptArrows h_keptMarks h_keptWhat h_keptCan v_h), (h_arrows, o_I cZ 16 v_arrows), (h_marks, o_I cI 4 v_marks), (h_apart, o_I cZ 16 a46.2)] H := hP
      have hD : va_D A [(h_this, o_X9 v_kind v_worlds h_arrows h_marks v_frames v_signs h_signAt h_behind v_formulas v_failsTold v_tellsTold v_seen h_seenWhat h_seenCan v_pageLength h_page v_stage v_newKind v_newWorlds v_newFrom v_newLast v_newP v_newQ h_newArrows v_wanted v_many h_to v_pNow v_qNow h_holds h_apart v_seedNow v_keptFrame v_keptKind v_keptWorlds v_keptSeen h_keptArrows h_keptMarks h_keptWhat h_keptCan v_h), (h_arrows, o_I cZ 16 v_arrows), (h_marks, o_I cI 4 v_marks), (h_apart, o_I cZ 16 a46.2)] := hD
      have hl : lv_has ls 5 [(0, .ref h_this), (1, .int a46.1)] := hl
      refine lv_iload_n hx hb dX9_layApart_46 rfl (lv_at hl 1 rfl) ?_
      refine lv_bipush (v := 16) hx hb dX9_layApart_47 (by decide) ?_
      refine lv_icmp_ge (tgt := 152) hx hb dX9_layApart_49 (by decide) (fun c49 => ?_) (fun c49 => ?_)
      · replace hf := k_ifT c49 hf
        exact hE46 _ _ _ _ hf hP hD hS (lv_sub hl [0, 1] rfl)
      · replace hf := k_ifF c49 hf
        refine lv_iconst (v := 0) hx hb dX9_layApart_52 (by decide) ?_
        refine lv_istore_n (lv' := [(2, .int 0), (0, .ref h_this), (1, .int a46.1)]) hx hb dX9_layApart_53 rfl hl (by decide) rfl (fun ls hl => ?_)
        refine k_wl 146 (wsf := fun (a54 : Int32 × (Nat → Int32)) => [(h_this, o_X9 v_kind v_worlds h_arrows h_marks v_frames v_signs h_signAt h_behind v_formulas v_failsTold v_tellsTold v_seen h_seenWhat h_seenCan v_pageLength h_page v_stage v_newKind v_newWorlds v_newFrom v_newLast v_newP v_newQ h_newArrows v_wanted v_many h_to v_pNow v_qNow h_holds h_apart v_seedNow v_keptFrame v_keptKind v_keptWorlds v_keptSeen h_keptArrows h_keptMarks h_keptWhat h_keptCan v_h), (h_arrows, o_I cZ 16 v_arrows), (h_marks, o_I cI 4 v_marks), (h_apart, o_I cZ 16 a54.2)]) (lvf := fun (a54 : Int32 × (Nat → Int32)) => [(0, .ref h_this), (1, .int a46.1), (2, .int a54.1)]) hf hP hD hS (lv_sub hl [1, 2, 0] rfl) ?_ ?_
        · intro a54 H locs ls hf hP hD hS hl
          have hP : va_P D vwCl [(h_this, o_X9 v_kind v_worlds h_arrows h_marks v_frames v_signs h_signAt h_behind v_formulas v_failsTold v_tellsTold v_seen h_seenWhat h_seenCan v_pageLength h_page v_stage v_newKind v_newWorlds v_newFrom v_newLast v_newP v_newQ h_newArrows v_wanted v_many h_to v_pNow v_qNow h_holds h_apart v_seedNow v_keptFrame v_keptKind v_keptWorlds v_keptSeen h_keptArrows h_keptMarks h_keptWhat h_keptCan v_h), (h_arrows, o_I cZ 16 v_arrows), (h_marks, o_I cI 4 v_marks), (h_apart, o_I cZ 16 a54.2)] H := hP
          have hD : va_D A [(h_this, o_X9 v_kind v_worlds h_arrows h_marks v_frames v_signs h_signAt h_behind v_formulas v_failsTold v_tellsTold v_seen h_seenWhat h_seenCan v_pageLength h_page v_stage v_newKind v_newWorlds v_newFrom v_newLast v_newP v_newQ h_newArrows v_wanted v_many h_to v_pNow v_qNow h_holds h_apart v_seedNow v_keptFrame v_keptKind v_keptWorlds v_keptSeen h_keptArrows h_keptMarks h_keptWhat h_keptCan v_h), (h_arrows, o_I cZ 16 v_arrows), (h_marks, o_I cI 4 v_marks), (h_apart, o_I cZ 16 a54.2)] := hD
          have hl : lv_has ls 5 [(0, .ref h_this), (1, .int a46.1), (2, .int a54.1)] := hl
          refine lv_iinc (v := (a46.1 + 1)) (lv' := [(1, .int (a46.1 + 1)), (0, .ref h_this), (2, .int a54.1)]) hx hb dX9_layApart_146 hl (k := 1) rfl rfl (by decide) rfl (fun ls hl => ?_)
          refine lv_goto (tgt := 46) hx hb dX9_layApart_149 (by decide) ?_
          exact hR46 _ _ _ _ hf hP hD hS (lv_sub hl [1, 0] rfl)
        · intro ex54 rc54 hE54 hR54 a54 H locs ls hf hP hD hS hl
          have hP : va_P D vwCl [(h_this, o_X9 v_kind v_worlds h_arrows h_marks v_frames v_signs h_signAt h_behind v_formulas v_failsTold v_tellsTold v_seen h_seenWhat h_seenCan v_pageLength h_page v_stage v_newKind v_newWorlds v_newFrom v_newLast v_newP v_newQ h_newArrows v_wanted v_many h_to v_pNow v_qNow h_holds h_apart v_seedNow v_keptFrame v_keptKind v_keptWorlds v_keptSeen h_keptArrows h_keptMarks h_keptWhat h_keptCan v_h), (h_arrows, o_I cZ 16 v_arrows), (h_marks, o_I cI 4 v_marks), (h_apart, o_I cZ 16 a54.2)] H := hP
          have hD : va_D A [(h_this, o_X9 v_kind v_worlds h_arrows h_marks v_frames v_signs h_signAt h_behind v_formulas v_failsTold v_tellsTold v_seen h_seenWhat h_seenCan v_pageLength h_page v_stage v_newKind v_newWorlds v_newFrom v_newLast v_newP v_newQ h_newArrows v_wanted v_many h_to v_pNow v_qNow h_holds h_apart v_seedNow v_keptFrame v_keptKind v_keptWorlds v_keptSeen h_keptArrows h_keptMarks h_keptWhat h_keptCan v_h), (h_arrows, o_I cZ 16 v_arrows), (h_marks, o_I cI 4 v_marks), (h_apart, o_I cZ 16 a54.2)] := hD
          have hl : lv_has ls 5 [(0, .ref h_this), (1, .int a46.1), (2, .int a54.1)] := hl
          refine lv_iload_n hx hb dX9_layApart_54 rfl (lv_at hl 2 rfl) ?_
          refine lv_aload_n hx hb dX9_layApart_55 rfl (lv_at hl 0 rfl) ?_
          refine va_get (D := D) (ci := 8) (v := .int v_worlds) (C := RX9) (T := TX9) (N := 41) hx hb hts inlX9 hown hK hP 0 rfl rfl 1 (by decide) (hts _ m_319) (fun _ h9 => h9) rfl dX9_layApart_56 ?_
          refine lv_icmp_ge (tgt := 146) hx hb dX9_layApart_59 (by decide) (fun c59 => ?_) (fun c59 => ?_)
          · replace hf := k_ifT c59 hf
            exact hE54 _ _ _ _ hf hP hD hS (lv_sub hl [0, 1, 2] rfl)
          · replace hf := k_ifF c59 hf
            refine lv_iconst (v := 0) hx hb dX9_layApart_62 (by decide) ?_
            refine lv_istore_n (lv' := [(3, .int 0), (0, .ref h_this), (1, .int a46.1), (2, .int a54.1)]) hx hb dX9_layApart_63 rfl hl (by decide) rfl (fun ls hl => ?_)
            refine k_wl 140 (wsf := fun (a64 : Int32 × (Nat → Int32)) => [(h_this, o_X9 v_kind v_worlds h_arrows h_marks v_frames v_signs h_signAt h_behind v_formulas v_failsTold v_tellsTold v_seen h_seenWhat h_seenCan v_pageLength h_page v_stage v_newKind v_newWorlds v_newFrom v_newLast v_newP v_newQ h_newArrows v_wanted v_many h_to v_pNow v_qNow h_holds h_apart v_seedNow v_keptFrame v_keptKind v_keptWorlds v_keptSeen h_keptArrows h_keptMarks h_keptWhat h_keptCan v_h), (h_arrows, o_I cZ 16 v_arrows), (h_marks, o_I cI 4 v_marks), (h_apart, o_I cZ 16 a64.2)]) (lvf := fun (a64 : Int32 × (Nat → Int32)) => [(0, .ref h_this), (1, .int a46.1), (2, .int a54.1), (3, .int a64.1)]) hf hP hD hS (lv_sub hl [1, 2, 3, 0] rfl) ?_ ?_
            · intro a64 H locs ls hf hP hD hS hl
              have hP : va_P D vwCl [(h_this, o_X9 v_kind v_worlds h_arrows h_marks v_frames v_signs h_signAt h_behind v_formulas v_failsTold v_tellsTold v_seen h_seenWhat h_seenCan v_pageLength h_page v_stage v_newKind v_newWorlds v_newFrom v_newLast v_newP v_newQ h_newArrows v_wanted v_many h_to v_pNow v_qNow h_holds h_apart v_seedNow v_keptFrame v_keptKind v_keptWorlds v_keptSeen h_keptArrows h_keptMarks h_keptWhat h_keptCan v_h), (h_arrows, o_I cZ 16 v_arrows), (h_marks, o_I cI 4 v_marks), (h_apart, o_I cZ 16 a64.2)] H := hP
              have hD : va_D A [(h_this, o_X9 v_kind v_worlds h_arrows h_marks v_frames v_signs h_signAt h_behind v_formulas v_failsTold v_tellsTold v_seen h_seenWhat h_seenCan v_pageLength h_page v_stage v_newKind v_newWorlds v_newFrom v_newLast v_newP v_newQ h_newArrows v_wanted v_many h_to v_pNow v_qNow h_holds h_apart v_seedNow v_keptFrame v_keptKind v_keptWorlds v_keptSeen h_keptArrows h_keptMarks h_keptWhat h_keptCan v_h), (h_arrows, o_I cZ 16 v_arrows), (h_marks, o_I cI 4 v_marks), (h_apart, o_I cZ 16 a64.2)] := hD
              have hl : lv_has ls 5 [(0, .ref h_this), (1, .int a46.1), (2, .int a54.1), (3, .int a64.1)] := hl
              refine lv_iinc (v := (a54.1 + 1)) (lv' := [(2, .int (a54.1 + 1)), (0, .ref h_this), (1, .int a46.1), (3, .int a64.1)]) hx hb dX9_layApart_140 hl (k := 2) rfl rfl (by decide) rfl (fun ls hl => ?_)
              refine lv_goto (tgt := 54) hx hb dX9_layApart_143 (by decide) ?_
              exact hR54 _ _ _ _ hf hP hD hS (lv_sub hl [1, 2, 0] rfl)
            · intro ex64 rc64 hE64 hR64 a64 H locs ls hf hP hD hS hl
              have hP : va_P D vwCl [(h_this, o_X9 v_kind v_worlds h_arrows h_marks v_frames v_signs h_signAt h_behind v_formulas v_failsTold v_tellsTold v_seen h_seenWhat h_seenCan v_pageLength h_page v_stage v_newKind v_newWorlds v_newFrom v_newLast v_newP v_newQ h_newArrows v_wanted v_many h_to v_pNow v_qNow h_holds h_apart v_seedNow v_keptFrame v_keptKind v_keptWorlds v_keptSeen h_keptArrows h_keptMarks h_keptWhat h_keptCan v_h), (h_arrows, o_I cZ 16 v_arrows), (h_marks, o_I cI 4 v_marks), (h_apart, o_I cZ 16 a64.2)] H := hP
              have hD : va_D A [(h_this, o_X9 v_kind v_worlds h_arrows h_marks v_frames v_signs h_signAt h_behind v_formulas v_failsTold v_tellsTold v_seen h_seenWhat h_seenCan v_pageLength h_page v_stage v_newKind v_newWorlds v_newFrom v_newLast v_newP v_newQ h_newArrows v_wanted v_many h_to v_pNow v_qNow h_holds h_apart v_seedNow v_keptFrame v_keptKind v_keptWorlds v_keptSeen h_keptArrows h_keptMarks h_keptWhat h_keptCan v_h), (h_arrows, o_I cZ 16 v_arrows), (h_marks, o_I cI 4 v_marks), (h_apart, o_I cZ 16 a64.2)] := hD
              have hl : lv_has ls 5 [(0, .ref h_this), (1, .int a46.1), (2, .int a54.1), (3, .int a64.1)] := hl
              refine lv_iload_n hx hb dX9_layApart_64 rfl (lv_at hl 3 rfl) ?_
              refine lv_aload_n hx hb dX9_layApart_65 rfl (lv_at hl 0 rfl) ?_
              refine va_get (D := D) (ci := 8) (v := .int v_worlds) (C := RX9) (T := TX9) (N := 41) hx hb hts inlX9 hown hK hP 0 rfl rfl 1 (by decide) (hts _ m_319) (fun _ h9 => h9) rfl dX9_layApart_66 ?_
              refine lv_icmp_ge (tgt := 140) hx hb dX9_layApart_69 (by decide) (fun c69 => ?_) (fun c69 => ?_)
              · replace hf := k_ifT c69 hf
                exact hE64 _ _ _ _ hf hP hD hS (lv_sub hl [0, 1, 2, 3] rfl)
              · replace hf := k_ifF c69 hf
                refine lv_aload_n hx hb dX9_layApart_72 rfl (lv_at hl 0 rfl) ?_
                refine va_get (D := D) (ci := 8) (v := .ref h_apart) (C := RX9) (T := TX9) (N := 41) hx hb hts inlX9 hown hK hP 0 rfl rfl 30 (by decide) (hts _ m_93) (fun _ h9 => h9) rfl dX9_layApart_73 ?_
                refine lv_iconst (v := 4) hx hb dX9_layApart_76 (by decide) ?_
                refine lv_iload_n hx hb dX9_layApart_77 rfl (lv_at hl 2 rfl) ?_
                refine lv_imul hx hb dX9_layApart_78 ?_
                refine lv_iload_n hx hb dX9_layApart_79 rfl (lv_at hl 3 rfl) ?_
                refine lv_iadd hx hb dX9_layApart_80 ?_
                obtain ⟨hi81, hf⟩ := k_chk_some hf
                refine va_zald (D := D) hx hb hK hP 3 3 rfl rfl hi81 dX9_layApart_81 ?_
                refine k_jn (D := D) (A := A) (nL := 5) hf (fun (j82 : Int32) => [(h_this, o_X9 v_kind v_worlds h_arrows h_marks v_frames v_signs h_signAt h_behind v_formulas v_failsTold v_tellsTold v_seen h_seenWhat h_seenCan v_pageLength h_page v_stage v_newKind v_newWorlds v_newFrom v_newLast v_newP v_newQ h_newArrows v_wanted v_many h_to v_pNow v_qNow h_holds h_apart v_seedNow v_keptFrame v_keptKind v_keptWorlds v_keptSeen h_keptArrows h_keptMarks h_keptWhat h_keptCan v_h), (h_arrows, o_I cZ 16 v_arrows), (h_marks, o_I cI 4 v_marks), (h_apart, o_I cZ 16 a64.2)]) (fun (j82 : Int32) => [(0, .ref h_this), (1, .int a46.1), (2, .int a54.1), (3, .int a64.1)]) (fun (j82 : Int32) => [.int j82]) 108 ?_ ?_
                · intro j82 H locs ls hf hP hD hS hl
                  have hP : va_P D vwCl [(h_this, o_X9 v_kind v_worlds h_arrows h_marks v_frames v_signs h_signAt h_behind v_formulas v_failsTold v_tellsTold v_seen h_seenWhat h_seenCan v_pageLength h_page v_stage v_newKind v_newWorlds v_newFrom v_newLast v_newP v_newQ h_newArrows v_wanted v_many h_to v_pNow v_qNow h_holds h_apart v_seedNow v_keptFrame v_keptKind v_keptWorlds v_keptSeen h_keptArrows h_keptMarks h_keptWhat h_keptCan v_h), (h_arrows, o_I cZ 16 v_arrows), (h_marks, o_I cI 4 v_marks), (h_apart, o_I cZ 16 a64.2)] H := hP
                  have hD : va_D A [(h_this, o_X9 v_kind v_worlds h_arrows h_marks v_frames v_signs h_signAt h_behind v_formulas v_failsTold v_tellsTold v_seen h_seenWhat h_seenCan v_pageLength h_page v_stage v_newKind v_newWorlds v_newFrom v_newLast v_newP v_newQ h_newArrows v_wanted v_many h_to v_pNow v_qNow h_holds h_apart v_seedNow v_keptFrame v_keptKind v_keptWorlds v_keptSeen h_keptArrows h_keptMarks h_keptWhat h_keptCan v_h), (h_arrows, o_I cZ 16 v_arrows), (h_marks, o_I cI 4 v_marks), (h_apart, o_I cZ 16 a64.2)] := hD
                  have hl : lv_has ls 5 [(0, .ref h_this), (1, .int a46.1), (2, .int a54.1), (3, .int a64.1)] := hl
                  show W p l e _ s m _ below meth c H locs _ _ _ (F0 m 108 ls [.int j82])
                  refine lv_istore (lv' := [(4, .int j82), (0, .ref h_this), (1, .int a46.1), (2, .int a54.1), (3, .int a64.1)]) hx hb dX9_layApart_108 hl (by decide) rfl (fun ls hl => ?_)
                  refine lv_aload_n hx hb dX9_layApart_110 rfl (lv_at hl 1 rfl) ?_
                  refine va_get (D := D) (ci := 8) (v := .ref h_apart) (C := RX9) (T := TX9) (N := 41) hx hb hts inlX9 hown hK hP 0 rfl rfl 30 (by decide) (hts _ m_93) (fun _ h9 => h9) rfl dX9_layApart_111 ?_
                  refine lv_iconst (v := 4) hx hb dX9_layApart_114 (by decide) ?_
                  refine lv_iload_n hx hb dX9_layApart_115 rfl (lv_at hl 3 rfl) ?_
                  refine lv_imul hx hb dX9_layApart_116 ?_
                  refine lv_iload_n hx hb dX9_layApart_117 rfl (lv_at hl 4 rfl) ?_
                  refine lv_iadd hx hb dX9_layApart_118 ?_
                  refine lv_iload hx hb dX9_layApart_119 (lv_at hl 0 rfl) ?_
                  obtain ⟨hi121, hf⟩ := k_chk_some hf
                  refine va_zast (D := D) hx hb hK hP hD hS 3 3 rfl rfl hi121 dX9_layApart_121 (fun H locs hP hD hS => ?_)
                  have hP : va_P D vwCl [(h_this, o_X9 v_kind v_worlds h_arrows h_marks v_frames v_signs h_signAt h_behind v_formulas v_failsTold v_tellsTold v_seen h_seenWhat h_seenCan v_pageLength h_page v_stage v_newKind v_newWorlds v_newFrom v_newLast v_newP v_newQ h_newArrows v_wanted v_many h_to v_pNow v_qNow h_holds h_apart v_seedNow v_keptFrame v_keptKind v_keptWorlds v_keptSeen h_keptArrows h_keptMarks h_keptWhat h_keptCan v_h), (h_arrows, o_I cZ 16 v_arrows), (h_marks, o_I cI 4 v_marks), (h_apart, o_I cZ 16 (upd a64.2 (Int32.toNatClampNeg ((4 * a54.1) + a64.1)) (vp_nar .boolean j82)))] H := hP
                  have hD : va_D A [(h_this, o_X9 v_kind v_worlds h_arrows h_marks v_frames v_signs h_signAt h_behind v_formulas v_failsTold v_tellsTold v_seen h_seenWhat h_seenCan v_pageLength h_page v_stage v_newKind v_newWorlds v_newFrom v_newLast v_newP v_newQ h_newArrows v_wanted v_many h_to v_pNow v_qNow h_holds h_apart v_seedNow v_keptFrame v_keptKind v_keptWorlds v_keptSeen h_keptArrows h_keptMarks h_keptWhat h_keptCan v_h), (h_arrows, o_I cZ 16 v_arrows), (h_marks, o_I cI 4 v_marks), (h_apart, o_I cZ 16 (upd a64.2 (Int32.toNatClampNeg ((4 * a54.1) + a64.1)) (vp_nar .boolean j82)))] := hD
                  refine lv_aload_n hx hb dX9_layApart_122 rfl (lv_at hl 1 rfl) ?_
                  refine va_get (D := D) (ci := 8) (v := .ref h_apart) (C := RX9) (T := TX9) (N := 41) hx hb hts inlX9 hown hK hP 0 rfl rfl 30 (by decide) (hts _ m_93) (fun _ h9 => h9) rfl dX9_layApart_123 ?_
                  refine lv_iconst (v := 4) hx hb dX9_layApart_126 (by decide) ?_
                  refine lv_iload_n hx hb dX9_layApart_127 rfl (lv_at hl 4 rfl) ?_
                  refine lv_imul hx hb dX9_layApart_128 ?_
                  refine lv_iload_n hx hb dX9_layApart_129 rfl (lv_at hl 3 rfl) ?_
                  refine lv_iadd hx hb dX9_layApart_130 ?_
                  refine lv_iload hx hb dX9_layApart_131 (lv_at hl 0 rfl) ?_
                  obtain ⟨hi133, hf⟩ := k_chk_some hf
                  refine va_zast (D := D) hx hb hK hP hD hS 3 3 rfl rfl hi133 dX9_layApart_133 (fun H locs hP hD hS => ?_)
                  have hP : va_P D vwCl [(h_this, o_X9 v_kind v_worlds h_arrows h_marks v_frames v_signs h_signAt h_behind v_formulas v_failsTold v_tellsTold v_seen h_seenWhat h_seenCan v_pageLength h_page v_stage v_newKind v_newWorlds v_newFrom v_newLast v_newP v_newQ h_newArrows v_wanted v_many h_to v_pNow v_qNow h_holds h_apart v_seedNow v_keptFrame v_keptKind v_keptWorlds v_keptSeen h_keptArrows h_keptMarks h_keptWhat h_keptCan v_h), (h_arrows, o_I cZ 16 v_arrows), (h_marks, o_I cI 4 v_marks), (h_apart, o_I cZ 16 (upd (upd a64.2 (Int32.toNatClampNeg ((4 * a54.1) + a64.1)) (vp_nar .boolean j82)) (Int32.toNatClampNeg ((4 * a64.1) + a54.1)) (vp_nar .boolean j82)))] H := hP
                  have hD : va_D A [(h_this, o_X9 v_kind v_worlds h_arrows h_marks v_frames v_signs h_signAt h_behind v_formulas v_failsTold v_tellsTold v_seen h_seenWhat h_seenCan v_pageLength h_page v_stage v_newKind v_newWorlds v_newFrom v_newLast v_newP v_newQ h_newArrows v_wanted v_many h_to v_pNow v_qNow h_holds h_apart v_seedNow v_keptFrame v_keptKind v_keptWorlds v_keptSeen h_keptArrows h_keptMarks h_keptWhat h_keptCan v_h), (h_arrows, o_I cZ 16 v_arrows), (h_marks, o_I cI 4 v_marks), (h_apart, o_I cZ 16 (upd (upd a64.2 (Int32.toNatClampNeg ((4 * a54.1) + a64.1)) (vp_nar .boolean j82)) (Int32.toNatClampNeg ((4 * a64.1) + a54.1)) (vp_nar .boolean j82)))] := hD
                  refine lv_iinc (v := (a64.1 + 1)) (lv' := [(3, .int (a64.1 + 1)), (4, .int j82), (0, .ref h_this), (1, .int a46.1), (2, .int a54.1)]) hx hb dX9_layApart_134 hl (k := 4) rfl rfl (by decide) rfl (fun ls hl => ?_)
                  refine lv_goto (tgt := 64) hx hb dX9_layApart_137 (by decide) ?_
                  exact hR64 _ _ _ _ hf hP hD hS (lv_sub hl [2, 3, 4, 0] rfl)
                · intro j82 hf hj82
                  refine lv_if_ne (tgt := 103) hx hb dX9_layApart_82 (by decide) (fun c82 => ?_) (fun c82 => ?_)
                  · replace hf := k_ifF c82 hf
                    refine lv_iconst (v := 1) hx hb dX9_layApart_103 (by decide) ?_
                    refine lv_goto (tgt := 108) hx hb dX9_layApart_104 (by decide) ?_
                    cases hf
                    exact hj82 _ _ _ hP hD hS (lv_sub hl [0, 1, 2, 3] rfl)
                  · replace hf := k_ifT c82 hf
                    refine lv_aload_n hx hb dX9_layApart_85 rfl (lv_at hl 0 rfl) ?_
                    refine lv_iload_n hx hb dX9_layApart_86 rfl (lv_at hl 2 rfl) ?_
                    refine lv_iload_n hx hb dX9_layApart_87 rfl (lv_at hl 3 rfl) ?_
                    obtain ⟨q88, hq88, hf⟩ := k_bind hf
                    refine k_calli (wN := [(h_this, o_X9 v_kind v_worlds h_arrows h_marks v_frames v_signs h_signAt h_behind v_formulas v_failsTold v_tellsTold v_seen h_seenWhat h_seenCan v_pageLength h_page v_stage v_newKind v_newWorlds v_newFrom v_newLast v_newP v_newQ h_newArrows v_wanted v_many h_to v_pNow v_qNow h_holds h_apart v_seedNow v_keptFrame v_keptKind v_keptWorlds v_keptSeen h_keptArrows h_keptMarks h_keptWhat h_keptCan v_h), (h_arrows, o_I cZ 16 v_arrows), (h_marks, o_I cI 4 v_marks), (h_apart, o_I cZ 16 a64.2)]) [0, 1, 3] [2] [1, 2, 0, 3] hP hD hS hA (va_runV (As := [.int a54.1, .int a64.1]) (rest := []) ⟨hx, hb, hml, hown, hts⟩ (k_X9_isMet l D cB cI cJ cZ tL tK h_this h_arrows h_marks h_signAt h_behind h_seenWhat h_seenCan h_page h_newArrows h_to h_holds h_apart h_keptArrows h_keptMarks h_keptWhat h_keptCan _ v_kind v_worlds v_frames v_signs v_formulas v_failsTold v_tellsTold v_seen v_pageLength v_stage v_newKind v_newWorlds v_newFrom v_newLast v_newP v_newQ v_wanted v_many v_pNow v_qNow v_seedNow v_keptFrame v_keptKind v_keptWorlds v_keptSeen v_h v_arrows a64.2 a54.1 a64.1 q88 hq88) (cwV 2 hts (k_gV m_494 m_491 m_492 m_493 m_5) rfl rfl rfl (by decide +kernel) ⟨Nat.le_of_ble_eq_true rfl, Nat.le_of_ble_eq_true rfl⟩) (k_preV [0, 1, 3] hK hN hZ hP hD hS hA rfl rfl (va_recv hK hP (ci := 8) (q0 := 0) rfl rfl)) rfl rfl hl.1 rfl (lv_room (Nat.le_of_ble_eq_true rfl)) dX9_layApart_88 ⟨Nat.le_refl _, Nat.le_refl _⟩) rfl rfl rfl rfl rfl (fun H locs hP hD hS => ?_)
                    refine lv_if_eq (tgt := 103) hx hb dX9_layApart_91 (by decide) (fun c91 => ?_) (fun c91 => ?_)
                    · replace hf := k_ifT c91 hf
                      refine lv_iconst (v := 1) hx hb dX9_layApart_103 (by decide) ?_
                      refine lv_goto (tgt := 108) hx hb dX9_layApart_104 (by decide) ?_
                      cases hf
                      exact hj82 _ _ _ hP hD hS (lv_sub hl [0, 1, 2, 3] rfl)
                    · replace hf := k_ifF c91 hf
                      refine lv_aload_n hx hb dX9_layApart_94 rfl (lv_at hl 0 rfl) ?_
                      refine lv_iload_n hx hb dX9_layApart_95 rfl (lv_at hl 3 rfl) ?_
                      refine lv_iload_n hx hb dX9_layApart_96 rfl (lv_at hl 2 rfl) ?_
                      obtain ⟨q97, hq97, hf⟩ := k_bind hf
                      refine k_calli (wN := [(h_this, o_X9 v_kind v_worlds h_arrows h_marks v_frames v_signs h_signAt h_behind v_formulas v_failsTold v_tellsTold v_seen h_seenWhat h_seenCan v_pageLength h_page v_stage v_newKind v_newWorlds v_newFrom v_newLast v_newP v_newQ h_newArrows v_wanted v_many h_to v_pNow v_qNow h_holds h_apart v_seedNow v_keptFrame v_keptKind v_keptWorlds v_keptSeen h_keptArrows h_keptMarks h_keptWhat h_keptCan v_h), (h_arrows, o_I cZ 16 v_arrows), (h_marks, o_I cI 4 v_marks), (h_apart, o_I cZ 16 a64.2)]) [0, 1, 3] [2] [1, 2, 0, 3] hP hD hS hA (va_runV (As := [.int a64.1, .int a54.1]) (rest := []) ⟨hx, hb, hml, hown, hts⟩ (k_X9_isMet l D cB cI cJ cZ tL tK h_this h_arrows h_marks h_signAt h_behind h_seenWhat h_seenCan h_page h_newArrows h_to h_holds h_apart h_keptArrows h_keptMarks h_keptWhat h_keptCan _ v_kind v_worlds v_frames v_signs v_formulas v_failsTold v_tellsTold v_seen v_pageLength v_stage v_newKind v_newWorlds v_newFrom v_newLast v_newP v_newQ v_wanted v_many v_pNow v_qNow v_seedNow v_keptFrame v_keptKind v_keptWorlds v_keptSeen v_h v_arrows a64.2 a64.1 a54.1 q97 hq97) (cwV 2 hts (k_gV m_494 m_491 m_492 m_493 m_5) rfl rfl rfl (by decide +kernel) ⟨Nat.le_of_ble_eq_true rfl, Nat.le_of_ble_eq_true rfl⟩) (k_preV [0, 1, 3] hK hN hZ hP hD hS hA rfl rfl (va_recv hK hP (ci := 8) (q0 := 0) rfl rfl)) rfl rfl hl.1 rfl (lv_room (Nat.le_of_ble_eq_true rfl)) dX9_layApart_97 ⟨Nat.le_refl _, Nat.le_refl _⟩) rfl rfl rfl rfl rfl (fun H locs hP hD hS => ?_)
                      refine lv_if_ne (tgt := 107) hx hb dX9_layApart_100 (by decide) (fun c100 => ?_) (fun c100 => ?_)
                      · replace hf := k_ifF c100 hf
                        refine lv_iconst (v := 0) hx hb dX9_layApart_107 (by decide) ?_
                        cases hf
                        exact hj82 _ _ _ hP hD hS (lv_sub hl [0, 1, 2, 3] rfl)
                      · replace hf := k_ifT c100 hf
                        refine lv_iconst (v := 1) hx hb dX9_layApart_103 (by decide) ?_
                        refine lv_goto (tgt := 108) hx hb dX9_layApart_104 (by decide) ?_
                        cases hf
                        exact hj82 _ _ _ hP hD hS (lv_sub hl [0, 1, 2, 3] rfl)
  · intro ex2 rc2 hE2 hR2 a2 H locs ls hf hP hD hS hl
    have hP : va_P D vwCl [(h_this, o_X9 v_kind v_worlds h_arrows h_marks v_frames v_signs h_signAt h_behind v_formulas v_failsTold v_tellsTold v_seen h_seenWhat h_seenCan v_pageLength h_page v_stage v_newKind v_newWorlds v_newFrom v_newLast v_newP v_newQ h_newArrows v_wanted v_many h_to v_pNow v_qNow h_holds h_apart v_seedNow v_keptFrame v_keptKind v_keptWorlds v_keptSeen h_keptArrows h_keptMarks h_keptWhat h_keptCan v_h), (h_arrows, o_I cZ 16 v_arrows), (h_marks, o_I cI 4 v_marks), (h_apart, o_I cZ 16 a2.2)] H := hP
    have hD : va_D A [(h_this, o_X9 v_kind v_worlds h_arrows h_marks v_frames v_signs h_signAt h_behind v_formulas v_failsTold v_tellsTold v_seen h_seenWhat h_seenCan v_pageLength h_page v_stage v_newKind v_newWorlds v_newFrom v_newLast v_newP v_newQ h_newArrows v_wanted v_many h_to v_pNow v_qNow h_holds h_apart v_seedNow v_keptFrame v_keptKind v_keptWorlds v_keptSeen h_keptArrows h_keptMarks h_keptWhat h_keptCan v_h), (h_arrows, o_I cZ 16 v_arrows), (h_marks, o_I cI 4 v_marks), (h_apart, o_I cZ 16 a2.2)] := hD
    have hl : lv_has ls 5 [(0, .ref h_this), (1, .int a2.1)] := hl
    refine lv_iload_n hx hb dX9_layApart_2 rfl (lv_at hl 1 rfl) ?_
    refine lv_bipush (v := 16) hx hb dX9_layApart_3 (by decide) ?_
    refine lv_icmp_ge (tgt := 44) hx hb dX9_layApart_5 (by decide) (fun c5 => ?_) (fun c5 => ?_)
    · replace hf := k_ifT c5 hf
      exact hE2 _ _ _ _ hf hP hD hS (lv_sub hl [0, 1] rfl)
    · replace hf := k_ifF c5 hf
      refine lv_aload_n hx hb dX9_layApart_8 rfl (lv_at hl 0 rfl) ?_
      refine va_get (D := D) (ci := 8) (v := .ref h_apart) (C := RX9) (T := TX9) (N := 41) hx hb hts inlX9 hown hK hP 0 rfl rfl 30 (by decide) (hts _ m_93) (fun _ h9 => h9) rfl dX9_layApart_9 ?_
      refine lv_iload_n hx hb dX9_layApart_12 rfl (lv_at hl 1 rfl) ?_
      refine lv_aload_n hx hb dX9_layApart_13 rfl (lv_at hl 0 rfl) ?_
      refine va_get (D := D) (ci := 8) (v := .ref h_marks) (C := RX9) (T := TX9) (N := 41) hx hb hts inlX9 hown hK hP 0 rfl rfl 3 (by decide) (hts _ m_83) (fun _ h9 => h9) rfl dX9_layApart_14 ?_
      refine lv_iload_n hx hb dX9_layApart_17 rfl (lv_at hl 1 rfl) ?_
      refine lv_iconst (v := 4) hx hb dX9_layApart_18 (by decide) ?_
      refine lv_idiv hx hb dX9_layApart_19 (by decide) ?_
      obtain ⟨hi20, hf⟩ := k_chk_some hf
      refine va_iald (D := D) hx hb hK hP 2 1 rfl rfl hi20 dX9_layApart_20 ?_
      refine lv_aload_n hx hb dX9_layApart_21 rfl (lv_at hl 0 rfl) ?_
      refine va_get (D := D) (ci := 8) (v := .ref h_marks) (C := RX9) (T := TX9) (N := 41) hx hb hts inlX9 hown hK hP 0 rfl rfl 3 (by decide) (hts _ m_83) (fun _ h9 => h9) rfl dX9_layApart_22 ?_
      refine lv_iload_n hx hb dX9_layApart_25 rfl (lv_at hl 1 rfl) ?_
      refine lv_iconst (v := 4) hx hb dX9_layApart_26 (by decide) ?_
      refine lv_irem hx hb dX9_layApart_27 (by decide) ?_
      obtain ⟨hi28, hf⟩ := k_chk_some hf
      refine va_iald (D := D) hx hb hK hP 2 1 rfl rfl hi28 dX9_layApart_28 ?_
      refine lv_icmp_eq (tgt := 36) hx hb dX9_layApart_29 (by decide) (fun c29 => ?_) (fun c29 => ?_)
      · replace hf := k_ifT c29 hf
        refine lv_iconst (v := 0) hx hb dX9_layApart_36 (by decide) ?_
        obtain ⟨hi37, hf⟩ := k_chk_some hf
        refine va_zast (D := D) hx hb hK hP hD hS 3 3 rfl rfl hi37 dX9_layApart_37 (fun H locs hP hD hS => ?_)
        have hP : va_P D vwCl [(h_this, o_X9 v_kind v_worlds h_arrows h_marks v_frames v_signs h_signAt h_behind v_formulas v_failsTold v_tellsTold v_seen h_seenWhat h_seenCan v_pageLength h_page v_stage v_newKind v_newWorlds v_newFrom v_newLast v_newP v_newQ h_newArrows v_wanted v_many h_to v_pNow v_qNow h_holds h_apart v_seedNow v_keptFrame v_keptKind v_keptWorlds v_keptSeen h_keptArrows h_keptMarks h_keptWhat h_keptCan v_h), (h_arrows, o_I cZ 16 v_arrows), (h_marks, o_I cI 4 v_marks), (h_apart, o_I cZ 16 (upd a2.2 (Int32.toNatClampNeg a2.1) (vp_nar .boolean 0)))] H := hP
        have hD : va_D A [(h_this, o_X9 v_kind v_worlds h_arrows h_marks v_frames v_signs h_signAt h_behind v_formulas v_failsTold v_tellsTold v_seen h_seenWhat h_seenCan v_pageLength h_page v_stage v_newKind v_newWorlds v_newFrom v_newLast v_newP v_newQ h_newArrows v_wanted v_many h_to v_pNow v_qNow h_holds h_apart v_seedNow v_keptFrame v_keptKind v_keptWorlds v_keptSeen h_keptArrows h_keptMarks h_keptWhat h_keptCan v_h), (h_arrows, o_I cZ 16 v_arrows), (h_marks, o_I cI 4 v_marks), (h_apart, o_I cZ 16 (upd a2.2 (Int32.toNatClampNeg a2.1) (vp_nar .boolean 0)))] := hD
        refine lv_iinc (v := (a2.1 + 1)) (lv' := [(1, .int (a2.1 + 1)), (0, .ref h_this)]) hx hb dX9_layApart_38 hl (k := 1) rfl rfl (by decide) rfl (fun ls hl => ?_)
        refine lv_goto (tgt := 2) hx hb dX9_layApart_41 (by decide) ?_
        exact hR2 _ _ _ _ hf hP hD hS (lv_sub hl [1, 0] rfl)
      · replace hf := k_ifF c29 hf
        refine lv_iconst (v := 1) hx hb dX9_layApart_32 (by decide) ?_
        refine lv_goto (tgt := 37) hx hb dX9_layApart_33 (by decide) ?_
        obtain ⟨hi37, hf⟩ := k_chk_some hf
        refine va_zast (D := D) hx hb hK hP hD hS 3 3 rfl rfl hi37 dX9_layApart_37 (fun H locs hP hD hS => ?_)
        have hP : va_P D vwCl [(h_this, o_X9 v_kind v_worlds h_arrows h_marks v_frames v_signs h_signAt h_behind v_formulas v_failsTold v_tellsTold v_seen h_seenWhat h_seenCan v_pageLength h_page v_stage v_newKind v_newWorlds v_newFrom v_newLast v_newP v_newQ h_newArrows v_wanted v_many h_to v_pNow v_qNow h_holds h_apart v_seedNow v_keptFrame v_keptKind v_keptWorlds v_keptSeen h_keptArrows h_keptMarks h_keptWhat h_keptCan v_h), (h_arrows, o_I cZ 16 v_arrows), (h_marks, o_I cI 4 v_marks), (h_apart, o_I cZ 16 (upd a2.2 (Int32.toNatClampNeg a2.1) (vp_nar .boolean 1)))] H := hP
        have hD : va_D A [(h_this, o_X9 v_kind v_worlds h_arrows h_marks v_frames v_signs h_signAt h_behind v_formulas v_failsTold v_tellsTold v_seen h_seenWhat h_seenCan v_pageLength h_page v_stage v_newKind v_newWorlds v_newFrom v_newLast v_newP v_newQ h_newArrows v_wanted v_many h_to v_pNow v_qNow h_holds h_apart v_seedNow v_keptFrame v_keptKind v_keptWorlds v_keptSeen h_keptArrows h_keptMarks h_keptWhat h_keptCan v_h), (h_arrows, o_I cZ 16 v_arrows), (h_marks, o_I cI 4 v_marks), (h_apart, o_I cZ 16 (upd a2.2 (Int32.toNatClampNeg a2.1) (vp_nar .boolean 1)))] := hD
        refine lv_iinc (v := (a2.1 + 1)) (lv' := [(1, .int (a2.1 + 1)), (0, .ref h_this)]) hx hb dX9_layApart_38 hl (k := 1) rfl rfl (by decide) rfl (fun ls hl => ?_)
        refine lv_goto (tgt := 2) hx hb dX9_layApart_41 (by decide) ?_
        exact hR2 _ _ _ _ hf hP hD hS (lv_sub hl [1, 0] rfl)
set_option maxHeartbeats 4000000 in
set_option maxRecDepth 100000 in
theorem k_X9_twinOf (l : Launch) (D : va_G) (cB cI cJ cZ : ClassId) (tL tK : Nat) (h_this h_arrows h_marks h_signAt h_behind h_seenWhat h_seenCan h_page h_newArrows h_to h_holds h_apart h_keptArrows h_keptMarks h_keptWhat h_keptCan : Nat) (sz : Nat) (v_kind : Int32) (v_worlds : Int32) (v_frames : Int32) (v_signs : Int32) (v_formulas : Int32) (v_failsTold : Int32) (v_tellsTold : Int32) (v_seen : Int32) (v_pageLength : Int32) (v_stage : Int32) (v_newKind : Int32) (v_newWorlds : Int32) (v_newFrom : Int32) (v_newLast : Int32) (v_newP : Int32) (v_newQ : Int32) (v_wanted : Int32) (v_many : Int32) (v_pNow : Int32) (v_qNow : Int32) (v_seedNow : Int64) (v_keptFrame : Int32) (v_keptKind : Int32) (v_keptWorlds : Int32) (v_keptSeen : Int32) (v_h : Int64) (v_apart : (Nat → Int32)) (x1 : Int32) (q : Int32) (hf : f_X9_twinOf v_apart x1 = some q) : Met l yX9_twinOf (.code yX9_twinOf cX9_twinOf 3 (some .int) :: k_all) { frames := 0, cells := 0, slots := 0, locals := 0 } (k_P D cB cI cJ cZ tL tK [.ref h_this, .int x1] [(h_this, o_X9 v_kind v_worlds h_arrows h_marks v_frames v_signs h_signAt h_behind v_formulas v_failsTold v_tellsTold v_seen h_seenWhat h_seenCan v_pageLength h_page v_stage v_newKind v_newWorlds v_newFrom v_newLast v_newP v_newQ h_newArrows v_wanted v_many h_to v_pNow v_qNow h_holds h_apart v_seedNow v_keptFrame v_keptKind v_keptWorlds v_keptSeen h_keptArrows h_keptMarks h_keptWhat h_keptCan v_h), (h_apart, o_I cZ 16 v_apart)] sz) (k_I D q [(h_this, o_X9 v_kind v_worlds h_arrows h_marks v_frames v_signs h_signAt h_behind v_formulas v_failsTold v_tellsTold v_seen h_seenWhat h_seenCan v_pageLength h_page v_stage v_newKind v_newWorlds v_newFrom v_newLast v_newP v_newQ h_newArrows v_wanted v_many h_to v_pNow v_qNow h_holds h_apart v_seedNow v_keptFrame v_keptKind v_keptWorlds v_keptSeen h_keptArrows h_keptMarks h_keptWhat h_keptCan v_h), (h_apart, o_I cZ 16 v_apart)] [(h_this, o_X9 v_kind v_worlds h_arrows h_marks v_frames v_signs h_signAt h_behind v_formulas v_failsTold v_tellsTold v_seen h_seenWhat h_seenCan v_pageLength h_page v_stage v_newKind v_newWorlds v_newFrom v_newLast v_newP v_newQ h_newArrows v_wanted v_many h_to v_pNow v_qNow h_holds h_apart v_seedNow v_keptFrame v_keptKind v_keptWorlds v_keptSeen h_keptArrows h_keptMarks h_keptWhat h_keptCan v_h), (h_apart, o_I cZ 16 v_apart)] sz) 0 0 (va_A [(h_this, o_X9 v_kind v_worlds h_arrows h_marks v_frames v_signs h_signAt h_behind v_formulas v_failsTold v_tellsTold v_seen h_seenWhat h_seenCan v_pageLength h_page v_stage v_newKind v_newWorlds v_newFrom v_newLast v_newP v_newQ h_newArrows v_wanted v_many h_to v_pNow v_qNow h_holds h_apart v_seedNow v_keptFrame v_keptKind v_keptWorlds v_keptSeen h_keptArrows h_keptMarks h_keptWhat h_keptCan v_h), (h_apart, o_I cZ 16 v_apart)] sz) := by
  unfold f_X9_twinOf at hf
  refine k_met RX9 rfl (by decide +kernel) (Nat.le_of_ble_eq_true rfl) ?_
  intro p e s m below meth c A ls hx hb hr hml hown hts hlocks hin hsz hAe hA hK hN hZ hD hS hP hl
  have hl : lv_has ls 3 [(0, .ref h_this), (1, .int x1)] := hl
  refine lv_iconst (v := 0) hx hb dX9_twinOf_0 (by decide) ?_
  refine lv_istore_n (lv' := [(2, .int 0), (0, .ref h_this), (1, .int x1)]) hx hb dX9_twinOf_1 rfl hl (by decide) rfl (fun ls hl => ?_)
  refine k_wl 26 (wsf := fun (a2 : Int32) => [(h_this, o_X9 v_kind v_worlds h_arrows h_marks v_frames v_signs h_signAt h_behind v_formulas v_failsTold v_tellsTold v_seen h_seenWhat h_seenCan v_pageLength h_page v_stage v_newKind v_newWorlds v_newFrom v_newLast v_newP v_newQ h_newArrows v_wanted v_many h_to v_pNow v_qNow h_holds h_apart v_seedNow v_keptFrame v_keptKind v_keptWorlds v_keptSeen h_keptArrows h_keptMarks h_keptWhat h_keptCan v_h), (h_apart, o_I cZ 16 v_apart)]) (lvf := fun (a2 : Int32) => [(0, .ref h_this), (1, .int x1), (2, .int a2)]) hf hP hD hS (lv_sub hl [1, 2, 0] rfl) ?_ ?_
  · intro a2 H locs ls hf hP hD hS hl
    have hP : va_P D vwCl [(h_this, o_X9 v_kind v_worlds h_arrows h_marks v_frames v_signs h_signAt h_behind v_formulas v_failsTold v_tellsTold v_seen h_seenWhat h_seenCan v_pageLength h_page v_stage v_newKind v_newWorlds v_newFrom v_newLast v_newP v_newQ h_newArrows v_wanted v_many h_to v_pNow v_qNow h_holds h_apart v_seedNow v_keptFrame v_keptKind v_keptWorlds v_keptSeen h_keptArrows h_keptMarks h_keptWhat h_keptCan v_h), (h_apart, o_I cZ 16 v_apart)] H := hP
    have hD : va_D A [(h_this, o_X9 v_kind v_worlds h_arrows h_marks v_frames v_signs h_signAt h_behind v_formulas v_failsTold v_tellsTold v_seen h_seenWhat h_seenCan v_pageLength h_page v_stage v_newKind v_newWorlds v_newFrom v_newLast v_newP v_newQ h_newArrows v_wanted v_many h_to v_pNow v_qNow h_holds h_apart v_seedNow v_keptFrame v_keptKind v_keptWorlds v_keptSeen h_keptArrows h_keptMarks h_keptWhat h_keptCan v_h), (h_apart, o_I cZ 16 v_apart)] := hD
    have hl : lv_has ls 3 [(0, .ref h_this), (1, .int x1), (2, .int a2)] := hl
    refine lv_iload_n hx hb dX9_twinOf_26 rfl (lv_at hl 2 rfl) ?_
    cases hf
    exact k_iret hx hb hr hlocks hAe hS hP hD dX9_twinOf_27
  · intro ex2 rc2 hE2 hR2 a2 H locs ls hf hP hD hS hl
    have hP : va_P D vwCl [(h_this, o_X9 v_kind v_worlds h_arrows h_marks v_frames v_signs h_signAt h_behind v_formulas v_failsTold v_tellsTold v_seen h_seenWhat h_seenCan v_pageLength h_page v_stage v_newKind v_newWorlds v_newFrom v_newLast v_newP v_newQ h_newArrows v_wanted v_many h_to v_pNow v_qNow h_holds h_apart v_seedNow v_keptFrame v_keptKind v_keptWorlds v_keptSeen h_keptArrows h_keptMarks h_keptWhat h_keptCan v_h), (h_apart, o_I cZ 16 v_apart)] H := hP
    have hD : va_D A [(h_this, o_X9 v_kind v_worlds h_arrows h_marks v_frames v_signs h_signAt h_behind v_formulas v_failsTold v_tellsTold v_seen h_seenWhat h_seenCan v_pageLength h_page v_stage v_newKind v_newWorlds v_newFrom v_newLast v_newP v_newQ h_newArrows v_wanted v_many h_to v_pNow v_qNow h_holds h_apart v_seedNow v_keptFrame v_keptKind v_keptWorlds v_keptSeen h_keptArrows h_keptMarks h_keptWhat h_keptCan v_h), (h_apart, o_I cZ 16 v_apart)] := hD
    have hl : lv_has ls 3 [(0, .ref h_this), (1, .int x1), (2, .int a2)] := hl
    refine lv_iload_n hx hb dX9_twinOf_2 rfl (lv_at hl 2 rfl) ?_
    refine lv_iload_n hx hb dX9_twinOf_3 rfl (lv_at hl 1 rfl) ?_
    refine lv_icmp_ge (tgt := 26) hx hb dX9_twinOf_4 (by decide) (fun c4 => ?_) (fun c4 => ?_)
    · replace hf := k_ifT c4 hf
      exact hE2 _ _ _ _ hf hP hD hS (lv_sub hl [0, 1, 2] rfl)
    · replace hf := k_ifF c4 hf
      refine lv_aload_n hx hb dX9_twinOf_7 rfl (lv_at hl 0 rfl) ?_
      refine va_get (D := D) (ci := 8) (v := .ref h_apart) (C := RX9) (T := TX9) (N := 41) hx hb hts inlX9 hown hK hP 0 rfl rfl 30 (by decide) (hts _ m_93) (fun _ h9 => h9) rfl dX9_twinOf_8 ?_
      refine lv_iconst (v := 4) hx hb dX9_twinOf_11 (by decide) ?_
      refine lv_iload_n hx hb dX9_twinOf_12 rfl (lv_at hl 1 rfl) ?_
      refine lv_imul hx hb dX9_twinOf_13 ?_
      refine lv_iload_n hx hb dX9_twinOf_14 rfl (lv_at hl 2 rfl) ?_
      refine lv_iadd hx hb dX9_twinOf_15 ?_
      obtain ⟨hi16, hf⟩ := k_chk_some hf
      refine va_zald (D := D) hx hb hK hP 1 3 rfl rfl hi16 dX9_twinOf_16 ?_
      refine lv_if_eq (tgt := 26) hx hb dX9_twinOf_17 (by decide) (fun c17 => ?_) (fun c17 => ?_)
      · replace hf := k_ifT c17 hf
        exact hE2 _ _ _ _ hf hP hD hS (lv_sub hl [0, 1, 2] rfl)
      · replace hf := k_ifF c17 hf
        refine lv_iinc (v := (a2 + 1)) (lv' := [(2, .int (a2 + 1)), (0, .ref h_this), (1, .int x1)]) hx hb dX9_twinOf_20 hl (k := 2) rfl rfl (by decide) rfl (fun ls hl => ?_)
        refine lv_goto (tgt := 2) hx hb dX9_twinOf_23 (by decide) ?_
        exact hR2 _ _ _ _ hf hP hD hS (lv_sub hl [1, 2, 0] rfl)
set_option maxHeartbeats 4000000 in
set_option maxRecDepth 100000 in
theorem k_X9_twinKinds (l : Launch) (D : va_G) (cB cI cJ cZ : ClassId) (tL tK : Nat) (h_this h_arrows h_marks h_signAt h_behind h_seenWhat h_seenCan h_page h_newArrows h_to h_holds h_apart h_keptArrows h_keptMarks h_keptWhat h_keptCan : Nat) (sz : Nat) (v_kind : Int32) (v_worlds : Int32) (v_frames : Int32) (v_signs : Int32) (v_formulas : Int32) (v_failsTold : Int32) (v_tellsTold : Int32) (v_seen : Int32) (v_pageLength : Int32) (v_stage : Int32) (v_newKind : Int32) (v_newWorlds : Int32) (v_newFrom : Int32) (v_newLast : Int32) (v_newP : Int32) (v_newQ : Int32) (v_wanted : Int32) (v_many : Int32) (v_pNow : Int32) (v_qNow : Int32) (v_seedNow : Int64) (v_keptFrame : Int32) (v_keptKind : Int32) (v_keptWorlds : Int32) (v_keptSeen : Int32) (v_h : Int64) (v_arrows : (Nat → Int32)) (v_marks : (Nat → Int32)) (v_apart : (Nat → Int32))  (q : Int32 × (Nat → Int32)) (hf : f_X9_twinKinds v_worlds v_arrows v_marks v_apart = some q) : Met l yX9_twinKinds (.code yX9_twinKinds cX9_twinKinds 3 (some .int) :: k_all) { frames := 2, cells := 0, slots := 0, locals := 50 } (k_P D cB cI cJ cZ tL tK [.ref h_this] [(h_this, o_X9 v_kind v_worlds h_arrows h_marks v_frames v_signs h_signAt h_behind v_formulas v_failsTold v_tellsTold v_seen h_seenWhat h_seenCan v_pageLength h_page v_stage v_newKind v_newWorlds v_newFrom v_newLast v_newP v_newQ h_newArrows v_wanted v_many h_to v_pNow v_qNow h_holds h_apart v_seedNow v_keptFrame v_keptKind v_keptWorlds v_keptSeen h_keptArrows h_keptMarks h_keptWhat h_keptCan v_h), (h_arrows, o_I cZ 16 v_arrows), (h_marks, o_I cI 4 v_marks), (h_apart, o_I cZ 16 v_apart)] sz) (k_I D q.1 [(h_this, o_X9 v_kind v_worlds h_arrows h_marks v_frames v_signs h_signAt h_behind v_formulas v_failsTold v_tellsTold v_seen h_seenWhat h_seenCan v_pageLength h_page v_stage v_newKind v_newWorlds v_newFrom v_newLast v_newP v_newQ h_newArrows v_wanted v_many h_to v_pNow v_qNow h_holds h_apart v_seedNow v_keptFrame v_keptKind v_keptWorlds v_keptSeen h_keptArrows h_keptMarks h_keptWhat h_keptCan v_h), (h_arrows, o_I cZ 16 v_arrows), (h_marks, o_I cI 4 v_marks), (h_apart, o_I cZ 16 v_apart)] [(h_this, o_X9 v_kind v_worlds h_arrows h_marks v_frames v_signs h_signAt h_behind v_formulas v_failsTold v_tellsTold v_seen h_seenWhat h_seenCan v_pageLength h_page v_stage v_newKind v_newWorlds v_newFrom v_newLast v_newP v_newQ h_newArrows v_wanted v_many h_to v_pNow v_qNow h_holds h_apart v_seedNow v_keptFrame v_keptKind v_keptWorlds v_keptSeen h_keptArrows h_keptMarks h_keptWhat h_keptCan v_h), (h_arrows, o_I cZ 16 v_arrows), (h_marks, o_I cI 4 v_marks), (h_apart, o_I cZ 16 q.2)] sz) 0 0 (va_A [(h_this, o_X9 v_kind v_worlds h_arrows h_marks v_frames v_signs h_signAt h_behind v_formulas v_failsTold v_tellsTold v_seen h_seenWhat h_seenCan v_pageLength h_page v_stage v_newKind v_newWorlds v_newFrom v_newLast v_newP v_newQ h_newArrows v_wanted v_many h_to v_pNow v_qNow h_holds h_apart v_seedNow v_keptFrame v_keptKind v_keptWorlds v_keptSeen h_keptArrows h_keptMarks h_keptWhat h_keptCan v_h), (h_arrows, o_I cZ 16 v_arrows), (h_marks, o_I cI 4 v_marks), (h_apart, o_I cZ 16 v_apart)] sz) := by
  unfold f_X9_twinKinds at hf
  refine k_met RX9 rfl (by decide +kernel) (Nat.le_of_ble_eq_true rfl) ?_
  intro p e s m below meth c A ls hx hb hr hml hown hts hlocks hin hsz hAe hA hK hN hZ hD hS hP hl
  have hl : lv_has ls 3 [(0, .ref h_this)] := hl
  refine lv_aload_n hx hb dX9_twinKinds_0 rfl (lv_at hl 0 rfl) ?_
  obtain ⟨q1, hq1, hf⟩ := k_bind hf
  refine k_callv (wN := [(h_this, o_X9 v_kind v_worlds h_arrows h_marks v_frames v_signs h_signAt h_behind v_formulas v_failsTold v_tellsTold v_seen h_seenWhat h_seenCan v_pageLength h_page v_stage v_newKind v_newWorlds v_newFrom v_newLast v_newP v_newQ h_newArrows v_wanted v_many h_to v_pNow v_qNow h_holds h_apart v_seedNow v_keptFrame v_keptKind v_keptWorlds v_keptSeen h_keptArrows h_keptMarks h_keptWhat h_keptCan v_h), (h_arrows, o_I cZ 16 v_arrows), (h_marks, o_I cI 4 v_marks), (h_apart, o_I cZ 16 q1)]) [0, 1, 2, 3] [] [0, 1, 2, 3] hP hD hS hA (va_runV (As := []) (rest := []) ⟨hx, hb, hml, hown, hts⟩ (k_X9_layApart l D cB cI cJ cZ tL tK h_this h_arrows h_marks h_signAt h_behind h_seenWhat h_seenCan h_page h_newArrows h_to h_holds h_apart h_keptArrows h_keptMarks h_keptWhat h_keptCan _ v_kind v_worlds v_frames v_signs v_formulas v_failsTold v_tellsTold v_seen v_pageLength v_stage v_newKind v_newWorlds v_newFrom v_newLast v_newP v_newQ v_wanted v_many v_pNow v_qNow v_seedNow v_keptFrame v_keptKind v_keptWorlds v_keptSeen v_h v_arrows v_marks v_apart q1 hq1) (cwV 0 hts (k_gV m_490 m_487 m_488 m_489 m_5) rfl rfl rfl (by decide +kernel) ⟨Nat.le_of_ble_eq_true rfl, Nat.le_of_ble_eq_true rfl⟩) (k_preV [0, 1, 2, 3] hK hN hZ hP hD hS hA rfl rfl (va_recv hK hP (ci := 8) (q0 := 0) rfl rfl)) rfl rfl hl.1 rfl (lv_room (Nat.le_of_ble_eq_true rfl)) dX9_twinKinds_1 ⟨Nat.le_refl _, Nat.le_refl _⟩) rfl rfl rfl rfl rfl (fun H locs hP hD hS => ?_)
  refine lv_iconst (v := 0) hx hb dX9_twinKinds_4 (by decide) ?_
  refine lv_istore_n (lv' := [(1, .int 0), (0, .ref h_this)]) hx hb dX9_twinKinds_5 rfl hl (by decide) rfl (fun ls hl => ?_)
  refine lv_iconst (v := 0) hx hb dX9_twinKinds_6 (by decide) ?_
  refine lv_istore_n (lv' := [(2, .int 0), (1, .int 0), (0, .ref h_this)]) hx hb dX9_twinKinds_7 rfl hl (by decide) rfl (fun ls hl => ?_)
  refine k_wl 39 (wsf := fun (a8 : Int32 × Int32) => [(h_this, o_X9 v_kind v_worlds h_arrows h_marks v_frames v_signs h_signAt h_behind v_formulas v_failsTold v_tellsTold v_seen h_seenWhat h_seenCan v_pageLength h_page v_stage v_newKind v_newWorlds v_newFrom v_newLast v_newP v_newQ h_newArrows v_wanted v_many h_to v_pNow v_qNow h_holds h_apart v_seedNow v_keptFrame v_keptKind v_keptWorlds v_keptSeen h_keptArrows h_keptMarks h_keptWhat h_keptCan v_h), (h_arrows, o_I cZ 16 v_arrows), (h_marks, o_I cI 4 v_marks), (h_apart, o_I cZ 16 q1)]) (lvf := fun (a8 : Int32 × Int32) => [(0, .ref h_this), (1, .int a8.1), (2, .int a8.2)]) hf hP hD hS (lv_sub hl [2, 1, 0] rfl) ?_ ?_
  · intro a8 H locs ls hf hP hD hS hl
    have hP : va_P D vwCl [(h_this, o_X9 v_kind v_worlds h_arrows h_marks v_frames v_signs h_signAt h_behind v_formulas v_failsTold v_tellsTold v_seen h_seenWhat h_seenCan v_pageLength h_page v_stage v_newKind v_newWorlds v_newFrom v_newLast v_newP v_newQ h_newArrows v_wanted v_many h_to v_pNow v_qNow h_holds h_apart v_seedNow v_keptFrame v_keptKind v_keptWorlds v_keptSeen h_keptArrows h_keptMarks h_keptWhat h_keptCan v_h), (h_arrows, o_I cZ 16 v_arrows), (h_marks, o_I cI 4 v_marks), (h_apart, o_I cZ 16 q1)] H := hP
    have hD : va_D A [(h_this, o_X9 v_kind v_worlds h_arrows h_marks v_frames v_signs h_signAt h_behind v_formulas v_failsTold v_tellsTold v_seen h_seenWhat h_seenCan v_pageLength h_page v_stage v_newKind v_newWorlds v_newFrom v_newLast v_newP v_newQ h_newArrows v_wanted v_many h_to v_pNow v_qNow h_holds h_apart v_seedNow v_keptFrame v_keptKind v_keptWorlds v_keptSeen h_keptArrows h_keptMarks h_keptWhat h_keptCan v_h), (h_arrows, o_I cZ 16 v_arrows), (h_marks, o_I cI 4 v_marks), (h_apart, o_I cZ 16 q1)] := hD
    have hl : lv_has ls 3 [(0, .ref h_this), (1, .int a8.1), (2, .int a8.2)] := hl
    refine lv_iload_n hx hb dX9_twinKinds_39 rfl (lv_at hl 1 rfl) ?_
    cases hf
    exact k_iret hx hb hr hlocks hAe hS hP hD dX9_twinKinds_40
  · intro ex8 rc8 hE8 hR8 a8 H locs ls hf hP hD hS hl
    have hP : va_P D vwCl [(h_this, o_X9 v_kind v_worlds h_arrows h_marks v_frames v_signs h_signAt h_behind v_formulas v_failsTold v_tellsTold v_seen h_seenWhat h_seenCan v_pageLength h_page v_stage v_newKind v_newWorlds v_newFrom v_newLast v_newP v_newQ h_newArrows v_wanted v_many h_to v_pNow v_qNow h_holds h_apart v_seedNow v_keptFrame v_keptKind v_keptWorlds v_keptSeen h_keptArrows h_keptMarks h_keptWhat h_keptCan v_h), (h_arrows, o_I cZ 16 v_arrows), (h_marks, o_I cI 4 v_marks), (h_apart, o_I cZ 16 q1)] H := hP
    have hD : va_D A [(h_this, o_X9 v_kind v_worlds h_arrows h_marks v_frames v_signs h_signAt h_behind v_formulas v_failsTold v_tellsTold v_seen h_seenWhat h_seenCan v_pageLength h_page v_stage v_newKind v_newWorlds v_newFrom v_newLast v_newP v_newQ h_newArrows v_wanted v_many h_to v_pNow v_qNow h_holds h_apart v_seedNow v_keptFrame v_keptKind v_keptWorlds v_keptSeen h_keptArrows h_keptMarks h_keptWhat h_keptCan v_h), (h_arrows, o_I cZ 16 v_arrows), (h_marks, o_I cI 4 v_marks), (h_apart, o_I cZ 16 q1)] := hD
    have hl : lv_has ls 3 [(0, .ref h_this), (1, .int a8.1), (2, .int a8.2)] := hl
    refine lv_iload_n hx hb dX9_twinKinds_8 rfl (lv_at hl 2 rfl) ?_
    refine lv_aload_n hx hb dX9_twinKinds_9 rfl (lv_at hl 0 rfl) ?_
    refine va_get (D := D) (ci := 8) (v := .int v_worlds) (C := RX9) (T := TX9) (N := 41) hx hb hts inlX9 hown hK hP 0 rfl rfl 1 (by decide) (hts _ m_319) (fun _ h9 => h9) rfl dX9_twinKinds_10 ?_
    refine lv_icmp_ge (tgt := 39) hx hb dX9_twinKinds_13 (by decide) (fun c13 => ?_) (fun c13 => ?_)
    · replace hf := k_ifT c13 hf
      exact hE8 _ _ _ _ hf hP hD hS (lv_sub hl [0, 1, 2] rfl)
    · replace hf := k_ifF c13 hf
      refine lv_iload_n hx hb dX9_twinKinds_16 rfl (lv_at hl 1 rfl) ?_
      refine lv_aload_n hx hb dX9_twinKinds_17 rfl (lv_at hl 0 rfl) ?_
      refine lv_iload_n hx hb dX9_twinKinds_18 rfl (lv_at hl 2 rfl) ?_
      obtain ⟨q19, hq19, hf⟩ := k_bind hf
      refine k_calli (wN := [(h_this, o_X9 v_kind v_worlds h_arrows h_marks v_frames v_signs h_signAt h_behind v_formulas v_failsTold v_tellsTold v_seen h_seenWhat h_seenCan v_pageLength h_page v_stage v_newKind v_newWorlds v_newFrom v_newLast v_newP v_newQ h_newArrows v_wanted v_many h_to v_pNow v_qNow h_holds h_apart v_seedNow v_keptFrame v_keptKind v_keptWorlds v_keptSeen h_keptArrows h_keptMarks h_keptWhat h_keptCan v_h), (h_arrows, o_I cZ 16 v_arrows), (h_marks, o_I cI 4 v_marks), (h_apart, o_I cZ 16 q1)]) [0, 3] [1, 2] [2, 0, 1, 3] hP hD hS hA (va_runV (As := [.int a8.2]) (rest := [.int a8.1]) ⟨hx, hb, hml, hown, hts⟩ (k_X9_twinOf l D cB cI cJ cZ tL tK h_this h_arrows h_marks h_signAt h_behind h_seenWhat h_seenCan h_page h_newArrows h_to h_holds h_apart h_keptArrows h_keptMarks h_keptWhat h_keptCan _ v_kind v_worlds v_frames v_signs v_formulas v_failsTold v_tellsTold v_seen v_pageLength v_stage v_newKind v_newWorlds v_newFrom v_newLast v_newP v_newQ v_wanted v_many v_pNow v_qNow v_seedNow v_keptFrame v_keptKind v_keptWorlds v_keptSeen v_h q1 a8.2 q19 hq19) (cwV 1 hts (k_gV m_498 m_495 m_496 m_497 m_5) rfl rfl rfl (by decide +kernel) ⟨Nat.le_of_ble_eq_true rfl, Nat.le_of_ble_eq_true rfl⟩) (k_preV [0, 3] hK hN hZ hP hD hS hA rfl rfl (va_recv hK hP (ci := 8) (q0 := 0) rfl rfl)) rfl rfl hl.1 rfl (lv_room (Nat.le_of_ble_eq_true rfl)) dX9_twinKinds_19 ⟨Nat.le_refl _, Nat.le_refl _⟩) rfl rfl rfl rfl rfl (fun H locs hP hD hS => ?_)
      refine lv_iload_n hx hb dX9_twinKinds_22 rfl (lv_at hl 2 rfl) ?_
      refine lv_icmp_ne (tgt := 30) hx hb dX9_twinKinds_23 (by decide) (fun c23 => ?_) (fun c23 => ?_)
      · replace hf := k_ifF c23 hf
        refine lv_iconst (v := 0) hx hb dX9_twinKinds_30 (by decide) ?_
        refine lv_iadd hx hb dX9_twinKinds_31 ?_
        refine lv_istore_n (lv' := [(1, .int (a8.1 + 0)), (0, .ref h_this), (2, .int a8.2)]) hx hb dX9_twinKinds_32 rfl hl (by decide) rfl (fun ls hl => ?_)
        refine lv_iinc (v := (a8.2 + 1)) (lv' := [(2, .int (a8.2 + 1)), (1, .int (a8.1 + 0)), (0, .ref h_this)]) hx hb dX9_twinKinds_33 hl (k := 2) rfl rfl (by decide) rfl (fun ls hl => ?_)
        refine lv_goto (tgt := 8) hx hb dX9_twinKinds_36 (by decide) ?_
        exact hR8 _ _ _ _ hf hP hD hS (lv_sub hl [2, 1, 0] rfl)
      · replace hf := k_ifT c23 hf
        refine lv_iconst (v := 1) hx hb dX9_twinKinds_26 (by decide) ?_
        refine lv_goto (tgt := 31) hx hb dX9_twinKinds_27 (by decide) ?_
        refine lv_iadd hx hb dX9_twinKinds_31 ?_
        refine lv_istore_n (lv' := [(1, .int (a8.1 + 1)), (0, .ref h_this), (2, .int a8.2)]) hx hb dX9_twinKinds_32 rfl hl (by decide) rfl (fun ls hl => ?_)
        refine lv_iinc (v := (a8.2 + 1)) (lv' := [(2, .int (a8.2 + 1)), (1, .int (a8.1 + 1)), (0, .ref h_this)]) hx hb dX9_twinKinds_33 hl (k := 2) rfl rfl (by decide) rfl (fun ls hl => ?_)
        refine lv_goto (tgt := 8) hx hb dX9_twinKinds_36 (by decide) ?_
        exact hR8 _ _ _ _ hf hP hD hS (lv_sub hl [2, 1, 0] rfl)
set_option maxHeartbeats 4000000 in
set_option maxRecDepth 100000 in
theorem k_X9_aboutNow (l : Launch) (D : va_G) (cB cI cJ cZ : ClassId) (tL tK : Nat) (h_this h_arrows h_marks h_signAt h_behind h_seenWhat h_seenCan h_page h_newArrows h_to h_holds h_apart h_keptArrows h_keptMarks h_keptWhat h_keptCan : Nat) (sz : Nat) (v_kind : Int32) (v_worlds : Int32) (v_frames : Int32) (v_signs : Int32) (v_formulas : Int32) (v_failsTold : Int32) (v_tellsTold : Int32) (v_seen : Int32) (v_pageLength : Int32) (v_stage : Int32) (v_newKind : Int32) (v_newWorlds : Int32) (v_newFrom : Int32) (v_newLast : Int32) (v_newP : Int32) (v_newQ : Int32) (v_wanted : Int32) (v_many : Int32) (v_pNow : Int32) (v_qNow : Int32) (v_seedNow : Int64) (v_keptFrame : Int32) (v_keptKind : Int32) (v_keptWorlds : Int32) (v_keptSeen : Int32) (v_h : Int64) (v_arrows : (Nat → Int32)) (v_marks : (Nat → Int32)) (v_to : (Nat → Int32)) (v_apart : (Nat → Int32)) (x1 : Int32) (q : Int32 × Int32 × Int32 × Int32 × (Nat → Int32) × (Nat → Int32)) (hf : f_X9_aboutNow v_kind v_worlds v_many v_pNow v_qNow v_arrows v_marks v_to v_apart x1 = some q) : Met l yX9_aboutNow (.code yX9_aboutNow cX9_aboutNow 2 (some .int) :: k_all) { frames := 6, cells := 0, slots := 0, locals := 131 } (k_P D cB cI cJ cZ tL tK [.ref h_this, .int x1] [(h_this, o_X9 v_kind v_worlds h_arrows h_marks v_frames v_signs h_signAt h_behind v_formulas v_failsTold v_tellsTold v_seen h_seenWhat h_seenCan v_pageLength h_page v_stage v_newKind v_newWorlds v_newFrom v_newLast v_newP v_newQ h_newArrows v_wanted v_many h_to v_pNow v_qNow h_holds h_apart v_seedNow v_keptFrame v_keptKind v_keptWorlds v_keptSeen h_keptArrows h_keptMarks h_keptWhat h_keptCan v_h), (h_arrows, o_I cZ 16 v_arrows), (h_marks, o_I cI 4 v_marks), (h_to, o_I cI 4 v_to), (h_apart, o_I cZ 16 v_apart)] sz) (k_I D q.1 [(h_this, o_X9 v_kind v_worlds h_arrows h_marks v_frames v_signs h_signAt h_behind v_formulas v_failsTold v_tellsTold v_seen h_seenWhat h_seenCan v_pageLength h_page v_stage v_newKind v_newWorlds v_newFrom v_newLast v_newP v_newQ h_newArrows v_wanted v_many h_to v_pNow v_qNow h_holds h_apart v_seedNow v_keptFrame v_keptKind v_keptWorlds v_keptSeen h_keptArrows h_keptMarks h_keptWhat h_keptCan v_h), (h_arrows, o_I cZ 16 v_arrows), (h_marks, o_I cI 4 v_marks), (h_to, o_I cI 4 v_to), (h_apart, o_I cZ 16 v_apart)] [(h_this, o_X9 v_kind v_worlds h_arrows h_marks v_frames v_signs h_signAt h_behind v_formulas v_failsTold v_tellsTold v_seen h_seenWhat h_seenCan v_pageLength h_page v_stage v_newKind v_newWorlds v_newFrom v_newLast v_newP v_newQ h_newArrows v_wanted q.2.1 h_to q.2.2.1 q.2.2.2.1 h_holds h_apart v_seedNow v_keptFrame v_keptKind v_keptWorlds v_keptSeen h_keptArrows h_keptMarks h_keptWhat h_keptCan v_h), (h_arrows, o_I cZ 16 v_arrows), (h_marks, o_I cI 4 v_marks), (h_to, o_I cI 4 q.2.2.2.2.1), (h_apart, o_I cZ 16 q.2.2.2.2.2)] sz) 0 0 (va_A [(h_this, o_X9 v_kind v_worlds h_arrows h_marks v_frames v_signs h_signAt h_behind v_formulas v_failsTold v_tellsTold v_seen h_seenWhat h_seenCan v_pageLength h_page v_stage v_newKind v_newWorlds v_newFrom v_newLast v_newP v_newQ h_newArrows v_wanted v_many h_to v_pNow v_qNow h_holds h_apart v_seedNow v_keptFrame v_keptKind v_keptWorlds v_keptSeen h_keptArrows h_keptMarks h_keptWhat h_keptCan v_h), (h_arrows, o_I cZ 16 v_arrows), (h_marks, o_I cI 4 v_marks), (h_to, o_I cI 4 v_to), (h_apart, o_I cZ 16 v_apart)] sz) := by
  unfold f_X9_aboutNow at hf
  refine k_met RX9 rfl (by decide +kernel) (Nat.le_of_ble_eq_true rfl) ?_
  intro p e s m below meth c A ls hx hb hr hml hown hts hlocks hin hsz hAe hA hK hN hZ hD hS hP hl
  have hl : lv_has ls 2 [(0, .ref h_this), (1, .int x1)] := hl
  refine lv_iload_n hx hb dX9_aboutNow_0 rfl (lv_at hl 1 rfl) ?_
  refine lv_if_ne (tgt := 11) hx hb dX9_aboutNow_1 (by decide) (fun c1 => ?_) (fun c1 => ?_)
  · replace hf := k_ifF c1 hf
    refine lv_iload_n hx hb dX9_aboutNow_11 rfl (lv_at hl 1 rfl) ?_
    refine lv_iconst (v := 1) hx hb dX9_aboutNow_12 (by decide) ?_
    refine lv_icmp_ne (tgt := 23) hx hb dX9_aboutNow_13 (by decide) (fun c13 => ?_) (fun c13 => ?_)
    · replace hf := k_ifF c13 hf
      refine lv_iload_n hx hb dX9_aboutNow_23 rfl (lv_at hl 1 rfl) ?_
      refine lv_iconst (v := 2) hx hb dX9_aboutNow_24 (by decide) ?_
      refine lv_icmp_ne (tgt := 35) hx hb dX9_aboutNow_25 (by decide) (fun c25 => ?_) (fun c25 => ?_)
      · replace hf := k_ifF c25 hf
        refine lv_iload_n hx hb dX9_aboutNow_35 rfl (lv_at hl 1 rfl) ?_
        refine lv_iconst (v := 3) hx hb dX9_aboutNow_36 (by decide) ?_
        refine lv_icmp_ne (tgt := 47) hx hb dX9_aboutNow_37 (by decide) (fun c37 => ?_) (fun c37 => ?_)
        · replace hf := k_ifF c37 hf
          refine lv_aload_n hx hb dX9_aboutNow_47 rfl (lv_at hl 0 rfl) ?_
          obtain ⟨q48, hq48, hf⟩ := k_bind hf
          refine k_calli (wN := [(h_this, o_X9 v_kind v_worlds h_arrows h_marks v_frames v_signs h_signAt h_behind v_formulas v_failsTold v_tellsTold v_seen h_seenWhat h_seenCan v_pageLength h_page v_stage v_newKind v_newWorlds v_newFrom v_newLast v_newP v_newQ h_newArrows v_wanted v_many h_to v_pNow v_qNow h_holds h_apart v_seedNow v_keptFrame v_keptKind v_keptWorlds v_keptSeen h_keptArrows h_keptMarks h_keptWhat h_keptCan v_h), (h_arrows, o_I cZ 16 v_arrows), (h_marks, o_I cI 4 v_marks), (h_to, o_I cI 4 v_to), (h_apart, o_I cZ 16 q48.2)]) [0, 1, 2, 4] [3] [1, 2, 3, 0, 4] hP hD hS hA (va_runV (As := []) (rest := []) ⟨hx, hb, hml, hown, hts⟩ (k_X9_twinKinds l D cB cI cJ cZ tL tK h_this h_arrows h_marks h_signAt h_behind h_seenWhat h_seenCan h_page h_newArrows h_to h_holds h_apart h_keptArrows h_keptMarks h_keptWhat h_keptCan _ v_kind v_worlds v_frames v_signs v_formulas v_failsTold v_tellsTold v_seen v_pageLength v_stage v_newKind v_newWorlds v_newFrom v_newLast v_newP v_newQ v_wanted v_many v_pNow v_qNow v_seedNow v_keptFrame v_keptKind v_keptWorlds v_keptSeen v_h v_arrows v_marks v_apart q48 hq48) (cwV 0 hts (k_gV m_486 m_483 m_484 m_485 m_5) rfl rfl rfl (by decide +kernel) ⟨Nat.le_of_ble_eq_true rfl, Nat.le_of_ble_eq_true rfl⟩) (k_preV [0, 1, 2, 4] hK hN hZ hP hD hS hA rfl rfl (va_recv hK hP (ci := 8) (q0 := 0) rfl rfl)) rfl rfl hl.1 rfl (lv_room (Nat.le_of_ble_eq_true rfl)) dX9_aboutNow_48 ⟨Nat.le_refl _, Nat.le_refl _⟩) rfl rfl rfl rfl rfl (fun H locs hP hD hS => ?_)
          cases hf
          exact k_iret hx hb hr hlocks hAe hS hP hD dX9_aboutNow_51
        · replace hf := k_ifT c37 hf
          refine lv_aload_n hx hb dX9_aboutNow_40 rfl (lv_at hl 0 rfl) ?_
          obtain ⟨q41, hq41, hf⟩ := k_bind hf
          refine k_calli (wN := [(h_this, o_X9 v_kind v_worlds h_arrows h_marks v_frames v_signs h_signAt h_behind v_formulas v_failsTold v_tellsTold v_seen h_seenWhat h_seenCan v_pageLength h_page v_stage v_newKind v_newWorlds v_newFrom v_newLast v_newP v_newQ h_newArrows v_wanted q41.2.1 h_to q41.2.2.1 q41.2.2.2.1 h_holds h_apart v_seedNow v_keptFrame v_keptKind v_keptWorlds v_keptSeen h_keptArrows h_keptMarks h_keptWhat h_keptCan v_h), (h_arrows, o_I cZ 16 v_arrows), (h_marks, o_I cI 4 v_marks), (h_to, o_I cI 4 q41.2.2.2.2), (h_apart, o_I cZ 16 v_apart)]) [0, 1, 2, 3] [4] [1, 2, 3, 4, 0] hP hD hS hA (va_runV (As := []) (rest := []) ⟨hx, hb, hml, hown, hts⟩ (k_X9_fitsTold l D cB cI cJ cZ tL tK h_this h_arrows h_marks h_signAt h_behind h_seenWhat h_seenCan h_page h_newArrows h_to h_holds h_apart h_keptArrows h_keptMarks h_keptWhat h_keptCan _ v_kind v_worlds v_frames v_signs v_formulas v_failsTold v_tellsTold v_seen v_pageLength v_stage v_newKind v_newWorlds v_newFrom v_newLast v_newP v_newQ v_wanted v_many v_pNow v_qNow v_seedNow v_keptFrame v_keptKind v_keptWorlds v_keptSeen v_h v_arrows v_marks v_to q41 hq41) (cwV 0 hts (k_gV m_456 m_453 m_454 m_455 m_5) rfl rfl rfl (by decide +kernel) ⟨Nat.le_of_ble_eq_true rfl, Nat.le_of_ble_eq_true rfl⟩) (k_preV [0, 1, 2, 3] hK hN hZ hP hD hS hA rfl rfl (va_recv hK hP (ci := 8) (q0 := 0) rfl rfl)) rfl rfl hl.1 rfl (lv_room (Nat.le_of_ble_eq_true rfl)) dX9_aboutNow_41 ⟨Nat.le_refl _, Nat.le_refl _⟩) rfl rfl rfl rfl rfl (fun H locs hP hD hS => ?_)
          refine lv_goto (tgt := 51) hx hb dX9_aboutNow_44 (by decide) ?_
          cases hf
          exact k_iret hx hb hr hlocks hAe hS hP hD dX9_aboutNow_51
      · replace hf := k_ifT c25 hf
        refine lv_aload_n hx hb dX9_aboutNow_28 rfl (lv_at hl 0 rfl) ?_
        obtain ⟨q29, hq29, hf⟩ := k_bind hf
        refine k_calli (wN := [(h_this, o_X9 v_kind v_worlds h_arrows h_marks v_frames v_signs h_signAt h_behind v_formulas v_failsTold v_tellsTold v_seen h_seenWhat h_seenCan v_pageLength h_page v_stage v_newKind v_newWorlds v_newFrom v_newLast v_newP v_newQ h_newArrows v_wanted v_many h_to v_pNow v_qNow h_holds h_apart v_seedNow v_keptFrame v_keptKind v_keptWorlds v_keptSeen h_keptArrows h_keptMarks h_keptWhat h_keptCan v_h), (h_arrows, o_I cZ 16 v_arrows), (h_marks, o_I cI 4 v_marks), (h_to, o_I cI 4 v_to), (h_apart, o_I cZ 16 v_apart)]) [0, 1] [2, 3, 4] [3, 4, 0, 1, 2] hP hD hS hA (va_runV (As := []) (rest := []) ⟨hx, hb, hml, hown, hts⟩ (k_X9_allArrows l D cB cI cJ cZ tL tK h_this h_arrows h_marks h_signAt h_behind h_seenWhat h_seenCan h_page h_newArrows h_to h_holds h_apart h_keptArrows h_keptMarks h_keptWhat h_keptCan _ v_kind v_worlds v_frames v_signs v_formulas v_failsTold v_tellsTold v_seen v_pageLength v_stage v_newKind v_newWorlds v_newFrom v_newLast v_newP v_newQ v_wanted v_many v_pNow v_qNow v_seedNow v_keptFrame v_keptKind v_keptWorlds v_keptSeen v_h v_arrows q29 hq29) (cwV 0 hts (k_gV m_452 m_449 m_450 m_451 m_5) rfl rfl rfl (by decide +kernel) ⟨Nat.le_of_ble_eq_true rfl, Nat.le_of_ble_eq_true rfl⟩) (k_preV [0, 1] hK hN hZ hP hD hS hA rfl rfl (va_recv hK hP (ci := 8) (q0 := 0) rfl rfl)) rfl rfl hl.1 rfl (lv_room (Nat.le_of_ble_eq_true rfl)) dX9_aboutNow_29 ⟨Nat.le_refl _, Nat.le_refl _⟩) rfl rfl rfl rfl rfl (fun H locs hP hD hS => ?_)
        refine lv_goto (tgt := 51) hx hb dX9_aboutNow_32 (by decide) ?_
        cases hf
        exact k_iret hx hb hr hlocks hAe hS hP hD dX9_aboutNow_51
    · replace hf := k_ifT c13 hf
      refine lv_aload_n hx hb dX9_aboutNow_16 rfl (lv_at hl 0 rfl) ?_
      refine va_get (D := D) (ci := 8) (v := .int v_worlds) (C := RX9) (T := TX9) (N := 41) hx hb hts inlX9 hown hK hP 0 rfl rfl 1 (by decide) (hts _ m_319) (fun _ h9 => h9) rfl dX9_aboutNow_17 ?_
      refine lv_goto (tgt := 51) hx hb dX9_aboutNow_20 (by decide) ?_
      cases hf
      exact k_iret hx hb hr hlocks hAe hS hP hD dX9_aboutNow_51
  · replace hf := k_ifT c1 hf
    refine lv_aload_n hx hb dX9_aboutNow_4 rfl (lv_at hl 0 rfl) ?_
    refine va_get (D := D) (ci := 8) (v := .int v_kind) (C := RX9) (T := TX9) (N := 41) hx hb hts inlX9 hown hK hP 0 rfl rfl 0 (by decide) (hts _ m_318) (fun _ h9 => h9) rfl dX9_aboutNow_5 ?_
    refine lv_goto (tgt := 51) hx hb dX9_aboutNow_8 (by decide) ?_
    cases hf
    exact k_iret hx hb hr hlocks hAe hS hP hD dX9_aboutNow_51
set_option maxHeartbeats 4000000 in
set_option maxRecDepth 100000 in
theorem k_X9_about (l : Launch) (D : va_G) (cB cI cJ cZ : ClassId) (tL tK : Nat) (h_this h_arrows h_marks h_signAt h_behind h_seenWhat h_seenCan h_page h_newArrows h_to h_holds h_apart h_keptArrows h_keptMarks h_keptWhat h_keptCan : Nat) (sz : Nat) (v_kind : Int32) (v_worlds : Int32) (v_frames : Int32) (v_signs : Int32) (v_formulas : Int32) (v_failsTold : Int32) (v_tellsTold : Int32) (v_seen : Int32) (v_pageLength : Int32) (v_stage : Int32) (v_newKind : Int32) (v_newWorlds : Int32) (v_newFrom : Int32) (v_newLast : Int32) (v_newP : Int32) (v_newQ : Int32) (v_wanted : Int32) (v_many : Int32) (v_pNow : Int32) (v_qNow : Int32) (v_seedNow : Int64) (v_keptFrame : Int32) (v_keptKind : Int32) (v_keptWorlds : Int32) (v_keptSeen : Int32) (v_h : Int64) (v_arrows : (Nat → Int32)) (v_marks : (Nat → Int32)) (v_to : (Nat → Int32)) (v_apart : (Nat → Int32)) (x1 : Int32) (q : Int32 × Int32 × Int32 × Int32 × (Nat → Int32) × (Nat → Int32)) (hf : f_X9_about v_kind v_worlds v_many v_pNow v_qNow v_arrows v_marks v_to v_apart x1 = some q) : Met l yX9_about (.code yX9_about cX9_about 2 (some .int) :: k_all) { frames := 7, cells := 0, slots := 0, locals := 152 } (k_P D cB cI cJ cZ tL tK [.ref h_this, .int x1] [(h_this, o_X9 v_kind v_worlds h_arrows h_marks v_frames v_signs h_signAt h_behind v_formulas v_failsTold v_tellsTold v_seen h_seenWhat h_seenCan v_pageLength h_page v_stage v_newKind v_newWorlds v_newFrom v_newLast v_newP v_newQ h_newArrows v_wanted v_many h_to v_pNow v_qNow h_holds h_apart v_seedNow v_keptFrame v_keptKind v_keptWorlds v_keptSeen h_keptArrows h_keptMarks h_keptWhat h_keptCan v_h), (h_arrows, o_I cZ 16 v_arrows), (h_marks, o_I cI 4 v_marks), (h_to, o_I cI 4 v_to), (h_apart, o_I cZ 16 v_apart)] sz) (k_I D q.1 [(h_this, o_X9 v_kind v_worlds h_arrows h_marks v_frames v_signs h_signAt h_behind v_formulas v_failsTold v_tellsTold v_seen h_seenWhat h_seenCan v_pageLength h_page v_stage v_newKind v_newWorlds v_newFrom v_newLast v_newP v_newQ h_newArrows v_wanted v_many h_to v_pNow v_qNow h_holds h_apart v_seedNow v_keptFrame v_keptKind v_keptWorlds v_keptSeen h_keptArrows h_keptMarks h_keptWhat h_keptCan v_h), (h_arrows, o_I cZ 16 v_arrows), (h_marks, o_I cI 4 v_marks), (h_to, o_I cI 4 v_to), (h_apart, o_I cZ 16 v_apart)] [(h_this, o_X9 v_kind v_worlds h_arrows h_marks v_frames v_signs h_signAt h_behind v_formulas v_failsTold v_tellsTold v_seen h_seenWhat h_seenCan v_pageLength h_page v_stage v_newKind v_newWorlds v_newFrom v_newLast v_newP v_newQ h_newArrows v_wanted q.2.1 h_to q.2.2.1 q.2.2.2.1 h_holds h_apart v_seedNow v_keptFrame v_keptKind v_keptWorlds v_keptSeen h_keptArrows h_keptMarks h_keptWhat h_keptCan v_h), (h_arrows, o_I cZ 16 v_arrows), (h_marks, o_I cI 4 v_marks), (h_to, o_I cI 4 q.2.2.2.2.1), (h_apart, o_I cZ 16 q.2.2.2.2.2)] sz) 0 0 (va_A [(h_this, o_X9 v_kind v_worlds h_arrows h_marks v_frames v_signs h_signAt h_behind v_formulas v_failsTold v_tellsTold v_seen h_seenWhat h_seenCan v_pageLength h_page v_stage v_newKind v_newWorlds v_newFrom v_newLast v_newP v_newQ h_newArrows v_wanted v_many h_to v_pNow v_qNow h_holds h_apart v_seedNow v_keptFrame v_keptKind v_keptWorlds v_keptSeen h_keptArrows h_keptMarks h_keptWhat h_keptCan v_h), (h_arrows, o_I cZ 16 v_arrows), (h_marks, o_I cI 4 v_marks), (h_to, o_I cI 4 v_to), (h_apart, o_I cZ 16 v_apart)] sz) := by
  unfold f_X9_about at hf
  refine k_met RX9 rfl (by decide +kernel) (Nat.le_of_ble_eq_true rfl) ?_
  intro p e s m below meth c A ls hx hb hr hml hown hts hlocks hin hsz hAe hA hK hN hZ hD hS hP hl
  have hl : lv_has ls 2 [(0, .ref h_this), (1, .int x1)] := hl
  refine lv_iload_n hx hb dX9_about_0 rfl (lv_at hl 1 rfl) ?_
  refine lv_iconst (v := 0) hx hb dX9_about_1 (by decide) ?_
  refine lv_iconst (v := 4) hx hb dX9_about_2 (by decide) ?_
  refine k_calli (wN := [(h_this, o_X9 v_kind v_worlds h_arrows h_marks v_frames v_signs h_signAt h_behind v_formulas v_failsTold v_tellsTold v_seen h_seenWhat h_seenCan v_pageLength h_page v_stage v_newKind v_newWorlds v_newFrom v_newLast v_newP v_newQ h_newArrows v_wanted v_many h_to v_pNow v_qNow h_holds h_apart v_seedNow v_keptFrame v_keptKind v_keptWorlds v_keptSeen h_keptArrows h_keptMarks h_keptWhat h_keptCan v_h), (h_arrows, o_I cZ 16 v_arrows), (h_marks, o_I cI 4 v_marks), (h_to, o_I cI 4 v_to), (h_apart, o_I cZ 16 v_apart)]) [] [0, 1, 2, 3, 4] [0, 1, 2, 3, 4] hP hD hS hA (va_runS (As := [.int x1, .int 0, .int 4]) (rest := []) ⟨hx, hb, hml, hown, hts⟩ (k_X9_within l D cB cI cJ cZ tL tK _ x1 0 4 (f_X9_within x1 0 4) rfl) (va_cwS 3 hts (k_gS m_120 m_118 m_119 m_5) rfl rfl rfl (by decide +kernel) ⟨Nat.le_of_ble_eq_true rfl, Nat.le_of_ble_eq_true rfl⟩) (k_preS [] hK hN hZ hP hD hS hA rfl rfl) rfl rfl hl.1 rfl (lv_room (Nat.le_of_ble_eq_true rfl)) dX9_about_3 ⟨Nat.le_refl _, Nat.le_refl _⟩) rfl rfl rfl rfl rfl (fun H locs hP hD hS => ?_)
  refine lv_if_ne (tgt := 12) hx hb dX9_about_6 (by decide) (fun c6 => ?_) (fun c6 => ?_)
  · replace hf := k_ifF c6 hf
    refine lv_aload_n hx hb dX9_about_12 rfl (lv_at hl 0 rfl) ?_
    refine k_calli (wN := [(h_this, o_X9 v_kind v_worlds h_arrows h_marks v_frames v_signs h_signAt h_behind v_formulas v_failsTold v_tellsTold v_seen h_seenWhat h_seenCan v_pageLength h_page v_stage v_newKind v_newWorlds v_newFrom v_newLast v_newP v_newQ h_newArrows v_wanted v_many h_to v_pNow v_qNow h_holds h_apart v_seedNow v_keptFrame v_keptKind v_keptWorlds v_keptSeen h_keptArrows h_keptMarks h_keptWhat h_keptCan v_h), (h_arrows, o_I cZ 16 v_arrows), (h_marks, o_I cI 4 v_marks), (h_to, o_I cI 4 v_to), (h_apart, o_I cZ 16 v_apart)]) [0] [1, 2, 3, 4] [4, 0, 1, 2, 3] hP hD hS hA (va_runV (As := []) (rest := []) ⟨hx, hb, hml, hown, hts⟩ (k_X9_isFrame l D cB cI cJ cZ tL tK h_this h_arrows h_marks h_signAt h_behind h_seenWhat h_seenCan h_page h_newArrows h_to h_holds h_apart h_keptArrows h_keptMarks h_keptWhat h_keptCan _ v_kind v_worlds v_frames v_signs v_formulas v_failsTold v_tellsTold v_seen v_pageLength v_stage v_newKind v_newWorlds v_newFrom v_newLast v_newP v_newQ v_wanted v_many v_pNow v_qNow v_seedNow v_keptFrame v_keptKind v_keptWorlds v_keptSeen v_h (f_X9_isFrame v_worlds) rfl) (cwV 0 hts (k_gV m_444 m_441 m_442 m_443 m_5) rfl rfl rfl (by decide +kernel) ⟨Nat.le_of_ble_eq_true rfl, Nat.le_of_ble_eq_true rfl⟩) (k_preV [0] hK hN hZ hP hD hS hA rfl rfl (va_recv hK hP (ci := 8) (q0 := 0) rfl rfl)) rfl rfl hl.1 rfl (lv_room (Nat.le_of_ble_eq_true rfl)) dX9_about_13 ⟨Nat.le_refl _, Nat.le_refl _⟩) rfl rfl rfl rfl rfl (fun H locs hP hD hS => ?_)
    refine lv_if_eq (tgt := 27) hx hb dX9_about_16 (by decide) (fun c16 => ?_) (fun c16 => ?_)
    · replace hf := k_ifT c16 hf
      refine lv_bipush (v := (-103)) hx hb dX9_about_27 (by decide) ?_
      cases hf
      exact k_iret hx hb hr hlocks hAe hS hP hD dX9_about_29
    · replace hf := k_ifF c16 hf
      refine lv_aload_n hx hb dX9_about_19 rfl (lv_at hl 0 rfl) ?_
      refine lv_iload_n hx hb dX9_about_20 rfl (lv_at hl 1 rfl) ?_
      obtain ⟨q21, hq21, hf⟩ := k_bind hf
      refine k_calli (wN := [(h_this, o_X9 v_kind v_worlds h_arrows h_marks v_frames v_signs h_signAt h_behind v_formulas v_failsTold v_tellsTold v_seen h_seenWhat h_seenCan v_pageLength h_page v_stage v_newKind v_newWorlds v_newFrom v_newLast v_newP v_newQ h_newArrows v_wanted q21.2.1 h_to q21.2.2.1 q21.2.2.2.1 h_holds h_apart v_seedNow v_keptFrame v_keptKind v_keptWorlds v_keptSeen h_keptArrows h_keptMarks h_keptWhat h_keptCan v_h), (h_arrows, o_I cZ 16 v_arrows), (h_marks, o_I cI 4 v_marks), (h_to, o_I cI 4 q21.2.2.2.2.1), (h_apart, o_I cZ 16 q21.2.2.2.2.2)]) [0, 1, 2, 3, 4] [] [0, 1, 2, 3, 4] hP hD hS hA (va_runV (As := [.int x1]) (rest := []) ⟨hx, hb, hml, hown, hts⟩ (k_X9_aboutNow l D cB cI cJ cZ tL tK h_this h_arrows h_marks h_signAt h_behind h_seenWhat h_seenCan h_page h_newArrows h_to h_holds h_apart h_keptArrows h_keptMarks h_keptWhat h_keptCan _ v_kind v_worlds v_frames v_signs v_formulas v_failsTold v_tellsTold v_seen v_pageLength v_stage v_newKind v_newWorlds v_newFrom v_newLast v_newP v_newQ v_wanted v_many v_pNow v_qNow v_seedNow v_keptFrame v_keptKind v_keptWorlds v_keptSeen v_h v_arrows v_marks v_to v_apart x1 q21 hq21) (cwV 1 hts (k_gV m_448 m_445 m_446 m_447 m_5) rfl rfl rfl (by decide +kernel) ⟨Nat.le_of_ble_eq_true rfl, Nat.le_of_ble_eq_true rfl⟩) (k_preV [0, 1, 2, 3, 4] hK hN hZ hP hD hS hA rfl rfl (va_recv hK hP (ci := 8) (q0 := 0) rfl rfl)) rfl rfl hl.1 rfl (lv_room (Nat.le_of_ble_eq_true rfl)) dX9_about_21 ⟨Nat.le_refl _, Nat.le_refl _⟩) rfl rfl rfl rfl rfl (fun H locs hP hD hS => ?_)
      refine lv_goto (tgt := 29) hx hb dX9_about_24 (by decide) ?_
      cases hf
      exact k_iret hx hb hr hlocks hAe hS hP hD dX9_about_29
  · replace hf := k_ifT c6 hf
    refine lv_bipush (v := (-102)) hx hb dX9_about_9 (by decide) ?_
    cases hf
    exact k_iret hx hb hr hlocks hAe hS hP hD dX9_about_11
set_option maxHeartbeats 4000000 in
set_option maxRecDepth 100000 in
theorem k_X9_isKind (l : Launch) (D : va_G) (cB cI cJ cZ : ClassId) (tL tK : Nat) (sz : Nat)  (x1 : Int32) (q : Int32) (hf : f_X9_isKind x1 = some q) : Met l yX9_isKind (.code yX9_isKind cX9_isKind 1 (some .boolean) :: k_all) { frames := 1, cells := 0, slots := 0, locals := 22 } (k_P D cB cI cJ cZ tL tK [.int x1] [] sz) (k_I D q [] [] sz) 0 0 (va_A [] sz) := by
  unfold f_X9_isKind at hf
  refine k_met RX9 rfl (by decide +kernel) (Nat.le_of_ble_eq_true rfl) ?_
  intro p e s m below meth c A ls hx hb hr hml hown hts hlocks hin hsz hAe hA hK hN hZ hD hS hP hl
  have hl : lv_has ls 1 [(0, .int x1)] := hl
  refine lv_iload_n hx hb dX9_isKind_0 rfl (lv_at hl 0 rfl) ?_
  refine lv_iconst (v := 0) hx hb dX9_isKind_1 (by decide) ?_
  refine lv_iconst (v := 4) hx hb dX9_isKind_2 (by decide) ?_
  refine k_calli (wN := []) [] [] [] hP hD hS hA (va_runS (As := [.int x1, .int 0, .int 4]) (rest := []) ⟨hx, hb, hml, hown, hts⟩ (k_X9_within l D cB cI cJ cZ tL tK _ x1 0 4 (f_X9_within x1 0 4) rfl) (va_cwS 3 hts (k_gS m_120 m_118 m_119 m_5) rfl rfl rfl (by decide +kernel) ⟨Nat.le_of_ble_eq_true rfl, Nat.le_of_ble_eq_true rfl⟩) (k_preS [] hK hN hZ hP hD hS hA rfl rfl) rfl rfl hl.1 rfl (lv_room (Nat.le_of_ble_eq_true rfl)) dX9_isKind_3 ⟨Nat.le_refl _, Nat.le_refl _⟩) rfl rfl rfl rfl rfl (fun H locs hP hD hS => ?_)
  obtain ⟨hbl, hf⟩ := k_bl_some hf
  cases hf
  exact k_zret hx hb hr (k_bn hbl) hlocks hAe hS hP hD dX9_isKind_6
set_option maxHeartbeats 4000000 in
set_option maxRecDepth 100000 in
theorem k_X9_as (l : Launch) (D : va_G) (cB cI cJ cZ : ClassId) (tL tK : Nat) (h_this h_arrows h_marks h_signAt h_behind h_seenWhat h_seenCan h_page h_newArrows h_to h_holds h_apart h_keptArrows h_keptMarks h_keptWhat h_keptCan : Nat) (sz : Nat) (v_kind : Int32) (v_worlds : Int32) (v_frames : Int32) (v_signs : Int32) (v_formulas : Int32) (v_failsTold : Int32) (v_tellsTold : Int32) (v_seen : Int32) (v_pageLength : Int32) (v_stage : Int32) (v_newKind : Int32) (v_newWorlds : Int32) (v_newFrom : Int32) (v_newLast : Int32) (v_newP : Int32) (v_newQ : Int32) (v_wanted : Int32) (v_many : Int32) (v_pNow : Int32) (v_qNow : Int32) (v_seedNow : Int64) (v_keptFrame : Int32) (v_keptKind : Int32) (v_keptWorlds : Int32) (v_keptSeen : Int32) (v_h : Int64) (x1 : Int32) (q : Int32) (hf : f_X9_as v_kind v_worlds x1 = some q) : Met l yX9_as (.code yX9_as cX9_as 2 (some .int) :: k_all) { frames := 2, cells := 0, slots := 0, locals := 42 } (k_P D cB cI cJ cZ tL tK [.ref h_this, .int x1] [(h_this, o_X9 v_kind v_worlds h_arrows h_marks v_frames v_signs h_signAt h_behind v_formulas v_failsTold v_tellsTold v_seen h_seenWhat h_seenCan v_pageLength h_page v_stage v_newKind v_newWorlds v_newFrom v_newLast v_newP v_newQ h_newArrows v_wanted v_many h_to v_pNow v_qNow h_holds h_apart v_seedNow v_keptFrame v_keptKind v_keptWorlds v_keptSeen h_keptArrows h_keptMarks h_keptWhat h_keptCan v_h)] sz) (k_I D q [(h_this, o_X9 v_kind v_worlds h_arrows h_marks v_frames v_signs h_signAt h_behind v_formulas v_failsTold v_tellsTold v_seen h_seenWhat h_seenCan v_pageLength h_page v_stage v_newKind v_newWorlds v_newFrom v_newLast v_newP v_newQ h_newArrows v_wanted v_many h_to v_pNow v_qNow h_holds h_apart v_seedNow v_keptFrame v_keptKind v_keptWorlds v_keptSeen h_keptArrows h_keptMarks h_keptWhat h_keptCan v_h)] [(h_this, o_X9 v_kind v_worlds h_arrows h_marks v_frames v_signs h_signAt h_behind v_formulas v_failsTold v_tellsTold v_seen h_seenWhat h_seenCan v_pageLength h_page v_stage v_newKind v_newWorlds v_newFrom v_newLast v_newP v_newQ h_newArrows v_wanted v_many h_to v_pNow v_qNow h_holds h_apart v_seedNow v_keptFrame v_keptKind v_keptWorlds v_keptSeen h_keptArrows h_keptMarks h_keptWhat h_keptCan v_h)] sz) 0 0 (va_A [(h_this, o_X9 v_kind v_worlds h_arrows h_marks v_frames v_signs h_signAt h_behind v_formulas v_failsTold v_tellsTold v_seen h_seenWhat h_seenCan v_pageLength h_page v_stage v_newKind v_newWorlds v_newFrom v_newLast v_newP v_newQ h_newArrows v_wanted v_many h_to v_pNow v_qNow h_holds h_apart v_seedNow v_keptFrame v_keptKind v_keptWorlds v_keptSeen h_keptArrows h_keptMarks h_keptWhat h_keptCan v_h)] sz) := by
  unfold f_X9_as at hf
  refine k_met RX9 rfl (by decide +kernel) (Nat.le_of_ble_eq_true rfl) ?_
  intro p e s m below meth c A ls hx hb hr hml hown hts hlocks hin hsz hAe hA hK hN hZ hD hS hP hl
  have hl : lv_has ls 2 [(0, .ref h_this), (1, .int x1)] := hl
  refine lv_iload_n hx hb dX9_as_0 rfl (lv_at hl 1 rfl) ?_
  obtain ⟨q1, hq1, hf⟩ := k_bind hf
  refine k_calli (wN := [(h_this, o_X9 v_kind v_worlds h_arrows h_marks v_frames v_signs h_signAt h_behind v_formulas v_failsTold v_tellsTold v_seen h_seenWhat h_seenCan v_pageLength h_page v_stage v_newKind v_newWorlds v_newFrom v_newLast v_newP v_newQ h_newArrows v_wanted v_many h_to v_pNow v_qNow h_holds h_apart v_seedNow v_keptFrame v_keptKind v_keptWorlds v_keptSeen h_keptArrows h_keptMarks h_keptWhat h_keptCan v_h)]) [] [0] [0] hP hD hS hA (va_runS (As := [.int x1]) (rest := []) ⟨hx, hb, hml, hown, hts⟩ (k_X9_isKind l D cB cI cJ cZ tL tK _ x1 q1 hq1) (va_cwS 1 hts (k_gS m_512 m_510 m_511 m_5) rfl rfl rfl (by decide +kernel) ⟨Nat.le_of_ble_eq_true rfl, Nat.le_of_ble_eq_true rfl⟩) (k_preS [] hK hN hZ hP hD hS hA rfl rfl) rfl rfl hl.1 rfl (lv_room (Nat.le_of_ble_eq_true rfl)) dX9_as_1 ⟨Nat.le_refl _, Nat.le_refl _⟩) rfl rfl rfl rfl rfl (fun H locs hP hD hS => ?_)
  refine lv_if_ne (tgt := 10) hx hb dX9_as_4 (by decide) (fun c4 => ?_) (fun c4 => ?_)
  · replace hf := k_ifF c4 hf
    refine lv_aload_n hx hb dX9_as_10 rfl (lv_at hl 0 rfl) ?_
    refine k_calli (wN := [(h_this, o_X9 v_kind v_worlds h_arrows h_marks v_frames v_signs h_signAt h_behind v_formulas v_failsTold v_tellsTold v_seen h_seenWhat h_seenCan v_pageLength h_page v_stage v_newKind v_newWorlds v_newFrom v_newLast v_newP v_newQ h_newArrows v_wanted v_many h_to v_pNow v_qNow h_holds h_apart v_seedNow v_keptFrame v_keptKind v_keptWorlds v_keptSeen h_keptArrows h_keptMarks h_keptWhat h_keptCan v_h)]) [0] [] [0] hP hD hS hA (va_runV (As := []) (rest := []) ⟨hx, hb, hml, hown, hts⟩ (k_X9_isFrame l D cB cI cJ cZ tL tK h_this h_arrows h_marks h_signAt h_behind h_seenWhat h_seenCan h_page h_newArrows h_to h_holds h_apart h_keptArrows h_keptMarks h_keptWhat h_keptCan _ v_kind v_worlds v_frames v_signs v_formulas v_failsTold v_tellsTold v_seen v_pageLength v_stage v_newKind v_newWorlds v_newFrom v_newLast v_newP v_newQ v_wanted v_many v_pNow v_qNow v_seedNow v_keptFrame v_keptKind v_keptWorlds v_keptSeen v_h (f_X9_isFrame v_worlds) rfl) (cwV 0 hts (k_gV m_444 m_441 m_442 m_443 m_5) rfl rfl rfl (by decide +kernel) ⟨Nat.le_of_ble_eq_true rfl, Nat.le_of_ble_eq_true rfl⟩) (k_preV [0] hK hN hZ hP hD hS hA rfl rfl (va_recv hK hP (ci := 8) (q0 := 0) rfl rfl)) rfl rfl hl.1 rfl (lv_room (Nat.le_of_ble_eq_true rfl)) dX9_as_11 ⟨Nat.le_refl _, Nat.le_refl _⟩) rfl rfl rfl rfl rfl (fun H locs hP hD hS => ?_)
    refine lv_if_ne (tgt := 20) hx hb dX9_as_14 (by decide) (fun c14 => ?_) (fun c14 => ?_)
    · replace hf := k_ifF c14 hf
      refine lv_iload_n hx hb dX9_as_20 rfl (lv_at hl 1 rfl) ?_
      refine lv_if_eq (tgt := 45) hx hb dX9_as_21 (by decide) (fun c21 => ?_) (fun c21 => ?_)
      · replace hf := k_ifT c21 hf
        refine lv_aload_n hx hb dX9_as_45 rfl (lv_at hl 0 rfl) ?_
        refine va_get (D := D) (ci := 8) (v := .int v_kind) (C := RX9) (T := TX9) (N := 41) hx hb hts inlX9 hown hK hP 0 rfl rfl 0 (by decide) (hts _ m_318) (fun _ h9 => h9) rfl dX9_as_46 ?_
        refine lv_goto (tgt := 53) hx hb dX9_as_49 (by decide) ?_
        cases hf
        exact k_iret hx hb hr hlocks hAe hS hP hD dX9_as_53
      · replace hf := k_ifF c21 hf
        refine lv_iload_n hx hb dX9_as_24 rfl (lv_at hl 1 rfl) ?_
        refine lv_aload_n hx hb dX9_as_25 rfl (lv_at hl 0 rfl) ?_
        refine va_get (D := D) (ci := 8) (v := .int v_kind) (C := RX9) (T := TX9) (N := 41) hx hb hts inlX9 hown hK hP 0 rfl rfl 0 (by decide) (hts _ m_318) (fun _ h9 => h9) rfl dX9_as_26 ?_
        refine lv_icmp_eq (tgt := 45) hx hb dX9_as_29 (by decide) (fun c29 => ?_) (fun c29 => ?_)
        · replace hf := k_ifT c29 hf
          refine lv_aload_n hx hb dX9_as_45 rfl (lv_at hl 0 rfl) ?_
          refine va_get (D := D) (ci := 8) (v := .int v_kind) (C := RX9) (T := TX9) (N := 41) hx hb hts inlX9 hown hK hP 0 rfl rfl 0 (by decide) (hts _ m_318) (fun _ h9 => h9) rfl dX9_as_46 ?_
          refine lv_goto (tgt := 53) hx hb dX9_as_49 (by decide) ?_
          cases hf
          exact k_iret hx hb hr hlocks hAe hS hP hD dX9_as_53
        · replace hf := k_ifF c29 hf
          refine lv_iload_n hx hb dX9_as_32 rfl (lv_at hl 1 rfl) ?_
          refine lv_iconst (v := 1) hx hb dX9_as_33 (by decide) ?_
          refine lv_icmp_ne (tgt := 52) hx hb dX9_as_34 (by decide) (fun c34 => ?_) (fun c34 => ?_)
          · replace hf := k_ifF c34 hf
            refine lv_iconst (v := (-1)) hx hb dX9_as_52 (by decide) ?_
            cases hf
            exact k_iret hx hb hr hlocks hAe hS hP hD dX9_as_53
          · replace hf := k_ifT c34 hf
            refine lv_aload_n hx hb dX9_as_37 rfl (lv_at hl 0 rfl) ?_
            refine va_get (D := D) (ci := 8) (v := .int v_kind) (C := RX9) (T := TX9) (N := 41) hx hb hts inlX9 hown hK hP 0 rfl rfl 0 (by decide) (hts _ m_318) (fun _ h9 => h9) rfl dX9_as_38 ?_
            refine lv_iconst (v := 2) hx hb dX9_as_41 (by decide) ?_
            refine lv_icmp_ne (tgt := 52) hx hb dX9_as_42 (by decide) (fun c42 => ?_) (fun c42 => ?_)
            · replace hf := k_ifF c42 hf
              refine lv_iconst (v := (-1)) hx hb dX9_as_52 (by decide) ?_
              cases hf
              exact k_iret hx hb hr hlocks hAe hS hP hD dX9_as_53
            · replace hf := k_ifT c42 hf
              refine lv_aload_n hx hb dX9_as_45 rfl (lv_at hl 0 rfl) ?_
              refine va_get (D := D) (ci := 8) (v := .int v_kind) (C := RX9) (T := TX9) (N := 41) hx hb hts inlX9 hown hK hP 0 rfl rfl 0 (by decide) (hts _ m_318) (fun _ h9 => h9) rfl dX9_as_46 ?_
              refine lv_goto (tgt := 53) hx hb dX9_as_49 (by decide) ?_
              cases hf
              exact k_iret hx hb hr hlocks hAe hS hP hD dX9_as_53
    · replace hf := k_ifT c14 hf
      refine lv_bipush (v := (-103)) hx hb dX9_as_17 (by decide) ?_
      cases hf
      exact k_iret hx hb hr hlocks hAe hS hP hD dX9_as_19
  · replace hf := k_ifT c4 hf
    refine lv_bipush (v := (-102)) hx hb dX9_as_7 (by decide) ?_
    cases hf
    exact k_iret hx hb hr hlocks hAe hS hP hD dX9_as_9
set_option maxHeartbeats 4000000 in
set_option maxRecDepth 100000 in
theorem k_X9_isWorld (l : Launch) (D : va_G) (cB cI cJ cZ : ClassId) (tL tK : Nat) (h_this h_arrows h_marks h_signAt h_behind h_seenWhat h_seenCan h_page h_newArrows h_to h_holds h_apart h_keptArrows h_keptMarks h_keptWhat h_keptCan : Nat) (sz : Nat) (v_kind : Int32) (v_worlds : Int32) (v_frames : Int32) (v_signs : Int32) (v_formulas : Int32) (v_failsTold : Int32) (v_tellsTold : Int32) (v_seen : Int32) (v_pageLength : Int32) (v_stage : Int32) (v_newKind : Int32) (v_newWorlds : Int32) (v_newFrom : Int32) (v_newLast : Int32) (v_newP : Int32) (v_newQ : Int32) (v_wanted : Int32) (v_many : Int32) (v_pNow : Int32) (v_qNow : Int32) (v_seedNow : Int64) (v_keptFrame : Int32) (v_keptKind : Int32) (v_keptWorlds : Int32) (v_keptSeen : Int32) (v_h : Int64) (x1 : Int32) (q : Int32) (hf : f_X9_isWorld v_worlds x1 = some q) : Met l yX9_isWorld (.code yX9_isWorld cX9_isWorld 2 (some .boolean) :: k_all) { frames := 1, cells := 0, slots := 0, locals := 22 } (k_P D cB cI cJ cZ tL tK [.ref h_this, .int x1] [(h_this, o_X9 v_kind v_worlds h_arrows h_marks v_frames v_signs h_signAt h_behind v_formulas v_failsTold v_tellsTold v_seen h_seenWhat h_seenCan v_pageLength h_page v_stage v_newKind v_newWorlds v_newFrom v_newLast v_newP v_newQ h_newArrows v_wanted v_many h_to v_pNow v_qNow h_holds h_apart v_seedNow v_keptFrame v_keptKind v_keptWorlds v_keptSeen h_keptArrows h_keptMarks h_keptWhat h_keptCan v_h)] sz) (k_I D q [(h_this, o_X9 v_kind v_worlds h_arrows h_marks v_frames v_signs h_signAt h_behind v_formulas v_failsTold v_tellsTold v_seen h_seenWhat h_seenCan v_pageLength h_page v_stage v_newKind v_newWorlds v_newFrom v_newLast v_newP v_newQ h_newArrows v_wanted v_many h_to v_pNow v_qNow h_holds h_apart v_seedNow v_keptFrame v_keptKind v_keptWorlds v_keptSeen h_keptArrows h_keptMarks h_keptWhat h_keptCan v_h)] [(h_this, o_X9 v_kind v_worlds h_arrows h_marks v_frames v_signs h_signAt h_behind v_formulas v_failsTold v_tellsTold v_seen h_seenWhat h_seenCan v_pageLength h_page v_stage v_newKind v_newWorlds v_newFrom v_newLast v_newP v_newQ h_newArrows v_wanted v_many h_to v_pNow v_qNow h_holds h_apart v_seedNow v_keptFrame v_keptKind v_keptWorlds v_keptSeen h_keptArrows h_keptMarks h_keptWhat h_keptCan v_h)] sz) 0 0 (va_A [(h_this, o_X9 v_kind v_worlds h_arrows h_marks v_frames v_signs h_signAt h_behind v_formulas v_failsTold v_tellsTold v_seen h_seenWhat h_seenCan v_pageLength h_page v_stage v_newKind v_newWorlds v_newFrom v_newLast v_newP v_newQ h_newArrows v_wanted v_many h_to v_pNow v_qNow h_holds h_apart v_seedNow v_keptFrame v_keptKind v_keptWorlds v_keptSeen h_keptArrows h_keptMarks h_keptWhat h_keptCan v_h)] sz) := by
  unfold f_X9_isWorld at hf
  refine k_met RX9 rfl (by decide +kernel) (Nat.le_of_ble_eq_true rfl) ?_
  intro p e s m below meth c A ls hx hb hr hml hown hts hlocks hin hsz hAe hA hK hN hZ hD hS hP hl
  have hl : lv_has ls 2 [(0, .ref h_this), (1, .int x1)] := hl
  refine lv_iload_n hx hb dX9_isWorld_0 rfl (lv_at hl 1 rfl) ?_
  refine lv_iconst (v := 0) hx hb dX9_isWorld_1 (by decide) ?_
  refine lv_aload_n hx hb dX9_isWorld_2 rfl (lv_at hl 0 rfl) ?_
  refine va_get (D := D) (ci := 8) (v := .int v_worlds) (C := RX9) (T := TX9) (N := 41) hx hb hts inlX9 hown hK hP 0 rfl rfl 1 (by decide) (hts _ m_319) (fun _ h9 => h9) rfl dX9_isWorld_3 ?_
  refine lv_iconst (v := 1) hx hb dX9_isWorld_6 (by decide) ?_
  refine lv_isub hx hb dX9_isWorld_7 ?_
  refine k_calli (wN := [(h_this, o_X9 v_kind v_worlds h_arrows h_marks v_frames v_signs h_signAt h_behind v_formulas v_failsTold v_tellsTold v_seen h_seenWhat h_seenCan v_pageLength h_page v_stage v_newKind v_newWorlds v_newFrom v_newLast v_newP v_newQ h_newArrows v_wanted v_many h_to v_pNow v_qNow h_holds h_apart v_seedNow v_keptFrame v_keptKind v_keptWorlds v_keptSeen h_keptArrows h_keptMarks h_keptWhat h_keptCan v_h)]) [] [0] [0] hP hD hS hA (va_runS (As := [.int x1, .int 0, .int (v_worlds - 1)]) (rest := []) ⟨hx, hb, hml, hown, hts⟩ (k_X9_within l D cB cI cJ cZ tL tK _ x1 0 (v_worlds - 1) (f_X9_within x1 0 (v_worlds - 1)) rfl) (va_cwS 3 hts (k_gS m_120 m_118 m_119 m_5) rfl rfl rfl (by decide +kernel) ⟨Nat.le_of_ble_eq_true rfl, Nat.le_of_ble_eq_true rfl⟩) (k_preS [] hK hN hZ hP hD hS hA rfl rfl) rfl rfl hl.1 rfl (lv_room (Nat.le_of_ble_eq_true rfl)) dX9_isWorld_8 ⟨Nat.le_refl _, Nat.le_refl _⟩) rfl rfl rfl rfl rfl (fun H locs hP hD hS => ?_)
  obtain ⟨hbl, hf⟩ := k_bl_some hf
  cases hf
  exact k_zret hx hb hr (k_bn hbl) hlocks hAe hS hP hD dX9_isWorld_11
set_option maxHeartbeats 4000000 in
set_option maxRecDepth 100000 in
theorem k_X9_isFormula (l : Launch) (D : va_G) (cB cI cJ cZ : ClassId) (tL tK : Nat) (h_this h_arrows h_marks h_signAt h_behind h_seenWhat h_seenCan h_page h_newArrows h_to h_holds h_apart h_keptArrows h_keptMarks h_keptWhat h_keptCan : Nat) (sz : Nat) (v_kind : Int32) (v_worlds : Int32) (v_frames : Int32) (v_signs : Int32) (v_formulas : Int32) (v_failsTold : Int32) (v_tellsTold : Int32) (v_seen : Int32) (v_pageLength : Int32) (v_stage : Int32) (v_newKind : Int32) (v_newWorlds : Int32) (v_newFrom : Int32) (v_newLast : Int32) (v_newP : Int32) (v_newQ : Int32) (v_wanted : Int32) (v_many : Int32) (v_pNow : Int32) (v_qNow : Int32) (v_seedNow : Int64) (v_keptFrame : Int32) (v_keptKind : Int32) (v_keptWorlds : Int32) (v_keptSeen : Int32) (v_h : Int64)  (q : Int32) (hf : f_X9_isFormula v_signs = q) : Met l yX9_isFormula (.code yX9_isFormula cX9_isFormula 1 (some .boolean) :: k_all) { frames := 0, cells := 0, slots := 0, locals := 0 } (k_P D cB cI cJ cZ tL tK [.ref h_this] [(h_this, o_X9 v_kind v_worlds h_arrows h_marks v_frames v_signs h_signAt h_behind v_formulas v_failsTold v_tellsTold v_seen h_seenWhat h_seenCan v_pageLength h_page v_stage v_newKind v_newWorlds v_newFrom v_newLast v_newP v_newQ h_newArrows v_wanted v_many h_to v_pNow v_qNow h_holds h_apart v_seedNow v_keptFrame v_keptKind v_keptWorlds v_keptSeen h_keptArrows h_keptMarks h_keptWhat h_keptCan v_h)] sz) (k_I D q [(h_this, o_X9 v_kind v_worlds h_arrows h_marks v_frames v_signs h_signAt h_behind v_formulas v_failsTold v_tellsTold v_seen h_seenWhat h_seenCan v_pageLength h_page v_stage v_newKind v_newWorlds v_newFrom v_newLast v_newP v_newQ h_newArrows v_wanted v_many h_to v_pNow v_qNow h_holds h_apart v_seedNow v_keptFrame v_keptKind v_keptWorlds v_keptSeen h_keptArrows h_keptMarks h_keptWhat h_keptCan v_h)] [(h_this, o_X9 v_kind v_worlds h_arrows h_marks v_frames v_signs h_signAt h_behind v_formulas v_failsTold v_tellsTold v_seen h_seenWhat h_seenCan v_pageLength h_page v_stage v_newKind v_newWorlds v_newFrom v_newLast v_newP v_newQ h_newArrows v_wanted v_many h_to v_pNow v_qNow h_holds h_apart v_seedNow v_keptFrame v_keptKind v_keptWorlds v_keptSeen h_keptArrows h_keptMarks h_keptWhat h_keptCan v_h)] sz) 0 0 (va_A [(h_this, o_X9 v_kind v_worlds h_arrows h_marks v_frames v_signs h_signAt h_behind v_formulas v_failsTold v_tellsTold v_seen h_seenWhat h_seenCan v_pageLength h_page v_stage v_newKind v_newWorlds v_newFrom v_newLast v_newP v_newQ h_newArrows v_wanted v_many h_to v_pNow v_qNow h_holds h_apart v_seedNow v_keptFrame v_keptKind v_keptWorlds v_keptSeen h_keptArrows h_keptMarks h_keptWhat h_keptCan v_h)] sz) := by
  unfold f_X9_isFormula at hf
  refine k_met RX9 rfl (by decide +kernel) (Nat.le_of_ble_eq_true rfl) ?_
  intro p e s m below meth c A ls hx hb hr hml hown hts hlocks hin hsz hAe hA hK hN hZ hD hS hP hl
  have hl : lv_has ls 1 [(0, .ref h_this)] := hl
  refine lv_aload_n hx hb dX9_isFormula_0 rfl (lv_at hl 0 rfl) ?_
  refine va_get (D := D) (ci := 8) (v := .int v_signs) (C := RX9) (T := TX9) (N := 41) hx hb hts inlX9 hown hK hP 0 rfl rfl 5 (by decide) (hts _ m_358) (fun _ h9 => h9) rfl dX9_isFormula_1 ?_
  refine lv_if_le (tgt := 11) hx hb dX9_isFormula_4 (by decide) (fun c4 => ?_) (fun c4 => ?_)
  · replace hf := k_ifT c4 hf
    refine lv_iconst (v := 0) hx hb dX9_isFormula_11 (by decide) ?_
    subst hf
    exact k_zret (r := 0) hx hb hr rfl hlocks hAe hS hP hD dX9_isFormula_12
  · replace hf := k_ifF c4 hf
    refine lv_iconst (v := 1) hx hb dX9_isFormula_7 (by decide) ?_
    refine lv_goto (tgt := 12) hx hb dX9_isFormula_8 (by decide) ?_
    subst hf
    exact k_zret (r := 1) hx hb hr rfl hlocks hAe hS hP hD dX9_isFormula_12
set_option maxHeartbeats 4000000 in
set_option maxRecDepth 100000 in
theorem k_X9_must (l : Launch) (D : va_G) (cB cI cJ cZ : ClassId) (tL tK : Nat) (h_this h_arrows h_marks h_signAt h_behind h_seenWhat h_seenCan h_page h_newArrows h_to h_holds h_apart h_keptArrows h_keptMarks h_keptWhat h_keptCan : Nat) (sz : Nat) (v_kind : Int32) (v_worlds : Int32) (v_frames : Int32) (v_signs : Int32) (v_formulas : Int32) (v_failsTold : Int32) (v_tellsTold : Int32) (v_seen : Int32) (v_pageLength : Int32) (v_stage : Int32) (v_newKind : Int32) (v_newWorlds : Int32) (v_newFrom : Int32) (v_newLast : Int32) (v_newP : Int32) (v_newQ : Int32) (v_wanted : Int32) (v_many : Int32) (v_pNow : Int32) (v_qNow : Int32) (v_seedNow : Int64) (v_keptFrame : Int32) (v_keptKind : Int32) (v_keptWorlds : Int32) (v_keptSeen : Int32) (v_h : Int64) (v_to : (Nat → Int32)) (x1 : Int32) (q : Int32) (hf : f_X9_must v_many v_to x1 = some q) : Met l yX9_must (.code yX9_must cX9_must 4 (some .int) :: k_all) { frames := 0, cells := 0, slots := 0, locals := 0 } (k_P D cB cI cJ cZ tL tK [.ref h_this, .int x1] [(h_this, o_X9 v_kind v_worlds h_arrows h_marks v_frames v_signs h_signAt h_behind v_formulas v_failsTold v_tellsTold v_seen h_seenWhat h_seenCan v_pageLength h_page v_stage v_newKind v_newWorlds v_newFrom v_newLast v_newP v_newQ h_newArrows v_wanted v_many h_to v_pNow v_qNow h_holds h_apart v_seedNow v_keptFrame v_keptKind v_keptWorlds v_keptSeen h_keptArrows h_keptMarks h_keptWhat h_keptCan v_h), (h_to, o_I cI 4 v_to)] sz) (k_I D q [(h_this, o_X9 v_kind v_worlds h_arrows h_marks v_frames v_signs h_signAt h_behind v_formulas v_failsTold v_tellsTold v_seen h_seenWhat h_seenCan v_pageLength h_page v_stage v_newKind v_newWorlds v_newFrom v_newLast v_newP v_newQ h_newArrows v_wanted v_many h_to v_pNow v_qNow h_holds h_apart v_seedNow v_keptFrame v_keptKind v_keptWorlds v_keptSeen h_keptArrows h_keptMarks h_keptWhat h_keptCan v_h), (h_to, o_I cI 4 v_to)] [(h_this, o_X9 v_kind v_worlds h_arrows h_marks v_frames v_signs h_signAt h_behind v_formulas v_failsTold v_tellsTold v_seen h_seenWhat h_seenCan v_pageLength h_page v_stage v_newKind v_newWorlds v_newFrom v_newLast v_newP v_newQ h_newArrows v_wanted v_many h_to v_pNow v_qNow h_holds h_apart v_seedNow v_keptFrame v_keptKind v_keptWorlds v_keptSeen h_keptArrows h_keptMarks h_keptWhat h_keptCan v_h), (h_to, o_I cI 4 v_to)] sz) 0 0 (va_A [(h_this, o_X9 v_kind v_worlds h_arrows h_marks v_frames v_signs h_signAt h_behind v_formulas v_failsTold v_tellsTold v_seen h_seenWhat h_seenCan v_pageLength h_page v_stage v_newKind v_newWorlds v_newFrom v_newLast v_newP v_newQ h_newArrows v_wanted v_many h_to v_pNow v_qNow h_holds h_apart v_seedNow v_keptFrame v_keptKind v_keptWorlds v_keptSeen h_keptArrows h_keptMarks h_keptWhat h_keptCan v_h), (h_to, o_I cI 4 v_to)] sz) := by
  unfold f_X9_must at hf
  refine k_met RX9 rfl (by decide +kernel) (Nat.le_of_ble_eq_true rfl) ?_
  intro p e s m below meth c A ls hx hb hr hml hown hts hlocks hin hsz hAe hA hK hN hZ hD hS hP hl
  have hl : lv_has ls 4 [(0, .ref h_this), (1, .int x1)] := hl
  refine lv_iconst (v := 0) hx hb dX9_must_0 (by decide) ?_
  refine lv_istore_n (lv' := [(2, .int 0), (0, .ref h_this), (1, .int x1)]) hx hb dX9_must_1 rfl hl (by decide) rfl (fun ls hl => ?_)
  refine lv_iconst (v := 0) hx hb dX9_must_2 (by decide) ?_
  refine lv_istore_n (lv' := [(3, .int 0), (2, .int 0), (0, .ref h_this), (1, .int x1)]) hx hb dX9_must_3 rfl hl (by decide) rfl (fun ls hl => ?_)
  refine k_wl 45 (wsf := fun (a4 : Int32 × Int32) => [(h_this, o_X9 v_kind v_worlds h_arrows h_marks v_frames v_signs h_signAt h_behind v_formulas v_failsTold v_tellsTold v_seen h_seenWhat h_seenCan v_pageLength h_page v_stage v_newKind v_newWorlds v_newFrom v_newLast v_newP v_newQ h_newArrows v_wanted v_many h_to v_pNow v_qNow h_holds h_apart v_seedNow v_keptFrame v_keptKind v_keptWorlds v_keptSeen h_keptArrows h_keptMarks h_keptWhat h_keptCan v_h), (h_to, o_I cI 4 v_to)]) (lvf := fun (a4 : Int32 × Int32) => [(0, .ref h_this), (1, .int x1), (2, .int a4.1), (3, .int a4.2)]) hf hP hD hS (lv_sub hl [2, 3, 1, 0] rfl) ?_ ?_
  · intro a4 H locs ls hf hP hD hS hl
    have hP : va_P D vwCl [(h_this, o_X9 v_kind v_worlds h_arrows h_marks v_frames v_signs h_signAt h_behind v_formulas v_failsTold v_tellsTold v_seen h_seenWhat h_seenCan v_pageLength h_page v_stage v_newKind v_newWorlds v_newFrom v_newLast v_newP v_newQ h_newArrows v_wanted v_many h_to v_pNow v_qNow h_holds h_apart v_seedNow v_keptFrame v_keptKind v_keptWorlds v_keptSeen h_keptArrows h_keptMarks h_keptWhat h_keptCan v_h), (h_to, o_I cI 4 v_to)] H := hP
    have hD : va_D A [(h_this, o_X9 v_kind v_worlds h_arrows h_marks v_frames v_signs h_signAt h_behind v_formulas v_failsTold v_tellsTold v_seen h_seenWhat h_seenCan v_pageLength h_page v_stage v_newKind v_newWorlds v_newFrom v_newLast v_newP v_newQ h_newArrows v_wanted v_many h_to v_pNow v_qNow h_holds h_apart v_seedNow v_keptFrame v_keptKind v_keptWorlds v_keptSeen h_keptArrows h_keptMarks h_keptWhat h_keptCan v_h), (h_to, o_I cI 4 v_to)] := hD
    have hl : lv_has ls 4 [(0, .ref h_this), (1, .int x1), (2, .int a4.1), (3, .int a4.2)] := hl
    refine lv_iload_n hx hb dX9_must_45 rfl (lv_at hl 2 rfl) ?_
    cases hf
    exact k_iret hx hb hr hlocks hAe hS hP hD dX9_must_46
  · intro ex4 rc4 hE4 hR4 a4 H locs ls hf hP hD hS hl
    have hP : va_P D vwCl [(h_this, o_X9 v_kind v_worlds h_arrows h_marks v_frames v_signs h_signAt h_behind v_formulas v_failsTold v_tellsTold v_seen h_seenWhat h_seenCan v_pageLength h_page v_stage v_newKind v_newWorlds v_newFrom v_newLast v_newP v_newQ h_newArrows v_wanted v_many h_to v_pNow v_qNow h_holds h_apart v_seedNow v_keptFrame v_keptKind v_keptWorlds v_keptSeen h_keptArrows h_keptMarks h_keptWhat h_keptCan v_h), (h_to, o_I cI 4 v_to)] H := hP
    have hD : va_D A [(h_this, o_X9 v_kind v_worlds h_arrows h_marks v_frames v_signs h_signAt h_behind v_formulas v_failsTold v_tellsTold v_seen h_seenWhat h_seenCan v_pageLength h_page v_stage v_newKind v_newWorlds v_newFrom v_newLast v_newP v_newQ h_newArrows v_wanted v_many h_to v_pNow v_qNow h_holds h_apart v_seedNow v_keptFrame v_keptKind v_keptWorlds v_keptSeen h_keptArrows h_keptMarks h_keptWhat h_keptCan v_h), (h_to, o_I cI 4 v_to)] := hD
    have hl : lv_has ls 4 [(0, .ref h_this), (1, .int x1), (2, .int a4.1), (3, .int a4.2)] := hl
    refine lv_iload_n hx hb dX9_must_4 rfl (lv_at hl 3 rfl) ?_
    refine lv_aload_n hx hb dX9_must_5 rfl (lv_at hl 0 rfl) ?_
    refine va_get (D := D) (ci := 8) (v := .int v_many) (C := RX9) (T := TX9) (N := 41) hx hb hts inlX9 hown hK hP 0 rfl rfl 25 (by decide) (hts _ m_461) (fun _ h9 => h9) rfl dX9_must_6 ?_
    refine lv_icmp_ge (tgt := 45) hx hb dX9_must_9 (by decide) (fun c9 => ?_) (fun c9 => ?_)
    · replace hf := k_ifT c9 hf
      exact hE4 _ _ _ _ hf hP hD hS (lv_sub hl [0, 1, 2, 3] rfl)
    · replace hf := k_ifF c9 hf
      refine lv_iload_n hx hb dX9_must_12 rfl (lv_at hl 2 rfl) ?_
      refine lv_aload_n hx hb dX9_must_13 rfl (lv_at hl 0 rfl) ?_
      refine va_get (D := D) (ci := 8) (v := .ref h_to) (C := RX9) (T := TX9) (N := 41) hx hb hts inlX9 hown hK hP 0 rfl rfl 26 (by decide) (hts _ m_91) (fun _ h9 => h9) rfl dX9_must_14 ?_
      refine lv_iload_n hx hb dX9_must_17 rfl (lv_at hl 3 rfl) ?_
      obtain ⟨hi18, hf⟩ := k_chk_some hf
      refine va_iald (D := D) hx hb hK hP 1 1 rfl rfl hi18 dX9_must_18 ?_
      refine lv_iload_n hx hb dX9_must_19 rfl (lv_at hl 1 rfl) ?_
      refine lv_iand hx hb dX9_must_20 ?_
      refine lv_aload_n hx hb dX9_must_21 rfl (lv_at hl 0 rfl) ?_
      refine va_get (D := D) (ci := 8) (v := .ref h_to) (C := RX9) (T := TX9) (N := 41) hx hb hts inlX9 hown hK hP 0 rfl rfl 26 (by decide) (hts _ m_91) (fun _ h9 => h9) rfl dX9_must_22 ?_
      refine lv_iload_n hx hb dX9_must_25 rfl (lv_at hl 3 rfl) ?_
      obtain ⟨hi26, hf⟩ := k_chk_some hf
      refine va_iald (D := D) hx hb hK hP 1 1 rfl rfl hi26 dX9_must_26 ?_
      refine lv_icmp_ne (tgt := 36) hx hb dX9_must_27 (by decide) (fun c27 => ?_) (fun c27 => ?_)
      · replace hf := k_ifF c27 hf
        refine lv_iconst (v := 0) hx hb dX9_must_36 (by decide) ?_
        refine lv_ior hx hb dX9_must_37 ?_
        refine lv_istore_n (lv' := [(2, .int (a4.1 ||| 0)), (0, .ref h_this), (1, .int x1), (3, .int a4.2)]) hx hb dX9_must_38 rfl hl (by decide) rfl (fun ls hl => ?_)
        refine lv_iinc (v := (a4.2 + 1)) (lv' := [(3, .int (a4.2 + 1)), (2, .int (a4.1 ||| 0)), (0, .ref h_this), (1, .int x1)]) hx hb dX9_must_39 hl (k := 3) rfl rfl (by decide) rfl (fun ls hl => ?_)
        refine lv_goto (tgt := 4) hx hb dX9_must_42 (by decide) ?_
        exact hR4 _ _ _ _ hf hP hD hS (lv_sub hl [2, 3, 1, 0] rfl)
      · replace hf := k_ifT c27 hf
        refine lv_iconst (v := 1) hx hb dX9_must_30 (by decide) ?_
        refine lv_iload_n hx hb dX9_must_31 rfl (lv_at hl 3 rfl) ?_
        refine lv_ishl hx hb dX9_must_32 ?_
        refine lv_goto (tgt := 37) hx hb dX9_must_33 (by decide) ?_
        refine lv_ior hx hb dX9_must_37 ?_
        refine lv_istore_n (lv' := [(2, .int (a4.1 ||| ((1 : Int32) <<< (a4.2 &&& 31)))), (0, .ref h_this), (1, .int x1), (3, .int a4.2)]) hx hb dX9_must_38 rfl hl (by decide) rfl (fun ls hl => ?_)
        refine lv_iinc (v := (a4.2 + 1)) (lv' := [(3, .int (a4.2 + 1)), (2, .int (a4.1 ||| ((1 : Int32) <<< (a4.2 &&& 31)))), (0, .ref h_this), (1, .int x1)]) hx hb dX9_must_39 hl (k := 3) rfl rfl (by decide) rfl (fun ls hl => ?_)
        refine lv_goto (tgt := 4) hx hb dX9_must_42 (by decide) ?_
        exact hR4 _ _ _ _ hf hP hD hS (lv_sub hl [2, 3, 1, 0] rfl)
set_option maxHeartbeats 4000000 in
set_option maxRecDepth 100000 in
theorem k_X9_can (l : Launch) (D : va_G) (cB cI cJ cZ : ClassId) (tL tK : Nat) (h_this h_arrows h_marks h_signAt h_behind h_seenWhat h_seenCan h_page h_newArrows h_to h_holds h_apart h_keptArrows h_keptMarks h_keptWhat h_keptCan : Nat) (sz : Nat) (v_kind : Int32) (v_worlds : Int32) (v_frames : Int32) (v_signs : Int32) (v_formulas : Int32) (v_failsTold : Int32) (v_tellsTold : Int32) (v_seen : Int32) (v_pageLength : Int32) (v_stage : Int32) (v_newKind : Int32) (v_newWorlds : Int32) (v_newFrom : Int32) (v_newLast : Int32) (v_newP : Int32) (v_newQ : Int32) (v_wanted : Int32) (v_many : Int32) (v_pNow : Int32) (v_qNow : Int32) (v_seedNow : Int64) (v_keptFrame : Int32) (v_keptKind : Int32) (v_keptWorlds : Int32) (v_keptSeen : Int32) (v_h : Int64) (v_to : (Nat → Int32)) (x1 : Int32) (q : Int32) (hf : f_X9_can v_many v_to x1 = some q) : Met l yX9_can (.code yX9_can cX9_can 4 (some .int) :: k_all) { frames := 0, cells := 0, slots := 0, locals := 0 } (k_P D cB cI cJ cZ tL tK [.ref h_this, .int x1] [(h_this, o_X9 v_kind v_worlds h_arrows h_marks v_frames v_signs h_signAt h_behind v_formulas v_failsTold v_tellsTold v_seen h_seenWhat h_seenCan v_pageLength h_page v_stage v_newKind v_newWorlds v_newFrom v_newLast v_newP v_newQ h_newArrows v_wanted v_many h_to v_pNow v_qNow h_holds h_apart v_seedNow v_keptFrame v_keptKind v_keptWorlds v_keptSeen h_keptArrows h_keptMarks h_keptWhat h_keptCan v_h), (h_to, o_I cI 4 v_to)] sz) (k_I D q [(h_this, o_X9 v_kind v_worlds h_arrows h_marks v_frames v_signs h_signAt h_behind v_formulas v_failsTold v_tellsTold v_seen h_seenWhat h_seenCan v_pageLength h_page v_stage v_newKind v_newWorlds v_newFrom v_newLast v_newP v_newQ h_newArrows v_wanted v_many h_to v_pNow v_qNow h_holds h_apart v_seedNow v_keptFrame v_keptKind v_keptWorlds v_keptSeen h_keptArrows h_keptMarks h_keptWhat h_keptCan v_h), (h_to, o_I cI 4 v_to)] [(h_this, o_X9 v_kind v_worlds h_arrows h_marks v_frames v_signs h_signAt h_behind v_formulas v_failsTold v_tellsTold v_seen h_seenWhat h_seenCan v_pageLength h_page v_stage v_newKind v_newWorlds v_newFrom v_newLast v_newP v_newQ h_newArrows v_wanted v_many h_to v_pNow v_qNow h_holds h_apart v_seedNow v_keptFrame v_keptKind v_keptWorlds v_keptSeen h_keptArrows h_keptMarks h_keptWhat h_keptCan v_h), (h_to, o_I cI 4 v_to)] sz) 0 0 (va_A [(h_this, o_X9 v_kind v_worlds h_arrows h_marks v_frames v_signs h_signAt h_behind v_formulas v_failsTold v_tellsTold v_seen h_seenWhat h_seenCan v_pageLength h_page v_stage v_newKind v_newWorlds v_newFrom v_newLast v_newP v_newQ h_newArrows v_wanted v_many h_to v_pNow v_qNow h_holds h_apart v_seedNow v_keptFrame v_keptKind v_keptWorlds v_keptSeen h_keptArrows h_keptMarks h_keptWhat h_keptCan v_h), (h_to, o_I cI 4 v_to)] sz) := by
  unfold f_X9_can at hf
  refine k_met RX9 rfl (by decide +kernel) (Nat.le_of_ble_eq_true rfl) ?_
  intro p e s m below meth c A ls hx hb hr hml hown hts hlocks hin hsz hAe hA hK hN hZ hD hS hP hl
  have hl : lv_has ls 4 [(0, .ref h_this), (1, .int x1)] := hl
  refine lv_iconst (v := 0) hx hb dX9_can_0 (by decide) ?_
  refine lv_istore_n (lv' := [(2, .int 0), (0, .ref h_this), (1, .int x1)]) hx hb dX9_can_1 rfl hl (by decide) rfl (fun ls hl => ?_)
  refine lv_iconst (v := 0) hx hb dX9_can_2 (by decide) ?_
  refine lv_istore_n (lv' := [(3, .int 0), (2, .int 0), (0, .ref h_this), (1, .int x1)]) hx hb dX9_can_3 rfl hl (by decide) rfl (fun ls hl => ?_)
  refine k_wl 39 (wsf := fun (a4 : Int32 × Int32) => [(h_this, o_X9 v_kind v_worlds h_arrows h_marks v_frames v_signs h_signAt h_behind v_formulas v_failsTold v_tellsTold v_seen h_seenWhat h_seenCan v_pageLength h_page v_stage v_newKind v_newWorlds v_newFrom v_newLast v_newP v_newQ h_newArrows v_wanted v_many h_to v_pNow v_qNow h_holds h_apart v_seedNow v_keptFrame v_keptKind v_keptWorlds v_keptSeen h_keptArrows h_keptMarks h_keptWhat h_keptCan v_h), (h_to, o_I cI 4 v_to)]) (lvf := fun (a4 : Int32 × Int32) => [(0, .ref h_this), (1, .int x1), (2, .int a4.1), (3, .int a4.2)]) hf hP hD hS (lv_sub hl [2, 3, 1, 0] rfl) ?_ ?_
  · intro a4 H locs ls hf hP hD hS hl
    have hP : va_P D vwCl [(h_this, o_X9 v_kind v_worlds h_arrows h_marks v_frames v_signs h_signAt h_behind v_formulas v_failsTold v_tellsTold v_seen h_seenWhat h_seenCan v_pageLength h_page v_stage v_newKind v_newWorlds v_newFrom v_newLast v_newP v_newQ h_newArrows v_wanted v_many h_to v_pNow v_qNow h_holds h_apart v_seedNow v_keptFrame v_keptKind v_keptWorlds v_keptSeen h_keptArrows h_keptMarks h_keptWhat h_keptCan v_h), (h_to, o_I cI 4 v_to)] H := hP
    have hD : va_D A [(h_this, o_X9 v_kind v_worlds h_arrows h_marks v_frames v_signs h_signAt h_behind v_formulas v_failsTold v_tellsTold v_seen h_seenWhat h_seenCan v_pageLength h_page v_stage v_newKind v_newWorlds v_newFrom v_newLast v_newP v_newQ h_newArrows v_wanted v_many h_to v_pNow v_qNow h_holds h_apart v_seedNow v_keptFrame v_keptKind v_keptWorlds v_keptSeen h_keptArrows h_keptMarks h_keptWhat h_keptCan v_h), (h_to, o_I cI 4 v_to)] := hD
    have hl : lv_has ls 4 [(0, .ref h_this), (1, .int x1), (2, .int a4.1), (3, .int a4.2)] := hl
    refine lv_iload_n hx hb dX9_can_39 rfl (lv_at hl 2 rfl) ?_
    cases hf
    exact k_iret hx hb hr hlocks hAe hS hP hD dX9_can_40
  · intro ex4 rc4 hE4 hR4 a4 H locs ls hf hP hD hS hl
    have hP : va_P D vwCl [(h_this, o_X9 v_kind v_worlds h_arrows h_marks v_frames v_signs h_signAt h_behind v_formulas v_failsTold v_tellsTold v_seen h_seenWhat h_seenCan v_pageLength h_page v_stage v_newKind v_newWorlds v_newFrom v_newLast v_newP v_newQ h_newArrows v_wanted v_many h_to v_pNow v_qNow h_holds h_apart v_seedNow v_keptFrame v_keptKind v_keptWorlds v_keptSeen h_keptArrows h_keptMarks h_keptWhat h_keptCan v_h), (h_to, o_I cI 4 v_to)] H := hP
    have hD : va_D A [(h_this, o_X9 v_kind v_worlds h_arrows h_marks v_frames v_signs h_signAt h_behind v_formulas v_failsTold v_tellsTold v_seen h_seenWhat h_seenCan v_pageLength h_page v_stage v_newKind v_newWorlds v_newFrom v_newLast v_newP v_newQ h_newArrows v_wanted v_many h_to v_pNow v_qNow h_holds h_apart v_seedNow v_keptFrame v_keptKind v_keptWorlds v_keptSeen h_keptArrows h_keptMarks h_keptWhat h_keptCan v_h), (h_to, o_I cI 4 v_to)] := hD
    have hl : lv_has ls 4 [(0, .ref h_this), (1, .int x1), (2, .int a4.1), (3, .int a4.2)] := hl
    refine lv_iload_n hx hb dX9_can_4 rfl (lv_at hl 3 rfl) ?_
    refine lv_aload_n hx hb dX9_can_5 rfl (lv_at hl 0 rfl) ?_
    refine va_get (D := D) (ci := 8) (v := .int v_many) (C := RX9) (T := TX9) (N := 41) hx hb hts inlX9 hown hK hP 0 rfl rfl 25 (by decide) (hts _ m_461) (fun _ h9 => h9) rfl dX9_can_6 ?_
    refine lv_icmp_ge (tgt := 39) hx hb dX9_can_9 (by decide) (fun c9 => ?_) (fun c9 => ?_)
    · replace hf := k_ifT c9 hf
      exact hE4 _ _ _ _ hf hP hD hS (lv_sub hl [0, 1, 2, 3] rfl)
    · replace hf := k_ifF c9 hf
      refine lv_iload_n hx hb dX9_can_12 rfl (lv_at hl 2 rfl) ?_
      refine lv_aload_n hx hb dX9_can_13 rfl (lv_at hl 0 rfl) ?_
      refine va_get (D := D) (ci := 8) (v := .ref h_to) (C := RX9) (T := TX9) (N := 41) hx hb hts inlX9 hown hK hP 0 rfl rfl 26 (by decide) (hts _ m_91) (fun _ h9 => h9) rfl dX9_can_14 ?_
      refine lv_iload_n hx hb dX9_can_17 rfl (lv_at hl 3 rfl) ?_
      obtain ⟨hi18, hf⟩ := k_chk_some hf
      refine va_iald (D := D) hx hb hK hP 1 1 rfl rfl hi18 dX9_can_18 ?_
      refine lv_iload_n hx hb dX9_can_19 rfl (lv_at hl 1 rfl) ?_
      refine lv_iand hx hb dX9_can_20 ?_
      refine lv_if_eq (tgt := 30) hx hb dX9_can_21 (by decide) (fun c21 => ?_) (fun c21 => ?_)
      · replace hf := k_ifT c21 hf
        refine lv_iconst (v := 0) hx hb dX9_can_30 (by decide) ?_
        refine lv_ior hx hb dX9_can_31 ?_
        refine lv_istore_n (lv' := [(2, .int (a4.1 ||| 0)), (0, .ref h_this), (1, .int x1), (3, .int a4.2)]) hx hb dX9_can_32 rfl hl (by decide) rfl (fun ls hl => ?_)
        refine lv_iinc (v := (a4.2 + 1)) (lv' := [(3, .int (a4.2 + 1)), (2, .int (a4.1 ||| 0)), (0, .ref h_this), (1, .int x1)]) hx hb dX9_can_33 hl (k := 3) rfl rfl (by decide) rfl (fun ls hl => ?_)
        refine lv_goto (tgt := 4) hx hb dX9_can_36 (by decide) ?_
        exact hR4 _ _ _ _ hf hP hD hS (lv_sub hl [2, 3, 1, 0] rfl)
      · replace hf := k_ifF c21 hf
        refine lv_iconst (v := 1) hx hb dX9_can_24 (by decide) ?_
        refine lv_iload_n hx hb dX9_can_25 rfl (lv_at hl 3 rfl) ?_
        refine lv_ishl hx hb dX9_can_26 ?_
        refine lv_goto (tgt := 31) hx hb dX9_can_27 (by decide) ?_
        refine lv_ior hx hb dX9_can_31 ?_
        refine lv_istore_n (lv' := [(2, .int (a4.1 ||| ((1 : Int32) <<< (a4.2 &&& 31)))), (0, .ref h_this), (1, .int x1), (3, .int a4.2)]) hx hb dX9_can_32 rfl hl (by decide) rfl (fun ls hl => ?_)
        refine lv_iinc (v := (a4.2 + 1)) (lv' := [(3, .int (a4.2 + 1)), (2, .int (a4.1 ||| ((1 : Int32) <<< (a4.2 &&& 31)))), (0, .ref h_this), (1, .int x1)]) hx hb dX9_can_33 hl (k := 3) rfl rfl (by decide) rfl (fun ls hl => ?_)
        refine lv_goto (tgt := 4) hx hb dX9_can_36 (by decide) ?_
        exact hR4 _ _ _ _ hf hP hD hS (lv_sub hl [2, 3, 1, 0] rfl)
set_option maxHeartbeats 4000000 in
set_option maxRecDepth 100000 in
theorem k_X9_holdsPart (l : Launch) (D : va_G) (cB cI cJ cZ : ClassId) (tL tK : Nat) (h_this h_arrows h_marks h_signAt h_behind h_seenWhat h_seenCan h_page h_newArrows h_to h_holds h_apart h_keptArrows h_keptMarks h_keptWhat h_keptCan : Nat) (sz : Nat) (v_kind : Int32) (v_worlds : Int32) (v_frames : Int32) (v_signs : Int32) (v_formulas : Int32) (v_failsTold : Int32) (v_tellsTold : Int32) (v_seen : Int32) (v_pageLength : Int32) (v_stage : Int32) (v_newKind : Int32) (v_newWorlds : Int32) (v_newFrom : Int32) (v_newLast : Int32) (v_newP : Int32) (v_newQ : Int32) (v_wanted : Int32) (v_many : Int32) (v_pNow : Int32) (v_qNow : Int32) (v_seedNow : Int64) (v_keptFrame : Int32) (v_keptKind : Int32) (v_keptWorlds : Int32) (v_keptSeen : Int32) (v_h : Int64) (v_signAt : (Nat → Int32)) (v_behind : (Nat → Int32)) (v_to : (Nat → Int32)) (v_holds : (Nat → Int32)) (x1 : Int32) (q : Int32) (hf : f_X9_holdsPart v_signs v_many v_pNow v_qNow v_signAt v_behind v_to v_holds x1 = some q) : Met l yX9_holdsPart (.code yX9_holdsPart cX9_holdsPart 5 (some .int) :: k_all) { frames := 1, cells := 0, slots := 0, locals := 23 } (k_P D cB cI cJ cZ tL tK [.ref h_this, .int x1] [(h_this, o_X9 v_kind v_worlds h_arrows h_marks v_frames v_signs h_signAt h_behind v_formulas v_failsTold v_tellsTold v_seen h_seenWhat h_seenCan v_pageLength h_page v_stage v_newKind v_newWorlds v_newFrom v_newLast v_newP v_newQ h_newArrows v_wanted v_many h_to v_pNow v_qNow h_holds h_apart v_seedNow v_keptFrame v_keptKind v_keptWorlds v_keptSeen h_keptArrows h_keptMarks h_keptWhat h_keptCan v_h), (h_signAt, o_I cB 16 v_signAt), (h_behind, o_I cI 17 v_behind), (h_to, o_I cI 4 v_to), (h_holds, o_I cI 16 v_holds)] sz) (k_I D q [(h_this, o_X9 v_kind v_worlds h_arrows h_marks v_frames v_signs h_signAt h_behind v_formulas v_failsTold v_tellsTold v_seen h_seenWhat h_seenCan v_pageLength h_page v_stage v_newKind v_newWorlds v_newFrom v_newLast v_newP v_newQ h_newArrows v_wanted v_many h_to v_pNow v_qNow h_holds h_apart v_seedNow v_keptFrame v_keptKind v_keptWorlds v_keptSeen h_keptArrows h_keptMarks h_keptWhat h_keptCan v_h), (h_signAt, o_I cB 16 v_signAt), (h_behind, o_I cI 17 v_behind), (h_to, o_I cI 4 v_to), (h_holds, o_I cI 16 v_holds)] [(h_this, o_X9 v_kind v_worlds h_arrows h_marks v_frames v_signs h_signAt h_behind v_formulas v_failsTold v_tellsTold v_seen h_seenWhat h_seenCan v_pageLength h_page v_stage v_newKind v_newWorlds v_newFrom v_newLast v_newP v_newQ h_newArrows v_wanted v_many h_to v_pNow v_qNow h_holds h_apart v_seedNow v_keptFrame v_keptKind v_keptWorlds v_keptSeen h_keptArrows h_keptMarks h_keptWhat h_keptCan v_h), (h_signAt, o_I cB 16 v_signAt), (h_behind, o_I cI 17 v_behind), (h_to, o_I cI 4 v_to), (h_holds, o_I cI 16 v_holds)] sz) 0 0 (va_A [(h_this, o_X9 v_kind v_worlds h_arrows h_marks v_frames v_signs h_signAt h_behind v_formulas v_failsTold v_tellsTold v_seen h_seenWhat h_seenCan v_pageLength h_page v_stage v_newKind v_newWorlds v_newFrom v_newLast v_newP v_newQ h_newArrows v_wanted v_many h_to v_pNow v_qNow h_holds h_apart v_seedNow v_keptFrame v_keptKind v_keptWorlds v_keptSeen h_keptArrows h_keptMarks h_keptWhat h_keptCan v_h), (h_signAt, o_I cB 16 v_signAt), (h_behind, o_I cI 17 v_behind), (h_to, o_I cI 4 v_to), (h_holds, o_I cI 16 v_holds)] sz) := by
  unfold f_X9_holdsPart at hf
  refine k_met RX9 rfl (by decide +kernel) (Nat.le_of_ble_eq_true rfl) ?_
  intro p e s m below meth c A ls hx hb hr hml hown hts hlocks hin hsz hAe hA hK hN hZ hD hS hP hl
  have hl : lv_has ls 5 [(0, .ref h_this), (1, .int x1)] := hl
  refine lv_iconst (v := 1) hx hb dX9_holdsPart_0 (by decide) ?_
  refine lv_aload_n hx hb dX9_holdsPart_1 rfl (lv_at hl 0 rfl) ?_
  refine va_get (D := D) (ci := 8) (v := .int v_many) (C := RX9) (T := TX9) (N := 41) hx hb hts inlX9 hown hK hP 0 rfl rfl 25 (by decide) (hts _ m_461) (fun _ h9 => h9) rfl dX9_holdsPart_2 ?_
  refine lv_ishl hx hb dX9_holdsPart_5 ?_
  refine lv_iconst (v := 1) hx hb dX9_holdsPart_6 (by decide) ?_
  refine lv_isub hx hb dX9_holdsPart_7 ?_
  refine lv_istore_n (lv' := [(2, .int (((1 : Int32) <<< (v_many &&& 31)) - 1)), (0, .ref h_this), (1, .int x1)]) hx hb dX9_holdsPart_8 rfl hl (by decide) rfl (fun ls hl => ?_)
  refine lv_iload_n hx hb dX9_holdsPart_9 rfl (lv_at hl 2 rfl) ?_
  refine lv_aload_n hx hb dX9_holdsPart_10 rfl (lv_at hl 1 rfl) ?_
  refine va_get (D := D) (ci := 8) (v := .int v_signs) (C := RX9) (T := TX9) (N := 41) hx hb hts inlX9 hown hK hP 0 rfl rfl 5 (by decide) (hts _ m_358) (fun _ h9 => h9) rfl dX9_holdsPart_11 ?_
  refine lv_iconst (v := 1) hx hb dX9_holdsPart_14 (by decide) ?_
  refine lv_isub hx hb dX9_holdsPart_15 ?_
  refine k_jn (D := D) (A := A) (nL := 5) hf (fun (j16 : Int32) => [(h_this, o_X9 v_kind v_worlds h_arrows h_marks v_frames v_signs h_signAt h_behind v_formulas v_failsTold v_tellsTold v_seen h_seenWhat h_seenCan v_pageLength h_page v_stage v_newKind v_newWorlds v_newFrom v_newLast v_newP v_newQ h_newArrows v_wanted v_many h_to v_pNow v_qNow h_holds h_apart v_seedNow v_keptFrame v_keptKind v_keptWorlds v_keptSeen h_keptArrows h_keptMarks h_keptWhat h_keptCan v_h), (h_signAt, o_I cB 16 v_signAt), (h_behind, o_I cI 17 v_behind), (h_to, o_I cI 4 v_to), (h_holds, o_I cI 16 v_holds)]) (fun (j16 : Int32) => [(0, .ref h_this), (1, .int x1), (2, .int (((1 : Int32) <<< (v_many &&& 31)) - 1))]) (fun (j16 : Int32) => [.int j16]) 31 ?_ ?_
  · intro j16 H locs ls hf hP hD hS hl
    have hP : va_P D vwCl [(h_this, o_X9 v_kind v_worlds h_arrows h_marks v_frames v_signs h_signAt h_behind v_formulas v_failsTold v_tellsTold v_seen h_seenWhat h_seenCan v_pageLength h_page v_stage v_newKind v_newWorlds v_newFrom v_newLast v_newP v_newQ h_newArrows v_wanted v_many h_to v_pNow v_qNow h_holds h_apart v_seedNow v_keptFrame v_keptKind v_keptWorlds v_keptSeen h_keptArrows h_keptMarks h_keptWhat h_keptCan v_h), (h_signAt, o_I cB 16 v_signAt), (h_behind, o_I cI 17 v_behind), (h_to, o_I cI 4 v_to), (h_holds, o_I cI 16 v_holds)] H := hP
    have hD : va_D A [(h_this, o_X9 v_kind v_worlds h_arrows h_marks v_frames v_signs h_signAt h_behind v_formulas v_failsTold v_tellsTold v_seen h_seenWhat h_seenCan v_pageLength h_page v_stage v_newKind v_newWorlds v_newFrom v_newLast v_newP v_newQ h_newArrows v_wanted v_many h_to v_pNow v_qNow h_holds h_apart v_seedNow v_keptFrame v_keptKind v_keptWorlds v_keptSeen h_keptArrows h_keptMarks h_keptWhat h_keptCan v_h), (h_signAt, o_I cB 16 v_signAt), (h_behind, o_I cI 17 v_behind), (h_to, o_I cI 4 v_to), (h_holds, o_I cI 16 v_holds)] := hD
    have hl : lv_has ls 5 [(0, .ref h_this), (1, .int x1), (2, .int (((1 : Int32) <<< (v_many &&& 31)) - 1))] := hl
    show W p l e _ s m _ below meth c H locs _ _ _ (F0 m 31 ls [.int j16])
    refine lv_istore_n (lv' := [(3, .int j16), (0, .ref h_this), (1, .int x1), (2, .int (((1 : Int32) <<< (v_many &&& 31)) - 1))]) hx hb dX9_holdsPart_31 rfl hl (by decide) rfl (fun ls hl => ?_)
    refine lv_aload_n hx hb dX9_holdsPart_32 rfl (lv_at hl 1 rfl) ?_
    refine va_get (D := D) (ci := 8) (v := .ref h_signAt) (C := RX9) (T := TX9) (N := 41) hx hb hts inlX9 hown hK hP 0 rfl rfl 6 (by decide) (hts _ m_85) (fun _ h9 => h9) rfl dX9_holdsPart_33 ?_
    refine lv_iload_n hx hb dX9_holdsPart_36 rfl (lv_at hl 2 rfl) ?_
    obtain ⟨hi37, hf⟩ := k_chk_some hf
    refine va_bald (D := D) hx hb hK hP 1 0 rfl rfl hi37 dX9_holdsPart_37 ?_
    refine k_calli (wN := [(h_this, o_X9 v_kind v_worlds h_arrows h_marks v_frames v_signs h_signAt h_behind v_formulas v_failsTold v_tellsTold v_seen h_seenWhat h_seenCan v_pageLength h_page v_stage v_newKind v_newWorlds v_newFrom v_newLast v_newP v_newQ h_newArrows v_wanted v_many h_to v_pNow v_qNow h_holds h_apart v_seedNow v_keptFrame v_keptKind v_keptWorlds v_keptSeen h_keptArrows h_keptMarks h_keptWhat h_keptCan v_h), (h_signAt, o_I cB 16 v_signAt), (h_behind, o_I cI 17 v_behind), (h_to, o_I cI 4 v_to), (h_holds, o_I cI 16 v_holds)]) [] [0, 1, 2, 3, 4] [0, 1, 2, 3, 4] hP hD hS hA (va_runS (As := [.int (v_signAt (Int32.toNatClampNeg x1))]) (rest := []) ⟨hx, hb, hml, hown, hts⟩ (k_X9_partsOf l D cB cI cJ cZ tL tK _ (v_signAt (Int32.toNatClampNeg x1)) (f_X9_partsOf (v_signAt (Int32.toNatClampNeg x1))) rfl) (va_cwS 1 hts (k_gS m_279 m_277 m_278 m_5) rfl rfl rfl (by decide +kernel) ⟨Nat.le_of_ble_eq_true rfl, Nat.le_of_ble_eq_true rfl⟩) (k_preS [] hK hN hZ hP hD hS hA rfl rfl) rfl rfl hl.1 rfl (lv_room (Nat.le_of_ble_eq_true rfl)) dX9_holdsPart_38 ⟨Nat.le_refl _, Nat.le_refl _⟩) rfl rfl rfl rfl rfl (fun H locs hP hD hS => ?_)
    refine lv_iconst (v := 2) hx hb dX9_holdsPart_41 (by decide) ?_
    refine k_jn (D := D) (A := A) (nL := 5) hf (fun (j42 : Int32) => [(h_this, o_X9 v_kind v_worlds h_arrows h_marks v_frames v_signs h_signAt h_behind v_formulas v_failsTold v_tellsTold v_seen h_seenWhat h_seenCan v_pageLength h_page v_stage v_newKind v_newWorlds v_newFrom v_newLast v_newP v_newQ h_newArrows v_wanted v_many h_to v_pNow v_qNow h_holds h_apart v_seedNow v_keptFrame v_keptKind v_keptWorlds v_keptSeen h_keptArrows h_keptMarks h_keptWhat h_keptCan v_h), (h_signAt, o_I cB 16 v_signAt), (h_behind, o_I cI 17 v_behind), (h_to, o_I cI 4 v_to), (h_holds, o_I cI 16 v_holds)]) (fun (j42 : Int32) => [(0, .ref h_this), (1, .int x1), (2, .int (((1 : Int32) <<< (v_many &&& 31)) - 1)), (3, .int j16)]) (fun (j42 : Int32) => [.int j42]) 62 ?_ ?_
    · intro j42 H locs ls hf hP hD hS hl
      have hP : va_P D vwCl [(h_this, o_X9 v_kind v_worlds h_arrows h_marks v_frames v_signs h_signAt h_behind v_formulas v_failsTold v_tellsTold v_seen h_seenWhat h_seenCan v_pageLength h_page v_stage v_newKind v_newWorlds v_newFrom v_newLast v_newP v_newQ h_newArrows v_wanted v_many h_to v_pNow v_qNow h_holds h_apart v_seedNow v_keptFrame v_keptKind v_keptWorlds v_keptSeen h_keptArrows h_keptMarks h_keptWhat h_keptCan v_h), (h_signAt, o_I cB 16 v_signAt), (h_behind, o_I cI 17 v_behind), (h_to, o_I cI 4 v_to), (h_holds, o_I cI 16 v_holds)] H := hP
      have hD : va_D A [(h_this, o_X9 v_kind v_worlds h_arrows h_marks v_frames v_signs h_signAt h_behind v_formulas v_failsTold v_tellsTold v_seen h_seenWhat h_seenCan v_pageLength h_page v_stage v_newKind v_newWorlds v_newFrom v_newLast v_newP v_newQ h_newArrows v_wanted v_many h_to v_pNow v_qNow h_holds h_apart v_seedNow v_keptFrame v_keptKind v_keptWorlds v_keptSeen h_keptArrows h_keptMarks h_keptWhat h_keptCan v_h), (h_signAt, o_I cB 16 v_signAt), (h_behind, o_I cI 17 v_behind), (h_to, o_I cI 4 v_to), (h_holds, o_I cI 16 v_holds)] := hD
      have hl : lv_has ls 5 [(0, .ref h_this), (1, .int x1), (2, .int (((1 : Int32) <<< (v_many &&& 31)) - 1)), (3, .int j16)] := hl
      show W p l e _ s m _ below meth c H locs _ _ _ (F0 m 62 ls [.int j42])
      refine lv_istore (lv' := [(4, .int j42), (0, .ref h_this), (1, .int x1), (2, .int (((1 : Int32) <<< (v_many &&& 31)) - 1)), (3, .int j16)]) hx hb dX9_holdsPart_62 hl (by decide) rfl (fun ls hl => ?_)
      refine lv_aload_n hx hb dX9_holdsPart_64 rfl (lv_at hl 1 rfl) ?_
      refine va_get (D := D) (ci := 8) (v := .ref h_signAt) (C := RX9) (T := TX9) (N := 41) hx hb hts inlX9 hown hK hP 0 rfl rfl 6 (by decide) (hts _ m_85) (fun _ h9 => h9) rfl dX9_holdsPart_65 ?_
      refine lv_iload_n hx hb dX9_holdsPart_68 rfl (lv_at hl 2 rfl) ?_
      obtain ⟨hi69, hf⟩ := k_chk_some hf
      refine va_bald (D := D) hx hb hK hP 1 0 rfl rfl hi69 dX9_holdsPart_69 ?_
      by_cases c70_38 : (v_signAt (Int32.toNatClampNeg x1)) = 38
      · replace hf := k_ifT c70_38 hf
        refine lv_lookup (tgt := 162) (off := 92) hx hb dX9_holdsPart_70 (by decide) (by rw [c70_38]; rfl) (by decide) ?_
        refine lv_iload_n hx hb dX9_holdsPart_162 rfl (lv_at hl 4 rfl) ?_
        refine lv_iload hx hb dX9_holdsPart_163 (lv_at hl 0 rfl) ?_
        refine lv_iand hx hb dX9_holdsPart_165 ?_
        cases hf
        exact k_iret hx hb hr hlocks hAe hS hP hD dX9_holdsPart_166
      · replace hf := k_ifF c70_38 hf
        by_cases c70_77 : (v_signAt (Int32.toNatClampNeg x1)) = 77
        · replace hf := k_ifT c70_77 hf
          refine lv_lookup (tgt := 156) (off := 86) hx hb dX9_holdsPart_70 (by decide) (by rw [c70_77]; rfl) (by decide) ?_
          refine lv_aload_n hx hb dX9_holdsPart_156 rfl (lv_at hl 1 rfl) ?_
          refine lv_iload_n hx hb dX9_holdsPart_157 rfl (lv_at hl 4 rfl) ?_
          obtain ⟨q158, hq158, hf⟩ := k_bind hf
          refine k_calli (wN := [(h_this, o_X9 v_kind v_worlds h_arrows h_marks v_frames v_signs h_signAt h_behind v_formulas v_failsTold v_tellsTold v_seen h_seenWhat h_seenCan v_pageLength h_page v_stage v_newKind v_newWorlds v_newFrom v_newLast v_newP v_newQ h_newArrows v_wanted v_many h_to v_pNow v_qNow h_holds h_apart v_seedNow v_keptFrame v_keptKind v_keptWorlds v_keptSeen h_keptArrows h_keptMarks h_keptWhat h_keptCan v_h), (h_signAt, o_I cB 16 v_signAt), (h_behind, o_I cI 17 v_behind), (h_to, o_I cI 4 v_to), (h_holds, o_I cI 16 v_holds)]) [0, 3] [1, 2, 4] [3, 0, 1, 4, 2] hP hD hS hA (va_runV (As := [.int j16]) (rest := []) ⟨hx, hb, hml, hown, hts⟩ (k_X9_can l D cB cI cJ cZ tL tK h_this h_arrows h_marks h_signAt h_behind h_seenWhat h_seenCan h_page h_newArrows h_to h_holds h_apart h_keptArrows h_keptMarks h_keptWhat h_keptCan _ v_kind v_worlds v_frames v_signs v_formulas v_failsTold v_tellsTold v_seen v_pageLength v_stage v_newKind v_newWorlds v_newFrom v_newLast v_newP v_newQ v_wanted v_many v_pNow v_qNow v_seedNow v_keptFrame v_keptKind v_keptWorlds v_keptSeen v_h v_to j16 q158 hq158) (cwV 1 hts (k_gV m_631 m_628 m_629 m_630 m_5) rfl rfl rfl (by decide +kernel) ⟨Nat.le_of_ble_eq_true rfl, Nat.le_of_ble_eq_true rfl⟩) (k_preV [0, 3] hK hN hZ hP hD hS hA rfl rfl (va_recv hK hP (ci := 8) (q0 := 0) rfl rfl)) rfl rfl hl.1 rfl (lv_room (Nat.le_of_ble_eq_true rfl)) dX9_holdsPart_158 ⟨Nat.le_refl _, Nat.le_refl _⟩) rfl rfl rfl rfl rfl (fun H locs hP hD hS => ?_)
          cases hf
          exact k_iret hx hb hr hlocks hAe hS hP hD dX9_holdsPart_161
        · replace hf := k_ifF c70_77 hf
          by_cases c70_78 : (v_signAt (Int32.toNatClampNeg x1)) = 78
          · replace hf := k_ifT c70_78 hf
            refine lv_lookup (tgt := 150) (off := 80) hx hb dX9_holdsPart_70 (by decide) (by rw [c70_78]; rfl) (by decide) ?_
            refine lv_aload_n hx hb dX9_holdsPart_150 rfl (lv_at hl 1 rfl) ?_
            refine lv_iload_n hx hb dX9_holdsPart_151 rfl (lv_at hl 4 rfl) ?_
            obtain ⟨q152, hq152, hf⟩ := k_bind hf
            refine k_calli (wN := [(h_this, o_X9 v_kind v_worlds h_arrows h_marks v_frames v_signs h_signAt h_behind v_formulas v_failsTold v_tellsTold v_seen h_seenWhat h_seenCan v_pageLength h_page v_stage v_newKind v_newWorlds v_newFrom v_newLast v_newP v_newQ h_newArrows v_wanted v_many h_to v_pNow v_qNow h_holds h_apart v_seedNow v_keptFrame v_keptKind v_keptWorlds v_keptSeen h_keptArrows h_keptMarks h_keptWhat h_keptCan v_h), (h_signAt, o_I cB 16 v_signAt), (h_behind, o_I cI 17 v_behind), (h_to, o_I cI 4 v_to), (h_holds, o_I cI 16 v_holds)]) [0, 3] [1, 2, 4] [3, 0, 1, 4, 2] hP hD hS hA (va_runV (As := [.int j16]) (rest := []) ⟨hx, hb, hml, hown, hts⟩ (k_X9_must l D cB cI cJ cZ tL tK h_this h_arrows h_marks h_signAt h_behind h_seenWhat h_seenCan h_page h_newArrows h_to h_holds h_apart h_keptArrows h_keptMarks h_keptWhat h_keptCan _ v_kind v_worlds v_frames v_signs v_formulas v_failsTold v_tellsTold v_seen v_pageLength v_stage v_newKind v_newWorlds v_newFrom v_newLast v_newP v_newQ v_wanted v_many v_pNow v_qNow v_seedNow v_keptFrame v_keptKind v_keptWorlds v_keptSeen v_h v_to j16 q152 hq152) (cwV 1 hts (k_gV m_627 m_624 m_625 m_626 m_5) rfl rfl rfl (by decide +kernel) ⟨Nat.le_of_ble_eq_true rfl, Nat.le_of_ble_eq_true rfl⟩) (k_preV [0, 3] hK hN hZ hP hD hS hA rfl rfl (va_recv hK hP (ci := 8) (q0 := 0) rfl rfl)) rfl rfl hl.1 rfl (lv_room (Nat.le_of_ble_eq_true rfl)) dX9_holdsPart_152 ⟨Nat.le_refl _, Nat.le_refl _⟩) rfl rfl rfl rfl rfl (fun H locs hP hD hS => ?_)
            cases hf
            exact k_iret hx hb hr hlocks hAe hS hP hD dX9_holdsPart_155
          · replace hf := k_ifF c70_78 hf
            by_cases c70_112 : (v_signAt (Int32.toNatClampNeg x1)) = 112
            · replace hf := k_ifT c70_112 hf
              refine lv_lookup (tgt := 136) (off := 66) hx hb dX9_holdsPart_70 (by decide) (by rw [c70_112]; rfl) (by decide) ?_
              refine lv_aload_n hx hb dX9_holdsPart_136 rfl (lv_at hl 1 rfl) ?_
              refine va_get (D := D) (ci := 8) (v := .int v_pNow) (C := RX9) (T := TX9) (N := 41) hx hb hts inlX9 hown hK hP 0 rfl rfl 27 (by decide) (hts _ m_462) (fun _ h9 => h9) rfl dX9_holdsPart_137 ?_
              cases hf
              exact k_iret hx hb hr hlocks hAe hS hP hD dX9_holdsPart_140
            · replace hf := k_ifF c70_112 hf
              by_cases c70_113 : (v_signAt (Int32.toNatClampNeg x1)) = 113
              · replace hf := k_ifT c70_113 hf
                refine lv_lookup (tgt := 141) (off := 71) hx hb dX9_holdsPart_70 (by decide) (by rw [c70_113]; rfl) (by decide) ?_
                refine lv_aload_n hx hb dX9_holdsPart_141 rfl (lv_at hl 1 rfl) ?_
                refine va_get (D := D) (ci := 8) (v := .int v_qNow) (C := RX9) (T := TX9) (N := 41) hx hb hts inlX9 hown hK hP 0 rfl rfl 28 (by decide) (hts _ m_463) (fun _ h9 => h9) rfl dX9_holdsPart_142 ?_
                cases hf
                exact k_iret hx hb hr hlocks hAe hS hP hD dX9_holdsPart_145
              · replace hf := k_ifF c70_113 hf
                by_cases c70_124 : (v_signAt (Int32.toNatClampNeg x1)) = 124
                · replace hf := k_ifT c70_124 hf
                  refine lv_lookup (tgt := 167) (off := 97) hx hb dX9_holdsPart_70 (by decide) (by rw [c70_124]; rfl) (by decide) ?_
                  refine lv_iload_n hx hb dX9_holdsPart_167 rfl (lv_at hl 4 rfl) ?_
                  refine lv_iload hx hb dX9_holdsPart_168 (lv_at hl 0 rfl) ?_
                  refine lv_ior hx hb dX9_holdsPart_170 ?_
                  cases hf
                  exact k_iret hx hb hr hlocks hAe hS hP hD dX9_holdsPart_171
                · replace hf := k_ifF c70_124 hf
                  by_cases c70_126 : (v_signAt (Int32.toNatClampNeg x1)) = 126
                  · replace hf := k_ifT c70_126 hf
                    refine lv_lookup (tgt := 146) (off := 76) hx hb dX9_holdsPart_70 (by decide) (by rw [c70_126]; rfl) (by decide) ?_
                    refine lv_iload_n hx hb dX9_holdsPart_146 rfl (lv_at hl 3 rfl) ?_
                    refine lv_iload_n hx hb dX9_holdsPart_147 rfl (lv_at hl 4 rfl) ?_
                    refine lv_isub hx hb dX9_holdsPart_148 ?_
                    cases hf
                    exact k_iret hx hb hr hlocks hAe hS hP hD dX9_holdsPart_149
                  · replace hf := k_ifF c70_126 hf
                    refine lv_lookup (tgt := 172) (off := 102) hx hb dX9_holdsPart_70 (by decide) (by rw [lv_osw c70_38 (show (38 : Int32).toInt = 38 by decide)]; rw [lv_osw c70_77 (show (77 : Int32).toInt = 77 by decide)]; rw [lv_osw c70_78 (show (78 : Int32).toInt = 78 by decide)]; rw [lv_osw c70_112 (show (112 : Int32).toInt = 112 by decide)]; rw [lv_osw c70_113 (show (113 : Int32).toInt = 113 by decide)]; rw [lv_osw c70_124 (show (124 : Int32).toInt = 124 by decide)]; rw [lv_osw c70_126 (show (126 : Int32).toInt = 126 by decide)]; rfl) (by decide) ?_
                    refine lv_iload_n hx hb dX9_holdsPart_172 rfl (lv_at hl 3 rfl) ?_
                    refine lv_iload_n hx hb dX9_holdsPart_173 rfl (lv_at hl 4 rfl) ?_
                    refine lv_isub hx hb dX9_holdsPart_174 ?_
                    refine lv_iload hx hb dX9_holdsPart_175 (lv_at hl 0 rfl) ?_
                    refine lv_ior hx hb dX9_holdsPart_177 ?_
                    cases hf
                    exact k_iret hx hb hr hlocks hAe hS hP hD dX9_holdsPart_178
    · intro j42 hf hj42
      refine lv_icmp_ne (tgt := 61) hx hb dX9_holdsPart_42 (by decide) (fun c42 => ?_) (fun c42 => ?_)
      · replace hf := k_ifF c42 hf
        refine lv_iconst (v := 0) hx hb dX9_holdsPart_61 (by decide) ?_
        cases hf
        exact hj42 _ _ _ hP hD hS (lv_sub hl [1, 2, 3, 0] rfl)
      · replace hf := k_ifT c42 hf
        refine lv_aload_n hx hb dX9_holdsPart_45 rfl (lv_at hl 1 rfl) ?_
        refine va_get (D := D) (ci := 8) (v := .ref h_holds) (C := RX9) (T := TX9) (N := 41) hx hb hts inlX9 hown hK hP 0 rfl rfl 29 (by decide) (hts _ m_92) (fun _ h9 => h9) rfl dX9_holdsPart_46 ?_
        refine lv_aload_n hx hb dX9_holdsPart_49 rfl (lv_at hl 1 rfl) ?_
        refine va_get (D := D) (ci := 8) (v := .ref h_behind) (C := RX9) (T := TX9) (N := 41) hx hb hts inlX9 hown hK hP 0 rfl rfl 7 (by decide) (hts _ m_86) (fun _ h9 => h9) rfl dX9_holdsPart_50 ?_
        refine lv_iload_n hx hb dX9_holdsPart_53 rfl (lv_at hl 2 rfl) ?_
        refine lv_iconst (v := 1) hx hb dX9_holdsPart_54 (by decide) ?_
        refine lv_iadd hx hb dX9_holdsPart_55 ?_
        obtain ⟨hi56, hf⟩ := k_chk_some hf
        refine va_iald (D := D) hx hb hK hP 2 1 rfl rfl hi56 dX9_holdsPart_56 ?_
        obtain ⟨hi57, hf⟩ := k_chk_some hf
        refine va_iald (D := D) hx hb hK hP 4 1 rfl rfl hi57 dX9_holdsPart_57 ?_
        refine lv_goto (tgt := 62) hx hb dX9_holdsPart_58 (by decide) ?_
        cases hf
        exact hj42 _ _ _ hP hD hS (lv_sub hl [1, 2, 3, 0] rfl)
  · intro j16 hf hj16
    refine lv_icmp_ge (tgt := 30) hx hb dX9_holdsPart_16 (by decide) (fun c16 => ?_) (fun c16 => ?_)
    · replace hf := k_ifT c16 hf
      refine lv_iconst (v := 0) hx hb dX9_holdsPart_30 (by decide) ?_
      cases hf
      exact hj16 _ _ _ hP hD hS (lv_sub hl [1, 2, 0] rfl)
    · replace hf := k_ifF c16 hf
      refine lv_aload_n hx hb dX9_holdsPart_19 rfl (lv_at hl 1 rfl) ?_
      refine va_get (D := D) (ci := 8) (v := .ref h_holds) (C := RX9) (T := TX9) (N := 41) hx hb hts inlX9 hown hK hP 0 rfl rfl 29 (by decide) (hts _ m_92) (fun _ h9 => h9) rfl dX9_holdsPart_20 ?_
      refine lv_iload_n hx hb dX9_holdsPart_23 rfl (lv_at hl 2 rfl) ?_
      refine lv_iconst (v := 1) hx hb dX9_holdsPart_24 (by decide) ?_
      refine lv_iadd hx hb dX9_holdsPart_25 ?_
      obtain ⟨hi26, hf⟩ := k_chk_some hf
      refine va_iald (D := D) hx hb hK hP 4 1 rfl rfl hi26 dX9_holdsPart_26 ?_
      refine lv_goto (tgt := 31) hx hb dX9_holdsPart_27 (by decide) ?_
      cases hf
      exact hj16 _ _ _ hP hD hS (lv_sub hl [1, 2, 0] rfl)
