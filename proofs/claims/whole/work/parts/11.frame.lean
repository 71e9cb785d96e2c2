set_option maxHeartbeats 4000000 in
set_option maxRecDepth 100000 in
theorem k_X2_join (l : Launch) (D : va_G) (cB cI cJ cZ : ClassId) (tL tK : Nat) (h_this : Nat) (sz : Nat) (v_kind : Int32) (v_worlds : Int32) (v_arrows : Int32) (v_p : Int32) (v_q : Int32) (x1 : Int32) (x2 : Int32) (q : Int32) (hf : f_X2_join v_arrows x1 x2 = q) : Met l yX2_join (.code yX2_join cX2_join 3 none :: k_all) { frames := 0, cells := 0, slots := 0, locals := 0 } (k_P D cB cI cJ cZ tL tK [.ref h_this, .int x1, .int x2] [(h_this, o_X2 v_kind v_worlds v_arrows v_p v_q)] sz) (k_V D [(h_this, o_X2 v_kind v_worlds v_arrows v_p v_q)] [(h_this, o_X2 v_kind v_worlds q v_p v_q)] sz) 0 0 (va_A [(h_this, o_X2 v_kind v_worlds v_arrows v_p v_q)] sz) := by
  unfold f_X2_join at hf
  refine k_met RX2 rfl (by decide +kernel) (Nat.le_of_ble_eq_true rfl) ?_
  intro p e s m below meth c A ls hx hb hr hml hown hts hlocks hin hsz hAe hA hK hN hZ hD hS hP hl
  have hl : lv_has ls 3 [(0, .ref h_this), (1, .int x1), (2, .int x2)] := hl
  refine lv_aload_n hx hb dX2_join_0 rfl (lv_at hl 0 rfl) ?_
  refine lv_dup hx hb dX2_join_1 rfl ?_
  refine va_get (D := D) (ci := 2) (v := .int v_arrows) (C := RX2) (T := TX2) (N := 5) hx hb hts inlX2 hown hK hP 0 rfl rfl 2 (by decide) (hts _ m_160) (fun _ h9 => h9) rfl dX2_join_2 ?_
  refine lv_iload_n hx hb dX2_join_5 rfl (lv_at hl 2 rfl) ?_
  refine lv_iconst (v := 4) hx hb dX2_join_6 (by decide) ?_
  refine lv_iload_n hx hb dX2_join_7 rfl (lv_at hl 1 rfl) ?_
  refine lv_imul hx hb dX2_join_8 ?_
  refine lv_ishl hx hb dX2_join_9 ?_
  refine lv_ior hx hb dX2_join_10 ?_
  refine va_put (D := D) (ci := 2) (v := .int (v_arrows ||| (x2 <<< ((4 * x1) &&& 31)))) (ty := .int) (C := RX2) (T := TX2) (N := 5) hx hb hts inlX2 tyX2 tyX2_ok nmX2 hown hK hP hD hS 0 rfl rfl 2 (by decide) (hts _ m_160) (fun _ h9 => h9) rfl (by decide +kernel) rfl rfl (Nat.le_of_ble_eq_true rfl) dX2_join_11 (fun H locs hP hD hS => ?_)
  have hP : va_P D vwCl [(h_this, o_X2 v_kind v_worlds (v_arrows ||| (x2 <<< ((4 * x1) &&& 31))) v_p v_q)] H := hP
  have hD : va_D A [(h_this, o_X2 v_kind v_worlds (v_arrows ||| (x2 <<< ((4 * x1) &&& 31))) v_p v_q)] := hD
  subst hf
  exact k_vret hx hb hr hlocks hAe hS hP hD dX2_join_14
set_option maxHeartbeats 4000000 in
set_option maxRecDepth 100000 in
theorem k_X2_build (l : Launch) (D : va_G) (cB cI cJ cZ : ClassId) (tL tK : Nat) (h_this : Nat) (sz : Nat) (v_kind : Int32) (v_worlds : Int32) (v_arrows : Int32) (v_p : Int32) (v_q : Int32) (x1 : Int32) (x2 : Int32) (q : Int32 × Int32 × Int32 × Int32 × Int32) (hf : f_X2_build v_kind v_worlds v_arrows v_p v_q x1 x2 = some q) : Met l yX2_build (.code yX2_build cX2_build 4 none :: k_all) { frames := 1, cells := 0, slots := 0, locals := 22 } (k_P D cB cI cJ cZ tL tK [.ref h_this, .int x1, .int x2] [(h_this, o_X2 v_kind v_worlds v_arrows v_p v_q)] sz) (k_V D [(h_this, o_X2 v_kind v_worlds v_arrows v_p v_q)] [(h_this, o_X2 q.1 q.2.1 q.2.2.1 q.2.2.2.1 q.2.2.2.2)] sz) 0 0 (va_A [(h_this, o_X2 v_kind v_worlds v_arrows v_p v_q)] sz) := by
  unfold f_X2_build at hf
  refine k_met RX2 rfl (by decide +kernel) (Nat.le_of_ble_eq_true rfl) ?_
  intro p e s m below meth c A ls hx hb hr hml hown hts hlocks hin hsz hAe hA hK hN hZ hD hS hP hl
  have hl : lv_has ls 4 [(0, .ref h_this), (1, .int x1), (2, .int x2)] := hl
  refine lv_aload_n hx hb dX2_build_0 rfl (lv_at hl 0 rfl) ?_
  refine lv_iconst (v := 0) hx hb dX2_build_1 (by decide) ?_
  refine va_put (D := D) (ci := 2) (v := .int 0) (ty := .int) (C := RX2) (T := TX2) (N := 5) hx hb hts inlX2 tyX2 tyX2_ok nmX2 hown hK hP hD hS 0 rfl rfl 0 (by decide) (hts _ m_158) (fun _ h9 => h9) rfl (by decide +kernel) rfl rfl (Nat.le_of_ble_eq_true rfl) dX2_build_2 (fun H locs hP hD hS => ?_)
  have hP : va_P D vwCl [(h_this, o_X2 0 v_worlds v_arrows v_p v_q)] H := hP
  have hD : va_D A [(h_this, o_X2 0 v_worlds v_arrows v_p v_q)] := hD
  refine lv_aload_n hx hb dX2_build_5 rfl (lv_at hl 0 rfl) ?_
  refine lv_iload_n hx hb dX2_build_6 rfl (lv_at hl 1 rfl) ?_
  refine va_put (D := D) (ci := 2) (v := .int x1) (ty := .int) (C := RX2) (T := TX2) (N := 5) hx hb hts inlX2 tyX2 tyX2_ok nmX2 hown hK hP hD hS 0 rfl rfl 1 (by decide) (hts _ m_159) (fun _ h9 => h9) rfl (by decide +kernel) rfl rfl (Nat.le_of_ble_eq_true rfl) dX2_build_7 (fun H locs hP hD hS => ?_)
  have hP : va_P D vwCl [(h_this, o_X2 0 x1 v_arrows v_p v_q)] H := hP
  have hD : va_D A [(h_this, o_X2 0 x1 v_arrows v_p v_q)] := hD
  refine lv_aload_n hx hb dX2_build_10 rfl (lv_at hl 0 rfl) ?_
  refine lv_iconst (v := 0) hx hb dX2_build_11 (by decide) ?_
  refine va_put (D := D) (ci := 2) (v := .int 0) (ty := .int) (C := RX2) (T := TX2) (N := 5) hx hb hts inlX2 tyX2 tyX2_ok nmX2 hown hK hP hD hS 0 rfl rfl 2 (by decide) (hts _ m_160) (fun _ h9 => h9) rfl (by decide +kernel) rfl rfl (Nat.le_of_ble_eq_true rfl) dX2_build_12 (fun H locs hP hD hS => ?_)
  have hP : va_P D vwCl [(h_this, o_X2 0 x1 0 v_p v_q)] H := hP
  have hD : va_D A [(h_this, o_X2 0 x1 0 v_p v_q)] := hD
  refine lv_aload_n hx hb dX2_build_15 rfl (lv_at hl 0 rfl) ?_
  refine lv_iconst (v := 0) hx hb dX2_build_16 (by decide) ?_
  refine va_put (D := D) (ci := 2) (v := .int 0) (ty := .int) (C := RX2) (T := TX2) (N := 5) hx hb hts inlX2 tyX2 tyX2_ok nmX2 hown hK hP hD hS 0 rfl rfl 3 (by decide) (hts _ m_161) (fun _ h9 => h9) rfl (by decide +kernel) rfl rfl (Nat.le_of_ble_eq_true rfl) dX2_build_17 (fun H locs hP hD hS => ?_)
  have hP : va_P D vwCl [(h_this, o_X2 0 x1 0 0 v_q)] H := hP
  have hD : va_D A [(h_this, o_X2 0 x1 0 0 v_q)] := hD
  refine lv_aload_n hx hb dX2_build_20 rfl (lv_at hl 0 rfl) ?_
  refine lv_iconst (v := 0) hx hb dX2_build_21 (by decide) ?_
  refine va_put (D := D) (ci := 2) (v := .int 0) (ty := .int) (C := RX2) (T := TX2) (N := 5) hx hb hts inlX2 tyX2 tyX2_ok nmX2 hown hK hP hD hS 0 rfl rfl 4 (by decide) (hts _ m_162) (fun _ h9 => h9) rfl (by decide +kernel) rfl rfl (Nat.le_of_ble_eq_true rfl) dX2_build_22 (fun H locs hP hD hS => ?_)
  have hP : va_P D vwCl [(h_this, o_X2 0 x1 0 0 0)] H := hP
  have hD : va_D A [(h_this, o_X2 0 x1 0 0 0)] := hD
  refine lv_iconst (v := 0) hx hb dX2_build_25 (by decide) ?_
  refine lv_istore_n (lv' := [(3, .int 0), (0, .ref h_this), (1, .int x1), (2, .int x2)]) hx hb dX2_build_26 rfl hl (by decide) rfl (fun ls hl => ?_)
  refine k_wl 54 (wsf := fun (a27 : Int32 × Int32) => [(h_this, o_X2 0 x1 a27.2 0 0)]) (lvf := fun (a27 : Int32 × Int32) => [(0, .ref h_this), (1, .int x1), (2, .int x2), (3, .int a27.1)]) hf hP hD hS (lv_sub hl [1, 2, 3, 0] rfl) ?_ ?_
  · intro a27 H locs ls hf hP hD hS hl
    have hP : va_P D vwCl [(h_this, o_X2 0 x1 a27.2 0 0)] H := hP
    have hD : va_D A [(h_this, o_X2 0 x1 a27.2 0 0)] := hD
    have hl : lv_has ls 4 [(0, .ref h_this), (1, .int x1), (2, .int x2), (3, .int a27.1)] := hl
    cases hf
    exact k_vret hx hb hr hlocks hAe hS hP hD dX2_build_54
  · intro ex27 rc27 hE27 hR27 a27 H locs ls hf hP hD hS hl
    have hP : va_P D vwCl [(h_this, o_X2 0 x1 a27.2 0 0)] H := hP
    have hD : va_D A [(h_this, o_X2 0 x1 a27.2 0 0)] := hD
    have hl : lv_has ls 4 [(0, .ref h_this), (1, .int x1), (2, .int x2), (3, .int a27.1)] := hl
    refine lv_iload_n hx hb dX2_build_27 rfl (lv_at hl 3 rfl) ?_
    refine lv_iload_n hx hb dX2_build_28 rfl (lv_at hl 1 rfl) ?_
    refine lv_icmp_ge (tgt := 54) hx hb dX2_build_29 (by decide) (fun c29 => ?_) (fun c29 => ?_)
    · replace hf := k_ifT c29 hf
      exact hE27 _ _ _ _ hf hP hD hS (lv_sub hl [0, 1, 2, 3] rfl)
    · replace hf := k_ifF c29 hf
      refine lv_aload_n hx hb dX2_build_32 rfl (lv_at hl 0 rfl) ?_
      refine lv_iload_n hx hb dX2_build_33 rfl (lv_at hl 3 rfl) ?_
      refine lv_iload_n hx hb dX2_build_34 rfl (lv_at hl 2 rfl) ?_
      refine lv_iload_n hx hb dX2_build_35 rfl (lv_at hl 1 rfl) ?_
      refine lv_iload_n hx hb dX2_build_36 rfl (lv_at hl 3 rfl) ?_
      refine lv_imul hx hb dX2_build_37 ?_
      refine lv_ishr hx hb dX2_build_38 ?_
      refine lv_iconst (v := 1) hx hb dX2_build_39 (by decide) ?_
      refine lv_iload_n hx hb dX2_build_40 rfl (lv_at hl 1 rfl) ?_
      refine lv_ishl hx hb dX2_build_41 ?_
      refine lv_iconst (v := 1) hx hb dX2_build_42 (by decide) ?_
      refine lv_isub hx hb dX2_build_43 ?_
      refine lv_iand hx hb dX2_build_44 ?_
      obtain ⟨q45, hq45, hf⟩ := k_let_ex hf
      refine k_callv (wN := [(h_this, o_X2 0 x1 q45 0 0)]) [0] [] [0] hP hD hS hA (va_runV (As := [.int a27.1, .int ((x2 >>> ((x1 * a27.1) &&& 31)) &&& (((1 : Int32) <<< (x1 &&& 31)) - 1))]) (rest := []) ⟨hx, hb, hml, hown, hts⟩ (k_X2_join l D cB cI cJ cZ tL tK h_this _ 0 x1 a27.2 0 0 a27.1 ((x2 >>> ((x1 * a27.1) &&& 31)) &&& (((1 : Int32) <<< (x1 &&& 31)) - 1)) q45 hq45) (cwV 2 hts (k_gV m_166 m_163 m_164 m_165 m_26) rfl rfl rfl (by decide +kernel) ⟨Nat.le_of_ble_eq_true rfl, Nat.le_of_ble_eq_true rfl⟩) (k_preV [0] hK hN hZ hP hD hS hA rfl rfl (va_recv hK hP (ci := 2) (q0 := 0) rfl rfl)) rfl rfl hl.1 rfl (lv_room (Nat.le_of_ble_eq_true rfl)) dX2_build_45 ⟨Nat.le_refl _, Nat.le_refl _⟩) rfl rfl rfl rfl rfl (fun H locs hP hD hS => ?_)
      refine lv_iinc (v := (a27.1 + 1)) (lv' := [(3, .int (a27.1 + 1)), (0, .ref h_this), (1, .int x1), (2, .int x2)]) hx hb dX2_build_48 hl (k := 3) rfl rfl (by decide) rfl (fun ls hl => ?_)
      refine lv_goto (tgt := 27) hx hb dX2_build_51 (by decide) ?_
      exact hR27 _ _ _ _ hf hP hD hS (lv_sub hl [1, 2, 3, 0] rfl)
set_option maxHeartbeats 4000000 in
set_option maxRecDepth 100000 in
theorem k_X2_marks (l : Launch) (D : va_G) (cB cI cJ cZ : ClassId) (tL tK : Nat) (h_this : Nat) (sz : Nat) (v_kind : Int32) (v_worlds : Int32) (v_arrows : Int32) (v_p : Int32) (v_q : Int32) (x1 : Int32) (q : Int32) (hf : f_X2_marks v_p v_q x1 = q) : Met l yX2_marks (.code yX2_marks cX2_marks 2 (some .int) :: k_all) { frames := 1, cells := 0, slots := 0, locals := 21 } (k_P D cB cI cJ cZ tL tK [.ref h_this, .int x1] [(h_this, o_X2 v_kind v_worlds v_arrows v_p v_q)] sz) (k_I D q [(h_this, o_X2 v_kind v_worlds v_arrows v_p v_q)] [(h_this, o_X2 v_kind v_worlds v_arrows v_p v_q)] sz) 0 0 (va_A [(h_this, o_X2 v_kind v_worlds v_arrows v_p v_q)] sz) := by
  unfold f_X2_marks at hf
  refine k_met RX2 rfl (by decide +kernel) (Nat.le_of_ble_eq_true rfl) ?_
  intro p e s m below meth c A ls hx hb hr hml hown hts hlocks hin hsz hAe hA hK hN hZ hD hS hP hl
  have hl : lv_has ls 2 [(0, .ref h_this), (1, .int x1)] := hl
  refine lv_aload_n hx hb dX2_marks_0 rfl (lv_at hl 0 rfl) ?_
  refine va_get (D := D) (ci := 2) (v := .int v_p) (C := RX2) (T := TX2) (N := 5) hx hb hts inlX2 hown hK hP 0 rfl rfl 3 (by decide) (hts _ m_161) (fun _ h9 => h9) rfl dX2_marks_1 ?_
  refine lv_iload_n hx hb dX2_marks_4 rfl (lv_at hl 1 rfl) ?_
  refine k_calli (wN := [(h_this, o_X2 v_kind v_worlds v_arrows v_p v_q)]) [] [0] [0] hP hD hS hA (va_runSN (As := [.int v_p, .int x1]) (rest := []) ⟨hx, hb, hml, hown, hts⟩ (k_X8_bit l D cB cI cJ cZ tL tK _ v_p x1 (f_X8_bit v_p x1) rfl) ⟨va_cnB 2 hts (k_gB m_230) rfl rfl rfl (hN.1 _ (List.mem_of_getElem? (i := 12) rfl)) (hts _ m_2) (by decide +kernel) ⟨Nat.le_of_ble_eq_true rfl, Nat.le_of_ble_eq_true rfl⟩, (hts _ m_229), trivial⟩ (k_preS [] hK hN hZ hP hD hS hA rfl rfl) rfl rfl hl.1 rfl (lv_room (Nat.le_of_ble_eq_true rfl)) dX2_marks_5 ⟨Nat.le_refl _, Nat.le_refl _⟩) rfl rfl rfl rfl rfl (fun H locs hP hD hS => ?_)
  refine lv_iconst (v := 2) hx hb dX2_marks_8 (by decide) ?_
  refine lv_aload_n hx hb dX2_marks_9 rfl (lv_at hl 0 rfl) ?_
  refine va_get (D := D) (ci := 2) (v := .int v_q) (C := RX2) (T := TX2) (N := 5) hx hb hts inlX2 hown hK hP 0 rfl rfl 4 (by decide) (hts _ m_162) (fun _ h9 => h9) rfl dX2_marks_10 ?_
  refine lv_iload_n hx hb dX2_marks_13 rfl (lv_at hl 1 rfl) ?_
  refine k_calli (wN := [(h_this, o_X2 v_kind v_worlds v_arrows v_p v_q)]) [] [0] [0] hP hD hS hA (va_runSN (As := [.int v_q, .int x1]) (rest := [.int 2, .int (f_X8_bit v_p x1)]) ⟨hx, hb, hml, hown, hts⟩ (k_X8_bit l D cB cI cJ cZ tL tK _ v_q x1 (f_X8_bit v_q x1) rfl) ⟨va_cnB 2 hts (k_gB m_230) rfl rfl rfl (hN.1 _ (List.mem_of_getElem? (i := 12) rfl)) (hts _ m_2) (by decide +kernel) ⟨Nat.le_of_ble_eq_true rfl, Nat.le_of_ble_eq_true rfl⟩, (hts _ m_229), trivial⟩ (k_preS [] hK hN hZ hP hD hS hA rfl rfl) rfl rfl hl.1 rfl (lv_room (Nat.le_of_ble_eq_true rfl)) dX2_marks_14 ⟨Nat.le_refl _, Nat.le_refl _⟩) rfl rfl rfl rfl rfl (fun H locs hP hD hS => ?_)
  refine lv_imul hx hb dX2_marks_17 ?_
  refine lv_iadd hx hb dX2_marks_18 ?_
  subst hf
  exact k_iret hx hb hr hlocks hAe hS hP hD dX2_marks_19
set_option maxHeartbeats 4000000 in
set_option maxRecDepth 100000 in
theorem k_X2_setMarks (l : Launch) (D : va_G) (cB cI cJ cZ : ClassId) (tL tK : Nat) (h_this : Nat) (sz : Nat) (v_kind : Int32) (v_worlds : Int32) (v_arrows : Int32) (v_p : Int32) (v_q : Int32) (x1 : Int32) (x2 : Int32) (q : Int32 × Int32) (hf : f_X2_setMarks v_p v_q x1 x2 = q) : Met l yX2_setMarks (.code yX2_setMarks cX2_setMarks 3 none :: k_all) { frames := 1, cells := 0, slots := 0, locals := 21 } (k_P D cB cI cJ cZ tL tK [.ref h_this, .int x1, .int x2] [(h_this, o_X2 v_kind v_worlds v_arrows v_p v_q)] sz) (k_V D [(h_this, o_X2 v_kind v_worlds v_arrows v_p v_q)] [(h_this, o_X2 v_kind v_worlds v_arrows q.1 q.2)] sz) 0 0 (va_A [(h_this, o_X2 v_kind v_worlds v_arrows v_p v_q)] sz) := by
  unfold f_X2_setMarks at hf
  refine k_met RX2 rfl (by decide +kernel) (Nat.le_of_ble_eq_true rfl) ?_
  intro p e s m below meth c A ls hx hb hr hml hown hts hlocks hin hsz hAe hA hK hN hZ hD hS hP hl
  have hl : lv_has ls 3 [(0, .ref h_this), (1, .int x1), (2, .int x2)] := hl
  refine lv_aload_n hx hb dX2_setMarks_0 rfl (lv_at hl 0 rfl) ?_
  refine lv_aload_n hx hb dX2_setMarks_1 rfl (lv_at hl 0 rfl) ?_
  refine va_get (D := D) (ci := 2) (v := .int v_p) (C := RX2) (T := TX2) (N := 5) hx hb hts inlX2 hown hK hP 0 rfl rfl 3 (by decide) (hts _ m_161) (fun _ h9 => h9) rfl dX2_setMarks_2 ?_
  refine lv_iconst (v := 1) hx hb dX2_setMarks_5 (by decide) ?_
  refine lv_iload_n hx hb dX2_setMarks_6 rfl (lv_at hl 1 rfl) ?_
  refine lv_ishl hx hb dX2_setMarks_7 ?_
  refine lv_iconst (v := (-1)) hx hb dX2_setMarks_8 (by decide) ?_
  refine lv_ixor hx hb dX2_setMarks_9 ?_
  refine lv_iand hx hb dX2_setMarks_10 ?_
  refine lv_iload_n hx hb dX2_setMarks_11 rfl (lv_at hl 2 rfl) ?_
  refine lv_iconst (v := 0) hx hb dX2_setMarks_12 (by decide) ?_
  refine k_calli (wN := [(h_this, o_X2 v_kind v_worlds v_arrows v_p v_q)]) [] [0] [0] hP hD hS hA (va_runSN (As := [.int x2, .int 0]) (rest := [.int (v_p &&& (((1 : Int32) <<< (x1 &&& 31)) ^^^ (-1))), .ref h_this]) ⟨hx, hb, hml, hown, hts⟩ (k_X8_bit l D cB cI cJ cZ tL tK _ x2 0 (f_X8_bit x2 0) rfl) ⟨va_cnB 2 hts (k_gB m_230) rfl rfl rfl (hN.1 _ (List.mem_of_getElem? (i := 12) rfl)) (hts _ m_2) (by decide +kernel) ⟨Nat.le_of_ble_eq_true rfl, Nat.le_of_ble_eq_true rfl⟩, (hts _ m_229), trivial⟩ (k_preS [] hK hN hZ hP hD hS hA rfl rfl) rfl rfl hl.1 rfl (lv_room (Nat.le_of_ble_eq_true rfl)) dX2_setMarks_13 ⟨Nat.le_refl _, Nat.le_refl _⟩) rfl rfl rfl rfl rfl (fun H locs hP hD hS => ?_)
  refine lv_iload_n hx hb dX2_setMarks_16 rfl (lv_at hl 1 rfl) ?_
  refine lv_ishl hx hb dX2_setMarks_17 ?_
  refine lv_ior hx hb dX2_setMarks_18 ?_
  refine lv_topi (fun y19 ey19 => ?_)
  replace hf := k_let_at ey19 hf
  refine va_put (D := D) (ci := 2) (v := .int y19) (ty := .int) (C := RX2) (T := TX2) (N := 5) hx hb hts inlX2 tyX2 tyX2_ok nmX2 hown hK hP hD hS 0 rfl rfl 3 (by decide) (hts _ m_161) (fun _ h9 => h9) rfl (by decide +kernel) rfl rfl (Nat.le_of_ble_eq_true rfl) dX2_setMarks_19 (fun H locs hP hD hS => ?_)
  have hP : va_P D vwCl [(h_this, o_X2 v_kind v_worlds v_arrows y19 v_q)] H := hP
  have hD : va_D A [(h_this, o_X2 v_kind v_worlds v_arrows y19 v_q)] := hD
  refine lv_aload_n hx hb dX2_setMarks_22 rfl (lv_at hl 0 rfl) ?_
  refine lv_aload_n hx hb dX2_setMarks_23 rfl (lv_at hl 0 rfl) ?_
  refine va_get (D := D) (ci := 2) (v := .int v_q) (C := RX2) (T := TX2) (N := 5) hx hb hts inlX2 hown hK hP 0 rfl rfl 4 (by decide) (hts _ m_162) (fun _ h9 => h9) rfl dX2_setMarks_24 ?_
  refine lv_iconst (v := 1) hx hb dX2_setMarks_27 (by decide) ?_
  refine lv_iload_n hx hb dX2_setMarks_28 rfl (lv_at hl 1 rfl) ?_
  refine lv_ishl hx hb dX2_setMarks_29 ?_
  refine lv_iconst (v := (-1)) hx hb dX2_setMarks_30 (by decide) ?_
  refine lv_ixor hx hb dX2_setMarks_31 ?_
  refine lv_iand hx hb dX2_setMarks_32 ?_
  refine lv_iload_n hx hb dX2_setMarks_33 rfl (lv_at hl 2 rfl) ?_
  refine lv_iconst (v := 1) hx hb dX2_setMarks_34 (by decide) ?_
  refine k_calli (wN := [(h_this, o_X2 v_kind v_worlds v_arrows y19 v_q)]) [] [0] [0] hP hD hS hA (va_runSN (As := [.int x2, .int 1]) (rest := [.int (v_q &&& (((1 : Int32) <<< (x1 &&& 31)) ^^^ (-1))), .ref h_this]) ⟨hx, hb, hml, hown, hts⟩ (k_X8_bit l D cB cI cJ cZ tL tK _ x2 1 (f_X8_bit x2 1) rfl) ⟨va_cnB 2 hts (k_gB m_230) rfl rfl rfl (hN.1 _ (List.mem_of_getElem? (i := 12) rfl)) (hts _ m_2) (by decide +kernel) ⟨Nat.le_of_ble_eq_true rfl, Nat.le_of_ble_eq_true rfl⟩, (hts _ m_229), trivial⟩ (k_preS [] hK hN hZ hP hD hS hA rfl rfl) rfl rfl hl.1 rfl (lv_room (Nat.le_of_ble_eq_true rfl)) dX2_setMarks_35 ⟨Nat.le_refl _, Nat.le_refl _⟩) rfl rfl rfl rfl rfl (fun H locs hP hD hS => ?_)
  refine lv_iload_n hx hb dX2_setMarks_38 rfl (lv_at hl 1 rfl) ?_
  refine lv_ishl hx hb dX2_setMarks_39 ?_
  refine lv_ior hx hb dX2_setMarks_40 ?_
  refine lv_topi (fun y41 ey41 => ?_)
  replace hf := k_let_at ey41 hf
  refine va_put (D := D) (ci := 2) (v := .int y41) (ty := .int) (C := RX2) (T := TX2) (N := 5) hx hb hts inlX2 tyX2 tyX2_ok nmX2 hown hK hP hD hS 0 rfl rfl 4 (by decide) (hts _ m_162) (fun _ h9 => h9) rfl (by decide +kernel) rfl rfl (Nat.le_of_ble_eq_true rfl) dX2_setMarks_41 (fun H locs hP hD hS => ?_)
  have hP : va_P D vwCl [(h_this, o_X2 v_kind v_worlds v_arrows y19 y41)] H := hP
  have hD : va_D A [(h_this, o_X2 v_kind v_worlds v_arrows y19 y41)] := hD
  subst hf
  exact k_vret hx hb hr hlocks hAe hS hP hD dX2_setMarks_44
set_option maxHeartbeats 4000000 in
set_option maxRecDepth 100000 in
theorem k_X2_has (l : Launch) (D : va_G) (cB cI cJ cZ : ClassId) (tL tK : Nat) (h_this : Nat) (sz : Nat) (v_kind : Int32) (v_worlds : Int32) (v_arrows : Int32) (v_p : Int32) (v_q : Int32) (x1 : Int32) (x2 : Int32) (q : Int32) (hf : f_X2_has v_arrows x1 x2 = q) : Met l yX2_has (.code yX2_has cX2_has 3 (some .boolean) :: k_all) { frames := 0, cells := 0, slots := 0, locals := 0 } (k_P D cB cI cJ cZ tL tK [.ref h_this, .int x1, .int x2] [(h_this, o_X2 v_kind v_worlds v_arrows v_p v_q)] sz) (k_I D q [(h_this, o_X2 v_kind v_worlds v_arrows v_p v_q)] [(h_this, o_X2 v_kind v_worlds v_arrows v_p v_q)] sz) 0 0 (va_A [(h_this, o_X2 v_kind v_worlds v_arrows v_p v_q)] sz) := by
  unfold f_X2_has at hf
  refine k_met RX2 rfl (by decide +kernel) (Nat.le_of_ble_eq_true rfl) ?_
  intro p e s m below meth c A ls hx hb hr hml hown hts hlocks hin hsz hAe hA hK hN hZ hD hS hP hl
  have hl : lv_has ls 3 [(0, .ref h_this), (1, .int x1), (2, .int x2)] := hl
  refine lv_aload_n hx hb dX2_has_0 rfl (lv_at hl 0 rfl) ?_
  refine va_get (D := D) (ci := 2) (v := .int v_arrows) (C := RX2) (T := TX2) (N := 5) hx hb hts inlX2 hown hK hP 0 rfl rfl 2 (by decide) (hts _ m_160) (fun _ h9 => h9) rfl dX2_has_1 ?_
  refine lv_iconst (v := 4) hx hb dX2_has_4 (by decide) ?_
  refine lv_iload_n hx hb dX2_has_5 rfl (lv_at hl 1 rfl) ?_
  refine lv_imul hx hb dX2_has_6 ?_
  refine lv_iload_n hx hb dX2_has_7 rfl (lv_at hl 2 rfl) ?_
  refine lv_iadd hx hb dX2_has_8 ?_
  refine lv_ishr hx hb dX2_has_9 ?_
  refine lv_iconst (v := 1) hx hb dX2_has_10 (by decide) ?_
  refine lv_iand hx hb dX2_has_11 ?_
  refine lv_iconst (v := 1) hx hb dX2_has_12 (by decide) ?_
  refine lv_icmp_ne (tgt := 20) hx hb dX2_has_13 (by decide) (fun c13 => ?_) (fun c13 => ?_)
  · replace hf := k_ifF c13 hf
    refine lv_iconst (v := 0) hx hb dX2_has_20 (by decide) ?_
    subst hf
    exact k_zret (r := 0) hx hb hr rfl hlocks hAe hS hP hD dX2_has_21
  · replace hf := k_ifT c13 hf
    refine lv_iconst (v := 1) hx hb dX2_has_16 (by decide) ?_
    refine lv_goto (tgt := 21) hx hb dX2_has_17 (by decide) ?_
    subst hf
    exact k_zret (r := 1) hx hb hr rfl hlocks hAe hS hP hD dX2_has_21
set_option maxHeartbeats 4000000 in
set_option maxRecDepth 100000 in
theorem k_X2_pair (l : Launch) (D : va_G) (cB cI cJ cZ : ClassId) (tL tK : Nat) (sz : Nat)  (x1 : Int32) (x2 : Int32) (q : Int32) (hf : f_X2_pair x1 x2 = q) : Met l yX2_pair (.code yX2_pair cX2_pair 2 (some .int) :: k_all) { frames := 0, cells := 0, slots := 0, locals := 0 } (k_P D cB cI cJ cZ tL tK [.int x1, .int x2] [] sz) (k_I D q [] [] sz) 0 0 (va_A [] sz) := by
  unfold f_X2_pair at hf
  refine k_met RX2 rfl (by decide +kernel) (Nat.le_of_ble_eq_true rfl) ?_
  intro p e s m below meth c A ls hx hb hr hml hown hts hlocks hin hsz hAe hA hK hN hZ hD hS hP hl
  have hl : lv_has ls 2 [(0, .int x1), (1, .int x2)] := hl
  refine lv_iconst (v := 1) hx hb dX2_pair_0 (by decide) ?_
  refine lv_iconst (v := 4) hx hb dX2_pair_1 (by decide) ?_
  refine lv_iload_n hx hb dX2_pair_2 rfl (lv_at hl 0 rfl) ?_
  refine lv_imul hx hb dX2_pair_3 ?_
  refine lv_iload_n hx hb dX2_pair_4 rfl (lv_at hl 1 rfl) ?_
  refine lv_iadd hx hb dX2_pair_5 ?_
  refine lv_ishl hx hb dX2_pair_6 ?_
  subst hf
  exact k_iret hx hb hr hlocks hAe hS hP hD dX2_pair_7
set_option maxHeartbeats 4000000 in
set_option maxRecDepth 100000 in
theorem k_X2_turn (l : Launch) (D : va_G) (cB cI cJ cZ : ClassId) (tL tK : Nat) (h_this : Nat) (sz : Nat) (v_kind : Int32) (v_worlds : Int32) (v_arrows : Int32) (v_p : Int32) (v_q : Int32) (x1 : Int32) (x2 : Int32) (q : Int32) (hf : f_X2_turn v_arrows x1 x2 = q) : Met l yX2_turn (.code yX2_turn cX2_turn 3 none :: k_all) { frames := 1, cells := 0, slots := 0, locals := 21 } (k_P D cB cI cJ cZ tL tK [.ref h_this, .int x1, .int x2] [(h_this, o_X2 v_kind v_worlds v_arrows v_p v_q)] sz) (k_V D [(h_this, o_X2 v_kind v_worlds v_arrows v_p v_q)] [(h_this, o_X2 v_kind v_worlds q v_p v_q)] sz) 0 0 (va_A [(h_this, o_X2 v_kind v_worlds v_arrows v_p v_q)] sz) := by
  unfold f_X2_turn at hf
  refine k_met RX2 rfl (by decide +kernel) (Nat.le_of_ble_eq_true rfl) ?_
  intro p e s m below meth c A ls hx hb hr hml hown hts hlocks hin hsz hAe hA hK hN hZ hD hS hP hl
  have hl : lv_has ls 3 [(0, .ref h_this), (1, .int x1), (2, .int x2)] := hl
  refine lv_aload_n hx hb dX2_turn_0 rfl (lv_at hl 0 rfl) ?_
  refine lv_dup hx hb dX2_turn_1 rfl ?_
  refine va_get (D := D) (ci := 2) (v := .int v_arrows) (C := RX2) (T := TX2) (N := 5) hx hb hts inlX2 hown hK hP 0 rfl rfl 2 (by decide) (hts _ m_160) (fun _ h9 => h9) rfl dX2_turn_2 ?_
  refine lv_iload_n hx hb dX2_turn_5 rfl (lv_at hl 1 rfl) ?_
  refine lv_iload_n hx hb dX2_turn_6 rfl (lv_at hl 2 rfl) ?_
  refine k_calli (wN := [(h_this, o_X2 v_kind v_worlds v_arrows v_p v_q)]) [] [0] [0] hP hD hS hA (va_runS (As := [.int x1, .int x2]) (rest := [.int v_arrows, .ref h_this]) ⟨hx, hb, hml, hown, hts⟩ (k_X2_pair l D cB cI cJ cZ tL tK _ x1 x2 (f_X2_pair x1 x2) rfl) (va_cwS 2 hts (k_gS m_220 m_218 m_219 m_26) rfl rfl rfl (by decide +kernel) ⟨Nat.le_of_ble_eq_true rfl, Nat.le_of_ble_eq_true rfl⟩) (k_preS [] hK hN hZ hP hD hS hA rfl rfl) rfl rfl hl.1 rfl (lv_room (Nat.le_of_ble_eq_true rfl)) dX2_turn_7 ⟨Nat.le_refl _, Nat.le_refl _⟩) rfl rfl rfl rfl rfl (fun H locs hP hD hS => ?_)
  refine lv_ixor hx hb dX2_turn_10 ?_
  refine va_put (D := D) (ci := 2) (v := .int (v_arrows ^^^ (f_X2_pair x1 x2))) (ty := .int) (C := RX2) (T := TX2) (N := 5) hx hb hts inlX2 tyX2 tyX2_ok nmX2 hown hK hP hD hS 0 rfl rfl 2 (by decide) (hts _ m_160) (fun _ h9 => h9) rfl (by decide +kernel) rfl rfl (Nat.le_of_ble_eq_true rfl) dX2_turn_11 (fun H locs hP hD hS => ?_)
  have hP : va_P D vwCl [(h_this, o_X2 v_kind v_worlds (v_arrows ^^^ (f_X2_pair x1 x2)) v_p v_q)] H := hP
  have hD : va_D A [(h_this, o_X2 v_kind v_worlds (v_arrows ^^^ (f_X2_pair x1 x2)) v_p v_q)] := hD
  subst hf
  exact k_vret hx hb hr hlocks hAe hS hP hD dX2_turn_14
set_option maxHeartbeats 4000000 in
set_option maxRecDepth 100000 in
theorem k_X2_copy (l : Launch) (D : va_G) (cB cI cJ cZ : ClassId) (tL tK : Nat) (h_this h_x1 : Nat) (sz : Nat) (v_kind : Int32) (v_worlds : Int32) (v_arrows : Int32) (v_p : Int32) (v_q : Int32) (v_x1_kind : Int32) (v_x1_worlds : Int32) (v_x1_arrows : Int32) (v_x1_p : Int32) (v_x1_q : Int32)  (q : Int32 × Int32 × Int32 × Int32 × Int32) (hf : f_X2_copy v_kind v_worlds v_arrows v_p v_q v_x1_kind v_x1_worlds v_x1_arrows v_x1_p v_x1_q = q) : Met l yX2_copy (.code yX2_copy cX2_copy 2 none :: k_all) { frames := 0, cells := 0, slots := 0, locals := 0 } (k_P D cB cI cJ cZ tL tK [.ref h_this, .ref h_x1] [(h_this, o_X2 v_kind v_worlds v_arrows v_p v_q), (h_x1, o_X2 v_x1_kind v_x1_worlds v_x1_arrows v_x1_p v_x1_q)] sz) (k_V D [(h_this, o_X2 v_kind v_worlds v_arrows v_p v_q), (h_x1, o_X2 v_x1_kind v_x1_worlds v_x1_arrows v_x1_p v_x1_q)] [(h_this, o_X2 q.1 q.2.1 q.2.2.1 q.2.2.2.1 q.2.2.2.2), (h_x1, o_X2 v_x1_kind v_x1_worlds v_x1_arrows v_x1_p v_x1_q)] sz) 0 0 (va_A [(h_this, o_X2 v_kind v_worlds v_arrows v_p v_q), (h_x1, o_X2 v_x1_kind v_x1_worlds v_x1_arrows v_x1_p v_x1_q)] sz) := by
  unfold f_X2_copy at hf
  refine k_met RX2 rfl (by decide +kernel) (Nat.le_of_ble_eq_true rfl) ?_
  intro p e s m below meth c A ls hx hb hr hml hown hts hlocks hin hsz hAe hA hK hN hZ hD hS hP hl
  have hl : lv_has ls 2 [(0, .ref h_this), (1, .ref h_x1)] := hl
  refine lv_aload_n hx hb dX2_copy_0 rfl (lv_at hl 0 rfl) ?_
  refine lv_aload_n hx hb dX2_copy_1 rfl (lv_at hl 1 rfl) ?_
  refine va_get (D := D) (ci := 2) (v := .int v_x1_kind) (C := RX2) (T := TX2) (N := 5) hx hb hts inlX2 hown hK hP 1 rfl rfl 0 (by decide) (hts _ m_158) (fun _ h9 => h9) rfl dX2_copy_2 ?_
  refine va_put (D := D) (ci := 2) (v := .int v_x1_kind) (ty := .int) (C := RX2) (T := TX2) (N := 5) hx hb hts inlX2 tyX2 tyX2_ok nmX2 hown hK hP hD hS 0 rfl rfl 0 (by decide) (hts _ m_158) (fun _ h9 => h9) rfl (by decide +kernel) rfl rfl (Nat.le_of_ble_eq_true rfl) dX2_copy_5 (fun H locs hP hD hS => ?_)
  have hP : va_P D vwCl [(h_this, o_X2 v_x1_kind v_worlds v_arrows v_p v_q), (h_x1, o_X2 v_x1_kind v_x1_worlds v_x1_arrows v_x1_p v_x1_q)] H := hP
  have hD : va_D A [(h_this, o_X2 v_x1_kind v_worlds v_arrows v_p v_q), (h_x1, o_X2 v_x1_kind v_x1_worlds v_x1_arrows v_x1_p v_x1_q)] := hD
  refine lv_aload_n hx hb dX2_copy_8 rfl (lv_at hl 0 rfl) ?_
  refine lv_aload_n hx hb dX2_copy_9 rfl (lv_at hl 1 rfl) ?_
  refine va_get (D := D) (ci := 2) (v := .int v_x1_worlds) (C := RX2) (T := TX2) (N := 5) hx hb hts inlX2 hown hK hP 1 rfl rfl 1 (by decide) (hts _ m_159) (fun _ h9 => h9) rfl dX2_copy_10 ?_
  refine va_put (D := D) (ci := 2) (v := .int v_x1_worlds) (ty := .int) (C := RX2) (T := TX2) (N := 5) hx hb hts inlX2 tyX2 tyX2_ok nmX2 hown hK hP hD hS 0 rfl rfl 1 (by decide) (hts _ m_159) (fun _ h9 => h9) rfl (by decide +kernel) rfl rfl (Nat.le_of_ble_eq_true rfl) dX2_copy_13 (fun H locs hP hD hS => ?_)
  have hP : va_P D vwCl [(h_this, o_X2 v_x1_kind v_x1_worlds v_arrows v_p v_q), (h_x1, o_X2 v_x1_kind v_x1_worlds v_x1_arrows v_x1_p v_x1_q)] H := hP
  have hD : va_D A [(h_this, o_X2 v_x1_kind v_x1_worlds v_arrows v_p v_q), (h_x1, o_X2 v_x1_kind v_x1_worlds v_x1_arrows v_x1_p v_x1_q)] := hD
  refine lv_aload_n hx hb dX2_copy_16 rfl (lv_at hl 0 rfl) ?_
  refine lv_aload_n hx hb dX2_copy_17 rfl (lv_at hl 1 rfl) ?_
  refine va_get (D := D) (ci := 2) (v := .int v_x1_arrows) (C := RX2) (T := TX2) (N := 5) hx hb hts inlX2 hown hK hP 1 rfl rfl 2 (by decide) (hts _ m_160) (fun _ h9 => h9) rfl dX2_copy_18 ?_
  refine va_put (D := D) (ci := 2) (v := .int v_x1_arrows) (ty := .int) (C := RX2) (T := TX2) (N := 5) hx hb hts inlX2 tyX2 tyX2_ok nmX2 hown hK hP hD hS 0 rfl rfl 2 (by decide) (hts _ m_160) (fun _ h9 => h9) rfl (by decide +kernel) rfl rfl (Nat.le_of_ble_eq_true rfl) dX2_copy_21 (fun H locs hP hD hS => ?_)
  have hP : va_P D vwCl [(h_this, o_X2 v_x1_kind v_x1_worlds v_x1_arrows v_p v_q), (h_x1, o_X2 v_x1_kind v_x1_worlds v_x1_arrows v_x1_p v_x1_q)] H := hP
  have hD : va_D A [(h_this, o_X2 v_x1_kind v_x1_worlds v_x1_arrows v_p v_q), (h_x1, o_X2 v_x1_kind v_x1_worlds v_x1_arrows v_x1_p v_x1_q)] := hD
  refine lv_aload_n hx hb dX2_copy_24 rfl (lv_at hl 0 rfl) ?_
  refine lv_aload_n hx hb dX2_copy_25 rfl (lv_at hl 1 rfl) ?_
  refine va_get (D := D) (ci := 2) (v := .int v_x1_p) (C := RX2) (T := TX2) (N := 5) hx hb hts inlX2 hown hK hP 1 rfl rfl 3 (by decide) (hts _ m_161) (fun _ h9 => h9) rfl dX2_copy_26 ?_
  refine va_put (D := D) (ci := 2) (v := .int v_x1_p) (ty := .int) (C := RX2) (T := TX2) (N := 5) hx hb hts inlX2 tyX2 tyX2_ok nmX2 hown hK hP hD hS 0 rfl rfl 3 (by decide) (hts _ m_161) (fun _ h9 => h9) rfl (by decide +kernel) rfl rfl (Nat.le_of_ble_eq_true rfl) dX2_copy_29 (fun H locs hP hD hS => ?_)
  have hP : va_P D vwCl [(h_this, o_X2 v_x1_kind v_x1_worlds v_x1_arrows v_x1_p v_q), (h_x1, o_X2 v_x1_kind v_x1_worlds v_x1_arrows v_x1_p v_x1_q)] H := hP
  have hD : va_D A [(h_this, o_X2 v_x1_kind v_x1_worlds v_x1_arrows v_x1_p v_q), (h_x1, o_X2 v_x1_kind v_x1_worlds v_x1_arrows v_x1_p v_x1_q)] := hD
  refine lv_aload_n hx hb dX2_copy_32 rfl (lv_at hl 0 rfl) ?_
  refine lv_aload_n hx hb dX2_copy_33 rfl (lv_at hl 1 rfl) ?_
  refine va_get (D := D) (ci := 2) (v := .int v_x1_q) (C := RX2) (T := TX2) (N := 5) hx hb hts inlX2 hown hK hP 1 rfl rfl 4 (by decide) (hts _ m_162) (fun _ h9 => h9) rfl dX2_copy_34 ?_
  refine va_put (D := D) (ci := 2) (v := .int v_x1_q) (ty := .int) (C := RX2) (T := TX2) (N := 5) hx hb hts inlX2 tyX2 tyX2_ok nmX2 hown hK hP hD hS 0 rfl rfl 4 (by decide) (hts _ m_162) (fun _ h9 => h9) rfl (by decide +kernel) rfl rfl (Nat.le_of_ble_eq_true rfl) dX2_copy_37 (fun H locs hP hD hS => ?_)
  have hP : va_P D vwCl [(h_this, o_X2 v_x1_kind v_x1_worlds v_x1_arrows v_x1_p v_x1_q), (h_x1, o_X2 v_x1_kind v_x1_worlds v_x1_arrows v_x1_p v_x1_q)] H := hP
  have hD : va_D A [(h_this, o_X2 v_x1_kind v_x1_worlds v_x1_arrows v_x1_p v_x1_q), (h_x1, o_X2 v_x1_kind v_x1_worlds v_x1_arrows v_x1_p v_x1_q)] := hD
  subst hf
  exact k_vret hx hb hr hlocks hAe hS hP hD dX2_copy_40
set_option maxHeartbeats 4000000 in
set_option maxRecDepth 100000 in
theorem k_X2_sameMarks (l : Launch) (D : va_G) (cB cI cJ cZ : ClassId) (tL tK : Nat) (h_this : Nat) (sz : Nat) (v_kind : Int32) (v_worlds : Int32) (v_arrows : Int32) (v_p : Int32) (v_q : Int32)  (q : Int32) (hf : f_X2_sameMarks v_worlds v_p v_q = some q) : Met l yX2_sameMarks (.code yX2_sameMarks cX2_sameMarks 4 (some .int) :: k_all) { frames := 2, cells := 0, slots := 0, locals := 42 } (k_P D cB cI cJ cZ tL tK [.ref h_this] [(h_this, o_X2 v_kind v_worlds v_arrows v_p v_q)] sz) (k_I D q [(h_this, o_X2 v_kind v_worlds v_arrows v_p v_q)] [(h_this, o_X2 v_kind v_worlds v_arrows v_p v_q)] sz) 0 0 (va_A [(h_this, o_X2 v_kind v_worlds v_arrows v_p v_q)] sz) := by
  unfold f_X2_sameMarks at hf
  refine k_met RX2 rfl (by decide +kernel) (Nat.le_of_ble_eq_true rfl) ?_
  intro p e s m below meth c A ls hx hb hr hml hown hts hlocks hin hsz hAe hA hK hN hZ hD hS hP hl
  have hl : lv_has ls 4 [(0, .ref h_this)] := hl
  refine lv_iconst (v := 0) hx hb dX2_sameMarks_0 (by decide) ?_
  refine lv_istore_n (lv' := [(1, .int 0), (0, .ref h_this)]) hx hb dX2_sameMarks_1 rfl hl (by decide) rfl (fun ls hl => ?_)
  refine lv_iconst (v := 0) hx hb dX2_sameMarks_2 (by decide) ?_
  refine lv_istore_n (lv' := [(2, .int 0), (1, .int 0), (0, .ref h_this)]) hx hb dX2_sameMarks_3 rfl hl (by decide) rfl (fun ls hl => ?_)
  refine k_wl 55 (wsf := fun (a4 : Int32 × Int32) => [(h_this, o_X2 v_kind v_worlds v_arrows v_p v_q)]) (lvf := fun (a4 : Int32 × Int32) => [(0, .ref h_this), (1, .int a4.1), (2, .int a4.2)]) hf hP hD hS (lv_sub hl [2, 1, 0] rfl) ?_ ?_
  · intro a4 H locs ls hf hP hD hS hl
    have hP : va_P D vwCl [(h_this, o_X2 v_kind v_worlds v_arrows v_p v_q)] H := hP
    have hD : va_D A [(h_this, o_X2 v_kind v_worlds v_arrows v_p v_q)] := hD
    have hl : lv_has ls 4 [(0, .ref h_this), (1, .int a4.1), (2, .int a4.2)] := hl
    refine lv_iload_n hx hb dX2_sameMarks_55 rfl (lv_at hl 1 rfl) ?_
    cases hf
    exact k_iret hx hb hr hlocks hAe hS hP hD dX2_sameMarks_56
  · intro ex4 rc4 hE4 hR4 a4 H locs ls hf hP hD hS hl
    have hP : va_P D vwCl [(h_this, o_X2 v_kind v_worlds v_arrows v_p v_q)] H := hP
    have hD : va_D A [(h_this, o_X2 v_kind v_worlds v_arrows v_p v_q)] := hD
    have hl : lv_has ls 4 [(0, .ref h_this), (1, .int a4.1), (2, .int a4.2)] := hl
    refine lv_iload_n hx hb dX2_sameMarks_4 rfl (lv_at hl 2 rfl) ?_
    refine lv_aload_n hx hb dX2_sameMarks_5 rfl (lv_at hl 0 rfl) ?_
    refine va_get (D := D) (ci := 2) (v := .int v_worlds) (C := RX2) (T := TX2) (N := 5) hx hb hts inlX2 hown hK hP 0 rfl rfl 1 (by decide) (hts _ m_159) (fun _ h9 => h9) rfl dX2_sameMarks_6 ?_
    refine lv_icmp_ge (tgt := 55) hx hb dX2_sameMarks_9 (by decide) (fun c9 => ?_) (fun c9 => ?_)
    · replace hf := k_ifT c9 hf
      exact hE4 _ _ _ _ hf hP hD hS (lv_sub hl [0, 1, 2] rfl)
    · replace hf := k_ifF c9 hf
      refine lv_iconst (v := 0) hx hb dX2_sameMarks_12 (by decide) ?_
      refine lv_istore_n (lv' := [(3, .int 0), (0, .ref h_this), (1, .int a4.1), (2, .int a4.2)]) hx hb dX2_sameMarks_13 rfl hl (by decide) rfl (fun ls hl => ?_)
      refine k_wl 49 (wsf := fun (a14 : Int32 × Int32) => [(h_this, o_X2 v_kind v_worlds v_arrows v_p v_q)]) (lvf := fun (a14 : Int32 × Int32) => [(0, .ref h_this), (1, .int a14.1), (2, .int a4.2), (3, .int a14.2)]) hf hP hD hS (lv_sub hl [1, 2, 3, 0] rfl) ?_ ?_
      · intro a14 H locs ls hf hP hD hS hl
        have hP : va_P D vwCl [(h_this, o_X2 v_kind v_worlds v_arrows v_p v_q)] H := hP
        have hD : va_D A [(h_this, o_X2 v_kind v_worlds v_arrows v_p v_q)] := hD
        have hl : lv_has ls 4 [(0, .ref h_this), (1, .int a14.1), (2, .int a4.2), (3, .int a14.2)] := hl
        refine lv_iinc (v := (a4.2 + 1)) (lv' := [(2, .int (a4.2 + 1)), (0, .ref h_this), (1, .int a14.1), (3, .int a14.2)]) hx hb dX2_sameMarks_49 hl (k := 2) rfl rfl (by decide) rfl (fun ls hl => ?_)
        refine lv_goto (tgt := 4) hx hb dX2_sameMarks_52 (by decide) ?_
        exact hR4 _ _ _ _ hf hP hD hS (lv_sub hl [1, 2, 0] rfl)
      · intro ex14 rc14 hE14 hR14 a14 H locs ls hf hP hD hS hl
        have hP : va_P D vwCl [(h_this, o_X2 v_kind v_worlds v_arrows v_p v_q)] H := hP
        have hD : va_D A [(h_this, o_X2 v_kind v_worlds v_arrows v_p v_q)] := hD
        have hl : lv_has ls 4 [(0, .ref h_this), (1, .int a14.1), (2, .int a4.2), (3, .int a14.2)] := hl
        refine lv_iload_n hx hb dX2_sameMarks_14 rfl (lv_at hl 3 rfl) ?_
        refine lv_aload_n hx hb dX2_sameMarks_15 rfl (lv_at hl 0 rfl) ?_
        refine va_get (D := D) (ci := 2) (v := .int v_worlds) (C := RX2) (T := TX2) (N := 5) hx hb hts inlX2 hown hK hP 0 rfl rfl 1 (by decide) (hts _ m_159) (fun _ h9 => h9) rfl dX2_sameMarks_16 ?_
        refine lv_icmp_ge (tgt := 49) hx hb dX2_sameMarks_19 (by decide) (fun c19 => ?_) (fun c19 => ?_)
        · replace hf := k_ifT c19 hf
          exact hE14 _ _ _ _ hf hP hD hS (lv_sub hl [0, 1, 2, 3] rfl)
        · replace hf := k_ifF c19 hf
          refine lv_aload_n hx hb dX2_sameMarks_22 rfl (lv_at hl 0 rfl) ?_
          refine lv_iload_n hx hb dX2_sameMarks_23 rfl (lv_at hl 2 rfl) ?_
          refine k_calli (wN := [(h_this, o_X2 v_kind v_worlds v_arrows v_p v_q)]) [0] [] [0] hP hD hS hA (va_runV (As := [.int a4.2]) (rest := []) ⟨hx, hb, hml, hown, hts⟩ (k_X2_marks l D cB cI cJ cZ tL tK h_this _ v_kind v_worlds v_arrows v_p v_q a4.2 (f_X2_marks v_p v_q a4.2) rfl) (cwV 1 hts (k_gV m_228 m_416 m_226 m_227 m_26) rfl rfl rfl (by decide +kernel) ⟨Nat.le_of_ble_eq_true rfl, Nat.le_of_ble_eq_true rfl⟩) (k_preV [0] hK hN hZ hP hD hS hA rfl rfl (va_recv hK hP (ci := 2) (q0 := 0) rfl rfl)) rfl rfl hl.1 rfl (lv_room (Nat.le_of_ble_eq_true rfl)) dX2_sameMarks_24 ⟨Nat.le_refl _, Nat.le_refl _⟩) rfl rfl rfl rfl rfl (fun H locs hP hD hS => ?_)
          refine lv_aload_n hx hb dX2_sameMarks_27 rfl (lv_at hl 0 rfl) ?_
          refine lv_iload_n hx hb dX2_sameMarks_28 rfl (lv_at hl 3 rfl) ?_
          refine k_calli (wN := [(h_this, o_X2 v_kind v_worlds v_arrows v_p v_q)]) [0] [] [0] hP hD hS hA (va_runV (As := [.int a14.2]) (rest := [.int (f_X2_marks v_p v_q a4.2)]) ⟨hx, hb, hml, hown, hts⟩ (k_X2_marks l D cB cI cJ cZ tL tK h_this _ v_kind v_worlds v_arrows v_p v_q a14.2 (f_X2_marks v_p v_q a14.2) rfl) (cwV 1 hts (k_gV m_228 m_416 m_226 m_227 m_26) rfl rfl rfl (by decide +kernel) ⟨Nat.le_of_ble_eq_true rfl, Nat.le_of_ble_eq_true rfl⟩) (k_preV [0] hK hN hZ hP hD hS hA rfl rfl (va_recv hK hP (ci := 2) (q0 := 0) rfl rfl)) rfl rfl hl.1 rfl (lv_room (Nat.le_of_ble_eq_true rfl)) dX2_sameMarks_29 ⟨Nat.le_refl _, Nat.le_refl _⟩) rfl rfl rfl rfl rfl (fun H locs hP hD hS => ?_)
          refine lv_icmp_ne (tgt := 43) hx hb dX2_sameMarks_32 (by decide) (fun c32 => ?_) (fun c32 => ?_)
          · replace hf := k_ifF c32 hf
            refine lv_iinc (v := (a14.2 + 1)) (lv' := [(3, .int (a14.2 + 1)), (0, .ref h_this), (1, .int a14.1), (2, .int a4.2)]) hx hb dX2_sameMarks_43 hl (k := 3) rfl rfl (by decide) rfl (fun ls hl => ?_)
            refine lv_goto (tgt := 14) hx hb dX2_sameMarks_46 (by decide) ?_
            exact hR14 _ _ _ _ hf hP hD hS (lv_sub hl [1, 2, 3, 0] rfl)
          · replace hf := k_ifT c32 hf
            refine lv_iload_n hx hb dX2_sameMarks_35 rfl (lv_at hl 1 rfl) ?_
            refine lv_iload_n hx hb dX2_sameMarks_36 rfl (lv_at hl 2 rfl) ?_
            refine lv_iload_n hx hb dX2_sameMarks_37 rfl (lv_at hl 3 rfl) ?_
            refine k_calli (wN := [(h_this, o_X2 v_kind v_worlds v_arrows v_p v_q)]) [] [0] [0] hP hD hS hA (va_runS (As := [.int a4.2, .int a14.2]) (rest := [.int a14.1]) ⟨hx, hb, hml, hown, hts⟩ (k_X2_pair l D cB cI cJ cZ tL tK _ a4.2 a14.2 (f_X2_pair a4.2 a14.2) rfl) (va_cwS 2 hts (k_gS m_220 m_218 m_219 m_26) rfl rfl rfl (by decide +kernel) ⟨Nat.le_of_ble_eq_true rfl, Nat.le_of_ble_eq_true rfl⟩) (k_preS [] hK hN hZ hP hD hS hA rfl rfl) rfl rfl hl.1 rfl (lv_room (Nat.le_of_ble_eq_true rfl)) dX2_sameMarks_38 ⟨Nat.le_refl _, Nat.le_refl _⟩) rfl rfl rfl rfl rfl (fun H locs hP hD hS => ?_)
            refine lv_ior hx hb dX2_sameMarks_41 ?_
            refine lv_istore_n (lv' := [(1, .int (a14.1 ||| (f_X2_pair a4.2 a14.2))), (0, .ref h_this), (2, .int a4.2), (3, .int a14.2)]) hx hb dX2_sameMarks_42 rfl hl (by decide) rfl (fun ls hl => ?_)
            refine lv_iinc (v := (a14.2 + 1)) (lv' := [(3, .int (a14.2 + 1)), (1, .int (a14.1 ||| (f_X2_pair a4.2 a14.2))), (0, .ref h_this), (2, .int a4.2)]) hx hb dX2_sameMarks_43 hl (k := 3) rfl rfl (by decide) rfl (fun ls hl => ?_)
            refine lv_goto (tgt := 14) hx hb dX2_sameMarks_46 (by decide) ?_
            exact hR14 _ _ _ _ hf hP hD hS (lv_sub hl [2, 1, 3, 0] rfl)
set_option maxHeartbeats 4000000 in
set_option maxRecDepth 100000 in
theorem k_X2_row (l : Launch) (D : va_G) (cB cI cJ cZ : ClassId) (tL tK : Nat) (h_this : Nat) (sz : Nat) (v_kind : Int32) (v_worlds : Int32) (v_arrows : Int32) (v_p : Int32) (v_q : Int32) (x1 : Int32) (q : Int32) (hf : f_X2_row v_arrows x1 = q) : Met l yX2_row (.code yX2_row cX2_row 2 (some .int) :: k_all) { frames := 0, cells := 0, slots := 0, locals := 0 } (k_P D cB cI cJ cZ tL tK [.ref h_this, .int x1] [(h_this, o_X2 v_kind v_worlds v_arrows v_p v_q)] sz) (k_I D q [(h_this, o_X2 v_kind v_worlds v_arrows v_p v_q)] [(h_this, o_X2 v_kind v_worlds v_arrows v_p v_q)] sz) 0 0 (va_A [(h_this, o_X2 v_kind v_worlds v_arrows v_p v_q)] sz) := by
  unfold f_X2_row at hf
  refine k_met RX2 rfl (by decide +kernel) (Nat.le_of_ble_eq_true rfl) ?_
  intro p e s m below meth c A ls hx hb hr hml hown hts hlocks hin hsz hAe hA hK hN hZ hD hS hP hl
  have hl : lv_has ls 2 [(0, .ref h_this), (1, .int x1)] := hl
  refine lv_aload_n hx hb dX2_row_0 rfl (lv_at hl 0 rfl) ?_
  refine va_get (D := D) (ci := 2) (v := .int v_arrows) (C := RX2) (T := TX2) (N := 5) hx hb hts inlX2 hown hK hP 0 rfl rfl 2 (by decide) (hts _ m_160) (fun _ h9 => h9) rfl dX2_row_1 ?_
  refine lv_iconst (v := 4) hx hb dX2_row_4 (by decide) ?_
  refine lv_iload_n hx hb dX2_row_5 rfl (lv_at hl 1 rfl) ?_
  refine lv_imul hx hb dX2_row_6 ?_
  refine lv_ishr hx hb dX2_row_7 ?_
  refine lv_bipush (v := 15) hx hb dX2_row_8 (by decide) ?_
  refine lv_iand hx hb dX2_row_10 ?_
  subst hf
  exact k_iret hx hb hr hlocks hAe hS hP hD dX2_row_11
set_option maxHeartbeats 4000000 in
set_option maxRecDepth 100000 in
theorem k_X2_rowOf (l : Launch) (D : va_G) (cB cI cJ cZ : ClassId) (tL tK : Nat) (sz : Nat)  (x1 : Int32) (x2 : Int32) (q : Int32) (hf : f_X2_rowOf x1 x2 = q) : Met l yX2_rowOf (.code yX2_rowOf cX2_rowOf 2 (some .int) :: k_all) { frames := 0, cells := 0, slots := 0, locals := 0 } (k_P D cB cI cJ cZ tL tK [.int x1, .int x2] [] sz) (k_I D q [] [] sz) 0 0 (va_A [] sz) := by
  unfold f_X2_rowOf at hf
  refine k_met RX2 rfl (by decide +kernel) (Nat.le_of_ble_eq_true rfl) ?_
  intro p e s m below meth c A ls hx hb hr hml hown hts hlocks hin hsz hAe hA hK hN hZ hD hS hP hl
  have hl : lv_has ls 2 [(0, .int x1), (1, .int x2)] := hl
  refine lv_iload_n hx hb dX2_rowOf_0 rfl (lv_at hl 0 rfl) ?_
  refine lv_iconst (v := 4) hx hb dX2_rowOf_1 (by decide) ?_
  refine lv_iload_n hx hb dX2_rowOf_2 rfl (lv_at hl 1 rfl) ?_
  refine lv_imul hx hb dX2_rowOf_3 ?_
  refine lv_ishr hx hb dX2_rowOf_4 ?_
  refine lv_bipush (v := 15) hx hb dX2_rowOf_5 (by decide) ?_
  refine lv_iand hx hb dX2_rowOf_7 ?_
  subst hf
  exact k_iret hx hb hr hlocks hAe hS hP hD dX2_rowOf_8
set_option maxHeartbeats 4000000 in
set_option maxRecDepth 100000 in
theorem k_X2_isMatched (l : Launch) (D : va_G) (cB cI cJ cZ : ClassId) (tL tK : Nat) (h_this : Nat) (sz : Nat) (v_kind : Int32) (v_worlds : Int32) (v_arrows : Int32) (v_p : Int32) (v_q : Int32) (x1 : Int32) (x2 : Int32) (x3 : Int32) (q : Int32) (hf : f_X2_isMatched v_worlds v_arrows x1 x2 x3 = some q) : Met l yX2_isMatched (.code yX2_isMatched cX2_isMatched 5 (some .boolean) :: k_all) { frames := 1, cells := 0, slots := 0, locals := 22 } (k_P D cB cI cJ cZ tL tK [.ref h_this, .int x1, .int x2, .int x3] [(h_this, o_X2 v_kind v_worlds v_arrows v_p v_q)] sz) (k_I D q [(h_this, o_X2 v_kind v_worlds v_arrows v_p v_q)] [(h_this, o_X2 v_kind v_worlds v_arrows v_p v_q)] sz) 0 0 (va_A [(h_this, o_X2 v_kind v_worlds v_arrows v_p v_q)] sz) := by
  unfold f_X2_isMatched at hf
  refine k_met RX2 rfl (by decide +kernel) (Nat.le_of_ble_eq_true rfl) ?_
  intro p e s m below meth c A ls hx hb hr hml hown hts hlocks hin hsz hAe hA hK hN hZ hD hS hP hl
  have hl : lv_has ls 5 [(0, .ref h_this), (1, .int x1), (2, .int x2), (3, .int x3)] := hl
  refine lv_iconst (v := 0) hx hb dX2_isMatched_0 (by decide) ?_
  refine lv_istore (lv' := [(4, .int 0), (0, .ref h_this), (1, .int x1), (2, .int x2), (3, .int x3)]) hx hb dX2_isMatched_1 hl (by decide) rfl (fun ls hl => ?_)
  refine k_wl 45 (wsf := fun (a3 : Int32) => [(h_this, o_X2 v_kind v_worlds v_arrows v_p v_q)]) (lvf := fun (a3 : Int32) => [(0, .ref h_this), (1, .int x1), (2, .int x2), (3, .int x3), (4, .int a3)]) hf hP hD hS (lv_sub hl [1, 2, 3, 4, 0] rfl) ?_ ?_
  · intro a3 H locs ls hf hP hD hS hl
    have hP : va_P D vwCl [(h_this, o_X2 v_kind v_worlds v_arrows v_p v_q)] H := hP
    have hD : va_D A [(h_this, o_X2 v_kind v_worlds v_arrows v_p v_q)] := hD
    have hl : lv_has ls 5 [(0, .ref h_this), (1, .int x1), (2, .int x2), (3, .int x3), (4, .int a3)] := hl
    refine lv_iconst (v := 1) hx hb dX2_isMatched_45 (by decide) ?_
    cases hf
    exact k_zret (r := 1) hx hb hr rfl hlocks hAe hS hP hD dX2_isMatched_46
  · intro ex3 rc3 hE3 hR3 a3 H locs ls hf hP hD hS hl
    have hP : va_P D vwCl [(h_this, o_X2 v_kind v_worlds v_arrows v_p v_q)] H := hP
    have hD : va_D A [(h_this, o_X2 v_kind v_worlds v_arrows v_p v_q)] := hD
    have hl : lv_has ls 5 [(0, .ref h_this), (1, .int x1), (2, .int x2), (3, .int x3), (4, .int a3)] := hl
    refine lv_iload hx hb dX2_isMatched_3 (lv_at hl 4 rfl) ?_
    refine lv_aload_n hx hb dX2_isMatched_5 rfl (lv_at hl 0 rfl) ?_
    refine va_get (D := D) (ci := 2) (v := .int v_worlds) (C := RX2) (T := TX2) (N := 5) hx hb hts inlX2 hown hK hP 0 rfl rfl 1 (by decide) (hts _ m_159) (fun _ h9 => h9) rfl dX2_isMatched_6 ?_
    refine lv_icmp_ge (tgt := 45) hx hb dX2_isMatched_9 (by decide) (fun c9 => ?_) (fun c9 => ?_)
    · replace hf := k_ifT c9 hf
      exact hE3 _ _ _ _ hf hP hD hS (lv_sub hl [0, 1, 2, 3, 4] rfl)
    · replace hf := k_ifF c9 hf
      refine lv_aload_n hx hb dX2_isMatched_12 rfl (lv_at hl 0 rfl) ?_
      refine lv_iload_n hx hb dX2_isMatched_13 rfl (lv_at hl 2 rfl) ?_
      refine lv_iload hx hb dX2_isMatched_14 (lv_at hl 4 rfl) ?_
      refine k_calli (wN := [(h_this, o_X2 v_kind v_worlds v_arrows v_p v_q)]) [0] [] [0] hP hD hS hA (va_runV (As := [.int x2, .int a3]) (rest := []) ⟨hx, hb, hml, hown, hts⟩ (k_X2_has l D cB cI cJ cZ tL tK h_this _ v_kind v_worlds v_arrows v_p v_q x2 a3 (f_X2_has v_arrows x2 a3) rfl) (cwV 2 hts (k_gV m_213 m_392 m_211 m_212 m_26) rfl rfl rfl (by decide +kernel) ⟨Nat.le_of_ble_eq_true rfl, Nat.le_of_ble_eq_true rfl⟩) (k_preV [0] hK hN hZ hP hD hS hA rfl rfl (va_recv hK hP (ci := 2) (q0 := 0) rfl rfl)) rfl rfl hl.1 rfl (lv_room (Nat.le_of_ble_eq_true rfl)) dX2_isMatched_16 ⟨Nat.le_refl _, Nat.le_refl _⟩) rfl rfl rfl rfl rfl (fun H locs hP hD hS => ?_)
      refine lv_if_eq (tgt := 39) hx hb dX2_isMatched_19 (by decide) (fun c19 => ?_) (fun c19 => ?_)
      · replace hf := k_ifT c19 hf
        refine lv_iinc (v := (a3 + 1)) (lv' := [(4, .int (a3 + 1)), (0, .ref h_this), (1, .int x1), (2, .int x2), (3, .int x3)]) hx hb dX2_isMatched_39 hl (k := 4) rfl rfl (by decide) rfl (fun ls hl => ?_)
        refine lv_goto (tgt := 3) hx hb dX2_isMatched_42 (by decide) ?_
        exact hR3 _ _ _ _ hf hP hD hS (lv_sub hl [1, 2, 3, 4, 0] rfl)
      · replace hf := k_ifF c19 hf
        refine lv_aload_n hx hb dX2_isMatched_22 rfl (lv_at hl 0 rfl) ?_
        refine lv_iload_n hx hb dX2_isMatched_23 rfl (lv_at hl 3 rfl) ?_
        refine k_calli (wN := [(h_this, o_X2 v_kind v_worlds v_arrows v_p v_q)]) [0] [] [0] hP hD hS hA (va_runV (As := [.int x3]) (rest := []) ⟨hx, hb, hml, hown, hts⟩ (k_X2_row l D cB cI cJ cZ tL tK h_this _ v_kind v_worlds v_arrows v_p v_q x3 (f_X2_row v_arrows x3) rfl) (cwV 1 hts (k_gV m_396 m_393 m_394 m_395 m_26) rfl rfl rfl (by decide +kernel) ⟨Nat.le_of_ble_eq_true rfl, Nat.le_of_ble_eq_true rfl⟩) (k_preV [0] hK hN hZ hP hD hS hA rfl rfl (va_recv hK hP (ci := 2) (q0 := 0) rfl rfl)) rfl rfl hl.1 rfl (lv_room (Nat.le_of_ble_eq_true rfl)) dX2_isMatched_24 ⟨Nat.le_refl _, Nat.le_refl _⟩) rfl rfl rfl rfl rfl (fun H locs hP hD hS => ?_)
        refine lv_iload_n hx hb dX2_isMatched_27 rfl (lv_at hl 1 rfl) ?_
        refine lv_iload hx hb dX2_isMatched_28 (lv_at hl 4 rfl) ?_
        refine k_calli (wN := [(h_this, o_X2 v_kind v_worlds v_arrows v_p v_q)]) [] [0] [0] hP hD hS hA (va_runS (As := [.int x1, .int a3]) (rest := [.int (f_X2_row v_arrows x3)]) ⟨hx, hb, hml, hown, hts⟩ (k_X2_rowOf l D cB cI cJ cZ tL tK _ x1 a3 (f_X2_rowOf x1 a3) rfl) (va_cwS 2 hts (k_gS m_427 m_425 m_426 m_26) rfl rfl rfl (by decide +kernel) ⟨Nat.le_of_ble_eq_true rfl, Nat.le_of_ble_eq_true rfl⟩) (k_preS [] hK hN hZ hP hD hS hA rfl rfl) rfl rfl hl.1 rfl (lv_room (Nat.le_of_ble_eq_true rfl)) dX2_isMatched_30 ⟨Nat.le_refl _, Nat.le_refl _⟩) rfl rfl rfl rfl rfl (fun H locs hP hD hS => ?_)
        refine lv_iand hx hb dX2_isMatched_33 ?_
        refine lv_if_ne (tgt := 39) hx hb dX2_isMatched_34 (by decide) (fun c34 => ?_) (fun c34 => ?_)
        · replace hf := k_ifF c34 hf
          refine lv_iinc (v := (a3 + 1)) (lv' := [(4, .int (a3 + 1)), (0, .ref h_this), (1, .int x1), (2, .int x2), (3, .int x3)]) hx hb dX2_isMatched_39 hl (k := 4) rfl rfl (by decide) rfl (fun ls hl => ?_)
          refine lv_goto (tgt := 3) hx hb dX2_isMatched_42 (by decide) ?_
          exact hR3 _ _ _ _ hf hP hD hS (lv_sub hl [1, 2, 3, 4, 0] rfl)
        · replace hf := k_ifT c34 hf
          refine lv_iconst (v := 0) hx hb dX2_isMatched_37 (by decide) ?_
          cases hf
          exact k_zret (r := 0) hx hb hr rfl hlocks hAe hS hP hD dX2_isMatched_38
set_option maxHeartbeats 4000000 in
set_option maxRecDepth 100000 in
theorem k_X2_refined (l : Launch) (D : va_G) (cB cI cJ cZ : ClassId) (tL tK : Nat) (h_this : Nat) (sz : Nat) (v_kind : Int32) (v_worlds : Int32) (v_arrows : Int32) (v_p : Int32) (v_q : Int32) (x1 : Int32) (q : Int32) (hf : f_X2_refined v_worlds v_arrows x1 = some q) : Met l yX2_refined (.code yX2_refined cX2_refined 6 (some .int) :: k_all) { frames := 2, cells := 0, slots := 0, locals := 46 } (k_P D cB cI cJ cZ tL tK [.ref h_this, .int x1] [(h_this, o_X2 v_kind v_worlds v_arrows v_p v_q)] sz) (k_I D q [(h_this, o_X2 v_kind v_worlds v_arrows v_p v_q)] [(h_this, o_X2 v_kind v_worlds v_arrows v_p v_q)] sz) 0 0 (va_A [(h_this, o_X2 v_kind v_worlds v_arrows v_p v_q)] sz) := by
  unfold f_X2_refined at hf
  refine k_met RX2 rfl (by decide +kernel) (Nat.le_of_ble_eq_true rfl) ?_
  intro p e s m below meth c A ls hx hb hr hml hown hts hlocks hin hsz hAe hA hK hN hZ hD hS hP hl
  have hl : lv_has ls 6 [(0, .ref h_this), (1, .int x1)] := hl
  refine lv_iconst (v := 0) hx hb dX2_refined_0 (by decide) ?_
  refine lv_istore_n (lv' := [(2, .int 0), (0, .ref h_this), (1, .int x1)]) hx hb dX2_refined_1 rfl hl (by decide) rfl (fun ls hl => ?_)
  refine lv_iconst (v := 0) hx hb dX2_refined_2 (by decide) ?_
  refine lv_istore_n (lv' := [(3, .int 0), (2, .int 0), (0, .ref h_this), (1, .int x1)]) hx hb dX2_refined_3 rfl hl (by decide) rfl (fun ls hl => ?_)
  refine k_wl 93 (wsf := fun (a4 : Int32 × Int32) => [(h_this, o_X2 v_kind v_worlds v_arrows v_p v_q)]) (lvf := fun (a4 : Int32 × Int32) => [(0, .ref h_this), (1, .int x1), (2, .int a4.1), (3, .int a4.2)]) hf hP hD hS (lv_sub hl [2, 3, 1, 0] rfl) ?_ ?_
  · intro a4 H locs ls hf hP hD hS hl
    have hP : va_P D vwCl [(h_this, o_X2 v_kind v_worlds v_arrows v_p v_q)] H := hP
    have hD : va_D A [(h_this, o_X2 v_kind v_worlds v_arrows v_p v_q)] := hD
    have hl : lv_has ls 6 [(0, .ref h_this), (1, .int x1), (2, .int a4.1), (3, .int a4.2)] := hl
    refine lv_iload_n hx hb dX2_refined_93 rfl (lv_at hl 2 rfl) ?_
    cases hf
    exact k_iret hx hb hr hlocks hAe hS hP hD dX2_refined_94
  · intro ex4 rc4 hE4 hR4 a4 H locs ls hf hP hD hS hl
    have hP : va_P D vwCl [(h_this, o_X2 v_kind v_worlds v_arrows v_p v_q)] H := hP
    have hD : va_D A [(h_this, o_X2 v_kind v_worlds v_arrows v_p v_q)] := hD
    have hl : lv_has ls 6 [(0, .ref h_this), (1, .int x1), (2, .int a4.1), (3, .int a4.2)] := hl
    refine lv_iload_n hx hb dX2_refined_4 rfl (lv_at hl 3 rfl) ?_
    refine lv_aload_n hx hb dX2_refined_5 rfl (lv_at hl 0 rfl) ?_
    refine va_get (D := D) (ci := 2) (v := .int v_worlds) (C := RX2) (T := TX2) (N := 5) hx hb hts inlX2 hown hK hP 0 rfl rfl 1 (by decide) (hts _ m_159) (fun _ h9 => h9) rfl dX2_refined_6 ?_
    refine lv_icmp_ge (tgt := 93) hx hb dX2_refined_9 (by decide) (fun c9 => ?_) (fun c9 => ?_)
    · replace hf := k_ifT c9 hf
      exact hE4 _ _ _ _ hf hP hD hS (lv_sub hl [0, 1, 2, 3] rfl)
    · replace hf := k_ifF c9 hf
      refine lv_iconst (v := 0) hx hb dX2_refined_12 (by decide) ?_
      refine lv_istore (lv' := [(4, .int 0), (0, .ref h_this), (1, .int x1), (2, .int a4.1), (3, .int a4.2)]) hx hb dX2_refined_13 hl (by decide) rfl (fun ls hl => ?_)
      refine k_wl 87 (wsf := fun (a15 : Int32 × Int32) => [(h_this, o_X2 v_kind v_worlds v_arrows v_p v_q)]) (lvf := fun (a15 : Int32 × Int32) => [(0, .ref h_this), (1, .int x1), (2, .int a15.1), (3, .int a4.2), (4, .int a15.2)]) hf hP hD hS (lv_sub hl [1, 2, 3, 4, 0] rfl) ?_ ?_
      · intro a15 H locs ls hf hP hD hS hl
        have hP : va_P D vwCl [(h_this, o_X2 v_kind v_worlds v_arrows v_p v_q)] H := hP
        have hD : va_D A [(h_this, o_X2 v_kind v_worlds v_arrows v_p v_q)] := hD
        have hl : lv_has ls 6 [(0, .ref h_this), (1, .int x1), (2, .int a15.1), (3, .int a4.2), (4, .int a15.2)] := hl
        refine lv_iinc (v := (a4.2 + 1)) (lv' := [(3, .int (a4.2 + 1)), (0, .ref h_this), (1, .int x1), (2, .int a15.1), (4, .int a15.2)]) hx hb dX2_refined_87 hl (k := 3) rfl rfl (by decide) rfl (fun ls hl => ?_)
        refine lv_goto (tgt := 4) hx hb dX2_refined_90 (by decide) ?_
        exact hR4 _ _ _ _ hf hP hD hS (lv_sub hl [1, 2, 3, 0] rfl)
      · intro ex15 rc15 hE15 hR15 a15 H locs ls hf hP hD hS hl
        have hP : va_P D vwCl [(h_this, o_X2 v_kind v_worlds v_arrows v_p v_q)] H := hP
        have hD : va_D A [(h_this, o_X2 v_kind v_worlds v_arrows v_p v_q)] := hD
        have hl : lv_has ls 6 [(0, .ref h_this), (1, .int x1), (2, .int a15.1), (3, .int a4.2), (4, .int a15.2)] := hl
        refine lv_iload hx hb dX2_refined_15 (lv_at hl 4 rfl) ?_
        refine lv_aload_n hx hb dX2_refined_17 rfl (lv_at hl 0 rfl) ?_
        refine va_get (D := D) (ci := 2) (v := .int v_worlds) (C := RX2) (T := TX2) (N := 5) hx hb hts inlX2 hown hK hP 0 rfl rfl 1 (by decide) (hts _ m_159) (fun _ h9 => h9) rfl dX2_refined_18 ?_
        refine lv_icmp_ge (tgt := 87) hx hb dX2_refined_21 (by decide) (fun c21 => ?_) (fun c21 => ?_)
        · replace hf := k_ifT c21 hf
          exact hE15 _ _ _ _ hf hP hD hS (lv_sub hl [0, 1, 2, 3, 4] rfl)
        · replace hf := k_ifF c21 hf
          refine lv_aload_n hx hb dX2_refined_24 rfl (lv_at hl 0 rfl) ?_
          refine lv_iload_n hx hb dX2_refined_25 rfl (lv_at hl 1 rfl) ?_
          refine lv_iload_n hx hb dX2_refined_26 rfl (lv_at hl 3 rfl) ?_
          refine lv_iload hx hb dX2_refined_27 (lv_at hl 4 rfl) ?_
          obtain ⟨q29, hq29, hf⟩ := k_bind hf
          refine k_calli (wN := [(h_this, o_X2 v_kind v_worlds v_arrows v_p v_q)]) [0] [] [0] hP hD hS hA (va_runV (As := [.int x1, .int a4.2, .int a15.2]) (rest := []) ⟨hx, hb, hml, hown, hts⟩ (k_X2_isMatched l D cB cI cJ cZ tL tK h_this _ v_kind v_worlds v_arrows v_p v_q x1 a4.2 a15.2 q29 hq29) (cwV 3 hts (k_gV m_424 m_421 m_422 m_423 m_26) rfl rfl rfl (by decide +kernel) ⟨Nat.le_of_ble_eq_true rfl, Nat.le_of_ble_eq_true rfl⟩) (k_preV [0] hK hN hZ hP hD hS hA rfl rfl (va_recv hK hP (ci := 2) (q0 := 0) rfl rfl)) rfl rfl hl.1 rfl (lv_room (Nat.le_of_ble_eq_true rfl)) dX2_refined_29 ⟨Nat.le_refl _, Nat.le_refl _⟩) rfl rfl rfl rfl rfl (fun H locs hP hD hS => ?_)
          refine k_jn (D := D) (A := A) (nL := 6) hf (fun (j32 : Int32) => [(h_this, o_X2 v_kind v_worlds v_arrows v_p v_q)]) (fun (j32 : Int32) => [(0, .ref h_this), (1, .int x1), (2, .int a15.1), (3, .int a4.2), (4, .int a15.2)]) (fun (j32 : Int32) => [.int j32]) 51 ?_ ?_
          · intro j32 H locs ls hf hP hD hS hl
            have hP : va_P D vwCl [(h_this, o_X2 v_kind v_worlds v_arrows v_p v_q)] H := hP
            have hD : va_D A [(h_this, o_X2 v_kind v_worlds v_arrows v_p v_q)] := hD
            have hl : lv_has ls 6 [(0, .ref h_this), (1, .int x1), (2, .int a15.1), (3, .int a4.2), (4, .int a15.2)] := hl
            show W p l e _ s m _ below meth c H locs _ _ _ (F0 m 51 ls [.int j32])
            refine lv_istore (lv' := [(5, .int j32), (0, .ref h_this), (1, .int x1), (2, .int a15.1), (3, .int a4.2), (4, .int a15.2)]) hx hb dX2_refined_51 hl (by decide) rfl (fun ls hl => ?_)
            refine lv_iload hx hb dX2_refined_53 (lv_at hl 0 rfl) ?_
            refine lv_if_eq (tgt := 81) hx hb dX2_refined_55 (by decide) (fun c55 => ?_) (fun c55 => ?_)
            · replace hf := k_ifT c55 hf
              refine lv_iinc (v := (a15.2 + 1)) (lv' := [(4, .int (a15.2 + 1)), (5, .int j32), (0, .ref h_this), (1, .int x1), (2, .int a15.1), (3, .int a4.2)]) hx hb dX2_refined_81 hl (k := 5) rfl rfl (by decide) rfl (fun ls hl => ?_)
              refine lv_goto (tgt := 15) hx hb dX2_refined_84 (by decide) ?_
              exact hR15 _ _ _ _ hf hP hD hS (lv_sub hl [2, 3, 4, 5, 0] rfl)
            · replace hf := k_ifF c55 hf
              refine lv_iload_n hx hb dX2_refined_58 rfl (lv_at hl 2 rfl) ?_
              refine lv_iload_n hx hb dX2_refined_59 rfl (lv_at hl 4 rfl) ?_
              refine k_calli (wN := [(h_this, o_X2 v_kind v_worlds v_arrows v_p v_q)]) [] [0] [0] hP hD hS hA (va_runS (As := [.int x1, .int a4.2]) (rest := []) ⟨hx, hb, hml, hown, hts⟩ (k_X2_rowOf l D cB cI cJ cZ tL tK _ x1 a4.2 (f_X2_rowOf x1 a4.2) rfl) (va_cwS 2 hts (k_gS m_427 m_425 m_426 m_26) rfl rfl rfl (by decide +kernel) ⟨Nat.le_of_ble_eq_true rfl, Nat.le_of_ble_eq_true rfl⟩) (k_preS [] hK hN hZ hP hD hS hA rfl rfl) rfl rfl hl.1 rfl (lv_room (Nat.le_of_ble_eq_true rfl)) dX2_refined_60 ⟨Nat.le_refl _, Nat.le_refl _⟩) rfl rfl rfl rfl rfl (fun H locs hP hD hS => ?_)
              refine lv_iload hx hb dX2_refined_63 (lv_at hl 5 rfl) ?_
              refine k_calli (wN := [(h_this, o_X2 v_kind v_worlds v_arrows v_p v_q)]) [] [0] [0] hP hD hS hA (va_runSN (As := [.int (f_X2_rowOf x1 a4.2), .int a15.2]) (rest := []) ⟨hx, hb, hml, hown, hts⟩ (k_X8_bit l D cB cI cJ cZ tL tK _ (f_X2_rowOf x1 a4.2) a15.2 (f_X8_bit (f_X2_rowOf x1 a4.2) a15.2) rfl) ⟨va_cnB 2 hts (k_gB m_230) rfl rfl rfl (hN.1 _ (List.mem_of_getElem? (i := 12) rfl)) (hts _ m_2) (by decide +kernel) ⟨Nat.le_of_ble_eq_true rfl, Nat.le_of_ble_eq_true rfl⟩, (hts _ m_229), trivial⟩ (k_preS [] hK hN hZ hP hD hS hA rfl rfl) rfl rfl hl.1 rfl (lv_room (Nat.le_of_ble_eq_true rfl)) dX2_refined_65 ⟨Nat.le_refl _, Nat.le_refl _⟩) rfl rfl rfl rfl rfl (fun H locs hP hD hS => ?_)
              refine lv_iconst (v := 1) hx hb dX2_refined_68 (by decide) ?_
              refine lv_icmp_ne (tgt := 81) hx hb dX2_refined_69 (by decide) (fun c69 => ?_) (fun c69 => ?_)
              · replace hf := k_ifF c69 hf
                refine lv_iinc (v := (a15.2 + 1)) (lv' := [(4, .int (a15.2 + 1)), (5, .int j32), (0, .ref h_this), (1, .int x1), (2, .int a15.1), (3, .int a4.2)]) hx hb dX2_refined_81 hl (k := 5) rfl rfl (by decide) rfl (fun ls hl => ?_)
                refine lv_goto (tgt := 15) hx hb dX2_refined_84 (by decide) ?_
                exact hR15 _ _ _ _ hf hP hD hS (lv_sub hl [2, 3, 4, 5, 0] rfl)
              · replace hf := k_ifT c69 hf
                refine lv_iload_n hx hb dX2_refined_72 rfl (lv_at hl 3 rfl) ?_
                refine lv_iload_n hx hb dX2_refined_73 rfl (lv_at hl 4 rfl) ?_
                refine lv_iload hx hb dX2_refined_74 (lv_at hl 5 rfl) ?_
                refine k_calli (wN := [(h_this, o_X2 v_kind v_worlds v_arrows v_p v_q)]) [] [0] [0] hP hD hS hA (va_runS (As := [.int a4.2, .int a15.2]) (rest := [.int a15.1]) ⟨hx, hb, hml, hown, hts⟩ (k_X2_pair l D cB cI cJ cZ tL tK _ a4.2 a15.2 (f_X2_pair a4.2 a15.2) rfl) (va_cwS 2 hts (k_gS m_220 m_218 m_219 m_26) rfl rfl rfl (by decide +kernel) ⟨Nat.le_of_ble_eq_true rfl, Nat.le_of_ble_eq_true rfl⟩) (k_preS [] hK hN hZ hP hD hS hA rfl rfl) rfl rfl hl.1 rfl (lv_room (Nat.le_of_ble_eq_true rfl)) dX2_refined_76 ⟨Nat.le_refl _, Nat.le_refl _⟩) rfl rfl rfl rfl rfl (fun H locs hP hD hS => ?_)
                refine lv_ior hx hb dX2_refined_79 ?_
                refine lv_istore_n (lv' := [(2, .int (a15.1 ||| (f_X2_pair a4.2 a15.2))), (5, .int j32), (0, .ref h_this), (1, .int x1), (3, .int a4.2), (4, .int a15.2)]) hx hb dX2_refined_80 rfl hl (by decide) rfl (fun ls hl => ?_)
                refine lv_iinc (v := (a15.2 + 1)) (lv' := [(4, .int (a15.2 + 1)), (2, .int (a15.1 ||| (f_X2_pair a4.2 a15.2))), (5, .int j32), (0, .ref h_this), (1, .int x1), (3, .int a4.2)]) hx hb dX2_refined_81 hl (k := 5) rfl rfl (by decide) rfl (fun ls hl => ?_)
                refine lv_goto (tgt := 15) hx hb dX2_refined_84 (by decide) ?_
                exact hR15 _ _ _ _ hf hP hD hS (lv_sub hl [3, 4, 1, 5, 0] rfl)
          · intro j32 hf hj32
            refine lv_if_eq (tgt := 50) hx hb dX2_refined_32 (by decide) (fun c32 => ?_) (fun c32 => ?_)
            · replace hf := k_ifT c32 hf
              refine lv_iconst (v := 0) hx hb dX2_refined_50 (by decide) ?_
              cases hf
              exact hj32 _ _ _ hP hD hS (lv_sub hl [0, 1, 2, 3, 4] rfl)
            · replace hf := k_ifF c32 hf
              refine lv_aload_n hx hb dX2_refined_35 rfl (lv_at hl 0 rfl) ?_
              refine lv_iload_n hx hb dX2_refined_36 rfl (lv_at hl 1 rfl) ?_
              refine lv_iload hx hb dX2_refined_37 (lv_at hl 4 rfl) ?_
              refine lv_iload_n hx hb dX2_refined_39 rfl (lv_at hl 3 rfl) ?_
              obtain ⟨q40, hq40, hf⟩ := k_bind hf
              refine k_calli (wN := [(h_this, o_X2 v_kind v_worlds v_arrows v_p v_q)]) [0] [] [0] hP hD hS hA (va_runV (As := [.int x1, .int a15.2, .int a4.2]) (rest := []) ⟨hx, hb, hml, hown, hts⟩ (k_X2_isMatched l D cB cI cJ cZ tL tK h_this _ v_kind v_worlds v_arrows v_p v_q x1 a15.2 a4.2 q40 hq40) (cwV 3 hts (k_gV m_424 m_421 m_422 m_423 m_26) rfl rfl rfl (by decide +kernel) ⟨Nat.le_of_ble_eq_true rfl, Nat.le_of_ble_eq_true rfl⟩) (k_preV [0] hK hN hZ hP hD hS hA rfl rfl (va_recv hK hP (ci := 2) (q0 := 0) rfl rfl)) rfl rfl hl.1 rfl (lv_room (Nat.le_of_ble_eq_true rfl)) dX2_refined_40 ⟨Nat.le_refl _, Nat.le_refl _⟩) rfl rfl rfl rfl rfl (fun H locs hP hD hS => ?_)
              refine lv_if_eq (tgt := 50) hx hb dX2_refined_43 (by decide) (fun c43 => ?_) (fun c43 => ?_)
              · replace hf := k_ifT c43 hf
                refine lv_iconst (v := 0) hx hb dX2_refined_50 (by decide) ?_
                cases hf
                exact hj32 _ _ _ hP hD hS (lv_sub hl [0, 1, 2, 3, 4] rfl)
              · replace hf := k_ifF c43 hf
                refine lv_iconst (v := 1) hx hb dX2_refined_46 (by decide) ?_
                refine lv_goto (tgt := 51) hx hb dX2_refined_47 (by decide) ?_
                cases hf
                exact hj32 _ _ _ hP hD hS (lv_sub hl [0, 1, 2, 3, 4] rfl)
set_option maxHeartbeats 4000000 in
set_option maxRecDepth 100000 in
theorem k_X2_bisimilarity (l : Launch) (D : va_G) (cB cI cJ cZ : ClassId) (tL tK : Nat) (h_this : Nat) (sz : Nat) (v_kind : Int32) (v_worlds : Int32) (v_arrows : Int32) (v_p : Int32) (v_q : Int32)  (q : Int32) (hf : f_X2_bisimilarity v_worlds v_arrows v_p v_q = some q) : Met l yX2_bisimilarity (.code yX2_bisimilarity cX2_bisimilarity 3 (some .int) :: k_all) { frames := 3, cells := 0, slots := 0, locals := 71 } (k_P D cB cI cJ cZ tL tK [.ref h_this] [(h_this, o_X2 v_kind v_worlds v_arrows v_p v_q)] sz) (k_I D q [(h_this, o_X2 v_kind v_worlds v_arrows v_p v_q)] [(h_this, o_X2 v_kind v_worlds v_arrows v_p v_q)] sz) 0 0 (va_A [(h_this, o_X2 v_kind v_worlds v_arrows v_p v_q)] sz) := by
  unfold f_X2_bisimilarity at hf
  refine k_met RX2 rfl (by decide +kernel) (Nat.le_of_ble_eq_true rfl) ?_
  intro p e s m below meth c A ls hx hb hr hml hown hts hlocks hin hsz hAe hA hK hN hZ hD hS hP hl
  have hl : lv_has ls 3 [(0, .ref h_this)] := hl
  refine lv_aload_n hx hb dX2_bisimilarity_0 rfl (lv_at hl 0 rfl) ?_
  obtain ⟨q1, hq1, hf⟩ := k_bind hf
  refine k_calli (wN := [(h_this, o_X2 v_kind v_worlds v_arrows v_p v_q)]) [0] [] [0] hP hD hS hA (va_runV (As := []) (rest := []) ⟨hx, hb, hml, hown, hts⟩ (k_X2_sameMarks l D cB cI cJ cZ tL tK h_this _ v_kind v_worlds v_arrows v_p v_q q1 hq1) (cwV 0 hts (k_gV m_415 m_412 m_413 m_414 m_26) rfl rfl rfl (by decide +kernel) ⟨Nat.le_of_ble_eq_true rfl, Nat.le_of_ble_eq_true rfl⟩) (k_preV [0] hK hN hZ hP hD hS hA rfl rfl (va_recv hK hP (ci := 2) (q0 := 0) rfl rfl)) rfl rfl hl.1 rfl (lv_room (Nat.le_of_ble_eq_true rfl)) dX2_bisimilarity_1 ⟨Nat.le_refl _, Nat.le_refl _⟩) rfl rfl rfl rfl rfl (fun H locs hP hD hS => ?_)
  refine lv_istore_n (lv' := [(1, .int q1), (0, .ref h_this)]) hx hb dX2_bisimilarity_4 rfl hl (by decide) rfl (fun ls hl => ?_)
  refine lv_iconst (v := 0) hx hb dX2_bisimilarity_5 (by decide) ?_
  refine lv_istore_n (lv' := [(2, .int 0), (1, .int q1), (0, .ref h_this)]) hx hb dX2_bisimilarity_6 rfl hl (by decide) rfl (fun ls hl => ?_)
  refine k_wl 27 (wsf := fun (a7 : Int32 × Int32) => [(h_this, o_X2 v_kind v_worlds v_arrows v_p v_q)]) (lvf := fun (a7 : Int32 × Int32) => [(0, .ref h_this), (1, .int a7.1), (2, .int a7.2)]) hf hP hD hS (lv_sub hl [2, 1, 0] rfl) ?_ ?_
  · intro a7 H locs ls hf hP hD hS hl
    have hP : va_P D vwCl [(h_this, o_X2 v_kind v_worlds v_arrows v_p v_q)] H := hP
    have hD : va_D A [(h_this, o_X2 v_kind v_worlds v_arrows v_p v_q)] := hD
    have hl : lv_has ls 3 [(0, .ref h_this), (1, .int a7.1), (2, .int a7.2)] := hl
    refine lv_iload_n hx hb dX2_bisimilarity_27 rfl (lv_at hl 1 rfl) ?_
    cases hf
    exact k_iret hx hb hr hlocks hAe hS hP hD dX2_bisimilarity_28
  · intro ex7 rc7 hE7 hR7 a7 H locs ls hf hP hD hS hl
    have hP : va_P D vwCl [(h_this, o_X2 v_kind v_worlds v_arrows v_p v_q)] H := hP
    have hD : va_D A [(h_this, o_X2 v_kind v_worlds v_arrows v_p v_q)] := hD
    have hl : lv_has ls 3 [(0, .ref h_this), (1, .int a7.1), (2, .int a7.2)] := hl
    refine lv_iload_n hx hb dX2_bisimilarity_7 rfl (lv_at hl 2 rfl) ?_
    refine lv_aload_n hx hb dX2_bisimilarity_8 rfl (lv_at hl 0 rfl) ?_
    refine va_get (D := D) (ci := 2) (v := .int v_worlds) (C := RX2) (T := TX2) (N := 5) hx hb hts inlX2 hown hK hP 0 rfl rfl 1 (by decide) (hts _ m_159) (fun _ h9 => h9) rfl dX2_bisimilarity_9 ?_
    refine lv_icmp_ge (tgt := 27) hx hb dX2_bisimilarity_12 (by decide) (fun c12 => ?_) (fun c12 => ?_)
    · replace hf := k_ifT c12 hf
      exact hE7 _ _ _ _ hf hP hD hS (lv_sub hl [0, 1, 2] rfl)
    · replace hf := k_ifF c12 hf
      refine lv_aload_n hx hb dX2_bisimilarity_15 rfl (lv_at hl 0 rfl) ?_
      refine lv_iload_n hx hb dX2_bisimilarity_16 rfl (lv_at hl 1 rfl) ?_
      obtain ⟨q17, hq17, hf⟩ := k_bind hf
      refine k_calli (wN := [(h_this, o_X2 v_kind v_worlds v_arrows v_p v_q)]) [0] [] [0] hP hD hS hA (va_runV (As := [.int a7.1]) (rest := []) ⟨hx, hb, hml, hown, hts⟩ (k_X2_refined l D cB cI cJ cZ tL tK h_this _ v_kind v_worlds v_arrows v_p v_q a7.1 q17 hq17) (cwV 1 hts (k_gV m_420 m_417 m_418 m_419 m_26) rfl rfl rfl (by decide +kernel) ⟨Nat.le_of_ble_eq_true rfl, Nat.le_of_ble_eq_true rfl⟩) (k_preV [0] hK hN hZ hP hD hS hA rfl rfl (va_recv hK hP (ci := 2) (q0 := 0) rfl rfl)) rfl rfl hl.1 rfl (lv_room (Nat.le_of_ble_eq_true rfl)) dX2_bisimilarity_17 ⟨Nat.le_refl _, Nat.le_refl _⟩) rfl rfl rfl rfl rfl (fun H locs hP hD hS => ?_)
      refine lv_istore_n (lv' := [(1, .int q17), (0, .ref h_this), (2, .int a7.2)]) hx hb dX2_bisimilarity_20 rfl hl (by decide) rfl (fun ls hl => ?_)
      refine lv_iinc (v := (a7.2 + 1)) (lv' := [(2, .int (a7.2 + 1)), (1, .int q17), (0, .ref h_this)]) hx hb dX2_bisimilarity_21 hl (k := 2) rfl rfl (by decide) rfl (fun ls hl => ?_)
      refine lv_goto (tgt := 7) hx hb dX2_bisimilarity_24 (by decide) ?_
      exact hR7 _ _ _ _ hf hP hD hS (lv_sub hl [2, 1, 0] rfl)
set_option maxHeartbeats 4000000 in
set_option maxRecDepth 100000 in
theorem k_X2_classes (l : Launch) (D : va_G) (cB cI cJ cZ : ClassId) (tL tK : Nat) (h_this : Nat) (sz : Nat) (v_kind : Int32) (v_worlds : Int32) (v_arrows : Int32) (v_p : Int32) (v_q : Int32)  (q : Int32) (hf : f_X2_classes v_worlds v_arrows v_p v_q = some q) : Met l yX2_classes (.code yX2_classes cX2_classes 4 (some .int) :: k_all) { frames := 4, cells := 0, slots := 0, locals := 93 } (k_P D cB cI cJ cZ tL tK [.ref h_this] [(h_this, o_X2 v_kind v_worlds v_arrows v_p v_q)] sz) (k_I D q [(h_this, o_X2 v_kind v_worlds v_arrows v_p v_q)] [(h_this, o_X2 v_kind v_worlds v_arrows v_p v_q)] sz) 0 0 (va_A [(h_this, o_X2 v_kind v_worlds v_arrows v_p v_q)] sz) := by
  unfold f_X2_classes at hf
  refine k_met RX2 rfl (by decide +kernel) (Nat.le_of_ble_eq_true rfl) ?_
  intro p e s m below meth c A ls hx hb hr hml hown hts hlocks hin hsz hAe hA hK hN hZ hD hS hP hl
  have hl : lv_has ls 4 [(0, .ref h_this)] := hl
  refine lv_aload_n hx hb dX2_classes_0 rfl (lv_at hl 0 rfl) ?_
  obtain ⟨q1, hq1, hf⟩ := k_bind hf
  refine k_calli (wN := [(h_this, o_X2 v_kind v_worlds v_arrows v_p v_q)]) [0] [] [0] hP hD hS hA (va_runV (As := []) (rest := []) ⟨hx, hb, hml, hown, hts⟩ (k_X2_bisimilarity l D cB cI cJ cZ tL tK h_this _ v_kind v_worlds v_arrows v_p v_q q1 hq1) (cwV 0 hts (k_gV m_411 m_408 m_409 m_410 m_26) rfl rfl rfl (by decide +kernel) ⟨Nat.le_of_ble_eq_true rfl, Nat.le_of_ble_eq_true rfl⟩) (k_preV [0] hK hN hZ hP hD hS hA rfl rfl (va_recv hK hP (ci := 2) (q0 := 0) rfl rfl)) rfl rfl hl.1 rfl (lv_room (Nat.le_of_ble_eq_true rfl)) dX2_classes_1 ⟨Nat.le_refl _, Nat.le_refl _⟩) rfl rfl rfl rfl rfl (fun H locs hP hD hS => ?_)
  refine lv_istore_n (lv' := [(1, .int q1), (0, .ref h_this)]) hx hb dX2_classes_4 rfl hl (by decide) rfl (fun ls hl => ?_)
  refine lv_iconst (v := 0) hx hb dX2_classes_5 (by decide) ?_
  refine lv_istore_n (lv' := [(2, .int 0), (1, .int q1), (0, .ref h_this)]) hx hb dX2_classes_6 rfl hl (by decide) rfl (fun ls hl => ?_)
  refine lv_iconst (v := 0) hx hb dX2_classes_7 (by decide) ?_
  refine lv_istore_n (lv' := [(3, .int 0), (2, .int 0), (1, .int q1), (0, .ref h_this)]) hx hb dX2_classes_8 rfl hl (by decide) rfl (fun ls hl => ?_)
  refine k_wl 39 (wsf := fun (a9 : Int32 × Int32) => [(h_this, o_X2 v_kind v_worlds v_arrows v_p v_q)]) (lvf := fun (a9 : Int32 × Int32) => [(0, .ref h_this), (1, .int q1), (2, .int a9.1), (3, .int a9.2)]) hf hP hD hS (lv_sub hl [3, 2, 1, 0] rfl) ?_ ?_
  · intro a9 H locs ls hf hP hD hS hl
    have hP : va_P D vwCl [(h_this, o_X2 v_kind v_worlds v_arrows v_p v_q)] H := hP
    have hD : va_D A [(h_this, o_X2 v_kind v_worlds v_arrows v_p v_q)] := hD
    have hl : lv_has ls 4 [(0, .ref h_this), (1, .int q1), (2, .int a9.1), (3, .int a9.2)] := hl
    refine lv_iload_n hx hb dX2_classes_39 rfl (lv_at hl 2 rfl) ?_
    cases hf
    exact k_iret hx hb hr hlocks hAe hS hP hD dX2_classes_40
  · intro ex9 rc9 hE9 hR9 a9 H locs ls hf hP hD hS hl
    have hP : va_P D vwCl [(h_this, o_X2 v_kind v_worlds v_arrows v_p v_q)] H := hP
    have hD : va_D A [(h_this, o_X2 v_kind v_worlds v_arrows v_p v_q)] := hD
    have hl : lv_has ls 4 [(0, .ref h_this), (1, .int q1), (2, .int a9.1), (3, .int a9.2)] := hl
    refine lv_iload_n hx hb dX2_classes_9 rfl (lv_at hl 3 rfl) ?_
    refine lv_aload_n hx hb dX2_classes_10 rfl (lv_at hl 0 rfl) ?_
    refine va_get (D := D) (ci := 2) (v := .int v_worlds) (C := RX2) (T := TX2) (N := 5) hx hb hts inlX2 hown hK hP 0 rfl rfl 1 (by decide) (hts _ m_159) (fun _ h9 => h9) rfl dX2_classes_11 ?_
    refine lv_icmp_ge (tgt := 39) hx hb dX2_classes_14 (by decide) (fun c14 => ?_) (fun c14 => ?_)
    · replace hf := k_ifT c14 hf
      exact hE9 _ _ _ _ hf hP hD hS (lv_sub hl [0, 1, 2, 3] rfl)
    · replace hf := k_ifF c14 hf
      refine lv_iload_n hx hb dX2_classes_17 rfl (lv_at hl 1 rfl) ?_
      refine lv_iload_n hx hb dX2_classes_18 rfl (lv_at hl 3 rfl) ?_
      refine k_calli (wN := [(h_this, o_X2 v_kind v_worlds v_arrows v_p v_q)]) [] [0] [0] hP hD hS hA (va_runS (As := [.int q1, .int a9.2]) (rest := []) ⟨hx, hb, hml, hown, hts⟩ (k_X2_rowOf l D cB cI cJ cZ tL tK _ q1 a9.2 (f_X2_rowOf q1 a9.2) rfl) (va_cwS 2 hts (k_gS m_427 m_425 m_426 m_26) rfl rfl rfl (by decide +kernel) ⟨Nat.le_of_ble_eq_true rfl, Nat.le_of_ble_eq_true rfl⟩) (k_preS [] hK hN hZ hP hD hS hA rfl rfl) rfl rfl hl.1 rfl (lv_room (Nat.le_of_ble_eq_true rfl)) dX2_classes_19 ⟨Nat.le_refl _, Nat.le_refl _⟩) rfl rfl rfl rfl rfl (fun H locs hP hD hS => ?_)
      refine lv_i2l hx hb dX2_classes_22 rfl ?_
      refine k_calli (wN := [(h_this, o_X2 v_kind v_worlds v_arrows v_p v_q)]) [] [0] [0] hP hD hS hA (va_runSN (As := [.long (Int32.toInt64 (f_X2_rowOf q1 a9.2))]) (rest := []) ⟨hx, hb, hml, hown, hts⟩ (k_X8_lowest l D cB cI cJ cZ tL tK _ (Int32.toInt64 (f_X2_rowOf q1 a9.2)) (f_X8_lowest (Int32.toInt64 (f_X2_rowOf q1 a9.2))) rfl) ⟨va_cnB 1 hts (k_gB m_429) rfl rfl rfl (hN.1 _ (List.mem_of_getElem? (i := 14) rfl)) (hts _ m_2) (by decide +kernel) ⟨Nat.le_of_ble_eq_true rfl, Nat.le_of_ble_eq_true rfl⟩, (hts _ m_428), trivial⟩ (k_preS [] hK hN hZ hP hD hS hA rfl rfl) rfl rfl hl.1 rfl (lv_room (Nat.le_of_ble_eq_true rfl)) dX2_classes_23 ⟨Nat.le_refl _, Nat.le_refl _⟩) rfl rfl rfl rfl rfl (fun H locs hP hD hS => ?_)
      refine lv_iload_n hx hb dX2_classes_26 rfl (lv_at hl 3 rfl) ?_
      refine lv_icmp_ne (tgt := 33) hx hb dX2_classes_27 (by decide) (fun c27 => ?_) (fun c27 => ?_)
      · replace hf := k_ifF c27 hf
        refine lv_iinc (v := (a9.2 + 1)) (lv' := [(3, .int (a9.2 + 1)), (0, .ref h_this), (1, .int q1), (2, .int a9.1)]) hx hb dX2_classes_33 hl (k := 3) rfl rfl (by decide) rfl (fun ls hl => ?_)
        refine lv_goto (tgt := 9) hx hb dX2_classes_36 (by decide) ?_
        exact hR9 _ _ _ _ hf hP hD hS (lv_sub hl [1, 2, 3, 0] rfl)
      · replace hf := k_ifT c27 hf
        refine lv_iinc (v := (a9.1 + 1)) (lv' := [(2, .int (a9.1 + 1)), (0, .ref h_this), (1, .int q1), (3, .int a9.2)]) hx hb dX2_classes_30 hl (k := 2) rfl rfl (by decide) rfl (fun ls hl => ?_)
        refine lv_iinc (v := (a9.2 + 1)) (lv' := [(3, .int (a9.2 + 1)), (2, .int (a9.1 + 1)), (0, .ref h_this), (1, .int q1)]) hx hb dX2_classes_33 hl (k := 3) rfl rfl (by decide) rfl (fun ls hl => ?_)
        refine lv_goto (tgt := 9) hx hb dX2_classes_36 (by decide) ?_
        exact hR9 _ _ _ _ hf hP hD hS (lv_sub hl [2, 3, 1, 0] rfl)
set_option maxHeartbeats 4000000 in
set_option maxRecDepth 100000 in
theorem k_X2_obeysAlong (l : Launch) (D : va_G) (cB cI cJ cZ : ClassId) (tL tK : Nat) (h_this : Nat) (sz : Nat) (v_kind : Int32) (v_worlds : Int32) (v_arrows : Int32) (v_p : Int32) (v_q : Int32) (x1 : Int32) (x2 : Int32) (x3 : Int32) (q : Int32) (hf : f_X2_obeysAlong v_arrows x1 x2 x3 = some q) : Met l yX2_obeysAlong (.code yX2_obeysAlong cX2_obeysAlong 4 (some .boolean) :: k_all) { frames := 1, cells := 0, slots := 0, locals := 22 } (k_P D cB cI cJ cZ tL tK [.ref h_this, .int x1, .int x2, .int x3] [(h_this, o_X2 v_kind v_worlds v_arrows v_p v_q)] sz) (k_I D q [(h_this, o_X2 v_kind v_worlds v_arrows v_p v_q)] [(h_this, o_X2 v_kind v_worlds v_arrows v_p v_q)] sz) 0 0 (va_A [(h_this, o_X2 v_kind v_worlds v_arrows v_p v_q)] sz) := by
  unfold f_X2_obeysAlong at hf
  refine k_met RX2 rfl (by decide +kernel) (Nat.le_of_ble_eq_true rfl) ?_
  intro p e s m below meth c A ls hx hb hr hml hown hts hlocks hin hsz hAe hA hK hN hZ hD hS hP hl
  have hl : lv_has ls 4 [(0, .ref h_this), (1, .int x1), (2, .int x2), (3, .int x3)] := hl
  refine lv_iload_n hx hb dX2_obeysAlong_0 rfl (lv_at hl 1 rfl) ?_
  by_cases c1_1 : x1 = 1
  · replace hf := k_ifT c1_1 hf
    refine lv_lookup (tgt := 28) (off := 27) hx hb dX2_obeysAlong_1 (by decide) (by rw [c1_1]; rfl) (by decide) ?_
    refine lv_aload_n hx hb dX2_obeysAlong_28 rfl (lv_at hl 0 rfl) ?_
    refine lv_iload_n hx hb dX2_obeysAlong_29 rfl (lv_at hl 3 rfl) ?_
    refine k_calli (wN := [(h_this, o_X2 v_kind v_worlds v_arrows v_p v_q)]) [0] [] [0] hP hD hS hA (va_runV (As := [.int x3]) (rest := []) ⟨hx, hb, hml, hown, hts⟩ (k_X2_row l D cB cI cJ cZ tL tK h_this _ v_kind v_worlds v_arrows v_p v_q x3 (f_X2_row v_arrows x3) rfl) (cwV 1 hts (k_gV m_396 m_393 m_394 m_395 m_26) rfl rfl rfl (by decide +kernel) ⟨Nat.le_of_ble_eq_true rfl, Nat.le_of_ble_eq_true rfl⟩) (k_preV [0] hK hN hZ hP hD hS hA rfl rfl (va_recv hK hP (ci := 2) (q0 := 0) rfl rfl)) rfl rfl hl.1 rfl (lv_room (Nat.le_of_ble_eq_true rfl)) dX2_obeysAlong_30 ⟨Nat.le_refl _, Nat.le_refl _⟩) rfl rfl rfl rfl rfl (fun H locs hP hD hS => ?_)
    refine lv_aload_n hx hb dX2_obeysAlong_33 rfl (lv_at hl 0 rfl) ?_
    refine lv_iload_n hx hb dX2_obeysAlong_34 rfl (lv_at hl 2 rfl) ?_
    refine k_calli (wN := [(h_this, o_X2 v_kind v_worlds v_arrows v_p v_q)]) [0] [] [0] hP hD hS hA (va_runV (As := [.int x2]) (rest := [.int (f_X2_row v_arrows x3)]) ⟨hx, hb, hml, hown, hts⟩ (k_X2_row l D cB cI cJ cZ tL tK h_this _ v_kind v_worlds v_arrows v_p v_q x2 (f_X2_row v_arrows x2) rfl) (cwV 1 hts (k_gV m_396 m_393 m_394 m_395 m_26) rfl rfl rfl (by decide +kernel) ⟨Nat.le_of_ble_eq_true rfl, Nat.le_of_ble_eq_true rfl⟩) (k_preV [0] hK hN hZ hP hD hS hA rfl rfl (va_recv hK hP (ci := 2) (q0 := 0) rfl rfl)) rfl rfl hl.1 rfl (lv_room (Nat.le_of_ble_eq_true rfl)) dX2_obeysAlong_35 ⟨Nat.le_refl _, Nat.le_refl _⟩) rfl rfl rfl rfl rfl (fun H locs hP hD hS => ?_)
    refine lv_iconst (v := (-1)) hx hb dX2_obeysAlong_38 (by decide) ?_
    refine lv_ixor hx hb dX2_obeysAlong_39 ?_
    refine lv_iand hx hb dX2_obeysAlong_40 ?_
    refine lv_if_ne (tgt := 48) hx hb dX2_obeysAlong_41 (by decide) (fun c41 => ?_) (fun c41 => ?_)
    · replace hf := k_ifF c41 hf
      refine lv_iconst (v := 0) hx hb dX2_obeysAlong_48 (by decide) ?_
      cases hf
      exact k_zret (r := 0) hx hb hr rfl hlocks hAe hS hP hD dX2_obeysAlong_49
    · replace hf := k_ifT c41 hf
      refine lv_iconst (v := 1) hx hb dX2_obeysAlong_44 (by decide) ?_
      refine lv_goto (tgt := 49) hx hb dX2_obeysAlong_45 (by decide) ?_
      cases hf
      exact k_zret (r := 1) hx hb hr rfl hlocks hAe hS hP hD dX2_obeysAlong_49
  · replace hf := k_ifF c1_1 hf
    by_cases c1_2 : x1 = 2
    · replace hf := k_ifT c1_2 hf
      refine lv_lookup (tgt := 50) (off := 49) hx hb dX2_obeysAlong_1 (by decide) (by rw [c1_2]; rfl) (by decide) ?_
      refine lv_aload_n hx hb dX2_obeysAlong_50 rfl (lv_at hl 0 rfl) ?_
      refine lv_iload_n hx hb dX2_obeysAlong_51 rfl (lv_at hl 3 rfl) ?_
      refine lv_iload_n hx hb dX2_obeysAlong_52 rfl (lv_at hl 2 rfl) ?_
      refine k_calli (wN := [(h_this, o_X2 v_kind v_worlds v_arrows v_p v_q)]) [0] [] [0] hP hD hS hA (va_runV (As := [.int x3, .int x2]) (rest := []) ⟨hx, hb, hml, hown, hts⟩ (k_X2_has l D cB cI cJ cZ tL tK h_this _ v_kind v_worlds v_arrows v_p v_q x3 x2 (f_X2_has v_arrows x3 x2) rfl) (cwV 2 hts (k_gV m_213 m_392 m_211 m_212 m_26) rfl rfl rfl (by decide +kernel) ⟨Nat.le_of_ble_eq_true rfl, Nat.le_of_ble_eq_true rfl⟩) (k_preV [0] hK hN hZ hP hD hS hA rfl rfl (va_recv hK hP (ci := 2) (q0 := 0) rfl rfl)) rfl rfl hl.1 rfl (lv_room (Nat.le_of_ble_eq_true rfl)) dX2_obeysAlong_53 ⟨Nat.le_refl _, Nat.le_refl _⟩) rfl rfl rfl rfl rfl (fun H locs hP hD hS => ?_)
      obtain ⟨hbl, hf⟩ := k_bl_some hf
      cases hf
      exact k_zret hx hb hr (k_bn hbl) hlocks hAe hS hP hD dX2_obeysAlong_56
    · replace hf := k_ifF c1_2 hf
      refine lv_lookup (tgt := 57) (off := 56) hx hb dX2_obeysAlong_1 (by decide) (by rw [lv_osw c1_1 (show (1 : Int32).toInt = 1 by decide)]; rw [lv_osw c1_2 (show (2 : Int32).toInt = 2 by decide)]; rfl) (by decide) ?_
      refine lv_aload_n hx hb dX2_obeysAlong_57 rfl (lv_at hl 0 rfl) ?_
      refine lv_iload_n hx hb dX2_obeysAlong_58 rfl (lv_at hl 2 rfl) ?_
      refine k_calli (wN := [(h_this, o_X2 v_kind v_worlds v_arrows v_p v_q)]) [0] [] [0] hP hD hS hA (va_runV (As := [.int x2]) (rest := []) ⟨hx, hb, hml, hown, hts⟩ (k_X2_row l D cB cI cJ cZ tL tK h_this _ v_kind v_worlds v_arrows v_p v_q x2 (f_X2_row v_arrows x2) rfl) (cwV 1 hts (k_gV m_396 m_393 m_394 m_395 m_26) rfl rfl rfl (by decide +kernel) ⟨Nat.le_of_ble_eq_true rfl, Nat.le_of_ble_eq_true rfl⟩) (k_preV [0] hK hN hZ hP hD hS hA rfl rfl (va_recv hK hP (ci := 2) (q0 := 0) rfl rfl)) rfl rfl hl.1 rfl (lv_room (Nat.le_of_ble_eq_true rfl)) dX2_obeysAlong_59 ⟨Nat.le_refl _, Nat.le_refl _⟩) rfl rfl rfl rfl rfl (fun H locs hP hD hS => ?_)
      refine lv_aload_n hx hb dX2_obeysAlong_62 rfl (lv_at hl 0 rfl) ?_
      refine lv_iload_n hx hb dX2_obeysAlong_63 rfl (lv_at hl 3 rfl) ?_
      refine k_calli (wN := [(h_this, o_X2 v_kind v_worlds v_arrows v_p v_q)]) [0] [] [0] hP hD hS hA (va_runV (As := [.int x3]) (rest := [.int (f_X2_row v_arrows x2)]) ⟨hx, hb, hml, hown, hts⟩ (k_X2_row l D cB cI cJ cZ tL tK h_this _ v_kind v_worlds v_arrows v_p v_q x3 (f_X2_row v_arrows x3) rfl) (cwV 1 hts (k_gV m_396 m_393 m_394 m_395 m_26) rfl rfl rfl (by decide +kernel) ⟨Nat.le_of_ble_eq_true rfl, Nat.le_of_ble_eq_true rfl⟩) (k_preV [0] hK hN hZ hP hD hS hA rfl rfl (va_recv hK hP (ci := 2) (q0 := 0) rfl rfl)) rfl rfl hl.1 rfl (lv_room (Nat.le_of_ble_eq_true rfl)) dX2_obeysAlong_64 ⟨Nat.le_refl _, Nat.le_refl _⟩) rfl rfl rfl rfl rfl (fun H locs hP hD hS => ?_)
      refine lv_iconst (v := (-1)) hx hb dX2_obeysAlong_67 (by decide) ?_
      refine lv_ixor hx hb dX2_obeysAlong_68 ?_
      refine lv_iand hx hb dX2_obeysAlong_69 ?_
      refine lv_if_ne (tgt := 77) hx hb dX2_obeysAlong_70 (by decide) (fun c70 => ?_) (fun c70 => ?_)
      · replace hf := k_ifF c70 hf
        refine lv_iconst (v := 0) hx hb dX2_obeysAlong_77 (by decide) ?_
        cases hf
        exact k_zret (r := 0) hx hb hr rfl hlocks hAe hS hP hD dX2_obeysAlong_78
      · replace hf := k_ifT c70 hf
        refine lv_iconst (v := 1) hx hb dX2_obeysAlong_73 (by decide) ?_
        refine lv_goto (tgt := 78) hx hb dX2_obeysAlong_74 (by decide) ?_
        cases hf
        exact k_zret (r := 1) hx hb hr rfl hlocks hAe hS hP hD dX2_obeysAlong_78
set_option maxHeartbeats 4000000 in
set_option maxRecDepth 100000 in
theorem k_X2_obeysAt (l : Launch) (D : va_G) (cB cI cJ cZ : ClassId) (tL tK : Nat) (h_this : Nat) (sz : Nat) (v_kind : Int32) (v_worlds : Int32) (v_arrows : Int32) (v_p : Int32) (v_q : Int32) (x1 : Int32) (x2 : Int32) (q : Int32) (hf : f_X2_obeysAt v_worlds v_arrows x1 x2 = some q) : Met l yX2_obeysAt (.code yX2_obeysAt cX2_obeysAt 4 (some .boolean) :: k_all) { frames := 2, cells := 0, slots := 0, locals := 45 } (k_P D cB cI cJ cZ tL tK [.ref h_this, .int x1, .int x2] [(h_this, o_X2 v_kind v_worlds v_arrows v_p v_q)] sz) (k_I D q [(h_this, o_X2 v_kind v_worlds v_arrows v_p v_q)] [(h_this, o_X2 v_kind v_worlds v_arrows v_p v_q)] sz) 0 0 (va_A [(h_this, o_X2 v_kind v_worlds v_arrows v_p v_q)] sz) := by
  unfold f_X2_obeysAt at hf
  refine k_met RX2 rfl (by decide +kernel) (Nat.le_of_ble_eq_true rfl) ?_
  intro p e s m below meth c A ls hx hb hr hml hown hts hlocks hin hsz hAe hA hK hN hZ hD hS hP hl
  have hl : lv_has ls 4 [(0, .ref h_this), (1, .int x1), (2, .int x2)] := hl
  refine lv_iload_n hx hb dX2_obeysAt_0 rfl (lv_at hl 1 rfl) ?_
  refine lv_if_ne (tgt := 11) hx hb dX2_obeysAt_1 (by decide) (fun c1 => ?_) (fun c1 => ?_)
  · replace hf := k_ifF c1 hf
    refine lv_iload_n hx hb dX2_obeysAt_11 rfl (lv_at hl 1 rfl) ?_
    refine lv_iconst (v := 3) hx hb dX2_obeysAt_12 (by decide) ?_
    refine lv_icmp_ne (tgt := 30) hx hb dX2_obeysAt_13 (by decide) (fun c13 => ?_) (fun c13 => ?_)
    · replace hf := k_ifF c13 hf
      refine lv_iconst (v := 0) hx hb dX2_obeysAt_30 (by decide) ?_
      refine lv_istore_n (lv' := [(3, .int 0), (0, .ref h_this), (1, .int x1), (2, .int x2)]) hx hb dX2_obeysAt_31 rfl hl (by decide) rfl (fun ls hl => ?_)
      refine k_wl 67 (wsf := fun (a32 : Int32) => [(h_this, o_X2 v_kind v_worlds v_arrows v_p v_q)]) (lvf := fun (a32 : Int32) => [(0, .ref h_this), (1, .int x1), (2, .int x2), (3, .int a32)]) hf hP hD hS (lv_sub hl [1, 2, 3, 0] rfl) ?_ ?_
      · intro a32 H locs ls hf hP hD hS hl
        have hP : va_P D vwCl [(h_this, o_X2 v_kind v_worlds v_arrows v_p v_q)] H := hP
        have hD : va_D A [(h_this, o_X2 v_kind v_worlds v_arrows v_p v_q)] := hD
        have hl : lv_has ls 4 [(0, .ref h_this), (1, .int x1), (2, .int x2), (3, .int a32)] := hl
        refine lv_iconst (v := 1) hx hb dX2_obeysAt_67 (by decide) ?_
        cases hf
        exact k_zret (r := 1) hx hb hr rfl hlocks hAe hS hP hD dX2_obeysAt_68
      · intro ex32 rc32 hE32 hR32 a32 H locs ls hf hP hD hS hl
        have hP : va_P D vwCl [(h_this, o_X2 v_kind v_worlds v_arrows v_p v_q)] H := hP
        have hD : va_D A [(h_this, o_X2 v_kind v_worlds v_arrows v_p v_q)] := hD
        have hl : lv_has ls 4 [(0, .ref h_this), (1, .int x1), (2, .int x2), (3, .int a32)] := hl
        refine lv_iload_n hx hb dX2_obeysAt_32 rfl (lv_at hl 3 rfl) ?_
        refine lv_aload_n hx hb dX2_obeysAt_33 rfl (lv_at hl 0 rfl) ?_
        refine va_get (D := D) (ci := 2) (v := .int v_worlds) (C := RX2) (T := TX2) (N := 5) hx hb hts inlX2 hown hK hP 0 rfl rfl 1 (by decide) (hts _ m_159) (fun _ h9 => h9) rfl dX2_obeysAt_34 ?_
        refine lv_icmp_ge (tgt := 67) hx hb dX2_obeysAt_37 (by decide) (fun c37 => ?_) (fun c37 => ?_)
        · replace hf := k_ifT c37 hf
          exact hE32 _ _ _ _ hf hP hD hS (lv_sub hl [0, 1, 2, 3] rfl)
        · replace hf := k_ifF c37 hf
          refine lv_aload_n hx hb dX2_obeysAt_40 rfl (lv_at hl 0 rfl) ?_
          refine lv_iload_n hx hb dX2_obeysAt_41 rfl (lv_at hl 2 rfl) ?_
          refine lv_iload_n hx hb dX2_obeysAt_42 rfl (lv_at hl 3 rfl) ?_
          refine k_calli (wN := [(h_this, o_X2 v_kind v_worlds v_arrows v_p v_q)]) [0] [] [0] hP hD hS hA (va_runV (As := [.int x2, .int a32]) (rest := []) ⟨hx, hb, hml, hown, hts⟩ (k_X2_has l D cB cI cJ cZ tL tK h_this _ v_kind v_worlds v_arrows v_p v_q x2 a32 (f_X2_has v_arrows x2 a32) rfl) (cwV 2 hts (k_gV m_213 m_392 m_211 m_212 m_26) rfl rfl rfl (by decide +kernel) ⟨Nat.le_of_ble_eq_true rfl, Nat.le_of_ble_eq_true rfl⟩) (k_preV [0] hK hN hZ hP hD hS hA rfl rfl (va_recv hK hP (ci := 2) (q0 := 0) rfl rfl)) rfl rfl hl.1 rfl (lv_room (Nat.le_of_ble_eq_true rfl)) dX2_obeysAt_43 ⟨Nat.le_refl _, Nat.le_refl _⟩) rfl rfl rfl rfl rfl (fun H locs hP hD hS => ?_)
          refine lv_if_eq (tgt := 61) hx hb dX2_obeysAt_46 (by decide) (fun c46 => ?_) (fun c46 => ?_)
          · replace hf := k_ifT c46 hf
            refine lv_iinc (v := (a32 + 1)) (lv' := [(3, .int (a32 + 1)), (0, .ref h_this), (1, .int x1), (2, .int x2)]) hx hb dX2_obeysAt_61 hl (k := 3) rfl rfl (by decide) rfl (fun ls hl => ?_)
            refine lv_goto (tgt := 32) hx hb dX2_obeysAt_64 (by decide) ?_
            exact hR32 _ _ _ _ hf hP hD hS (lv_sub hl [1, 2, 3, 0] rfl)
          · replace hf := k_ifF c46 hf
            refine lv_aload_n hx hb dX2_obeysAt_49 rfl (lv_at hl 0 rfl) ?_
            refine lv_iload_n hx hb dX2_obeysAt_50 rfl (lv_at hl 1 rfl) ?_
            refine lv_iload_n hx hb dX2_obeysAt_51 rfl (lv_at hl 2 rfl) ?_
            refine lv_iload_n hx hb dX2_obeysAt_52 rfl (lv_at hl 3 rfl) ?_
            obtain ⟨q53, hq53, hf⟩ := k_bind hf
            refine k_calli (wN := [(h_this, o_X2 v_kind v_worlds v_arrows v_p v_q)]) [0] [] [0] hP hD hS hA (va_runV (As := [.int x1, .int x2, .int a32]) (rest := []) ⟨hx, hb, hml, hown, hts⟩ (k_X2_obeysAlong l D cB cI cJ cZ tL tK h_this _ v_kind v_worlds v_arrows v_p v_q x1 x2 a32 q53 hq53) (cwV 3 hts (k_gV m_400 m_397 m_398 m_399 m_26) rfl rfl rfl (by decide +kernel) ⟨Nat.le_of_ble_eq_true rfl, Nat.le_of_ble_eq_true rfl⟩) (k_preV [0] hK hN hZ hP hD hS hA rfl rfl (va_recv hK hP (ci := 2) (q0 := 0) rfl rfl)) rfl rfl hl.1 rfl (lv_room (Nat.le_of_ble_eq_true rfl)) dX2_obeysAt_53 ⟨Nat.le_refl _, Nat.le_refl _⟩) rfl rfl rfl rfl rfl (fun H locs hP hD hS => ?_)
            refine lv_if_ne (tgt := 61) hx hb dX2_obeysAt_56 (by decide) (fun c56 => ?_) (fun c56 => ?_)
            · replace hf := k_ifF c56 hf
              refine lv_iinc (v := (a32 + 1)) (lv' := [(3, .int (a32 + 1)), (0, .ref h_this), (1, .int x1), (2, .int x2)]) hx hb dX2_obeysAt_61 hl (k := 3) rfl rfl (by decide) rfl (fun ls hl => ?_)
              refine lv_goto (tgt := 32) hx hb dX2_obeysAt_64 (by decide) ?_
              exact hR32 _ _ _ _ hf hP hD hS (lv_sub hl [1, 2, 3, 0] rfl)
            · replace hf := k_ifT c56 hf
              refine lv_iconst (v := 0) hx hb dX2_obeysAt_59 (by decide) ?_
              cases hf
              exact k_zret (r := 0) hx hb hr rfl hlocks hAe hS hP hD dX2_obeysAt_60
    · replace hf := k_ifT c13 hf
      refine lv_aload_n hx hb dX2_obeysAt_16 rfl (lv_at hl 0 rfl) ?_
      refine lv_iload_n hx hb dX2_obeysAt_17 rfl (lv_at hl 2 rfl) ?_
      refine k_calli (wN := [(h_this, o_X2 v_kind v_worlds v_arrows v_p v_q)]) [0] [] [0] hP hD hS hA (va_runV (As := [.int x2]) (rest := []) ⟨hx, hb, hml, hown, hts⟩ (k_X2_row l D cB cI cJ cZ tL tK h_this _ v_kind v_worlds v_arrows v_p v_q x2 (f_X2_row v_arrows x2) rfl) (cwV 1 hts (k_gV m_396 m_393 m_394 m_395 m_26) rfl rfl rfl (by decide +kernel) ⟨Nat.le_of_ble_eq_true rfl, Nat.le_of_ble_eq_true rfl⟩) (k_preV [0] hK hN hZ hP hD hS hA rfl rfl (va_recv hK hP (ci := 2) (q0 := 0) rfl rfl)) rfl rfl hl.1 rfl (lv_room (Nat.le_of_ble_eq_true rfl)) dX2_obeysAt_18 ⟨Nat.le_refl _, Nat.le_refl _⟩) rfl rfl rfl rfl rfl (fun H locs hP hD hS => ?_)
      refine lv_if_eq (tgt := 28) hx hb dX2_obeysAt_21 (by decide) (fun c21 => ?_) (fun c21 => ?_)
      · replace hf := k_ifT c21 hf
        refine lv_iconst (v := 0) hx hb dX2_obeysAt_28 (by decide) ?_
        cases hf
        exact k_zret (r := 0) hx hb hr rfl hlocks hAe hS hP hD dX2_obeysAt_29
      · replace hf := k_ifF c21 hf
        refine lv_iconst (v := 1) hx hb dX2_obeysAt_24 (by decide) ?_
        refine lv_goto (tgt := 29) hx hb dX2_obeysAt_25 (by decide) ?_
        cases hf
        exact k_zret (r := 1) hx hb hr rfl hlocks hAe hS hP hD dX2_obeysAt_29
  · replace hf := k_ifT c1 hf
    refine lv_aload_n hx hb dX2_obeysAt_4 rfl (lv_at hl 0 rfl) ?_
    refine lv_iload_n hx hb dX2_obeysAt_5 rfl (lv_at hl 2 rfl) ?_
    refine lv_iload_n hx hb dX2_obeysAt_6 rfl (lv_at hl 2 rfl) ?_
    refine k_calli (wN := [(h_this, o_X2 v_kind v_worlds v_arrows v_p v_q)]) [0] [] [0] hP hD hS hA (va_runV (As := [.int x2, .int x2]) (rest := []) ⟨hx, hb, hml, hown, hts⟩ (k_X2_has l D cB cI cJ cZ tL tK h_this _ v_kind v_worlds v_arrows v_p v_q x2 x2 (f_X2_has v_arrows x2 x2) rfl) (cwV 2 hts (k_gV m_213 m_392 m_211 m_212 m_26) rfl rfl rfl (by decide +kernel) ⟨Nat.le_of_ble_eq_true rfl, Nat.le_of_ble_eq_true rfl⟩) (k_preV [0] hK hN hZ hP hD hS hA rfl rfl (va_recv hK hP (ci := 2) (q0 := 0) rfl rfl)) rfl rfl hl.1 rfl (lv_room (Nat.le_of_ble_eq_true rfl)) dX2_obeysAt_7 ⟨Nat.le_refl _, Nat.le_refl _⟩) rfl rfl rfl rfl rfl (fun H locs hP hD hS => ?_)
    obtain ⟨hbl, hf⟩ := k_bl_some hf
    cases hf
    exact k_zret hx hb hr (k_bn hbl) hlocks hAe hS hP hD dX2_obeysAt_10
set_option maxHeartbeats 4000000 in
set_option maxRecDepth 100000 in
theorem k_X2_obeys (l : Launch) (D : va_G) (cB cI cJ cZ : ClassId) (tL tK : Nat) (h_this : Nat) (sz : Nat) (v_kind : Int32) (v_worlds : Int32) (v_arrows : Int32) (v_p : Int32) (v_q : Int32) (x1 : Int32) (q : Int32) (hf : f_X2_obeys v_worlds v_arrows x1 = some q) : Met l yX2_obeys (.code yX2_obeys cX2_obeys 3 (some .boolean) :: k_all) { frames := 3, cells := 0, slots := 0, locals := 68 } (k_P D cB cI cJ cZ tL tK [.ref h_this, .int x1] [(h_this, o_X2 v_kind v_worlds v_arrows v_p v_q)] sz) (k_I D q [(h_this, o_X2 v_kind v_worlds v_arrows v_p v_q)] [(h_this, o_X2 v_kind v_worlds v_arrows v_p v_q)] sz) 0 0 (va_A [(h_this, o_X2 v_kind v_worlds v_arrows v_p v_q)] sz) := by
  unfold f_X2_obeys at hf
  refine k_met RX2 rfl (by decide +kernel) (Nat.le_of_ble_eq_true rfl) ?_
  intro p e s m below meth c A ls hx hb hr hml hown hts hlocks hin hsz hAe hA hK hN hZ hD hS hP hl
  have hl : lv_has ls 3 [(0, .ref h_this), (1, .int x1)] := hl
  refine lv_iconst (v := 0) hx hb dX2_obeys_0 (by decide) ?_
  refine lv_istore_n (lv' := [(2, .int 0), (0, .ref h_this), (1, .int x1)]) hx hb dX2_obeys_1 rfl hl (by decide) rfl (fun ls hl => ?_)
  refine k_wl 27 (wsf := fun (a2 : Int32) => [(h_this, o_X2 v_kind v_worlds v_arrows v_p v_q)]) (lvf := fun (a2 : Int32) => [(0, .ref h_this), (1, .int x1), (2, .int a2)]) hf hP hD hS (lv_sub hl [1, 2, 0] rfl) ?_ ?_
  · intro a2 H locs ls hf hP hD hS hl
    have hP : va_P D vwCl [(h_this, o_X2 v_kind v_worlds v_arrows v_p v_q)] H := hP
    have hD : va_D A [(h_this, o_X2 v_kind v_worlds v_arrows v_p v_q)] := hD
    have hl : lv_has ls 3 [(0, .ref h_this), (1, .int x1), (2, .int a2)] := hl
    refine lv_iconst (v := 1) hx hb dX2_obeys_27 (by decide) ?_
    cases hf
    exact k_zret (r := 1) hx hb hr rfl hlocks hAe hS hP hD dX2_obeys_28
  · intro ex2 rc2 hE2 hR2 a2 H locs ls hf hP hD hS hl
    have hP : va_P D vwCl [(h_this, o_X2 v_kind v_worlds v_arrows v_p v_q)] H := hP
    have hD : va_D A [(h_this, o_X2 v_kind v_worlds v_arrows v_p v_q)] := hD
    have hl : lv_has ls 3 [(0, .ref h_this), (1, .int x1), (2, .int a2)] := hl
    refine lv_iload_n hx hb dX2_obeys_2 rfl (lv_at hl 2 rfl) ?_
    refine lv_aload_n hx hb dX2_obeys_3 rfl (lv_at hl 0 rfl) ?_
    refine va_get (D := D) (ci := 2) (v := .int v_worlds) (C := RX2) (T := TX2) (N := 5) hx hb hts inlX2 hown hK hP 0 rfl rfl 1 (by decide) (hts _ m_159) (fun _ h9 => h9) rfl dX2_obeys_4 ?_
    refine lv_icmp_ge (tgt := 27) hx hb dX2_obeys_7 (by decide) (fun c7 => ?_) (fun c7 => ?_)
    · replace hf := k_ifT c7 hf
      exact hE2 _ _ _ _ hf hP hD hS (lv_sub hl [0, 1, 2] rfl)
    · replace hf := k_ifF c7 hf
      refine lv_aload_n hx hb dX2_obeys_10 rfl (lv_at hl 0 rfl) ?_
      refine lv_iload_n hx hb dX2_obeys_11 rfl (lv_at hl 1 rfl) ?_
      refine lv_iload_n hx hb dX2_obeys_12 rfl (lv_at hl 2 rfl) ?_
      obtain ⟨q13, hq13, hf⟩ := k_bind hf
      refine k_calli (wN := [(h_this, o_X2 v_kind v_worlds v_arrows v_p v_q)]) [0] [] [0] hP hD hS hA (va_runV (As := [.int x1, .int a2]) (rest := []) ⟨hx, hb, hml, hown, hts⟩ (k_X2_obeysAt l D cB cI cJ cZ tL tK h_this _ v_kind v_worlds v_arrows v_p v_q x1 a2 q13 hq13) (cwV 2 hts (k_gV m_391 m_388 m_389 m_390 m_26) rfl rfl rfl (by decide +kernel) ⟨Nat.le_of_ble_eq_true rfl, Nat.le_of_ble_eq_true rfl⟩) (k_preV [0] hK hN hZ hP hD hS hA rfl rfl (va_recv hK hP (ci := 2) (q0 := 0) rfl rfl)) rfl rfl hl.1 rfl (lv_room (Nat.le_of_ble_eq_true rfl)) dX2_obeys_13 ⟨Nat.le_refl _, Nat.le_refl _⟩) rfl rfl rfl rfl rfl (fun H locs hP hD hS => ?_)
      refine lv_if_ne (tgt := 21) hx hb dX2_obeys_16 (by decide) (fun c16 => ?_) (fun c16 => ?_)
      · replace hf := k_ifF c16 hf
        refine lv_iinc (v := (a2 + 1)) (lv' := [(2, .int (a2 + 1)), (0, .ref h_this), (1, .int x1)]) hx hb dX2_obeys_21 hl (k := 2) rfl rfl (by decide) rfl (fun ls hl => ?_)
        refine lv_goto (tgt := 2) hx hb dX2_obeys_24 (by decide) ?_
        exact hR2 _ _ _ _ hf hP hD hS (lv_sub hl [1, 2, 0] rfl)
      · replace hf := k_ifT c16 hf
        refine lv_iconst (v := 0) hx hb dX2_obeys_19 (by decide) ?_
        cases hf
        exact k_zret (r := 0) hx hb hr rfl hlocks hAe hS hP hD dX2_obeys_20
set_option maxHeartbeats 4000000 in
set_option maxRecDepth 100000 in
theorem k_X2_fits (l : Launch) (D : va_G) (cB cI cJ cZ : ClassId) (tL tK : Nat) (h_this : Nat) (sz : Nat) (v_kind : Int32) (v_worlds : Int32) (v_arrows : Int32) (v_p : Int32) (v_q : Int32) (x1 : Int32) (q : Int32) (hf : f_X2_fits v_worlds v_arrows x1 = some q) : Met l yX2_fits (.code yX2_fits cX2_fits 2 (some .boolean) :: k_all) { frames := 4, cells := 0, slots := 0, locals := 90 } (k_P D cB cI cJ cZ tL tK [.ref h_this, .int x1] [(h_this, o_X2 v_kind v_worlds v_arrows v_p v_q)] sz) (k_I D q [(h_this, o_X2 v_kind v_worlds v_arrows v_p v_q)] [(h_this, o_X2 v_kind v_worlds v_arrows v_p v_q)] sz) 0 0 (va_A [(h_this, o_X2 v_kind v_worlds v_arrows v_p v_q)] sz) := by
  unfold f_X2_fits at hf
  refine k_met RX2 rfl (by decide +kernel) (Nat.le_of_ble_eq_true rfl) ?_
  intro p e s m below meth c A ls hx hb hr hml hown hts hlocks hin hsz hAe hA hK hN hZ hD hS hP hl
  have hl : lv_has ls 2 [(0, .ref h_this), (1, .int x1)] := hl
  refine lv_iload_n hx hb dX2_fits_0 rfl (lv_at hl 1 rfl) ?_
  by_cases c1_0 : x1 = 0
  · replace hf := k_ifT c1_0 hf
    refine lv_tableIn (tgt := 32) hx hb dX2_fits_1 (by rw [c1_0]; decide) (by rw [c1_0]; decide) (by rw [c1_0]; rfl) (by decide) ?_
    refine lv_iconst (v := 1) hx hb dX2_fits_32 (by decide) ?_
    cases hf
    exact k_zret (r := 1) hx hb hr rfl hlocks hAe hS hP hD dX2_fits_33
  · replace hf := k_ifF c1_0 hf
    by_cases c1_1 : x1 = 1
    · replace hf := k_ifT c1_1 hf
      refine lv_tableIn (tgt := 34) hx hb dX2_fits_1 (by rw [c1_1]; decide) (by rw [c1_1]; decide) (by rw [c1_1]; rfl) (by decide) ?_
      refine lv_aload_n hx hb dX2_fits_34 rfl (lv_at hl 0 rfl) ?_
      refine lv_iconst (v := 0) hx hb dX2_fits_35 (by decide) ?_
      obtain ⟨q36, hq36, hf⟩ := k_bind hf
      refine k_calli (wN := [(h_this, o_X2 v_kind v_worlds v_arrows v_p v_q)]) [0] [] [0] hP hD hS hA (va_runV (As := [.int 0]) (rest := []) ⟨hx, hb, hml, hown, hts⟩ (k_X2_obeys l D cB cI cJ cZ tL tK h_this _ v_kind v_worlds v_arrows v_p v_q 0 q36 hq36) (cwV 1 hts (k_gV m_387 m_384 m_385 m_386 m_26) rfl rfl rfl (by decide +kernel) ⟨Nat.le_of_ble_eq_true rfl, Nat.le_of_ble_eq_true rfl⟩) (k_preV [0] hK hN hZ hP hD hS hA rfl rfl (va_recv hK hP (ci := 2) (q0 := 0) rfl rfl)) rfl rfl hl.1 rfl (lv_room (Nat.le_of_ble_eq_true rfl)) dX2_fits_36 ⟨Nat.le_refl _, Nat.le_refl _⟩) rfl rfl rfl rfl rfl (fun H locs hP hD hS => ?_)
      obtain ⟨hbl, hf⟩ := k_bl_some hf
      cases hf
      exact k_zret hx hb hr (k_bn hbl) hlocks hAe hS hP hD dX2_fits_39
    · replace hf := k_ifF c1_1 hf
      by_cases c1_2 : x1 = 2
      · replace hf := k_ifT c1_2 hf
        refine lv_tableIn (tgt := 40) hx hb dX2_fits_1 (by rw [c1_2]; decide) (by rw [c1_2]; decide) (by rw [c1_2]; rfl) (by decide) ?_
        refine lv_aload_n hx hb dX2_fits_40 rfl (lv_at hl 0 rfl) ?_
        refine lv_iconst (v := 0) hx hb dX2_fits_41 (by decide) ?_
        obtain ⟨q42, hq42, hf⟩ := k_bind hf
        refine k_calli (wN := [(h_this, o_X2 v_kind v_worlds v_arrows v_p v_q)]) [0] [] [0] hP hD hS hA (va_runV (As := [.int 0]) (rest := []) ⟨hx, hb, hml, hown, hts⟩ (k_X2_obeys l D cB cI cJ cZ tL tK h_this _ v_kind v_worlds v_arrows v_p v_q 0 q42 hq42) (cwV 1 hts (k_gV m_387 m_384 m_385 m_386 m_26) rfl rfl rfl (by decide +kernel) ⟨Nat.le_of_ble_eq_true rfl, Nat.le_of_ble_eq_true rfl⟩) (k_preV [0] hK hN hZ hP hD hS hA rfl rfl (va_recv hK hP (ci := 2) (q0 := 0) rfl rfl)) rfl rfl hl.1 rfl (lv_room (Nat.le_of_ble_eq_true rfl)) dX2_fits_42 ⟨Nat.le_refl _, Nat.le_refl _⟩) rfl rfl rfl rfl rfl (fun H locs hP hD hS => ?_)
        refine lv_if_eq (tgt := 60) hx hb dX2_fits_45 (by decide) (fun c45 => ?_) (fun c45 => ?_)
        · replace hf := k_ifT c45 hf
          refine lv_iconst (v := 0) hx hb dX2_fits_60 (by decide) ?_
          cases hf
          exact k_zret (r := 0) hx hb hr rfl hlocks hAe hS hP hD dX2_fits_61
        · replace hf := k_ifF c45 hf
          refine lv_aload_n hx hb dX2_fits_48 rfl (lv_at hl 0 rfl) ?_
          refine lv_iconst (v := 1) hx hb dX2_fits_49 (by decide) ?_
          obtain ⟨q50, hq50, hf⟩ := k_bind hf
          refine k_calli (wN := [(h_this, o_X2 v_kind v_worlds v_arrows v_p v_q)]) [0] [] [0] hP hD hS hA (va_runV (As := [.int 1]) (rest := []) ⟨hx, hb, hml, hown, hts⟩ (k_X2_obeys l D cB cI cJ cZ tL tK h_this _ v_kind v_worlds v_arrows v_p v_q 1 q50 hq50) (cwV 1 hts (k_gV m_387 m_384 m_385 m_386 m_26) rfl rfl rfl (by decide +kernel) ⟨Nat.le_of_ble_eq_true rfl, Nat.le_of_ble_eq_true rfl⟩) (k_preV [0] hK hN hZ hP hD hS hA rfl rfl (va_recv hK hP (ci := 2) (q0 := 0) rfl rfl)) rfl rfl hl.1 rfl (lv_room (Nat.le_of_ble_eq_true rfl)) dX2_fits_50 ⟨Nat.le_refl _, Nat.le_refl _⟩) rfl rfl rfl rfl rfl (fun H locs hP hD hS => ?_)
          refine lv_if_eq (tgt := 60) hx hb dX2_fits_53 (by decide) (fun c53 => ?_) (fun c53 => ?_)
          · replace hf := k_ifT c53 hf
            refine lv_iconst (v := 0) hx hb dX2_fits_60 (by decide) ?_
            cases hf
            exact k_zret (r := 0) hx hb hr rfl hlocks hAe hS hP hD dX2_fits_61
          · replace hf := k_ifF c53 hf
            refine lv_iconst (v := 1) hx hb dX2_fits_56 (by decide) ?_
            refine lv_goto (tgt := 61) hx hb dX2_fits_57 (by decide) ?_
            cases hf
            exact k_zret (r := 1) hx hb hr rfl hlocks hAe hS hP hD dX2_fits_61
      · replace hf := k_ifF c1_2 hf
        by_cases c1_3 : x1 = 3
        · replace hf := k_ifT c1_3 hf
          refine lv_tableIn (tgt := 62) hx hb dX2_fits_1 (by rw [c1_3]; decide) (by rw [c1_3]; decide) (by rw [c1_3]; rfl) (by decide) ?_
          refine lv_aload_n hx hb dX2_fits_62 rfl (lv_at hl 0 rfl) ?_
          refine lv_iconst (v := 2) hx hb dX2_fits_63 (by decide) ?_
          obtain ⟨q64, hq64, hf⟩ := k_bind hf
          refine k_calli (wN := [(h_this, o_X2 v_kind v_worlds v_arrows v_p v_q)]) [0] [] [0] hP hD hS hA (va_runV (As := [.int 2]) (rest := []) ⟨hx, hb, hml, hown, hts⟩ (k_X2_obeys l D cB cI cJ cZ tL tK h_this _ v_kind v_worlds v_arrows v_p v_q 2 q64 hq64) (cwV 1 hts (k_gV m_387 m_384 m_385 m_386 m_26) rfl rfl rfl (by decide +kernel) ⟨Nat.le_of_ble_eq_true rfl, Nat.le_of_ble_eq_true rfl⟩) (k_preV [0] hK hN hZ hP hD hS hA rfl rfl (va_recv hK hP (ci := 2) (q0 := 0) rfl rfl)) rfl rfl hl.1 rfl (lv_room (Nat.le_of_ble_eq_true rfl)) dX2_fits_64 ⟨Nat.le_refl _, Nat.le_refl _⟩) rfl rfl rfl rfl rfl (fun H locs hP hD hS => ?_)
          obtain ⟨hbl, hf⟩ := k_bl_some hf
          cases hf
          exact k_zret hx hb hr (k_bn hbl) hlocks hAe hS hP hD dX2_fits_67
        · replace hf := k_ifF c1_3 hf
          refine lv_tableOut (tgt := 68) hx hb dX2_fits_1 (by have := lv_neT c1_0 (show (0 : Int32).toInt = 0 by decide); have := lv_neT c1_1 (show (1 : Int32).toInt = 1 by decide); have := lv_neT c1_2 (show (2 : Int32).toInt = 2 by decide); have := lv_neT c1_3 (show (3 : Int32).toInt = 3 by decide); omega) (by decide) ?_
          refine lv_aload_n hx hb dX2_fits_68 rfl (lv_at hl 0 rfl) ?_
          refine lv_iconst (v := 3) hx hb dX2_fits_69 (by decide) ?_
          obtain ⟨q70, hq70, hf⟩ := k_bind hf
          refine k_calli (wN := [(h_this, o_X2 v_kind v_worlds v_arrows v_p v_q)]) [0] [] [0] hP hD hS hA (va_runV (As := [.int 3]) (rest := []) ⟨hx, hb, hml, hown, hts⟩ (k_X2_obeys l D cB cI cJ cZ tL tK h_this _ v_kind v_worlds v_arrows v_p v_q 3 q70 hq70) (cwV 1 hts (k_gV m_387 m_384 m_385 m_386 m_26) rfl rfl rfl (by decide +kernel) ⟨Nat.le_of_ble_eq_true rfl, Nat.le_of_ble_eq_true rfl⟩) (k_preV [0] hK hN hZ hP hD hS hA rfl rfl (va_recv hK hP (ci := 2) (q0 := 0) rfl rfl)) rfl rfl hl.1 rfl (lv_room (Nat.le_of_ble_eq_true rfl)) dX2_fits_70 ⟨Nat.le_refl _, Nat.le_refl _⟩) rfl rfl rfl rfl rfl (fun H locs hP hD hS => ?_)
          obtain ⟨hbl, hf⟩ := k_bl_some hf
          cases hf
          exact k_zret hx hb hr (k_bn hbl) hlocks hAe hS hP hD dX2_fits_73
set_option maxHeartbeats 4000000 in
set_option maxRecDepth 100000 in
theorem k_X2_arrowCount (l : Launch) (D : va_G) (cB cI cJ cZ : ClassId) (tL tK : Nat) (h_this : Nat) (sz : Nat) (v_kind : Int32) (v_worlds : Int32) (v_arrows : Int32) (v_p : Int32) (v_q : Int32)  (q : Int32) (hf : f_X2_arrowCount v_arrows = q) : Met l yX2_arrowCount (.code yX2_arrowCount cX2_arrowCount 1 (some .int) :: k_all) { frames := 1, cells := 0, slots := 0, locals := 20 } (k_P D cB cI cJ cZ tL tK [.ref h_this] [(h_this, o_X2 v_kind v_worlds v_arrows v_p v_q)] sz) (k_I D q [(h_this, o_X2 v_kind v_worlds v_arrows v_p v_q)] [(h_this, o_X2 v_kind v_worlds v_arrows v_p v_q)] sz) 0 0 (va_A [(h_this, o_X2 v_kind v_worlds v_arrows v_p v_q)] sz) := by
  unfold f_X2_arrowCount at hf
  refine k_met RX2 rfl (by decide +kernel) (Nat.le_of_ble_eq_true rfl) ?_
  intro p e s m below meth c A ls hx hb hr hml hown hts hlocks hin hsz hAe hA hK hN hZ hD hS hP hl
  have hl : lv_has ls 1 [(0, .ref h_this)] := hl
  refine lv_aload_n hx hb dX2_arrowCount_0 rfl (lv_at hl 0 rfl) ?_
  refine va_get (D := D) (ci := 2) (v := .int v_arrows) (C := RX2) (T := TX2) (N := 5) hx hb hts inlX2 hown hK hP 0 rfl rfl 2 (by decide) (hts _ m_160) (fun _ h9 => h9) rfl dX2_arrowCount_1 ?_
  refine k_calli (wN := [(h_this, o_X2 v_kind v_worlds v_arrows v_p v_q)]) [] [0] [0] hP hD hS hA (va_runS (As := [.int v_arrows]) (rest := []) ⟨hx, hb, hml, hown, hts⟩ (k_J6_bitCount_0f7a4 l D cB cI cJ cZ tL tK _ v_arrows (f_J6_bitCount_0f7a4 v_arrows) rfl) (va_cwS 1 hts (k_gS m_376 m_373 m_374 m_375) rfl rfl rfl (by decide +kernel) ⟨Nat.le_of_ble_eq_true rfl, Nat.le_of_ble_eq_true rfl⟩) (k_preS [] hK hN hZ hP hD hS hA rfl rfl) rfl rfl hl.1 rfl (lv_room (Nat.le_of_ble_eq_true rfl)) dX2_arrowCount_4 ⟨Nat.le_refl _, Nat.le_refl _⟩) rfl rfl rfl rfl rfl (fun H locs hP hD hS => ?_)
  subst hf
  exact k_iret hx hb hr hlocks hAe hS hP hD dX2_arrowCount_7
set_option maxHeartbeats 4000000 in
set_option maxRecDepth 100000 in
theorem k_X2_lowestBisimilar (l : Launch) (D : va_G) (cB cI cJ cZ : ClassId) (tL tK : Nat) (h_this : Nat) (sz : Nat) (v_kind : Int32) (v_worlds : Int32) (v_arrows : Int32) (v_p : Int32) (v_q : Int32) (x1 : Int32) (q : Int32) (hf : f_X2_lowestBisimilar v_worlds v_arrows v_p v_q x1 = some q) : Met l yX2_lowestBisimilar (.code yX2_lowestBisimilar cX2_lowestBisimilar 2 (some .int) :: k_all) { frames := 4, cells := 0, slots := 0, locals := 93 } (k_P D cB cI cJ cZ tL tK [.ref h_this, .int x1] [(h_this, o_X2 v_kind v_worlds v_arrows v_p v_q)] sz) (k_I D q [(h_this, o_X2 v_kind v_worlds v_arrows v_p v_q)] [(h_this, o_X2 v_kind v_worlds v_arrows v_p v_q)] sz) 0 0 (va_A [(h_this, o_X2 v_kind v_worlds v_arrows v_p v_q)] sz) := by
  unfold f_X2_lowestBisimilar at hf
  refine k_met RX2 rfl (by decide +kernel) (Nat.le_of_ble_eq_true rfl) ?_
  intro p e s m below meth c A ls hx hb hr hml hown hts hlocks hin hsz hAe hA hK hN hZ hD hS hP hl
  have hl : lv_has ls 2 [(0, .ref h_this), (1, .int x1)] := hl
  refine lv_aload_n hx hb dX2_lowestBisimilar_0 rfl (lv_at hl 0 rfl) ?_
  obtain ⟨q1, hq1, hf⟩ := k_bind hf
  refine k_calli (wN := [(h_this, o_X2 v_kind v_worlds v_arrows v_p v_q)]) [0] [] [0] hP hD hS hA (va_runV (As := []) (rest := []) ⟨hx, hb, hml, hown, hts⟩ (k_X2_bisimilarity l D cB cI cJ cZ tL tK h_this _ v_kind v_worlds v_arrows v_p v_q q1 hq1) (cwV 0 hts (k_gV m_411 m_408 m_409 m_410 m_26) rfl rfl rfl (by decide +kernel) ⟨Nat.le_of_ble_eq_true rfl, Nat.le_of_ble_eq_true rfl⟩) (k_preV [0] hK hN hZ hP hD hS hA rfl rfl (va_recv hK hP (ci := 2) (q0 := 0) rfl rfl)) rfl rfl hl.1 rfl (lv_room (Nat.le_of_ble_eq_true rfl)) dX2_lowestBisimilar_1 ⟨Nat.le_refl _, Nat.le_refl _⟩) rfl rfl rfl rfl rfl (fun H locs hP hD hS => ?_)
  refine lv_iload_n hx hb dX2_lowestBisimilar_4 rfl (lv_at hl 1 rfl) ?_
  refine k_calli (wN := [(h_this, o_X2 v_kind v_worlds v_arrows v_p v_q)]) [] [0] [0] hP hD hS hA (va_runS (As := [.int q1, .int x1]) (rest := []) ⟨hx, hb, hml, hown, hts⟩ (k_X2_rowOf l D cB cI cJ cZ tL tK _ q1 x1 (f_X2_rowOf q1 x1) rfl) (va_cwS 2 hts (k_gS m_427 m_425 m_426 m_26) rfl rfl rfl (by decide +kernel) ⟨Nat.le_of_ble_eq_true rfl, Nat.le_of_ble_eq_true rfl⟩) (k_preS [] hK hN hZ hP hD hS hA rfl rfl) rfl rfl hl.1 rfl (lv_room (Nat.le_of_ble_eq_true rfl)) dX2_lowestBisimilar_5 ⟨Nat.le_refl _, Nat.le_refl _⟩) rfl rfl rfl rfl rfl (fun H locs hP hD hS => ?_)
  refine lv_i2l hx hb dX2_lowestBisimilar_8 rfl ?_
  refine k_calli (wN := [(h_this, o_X2 v_kind v_worlds v_arrows v_p v_q)]) [] [0] [0] hP hD hS hA (va_runSN (As := [.long (Int32.toInt64 (f_X2_rowOf q1 x1))]) (rest := []) ⟨hx, hb, hml, hown, hts⟩ (k_X8_lowest l D cB cI cJ cZ tL tK _ (Int32.toInt64 (f_X2_rowOf q1 x1)) (f_X8_lowest (Int32.toInt64 (f_X2_rowOf q1 x1))) rfl) ⟨va_cnB 1 hts (k_gB m_429) rfl rfl rfl (hN.1 _ (List.mem_of_getElem? (i := 14) rfl)) (hts _ m_2) (by decide +kernel) ⟨Nat.le_of_ble_eq_true rfl, Nat.le_of_ble_eq_true rfl⟩, (hts _ m_428), trivial⟩ (k_preS [] hK hN hZ hP hD hS hA rfl rfl) rfl rfl hl.1 rfl (lv_room (Nat.le_of_ble_eq_true rfl)) dX2_lowestBisimilar_9 ⟨Nat.le_refl _, Nat.le_refl _⟩) rfl rfl rfl rfl rfl (fun H locs hP hD hS => ?_)
  cases hf
  exact k_iret hx hb hr hlocks hAe hS hP hD dX2_lowestBisimilar_12
set_option maxHeartbeats 4000000 in
set_option maxRecDepth 100000 in
theorem k_X2_arrowsTo (l : Launch) (D : va_G) (cB cI cJ cZ : ClassId) (tL tK : Nat) (h_this : Nat) (sz : Nat) (v_kind : Int32) (v_worlds : Int32) (v_arrows : Int32) (v_p : Int32) (v_q : Int32) (x1 : Int32) (q : Int32) (hf : f_X2_arrowsTo v_worlds v_arrows x1 = some q) : Met l yX2_arrowsTo (.code yX2_arrowsTo cX2_arrowsTo 4 (some .int) :: k_all) { frames := 1, cells := 0, slots := 0, locals := 21 } (k_P D cB cI cJ cZ tL tK [.ref h_this, .int x1] [(h_this, o_X2 v_kind v_worlds v_arrows v_p v_q)] sz) (k_I D q [(h_this, o_X2 v_kind v_worlds v_arrows v_p v_q)] [(h_this, o_X2 v_kind v_worlds v_arrows v_p v_q)] sz) 0 0 (va_A [(h_this, o_X2 v_kind v_worlds v_arrows v_p v_q)] sz) := by
  unfold f_X2_arrowsTo at hf
  refine k_met RX2 rfl (by decide +kernel) (Nat.le_of_ble_eq_true rfl) ?_
  intro p e s m below meth c A ls hx hb hr hml hown hts hlocks hin hsz hAe hA hK hN hZ hD hS hP hl
  have hl : lv_has ls 4 [(0, .ref h_this), (1, .int x1)] := hl
  refine lv_iconst (v := 0) hx hb dX2_arrowsTo_0 (by decide) ?_
  refine lv_istore_n (lv' := [(2, .int 0), (0, .ref h_this), (1, .int x1)]) hx hb dX2_arrowsTo_1 rfl hl (by decide) rfl (fun ls hl => ?_)
  refine lv_iconst (v := 0) hx hb dX2_arrowsTo_2 (by decide) ?_
  refine lv_istore_n (lv' := [(3, .int 0), (2, .int 0), (0, .ref h_this), (1, .int x1)]) hx hb dX2_arrowsTo_3 rfl hl (by decide) rfl (fun ls hl => ?_)
  refine k_wl 30 (wsf := fun (a4 : Int32 × Int32) => [(h_this, o_X2 v_kind v_worlds v_arrows v_p v_q)]) (lvf := fun (a4 : Int32 × Int32) => [(0, .ref h_this), (1, .int x1), (2, .int a4.1), (3, .int a4.2)]) hf hP hD hS (lv_sub hl [2, 3, 1, 0] rfl) ?_ ?_
  · intro a4 H locs ls hf hP hD hS hl
    have hP : va_P D vwCl [(h_this, o_X2 v_kind v_worlds v_arrows v_p v_q)] H := hP
    have hD : va_D A [(h_this, o_X2 v_kind v_worlds v_arrows v_p v_q)] := hD
    have hl : lv_has ls 4 [(0, .ref h_this), (1, .int x1), (2, .int a4.1), (3, .int a4.2)] := hl
    refine lv_iload_n hx hb dX2_arrowsTo_30 rfl (lv_at hl 2 rfl) ?_
    cases hf
    exact k_iret hx hb hr hlocks hAe hS hP hD dX2_arrowsTo_31
  · intro ex4 rc4 hE4 hR4 a4 H locs ls hf hP hD hS hl
    have hP : va_P D vwCl [(h_this, o_X2 v_kind v_worlds v_arrows v_p v_q)] H := hP
    have hD : va_D A [(h_this, o_X2 v_kind v_worlds v_arrows v_p v_q)] := hD
    have hl : lv_has ls 4 [(0, .ref h_this), (1, .int x1), (2, .int a4.1), (3, .int a4.2)] := hl
    refine lv_iload_n hx hb dX2_arrowsTo_4 rfl (lv_at hl 3 rfl) ?_
    refine lv_aload_n hx hb dX2_arrowsTo_5 rfl (lv_at hl 0 rfl) ?_
    refine va_get (D := D) (ci := 2) (v := .int v_worlds) (C := RX2) (T := TX2) (N := 5) hx hb hts inlX2 hown hK hP 0 rfl rfl 1 (by decide) (hts _ m_159) (fun _ h9 => h9) rfl dX2_arrowsTo_6 ?_
    refine lv_icmp_ge (tgt := 30) hx hb dX2_arrowsTo_9 (by decide) (fun c9 => ?_) (fun c9 => ?_)
    · replace hf := k_ifT c9 hf
      exact hE4 _ _ _ _ hf hP hD hS (lv_sub hl [0, 1, 2, 3] rfl)
    · replace hf := k_ifF c9 hf
      refine lv_iload_n hx hb dX2_arrowsTo_12 rfl (lv_at hl 2 rfl) ?_
      refine lv_aload_n hx hb dX2_arrowsTo_13 rfl (lv_at hl 0 rfl) ?_
      refine lv_iload_n hx hb dX2_arrowsTo_14 rfl (lv_at hl 3 rfl) ?_
      refine k_calli (wN := [(h_this, o_X2 v_kind v_worlds v_arrows v_p v_q)]) [0] [] [0] hP hD hS hA (va_runV (As := [.int a4.2]) (rest := [.int a4.1]) ⟨hx, hb, hml, hown, hts⟩ (k_X2_row l D cB cI cJ cZ tL tK h_this _ v_kind v_worlds v_arrows v_p v_q a4.2 (f_X2_row v_arrows a4.2) rfl) (cwV 1 hts (k_gV m_396 m_393 m_394 m_395 m_26) rfl rfl rfl (by decide +kernel) ⟨Nat.le_of_ble_eq_true rfl, Nat.le_of_ble_eq_true rfl⟩) (k_preV [0] hK hN hZ hP hD hS hA rfl rfl (va_recv hK hP (ci := 2) (q0 := 0) rfl rfl)) rfl rfl hl.1 rfl (lv_room (Nat.le_of_ble_eq_true rfl)) dX2_arrowsTo_15 ⟨Nat.le_refl _, Nat.le_refl _⟩) rfl rfl rfl rfl rfl (fun H locs hP hD hS => ?_)
      refine lv_iload_n hx hb dX2_arrowsTo_18 rfl (lv_at hl 1 rfl) ?_
      refine k_calli (wN := [(h_this, o_X2 v_kind v_worlds v_arrows v_p v_q)]) [] [0] [0] hP hD hS hA (va_runSN (As := [.int (f_X2_row v_arrows a4.2), .int x1]) (rest := [.int a4.1]) ⟨hx, hb, hml, hown, hts⟩ (k_X8_bit l D cB cI cJ cZ tL tK _ (f_X2_row v_arrows a4.2) x1 (f_X8_bit (f_X2_row v_arrows a4.2) x1) rfl) ⟨va_cnB 2 hts (k_gB m_230) rfl rfl rfl (hN.1 _ (List.mem_of_getElem? (i := 12) rfl)) (hts _ m_2) (by decide +kernel) ⟨Nat.le_of_ble_eq_true rfl, Nat.le_of_ble_eq_true rfl⟩, (hts _ m_229), trivial⟩ (k_preS [] hK hN hZ hP hD hS hA rfl rfl) rfl rfl hl.1 rfl (lv_room (Nat.le_of_ble_eq_true rfl)) dX2_arrowsTo_19 ⟨Nat.le_refl _, Nat.le_refl _⟩) rfl rfl rfl rfl rfl (fun H locs hP hD hS => ?_)
      refine lv_iadd hx hb dX2_arrowsTo_22 ?_
      refine lv_istore_n (lv' := [(2, .int (a4.1 + (f_X8_bit (f_X2_row v_arrows a4.2) x1))), (0, .ref h_this), (1, .int x1), (3, .int a4.2)]) hx hb dX2_arrowsTo_23 rfl hl (by decide) rfl (fun ls hl => ?_)
      refine lv_iinc (v := (a4.2 + 1)) (lv' := [(3, .int (a4.2 + 1)), (2, .int (a4.1 + (f_X8_bit (f_X2_row v_arrows a4.2) x1))), (0, .ref h_this), (1, .int x1)]) hx hb dX2_arrowsTo_24 hl (k := 3) rfl rfl (by decide) rfl (fun ls hl => ?_)
      refine lv_goto (tgt := 4) hx hb dX2_arrowsTo_27 (by decide) ?_
      exact hR4 _ _ _ _ hf hP hD hS (lv_sub hl [2, 3, 1, 0] rfl)
set_option maxHeartbeats 4000000 in
set_option maxRecDepth 100000 in
theorem k_X2_without (l : Launch) (D : va_G) (cB cI cJ cZ : ClassId) (tL tK : Nat) (sz : Nat)  (x1 : Int32) (x2 : Int32) (q : Int32) (hf : f_X2_without x1 x2 = q) : Met l yX2_without (.code yX2_without cX2_without 3 (some .int) :: k_all) { frames := 0, cells := 0, slots := 0, locals := 0 } (k_P D cB cI cJ cZ tL tK [.int x1, .int x2] [] sz) (k_I D q [] [] sz) 0 0 (va_A [] sz) := by
  unfold f_X2_without at hf
  refine k_met RX2 rfl (by decide +kernel) (Nat.le_of_ble_eq_true rfl) ?_
  intro p e s m below meth c A ls hx hb hr hml hown hts hlocks hin hsz hAe hA hK hN hZ hD hS hP hl
  have hl : lv_has ls 3 [(0, .int x1), (1, .int x2)] := hl
  refine lv_iconst (v := 1) hx hb dX2_without_0 (by decide) ?_
  refine lv_iload_n hx hb dX2_without_1 rfl (lv_at hl 1 rfl) ?_
  refine lv_ishl hx hb dX2_without_2 ?_
  refine lv_iconst (v := 1) hx hb dX2_without_3 (by decide) ?_
  refine lv_isub hx hb dX2_without_4 ?_
  refine lv_istore_n (lv' := [(2, .int (((1 : Int32) <<< (x2 &&& 31)) - 1)), (0, .int x1), (1, .int x2)]) hx hb dX2_without_5 rfl hl (by decide) rfl (fun ls hl => ?_)
  refine lv_iload_n hx hb dX2_without_6 rfl (lv_at hl 1 rfl) ?_
  refine lv_iload_n hx hb dX2_without_7 rfl (lv_at hl 0 rfl) ?_
  refine lv_iand hx hb dX2_without_8 ?_
  refine lv_iload_n hx hb dX2_without_9 rfl (lv_at hl 1 rfl) ?_
  refine lv_iconst (v := 1) hx hb dX2_without_10 (by decide) ?_
  refine lv_ishr hx hb dX2_without_11 ?_
  refine lv_iload_n hx hb dX2_without_12 rfl (lv_at hl 0 rfl) ?_
  refine lv_iconst (v := (-1)) hx hb dX2_without_13 (by decide) ?_
  refine lv_ixor hx hb dX2_without_14 ?_
  refine lv_iand hx hb dX2_without_15 ?_
  refine lv_ior hx hb dX2_without_16 ?_
  subst hf
  exact k_iret hx hb hr hlocks hAe hS hP hD dX2_without_17
set_option maxHeartbeats 4000000 in
set_option maxRecDepth 100000 in
theorem k_X2_drop (l : Launch) (D : va_G) (cB cI cJ cZ : ClassId) (tL tK : Nat) (h_this : Nat) (sz : Nat) (v_kind : Int32) (v_worlds : Int32) (v_arrows : Int32) (v_p : Int32) (v_q : Int32) (x1 : Int32) (q : Int32 × Int32 × Int32 × Int32) (hf : f_X2_drop v_worlds v_arrows v_p v_q x1 = some q) : Met l yX2_drop (.code yX2_drop cX2_drop 5 none :: k_all) { frames := 1, cells := 0, slots := 0, locals := 22 } (k_P D cB cI cJ cZ tL tK [.ref h_this, .int x1] [(h_this, o_X2 v_kind v_worlds v_arrows v_p v_q)] sz) (k_V D [(h_this, o_X2 v_kind v_worlds v_arrows v_p v_q)] [(h_this, o_X2 v_kind q.1 q.2.1 q.2.2.1 q.2.2.2)] sz) 0 0 (va_A [(h_this, o_X2 v_kind v_worlds v_arrows v_p v_q)] sz) := by
  unfold f_X2_drop at hf
  refine k_met RX2 rfl (by decide +kernel) (Nat.le_of_ble_eq_true rfl) ?_
  intro p e s m below meth c A ls hx hb hr hml hown hts hlocks hin hsz hAe hA hK hN hZ hD hS hP hl
  have hl : lv_has ls 5 [(0, .ref h_this), (1, .int x1)] := hl
  refine lv_iconst (v := 0) hx hb dX2_drop_0 (by decide) ?_
  refine lv_istore_n (lv' := [(2, .int 0), (0, .ref h_this), (1, .int x1)]) hx hb dX2_drop_1 rfl hl (by decide) rfl (fun ls hl => ?_)
  refine lv_iconst (v := 0) hx hb dX2_drop_2 (by decide) ?_
  refine lv_istore_n (lv' := [(3, .int 0), (2, .int 0), (0, .ref h_this), (1, .int x1)]) hx hb dX2_drop_3 rfl hl (by decide) rfl (fun ls hl => ?_)
  refine k_wl 54 (wsf := fun (a4 : Int32 × Int32) => [(h_this, o_X2 v_kind v_worlds v_arrows v_p v_q)]) (lvf := fun (a4 : Int32 × Int32) => [(0, .ref h_this), (1, .int x1), (2, .int a4.1), (3, .int a4.2)]) hf hP hD hS (lv_sub hl [2, 3, 1, 0] rfl) ?_ ?_
  · intro a4 H locs ls hf hP hD hS hl
    have hP : va_P D vwCl [(h_this, o_X2 v_kind v_worlds v_arrows v_p v_q)] H := hP
    have hD : va_D A [(h_this, o_X2 v_kind v_worlds v_arrows v_p v_q)] := hD
    have hl : lv_has ls 5 [(0, .ref h_this), (1, .int x1), (2, .int a4.1), (3, .int a4.2)] := hl
    refine lv_aload_n hx hb dX2_drop_54 rfl (lv_at hl 0 rfl) ?_
    refine lv_iload_n hx hb dX2_drop_55 rfl (lv_at hl 2 rfl) ?_
    refine va_put (D := D) (ci := 2) (v := .int a4.1) (ty := .int) (C := RX2) (T := TX2) (N := 5) hx hb hts inlX2 tyX2 tyX2_ok nmX2 hown hK hP hD hS 0 rfl rfl 2 (by decide) (hts _ m_160) (fun _ h9 => h9) rfl (by decide +kernel) rfl rfl (Nat.le_of_ble_eq_true rfl) dX2_drop_56 (fun H locs hP hD hS => ?_)
    have hP : va_P D vwCl [(h_this, o_X2 v_kind v_worlds a4.1 v_p v_q)] H := hP
    have hD : va_D A [(h_this, o_X2 v_kind v_worlds a4.1 v_p v_q)] := hD
    refine lv_aload_n hx hb dX2_drop_59 rfl (lv_at hl 0 rfl) ?_
    refine lv_aload_n hx hb dX2_drop_60 rfl (lv_at hl 0 rfl) ?_
    refine va_get (D := D) (ci := 2) (v := .int v_p) (C := RX2) (T := TX2) (N := 5) hx hb hts inlX2 hown hK hP 0 rfl rfl 3 (by decide) (hts _ m_161) (fun _ h9 => h9) rfl dX2_drop_61 ?_
    refine lv_iload_n hx hb dX2_drop_64 rfl (lv_at hl 1 rfl) ?_
    refine k_calli (wN := [(h_this, o_X2 v_kind v_worlds a4.1 v_p v_q)]) [] [0] [0] hP hD hS hA (va_runS (As := [.int v_p, .int x1]) (rest := [.ref h_this]) ⟨hx, hb, hml, hown, hts⟩ (k_X2_without l D cB cI cJ cZ tL tK _ v_p x1 (f_X2_without v_p x1) rfl) (va_cwS 2 hts (k_gS m_714 m_712 m_713 m_26) rfl rfl rfl (by decide +kernel) ⟨Nat.le_of_ble_eq_true rfl, Nat.le_of_ble_eq_true rfl⟩) (k_preS [] hK hN hZ hP hD hS hA rfl rfl) rfl rfl hl.1 rfl (lv_room (Nat.le_of_ble_eq_true rfl)) dX2_drop_65 ⟨Nat.le_refl _, Nat.le_refl _⟩) rfl rfl rfl rfl rfl (fun H locs hP hD hS => ?_)
    refine va_put (D := D) (ci := 2) (v := .int (f_X2_without v_p x1)) (ty := .int) (C := RX2) (T := TX2) (N := 5) hx hb hts inlX2 tyX2 tyX2_ok nmX2 hown hK hP hD hS 0 rfl rfl 3 (by decide) (hts _ m_161) (fun _ h9 => h9) rfl (by decide +kernel) rfl rfl (Nat.le_of_ble_eq_true rfl) dX2_drop_68 (fun H locs hP hD hS => ?_)
    have hP : va_P D vwCl [(h_this, o_X2 v_kind v_worlds a4.1 (f_X2_without v_p x1) v_q)] H := hP
    have hD : va_D A [(h_this, o_X2 v_kind v_worlds a4.1 (f_X2_without v_p x1) v_q)] := hD
    refine lv_aload_n hx hb dX2_drop_71 rfl (lv_at hl 0 rfl) ?_
    refine lv_aload_n hx hb dX2_drop_72 rfl (lv_at hl 0 rfl) ?_
    refine va_get (D := D) (ci := 2) (v := .int v_q) (C := RX2) (T := TX2) (N := 5) hx hb hts inlX2 hown hK hP 0 rfl rfl 4 (by decide) (hts _ m_162) (fun _ h9 => h9) rfl dX2_drop_73 ?_
    refine lv_iload_n hx hb dX2_drop_76 rfl (lv_at hl 1 rfl) ?_
    refine k_calli (wN := [(h_this, o_X2 v_kind v_worlds a4.1 (f_X2_without v_p x1) v_q)]) [] [0] [0] hP hD hS hA (va_runS (As := [.int v_q, .int x1]) (rest := [.ref h_this]) ⟨hx, hb, hml, hown, hts⟩ (k_X2_without l D cB cI cJ cZ tL tK _ v_q x1 (f_X2_without v_q x1) rfl) (va_cwS 2 hts (k_gS m_714 m_712 m_713 m_26) rfl rfl rfl (by decide +kernel) ⟨Nat.le_of_ble_eq_true rfl, Nat.le_of_ble_eq_true rfl⟩) (k_preS [] hK hN hZ hP hD hS hA rfl rfl) rfl rfl hl.1 rfl (lv_room (Nat.le_of_ble_eq_true rfl)) dX2_drop_77 ⟨Nat.le_refl _, Nat.le_refl _⟩) rfl rfl rfl rfl rfl (fun H locs hP hD hS => ?_)
    refine va_put (D := D) (ci := 2) (v := .int (f_X2_without v_q x1)) (ty := .int) (C := RX2) (T := TX2) (N := 5) hx hb hts inlX2 tyX2 tyX2_ok nmX2 hown hK hP hD hS 0 rfl rfl 4 (by decide) (hts _ m_162) (fun _ h9 => h9) rfl (by decide +kernel) rfl rfl (Nat.le_of_ble_eq_true rfl) dX2_drop_80 (fun H locs hP hD hS => ?_)
    have hP : va_P D vwCl [(h_this, o_X2 v_kind v_worlds a4.1 (f_X2_without v_p x1) (f_X2_without v_q x1))] H := hP
    have hD : va_D A [(h_this, o_X2 v_kind v_worlds a4.1 (f_X2_without v_p x1) (f_X2_without v_q x1))] := hD
    refine lv_aload_n hx hb dX2_drop_83 rfl (lv_at hl 0 rfl) ?_
    refine lv_dup hx hb dX2_drop_84 rfl ?_
    refine va_get (D := D) (ci := 2) (v := .int v_worlds) (C := RX2) (T := TX2) (N := 5) hx hb hts inlX2 hown hK hP 0 rfl rfl 1 (by decide) (hts _ m_159) (fun _ h9 => h9) rfl dX2_drop_85 ?_
    refine lv_iconst (v := 1) hx hb dX2_drop_88 (by decide) ?_
    refine lv_isub hx hb dX2_drop_89 ?_
    refine va_put (D := D) (ci := 2) (v := .int (v_worlds - 1)) (ty := .int) (C := RX2) (T := TX2) (N := 5) hx hb hts inlX2 tyX2 tyX2_ok nmX2 hown hK hP hD hS 0 rfl rfl 1 (by decide) (hts _ m_159) (fun _ h9 => h9) rfl (by decide +kernel) rfl rfl (Nat.le_of_ble_eq_true rfl) dX2_drop_90 (fun H locs hP hD hS => ?_)
    have hP : va_P D vwCl [(h_this, o_X2 v_kind (v_worlds - 1) a4.1 (f_X2_without v_p x1) (f_X2_without v_q x1))] H := hP
    have hD : va_D A [(h_this, o_X2 v_kind (v_worlds - 1) a4.1 (f_X2_without v_p x1) (f_X2_without v_q x1))] := hD
    cases hf
    exact k_vret hx hb hr hlocks hAe hS hP hD dX2_drop_93
  · intro ex4 rc4 hE4 hR4 a4 H locs ls hf hP hD hS hl
    have hP : va_P D vwCl [(h_this, o_X2 v_kind v_worlds v_arrows v_p v_q)] H := hP
    have hD : va_D A [(h_this, o_X2 v_kind v_worlds v_arrows v_p v_q)] := hD
    have hl : lv_has ls 5 [(0, .ref h_this), (1, .int x1), (2, .int a4.1), (3, .int a4.2)] := hl
    refine lv_iload_n hx hb dX2_drop_4 rfl (lv_at hl 3 rfl) ?_
    refine lv_aload_n hx hb dX2_drop_5 rfl (lv_at hl 0 rfl) ?_
    refine va_get (D := D) (ci := 2) (v := .int v_worlds) (C := RX2) (T := TX2) (N := 5) hx hb hts inlX2 hown hK hP 0 rfl rfl 1 (by decide) (hts _ m_159) (fun _ h9 => h9) rfl dX2_drop_6 ?_
    refine lv_icmp_ge (tgt := 54) hx hb dX2_drop_9 (by decide) (fun c9 => ?_) (fun c9 => ?_)
    · replace hf := k_ifT c9 hf
      exact hE4 _ _ _ _ hf hP hD hS (lv_sub hl [0, 1, 2, 3] rfl)
    · replace hf := k_ifF c9 hf
      refine lv_iload_n hx hb dX2_drop_12 rfl (lv_at hl 3 rfl) ?_
      refine lv_iload_n hx hb dX2_drop_13 rfl (lv_at hl 1 rfl) ?_
      refine lv_icmp_eq (tgt := 48) hx hb dX2_drop_14 (by decide) (fun c14 => ?_) (fun c14 => ?_)
      · replace hf := k_ifT c14 hf
        refine lv_iinc (v := (a4.2 + 1)) (lv' := [(3, .int (a4.2 + 1)), (0, .ref h_this), (1, .int x1), (2, .int a4.1)]) hx hb dX2_drop_48 hl (k := 3) rfl rfl (by decide) rfl (fun ls hl => ?_)
        refine lv_goto (tgt := 4) hx hb dX2_drop_51 (by decide) ?_
        exact hR4 _ _ _ _ hf hP hD hS (lv_sub hl [1, 2, 3, 0] rfl)
      · replace hf := k_ifF c14 hf
        refine lv_iload_n hx hb dX2_drop_17 rfl (lv_at hl 3 rfl) ?_
        refine lv_iload_n hx hb dX2_drop_18 rfl (lv_at hl 1 rfl) ?_
        refine k_jn (D := D) (A := A) (nL := 5) hf (fun (j19 : Int32) => [(h_this, o_X2 v_kind v_worlds v_arrows v_p v_q)]) (fun (j19 : Int32) => [(0, .ref h_this), (1, .int x1), (2, .int a4.1), (3, .int a4.2)]) (fun (j19 : Int32) => [.int j19]) 29 ?_ ?_
        · intro j19 H locs ls hf hP hD hS hl
          have hP : va_P D vwCl [(h_this, o_X2 v_kind v_worlds v_arrows v_p v_q)] H := hP
          have hD : va_D A [(h_this, o_X2 v_kind v_worlds v_arrows v_p v_q)] := hD
          have hl : lv_has ls 5 [(0, .ref h_this), (1, .int x1), (2, .int a4.1), (3, .int a4.2)] := hl
          show W p l e _ s m _ below meth c H locs _ _ _ (F0 m 29 ls [.int j19])
          refine lv_istore (lv' := [(4, .int j19), (0, .ref h_this), (1, .int x1), (2, .int a4.1), (3, .int a4.2)]) hx hb dX2_drop_29 hl (by decide) rfl (fun ls hl => ?_)
          refine lv_iload_n hx hb dX2_drop_31 rfl (lv_at hl 3 rfl) ?_
          refine lv_aload_n hx hb dX2_drop_32 rfl (lv_at hl 1 rfl) ?_
          refine lv_iload_n hx hb dX2_drop_33 rfl (lv_at hl 4 rfl) ?_
          refine k_calli (wN := [(h_this, o_X2 v_kind v_worlds v_arrows v_p v_q)]) [0] [] [0] hP hD hS hA (va_runV (As := [.int a4.2]) (rest := [.int a4.1]) ⟨hx, hb, hml, hown, hts⟩ (k_X2_row l D cB cI cJ cZ tL tK h_this _ v_kind v_worlds v_arrows v_p v_q a4.2 (f_X2_row v_arrows a4.2) rfl) (cwV 1 hts (k_gV m_396 m_393 m_394 m_395 m_26) rfl rfl rfl (by decide +kernel) ⟨Nat.le_of_ble_eq_true rfl, Nat.le_of_ble_eq_true rfl⟩) (k_preV [0] hK hN hZ hP hD hS hA rfl rfl (va_recv hK hP (ci := 2) (q0 := 0) rfl rfl)) rfl rfl hl.1 rfl (lv_room (Nat.le_of_ble_eq_true rfl)) dX2_drop_34 ⟨Nat.le_refl _, Nat.le_refl _⟩) rfl rfl rfl rfl rfl (fun H locs hP hD hS => ?_)
          refine lv_iload_n hx hb dX2_drop_37 rfl (lv_at hl 2 rfl) ?_
          refine k_calli (wN := [(h_this, o_X2 v_kind v_worlds v_arrows v_p v_q)]) [] [0] [0] hP hD hS hA (va_runS (As := [.int (f_X2_row v_arrows a4.2), .int x1]) (rest := [.int a4.1]) ⟨hx, hb, hml, hown, hts⟩ (k_X2_without l D cB cI cJ cZ tL tK _ (f_X2_row v_arrows a4.2) x1 (f_X2_without (f_X2_row v_arrows a4.2) x1) rfl) (va_cwS 2 hts (k_gS m_714 m_712 m_713 m_26) rfl rfl rfl (by decide +kernel) ⟨Nat.le_of_ble_eq_true rfl, Nat.le_of_ble_eq_true rfl⟩) (k_preS [] hK hN hZ hP hD hS hA rfl rfl) rfl rfl hl.1 rfl (lv_room (Nat.le_of_ble_eq_true rfl)) dX2_drop_38 ⟨Nat.le_refl _, Nat.le_refl _⟩) rfl rfl rfl rfl rfl (fun H locs hP hD hS => ?_)
          refine lv_iconst (v := 4) hx hb dX2_drop_41 (by decide) ?_
          refine lv_iload hx hb dX2_drop_42 (lv_at hl 0 rfl) ?_
          refine lv_imul hx hb dX2_drop_44 ?_
          refine lv_ishl hx hb dX2_drop_45 ?_
          refine lv_ior hx hb dX2_drop_46 ?_
          refine lv_topi (fun y47 ey47 => ?_)
          replace hf := k_let_at ey47 hf
          refine lv_istore_n (lv' := [(2, .int y47), (4, .int j19), (0, .ref h_this), (1, .int x1), (3, .int a4.2)]) hx hb dX2_drop_47 rfl hl (by decide) rfl (fun ls hl => ?_)
          refine lv_iinc (v := (a4.2 + 1)) (lv' := [(3, .int (a4.2 + 1)), (2, .int y47), (4, .int j19), (0, .ref h_this), (1, .int x1)]) hx hb dX2_drop_48 hl (k := 4) rfl rfl (by decide) rfl (fun ls hl => ?_)
          refine lv_goto (tgt := 4) hx hb dX2_drop_51 (by decide) ?_
          exact hR4 _ _ _ _ hf hP hD hS (lv_sub hl [3, 4, 1, 0] rfl)
        · intro j19 hf hj19
          refine lv_icmp_ge (tgt := 26) hx hb dX2_drop_19 (by decide) (fun c19 => ?_) (fun c19 => ?_)
          · replace hf := k_ifT c19 hf
            refine lv_iload_n hx hb dX2_drop_26 rfl (lv_at hl 3 rfl) ?_
            refine lv_iconst (v := 1) hx hb dX2_drop_27 (by decide) ?_
            refine lv_isub hx hb dX2_drop_28 ?_
            cases hf
            exact hj19 _ _ _ hP hD hS (lv_sub hl [0, 1, 2, 3] rfl)
          · replace hf := k_ifF c19 hf
            refine lv_iload_n hx hb dX2_drop_22 rfl (lv_at hl 3 rfl) ?_
            refine lv_goto (tgt := 29) hx hb dX2_drop_23 (by decide) ?_
            cases hf
            exact hj19 _ _ _ hP hD hS (lv_sub hl [0, 1, 2, 3] rfl)
set_option maxHeartbeats 4000000 in
set_option maxRecDepth 100000 in
theorem k_X2_makeTransitive (l : Launch) (D : va_G) (cB cI cJ cZ : ClassId) (tL tK : Nat) (h_this : Nat) (sz : Nat) (v_kind : Int32) (v_worlds : Int32) (v_arrows : Int32) (v_p : Int32) (v_q : Int32)  (q : Int32) (hf : f_X2_makeTransitive v_worlds v_arrows = some q) : Met l yX2_makeTransitive (.code yX2_makeTransitive cX2_makeTransitive 3 none :: k_all) { frames := 1, cells := 0, slots := 0, locals := 22 } (k_P D cB cI cJ cZ tL tK [.ref h_this] [(h_this, o_X2 v_kind v_worlds v_arrows v_p v_q)] sz) (k_V D [(h_this, o_X2 v_kind v_worlds v_arrows v_p v_q)] [(h_this, o_X2 v_kind v_worlds q v_p v_q)] sz) 0 0 (va_A [(h_this, o_X2 v_kind v_worlds v_arrows v_p v_q)] sz) := by
  unfold f_X2_makeTransitive at hf
  refine k_met RX2 rfl (by decide +kernel) (Nat.le_of_ble_eq_true rfl) ?_
  intro p e s m below meth c A ls hx hb hr hml hown hts hlocks hin hsz hAe hA hK hN hZ hD hS hP hl
  have hl : lv_has ls 3 [(0, .ref h_this)] := hl
  refine lv_iconst (v := 0) hx hb dX2_makeTransitive_0 (by decide) ?_
  refine lv_istore_n (lv' := [(1, .int 0), (0, .ref h_this)]) hx hb dX2_makeTransitive_1 rfl hl (by decide) rfl (fun ls hl => ?_)
  refine k_wl 51 (wsf := fun (a2 : Int32 × Int32) => [(h_this, o_X2 v_kind v_worlds a2.2 v_p v_q)]) (lvf := fun (a2 : Int32 × Int32) => [(0, .ref h_this), (1, .int a2.1)]) hf hP hD hS (lv_sub hl [1, 0] rfl) ?_ ?_
  · intro a2 H locs ls hf hP hD hS hl
    have hP : va_P D vwCl [(h_this, o_X2 v_kind v_worlds a2.2 v_p v_q)] H := hP
    have hD : va_D A [(h_this, o_X2 v_kind v_worlds a2.2 v_p v_q)] := hD
    have hl : lv_has ls 3 [(0, .ref h_this), (1, .int a2.1)] := hl
    cases hf
    exact k_vret hx hb hr hlocks hAe hS hP hD dX2_makeTransitive_51
  · intro ex2 rc2 hE2 hR2 a2 H locs ls hf hP hD hS hl
    have hP : va_P D vwCl [(h_this, o_X2 v_kind v_worlds a2.2 v_p v_q)] H := hP
    have hD : va_D A [(h_this, o_X2 v_kind v_worlds a2.2 v_p v_q)] := hD
    have hl : lv_has ls 3 [(0, .ref h_this), (1, .int a2.1)] := hl
    refine lv_iload_n hx hb dX2_makeTransitive_2 rfl (lv_at hl 1 rfl) ?_
    refine lv_aload_n hx hb dX2_makeTransitive_3 rfl (lv_at hl 0 rfl) ?_
    refine va_get (D := D) (ci := 2) (v := .int v_worlds) (C := RX2) (T := TX2) (N := 5) hx hb hts inlX2 hown hK hP 0 rfl rfl 1 (by decide) (hts _ m_159) (fun _ h9 => h9) rfl dX2_makeTransitive_4 ?_
    refine lv_icmp_ge (tgt := 51) hx hb dX2_makeTransitive_7 (by decide) (fun c7 => ?_) (fun c7 => ?_)
    · replace hf := k_ifT c7 hf
      exact hE2 _ _ _ _ hf hP hD hS (lv_sub hl [0, 1] rfl)
    · replace hf := k_ifF c7 hf
      refine lv_iconst (v := 0) hx hb dX2_makeTransitive_10 (by decide) ?_
      refine lv_istore_n (lv' := [(2, .int 0), (0, .ref h_this), (1, .int a2.1)]) hx hb dX2_makeTransitive_11 rfl hl (by decide) rfl (fun ls hl => ?_)
      refine k_wl 45 (wsf := fun (a12 : Int32 × Int32) => [(h_this, o_X2 v_kind v_worlds a12.2 v_p v_q)]) (lvf := fun (a12 : Int32 × Int32) => [(0, .ref h_this), (1, .int a2.1), (2, .int a12.1)]) hf hP hD hS (lv_sub hl [1, 2, 0] rfl) ?_ ?_
      · intro a12 H locs ls hf hP hD hS hl
        have hP : va_P D vwCl [(h_this, o_X2 v_kind v_worlds a12.2 v_p v_q)] H := hP
        have hD : va_D A [(h_this, o_X2 v_kind v_worlds a12.2 v_p v_q)] := hD
        have hl : lv_has ls 3 [(0, .ref h_this), (1, .int a2.1), (2, .int a12.1)] := hl
        refine lv_iinc (v := (a2.1 + 1)) (lv' := [(1, .int (a2.1 + 1)), (0, .ref h_this), (2, .int a12.1)]) hx hb dX2_makeTransitive_45 hl (k := 1) rfl rfl (by decide) rfl (fun ls hl => ?_)
        refine lv_goto (tgt := 2) hx hb dX2_makeTransitive_48 (by decide) ?_
        exact hR2 _ _ _ _ hf hP hD hS (lv_sub hl [1, 0] rfl)
      · intro ex12 rc12 hE12 hR12 a12 H locs ls hf hP hD hS hl
        have hP : va_P D vwCl [(h_this, o_X2 v_kind v_worlds a12.2 v_p v_q)] H := hP
        have hD : va_D A [(h_this, o_X2 v_kind v_worlds a12.2 v_p v_q)] := hD
        have hl : lv_has ls 3 [(0, .ref h_this), (1, .int a2.1), (2, .int a12.1)] := hl
        refine lv_iload_n hx hb dX2_makeTransitive_12 rfl (lv_at hl 2 rfl) ?_
        refine lv_aload_n hx hb dX2_makeTransitive_13 rfl (lv_at hl 0 rfl) ?_
        refine va_get (D := D) (ci := 2) (v := .int v_worlds) (C := RX2) (T := TX2) (N := 5) hx hb hts inlX2 hown hK hP 0 rfl rfl 1 (by decide) (hts _ m_159) (fun _ h9 => h9) rfl dX2_makeTransitive_14 ?_
        refine lv_icmp_ge (tgt := 45) hx hb dX2_makeTransitive_17 (by decide) (fun c17 => ?_) (fun c17 => ?_)
        · replace hf := k_ifT c17 hf
          exact hE12 _ _ _ _ hf hP hD hS (lv_sub hl [0, 1, 2] rfl)
        · replace hf := k_ifF c17 hf
          refine lv_aload_n hx hb dX2_makeTransitive_20 rfl (lv_at hl 0 rfl) ?_
          refine lv_iload_n hx hb dX2_makeTransitive_21 rfl (lv_at hl 2 rfl) ?_
          refine lv_iload_n hx hb dX2_makeTransitive_22 rfl (lv_at hl 1 rfl) ?_
          refine k_calli (wN := [(h_this, o_X2 v_kind v_worlds a12.2 v_p v_q)]) [0] [] [0] hP hD hS hA (va_runV (As := [.int a12.1, .int a2.1]) (rest := []) ⟨hx, hb, hml, hown, hts⟩ (k_X2_has l D cB cI cJ cZ tL tK h_this _ v_kind v_worlds a12.2 v_p v_q a12.1 a2.1 (f_X2_has a12.2 a12.1 a2.1) rfl) (cwV 2 hts (k_gV m_213 m_392 m_211 m_212 m_26) rfl rfl rfl (by decide +kernel) ⟨Nat.le_of_ble_eq_true rfl, Nat.le_of_ble_eq_true rfl⟩) (k_preV [0] hK hN hZ hP hD hS hA rfl rfl (va_recv hK hP (ci := 2) (q0 := 0) rfl rfl)) rfl rfl hl.1 rfl (lv_room (Nat.le_of_ble_eq_true rfl)) dX2_makeTransitive_23 ⟨Nat.le_refl _, Nat.le_refl _⟩) rfl rfl rfl rfl rfl (fun H locs hP hD hS => ?_)
          refine lv_if_eq (tgt := 39) hx hb dX2_makeTransitive_26 (by decide) (fun c26 => ?_) (fun c26 => ?_)
          · replace hf := k_ifT c26 hf
            refine lv_iinc (v := (a12.1 + 1)) (lv' := [(2, .int (a12.1 + 1)), (0, .ref h_this), (1, .int a2.1)]) hx hb dX2_makeTransitive_39 hl (k := 2) rfl rfl (by decide) rfl (fun ls hl => ?_)
            refine lv_goto (tgt := 12) hx hb dX2_makeTransitive_42 (by decide) ?_
            exact hR12 _ _ _ _ hf hP hD hS (lv_sub hl [1, 2, 0] rfl)
          · replace hf := k_ifF c26 hf
            refine lv_aload_n hx hb dX2_makeTransitive_29 rfl (lv_at hl 0 rfl) ?_
            refine lv_iload_n hx hb dX2_makeTransitive_30 rfl (lv_at hl 2 rfl) ?_
            refine lv_aload_n hx hb dX2_makeTransitive_31 rfl (lv_at hl 0 rfl) ?_
            refine lv_iload_n hx hb dX2_makeTransitive_32 rfl (lv_at hl 1 rfl) ?_
            refine k_calli (wN := [(h_this, o_X2 v_kind v_worlds a12.2 v_p v_q)]) [0] [] [0] hP hD hS hA (va_runV (As := [.int a2.1]) (rest := [.int a12.1, .ref h_this]) ⟨hx, hb, hml, hown, hts⟩ (k_X2_row l D cB cI cJ cZ tL tK h_this _ v_kind v_worlds a12.2 v_p v_q a2.1 (f_X2_row a12.2 a2.1) rfl) (cwV 1 hts (k_gV m_396 m_393 m_394 m_395 m_26) rfl rfl rfl (by decide +kernel) ⟨Nat.le_of_ble_eq_true rfl, Nat.le_of_ble_eq_true rfl⟩) (k_preV [0] hK hN hZ hP hD hS hA rfl rfl (va_recv hK hP (ci := 2) (q0 := 0) rfl rfl)) rfl rfl hl.1 rfl (lv_room (Nat.le_of_ble_eq_true rfl)) dX2_makeTransitive_33 ⟨Nat.le_refl _, Nat.le_refl _⟩) rfl rfl rfl rfl rfl (fun H locs hP hD hS => ?_)
            refine k_callv (wN := [(h_this, o_X2 v_kind v_worlds (f_X2_join a12.2 a12.1 (f_X2_row a12.2 a2.1)) v_p v_q)]) [0] [] [0] hP hD hS hA (va_runV (As := [.int a12.1, .int (f_X2_row a12.2 a2.1)]) (rest := []) ⟨hx, hb, hml, hown, hts⟩ (k_X2_join l D cB cI cJ cZ tL tK h_this _ v_kind v_worlds a12.2 v_p v_q a12.1 (f_X2_row a12.2 a2.1) (f_X2_join a12.2 a12.1 (f_X2_row a12.2 a2.1)) rfl) (cwV 2 hts (k_gV m_166 m_163 m_164 m_165 m_26) rfl rfl rfl (by decide +kernel) ⟨Nat.le_of_ble_eq_true rfl, Nat.le_of_ble_eq_true rfl⟩) (k_preV [0] hK hN hZ hP hD hS hA rfl rfl (va_recv hK hP (ci := 2) (q0 := 0) rfl rfl)) rfl rfl hl.1 rfl (lv_room (Nat.le_of_ble_eq_true rfl)) dX2_makeTransitive_36 ⟨Nat.le_refl _, Nat.le_refl _⟩) rfl rfl rfl rfl rfl (fun H locs hP hD hS => ?_)
            refine lv_iinc (v := (a12.1 + 1)) (lv' := [(2, .int (a12.1 + 1)), (0, .ref h_this), (1, .int a2.1)]) hx hb dX2_makeTransitive_39 hl (k := 2) rfl rfl (by decide) rfl (fun ls hl => ?_)
            refine lv_goto (tgt := 12) hx hb dX2_makeTransitive_42 (by decide) ?_
            exact hR12 _ _ _ _ hf hP hD hS (lv_sub hl [1, 2, 0] rfl)
set_option maxHeartbeats 4000000 in
set_option maxRecDepth 100000 in
theorem k_X2_makeSymmetric (l : Launch) (D : va_G) (cB cI cJ cZ : ClassId) (tL tK : Nat) (h_this : Nat) (sz : Nat) (v_kind : Int32) (v_worlds : Int32) (v_arrows : Int32) (v_p : Int32) (v_q : Int32)  (q : Int32) (hf : f_X2_makeSymmetric v_worlds v_arrows = some q) : Met l yX2_makeSymmetric (.code yX2_makeSymmetric cX2_makeSymmetric 3 none :: k_all) { frames := 1, cells := 0, slots := 0, locals := 22 } (k_P D cB cI cJ cZ tL tK [.ref h_this] [(h_this, o_X2 v_kind v_worlds v_arrows v_p v_q)] sz) (k_V D [(h_this, o_X2 v_kind v_worlds v_arrows v_p v_q)] [(h_this, o_X2 v_kind v_worlds q v_p v_q)] sz) 0 0 (va_A [(h_this, o_X2 v_kind v_worlds v_arrows v_p v_q)] sz) := by
  unfold f_X2_makeSymmetric at hf
  refine k_met RX2 rfl (by decide +kernel) (Nat.le_of_ble_eq_true rfl) ?_
  intro p e s m below meth c A ls hx hb hr hml hown hts hlocks hin hsz hAe hA hK hN hZ hD hS hP hl
  have hl : lv_has ls 3 [(0, .ref h_this)] := hl
  refine lv_iconst (v := 0) hx hb dX2_makeSymmetric_0 (by decide) ?_
  refine lv_istore_n (lv' := [(1, .int 0), (0, .ref h_this)]) hx hb dX2_makeSymmetric_1 rfl hl (by decide) rfl (fun ls hl => ?_)
  refine k_wl 49 (wsf := fun (a2 : Int32 × Int32) => [(h_this, o_X2 v_kind v_worlds a2.2 v_p v_q)]) (lvf := fun (a2 : Int32 × Int32) => [(0, .ref h_this), (1, .int a2.1)]) hf hP hD hS (lv_sub hl [1, 0] rfl) ?_ ?_
  · intro a2 H locs ls hf hP hD hS hl
    have hP : va_P D vwCl [(h_this, o_X2 v_kind v_worlds a2.2 v_p v_q)] H := hP
    have hD : va_D A [(h_this, o_X2 v_kind v_worlds a2.2 v_p v_q)] := hD
    have hl : lv_has ls 3 [(0, .ref h_this), (1, .int a2.1)] := hl
    cases hf
    exact k_vret hx hb hr hlocks hAe hS hP hD dX2_makeSymmetric_49
  · intro ex2 rc2 hE2 hR2 a2 H locs ls hf hP hD hS hl
    have hP : va_P D vwCl [(h_this, o_X2 v_kind v_worlds a2.2 v_p v_q)] H := hP
    have hD : va_D A [(h_this, o_X2 v_kind v_worlds a2.2 v_p v_q)] := hD
    have hl : lv_has ls 3 [(0, .ref h_this), (1, .int a2.1)] := hl
    refine lv_iload_n hx hb dX2_makeSymmetric_2 rfl (lv_at hl 1 rfl) ?_
    refine lv_aload_n hx hb dX2_makeSymmetric_3 rfl (lv_at hl 0 rfl) ?_
    refine va_get (D := D) (ci := 2) (v := .int v_worlds) (C := RX2) (T := TX2) (N := 5) hx hb hts inlX2 hown hK hP 0 rfl rfl 1 (by decide) (hts _ m_159) (fun _ h9 => h9) rfl dX2_makeSymmetric_4 ?_
    refine lv_icmp_ge (tgt := 49) hx hb dX2_makeSymmetric_7 (by decide) (fun c7 => ?_) (fun c7 => ?_)
    · replace hf := k_ifT c7 hf
      exact hE2 _ _ _ _ hf hP hD hS (lv_sub hl [0, 1] rfl)
    · replace hf := k_ifF c7 hf
      refine lv_iconst (v := 0) hx hb dX2_makeSymmetric_10 (by decide) ?_
      refine lv_istore_n (lv' := [(2, .int 0), (0, .ref h_this), (1, .int a2.1)]) hx hb dX2_makeSymmetric_11 rfl hl (by decide) rfl (fun ls hl => ?_)
      refine k_wl 43 (wsf := fun (a12 : Int32 × Int32) => [(h_this, o_X2 v_kind v_worlds a12.2 v_p v_q)]) (lvf := fun (a12 : Int32 × Int32) => [(0, .ref h_this), (1, .int a2.1), (2, .int a12.1)]) hf hP hD hS (lv_sub hl [1, 2, 0] rfl) ?_ ?_
      · intro a12 H locs ls hf hP hD hS hl
        have hP : va_P D vwCl [(h_this, o_X2 v_kind v_worlds a12.2 v_p v_q)] H := hP
        have hD : va_D A [(h_this, o_X2 v_kind v_worlds a12.2 v_p v_q)] := hD
        have hl : lv_has ls 3 [(0, .ref h_this), (1, .int a2.1), (2, .int a12.1)] := hl
        refine lv_iinc (v := (a2.1 + 1)) (lv' := [(1, .int (a2.1 + 1)), (0, .ref h_this), (2, .int a12.1)]) hx hb dX2_makeSymmetric_43 hl (k := 1) rfl rfl (by decide) rfl (fun ls hl => ?_)
        refine lv_goto (tgt := 2) hx hb dX2_makeSymmetric_46 (by decide) ?_
        exact hR2 _ _ _ _ hf hP hD hS (lv_sub hl [1, 0] rfl)
      · intro ex12 rc12 hE12 hR12 a12 H locs ls hf hP hD hS hl
        have hP : va_P D vwCl [(h_this, o_X2 v_kind v_worlds a12.2 v_p v_q)] H := hP
        have hD : va_D A [(h_this, o_X2 v_kind v_worlds a12.2 v_p v_q)] := hD
        have hl : lv_has ls 3 [(0, .ref h_this), (1, .int a2.1), (2, .int a12.1)] := hl
        refine lv_iload_n hx hb dX2_makeSymmetric_12 rfl (lv_at hl 2 rfl) ?_
        refine lv_aload_n hx hb dX2_makeSymmetric_13 rfl (lv_at hl 0 rfl) ?_
        refine va_get (D := D) (ci := 2) (v := .int v_worlds) (C := RX2) (T := TX2) (N := 5) hx hb hts inlX2 hown hK hP 0 rfl rfl 1 (by decide) (hts _ m_159) (fun _ h9 => h9) rfl dX2_makeSymmetric_14 ?_
        refine lv_icmp_ge (tgt := 43) hx hb dX2_makeSymmetric_17 (by decide) (fun c17 => ?_) (fun c17 => ?_)
        · replace hf := k_ifT c17 hf
          exact hE12 _ _ _ _ hf hP hD hS (lv_sub hl [0, 1, 2] rfl)
        · replace hf := k_ifF c17 hf
          refine lv_aload_n hx hb dX2_makeSymmetric_20 rfl (lv_at hl 0 rfl) ?_
          refine lv_iload_n hx hb dX2_makeSymmetric_21 rfl (lv_at hl 1 rfl) ?_
          refine lv_iload_n hx hb dX2_makeSymmetric_22 rfl (lv_at hl 2 rfl) ?_
          refine k_calli (wN := [(h_this, o_X2 v_kind v_worlds a12.2 v_p v_q)]) [0] [] [0] hP hD hS hA (va_runV (As := [.int a2.1, .int a12.1]) (rest := []) ⟨hx, hb, hml, hown, hts⟩ (k_X2_has l D cB cI cJ cZ tL tK h_this _ v_kind v_worlds a12.2 v_p v_q a2.1 a12.1 (f_X2_has a12.2 a2.1 a12.1) rfl) (cwV 2 hts (k_gV m_213 m_392 m_211 m_212 m_26) rfl rfl rfl (by decide +kernel) ⟨Nat.le_of_ble_eq_true rfl, Nat.le_of_ble_eq_true rfl⟩) (k_preV [0] hK hN hZ hP hD hS hA rfl rfl (va_recv hK hP (ci := 2) (q0 := 0) rfl rfl)) rfl rfl hl.1 rfl (lv_room (Nat.le_of_ble_eq_true rfl)) dX2_makeSymmetric_23 ⟨Nat.le_refl _, Nat.le_refl _⟩) rfl rfl rfl rfl rfl (fun H locs hP hD hS => ?_)
          refine lv_if_eq (tgt := 37) hx hb dX2_makeSymmetric_26 (by decide) (fun c26 => ?_) (fun c26 => ?_)
          · replace hf := k_ifT c26 hf
            refine lv_iinc (v := (a12.1 + 1)) (lv' := [(2, .int (a12.1 + 1)), (0, .ref h_this), (1, .int a2.1)]) hx hb dX2_makeSymmetric_37 hl (k := 2) rfl rfl (by decide) rfl (fun ls hl => ?_)
            refine lv_goto (tgt := 12) hx hb dX2_makeSymmetric_40 (by decide) ?_
            exact hR12 _ _ _ _ hf hP hD hS (lv_sub hl [1, 2, 0] rfl)
          · replace hf := k_ifF c26 hf
            refine lv_aload_n hx hb dX2_makeSymmetric_29 rfl (lv_at hl 0 rfl) ?_
            refine lv_iload_n hx hb dX2_makeSymmetric_30 rfl (lv_at hl 2 rfl) ?_
            refine lv_iconst (v := 1) hx hb dX2_makeSymmetric_31 (by decide) ?_
            refine lv_iload_n hx hb dX2_makeSymmetric_32 rfl (lv_at hl 1 rfl) ?_
            refine lv_ishl hx hb dX2_makeSymmetric_33 ?_
            refine k_callv (wN := [(h_this, o_X2 v_kind v_worlds (f_X2_join a12.2 a12.1 ((1 : Int32) <<< (a2.1 &&& 31))) v_p v_q)]) [0] [] [0] hP hD hS hA (va_runV (As := [.int a12.1, .int ((1 : Int32) <<< (a2.1 &&& 31))]) (rest := []) ⟨hx, hb, hml, hown, hts⟩ (k_X2_join l D cB cI cJ cZ tL tK h_this _ v_kind v_worlds a12.2 v_p v_q a12.1 ((1 : Int32) <<< (a2.1 &&& 31)) (f_X2_join a12.2 a12.1 ((1 : Int32) <<< (a2.1 &&& 31))) rfl) (cwV 2 hts (k_gV m_166 m_163 m_164 m_165 m_26) rfl rfl rfl (by decide +kernel) ⟨Nat.le_of_ble_eq_true rfl, Nat.le_of_ble_eq_true rfl⟩) (k_preV [0] hK hN hZ hP hD hS hA rfl rfl (va_recv hK hP (ci := 2) (q0 := 0) rfl rfl)) rfl rfl hl.1 rfl (lv_room (Nat.le_of_ble_eq_true rfl)) dX2_makeSymmetric_34 ⟨Nat.le_refl _, Nat.le_refl _⟩) rfl rfl rfl rfl rfl (fun H locs hP hD hS => ?_)
            refine lv_iinc (v := (a12.1 + 1)) (lv' := [(2, .int (a12.1 + 1)), (0, .ref h_this), (1, .int a2.1)]) hx hb dX2_makeSymmetric_37 hl (k := 2) rfl rfl (by decide) rfl (fun ls hl => ?_)
            refine lv_goto (tgt := 12) hx hb dX2_makeSymmetric_40 (by decide) ?_
            exact hR12 _ _ _ _ hf hP hD hS (lv_sub hl [1, 2, 0] rfl)
set_option maxHeartbeats 4000000 in
set_option maxRecDepth 100000 in
theorem k_X2_makeFit (l : Launch) (D : va_G) (cB cI cJ cZ : ClassId) (tL tK : Nat) (h_this : Nat) (sz : Nat) (v_kind : Int32) (v_worlds : Int32) (v_arrows : Int32) (v_p : Int32) (v_q : Int32)  (q : Int32) (hf : f_X2_makeFit v_kind v_worlds v_arrows = some q) : Met l yX2_makeFit (.code yX2_makeFit cX2_makeFit 2 none :: k_all) { frames := 2, cells := 0, slots := 0, locals := 44 } (k_P D cB cI cJ cZ tL tK [.ref h_this] [(h_this, o_X2 v_kind v_worlds v_arrows v_p v_q)] sz) (k_V D [(h_this, o_X2 v_kind v_worlds v_arrows v_p v_q)] [(h_this, o_X2 v_kind v_worlds q v_p v_q)] sz) 0 0 (va_A [(h_this, o_X2 v_kind v_worlds v_arrows v_p v_q)] sz) := by
  unfold f_X2_makeFit at hf
  refine k_met RX2 rfl (by decide +kernel) (Nat.le_of_ble_eq_true rfl) ?_
  intro p e s m below meth c A ls hx hb hr hml hown hts hlocks hin hsz hAe hA hK hN hZ hD hS hP hl
  have hl : lv_has ls 2 [(0, .ref h_this)] := hl
  refine lv_iconst (v := 0) hx hb dX2_makeFit_0 (by decide) ?_
  refine lv_istore_n (lv' := [(1, .int 0), (0, .ref h_this)]) hx hb dX2_makeFit_1 rfl hl (by decide) rfl (fun ls hl => ?_)
  refine k_wl 56 (wsf := fun (a2 : Int32 × Int32) => [(h_this, o_X2 v_kind v_worlds a2.2 v_p v_q)]) (lvf := fun (a2 : Int32 × Int32) => [(0, .ref h_this), (1, .int a2.1)]) hf hP hD hS (lv_sub hl [1, 0] rfl) ?_ ?_
  · intro a2 H locs ls hf hP hD hS hl
    have hP : va_P D vwCl [(h_this, o_X2 v_kind v_worlds a2.2 v_p v_q)] H := hP
    have hD : va_D A [(h_this, o_X2 v_kind v_worlds a2.2 v_p v_q)] := hD
    have hl : lv_has ls 2 [(0, .ref h_this), (1, .int a2.1)] := hl
    refine lv_aload_n hx hb dX2_makeFit_56 rfl (lv_at hl 0 rfl) ?_
    refine va_get (D := D) (ci := 2) (v := .int v_kind) (C := RX2) (T := TX2) (N := 5) hx hb hts inlX2 hown hK hP 0 rfl rfl 0 (by decide) (hts _ m_158) (fun _ h9 => h9) rfl dX2_makeFit_57 ?_
    refine lv_iconst (v := 2) hx hb dX2_makeFit_60 (by decide) ?_
    refine k_jn (D := D) (A := A) (nL := 2) hf (fun (j61 : Int32) => [(h_this, o_X2 v_kind v_worlds j61 v_p v_q)]) (fun (j61 : Int32) => [(0, .ref h_this)]) (fun (j61 : Int32) => []) 68 ?_ ?_
    · intro j61 H locs ls hf hP hD hS hl
      have hP : va_P D vwCl [(h_this, o_X2 v_kind v_worlds j61 v_p v_q)] H := hP
      have hD : va_D A [(h_this, o_X2 v_kind v_worlds j61 v_p v_q)] := hD
      have hl : lv_has ls 2 [(0, .ref h_this)] := hl
      show W p l e _ s m _ below meth c H locs _ _ _ (F0 m 68 ls [])
      refine lv_aload_n hx hb dX2_makeFit_68 rfl (lv_at hl 0 rfl) ?_
      refine va_get (D := D) (ci := 2) (v := .int v_kind) (C := RX2) (T := TX2) (N := 5) hx hb hts inlX2 hown hK hP 0 rfl rfl 0 (by decide) (hts _ m_158) (fun _ h9 => h9) rfl dX2_makeFit_69 ?_
      refine lv_iconst (v := 3) hx hb dX2_makeFit_72 (by decide) ?_
      refine lv_icmp_ne (tgt := 80) hx hb dX2_makeFit_73 (by decide) (fun c73 => ?_) (fun c73 => ?_)
      · replace hf := k_ifF c73 hf
        cases hf
        exact k_vret hx hb hr hlocks hAe hS hP hD dX2_makeFit_80
      · replace hf := k_ifT c73 hf
        refine lv_aload_n hx hb dX2_makeFit_76 rfl (lv_at hl 0 rfl) ?_
        obtain ⟨q77, hq77, hf⟩ := k_bind hf
        refine k_callv (wN := [(h_this, o_X2 v_kind v_worlds q77 v_p v_q)]) [0] [] [0] hP hD hS hA (va_runV (As := []) (rest := []) ⟨hx, hb, hml, hown, hts⟩ (k_X2_makeSymmetric l D cB cI cJ cZ tL tK h_this _ v_kind v_worlds j61 v_p v_q q77 hq77) (cwV 0 hts (k_gV m_750 m_747 m_748 m_749 m_26) rfl rfl rfl (by decide +kernel) ⟨Nat.le_of_ble_eq_true rfl, Nat.le_of_ble_eq_true rfl⟩) (k_preV [0] hK hN hZ hP hD hS hA rfl rfl (va_recv hK hP (ci := 2) (q0 := 0) rfl rfl)) rfl rfl hl.1 rfl (lv_room (Nat.le_of_ble_eq_true rfl)) dX2_makeFit_77 ⟨Nat.le_refl _, Nat.le_refl _⟩) rfl rfl rfl rfl rfl (fun H locs hP hD hS => ?_)
        cases hf
        exact k_vret hx hb hr hlocks hAe hS hP hD dX2_makeFit_80
    · intro j61 hf hj61
      refine lv_icmp_ne (tgt := 68) hx hb dX2_makeFit_61 (by decide) (fun c61 => ?_) (fun c61 => ?_)
      · replace hf := k_ifF c61 hf
        cases hf
        exact hj61 _ _ _ hP hD hS (lv_sub hl [0] rfl)
      · replace hf := k_ifT c61 hf
        refine lv_aload_n hx hb dX2_makeFit_64 rfl (lv_at hl 0 rfl) ?_
        obtain ⟨q65, hq65, hf⟩ := k_bind hf
        refine k_callv (wN := [(h_this, o_X2 v_kind v_worlds q65 v_p v_q)]) [0] [] [0] hP hD hS hA (va_runV (As := []) (rest := []) ⟨hx, hb, hml, hown, hts⟩ (k_X2_makeTransitive l D cB cI cJ cZ tL tK h_this _ v_kind v_worlds a2.2 v_p v_q q65 hq65) (cwV 0 hts (k_gV m_746 m_743 m_744 m_745 m_26) rfl rfl rfl (by decide +kernel) ⟨Nat.le_of_ble_eq_true rfl, Nat.le_of_ble_eq_true rfl⟩) (k_preV [0] hK hN hZ hP hD hS hA rfl rfl (va_recv hK hP (ci := 2) (q0 := 0) rfl rfl)) rfl rfl hl.1 rfl (lv_room (Nat.le_of_ble_eq_true rfl)) dX2_makeFit_65 ⟨Nat.le_refl _, Nat.le_refl _⟩) rfl rfl rfl rfl rfl (fun H locs hP hD hS => ?_)
        cases hf
        exact hj61 _ _ _ hP hD hS (lv_sub hl [0] rfl)
  · intro ex2 rc2 hE2 hR2 a2 H locs ls hf hP hD hS hl
    have hP : va_P D vwCl [(h_this, o_X2 v_kind v_worlds a2.2 v_p v_q)] H := hP
    have hD : va_D A [(h_this, o_X2 v_kind v_worlds a2.2 v_p v_q)] := hD
    have hl : lv_has ls 2 [(0, .ref h_this), (1, .int a2.1)] := hl
    refine lv_iload_n hx hb dX2_makeFit_2 rfl (lv_at hl 1 rfl) ?_
    refine lv_aload_n hx hb dX2_makeFit_3 rfl (lv_at hl 0 rfl) ?_
    refine va_get (D := D) (ci := 2) (v := .int v_worlds) (C := RX2) (T := TX2) (N := 5) hx hb hts inlX2 hown hK hP 0 rfl rfl 1 (by decide) (hts _ m_159) (fun _ h9 => h9) rfl dX2_makeFit_4 ?_
    refine lv_icmp_ge (tgt := 56) hx hb dX2_makeFit_7 (by decide) (fun c7 => ?_) (fun c7 => ?_)
    · replace hf := k_ifT c7 hf
      exact hE2 _ _ _ _ hf hP hD hS (lv_sub hl [0, 1] rfl)
    · replace hf := k_ifF c7 hf
      refine lv_aload_n hx hb dX2_makeFit_10 rfl (lv_at hl 0 rfl) ?_
      refine va_get (D := D) (ci := 2) (v := .int v_kind) (C := RX2) (T := TX2) (N := 5) hx hb hts inlX2 hown hK hP 0 rfl rfl 0 (by decide) (hts _ m_158) (fun _ h9 => h9) rfl dX2_makeFit_11 ?_
      refine lv_iconst (v := 1) hx hb dX2_makeFit_14 (by decide) ?_
      refine lv_icmp_eq (tgt := 42) hx hb dX2_makeFit_15 (by decide) (fun c15 => ?_) (fun c15 => ?_)
      · replace hf := k_ifT c15 hf
        refine lv_aload_n hx hb dX2_makeFit_42 rfl (lv_at hl 0 rfl) ?_
        refine lv_iload_n hx hb dX2_makeFit_43 rfl (lv_at hl 1 rfl) ?_
        refine lv_iconst (v := 1) hx hb dX2_makeFit_44 (by decide) ?_
        refine lv_iload_n hx hb dX2_makeFit_45 rfl (lv_at hl 1 rfl) ?_
        refine lv_ishl hx hb dX2_makeFit_46 ?_
        refine k_callv (wN := [(h_this, o_X2 v_kind v_worlds (f_X2_join a2.2 a2.1 ((1 : Int32) <<< (a2.1 &&& 31))) v_p v_q)]) [0] [] [0] hP hD hS hA (va_runV (As := [.int a2.1, .int ((1 : Int32) <<< (a2.1 &&& 31))]) (rest := []) ⟨hx, hb, hml, hown, hts⟩ (k_X2_join l D cB cI cJ cZ tL tK h_this _ v_kind v_worlds a2.2 v_p v_q a2.1 ((1 : Int32) <<< (a2.1 &&& 31)) (f_X2_join a2.2 a2.1 ((1 : Int32) <<< (a2.1 &&& 31))) rfl) (cwV 2 hts (k_gV m_166 m_163 m_164 m_165 m_26) rfl rfl rfl (by decide +kernel) ⟨Nat.le_of_ble_eq_true rfl, Nat.le_of_ble_eq_true rfl⟩) (k_preV [0] hK hN hZ hP hD hS hA rfl rfl (va_recv hK hP (ci := 2) (q0 := 0) rfl rfl)) rfl rfl hl.1 rfl (lv_room (Nat.le_of_ble_eq_true rfl)) dX2_makeFit_47 ⟨Nat.le_refl _, Nat.le_refl _⟩) rfl rfl rfl rfl rfl (fun H locs hP hD hS => ?_)
        refine lv_iinc (v := (a2.1 + 1)) (lv' := [(1, .int (a2.1 + 1)), (0, .ref h_this)]) hx hb dX2_makeFit_50 hl (k := 1) rfl rfl (by decide) rfl (fun ls hl => ?_)
        refine lv_goto (tgt := 2) hx hb dX2_makeFit_53 (by decide) ?_
        exact hR2 _ _ _ _ hf hP hD hS (lv_sub hl [1, 0] rfl)
      · replace hf := k_ifF c15 hf
        refine lv_aload_n hx hb dX2_makeFit_18 rfl (lv_at hl 0 rfl) ?_
        refine va_get (D := D) (ci := 2) (v := .int v_kind) (C := RX2) (T := TX2) (N := 5) hx hb hts inlX2 hown hK hP 0 rfl rfl 0 (by decide) (hts _ m_158) (fun _ h9 => h9) rfl dX2_makeFit_19 ?_
        refine lv_iconst (v := 2) hx hb dX2_makeFit_22 (by decide) ?_
        refine lv_icmp_eq (tgt := 42) hx hb dX2_makeFit_23 (by decide) (fun c23 => ?_) (fun c23 => ?_)
        · replace hf := k_ifT c23 hf
          refine lv_aload_n hx hb dX2_makeFit_42 rfl (lv_at hl 0 rfl) ?_
          refine lv_iload_n hx hb dX2_makeFit_43 rfl (lv_at hl 1 rfl) ?_
          refine lv_iconst (v := 1) hx hb dX2_makeFit_44 (by decide) ?_
          refine lv_iload_n hx hb dX2_makeFit_45 rfl (lv_at hl 1 rfl) ?_
          refine lv_ishl hx hb dX2_makeFit_46 ?_
          refine k_callv (wN := [(h_this, o_X2 v_kind v_worlds (f_X2_join a2.2 a2.1 ((1 : Int32) <<< (a2.1 &&& 31))) v_p v_q)]) [0] [] [0] hP hD hS hA (va_runV (As := [.int a2.1, .int ((1 : Int32) <<< (a2.1 &&& 31))]) (rest := []) ⟨hx, hb, hml, hown, hts⟩ (k_X2_join l D cB cI cJ cZ tL tK h_this _ v_kind v_worlds a2.2 v_p v_q a2.1 ((1 : Int32) <<< (a2.1 &&& 31)) (f_X2_join a2.2 a2.1 ((1 : Int32) <<< (a2.1 &&& 31))) rfl) (cwV 2 hts (k_gV m_166 m_163 m_164 m_165 m_26) rfl rfl rfl (by decide +kernel) ⟨Nat.le_of_ble_eq_true rfl, Nat.le_of_ble_eq_true rfl⟩) (k_preV [0] hK hN hZ hP hD hS hA rfl rfl (va_recv hK hP (ci := 2) (q0 := 0) rfl rfl)) rfl rfl hl.1 rfl (lv_room (Nat.le_of_ble_eq_true rfl)) dX2_makeFit_47 ⟨Nat.le_refl _, Nat.le_refl _⟩) rfl rfl rfl rfl rfl (fun H locs hP hD hS => ?_)
          refine lv_iinc (v := (a2.1 + 1)) (lv' := [(1, .int (a2.1 + 1)), (0, .ref h_this)]) hx hb dX2_makeFit_50 hl (k := 1) rfl rfl (by decide) rfl (fun ls hl => ?_)
          refine lv_goto (tgt := 2) hx hb dX2_makeFit_53 (by decide) ?_
          exact hR2 _ _ _ _ hf hP hD hS (lv_sub hl [1, 0] rfl)
        · replace hf := k_ifF c23 hf
          refine lv_aload_n hx hb dX2_makeFit_26 rfl (lv_at hl 0 rfl) ?_
          refine va_get (D := D) (ci := 2) (v := .int v_kind) (C := RX2) (T := TX2) (N := 5) hx hb hts inlX2 hown hK hP 0 rfl rfl 0 (by decide) (hts _ m_158) (fun _ h9 => h9) rfl dX2_makeFit_27 ?_
          refine lv_iconst (v := 4) hx hb dX2_makeFit_30 (by decide) ?_
          refine lv_icmp_ne (tgt := 50) hx hb dX2_makeFit_31 (by decide) (fun c31 => ?_) (fun c31 => ?_)
          · replace hf := k_ifF c31 hf
            refine lv_iinc (v := (a2.1 + 1)) (lv' := [(1, .int (a2.1 + 1)), (0, .ref h_this)]) hx hb dX2_makeFit_50 hl (k := 1) rfl rfl (by decide) rfl (fun ls hl => ?_)
            refine lv_goto (tgt := 2) hx hb dX2_makeFit_53 (by decide) ?_
            exact hR2 _ _ _ _ hf hP hD hS (lv_sub hl [1, 0] rfl)
          · replace hf := k_ifT c31 hf
            refine lv_aload_n hx hb dX2_makeFit_34 rfl (lv_at hl 0 rfl) ?_
            refine lv_iload_n hx hb dX2_makeFit_35 rfl (lv_at hl 1 rfl) ?_
            refine k_calli (wN := [(h_this, o_X2 v_kind v_worlds a2.2 v_p v_q)]) [0] [] [0] hP hD hS hA (va_runV (As := [.int a2.1]) (rest := []) ⟨hx, hb, hml, hown, hts⟩ (k_X2_row l D cB cI cJ cZ tL tK h_this _ v_kind v_worlds a2.2 v_p v_q a2.1 (f_X2_row a2.2 a2.1) rfl) (cwV 1 hts (k_gV m_396 m_393 m_394 m_395 m_26) rfl rfl rfl (by decide +kernel) ⟨Nat.le_of_ble_eq_true rfl, Nat.le_of_ble_eq_true rfl⟩) (k_preV [0] hK hN hZ hP hD hS hA rfl rfl (va_recv hK hP (ci := 2) (q0 := 0) rfl rfl)) rfl rfl hl.1 rfl (lv_room (Nat.le_of_ble_eq_true rfl)) dX2_makeFit_36 ⟨Nat.le_refl _, Nat.le_refl _⟩) rfl rfl rfl rfl rfl (fun H locs hP hD hS => ?_)
            refine lv_if_ne (tgt := 50) hx hb dX2_makeFit_39 (by decide) (fun c39 => ?_) (fun c39 => ?_)
            · replace hf := k_ifF c39 hf
              refine lv_iinc (v := (a2.1 + 1)) (lv' := [(1, .int (a2.1 + 1)), (0, .ref h_this)]) hx hb dX2_makeFit_50 hl (k := 1) rfl rfl (by decide) rfl (fun ls hl => ?_)
              refine lv_goto (tgt := 2) hx hb dX2_makeFit_53 (by decide) ?_
              exact hR2 _ _ _ _ hf hP hD hS (lv_sub hl [1, 0] rfl)
            · replace hf := k_ifT c39 hf
              refine lv_aload_n hx hb dX2_makeFit_42 rfl (lv_at hl 0 rfl) ?_
              refine lv_iload_n hx hb dX2_makeFit_43 rfl (lv_at hl 1 rfl) ?_
              refine lv_iconst (v := 1) hx hb dX2_makeFit_44 (by decide) ?_
              refine lv_iload_n hx hb dX2_makeFit_45 rfl (lv_at hl 1 rfl) ?_
              refine lv_ishl hx hb dX2_makeFit_46 ?_
              refine k_callv (wN := [(h_this, o_X2 v_kind v_worlds (f_X2_join a2.2 a2.1 ((1 : Int32) <<< (a2.1 &&& 31))) v_p v_q)]) [0] [] [0] hP hD hS hA (va_runV (As := [.int a2.1, .int ((1 : Int32) <<< (a2.1 &&& 31))]) (rest := []) ⟨hx, hb, hml, hown, hts⟩ (k_X2_join l D cB cI cJ cZ tL tK h_this _ v_kind v_worlds a2.2 v_p v_q a2.1 ((1 : Int32) <<< (a2.1 &&& 31)) (f_X2_join a2.2 a2.1 ((1 : Int32) <<< (a2.1 &&& 31))) rfl) (cwV 2 hts (k_gV m_166 m_163 m_164 m_165 m_26) rfl rfl rfl (by decide +kernel) ⟨Nat.le_of_ble_eq_true rfl, Nat.le_of_ble_eq_true rfl⟩) (k_preV [0] hK hN hZ hP hD hS hA rfl rfl (va_recv hK hP (ci := 2) (q0 := 0) rfl rfl)) rfl rfl hl.1 rfl (lv_room (Nat.le_of_ble_eq_true rfl)) dX2_makeFit_47 ⟨Nat.le_refl _, Nat.le_refl _⟩) rfl rfl rfl rfl rfl (fun H locs hP hD hS => ?_)
              refine lv_iinc (v := (a2.1 + 1)) (lv' := [(1, .int (a2.1 + 1)), (0, .ref h_this)]) hx hb dX2_makeFit_50 hl (k := 1) rfl rfl (by decide) rfl (fun ls hl => ?_)
              refine lv_goto (tgt := 2) hx hb dX2_makeFit_53 (by decide) ?_
              exact hR2 _ _ _ _ hf hP hD hS (lv_sub hl [1, 0] rfl)
set_option maxHeartbeats 4000000 in
set_option maxRecDepth 100000 in
theorem k_X2_merge (l : Launch) (D : va_G) (cB cI cJ cZ : ClassId) (tL tK : Nat) (h_this : Nat) (sz : Nat) (v_kind : Int32) (v_worlds : Int32) (v_arrows : Int32) (v_p : Int32) (v_q : Int32)  (q : Int32 × Int32 × Int32 × Int32) (hf : f_X2_merge v_worlds v_arrows v_p v_q = some q) : Met l yX2_merge (.code yX2_merge cX2_merge 4 none :: k_all) { frames := 4, cells := 0, slots := 0, locals := 93 } (k_P D cB cI cJ cZ tL tK [.ref h_this] [(h_this, o_X2 v_kind v_worlds v_arrows v_p v_q)] sz) (k_V D [(h_this, o_X2 v_kind v_worlds v_arrows v_p v_q)] [(h_this, o_X2 v_kind q.1 q.2.1 q.2.2.1 q.2.2.2)] sz) 0 0 (va_A [(h_this, o_X2 v_kind v_worlds v_arrows v_p v_q)] sz) := by
  unfold f_X2_merge at hf
  refine k_met RX2 rfl (by decide +kernel) (Nat.le_of_ble_eq_true rfl) ?_
  intro p e s m below meth c A ls hx hb hr hml hown hts hlocks hin hsz hAe hA hK hN hZ hD hS hP hl
  have hl : lv_has ls 4 [(0, .ref h_this)] := hl
  refine lv_aload_n hx hb dX2_merge_0 rfl (lv_at hl 0 rfl) ?_
  obtain ⟨q1, hq1, hf⟩ := k_bind hf
  refine k_calli (wN := [(h_this, o_X2 v_kind v_worlds v_arrows v_p v_q)]) [0] [] [0] hP hD hS hA (va_runV (As := []) (rest := []) ⟨hx, hb, hml, hown, hts⟩ (k_X2_bisimilarity l D cB cI cJ cZ tL tK h_this _ v_kind v_worlds v_arrows v_p v_q q1 hq1) (cwV 0 hts (k_gV m_411 m_408 m_409 m_410 m_26) rfl rfl rfl (by decide +kernel) ⟨Nat.le_of_ble_eq_true rfl, Nat.le_of_ble_eq_true rfl⟩) (k_preV [0] hK hN hZ hP hD hS hA rfl rfl (va_recv hK hP (ci := 2) (q0 := 0) rfl rfl)) rfl rfl hl.1 rfl (lv_room (Nat.le_of_ble_eq_true rfl)) dX2_merge_1 ⟨Nat.le_refl _, Nat.le_refl _⟩) rfl rfl rfl rfl rfl (fun H locs hP hD hS => ?_)
  refine lv_istore_n (lv' := [(1, .int q1), (0, .ref h_this)]) hx hb dX2_merge_4 rfl hl (by decide) rfl (fun ls hl => ?_)
  refine lv_iconst (v := 0) hx hb dX2_merge_5 (by decide) ?_
  refine lv_istore_n (lv' := [(2, .int 0), (1, .int q1), (0, .ref h_this)]) hx hb dX2_merge_6 rfl hl (by decide) rfl (fun ls hl => ?_)
  refine k_wl 62 (wsf := fun (a7 : Int32 × Int32) => [(h_this, o_X2 v_kind v_worlds a7.2 v_p v_q)]) (lvf := fun (a7 : Int32 × Int32) => [(0, .ref h_this), (1, .int q1), (2, .int a7.1)]) hf hP hD hS (lv_sub hl [2, 1, 0] rfl) ?_ ?_
  · intro a7 H locs ls hf hP hD hS hl
    have hP : va_P D vwCl [(h_this, o_X2 v_kind v_worlds a7.2 v_p v_q)] H := hP
    have hD : va_D A [(h_this, o_X2 v_kind v_worlds a7.2 v_p v_q)] := hD
    have hl : lv_has ls 4 [(0, .ref h_this), (1, .int q1), (2, .int a7.1)] := hl
    refine lv_aload_n hx hb dX2_merge_62 rfl (lv_at hl 0 rfl) ?_
    refine va_get (D := D) (ci := 2) (v := .int v_worlds) (C := RX2) (T := TX2) (N := 5) hx hb hts inlX2 hown hK hP 0 rfl rfl 1 (by decide) (hts _ m_159) (fun _ h9 => h9) rfl dX2_merge_63 ?_
    refine lv_iconst (v := 1) hx hb dX2_merge_66 (by decide) ?_
    refine lv_isub hx hb dX2_merge_67 ?_
    refine lv_istore_n (lv' := [(2, .int (v_worlds - 1)), (0, .ref h_this), (1, .int q1)]) hx hb dX2_merge_68 rfl hl (by decide) rfl (fun ls hl => ?_)
    refine k_wl 97 (wsf := fun (a69 : Int32 × Int32 × Int32 × Int32 × Int32) => [(h_this, o_X2 v_kind a69.2.1 a69.2.2.1 a69.2.2.2.1 a69.2.2.2.2)]) (lvf := fun (a69 : Int32 × Int32 × Int32 × Int32 × Int32) => [(0, .ref h_this), (1, .int q1), (2, .int a69.1)]) hf hP hD hS (lv_sub hl [1, 2, 0] rfl) ?_ ?_
    · intro a69 H locs ls hf hP hD hS hl
      have hP : va_P D vwCl [(h_this, o_X2 v_kind a69.2.1 a69.2.2.1 a69.2.2.2.1 a69.2.2.2.2)] H := hP
      have hD : va_D A [(h_this, o_X2 v_kind a69.2.1 a69.2.2.1 a69.2.2.2.1 a69.2.2.2.2)] := hD
      have hl : lv_has ls 4 [(0, .ref h_this), (1, .int q1), (2, .int a69.1)] := hl
      cases hf
      exact k_vret hx hb hr hlocks hAe hS hP hD dX2_merge_97
    · intro ex69 rc69 hE69 hR69 a69 H locs ls hf hP hD hS hl
      have hP : va_P D vwCl [(h_this, o_X2 v_kind a69.2.1 a69.2.2.1 a69.2.2.2.1 a69.2.2.2.2)] H := hP
      have hD : va_D A [(h_this, o_X2 v_kind a69.2.1 a69.2.2.1 a69.2.2.2.1 a69.2.2.2.2)] := hD
      have hl : lv_has ls 4 [(0, .ref h_this), (1, .int q1), (2, .int a69.1)] := hl
      refine lv_iload_n hx hb dX2_merge_69 rfl (lv_at hl 2 rfl) ?_
      refine lv_if_lt (tgt := 97) hx hb dX2_merge_70 (by decide) (fun c70 => ?_) (fun c70 => ?_)
      · replace hf := k_ifT c70 hf
        exact hE69 _ _ _ _ hf hP hD hS (lv_sub hl [0, 1, 2] rfl)
      · replace hf := k_ifF c70 hf
        refine lv_iload_n hx hb dX2_merge_73 rfl (lv_at hl 1 rfl) ?_
        refine lv_iload_n hx hb dX2_merge_74 rfl (lv_at hl 2 rfl) ?_
        refine k_calli (wN := [(h_this, o_X2 v_kind a69.2.1 a69.2.2.1 a69.2.2.2.1 a69.2.2.2.2)]) [] [0] [0] hP hD hS hA (va_runS (As := [.int q1, .int a69.1]) (rest := []) ⟨hx, hb, hml, hown, hts⟩ (k_X2_rowOf l D cB cI cJ cZ tL tK _ q1 a69.1 (f_X2_rowOf q1 a69.1) rfl) (va_cwS 2 hts (k_gS m_427 m_425 m_426 m_26) rfl rfl rfl (by decide +kernel) ⟨Nat.le_of_ble_eq_true rfl, Nat.le_of_ble_eq_true rfl⟩) (k_preS [] hK hN hZ hP hD hS hA rfl rfl) rfl rfl hl.1 rfl (lv_room (Nat.le_of_ble_eq_true rfl)) dX2_merge_75 ⟨Nat.le_refl _, Nat.le_refl _⟩) rfl rfl rfl rfl rfl (fun H locs hP hD hS => ?_)
        refine lv_i2l hx hb dX2_merge_78 rfl ?_
        refine k_calli (wN := [(h_this, o_X2 v_kind a69.2.1 a69.2.2.1 a69.2.2.2.1 a69.2.2.2.2)]) [] [0] [0] hP hD hS hA (va_runSN (As := [.long (Int32.toInt64 (f_X2_rowOf q1 a69.1))]) (rest := []) ⟨hx, hb, hml, hown, hts⟩ (k_X8_lowest l D cB cI cJ cZ tL tK _ (Int32.toInt64 (f_X2_rowOf q1 a69.1)) (f_X8_lowest (Int32.toInt64 (f_X2_rowOf q1 a69.1))) rfl) ⟨va_cnB 1 hts (k_gB m_429) rfl rfl rfl (hN.1 _ (List.mem_of_getElem? (i := 14) rfl)) (hts _ m_2) (by decide +kernel) ⟨Nat.le_of_ble_eq_true rfl, Nat.le_of_ble_eq_true rfl⟩, (hts _ m_428), trivial⟩ (k_preS [] hK hN hZ hP hD hS hA rfl rfl) rfl rfl hl.1 rfl (lv_room (Nat.le_of_ble_eq_true rfl)) dX2_merge_79 ⟨Nat.le_refl _, Nat.le_refl _⟩) rfl rfl rfl rfl rfl (fun H locs hP hD hS => ?_)
        refine lv_iload_n hx hb dX2_merge_82 rfl (lv_at hl 2 rfl) ?_
        refine lv_icmp_eq (tgt := 91) hx hb dX2_merge_83 (by decide) (fun c83 => ?_) (fun c83 => ?_)
        · replace hf := k_ifT c83 hf
          refine lv_iinc (v := (a69.1 + (-1))) (lv' := [(2, .int (a69.1 + (-1))), (0, .ref h_this), (1, .int q1)]) hx hb dX2_merge_91 hl (k := 2) rfl rfl (by decide) rfl (fun ls hl => ?_)
          refine lv_goto (tgt := 69) hx hb dX2_merge_94 (by decide) ?_
          exact hR69 _ _ _ _ hf hP hD hS (lv_sub hl [1, 2, 0] rfl)
        · replace hf := k_ifF c83 hf
          refine lv_aload_n hx hb dX2_merge_86 rfl (lv_at hl 0 rfl) ?_
          refine lv_iload_n hx hb dX2_merge_87 rfl (lv_at hl 2 rfl) ?_
          obtain ⟨q88, hq88, hf⟩ := k_bind hf
          refine k_callv (wN := [(h_this, o_X2 v_kind q88.1 q88.2.1 q88.2.2.1 q88.2.2.2)]) [0] [] [0] hP hD hS hA (va_runV (As := [.int a69.1]) (rest := []) ⟨hx, hb, hml, hown, hts⟩ (k_X2_drop l D cB cI cJ cZ tL tK h_this _ v_kind a69.2.1 a69.2.2.1 a69.2.2.2.1 a69.2.2.2.2 a69.1 q88 hq88) (cwV 1 hts (k_gV m_711 m_771 m_709 m_710 m_26) rfl rfl rfl (by decide +kernel) ⟨Nat.le_of_ble_eq_true rfl, Nat.le_of_ble_eq_true rfl⟩) (k_preV [0] hK hN hZ hP hD hS hA rfl rfl (va_recv hK hP (ci := 2) (q0 := 0) rfl rfl)) rfl rfl hl.1 rfl (lv_room (Nat.le_of_ble_eq_true rfl)) dX2_merge_88 ⟨Nat.le_refl _, Nat.le_refl _⟩) rfl rfl rfl rfl rfl (fun H locs hP hD hS => ?_)
          refine lv_iinc (v := (a69.1 + (-1))) (lv' := [(2, .int (a69.1 + (-1))), (0, .ref h_this), (1, .int q1)]) hx hb dX2_merge_91 hl (k := 2) rfl rfl (by decide) rfl (fun ls hl => ?_)
          refine lv_goto (tgt := 69) hx hb dX2_merge_94 (by decide) ?_
          exact hR69 _ _ _ _ hf hP hD hS (lv_sub hl [1, 2, 0] rfl)
  · intro ex7 rc7 hE7 hR7 a7 H locs ls hf hP hD hS hl
    have hP : va_P D vwCl [(h_this, o_X2 v_kind v_worlds a7.2 v_p v_q)] H := hP
    have hD : va_D A [(h_this, o_X2 v_kind v_worlds a7.2 v_p v_q)] := hD
    have hl : lv_has ls 4 [(0, .ref h_this), (1, .int q1), (2, .int a7.1)] := hl
    refine lv_iload_n hx hb dX2_merge_7 rfl (lv_at hl 2 rfl) ?_
    refine lv_aload_n hx hb dX2_merge_8 rfl (lv_at hl 0 rfl) ?_
    refine va_get (D := D) (ci := 2) (v := .int v_worlds) (C := RX2) (T := TX2) (N := 5) hx hb hts inlX2 hown hK hP 0 rfl rfl 1 (by decide) (hts _ m_159) (fun _ h9 => h9) rfl dX2_merge_9 ?_
    refine lv_icmp_ge (tgt := 62) hx hb dX2_merge_12 (by decide) (fun c12 => ?_) (fun c12 => ?_)
    · replace hf := k_ifT c12 hf
      exact hE7 _ _ _ _ hf hP hD hS (lv_sub hl [0, 1, 2] rfl)
    · replace hf := k_ifF c12 hf
      refine lv_iconst (v := 0) hx hb dX2_merge_15 (by decide) ?_
      refine lv_istore_n (lv' := [(3, .int 0), (0, .ref h_this), (1, .int q1), (2, .int a7.1)]) hx hb dX2_merge_16 rfl hl (by decide) rfl (fun ls hl => ?_)
      refine k_wl 56 (wsf := fun (a17 : Int32 × Int32) => [(h_this, o_X2 v_kind v_worlds a17.2 v_p v_q)]) (lvf := fun (a17 : Int32 × Int32) => [(0, .ref h_this), (1, .int q1), (2, .int a7.1), (3, .int a17.1)]) hf hP hD hS (lv_sub hl [1, 2, 3, 0] rfl) ?_ ?_
      · intro a17 H locs ls hf hP hD hS hl
        have hP : va_P D vwCl [(h_this, o_X2 v_kind v_worlds a17.2 v_p v_q)] H := hP
        have hD : va_D A [(h_this, o_X2 v_kind v_worlds a17.2 v_p v_q)] := hD
        have hl : lv_has ls 4 [(0, .ref h_this), (1, .int q1), (2, .int a7.1), (3, .int a17.1)] := hl
        refine lv_iinc (v := (a7.1 + 1)) (lv' := [(2, .int (a7.1 + 1)), (0, .ref h_this), (1, .int q1), (3, .int a17.1)]) hx hb dX2_merge_56 hl (k := 2) rfl rfl (by decide) rfl (fun ls hl => ?_)
        refine lv_goto (tgt := 7) hx hb dX2_merge_59 (by decide) ?_
        exact hR7 _ _ _ _ hf hP hD hS (lv_sub hl [1, 2, 0] rfl)
      · intro ex17 rc17 hE17 hR17 a17 H locs ls hf hP hD hS hl
        have hP : va_P D vwCl [(h_this, o_X2 v_kind v_worlds a17.2 v_p v_q)] H := hP
        have hD : va_D A [(h_this, o_X2 v_kind v_worlds a17.2 v_p v_q)] := hD
        have hl : lv_has ls 4 [(0, .ref h_this), (1, .int q1), (2, .int a7.1), (3, .int a17.1)] := hl
        refine lv_iload_n hx hb dX2_merge_17 rfl (lv_at hl 3 rfl) ?_
        refine lv_aload_n hx hb dX2_merge_18 rfl (lv_at hl 0 rfl) ?_
        refine va_get (D := D) (ci := 2) (v := .int v_worlds) (C := RX2) (T := TX2) (N := 5) hx hb hts inlX2 hown hK hP 0 rfl rfl 1 (by decide) (hts _ m_159) (fun _ h9 => h9) rfl dX2_merge_19 ?_
        refine lv_icmp_ge (tgt := 56) hx hb dX2_merge_22 (by decide) (fun c22 => ?_) (fun c22 => ?_)
        · replace hf := k_ifT c22 hf
          exact hE17 _ _ _ _ hf hP hD hS (lv_sub hl [0, 1, 2, 3] rfl)
        · replace hf := k_ifF c22 hf
          refine lv_aload_n hx hb dX2_merge_25 rfl (lv_at hl 0 rfl) ?_
          refine lv_iload_n hx hb dX2_merge_26 rfl (lv_at hl 2 rfl) ?_
          refine lv_iload_n hx hb dX2_merge_27 rfl (lv_at hl 3 rfl) ?_
          refine k_calli (wN := [(h_this, o_X2 v_kind v_worlds a17.2 v_p v_q)]) [0] [] [0] hP hD hS hA (va_runV (As := [.int a7.1, .int a17.1]) (rest := []) ⟨hx, hb, hml, hown, hts⟩ (k_X2_has l D cB cI cJ cZ tL tK h_this _ v_kind v_worlds a17.2 v_p v_q a7.1 a17.1 (f_X2_has a17.2 a7.1 a17.1) rfl) (cwV 2 hts (k_gV m_213 m_392 m_211 m_212 m_26) rfl rfl rfl (by decide +kernel) ⟨Nat.le_of_ble_eq_true rfl, Nat.le_of_ble_eq_true rfl⟩) (k_preV [0] hK hN hZ hP hD hS hA rfl rfl (va_recv hK hP (ci := 2) (q0 := 0) rfl rfl)) rfl rfl hl.1 rfl (lv_room (Nat.le_of_ble_eq_true rfl)) dX2_merge_28 ⟨Nat.le_refl _, Nat.le_refl _⟩) rfl rfl rfl rfl rfl (fun H locs hP hD hS => ?_)
          refine lv_if_eq (tgt := 50) hx hb dX2_merge_31 (by decide) (fun c31 => ?_) (fun c31 => ?_)
          · replace hf := k_ifT c31 hf
            refine lv_iinc (v := (a17.1 + 1)) (lv' := [(3, .int (a17.1 + 1)), (0, .ref h_this), (1, .int q1), (2, .int a7.1)]) hx hb dX2_merge_50 hl (k := 3) rfl rfl (by decide) rfl (fun ls hl => ?_)
            refine lv_goto (tgt := 17) hx hb dX2_merge_53 (by decide) ?_
            exact hR17 _ _ _ _ hf hP hD hS (lv_sub hl [1, 2, 3, 0] rfl)
          · replace hf := k_ifF c31 hf
            refine lv_aload_n hx hb dX2_merge_34 rfl (lv_at hl 0 rfl) ?_
            refine lv_iload_n hx hb dX2_merge_35 rfl (lv_at hl 2 rfl) ?_
            refine lv_iconst (v := 1) hx hb dX2_merge_36 (by decide) ?_
            refine lv_iload_n hx hb dX2_merge_37 rfl (lv_at hl 1 rfl) ?_
            refine lv_iload_n hx hb dX2_merge_38 rfl (lv_at hl 3 rfl) ?_
            refine k_calli (wN := [(h_this, o_X2 v_kind v_worlds a17.2 v_p v_q)]) [] [0] [0] hP hD hS hA (va_runS (As := [.int q1, .int a17.1]) (rest := [.int 1, .int a7.1, .ref h_this]) ⟨hx, hb, hml, hown, hts⟩ (k_X2_rowOf l D cB cI cJ cZ tL tK _ q1 a17.1 (f_X2_rowOf q1 a17.1) rfl) (va_cwS 2 hts (k_gS m_427 m_425 m_426 m_26) rfl rfl rfl (by decide +kernel) ⟨Nat.le_of_ble_eq_true rfl, Nat.le_of_ble_eq_true rfl⟩) (k_preS [] hK hN hZ hP hD hS hA rfl rfl) rfl rfl hl.1 rfl (lv_room (Nat.le_of_ble_eq_true rfl)) dX2_merge_39 ⟨Nat.le_refl _, Nat.le_refl _⟩) rfl rfl rfl rfl rfl (fun H locs hP hD hS => ?_)
            refine lv_i2l hx hb dX2_merge_42 rfl ?_
            refine k_calli (wN := [(h_this, o_X2 v_kind v_worlds a17.2 v_p v_q)]) [] [0] [0] hP hD hS hA (va_runSN (As := [.long (Int32.toInt64 (f_X2_rowOf q1 a17.1))]) (rest := [.int 1, .int a7.1, .ref h_this]) ⟨hx, hb, hml, hown, hts⟩ (k_X8_lowest l D cB cI cJ cZ tL tK _ (Int32.toInt64 (f_X2_rowOf q1 a17.1)) (f_X8_lowest (Int32.toInt64 (f_X2_rowOf q1 a17.1))) rfl) ⟨va_cnB 1 hts (k_gB m_429) rfl rfl rfl (hN.1 _ (List.mem_of_getElem? (i := 14) rfl)) (hts _ m_2) (by decide +kernel) ⟨Nat.le_of_ble_eq_true rfl, Nat.le_of_ble_eq_true rfl⟩, (hts _ m_428), trivial⟩ (k_preS [] hK hN hZ hP hD hS hA rfl rfl) rfl rfl hl.1 rfl (lv_room (Nat.le_of_ble_eq_true rfl)) dX2_merge_43 ⟨Nat.le_refl _, Nat.le_refl _⟩) rfl rfl rfl rfl rfl (fun H locs hP hD hS => ?_)
            refine lv_ishl hx hb dX2_merge_46 ?_
            obtain ⟨q47, hq47, hf⟩ := k_let_ex hf
            refine k_callv (wN := [(h_this, o_X2 v_kind v_worlds q47 v_p v_q)]) [0] [] [0] hP hD hS hA (va_runV (As := [.int a7.1, .int ((1 : Int32) <<< ((f_X8_lowest (Int32.toInt64 (f_X2_rowOf q1 a17.1))) &&& 31))]) (rest := []) ⟨hx, hb, hml, hown, hts⟩ (k_X2_join l D cB cI cJ cZ tL tK h_this _ v_kind v_worlds a17.2 v_p v_q a7.1 ((1 : Int32) <<< ((f_X8_lowest (Int32.toInt64 (f_X2_rowOf q1 a17.1))) &&& 31)) q47 hq47) (cwV 2 hts (k_gV m_166 m_163 m_164 m_165 m_26) rfl rfl rfl (by decide +kernel) ⟨Nat.le_of_ble_eq_true rfl, Nat.le_of_ble_eq_true rfl⟩) (k_preV [0] hK hN hZ hP hD hS hA rfl rfl (va_recv hK hP (ci := 2) (q0 := 0) rfl rfl)) rfl rfl hl.1 rfl (lv_room (Nat.le_of_ble_eq_true rfl)) dX2_merge_47 ⟨Nat.le_refl _, Nat.le_refl _⟩) rfl rfl rfl rfl rfl (fun H locs hP hD hS => ?_)
            refine lv_iinc (v := (a17.1 + 1)) (lv' := [(3, .int (a17.1 + 1)), (0, .ref h_this), (1, .int q1), (2, .int a7.1)]) hx hb dX2_merge_50 hl (k := 3) rfl rfl (by decide) rfl (fun ls hl => ?_)
            refine lv_goto (tgt := 17) hx hb dX2_merge_53 (by decide) ?_
            exact hR17 _ _ _ _ hf hP hD hS (lv_sub hl [1, 2, 3, 0] rfl)
