set_option maxHeartbeats 4000000 in
set_option maxRecDepth 100000 in
theorem k_X3_begin (l : Launch) (D : va_G) (cB cI cJ cZ : ClassId) (tL tK : Nat) (h_this h_draft : Nat) (sz : Nat) (v_place : Int32) (v_from : Int32) (v_leastWorld : Int32) (v_draft_kind : Int32) (v_draft_worlds : Int32) (v_draft_arrows : Int32) (v_draft_p : Int32) (v_draft_q : Int32)  (q : Int32 × Int32 × Int32 × Int32 × Int32 × Int32) (hf : f_X3_begin v_place v_draft_kind v_draft_worlds v_draft_arrows v_draft_p v_draft_q = some q) : Met l yX3_begin (.code yX3_begin cX3_begin 1 none :: k_all) { frames := 2, cells := 0, slots := 0, locals := 45 } (k_P D cB cI cJ cZ tL tK [.ref h_this] [(h_this, o_X3 h_draft v_place v_from v_leastWorld), (h_draft, o_X2 v_draft_kind v_draft_worlds v_draft_arrows v_draft_p v_draft_q)] sz) (k_V D [(h_this, o_X3 h_draft v_place v_from v_leastWorld), (h_draft, o_X2 v_draft_kind v_draft_worlds v_draft_arrows v_draft_p v_draft_q)] [(h_this, o_X3 h_draft q.1 v_from v_leastWorld), (h_draft, o_X2 q.2.1 q.2.2.1 q.2.2.2.1 q.2.2.2.2.1 q.2.2.2.2.2)] sz) 0 0 (va_A [(h_this, o_X3 h_draft v_place v_from v_leastWorld), (h_draft, o_X2 v_draft_kind v_draft_worlds v_draft_arrows v_draft_p v_draft_q)] sz) := by
  unfold f_X3_begin at hf
  refine k_met RX3 rfl (by decide +kernel) (Nat.le_of_ble_eq_true rfl) ?_
  intro p e s m below meth c A ls hx hb hr hml hown hts hlocks hin hsz hAe hA hK hN hZ hD hS hP hl
  have hl : lv_has ls 1 [(0, .ref h_this)] := hl
  refine lv_aload_n hx hb dX3_begin_0 rfl (lv_at hl 0 rfl) ?_
  refine va_get (D := D) (ci := 3) (v := .ref h_draft) (C := RX3) (T := TX3) (N := 4) hx hb hts inlX3 hown hK hP 0 rfl rfl 0 (by decide) (hts _ m_51) (fun _ h9 => h9) rfl dX3_begin_1 ?_
  refine lv_iconst (v := 0) hx hb dX3_begin_4 (by decide) ?_
  refine lv_iconst (v := 0) hx hb dX3_begin_5 (by decide) ?_
  obtain ⟨q6, hq6, hf⟩ := k_bind hf
  refine k_callv (wN := [(h_this, o_X3 h_draft v_place v_from v_leastWorld), (h_draft, o_X2 q6.1 q6.2.1 q6.2.2.1 q6.2.2.2.1 q6.2.2.2.2)]) [1] [0] [0, 1] hP hD hS hA (va_runV (As := [.int 0, .int 0]) (rest := []) ⟨hx, hb, hml, hown, hts⟩ (k_X2_build l D cB cI cJ cZ tL tK h_draft _ v_draft_kind v_draft_worlds v_draft_arrows v_draft_p v_draft_q 0 0 q6 hq6) (cwV 2 hts (k_gV m_157 m_154 m_155 m_156 m_26) rfl rfl rfl (by decide +kernel) ⟨Nat.le_of_ble_eq_true rfl, Nat.le_of_ble_eq_true rfl⟩) (k_preV [1] hK hN hZ hP hD hS hA rfl rfl (va_recv hK hP (ci := 2) (q0 := 1) rfl rfl)) rfl rfl hl.1 rfl (lv_room (Nat.le_of_ble_eq_true rfl)) dX3_begin_6 ⟨Nat.le_refl _, Nat.le_refl _⟩) rfl rfl rfl rfl rfl (fun H locs hP hD hS => ?_)
  refine lv_aload_n hx hb dX3_begin_9 rfl (lv_at hl 0 rfl) ?_
  refine lv_iconst (v := 0) hx hb dX3_begin_10 (by decide) ?_
  refine va_put (D := D) (ci := 3) (v := .int 0) (ty := .int) (C := RX3) (T := TX3) (N := 4) hx hb hts inlX3 tyX3 tyX3_ok nmX3 hown hK hP hD hS 0 rfl rfl 1 (by decide) (hts _ m_153) (fun _ h9 => h9) rfl (by decide +kernel) rfl rfl (Nat.le_of_ble_eq_true rfl) dX3_begin_11 (fun H locs hP hD hS => ?_)
  have hP : va_P D vwCl [(h_this, o_X3 h_draft 0 v_from v_leastWorld), (h_draft, o_X2 q6.1 q6.2.1 q6.2.2.1 q6.2.2.2.1 q6.2.2.2.2)] H := hP
  have hD : va_D A [(h_this, o_X3 h_draft 0 v_from v_leastWorld), (h_draft, o_X2 q6.1 q6.2.1 q6.2.2.1 q6.2.2.2.1 q6.2.2.2.2)] := hD
  cases hf
  exact k_vret hx hb hr hlocks hAe hS hP hD dX3_begin_14
set_option maxHeartbeats 4000000 in
set_option maxRecDepth 100000 in
theorem k_X3_readsMarked (l : Launch) (D : va_G) (cB cI cJ cZ : ClassId) (tL tK : Nat) (h_this h_draft : Nat) (sz : Nat) (v_place : Int32) (v_from : Int32) (v_leastWorld : Int32) (v_draft_kind : Int32) (v_draft_worlds : Int32) (v_draft_arrows : Int32) (v_draft_p : Int32) (v_draft_q : Int32) (x1 : Int32) (x2 : Int32) (q : Int32 × Int32 × Int32 × Int32) (hf : f_X3_readsMarked v_leastWorld v_draft_worlds v_draft_p v_draft_q x1 x2 = q) : Met l yX3_readsMarked (.code yX3_readsMarked cX3_readsMarked 4 (some .boolean) :: k_all) { frames := 2, cells := 0, slots := 0, locals := 43 } (k_P D cB cI cJ cZ tL tK [.ref h_this, .int x1, .int x2] [(h_this, o_X3 h_draft v_place v_from v_leastWorld), (h_draft, o_X2 v_draft_kind v_draft_worlds v_draft_arrows v_draft_p v_draft_q)] sz) (k_I D q.1 [(h_this, o_X3 h_draft v_place v_from v_leastWorld), (h_draft, o_X2 v_draft_kind v_draft_worlds v_draft_arrows v_draft_p v_draft_q)] [(h_this, o_X3 h_draft v_place v_from q.2.1), (h_draft, o_X2 v_draft_kind v_draft_worlds v_draft_arrows q.2.2.1 q.2.2.2)] sz) 0 0 (va_A [(h_this, o_X3 h_draft v_place v_from v_leastWorld), (h_draft, o_X2 v_draft_kind v_draft_worlds v_draft_arrows v_draft_p v_draft_q)] sz) := by
  unfold f_X3_readsMarked at hf
  refine k_met RX3 rfl (by decide +kernel) (Nat.le_of_ble_eq_true rfl) ?_
  intro p e s m below meth c A ls hx hb hr hml hown hts hlocks hin hsz hAe hA hK hN hZ hD hS hP hl
  have hl : lv_has ls 4 [(0, .ref h_this), (1, .int x1), (2, .int x2)] := hl
  refine lv_iload_n hx hb dX3_readsMarked_0 rfl (lv_at hl 1 rfl) ?_
  refine lv_bipush (v := 48) hx hb dX3_readsMarked_1 (by decide) ?_
  refine lv_isub hx hb dX3_readsMarked_3 ?_
  refine lv_istore_n (lv' := [(3, .int (x1 - 48)), (0, .ref h_this), (1, .int x1), (2, .int x2)]) hx hb dX3_readsMarked_4 rfl hl (by decide) rfl (fun ls hl => ?_)
  refine lv_iload_n hx hb dX3_readsMarked_5 rfl (lv_at hl 0 rfl) ?_
  refine lv_aload_n hx hb dX3_readsMarked_6 rfl (lv_at hl 1 rfl) ?_
  refine va_get (D := D) (ci := 3) (v := .int v_leastWorld) (C := RX3) (T := TX3) (N := 4) hx hb hts inlX3 hown hK hP 0 rfl rfl 3 (by decide) (hts _ m_200) (fun _ h9 => h9) rfl dX3_readsMarked_7 ?_
  refine lv_icmp_lt (tgt := 24) hx hb dX3_readsMarked_10 (by decide) (fun c10 => ?_) (fun c10 => ?_)
  · replace hf := k_ifT c10 hf
    refine lv_iconst (v := 0) hx hb dX3_readsMarked_24 (by decide) ?_
    subst hf
    exact k_zret (r := 0) hx hb hr rfl hlocks hAe hS hP hD dX3_readsMarked_25
  · replace hf := k_ifF c10 hf
    refine lv_iload_n hx hb dX3_readsMarked_13 rfl (lv_at hl 0 rfl) ?_
    refine lv_aload_n hx hb dX3_readsMarked_14 rfl (lv_at hl 1 rfl) ?_
    refine va_get (D := D) (ci := 3) (v := .ref h_draft) (C := RX3) (T := TX3) (N := 4) hx hb hts inlX3 hown hK hP 0 rfl rfl 0 (by decide) (hts _ m_51) (fun _ h9 => h9) rfl dX3_readsMarked_15 ?_
    refine va_get (D := D) (ci := 2) (v := .int v_draft_worlds) (C := RX2) (T := TX2) (N := 5) hx hb hts inlX2 hown hK hP 1 rfl rfl 1 (by decide) (hts _ m_195) (fun _ h9 => h9) rfl dX3_readsMarked_18 ?_
    refine lv_icmp_lt (tgt := 26) hx hb dX3_readsMarked_21 (by decide) (fun c21 => ?_) (fun c21 => ?_)
    · replace hf := k_ifT c21 hf
      refine lv_aload_n hx hb dX3_readsMarked_26 rfl (lv_at hl 1 rfl) ?_
      refine va_get (D := D) (ci := 3) (v := .ref h_draft) (C := RX3) (T := TX3) (N := 4) hx hb hts inlX3 hown hK hP 0 rfl rfl 0 (by decide) (hts _ m_51) (fun _ h9 => h9) rfl dX3_readsMarked_27 ?_
      refine lv_iload_n hx hb dX3_readsMarked_30 rfl (lv_at hl 0 rfl) ?_
      refine lv_aload_n hx hb dX3_readsMarked_31 rfl (lv_at hl 1 rfl) ?_
      refine va_get (D := D) (ci := 3) (v := .ref h_draft) (C := RX3) (T := TX3) (N := 4) hx hb hts inlX3 hown hK hP 0 rfl rfl 0 (by decide) (hts _ m_51) (fun _ h9 => h9) rfl dX3_readsMarked_32 ?_
      refine lv_iload_n hx hb dX3_readsMarked_35 rfl (lv_at hl 0 rfl) ?_
      refine k_calli (wN := [(h_this, o_X3 h_draft v_place v_from v_leastWorld), (h_draft, o_X2 v_draft_kind v_draft_worlds v_draft_arrows v_draft_p v_draft_q)]) [1] [0] [0, 1] hP hD hS hA (va_runV (As := [.int (x1 - 48)]) (rest := [.int (x1 - 48), .ref h_draft]) ⟨hx, hb, hml, hown, hts⟩ (k_X2_marks l D cB cI cJ cZ tL tK h_draft _ v_draft_kind v_draft_worlds v_draft_arrows v_draft_p v_draft_q (x1 - 48) (f_X2_marks v_draft_p v_draft_q (x1 - 48)) rfl) (cwV 1 hts (k_gV m_228 m_225 m_226 m_227 m_26) rfl rfl rfl (by decide +kernel) ⟨Nat.le_of_ble_eq_true rfl, Nat.le_of_ble_eq_true rfl⟩) (k_preV [1] hK hN hZ hP hD hS hA rfl rfl (va_recv hK hP (ci := 2) (q0 := 1) rfl rfl)) rfl rfl hl.1 rfl (lv_room (Nat.le_of_ble_eq_true rfl)) dX3_readsMarked_36 ⟨Nat.le_refl _, Nat.le_refl _⟩) rfl rfl rfl rfl rfl (fun H locs hP hD hS => ?_)
      refine lv_iload_n hx hb dX3_readsMarked_39 rfl (lv_at hl 3 rfl) ?_
      refine lv_ior hx hb dX3_readsMarked_40 ?_
      obtain ⟨q41, hq41, hf⟩ := k_let_ex hf
      refine k_callv (wN := [(h_this, o_X3 h_draft v_place v_from v_leastWorld), (h_draft, o_X2 v_draft_kind v_draft_worlds v_draft_arrows q41.1 q41.2)]) [1] [0] [0, 1] hP hD hS hA (va_runV (As := [.int (x1 - 48), .int ((f_X2_marks v_draft_p v_draft_q (x1 - 48)) ||| x2)]) (rest := []) ⟨hx, hb, hml, hown, hts⟩ (k_X2_setMarks l D cB cI cJ cZ tL tK h_draft _ v_draft_kind v_draft_worlds v_draft_arrows v_draft_p v_draft_q (x1 - 48) ((f_X2_marks v_draft_p v_draft_q (x1 - 48)) ||| x2) q41 hq41) (cwV 2 hts (k_gV m_234 m_231 m_232 m_233 m_26) rfl rfl rfl (by decide +kernel) ⟨Nat.le_of_ble_eq_true rfl, Nat.le_of_ble_eq_true rfl⟩) (k_preV [1] hK hN hZ hP hD hS hA rfl rfl (va_recv hK hP (ci := 2) (q0 := 1) rfl rfl)) rfl rfl hl.1 rfl (lv_room (Nat.le_of_ble_eq_true rfl)) dX3_readsMarked_41 ⟨Nat.le_refl _, Nat.le_refl _⟩) rfl rfl rfl rfl rfl (fun H locs hP hD hS => ?_)
      refine lv_aload_n hx hb dX3_readsMarked_44 rfl (lv_at hl 1 rfl) ?_
      refine lv_iload_n hx hb dX3_readsMarked_45 rfl (lv_at hl 0 rfl) ?_
      refine lv_iconst (v := 1) hx hb dX3_readsMarked_46 (by decide) ?_
      refine lv_iadd hx hb dX3_readsMarked_47 ?_
      refine va_put (D := D) (ci := 3) (v := .int ((x1 - 48) + 1)) (ty := .int) (C := RX3) (T := TX3) (N := 4) hx hb hts inlX3 tyX3 tyX3_ok nmX3 hown hK hP hD hS 0 rfl rfl 3 (by decide) (hts _ m_200) (fun _ h9 => h9) rfl (by decide +kernel) rfl rfl (Nat.le_of_ble_eq_true rfl) dX3_readsMarked_48 (fun H locs hP hD hS => ?_)
      have hP : va_P D vwCl [(h_this, o_X3 h_draft v_place v_from ((x1 - 48) + 1)), (h_draft, o_X2 v_draft_kind v_draft_worlds v_draft_arrows q41.1 q41.2)] H := hP
      have hD : va_D A [(h_this, o_X3 h_draft v_place v_from ((x1 - 48) + 1)), (h_draft, o_X2 v_draft_kind v_draft_worlds v_draft_arrows q41.1 q41.2)] := hD
      refine lv_iconst (v := 1) hx hb dX3_readsMarked_51 (by decide) ?_
      subst hf
      exact k_zret (r := 1) hx hb hr rfl hlocks hAe hS hP hD dX3_readsMarked_52
    · replace hf := k_ifF c21 hf
      refine lv_iconst (v := 0) hx hb dX3_readsMarked_24 (by decide) ?_
      subst hf
      exact k_zret (r := 0) hx hb hr rfl hlocks hAe hS hP hD dX3_readsMarked_25
set_option maxHeartbeats 4000000 in
set_option maxRecDepth 100000 in
theorem k_X3_readsSign (l : Launch) (D : va_G) (cB cI cJ cZ : ClassId) (tL tK : Nat) (h_this h_draft : Nat) (sz : Nat) (v_place : Int32) (v_from : Int32) (v_leastWorld : Int32) (x1 : Int32) (x2 : Int32) (x3 : Int32) (q : Int32 × Int32 × Int32) (hf : f_X3_readsSign v_place v_leastWorld x1 x2 x3 = q) : Met l yX3_readsSign (.code yX3_readsSign cX3_readsSign 4 (some .boolean) :: k_all) { frames := 0, cells := 0, slots := 0, locals := 0 } (k_P D cB cI cJ cZ tL tK [.ref h_this, .int x1, .int x2, .int x3] [(h_this, o_X3 h_draft v_place v_from v_leastWorld)] sz) (k_I D q.1 [(h_this, o_X3 h_draft v_place v_from v_leastWorld)] [(h_this, o_X3 h_draft q.2.1 v_from q.2.2)] sz) 0 0 (va_A [(h_this, o_X3 h_draft v_place v_from v_leastWorld)] sz) := by
  unfold f_X3_readsSign at hf
  refine k_met RX3 rfl (by decide +kernel) (Nat.le_of_ble_eq_true rfl) ?_
  intro p e s m below meth c A ls hx hb hr hml hown hts hlocks hin hsz hAe hA hK hN hZ hD hS hP hl
  have hl : lv_has ls 4 [(0, .ref h_this), (1, .int x1), (2, .int x2), (3, .int x3)] := hl
  refine lv_iload_n hx hb dX3_readsSign_0 rfl (lv_at hl 1 rfl) ?_
  refine lv_iload_n hx hb dX3_readsSign_1 rfl (lv_at hl 2 rfl) ?_
  refine lv_icmp_eq (tgt := 7) hx hb dX3_readsSign_2 (by decide) (fun c2 => ?_) (fun c2 => ?_)
  · replace hf := k_ifT c2 hf
    refine lv_aload_n hx hb dX3_readsSign_7 rfl (lv_at hl 0 rfl) ?_
    refine lv_iconst (v := 0) hx hb dX3_readsSign_8 (by decide) ?_
    refine va_put (D := D) (ci := 3) (v := .int 0) (ty := .int) (C := RX3) (T := TX3) (N := 4) hx hb hts inlX3 tyX3 tyX3_ok nmX3 hown hK hP hD hS 0 rfl rfl 3 (by decide) (hts _ m_200) (fun _ h9 => h9) rfl (by decide +kernel) rfl rfl (Nat.le_of_ble_eq_true rfl) dX3_readsSign_9 (fun H locs hP hD hS => ?_)
    have hP : va_P D vwCl [(h_this, o_X3 h_draft v_place v_from 0)] H := hP
    have hD : va_D A [(h_this, o_X3 h_draft v_place v_from 0)] := hD
    refine lv_aload_n hx hb dX3_readsSign_12 rfl (lv_at hl 0 rfl) ?_
    refine lv_iload_n hx hb dX3_readsSign_13 rfl (lv_at hl 3 rfl) ?_
    refine va_put (D := D) (ci := 3) (v := .int x3) (ty := .int) (C := RX3) (T := TX3) (N := 4) hx hb hts inlX3 tyX3 tyX3_ok nmX3 hown hK hP hD hS 0 rfl rfl 1 (by decide) (hts _ m_153) (fun _ h9 => h9) rfl (by decide +kernel) rfl rfl (Nat.le_of_ble_eq_true rfl) dX3_readsSign_14 (fun H locs hP hD hS => ?_)
    have hP : va_P D vwCl [(h_this, o_X3 h_draft x3 v_from 0)] H := hP
    have hD : va_D A [(h_this, o_X3 h_draft x3 v_from 0)] := hD
    refine lv_iconst (v := 1) hx hb dX3_readsSign_17 (by decide) ?_
    subst hf
    exact k_zret (r := 1) hx hb hr rfl hlocks hAe hS hP hD dX3_readsSign_18
  · replace hf := k_ifF c2 hf
    refine lv_iconst (v := 0) hx hb dX3_readsSign_5 (by decide) ?_
    subst hf
    exact k_zret (r := 0) hx hb hr rfl hlocks hAe hS hP hD dX3_readsSign_6
set_option maxHeartbeats 4000000 in
set_option maxRecDepth 100000 in
theorem k_X3_readsTo (l : Launch) (D : va_G) (cB cI cJ cZ : ClassId) (tL tK : Nat) (h_this h_draft : Nat) (sz : Nat) (v_place : Int32) (v_from : Int32) (v_leastWorld : Int32) (v_draft_kind : Int32) (v_draft_worlds : Int32) (v_draft_arrows : Int32) (v_draft_p : Int32) (v_draft_q : Int32) (x1 : Int32) (q : Int32 × Int32 × Int32) (hf : f_X3_readsTo v_place v_from v_draft_worlds v_draft_arrows x1 = q) : Met l yX3_readsTo (.code yX3_readsTo cX3_readsTo 3 (some .boolean) :: k_all) { frames := 2, cells := 0, slots := 0, locals := 43 } (k_P D cB cI cJ cZ tL tK [.ref h_this, .int x1] [(h_this, o_X3 h_draft v_place v_from v_leastWorld), (h_draft, o_X2 v_draft_kind v_draft_worlds v_draft_arrows v_draft_p v_draft_q)] sz) (k_I D q.1 [(h_this, o_X3 h_draft v_place v_from v_leastWorld), (h_draft, o_X2 v_draft_kind v_draft_worlds v_draft_arrows v_draft_p v_draft_q)] [(h_this, o_X3 h_draft q.2.1 v_from v_leastWorld), (h_draft, o_X2 v_draft_kind v_draft_worlds q.2.2 v_draft_p v_draft_q)] sz) 0 0 (va_A [(h_this, o_X3 h_draft v_place v_from v_leastWorld), (h_draft, o_X2 v_draft_kind v_draft_worlds v_draft_arrows v_draft_p v_draft_q)] sz) := by
  unfold f_X3_readsTo at hf
  refine k_met RX3 rfl (by decide +kernel) (Nat.le_of_ble_eq_true rfl) ?_
  intro p e s m below meth c A ls hx hb hr hml hown hts hlocks hin hsz hAe hA hK hN hZ hD hS hP hl
  have hl : lv_has ls 3 [(0, .ref h_this), (1, .int x1)] := hl
  refine lv_iload_n hx hb dX3_readsTo_0 rfl (lv_at hl 1 rfl) ?_
  refine lv_bipush (v := 48) hx hb dX3_readsTo_1 (by decide) ?_
  refine lv_isub hx hb dX3_readsTo_3 ?_
  refine lv_istore_n (lv' := [(2, .int (x1 - 48)), (0, .ref h_this), (1, .int x1)]) hx hb dX3_readsTo_4 rfl hl (by decide) rfl (fun ls hl => ?_)
  refine lv_iload_n hx hb dX3_readsTo_5 rfl (lv_at hl 0 rfl) ?_
  refine lv_aload_n hx hb dX3_readsTo_6 rfl (lv_at hl 1 rfl) ?_
  refine va_get (D := D) (ci := 3) (v := .ref h_draft) (C := RX3) (T := TX3) (N := 4) hx hb hts inlX3 hown hK hP 0 rfl rfl 0 (by decide) (hts _ m_51) (fun _ h9 => h9) rfl dX3_readsTo_7 ?_
  refine va_get (D := D) (ci := 2) (v := .int v_draft_worlds) (C := RX2) (T := TX2) (N := 5) hx hb hts inlX2 hown hK hP 1 rfl rfl 1 (by decide) (hts _ m_195) (fun _ h9 => h9) rfl dX3_readsTo_10 ?_
  refine k_calli (wN := [(h_this, o_X3 h_draft v_place v_from v_leastWorld), (h_draft, o_X2 v_draft_kind v_draft_worlds v_draft_arrows v_draft_p v_draft_q)]) [] [0, 1] [0, 1] hP hD hS hA (va_runSN (As := [.int (x1 - 48), .int v_draft_worlds]) (rest := []) ⟨hx, hb, hml, hown, hts⟩ (k_X8_isBelow l D cB cI cJ cZ tL tK _ (x1 - 48) v_draft_worlds (f_X8_isBelow (x1 - 48) v_draft_worlds) rfl) ⟨va_cnB 2 hts (k_gB m_112) rfl rfl rfl (hN.1 _ (List.mem_of_getElem? (i := 11) rfl)) (hts _ m_2) (by decide +kernel) ⟨Nat.le_of_ble_eq_true rfl, Nat.le_of_ble_eq_true rfl⟩, (hts _ m_111), trivial⟩ (k_preS [] hK hN hZ hP hD hS hA rfl rfl) rfl rfl hl.1 rfl (lv_room (Nat.le_of_ble_eq_true rfl)) dX3_readsTo_13 ⟨Nat.le_refl _, Nat.le_refl _⟩) rfl rfl rfl rfl rfl (fun H locs hP hD hS => ?_)
  refine lv_if_eq (tgt := 34) hx hb dX3_readsTo_16 (by decide) (fun c16 => ?_) (fun c16 => ?_)
  · replace hf := k_ifT c16 hf
    refine lv_iconst (v := 0) hx hb dX3_readsTo_34 (by decide) ?_
    subst hf
    exact k_zret (r := 0) hx hb hr rfl hlocks hAe hS hP hD dX3_readsTo_35
  · replace hf := k_ifF c16 hf
    refine lv_aload_n hx hb dX3_readsTo_19 rfl (lv_at hl 1 rfl) ?_
    refine va_get (D := D) (ci := 3) (v := .ref h_draft) (C := RX3) (T := TX3) (N := 4) hx hb hts inlX3 hown hK hP 0 rfl rfl 0 (by decide) (hts _ m_51) (fun _ h9 => h9) rfl dX3_readsTo_20 ?_
    refine lv_aload_n hx hb dX3_readsTo_23 rfl (lv_at hl 1 rfl) ?_
    refine va_get (D := D) (ci := 3) (v := .int v_from) (C := RX3) (T := TX3) (N := 4) hx hb hts inlX3 hown hK hP 0 rfl rfl 2 (by decide) (hts _ m_205) (fun _ h9 => h9) rfl dX3_readsTo_24 ?_
    refine lv_iload_n hx hb dX3_readsTo_27 rfl (lv_at hl 0 rfl) ?_
    refine k_calli (wN := [(h_this, o_X3 h_draft v_place v_from v_leastWorld), (h_draft, o_X2 v_draft_kind v_draft_worlds v_draft_arrows v_draft_p v_draft_q)]) [1] [0] [0, 1] hP hD hS hA (va_runV (As := [.int v_from, .int (x1 - 48)]) (rest := []) ⟨hx, hb, hml, hown, hts⟩ (k_X2_has l D cB cI cJ cZ tL tK h_draft _ v_draft_kind v_draft_worlds v_draft_arrows v_draft_p v_draft_q v_from (x1 - 48) (f_X2_has v_draft_arrows v_from (x1 - 48)) rfl) (cwV 2 hts (k_gV m_213 m_210 m_211 m_212 m_26) rfl rfl rfl (by decide +kernel) ⟨Nat.le_of_ble_eq_true rfl, Nat.le_of_ble_eq_true rfl⟩) (k_preV [1] hK hN hZ hP hD hS hA rfl rfl (va_recv hK hP (ci := 2) (q0 := 1) rfl rfl)) rfl rfl hl.1 rfl (lv_room (Nat.le_of_ble_eq_true rfl)) dX3_readsTo_28 ⟨Nat.le_refl _, Nat.le_refl _⟩) rfl rfl rfl rfl rfl (fun H locs hP hD hS => ?_)
    refine lv_if_eq (tgt := 36) hx hb dX3_readsTo_31 (by decide) (fun c31 => ?_) (fun c31 => ?_)
    · replace hf := k_ifT c31 hf
      refine lv_aload_n hx hb dX3_readsTo_36 rfl (lv_at hl 1 rfl) ?_
      refine va_get (D := D) (ci := 3) (v := .ref h_draft) (C := RX3) (T := TX3) (N := 4) hx hb hts inlX3 hown hK hP 0 rfl rfl 0 (by decide) (hts _ m_51) (fun _ h9 => h9) rfl dX3_readsTo_37 ?_
      refine lv_aload_n hx hb dX3_readsTo_40 rfl (lv_at hl 1 rfl) ?_
      refine va_get (D := D) (ci := 3) (v := .int v_from) (C := RX3) (T := TX3) (N := 4) hx hb hts inlX3 hown hK hP 0 rfl rfl 2 (by decide) (hts _ m_205) (fun _ h9 => h9) rfl dX3_readsTo_41 ?_
      refine lv_iload_n hx hb dX3_readsTo_44 rfl (lv_at hl 0 rfl) ?_
      refine k_callv (wN := [(h_this, o_X3 h_draft v_place v_from v_leastWorld), (h_draft, o_X2 v_draft_kind v_draft_worlds (f_X2_turn v_draft_arrows v_from (x1 - 48)) v_draft_p v_draft_q)]) [1] [0] [0, 1] hP hD hS hA (va_runV (As := [.int v_from, .int (x1 - 48)]) (rest := []) ⟨hx, hb, hml, hown, hts⟩ (k_X2_turn l D cB cI cJ cZ tL tK h_draft _ v_draft_kind v_draft_worlds v_draft_arrows v_draft_p v_draft_q v_from (x1 - 48) (f_X2_turn v_draft_arrows v_from (x1 - 48)) rfl) (cwV 2 hts (k_gV m_217 m_214 m_215 m_216 m_26) rfl rfl rfl (by decide +kernel) ⟨Nat.le_of_ble_eq_true rfl, Nat.le_of_ble_eq_true rfl⟩) (k_preV [1] hK hN hZ hP hD hS hA rfl rfl (va_recv hK hP (ci := 2) (q0 := 1) rfl rfl)) rfl rfl hl.1 rfl (lv_room (Nat.le_of_ble_eq_true rfl)) dX3_readsTo_45 ⟨Nat.le_refl _, Nat.le_refl _⟩) rfl rfl rfl rfl rfl (fun H locs hP hD hS => ?_)
      refine lv_aload_n hx hb dX3_readsTo_48 rfl (lv_at hl 1 rfl) ?_
      refine lv_bipush (v := 6) hx hb dX3_readsTo_49 (by decide) ?_
      refine va_put (D := D) (ci := 3) (v := .int 6) (ty := .int) (C := RX3) (T := TX3) (N := 4) hx hb hts inlX3 tyX3 tyX3_ok nmX3 hown hK hP hD hS 0 rfl rfl 1 (by decide) (hts _ m_153) (fun _ h9 => h9) rfl (by decide +kernel) rfl rfl (Nat.le_of_ble_eq_true rfl) dX3_readsTo_51 (fun H locs hP hD hS => ?_)
      have hP : va_P D vwCl [(h_this, o_X3 h_draft 6 v_from v_leastWorld), (h_draft, o_X2 v_draft_kind v_draft_worlds (f_X2_turn v_draft_arrows v_from (x1 - 48)) v_draft_p v_draft_q)] H := hP
      have hD : va_D A [(h_this, o_X3 h_draft 6 v_from v_leastWorld), (h_draft, o_X2 v_draft_kind v_draft_worlds (f_X2_turn v_draft_arrows v_from (x1 - 48)) v_draft_p v_draft_q)] := hD
      refine lv_iconst (v := 1) hx hb dX3_readsTo_54 (by decide) ?_
      subst hf
      exact k_zret (r := 1) hx hb hr rfl hlocks hAe hS hP hD dX3_readsTo_55
    · replace hf := k_ifF c31 hf
      refine lv_iconst (v := 0) hx hb dX3_readsTo_34 (by decide) ?_
      subst hf
      exact k_zret (r := 0) hx hb hr rfl hlocks hAe hS hP hD dX3_readsTo_35
set_option maxHeartbeats 4000000 in
set_option maxRecDepth 100000 in
theorem k_X3_readsFrom (l : Launch) (D : va_G) (cB cI cJ cZ : ClassId) (tL tK : Nat) (h_this h_draft : Nat) (sz : Nat) (v_place : Int32) (v_from : Int32) (v_leastWorld : Int32) (v_draft_kind : Int32) (v_draft_worlds : Int32) (v_draft_arrows : Int32) (v_draft_p : Int32) (v_draft_q : Int32) (x1 : Int32) (q : Int32 × Int32 × Int32) (hf : f_X3_readsFrom v_place v_from v_draft_worlds x1 = q) : Met l yX3_readsFrom (.code yX3_readsFrom cX3_readsFrom 3 (some .boolean) :: k_all) { frames := 1, cells := 0, slots := 0, locals := 21 } (k_P D cB cI cJ cZ tL tK [.ref h_this, .int x1] [(h_this, o_X3 h_draft v_place v_from v_leastWorld), (h_draft, o_X2 v_draft_kind v_draft_worlds v_draft_arrows v_draft_p v_draft_q)] sz) (k_I D q.1 [(h_this, o_X3 h_draft v_place v_from v_leastWorld), (h_draft, o_X2 v_draft_kind v_draft_worlds v_draft_arrows v_draft_p v_draft_q)] [(h_this, o_X3 h_draft q.2.1 q.2.2 v_leastWorld), (h_draft, o_X2 v_draft_kind v_draft_worlds v_draft_arrows v_draft_p v_draft_q)] sz) 0 0 (va_A [(h_this, o_X3 h_draft v_place v_from v_leastWorld), (h_draft, o_X2 v_draft_kind v_draft_worlds v_draft_arrows v_draft_p v_draft_q)] sz) := by
  unfold f_X3_readsFrom at hf
  refine k_met RX3 rfl (by decide +kernel) (Nat.le_of_ble_eq_true rfl) ?_
  intro p e s m below meth c A ls hx hb hr hml hown hts hlocks hin hsz hAe hA hK hN hZ hD hS hP hl
  have hl : lv_has ls 3 [(0, .ref h_this), (1, .int x1)] := hl
  refine lv_iload_n hx hb dX3_readsFrom_0 rfl (lv_at hl 1 rfl) ?_
  refine lv_bipush (v := 48) hx hb dX3_readsFrom_1 (by decide) ?_
  refine lv_isub hx hb dX3_readsFrom_3 ?_
  refine lv_istore_n (lv' := [(2, .int (x1 - 48)), (0, .ref h_this), (1, .int x1)]) hx hb dX3_readsFrom_4 rfl hl (by decide) rfl (fun ls hl => ?_)
  refine lv_iload_n hx hb dX3_readsFrom_5 rfl (lv_at hl 0 rfl) ?_
  refine lv_aload_n hx hb dX3_readsFrom_6 rfl (lv_at hl 1 rfl) ?_
  refine va_get (D := D) (ci := 3) (v := .ref h_draft) (C := RX3) (T := TX3) (N := 4) hx hb hts inlX3 hown hK hP 0 rfl rfl 0 (by decide) (hts _ m_51) (fun _ h9 => h9) rfl dX3_readsFrom_7 ?_
  refine va_get (D := D) (ci := 2) (v := .int v_draft_worlds) (C := RX2) (T := TX2) (N := 5) hx hb hts inlX2 hown hK hP 1 rfl rfl 1 (by decide) (hts _ m_195) (fun _ h9 => h9) rfl dX3_readsFrom_10 ?_
  refine k_calli (wN := [(h_this, o_X3 h_draft v_place v_from v_leastWorld), (h_draft, o_X2 v_draft_kind v_draft_worlds v_draft_arrows v_draft_p v_draft_q)]) [] [0, 1] [0, 1] hP hD hS hA (va_runSN (As := [.int (x1 - 48), .int v_draft_worlds]) (rest := []) ⟨hx, hb, hml, hown, hts⟩ (k_X8_isBelow l D cB cI cJ cZ tL tK _ (x1 - 48) v_draft_worlds (f_X8_isBelow (x1 - 48) v_draft_worlds) rfl) ⟨va_cnB 2 hts (k_gB m_112) rfl rfl rfl (hN.1 _ (List.mem_of_getElem? (i := 11) rfl)) (hts _ m_2) (by decide +kernel) ⟨Nat.le_of_ble_eq_true rfl, Nat.le_of_ble_eq_true rfl⟩, (hts _ m_111), trivial⟩ (k_preS [] hK hN hZ hP hD hS hA rfl rfl) rfl rfl hl.1 rfl (lv_room (Nat.le_of_ble_eq_true rfl)) dX3_readsFrom_13 ⟨Nat.le_refl _, Nat.le_refl _⟩) rfl rfl rfl rfl rfl (fun H locs hP hD hS => ?_)
  refine lv_if_ne (tgt := 21) hx hb dX3_readsFrom_16 (by decide) (fun c16 => ?_) (fun c16 => ?_)
  · replace hf := k_ifF c16 hf
    refine lv_aload_n hx hb dX3_readsFrom_21 rfl (lv_at hl 1 rfl) ?_
    refine lv_iload_n hx hb dX3_readsFrom_22 rfl (lv_at hl 0 rfl) ?_
    refine va_put (D := D) (ci := 3) (v := .int (x1 - 48)) (ty := .int) (C := RX3) (T := TX3) (N := 4) hx hb hts inlX3 tyX3 tyX3_ok nmX3 hown hK hP hD hS 0 rfl rfl 2 (by decide) (hts _ m_205) (fun _ h9 => h9) rfl (by decide +kernel) rfl rfl (Nat.le_of_ble_eq_true rfl) dX3_readsFrom_23 (fun H locs hP hD hS => ?_)
    have hP : va_P D vwCl [(h_this, o_X3 h_draft v_place (x1 - 48) v_leastWorld), (h_draft, o_X2 v_draft_kind v_draft_worlds v_draft_arrows v_draft_p v_draft_q)] H := hP
    have hD : va_D A [(h_this, o_X3 h_draft v_place (x1 - 48) v_leastWorld), (h_draft, o_X2 v_draft_kind v_draft_worlds v_draft_arrows v_draft_p v_draft_q)] := hD
    refine lv_aload_n hx hb dX3_readsFrom_26 rfl (lv_at hl 1 rfl) ?_
    refine lv_iconst (v := 5) hx hb dX3_readsFrom_27 (by decide) ?_
    refine va_put (D := D) (ci := 3) (v := .int 5) (ty := .int) (C := RX3) (T := TX3) (N := 4) hx hb hts inlX3 tyX3 tyX3_ok nmX3 hown hK hP hD hS 0 rfl rfl 1 (by decide) (hts _ m_153) (fun _ h9 => h9) rfl (by decide +kernel) rfl rfl (Nat.le_of_ble_eq_true rfl) dX3_readsFrom_28 (fun H locs hP hD hS => ?_)
    have hP : va_P D vwCl [(h_this, o_X3 h_draft 5 (x1 - 48) v_leastWorld), (h_draft, o_X2 v_draft_kind v_draft_worlds v_draft_arrows v_draft_p v_draft_q)] H := hP
    have hD : va_D A [(h_this, o_X3 h_draft 5 (x1 - 48) v_leastWorld), (h_draft, o_X2 v_draft_kind v_draft_worlds v_draft_arrows v_draft_p v_draft_q)] := hD
    refine lv_iconst (v := 1) hx hb dX3_readsFrom_31 (by decide) ?_
    subst hf
    exact k_zret (r := 1) hx hb hr rfl hlocks hAe hS hP hD dX3_readsFrom_32
  · replace hf := k_ifT c16 hf
    refine lv_iconst (v := 0) hx hb dX3_readsFrom_19 (by decide) ?_
    subst hf
    exact k_zret (r := 0) hx hb hr rfl hlocks hAe hS hP hD dX3_readsFrom_20
set_option maxHeartbeats 4000000 in
set_option maxRecDepth 100000 in
theorem k_X3_readsSize (l : Launch) (D : va_G) (cB cI cJ cZ : ClassId) (tL tK : Nat) (h_this h_draft : Nat) (sz : Nat) (v_place : Int32) (v_from : Int32) (v_leastWorld : Int32) (v_draft_kind : Int32) (v_draft_worlds : Int32) (v_draft_arrows : Int32) (v_draft_p : Int32) (v_draft_q : Int32) (x1 : Int32) (q : Int32 × Int32 × Int32) (hf : f_X3_readsSize v_place v_draft_worlds x1 = q) : Met l yX3_readsSize (.code yX3_readsSize cX3_readsSize 3 (some .boolean) :: k_all) { frames := 0, cells := 0, slots := 0, locals := 0 } (k_P D cB cI cJ cZ tL tK [.ref h_this, .int x1] [(h_this, o_X3 h_draft v_place v_from v_leastWorld), (h_draft, o_X2 v_draft_kind v_draft_worlds v_draft_arrows v_draft_p v_draft_q)] sz) (k_I D q.1 [(h_this, o_X3 h_draft v_place v_from v_leastWorld), (h_draft, o_X2 v_draft_kind v_draft_worlds v_draft_arrows v_draft_p v_draft_q)] [(h_this, o_X3 h_draft q.2.1 v_from v_leastWorld), (h_draft, o_X2 v_draft_kind q.2.2 v_draft_arrows v_draft_p v_draft_q)] sz) 0 0 (va_A [(h_this, o_X3 h_draft v_place v_from v_leastWorld), (h_draft, o_X2 v_draft_kind v_draft_worlds v_draft_arrows v_draft_p v_draft_q)] sz) := by
  unfold f_X3_readsSize at hf
  refine k_met RX3 rfl (by decide +kernel) (Nat.le_of_ble_eq_true rfl) ?_
  intro p e s m below meth c A ls hx hb hr hml hown hts hlocks hin hsz hAe hA hK hN hZ hD hS hP hl
  have hl : lv_has ls 3 [(0, .ref h_this), (1, .int x1)] := hl
  refine lv_iload_n hx hb dX3_readsSize_0 rfl (lv_at hl 1 rfl) ?_
  refine lv_bipush (v := 48) hx hb dX3_readsSize_1 (by decide) ?_
  refine lv_isub hx hb dX3_readsSize_3 ?_
  refine lv_istore_n (lv' := [(2, .int (x1 - 48)), (0, .ref h_this), (1, .int x1)]) hx hb dX3_readsSize_4 rfl hl (by decide) rfl (fun ls hl => ?_)
  refine lv_iload_n hx hb dX3_readsSize_5 rfl (lv_at hl 0 rfl) ?_
  refine lv_iconst (v := 1) hx hb dX3_readsSize_6 (by decide) ?_
  refine lv_icmp_lt (tgt := 15) hx hb dX3_readsSize_7 (by decide) (fun c7 => ?_) (fun c7 => ?_)
  · replace hf := k_ifT c7 hf
    refine lv_iconst (v := 0) hx hb dX3_readsSize_15 (by decide) ?_
    subst hf
    exact k_zret (r := 0) hx hb hr rfl hlocks hAe hS hP hD dX3_readsSize_16
  · replace hf := k_ifF c7 hf
    refine lv_iload_n hx hb dX3_readsSize_10 rfl (lv_at hl 0 rfl) ?_
    refine lv_iconst (v := 4) hx hb dX3_readsSize_11 (by decide) ?_
    refine lv_icmp_le (tgt := 17) hx hb dX3_readsSize_12 (by decide) (fun c12 => ?_) (fun c12 => ?_)
    · replace hf := k_ifT c12 hf
      refine lv_aload_n hx hb dX3_readsSize_17 rfl (lv_at hl 1 rfl) ?_
      refine va_get (D := D) (ci := 3) (v := .ref h_draft) (C := RX3) (T := TX3) (N := 4) hx hb hts inlX3 hown hK hP 0 rfl rfl 0 (by decide) (hts _ m_51) (fun _ h9 => h9) rfl dX3_readsSize_18 ?_
      refine lv_iload_n hx hb dX3_readsSize_21 rfl (lv_at hl 0 rfl) ?_
      refine va_put (D := D) (ci := 2) (v := .int (x1 - 48)) (ty := .int) (C := RX2) (T := TX2) (N := 5) hx hb hts inlX2 tyX2 tyX2_ok nmX2 hown hK hP hD hS 1 rfl rfl 1 (by decide) (hts _ m_195) (fun _ h9 => h9) rfl (by decide +kernel) rfl rfl (Nat.le_of_ble_eq_true rfl) dX3_readsSize_22 (fun H locs hP hD hS => ?_)
      have hP : va_P D vwCl [(h_this, o_X3 h_draft v_place v_from v_leastWorld), (h_draft, o_X2 v_draft_kind (x1 - 48) v_draft_arrows v_draft_p v_draft_q)] H := hP
      have hD : va_D A [(h_this, o_X3 h_draft v_place v_from v_leastWorld), (h_draft, o_X2 v_draft_kind (x1 - 48) v_draft_arrows v_draft_p v_draft_q)] := hD
      refine lv_aload_n hx hb dX3_readsSize_25 rfl (lv_at hl 1 rfl) ?_
      refine lv_iconst (v := 2) hx hb dX3_readsSize_26 (by decide) ?_
      refine va_put (D := D) (ci := 3) (v := .int 2) (ty := .int) (C := RX3) (T := TX3) (N := 4) hx hb hts inlX3 tyX3 tyX3_ok nmX3 hown hK hP hD hS 0 rfl rfl 1 (by decide) (hts _ m_153) (fun _ h9 => h9) rfl (by decide +kernel) rfl rfl (Nat.le_of_ble_eq_true rfl) dX3_readsSize_27 (fun H locs hP hD hS => ?_)
      have hP : va_P D vwCl [(h_this, o_X3 h_draft 2 v_from v_leastWorld), (h_draft, o_X2 v_draft_kind (x1 - 48) v_draft_arrows v_draft_p v_draft_q)] H := hP
      have hD : va_D A [(h_this, o_X3 h_draft 2 v_from v_leastWorld), (h_draft, o_X2 v_draft_kind (x1 - 48) v_draft_arrows v_draft_p v_draft_q)] := hD
      refine lv_iconst (v := 1) hx hb dX3_readsSize_30 (by decide) ?_
      subst hf
      exact k_zret (r := 1) hx hb hr rfl hlocks hAe hS hP hD dX3_readsSize_31
    · replace hf := k_ifF c12 hf
      refine lv_iconst (v := 0) hx hb dX3_readsSize_15 (by decide) ?_
      subst hf
      exact k_zret (r := 0) hx hb hr rfl hlocks hAe hS hP hD dX3_readsSize_16
set_option maxHeartbeats 4000000 in
set_option maxRecDepth 100000 in
theorem k_X3_kindOf (l : Launch) (D : va_G) (cB cI cJ cZ : ClassId) (tL tK : Nat) (sz : Nat)  (x1 : Int32) (q : Int32) (hf : f_X3_kindOf x1 = q) : Met l yX3_kindOf (.code yX3_kindOf cX3_kindOf 1 (some .int) :: k_all) { frames := 0, cells := 0, slots := 0, locals := 0 } (k_P D cB cI cJ cZ tL tK [.int x1] [] sz) (k_I D q [] [] sz) 0 0 (va_A [] sz) := by
  unfold f_X3_kindOf at hf
  refine k_met RX3 rfl (by decide +kernel) (Nat.le_of_ble_eq_true rfl) ?_
  intro p e s m below meth c A ls hx hb hr hml hown hts hlocks hin hsz hAe hA hK hN hZ hD hS hP hl
  have hl : lv_has ls 1 [(0, .int x1)] := hl
  refine lv_iload_n hx hb dX3_kindOf_0 rfl (lv_at hl 0 rfl) ?_
  by_cases c1_100 : x1 = 100
  · replace hf := k_ifT c1_100 hf
    refine lv_lookup (tgt := 60) (off := 59) hx hb dX3_kindOf_1 (by decide) (by rw [c1_100]; rfl) (by decide) ?_
    refine lv_iconst (v := 4) hx hb dX3_kindOf_60 (by decide) ?_
    subst hf
    exact k_iret hx hb hr hlocks hAe hS hP hD dX3_kindOf_61
  · replace hf := k_ifF c1_100 hf
    by_cases c1_107 : x1 = 107
    · replace hf := k_ifT c1_107 hf
      refine lv_lookup (tgt := 52) (off := 51) hx hb dX3_kindOf_1 (by decide) (by rw [c1_107]; rfl) (by decide) ?_
      refine lv_iconst (v := 0) hx hb dX3_kindOf_52 (by decide) ?_
      subst hf
      exact k_iret hx hb hr hlocks hAe hS hP hD dX3_kindOf_53
    · replace hf := k_ifF c1_107 hf
      by_cases c1_115 : x1 = 115
      · replace hf := k_ifT c1_115 hf
        refine lv_lookup (tgt := 56) (off := 55) hx hb dX3_kindOf_1 (by decide) (by rw [c1_115]; rfl) (by decide) ?_
        refine lv_iconst (v := 2) hx hb dX3_kindOf_56 (by decide) ?_
        subst hf
        exact k_iret hx hb hr hlocks hAe hS hP hD dX3_kindOf_57
      · replace hf := k_ifF c1_115 hf
        by_cases c1_116 : x1 = 116
        · replace hf := k_ifT c1_116 hf
          refine lv_lookup (tgt := 54) (off := 53) hx hb dX3_kindOf_1 (by decide) (by rw [c1_116]; rfl) (by decide) ?_
          refine lv_iconst (v := 1) hx hb dX3_kindOf_54 (by decide) ?_
          subst hf
          exact k_iret hx hb hr hlocks hAe hS hP hD dX3_kindOf_55
        · replace hf := k_ifF c1_116 hf
          by_cases c1_121 : x1 = 121
          · replace hf := k_ifT c1_121 hf
            refine lv_lookup (tgt := 58) (off := 57) hx hb dX3_kindOf_1 (by decide) (by rw [c1_121]; rfl) (by decide) ?_
            refine lv_iconst (v := 3) hx hb dX3_kindOf_58 (by decide) ?_
            subst hf
            exact k_iret hx hb hr hlocks hAe hS hP hD dX3_kindOf_59
          · replace hf := k_ifF c1_121 hf
            refine lv_lookup (tgt := 62) (off := 61) hx hb dX3_kindOf_1 (by decide) (by rw [lv_osw c1_100 (show (100 : Int32).toInt = 100 by decide)]; rw [lv_osw c1_107 (show (107 : Int32).toInt = 107 by decide)]; rw [lv_osw c1_115 (show (115 : Int32).toInt = 115 by decide)]; rw [lv_osw c1_116 (show (116 : Int32).toInt = 116 by decide)]; rw [lv_osw c1_121 (show (121 : Int32).toInt = 121 by decide)]; rfl) (by decide) ?_
            refine lv_iconst (v := (-1)) hx hb dX3_kindOf_62 (by decide) ?_
            subst hf
            exact k_iret hx hb hr hlocks hAe hS hP hD dX3_kindOf_63
set_option maxHeartbeats 4000000 in
set_option maxRecDepth 100000 in
theorem k_X3_readsKind (l : Launch) (D : va_G) (cB cI cJ cZ : ClassId) (tL tK : Nat) (h_this h_draft : Nat) (sz : Nat) (v_place : Int32) (v_from : Int32) (v_leastWorld : Int32) (v_draft_kind : Int32) (v_draft_worlds : Int32) (v_draft_arrows : Int32) (v_draft_p : Int32) (v_draft_q : Int32) (x1 : Int32) (q : Int32 × Int32 × Int32) (hf : f_X3_readsKind v_place v_draft_kind x1 = q) : Met l yX3_readsKind (.code yX3_readsKind cX3_readsKind 3 (some .boolean) :: k_all) { frames := 1, cells := 0, slots := 0, locals := 20 } (k_P D cB cI cJ cZ tL tK [.ref h_this, .int x1] [(h_this, o_X3 h_draft v_place v_from v_leastWorld), (h_draft, o_X2 v_draft_kind v_draft_worlds v_draft_arrows v_draft_p v_draft_q)] sz) (k_I D q.1 [(h_this, o_X3 h_draft v_place v_from v_leastWorld), (h_draft, o_X2 v_draft_kind v_draft_worlds v_draft_arrows v_draft_p v_draft_q)] [(h_this, o_X3 h_draft q.2.1 v_from v_leastWorld), (h_draft, o_X2 q.2.2 v_draft_worlds v_draft_arrows v_draft_p v_draft_q)] sz) 0 0 (va_A [(h_this, o_X3 h_draft v_place v_from v_leastWorld), (h_draft, o_X2 v_draft_kind v_draft_worlds v_draft_arrows v_draft_p v_draft_q)] sz) := by
  unfold f_X3_readsKind at hf
  refine k_met RX3 rfl (by decide +kernel) (Nat.le_of_ble_eq_true rfl) ?_
  intro p e s m below meth c A ls hx hb hr hml hown hts hlocks hin hsz hAe hA hK hN hZ hD hS hP hl
  have hl : lv_has ls 3 [(0, .ref h_this), (1, .int x1)] := hl
  refine lv_iload_n hx hb dX3_readsKind_0 rfl (lv_at hl 1 rfl) ?_
  refine k_calli (wN := [(h_this, o_X3 h_draft v_place v_from v_leastWorld), (h_draft, o_X2 v_draft_kind v_draft_worlds v_draft_arrows v_draft_p v_draft_q)]) [] [0, 1] [0, 1] hP hD hS hA (va_runS (As := [.int x1]) (rest := []) ⟨hx, hb, hml, hown, hts⟩ (k_X3_kindOf l D cB cI cJ cZ tL tK _ x1 (f_X3_kindOf x1) rfl) (va_cwS 1 hts (k_gS m_190 m_188 m_189 m_18) rfl rfl rfl (by decide +kernel) ⟨Nat.le_of_ble_eq_true rfl, Nat.le_of_ble_eq_true rfl⟩) (k_preS [] hK hN hZ hP hD hS hA rfl rfl) rfl rfl hl.1 rfl (lv_room (Nat.le_of_ble_eq_true rfl)) dX3_readsKind_1 ⟨Nat.le_refl _, Nat.le_refl _⟩) rfl rfl rfl rfl rfl (fun H locs hP hD hS => ?_)
  refine lv_istore_n (lv' := [(2, .int (f_X3_kindOf x1)), (0, .ref h_this), (1, .int x1)]) hx hb dX3_readsKind_4 rfl hl (by decide) rfl (fun ls hl => ?_)
  refine lv_iload_n hx hb dX3_readsKind_5 rfl (lv_at hl 0 rfl) ?_
  refine lv_iconst (v := (-1)) hx hb dX3_readsKind_6 (by decide) ?_
  refine lv_icmp_ne (tgt := 12) hx hb dX3_readsKind_7 (by decide) (fun c7 => ?_) (fun c7 => ?_)
  · replace hf := k_ifF c7 hf
    refine lv_aload_n hx hb dX3_readsKind_12 rfl (lv_at hl 1 rfl) ?_
    refine va_get (D := D) (ci := 3) (v := .ref h_draft) (C := RX3) (T := TX3) (N := 4) hx hb hts inlX3 hown hK hP 0 rfl rfl 0 (by decide) (hts _ m_51) (fun _ h9 => h9) rfl dX3_readsKind_13 ?_
    refine lv_iload_n hx hb dX3_readsKind_16 rfl (lv_at hl 0 rfl) ?_
    refine va_put (D := D) (ci := 2) (v := .int (f_X3_kindOf x1)) (ty := .int) (C := RX2) (T := TX2) (N := 5) hx hb hts inlX2 tyX2 tyX2_ok nmX2 hown hK hP hD hS 1 rfl rfl 0 (by decide) (hts _ m_187) (fun _ h9 => h9) rfl (by decide +kernel) rfl rfl (Nat.le_of_ble_eq_true rfl) dX3_readsKind_17 (fun H locs hP hD hS => ?_)
    have hP : va_P D vwCl [(h_this, o_X3 h_draft v_place v_from v_leastWorld), (h_draft, o_X2 (f_X3_kindOf x1) v_draft_worlds v_draft_arrows v_draft_p v_draft_q)] H := hP
    have hD : va_D A [(h_this, o_X3 h_draft v_place v_from v_leastWorld), (h_draft, o_X2 (f_X3_kindOf x1) v_draft_worlds v_draft_arrows v_draft_p v_draft_q)] := hD
    refine lv_aload_n hx hb dX3_readsKind_20 rfl (lv_at hl 1 rfl) ?_
    refine lv_iconst (v := 1) hx hb dX3_readsKind_21 (by decide) ?_
    refine va_put (D := D) (ci := 3) (v := .int 1) (ty := .int) (C := RX3) (T := TX3) (N := 4) hx hb hts inlX3 tyX3 tyX3_ok nmX3 hown hK hP hD hS 0 rfl rfl 1 (by decide) (hts _ m_153) (fun _ h9 => h9) rfl (by decide +kernel) rfl rfl (Nat.le_of_ble_eq_true rfl) dX3_readsKind_22 (fun H locs hP hD hS => ?_)
    have hP : va_P D vwCl [(h_this, o_X3 h_draft 1 v_from v_leastWorld), (h_draft, o_X2 (f_X3_kindOf x1) v_draft_worlds v_draft_arrows v_draft_p v_draft_q)] H := hP
    have hD : va_D A [(h_this, o_X3 h_draft 1 v_from v_leastWorld), (h_draft, o_X2 (f_X3_kindOf x1) v_draft_worlds v_draft_arrows v_draft_p v_draft_q)] := hD
    refine lv_iconst (v := 1) hx hb dX3_readsKind_25 (by decide) ?_
    subst hf
    exact k_zret (r := 1) hx hb hr rfl hlocks hAe hS hP hD dX3_readsKind_26
  · replace hf := k_ifT c7 hf
    refine lv_iconst (v := 0) hx hb dX3_readsKind_10 (by decide) ?_
    subst hf
    exact k_zret (r := 0) hx hb hr rfl hlocks hAe hS hP hD dX3_readsKind_11
set_option maxHeartbeats 4000000 in
set_option maxRecDepth 100000 in
theorem k_X3_reads (l : Launch) (D : va_G) (cB cI cJ cZ : ClassId) (tL tK : Nat) (h_this h_draft : Nat) (sz : Nat) (v_place : Int32) (v_from : Int32) (v_leastWorld : Int32) (v_draft_kind : Int32) (v_draft_worlds : Int32) (v_draft_arrows : Int32) (v_draft_p : Int32) (v_draft_q : Int32) (x1 : Int32) (q : Int32 × Int32 × Int32 × Int32 × Int32 × Int32 × Int32 × Int32 × Int32) (hf : f_X3_reads v_place v_from v_leastWorld v_draft_kind v_draft_worlds v_draft_arrows v_draft_p v_draft_q x1 = some q) : Met l yX3_reads (.code yX3_reads cX3_reads 2 (some .boolean) :: k_all) { frames := 3, cells := 0, slots := 0, locals := 66 } (k_P D cB cI cJ cZ tL tK [.ref h_this, .int x1] [(h_this, o_X3 h_draft v_place v_from v_leastWorld), (h_draft, o_X2 v_draft_kind v_draft_worlds v_draft_arrows v_draft_p v_draft_q)] sz) (k_I D q.1 [(h_this, o_X3 h_draft v_place v_from v_leastWorld), (h_draft, o_X2 v_draft_kind v_draft_worlds v_draft_arrows v_draft_p v_draft_q)] [(h_this, o_X3 h_draft q.2.1 q.2.2.1 q.2.2.2.1), (h_draft, o_X2 q.2.2.2.2.1 q.2.2.2.2.2.1 q.2.2.2.2.2.2.1 q.2.2.2.2.2.2.2.1 q.2.2.2.2.2.2.2.2)] sz) 0 0 (va_A [(h_this, o_X3 h_draft v_place v_from v_leastWorld), (h_draft, o_X2 v_draft_kind v_draft_worlds v_draft_arrows v_draft_p v_draft_q)] sz) := by
  unfold f_X3_reads at hf
  refine k_met RX3 rfl (by decide +kernel) (Nat.le_of_ble_eq_true rfl) ?_
  intro p e s m below meth c A ls hx hb hr hml hown hts hlocks hin hsz hAe hA hK hN hZ hD hS hP hl
  have hl : lv_has ls 2 [(0, .ref h_this), (1, .int x1)] := hl
  refine lv_aload_n hx hb dX3_reads_0 rfl (lv_at hl 0 rfl) ?_
  refine va_get (D := D) (ci := 3) (v := .int v_place) (C := RX3) (T := TX3) (N := 4) hx hb hts inlX3 hown hK hP 0 rfl rfl 1 (by decide) (hts _ m_153) (fun _ h9 => h9) rfl dX3_reads_1 ?_
  by_cases c4_0 : v_place = 0
  · replace hf := k_ifT c4_0 hf
    refine lv_tableIn (tgt := 56) hx hb dX3_reads_4 (by rw [c4_0]; decide) (by rw [c4_0]; decide) (by rw [c4_0]; rfl) (by decide) ?_
    refine lv_aload_n hx hb dX3_reads_56 rfl (lv_at hl 0 rfl) ?_
    refine lv_iload_n hx hb dX3_reads_57 rfl (lv_at hl 1 rfl) ?_
    obtain ⟨q58, hq58, hf⟩ := k_let_ex hf
    refine k_calli (wN := [(h_this, o_X3 h_draft q58.2.1 v_from v_leastWorld), (h_draft, o_X2 q58.2.2 v_draft_worlds v_draft_arrows v_draft_p v_draft_q)]) [0, 1] [] [0, 1] hP hD hS hA (va_runV (As := [.int x1]) (rest := []) ⟨hx, hb, hml, hown, hts⟩ (k_X3_readsKind l D cB cI cJ cZ tL tK h_this h_draft _ v_place v_from v_leastWorld v_draft_kind v_draft_worlds v_draft_arrows v_draft_p v_draft_q x1 q58 hq58) (cwV 1 hts (k_gV m_186 m_183 m_184 m_185 m_18) rfl rfl rfl (by decide +kernel) ⟨Nat.le_of_ble_eq_true rfl, Nat.le_of_ble_eq_true rfl⟩) (k_preV [0, 1] hK hN hZ hP hD hS hA rfl rfl (va_recv hK hP (ci := 3) (q0 := 0) rfl rfl)) rfl rfl hl.1 rfl (lv_room (Nat.le_of_ble_eq_true rfl)) dX3_reads_58 ⟨Nat.le_refl _, Nat.le_refl _⟩) rfl rfl rfl rfl rfl (fun H locs hP hD hS => ?_)
    obtain ⟨hbl, hf⟩ := k_bl_some hf
    cases hf
    exact k_zret hx hb hr (k_bn hbl) hlocks hAe hS hP hD dX3_reads_61
  · replace hf := k_ifF c4_0 hf
    by_cases c4_1 : v_place = 1
    · replace hf := k_ifT c4_1 hf
      refine lv_tableIn (tgt := 62) hx hb dX3_reads_4 (by rw [c4_1]; decide) (by rw [c4_1]; decide) (by rw [c4_1]; rfl) (by decide) ?_
      refine lv_aload_n hx hb dX3_reads_62 rfl (lv_at hl 0 rfl) ?_
      refine lv_iload_n hx hb dX3_reads_63 rfl (lv_at hl 1 rfl) ?_
      obtain ⟨q64, hq64, hf⟩ := k_let_ex hf
      refine k_calli (wN := [(h_this, o_X3 h_draft q64.2.1 v_from v_leastWorld), (h_draft, o_X2 v_draft_kind q64.2.2 v_draft_arrows v_draft_p v_draft_q)]) [0, 1] [] [0, 1] hP hD hS hA (va_runV (As := [.int x1]) (rest := []) ⟨hx, hb, hml, hown, hts⟩ (k_X3_readsSize l D cB cI cJ cZ tL tK h_this h_draft _ v_place v_from v_leastWorld v_draft_kind v_draft_worlds v_draft_arrows v_draft_p v_draft_q x1 q64 hq64) (cwV 1 hts (k_gV m_194 m_191 m_192 m_193 m_18) rfl rfl rfl (by decide +kernel) ⟨Nat.le_of_ble_eq_true rfl, Nat.le_of_ble_eq_true rfl⟩) (k_preV [0, 1] hK hN hZ hP hD hS hA rfl rfl (va_recv hK hP (ci := 3) (q0 := 0) rfl rfl)) rfl rfl hl.1 rfl (lv_room (Nat.le_of_ble_eq_true rfl)) dX3_reads_64 ⟨Nat.le_refl _, Nat.le_refl _⟩) rfl rfl rfl rfl rfl (fun H locs hP hD hS => ?_)
      obtain ⟨hbl, hf⟩ := k_bl_some hf
      cases hf
      exact k_zret hx hb hr (k_bn hbl) hlocks hAe hS hP hD dX3_reads_67
    · replace hf := k_ifF c4_1 hf
      by_cases c4_2 : v_place = 2
      · replace hf := k_ifT c4_2 hf
        refine lv_tableIn (tgt := 68) hx hb dX3_reads_4 (by rw [c4_2]; decide) (by rw [c4_2]; decide) (by rw [c4_2]; rfl) (by decide) ?_
        refine lv_aload_n hx hb dX3_reads_68 rfl (lv_at hl 0 rfl) ?_
        refine lv_iload_n hx hb dX3_reads_69 rfl (lv_at hl 1 rfl) ?_
        refine lv_bipush (v := 58) hx hb dX3_reads_70 (by decide) ?_
        refine lv_iconst (v := 3) hx hb dX3_reads_72 (by decide) ?_
        obtain ⟨q73, hq73, hf⟩ := k_let_ex hf
        refine k_calli (wN := [(h_this, o_X3 h_draft q73.2.1 v_from q73.2.2), (h_draft, o_X2 v_draft_kind v_draft_worlds v_draft_arrows v_draft_p v_draft_q)]) [0] [1] [1, 0] hP hD hS hA (va_runV (As := [.int x1, .int 58, .int 3]) (rest := []) ⟨hx, hb, hml, hown, hts⟩ (k_X3_readsSign l D cB cI cJ cZ tL tK h_this h_draft _ v_place v_from v_leastWorld x1 58 3 q73 hq73) (cwV 3 hts (k_gV m_199 m_196 m_197 m_198 m_18) rfl rfl rfl (by decide +kernel) ⟨Nat.le_of_ble_eq_true rfl, Nat.le_of_ble_eq_true rfl⟩) (k_preV [0] hK hN hZ hP hD hS hA rfl rfl (va_recv hK hP (ci := 3) (q0 := 0) rfl rfl)) rfl rfl hl.1 rfl (lv_room (Nat.le_of_ble_eq_true rfl)) dX3_reads_73 ⟨Nat.le_refl _, Nat.le_refl _⟩) rfl rfl rfl rfl rfl (fun H locs hP hD hS => ?_)
        obtain ⟨hbl, hf⟩ := k_bl_some hf
        cases hf
        exact k_zret hx hb hr (k_bn hbl) hlocks hAe hS hP hD dX3_reads_76
      · replace hf := k_ifF c4_2 hf
        by_cases c4_3 : v_place = 3
        · replace hf := k_ifT c4_3 hf
          refine lv_tableIn (tgt := 77) hx hb dX3_reads_4 (by rw [c4_3]; decide) (by rw [c4_3]; decide) (by rw [c4_3]; rfl) (by decide) ?_
          refine lv_aload_n hx hb dX3_reads_77 rfl (lv_at hl 0 rfl) ?_
          refine lv_iload_n hx hb dX3_reads_78 rfl (lv_at hl 1 rfl) ?_
          obtain ⟨q79, hq79, hf⟩ := k_let_ex hf
          refine k_calli (wN := [(h_this, o_X3 h_draft q79.2.1 q79.2.2 v_leastWorld), (h_draft, o_X2 v_draft_kind v_draft_worlds v_draft_arrows v_draft_p v_draft_q)]) [0, 1] [] [0, 1] hP hD hS hA (va_runV (As := [.int x1]) (rest := []) ⟨hx, hb, hml, hown, hts⟩ (k_X3_readsFrom l D cB cI cJ cZ tL tK h_this h_draft _ v_place v_from v_leastWorld v_draft_kind v_draft_worlds v_draft_arrows v_draft_p v_draft_q x1 q79 hq79) (cwV 1 hts (k_gV m_204 m_201 m_202 m_203 m_18) rfl rfl rfl (by decide +kernel) ⟨Nat.le_of_ble_eq_true rfl, Nat.le_of_ble_eq_true rfl⟩) (k_preV [0, 1] hK hN hZ hP hD hS hA rfl rfl (va_recv hK hP (ci := 3) (q0 := 0) rfl rfl)) rfl rfl hl.1 rfl (lv_room (Nat.le_of_ble_eq_true rfl)) dX3_reads_79 ⟨Nat.le_refl _, Nat.le_refl _⟩) rfl rfl rfl rfl rfl (fun H locs hP hD hS => ?_)
          refine lv_if_ne (tgt := 97) hx hb dX3_reads_82 (by decide) (fun c82 => ?_) (fun c82 => ?_)
          · replace hf := k_ifF c82 hf
            refine lv_iconst (v := 1) hx hb dX3_reads_97 (by decide) ?_
            refine lv_goto (tgt := 102) hx hb dX3_reads_98 (by decide) ?_
            cases hf
            exact k_zret (r := 1) hx hb hr rfl hlocks hAe hS hP hD dX3_reads_102
          · replace hf := k_ifT c82 hf
            refine lv_aload_n hx hb dX3_reads_85 rfl (lv_at hl 0 rfl) ?_
            refine lv_iload_n hx hb dX3_reads_86 rfl (lv_at hl 1 rfl) ?_
            refine lv_bipush (v := 59) hx hb dX3_reads_87 (by decide) ?_
            refine lv_bipush (v := 7) hx hb dX3_reads_89 (by decide) ?_
            obtain ⟨q91, hq91, hf⟩ := k_let_ex hf
            refine k_calli (wN := [(h_this, o_X3 h_draft q91.2.1 q79.2.2 q91.2.2), (h_draft, o_X2 v_draft_kind v_draft_worlds v_draft_arrows v_draft_p v_draft_q)]) [0] [1] [1, 0] hP hD hS hA (va_runV (As := [.int x1, .int 59, .int 7]) (rest := []) ⟨hx, hb, hml, hown, hts⟩ (k_X3_readsSign l D cB cI cJ cZ tL tK h_this h_draft _ q79.2.1 q79.2.2 v_leastWorld x1 59 7 q91 hq91) (cwV 3 hts (k_gV m_199 m_196 m_197 m_198 m_18) rfl rfl rfl (by decide +kernel) ⟨Nat.le_of_ble_eq_true rfl, Nat.le_of_ble_eq_true rfl⟩) (k_preV [0] hK hN hZ hP hD hS hA rfl rfl (va_recv hK hP (ci := 3) (q0 := 0) rfl rfl)) rfl rfl hl.1 rfl (lv_room (Nat.le_of_ble_eq_true rfl)) dX3_reads_91 ⟨Nat.le_refl _, Nat.le_refl _⟩) rfl rfl rfl rfl rfl (fun H locs hP hD hS => ?_)
            refine lv_if_eq (tgt := 101) hx hb dX3_reads_94 (by decide) (fun c94 => ?_) (fun c94 => ?_)
            · replace hf := k_ifT c94 hf
              refine lv_iconst (v := 0) hx hb dX3_reads_101 (by decide) ?_
              cases hf
              exact k_zret (r := 0) hx hb hr rfl hlocks hAe hS hP hD dX3_reads_102
            · replace hf := k_ifF c94 hf
              refine lv_iconst (v := 1) hx hb dX3_reads_97 (by decide) ?_
              refine lv_goto (tgt := 102) hx hb dX3_reads_98 (by decide) ?_
              cases hf
              exact k_zret (r := 1) hx hb hr rfl hlocks hAe hS hP hD dX3_reads_102
        · replace hf := k_ifF c4_3 hf
          by_cases c4_4 : v_place = 4
          · replace hf := k_ifT c4_4 hf
            refine lv_tableIn (tgt := 103) hx hb dX3_reads_4 (by rw [c4_4]; decide) (by rw [c4_4]; decide) (by rw [c4_4]; rfl) (by decide) ?_
            refine lv_aload_n hx hb dX3_reads_103 rfl (lv_at hl 0 rfl) ?_
            refine lv_iload_n hx hb dX3_reads_104 rfl (lv_at hl 1 rfl) ?_
            obtain ⟨q105, hq105, hf⟩ := k_let_ex hf
            refine k_calli (wN := [(h_this, o_X3 h_draft q105.2.1 q105.2.2 v_leastWorld), (h_draft, o_X2 v_draft_kind v_draft_worlds v_draft_arrows v_draft_p v_draft_q)]) [0, 1] [] [0, 1] hP hD hS hA (va_runV (As := [.int x1]) (rest := []) ⟨hx, hb, hml, hown, hts⟩ (k_X3_readsFrom l D cB cI cJ cZ tL tK h_this h_draft _ v_place v_from v_leastWorld v_draft_kind v_draft_worlds v_draft_arrows v_draft_p v_draft_q x1 q105 hq105) (cwV 1 hts (k_gV m_204 m_201 m_202 m_203 m_18) rfl rfl rfl (by decide +kernel) ⟨Nat.le_of_ble_eq_true rfl, Nat.le_of_ble_eq_true rfl⟩) (k_preV [0, 1] hK hN hZ hP hD hS hA rfl rfl (va_recv hK hP (ci := 3) (q0 := 0) rfl rfl)) rfl rfl hl.1 rfl (lv_room (Nat.le_of_ble_eq_true rfl)) dX3_reads_105 ⟨Nat.le_refl _, Nat.le_refl _⟩) rfl rfl rfl rfl rfl (fun H locs hP hD hS => ?_)
            obtain ⟨hbl, hf⟩ := k_bl_some hf
            cases hf
            exact k_zret hx hb hr (k_bn hbl) hlocks hAe hS hP hD dX3_reads_108
          · replace hf := k_ifF c4_4 hf
            by_cases c4_5 : v_place = 5
            · replace hf := k_ifT c4_5 hf
              refine lv_tableIn (tgt := 109) hx hb dX3_reads_4 (by rw [c4_5]; decide) (by rw [c4_5]; decide) (by rw [c4_5]; rfl) (by decide) ?_
              refine lv_aload_n hx hb dX3_reads_109 rfl (lv_at hl 0 rfl) ?_
              refine lv_iload_n hx hb dX3_reads_110 rfl (lv_at hl 1 rfl) ?_
              obtain ⟨q111, hq111, hf⟩ := k_let_ex hf
              refine k_calli (wN := [(h_this, o_X3 h_draft q111.2.1 v_from v_leastWorld), (h_draft, o_X2 v_draft_kind v_draft_worlds q111.2.2 v_draft_p v_draft_q)]) [0, 1] [] [0, 1] hP hD hS hA (va_runV (As := [.int x1]) (rest := []) ⟨hx, hb, hml, hown, hts⟩ (k_X3_readsTo l D cB cI cJ cZ tL tK h_this h_draft _ v_place v_from v_leastWorld v_draft_kind v_draft_worlds v_draft_arrows v_draft_p v_draft_q x1 q111 hq111) (cwV 1 hts (k_gV m_209 m_206 m_207 m_208 m_18) rfl rfl rfl (by decide +kernel) ⟨Nat.le_of_ble_eq_true rfl, Nat.le_of_ble_eq_true rfl⟩) (k_preV [0, 1] hK hN hZ hP hD hS hA rfl rfl (va_recv hK hP (ci := 3) (q0 := 0) rfl rfl)) rfl rfl hl.1 rfl (lv_room (Nat.le_of_ble_eq_true rfl)) dX3_reads_111 ⟨Nat.le_refl _, Nat.le_refl _⟩) rfl rfl rfl rfl rfl (fun H locs hP hD hS => ?_)
              obtain ⟨hbl, hf⟩ := k_bl_some hf
              cases hf
              exact k_zret hx hb hr (k_bn hbl) hlocks hAe hS hP hD dX3_reads_114
            · replace hf := k_ifF c4_5 hf
              by_cases c4_6 : v_place = 6
              · replace hf := k_ifT c4_6 hf
                refine lv_tableIn (tgt := 115) hx hb dX3_reads_4 (by rw [c4_6]; decide) (by rw [c4_6]; decide) (by rw [c4_6]; rfl) (by decide) ?_
                refine lv_aload_n hx hb dX3_reads_115 rfl (lv_at hl 0 rfl) ?_
                refine lv_iload_n hx hb dX3_reads_116 rfl (lv_at hl 1 rfl) ?_
                refine lv_bipush (v := 44) hx hb dX3_reads_117 (by decide) ?_
                refine lv_iconst (v := 4) hx hb dX3_reads_119 (by decide) ?_
                obtain ⟨q120, hq120, hf⟩ := k_let_ex hf
                refine k_calli (wN := [(h_this, o_X3 h_draft q120.2.1 v_from q120.2.2), (h_draft, o_X2 v_draft_kind v_draft_worlds v_draft_arrows v_draft_p v_draft_q)]) [0] [1] [1, 0] hP hD hS hA (va_runV (As := [.int x1, .int 44, .int 4]) (rest := []) ⟨hx, hb, hml, hown, hts⟩ (k_X3_readsSign l D cB cI cJ cZ tL tK h_this h_draft _ v_place v_from v_leastWorld x1 44 4 q120 hq120) (cwV 3 hts (k_gV m_199 m_196 m_197 m_198 m_18) rfl rfl rfl (by decide +kernel) ⟨Nat.le_of_ble_eq_true rfl, Nat.le_of_ble_eq_true rfl⟩) (k_preV [0] hK hN hZ hP hD hS hA rfl rfl (va_recv hK hP (ci := 3) (q0 := 0) rfl rfl)) rfl rfl hl.1 rfl (lv_room (Nat.le_of_ble_eq_true rfl)) dX3_reads_120 ⟨Nat.le_refl _, Nat.le_refl _⟩) rfl rfl rfl rfl rfl (fun H locs hP hD hS => ?_)
                refine lv_if_ne (tgt := 138) hx hb dX3_reads_123 (by decide) (fun c123 => ?_) (fun c123 => ?_)
                · replace hf := k_ifF c123 hf
                  refine lv_iconst (v := 1) hx hb dX3_reads_138 (by decide) ?_
                  refine lv_goto (tgt := 143) hx hb dX3_reads_139 (by decide) ?_
                  cases hf
                  exact k_zret (r := 1) hx hb hr rfl hlocks hAe hS hP hD dX3_reads_143
                · replace hf := k_ifT c123 hf
                  refine lv_aload_n hx hb dX3_reads_126 rfl (lv_at hl 0 rfl) ?_
                  refine lv_iload_n hx hb dX3_reads_127 rfl (lv_at hl 1 rfl) ?_
                  refine lv_bipush (v := 59) hx hb dX3_reads_128 (by decide) ?_
                  refine lv_bipush (v := 7) hx hb dX3_reads_130 (by decide) ?_
                  obtain ⟨q132, hq132, hf⟩ := k_let_ex hf
                  refine k_calli (wN := [(h_this, o_X3 h_draft q132.2.1 v_from q132.2.2), (h_draft, o_X2 v_draft_kind v_draft_worlds v_draft_arrows v_draft_p v_draft_q)]) [0] [1] [1, 0] hP hD hS hA (va_runV (As := [.int x1, .int 59, .int 7]) (rest := []) ⟨hx, hb, hml, hown, hts⟩ (k_X3_readsSign l D cB cI cJ cZ tL tK h_this h_draft _ q120.2.1 v_from q120.2.2 x1 59 7 q132 hq132) (cwV 3 hts (k_gV m_199 m_196 m_197 m_198 m_18) rfl rfl rfl (by decide +kernel) ⟨Nat.le_of_ble_eq_true rfl, Nat.le_of_ble_eq_true rfl⟩) (k_preV [0] hK hN hZ hP hD hS hA rfl rfl (va_recv hK hP (ci := 3) (q0 := 0) rfl rfl)) rfl rfl hl.1 rfl (lv_room (Nat.le_of_ble_eq_true rfl)) dX3_reads_132 ⟨Nat.le_refl _, Nat.le_refl _⟩) rfl rfl rfl rfl rfl (fun H locs hP hD hS => ?_)
                  refine lv_if_eq (tgt := 142) hx hb dX3_reads_135 (by decide) (fun c135 => ?_) (fun c135 => ?_)
                  · replace hf := k_ifT c135 hf
                    refine lv_iconst (v := 0) hx hb dX3_reads_142 (by decide) ?_
                    cases hf
                    exact k_zret (r := 0) hx hb hr rfl hlocks hAe hS hP hD dX3_reads_143
                  · replace hf := k_ifF c135 hf
                    refine lv_iconst (v := 1) hx hb dX3_reads_138 (by decide) ?_
                    refine lv_goto (tgt := 143) hx hb dX3_reads_139 (by decide) ?_
                    cases hf
                    exact k_zret (r := 1) hx hb hr rfl hlocks hAe hS hP hD dX3_reads_143
              · replace hf := k_ifF c4_6 hf
                by_cases c4_7 : v_place = 7
                · replace hf := k_ifT c4_7 hf
                  refine lv_tableIn (tgt := 144) hx hb dX3_reads_4 (by rw [c4_7]; decide) (by rw [c4_7]; decide) (by rw [c4_7]; rfl) (by decide) ?_
                  refine lv_aload_n hx hb dX3_reads_144 rfl (lv_at hl 0 rfl) ?_
                  refine lv_iload_n hx hb dX3_reads_145 rfl (lv_at hl 1 rfl) ?_
                  refine lv_bipush (v := 112) hx hb dX3_reads_146 (by decide) ?_
                  refine lv_bipush (v := 8) hx hb dX3_reads_148 (by decide) ?_
                  obtain ⟨q150, hq150, hf⟩ := k_let_ex hf
                  refine k_calli (wN := [(h_this, o_X3 h_draft q150.2.1 v_from q150.2.2), (h_draft, o_X2 v_draft_kind v_draft_worlds v_draft_arrows v_draft_p v_draft_q)]) [0] [1] [1, 0] hP hD hS hA (va_runV (As := [.int x1, .int 112, .int 8]) (rest := []) ⟨hx, hb, hml, hown, hts⟩ (k_X3_readsSign l D cB cI cJ cZ tL tK h_this h_draft _ v_place v_from v_leastWorld x1 112 8 q150 hq150) (cwV 3 hts (k_gV m_199 m_196 m_197 m_198 m_18) rfl rfl rfl (by decide +kernel) ⟨Nat.le_of_ble_eq_true rfl, Nat.le_of_ble_eq_true rfl⟩) (k_preV [0] hK hN hZ hP hD hS hA rfl rfl (va_recv hK hP (ci := 3) (q0 := 0) rfl rfl)) rfl rfl hl.1 rfl (lv_room (Nat.le_of_ble_eq_true rfl)) dX3_reads_150 ⟨Nat.le_refl _, Nat.le_refl _⟩) rfl rfl rfl rfl rfl (fun H locs hP hD hS => ?_)
                  obtain ⟨hbl, hf⟩ := k_bl_some hf
                  cases hf
                  exact k_zret hx hb hr (k_bn hbl) hlocks hAe hS hP hD dX3_reads_153
                · replace hf := k_ifF c4_7 hf
                  by_cases c4_8 : v_place = 8
                  · replace hf := k_ifT c4_8 hf
                    refine lv_tableIn (tgt := 154) hx hb dX3_reads_4 (by rw [c4_8]; decide) (by rw [c4_8]; decide) (by rw [c4_8]; rfl) (by decide) ?_
                    refine lv_aload_n hx hb dX3_reads_154 rfl (lv_at hl 0 rfl) ?_
                    refine lv_iload_n hx hb dX3_reads_155 rfl (lv_at hl 1 rfl) ?_
                    refine lv_iconst (v := 1) hx hb dX3_reads_156 (by decide) ?_
                    obtain ⟨q157, hq157, hf⟩ := k_let_ex hf
                    refine k_calli (wN := [(h_this, o_X3 h_draft v_place v_from q157.2.1), (h_draft, o_X2 v_draft_kind v_draft_worlds v_draft_arrows q157.2.2.1 q157.2.2.2)]) [0, 1] [] [0, 1] hP hD hS hA (va_runV (As := [.int x1, .int 1]) (rest := []) ⟨hx, hb, hml, hown, hts⟩ (k_X3_readsMarked l D cB cI cJ cZ tL tK h_this h_draft _ v_place v_from v_leastWorld v_draft_kind v_draft_worlds v_draft_arrows v_draft_p v_draft_q x1 1 q157 hq157) (cwV 2 hts (k_gV m_224 m_221 m_222 m_223 m_18) rfl rfl rfl (by decide +kernel) ⟨Nat.le_of_ble_eq_true rfl, Nat.le_of_ble_eq_true rfl⟩) (k_preV [0, 1] hK hN hZ hP hD hS hA rfl rfl (va_recv hK hP (ci := 3) (q0 := 0) rfl rfl)) rfl rfl hl.1 rfl (lv_room (Nat.le_of_ble_eq_true rfl)) dX3_reads_157 ⟨Nat.le_refl _, Nat.le_refl _⟩) rfl rfl rfl rfl rfl (fun H locs hP hD hS => ?_)
                    refine lv_if_ne (tgt := 175) hx hb dX3_reads_160 (by decide) (fun c160 => ?_) (fun c160 => ?_)
                    · replace hf := k_ifF c160 hf
                      refine lv_iconst (v := 1) hx hb dX3_reads_175 (by decide) ?_
                      refine lv_goto (tgt := 180) hx hb dX3_reads_176 (by decide) ?_
                      cases hf
                      exact k_zret (r := 1) hx hb hr rfl hlocks hAe hS hP hD dX3_reads_180
                    · replace hf := k_ifT c160 hf
                      refine lv_aload_n hx hb dX3_reads_163 rfl (lv_at hl 0 rfl) ?_
                      refine lv_iload_n hx hb dX3_reads_164 rfl (lv_at hl 1 rfl) ?_
                      refine lv_bipush (v := 113) hx hb dX3_reads_165 (by decide) ?_
                      refine lv_bipush (v := 9) hx hb dX3_reads_167 (by decide) ?_
                      obtain ⟨q169, hq169, hf⟩ := k_let_ex hf
                      refine k_calli (wN := [(h_this, o_X3 h_draft q169.2.1 v_from q169.2.2), (h_draft, o_X2 v_draft_kind v_draft_worlds v_draft_arrows q157.2.2.1 q157.2.2.2)]) [0] [1] [1, 0] hP hD hS hA (va_runV (As := [.int x1, .int 113, .int 9]) (rest := []) ⟨hx, hb, hml, hown, hts⟩ (k_X3_readsSign l D cB cI cJ cZ tL tK h_this h_draft _ v_place v_from q157.2.1 x1 113 9 q169 hq169) (cwV 3 hts (k_gV m_199 m_196 m_197 m_198 m_18) rfl rfl rfl (by decide +kernel) ⟨Nat.le_of_ble_eq_true rfl, Nat.le_of_ble_eq_true rfl⟩) (k_preV [0] hK hN hZ hP hD hS hA rfl rfl (va_recv hK hP (ci := 3) (q0 := 0) rfl rfl)) rfl rfl hl.1 rfl (lv_room (Nat.le_of_ble_eq_true rfl)) dX3_reads_169 ⟨Nat.le_refl _, Nat.le_refl _⟩) rfl rfl rfl rfl rfl (fun H locs hP hD hS => ?_)
                      refine lv_if_eq (tgt := 179) hx hb dX3_reads_172 (by decide) (fun c172 => ?_) (fun c172 => ?_)
                      · replace hf := k_ifT c172 hf
                        refine lv_iconst (v := 0) hx hb dX3_reads_179 (by decide) ?_
                        cases hf
                        exact k_zret (r := 0) hx hb hr rfl hlocks hAe hS hP hD dX3_reads_180
                      · replace hf := k_ifF c172 hf
                        refine lv_iconst (v := 1) hx hb dX3_reads_175 (by decide) ?_
                        refine lv_goto (tgt := 180) hx hb dX3_reads_176 (by decide) ?_
                        cases hf
                        exact k_zret (r := 1) hx hb hr rfl hlocks hAe hS hP hD dX3_reads_180
                  · replace hf := k_ifF c4_8 hf
                    refine lv_tableOut (tgt := 181) hx hb dX3_reads_4 (by have := lv_neT c4_0 (show (0 : Int32).toInt = 0 by decide); have := lv_neT c4_1 (show (1 : Int32).toInt = 1 by decide); have := lv_neT c4_2 (show (2 : Int32).toInt = 2 by decide); have := lv_neT c4_3 (show (3 : Int32).toInt = 3 by decide); have := lv_neT c4_4 (show (4 : Int32).toInt = 4 by decide); have := lv_neT c4_5 (show (5 : Int32).toInt = 5 by decide); have := lv_neT c4_6 (show (6 : Int32).toInt = 6 by decide); have := lv_neT c4_7 (show (7 : Int32).toInt = 7 by decide); have := lv_neT c4_8 (show (8 : Int32).toInt = 8 by decide); omega) (by decide) ?_
                    refine lv_aload_n hx hb dX3_reads_181 rfl (lv_at hl 0 rfl) ?_
                    refine lv_iload_n hx hb dX3_reads_182 rfl (lv_at hl 1 rfl) ?_
                    refine lv_iconst (v := 2) hx hb dX3_reads_183 (by decide) ?_
                    obtain ⟨q184, hq184, hf⟩ := k_let_ex hf
                    refine k_calli (wN := [(h_this, o_X3 h_draft v_place v_from q184.2.1), (h_draft, o_X2 v_draft_kind v_draft_worlds v_draft_arrows q184.2.2.1 q184.2.2.2)]) [0, 1] [] [0, 1] hP hD hS hA (va_runV (As := [.int x1, .int 2]) (rest := []) ⟨hx, hb, hml, hown, hts⟩ (k_X3_readsMarked l D cB cI cJ cZ tL tK h_this h_draft _ v_place v_from v_leastWorld v_draft_kind v_draft_worlds v_draft_arrows v_draft_p v_draft_q x1 2 q184 hq184) (cwV 2 hts (k_gV m_224 m_221 m_222 m_223 m_18) rfl rfl rfl (by decide +kernel) ⟨Nat.le_of_ble_eq_true rfl, Nat.le_of_ble_eq_true rfl⟩) (k_preV [0, 1] hK hN hZ hP hD hS hA rfl rfl (va_recv hK hP (ci := 3) (q0 := 0) rfl rfl)) rfl rfl hl.1 rfl (lv_room (Nat.le_of_ble_eq_true rfl)) dX3_reads_184 ⟨Nat.le_refl _, Nat.le_refl _⟩) rfl rfl rfl rfl rfl (fun H locs hP hD hS => ?_)
                    obtain ⟨hbl, hf⟩ := k_bl_some hf
                    cases hf
                    exact k_zret hx hb hr (k_bn hbl) hlocks hAe hS hP hD dX3_reads_187
set_option maxHeartbeats 4000000 in
set_option maxRecDepth 100000 in
theorem k_X6_firstFault_X3 (l : Launch) (D : va_G) (cB cI cJ cZ : ClassId) (tL tK : Nat) (h_this h_draft h_x1 h_x1_codes : Nat) (sz : Nat) (v_place : Int32) (v_from : Int32) (v_leastWorld : Int32) (v_draft_kind : Int32) (v_draft_worlds : Int32) (v_draft_arrows : Int32) (v_draft_p : Int32) (v_draft_q : Int32) (v_x1_length : Int32) (v_x1_codes : (Nat → Int32))  (q : Int32 × Int32 × Int32 × Int32 × Int32 × Int32 × Int32 × Int32 × Int32) (hf : f_X6_firstFault_X3 v_place v_from v_leastWorld v_draft_kind v_draft_worlds v_draft_arrows v_draft_p v_draft_q v_x1_length v_x1_codes = some q) : Met l yX6_firstFault (.code yX6_firstFault cX6_firstFault 3 (some .int) :: k_all) { frames := 4, cells := 0, slots := 0, locals := 87 } (k_P D cB cI cJ cZ tL tK [.ref h_this, .ref h_x1] [(h_this, o_X3 h_draft v_place v_from v_leastWorld), (h_draft, o_X2 v_draft_kind v_draft_worlds v_draft_arrows v_draft_p v_draft_q), (h_x1, o_X5 h_x1_codes v_x1_length), (h_x1_codes, o_I cI 66 v_x1_codes)] sz) (k_I D q.1 [(h_this, o_X3 h_draft v_place v_from v_leastWorld), (h_draft, o_X2 v_draft_kind v_draft_worlds v_draft_arrows v_draft_p v_draft_q), (h_x1, o_X5 h_x1_codes v_x1_length), (h_x1_codes, o_I cI 66 v_x1_codes)] [(h_this, o_X3 h_draft q.2.1 q.2.2.1 q.2.2.2.1), (h_draft, o_X2 q.2.2.2.2.1 q.2.2.2.2.2.1 q.2.2.2.2.2.2.1 q.2.2.2.2.2.2.2.1 q.2.2.2.2.2.2.2.2), (h_x1, o_X5 h_x1_codes v_x1_length), (h_x1_codes, o_I cI 66 v_x1_codes)] sz) 0 0 (va_A [(h_this, o_X3 h_draft v_place v_from v_leastWorld), (h_draft, o_X2 v_draft_kind v_draft_worlds v_draft_arrows v_draft_p v_draft_q), (h_x1, o_X5 h_x1_codes v_x1_length), (h_x1_codes, o_I cI 66 v_x1_codes)] sz) := by
  unfold f_X6_firstFault_X3 at hf
  refine k_met RX6 rfl (by decide +kernel) (Nat.le_of_ble_eq_true rfl) ?_
  intro p e s m below meth c A ls hx hb hr hml hown hts hlocks hin hsz hAe hA hK hN hZ hD hS hP hl
  have hl : lv_has ls 3 [(0, .ref h_this), (1, .ref h_x1)] := hl
  refine lv_aload_n hx hb dX6_firstFault_0 rfl (lv_at hl 0 rfl) ?_
  obtain ⟨q1, hq1, hf⟩ := k_bind hf
  refine k_callv (wN := [(h_this, o_X3 h_draft q1.1 v_from v_leastWorld), (h_draft, o_X2 q1.2.1 q1.2.2.1 q1.2.2.2.1 q1.2.2.2.2.1 q1.2.2.2.2.2), (h_x1, o_X5 h_x1_codes v_x1_length), (h_x1_codes, o_I cI 66 v_x1_codes)]) [0, 1] [2, 3] [2, 3, 0, 1] hP hD hS hA (va_runU (As := []) (rest := []) ⟨hx, hb, hml, hown, hts⟩ (k_X3_begin l D cB cI cJ cZ tL tK h_this h_draft _ v_place v_from v_leastWorld v_draft_kind v_draft_worlds v_draft_arrows v_draft_p v_draft_q q1 hq1) (va_cwA (owner := "FrameBoard$Text") (x := ⟨"FrameBoard$Text", "begin", "()V"⟩) (C := RX3) 0 hts (k_gU m_152 m_143 m_144 m_150 m_151 m_18) rfl rfl rfl (hN.2 _ (List.mem_of_getElem? (i := 1) rfl)) (by decide +kernel) ⟨Nat.le_of_ble_eq_true rfl, Nat.le_of_ble_eq_true rfl⟩) (k_preV [0, 1] hK hN hZ hP hD hS hA rfl rfl (va_recv hK hP (ci := 3) (q0 := 0) rfl rfl)) rfl rfl hl.1 rfl (lv_room (Nat.le_of_ble_eq_true rfl)) dX6_firstFault_1 ⟨Nat.le_refl _, Nat.le_refl _⟩) rfl rfl rfl rfl rfl (fun H locs hP hD hS => ?_)
  refine lv_iconst (v := 0) hx hb dX6_firstFault_4 (by decide) ?_
  refine lv_istore_n (lv' := [(2, .int 0), (0, .ref h_this), (1, .ref h_x1)]) hx hb dX6_firstFault_5 rfl hl (by decide) rfl (fun ls hl => ?_)
  refine k_wl 34 (wsf := fun (a6 : Int32 × Int32 × Int32 × Int32 × Int32 × Int32 × Int32 × Int32 × Int32) => [(h_this, o_X3 h_draft a6.2.1 a6.2.2.1 a6.2.2.2.1), (h_draft, o_X2 a6.2.2.2.2.1 a6.2.2.2.2.2.1 a6.2.2.2.2.2.2.1 a6.2.2.2.2.2.2.2.1 a6.2.2.2.2.2.2.2.2), (h_x1, o_X5 h_x1_codes v_x1_length), (h_x1_codes, o_I cI 66 v_x1_codes)]) (lvf := fun (a6 : Int32 × Int32 × Int32 × Int32 × Int32 × Int32 × Int32 × Int32 × Int32) => [(0, .ref h_this), (1, .ref h_x1), (2, .int a6.1)]) hf hP hD hS (lv_sub hl [1, 2, 0] rfl) ?_ ?_
  · intro a6 H locs ls hf hP hD hS hl
    have hP : va_P D vwCl [(h_this, o_X3 h_draft a6.2.1 a6.2.2.1 a6.2.2.2.1), (h_draft, o_X2 a6.2.2.2.2.1 a6.2.2.2.2.2.1 a6.2.2.2.2.2.2.1 a6.2.2.2.2.2.2.2.1 a6.2.2.2.2.2.2.2.2), (h_x1, o_X5 h_x1_codes v_x1_length), (h_x1_codes, o_I cI 66 v_x1_codes)] H := hP
    have hD : va_D A [(h_this, o_X3 h_draft a6.2.1 a6.2.2.1 a6.2.2.2.1), (h_draft, o_X2 a6.2.2.2.2.1 a6.2.2.2.2.2.1 a6.2.2.2.2.2.2.1 a6.2.2.2.2.2.2.2.1 a6.2.2.2.2.2.2.2.2), (h_x1, o_X5 h_x1_codes v_x1_length), (h_x1_codes, o_I cI 66 v_x1_codes)] := hD
    have hl : lv_has ls 3 [(0, .ref h_this), (1, .ref h_x1), (2, .int a6.1)] := hl
    refine lv_aload_n hx hb dX6_firstFault_34 rfl (lv_at hl 1 rfl) ?_
    refine k_calli (wN := [(h_this, o_X3 h_draft a6.2.1 a6.2.2.1 a6.2.2.2.1), (h_draft, o_X2 a6.2.2.2.2.1 a6.2.2.2.2.2.1 a6.2.2.2.2.2.2.1 a6.2.2.2.2.2.2.2.1 a6.2.2.2.2.2.2.2.2), (h_x1, o_X5 h_x1_codes v_x1_length), (h_x1_codes, o_I cI 66 v_x1_codes)]) [2] [0, 1, 3] [0, 1, 3, 2] hP hD hS hA (va_runV (As := []) (rest := []) ⟨hx, hb, hml, hown, hts⟩ (k_X5_length l D cB cI cJ cZ tL tK h_x1 h_x1_codes _ v_x1_length (f_X5_length v_x1_length) rfl) (cwV 0 hts (k_gV m_105 m_167 m_103 m_104 m_14) rfl rfl rfl (by decide +kernel) ⟨Nat.le_of_ble_eq_true rfl, Nat.le_of_ble_eq_true rfl⟩) (k_preV [2] hK hN hZ hP hD hS hA rfl rfl (va_recv hK hP (ci := 5) (q0 := 2) rfl rfl)) rfl rfl hl.1 rfl (lv_room (Nat.le_of_ble_eq_true rfl)) dX6_firstFault_35 ⟨Nat.le_refl _, Nat.le_refl _⟩) rfl rfl rfl rfl rfl (fun H locs hP hD hS => ?_)
    cases hf
    exact k_iret hx hb hr hlocks hAe hS hP hD dX6_firstFault_38
  · intro ex6 rc6 hE6 hR6 a6 H locs ls hf hP hD hS hl
    have hP : va_P D vwCl [(h_this, o_X3 h_draft a6.2.1 a6.2.2.1 a6.2.2.2.1), (h_draft, o_X2 a6.2.2.2.2.1 a6.2.2.2.2.2.1 a6.2.2.2.2.2.2.1 a6.2.2.2.2.2.2.2.1 a6.2.2.2.2.2.2.2.2), (h_x1, o_X5 h_x1_codes v_x1_length), (h_x1_codes, o_I cI 66 v_x1_codes)] H := hP
    have hD : va_D A [(h_this, o_X3 h_draft a6.2.1 a6.2.2.1 a6.2.2.2.1), (h_draft, o_X2 a6.2.2.2.2.1 a6.2.2.2.2.2.1 a6.2.2.2.2.2.2.1 a6.2.2.2.2.2.2.2.1 a6.2.2.2.2.2.2.2.2), (h_x1, o_X5 h_x1_codes v_x1_length), (h_x1_codes, o_I cI 66 v_x1_codes)] := hD
    have hl : lv_has ls 3 [(0, .ref h_this), (1, .ref h_x1), (2, .int a6.1)] := hl
    refine lv_iload_n hx hb dX6_firstFault_6 rfl (lv_at hl 2 rfl) ?_
    refine lv_aload_n hx hb dX6_firstFault_7 rfl (lv_at hl 1 rfl) ?_
    refine k_calli (wN := [(h_this, o_X3 h_draft a6.2.1 a6.2.2.1 a6.2.2.2.1), (h_draft, o_X2 a6.2.2.2.2.1 a6.2.2.2.2.2.1 a6.2.2.2.2.2.2.1 a6.2.2.2.2.2.2.2.1 a6.2.2.2.2.2.2.2.2), (h_x1, o_X5 h_x1_codes v_x1_length), (h_x1_codes, o_I cI 66 v_x1_codes)]) [2] [0, 1, 3] [0, 1, 3, 2] hP hD hS hA (va_runV (As := []) (rest := [.int a6.1]) ⟨hx, hb, hml, hown, hts⟩ (k_X5_length l D cB cI cJ cZ tL tK h_x1 h_x1_codes _ v_x1_length (f_X5_length v_x1_length) rfl) (cwV 0 hts (k_gV m_105 m_167 m_103 m_104 m_14) rfl rfl rfl (by decide +kernel) ⟨Nat.le_of_ble_eq_true rfl, Nat.le_of_ble_eq_true rfl⟩) (k_preV [2] hK hN hZ hP hD hS hA rfl rfl (va_recv hK hP (ci := 5) (q0 := 2) rfl rfl)) rfl rfl hl.1 rfl (lv_room (Nat.le_of_ble_eq_true rfl)) dX6_firstFault_8 ⟨Nat.le_refl _, Nat.le_refl _⟩) rfl rfl rfl rfl rfl (fun H locs hP hD hS => ?_)
    refine lv_icmp_ge (tgt := 34) hx hb dX6_firstFault_11 (by decide) (fun c11 => ?_) (fun c11 => ?_)
    · replace hf := k_ifT c11 hf
      exact hE6 _ _ _ _ hf hP hD hS (lv_sub hl [0, 1, 2] rfl)
    · replace hf := k_ifF c11 hf
      refine lv_aload_n hx hb dX6_firstFault_14 rfl (lv_at hl 0 rfl) ?_
      refine lv_aload_n hx hb dX6_firstFault_15 rfl (lv_at hl 1 rfl) ?_
      refine lv_iload_n hx hb dX6_firstFault_16 rfl (lv_at hl 2 rfl) ?_
      obtain ⟨q17, hq17, hf⟩ := k_bind hf
      refine k_calli (wN := [(h_this, o_X3 h_draft a6.2.1 a6.2.2.1 a6.2.2.2.1), (h_draft, o_X2 a6.2.2.2.2.1 a6.2.2.2.2.2.1 a6.2.2.2.2.2.2.1 a6.2.2.2.2.2.2.2.1 a6.2.2.2.2.2.2.2.2), (h_x1, o_X5 h_x1_codes v_x1_length), (h_x1_codes, o_I cI 66 v_x1_codes)]) [2, 3] [0, 1] [0, 1, 2, 3] hP hD hS hA (va_runV (As := [.int a6.1]) (rest := [.ref h_this]) ⟨hx, hb, hml, hown, hts⟩ (k_X5_at l D cB cI cJ cZ tL tK h_x1 h_x1_codes _ v_x1_length v_x1_codes a6.1 q17 hq17) (cwV 1 hts (k_gV m_171 m_168 m_169 m_170 m_14) rfl rfl rfl (by decide +kernel) ⟨Nat.le_of_ble_eq_true rfl, Nat.le_of_ble_eq_true rfl⟩) (k_preV [2, 3] hK hN hZ hP hD hS hA rfl rfl (va_recv hK hP (ci := 5) (q0 := 2) rfl rfl)) rfl rfl hl.1 rfl (lv_room (Nat.le_of_ble_eq_true rfl)) dX6_firstFault_17 ⟨Nat.le_refl _, Nat.le_refl _⟩) rfl rfl rfl rfl rfl (fun H locs hP hD hS => ?_)
      obtain ⟨q20, hq20, hf⟩ := k_bind hf
      refine k_calli (wN := [(h_this, o_X3 h_draft q20.2.1 q20.2.2.1 q20.2.2.2.1), (h_draft, o_X2 q20.2.2.2.2.1 q20.2.2.2.2.2.1 q20.2.2.2.2.2.2.1 q20.2.2.2.2.2.2.2.1 q20.2.2.2.2.2.2.2.2), (h_x1, o_X5 h_x1_codes v_x1_length), (h_x1_codes, o_I cI 66 v_x1_codes)]) [0, 1] [2, 3] [2, 3, 0, 1] hP hD hS hA (va_runU (As := [.int q17]) (rest := []) ⟨hx, hb, hml, hown, hts⟩ (k_X3_reads l D cB cI cJ cZ tL tK h_this h_draft _ a6.2.1 a6.2.2.1 a6.2.2.2.1 a6.2.2.2.2.1 a6.2.2.2.2.2.1 a6.2.2.2.2.2.2.1 a6.2.2.2.2.2.2.2.1 a6.2.2.2.2.2.2.2.2 q17 q20 hq20) (va_cwA (owner := "FrameBoard$Text") (x := ⟨"FrameBoard$Text", "reads", "(I)Z"⟩) (C := RX3) 1 hts (k_gU m_182 m_172 m_173 m_180 m_181 m_18) rfl rfl rfl (hN.2 _ (List.mem_of_getElem? (i := 2) rfl)) (by decide +kernel) ⟨Nat.le_of_ble_eq_true rfl, Nat.le_of_ble_eq_true rfl⟩) (k_preV [0, 1] hK hN hZ hP hD hS hA rfl rfl (va_recv hK hP (ci := 3) (q0 := 0) rfl rfl)) rfl rfl hl.1 rfl (lv_room (Nat.le_of_ble_eq_true rfl)) dX6_firstFault_20 ⟨Nat.le_refl _, Nat.le_refl _⟩) rfl rfl rfl rfl rfl (fun H locs hP hD hS => ?_)
      refine lv_if_ne (tgt := 28) hx hb dX6_firstFault_23 (by decide) (fun c23 => ?_) (fun c23 => ?_)
      · replace hf := k_ifF c23 hf
        refine lv_iinc (v := (a6.1 + 1)) (lv' := [(2, .int (a6.1 + 1)), (0, .ref h_this), (1, .ref h_x1)]) hx hb dX6_firstFault_28 hl (k := 2) rfl rfl (by decide) rfl (fun ls hl => ?_)
        refine lv_goto (tgt := 6) hx hb dX6_firstFault_31 (by decide) ?_
        exact hR6 _ _ _ _ hf hP hD hS (lv_sub hl [1, 2, 0] rfl)
      · replace hf := k_ifT c23 hf
        refine lv_iload_n hx hb dX6_firstFault_26 rfl (lv_at hl 2 rfl) ?_
        cases hf
        exact k_iret hx hb hr hlocks hAe hS hP hD dX6_firstFault_27
set_option maxHeartbeats 4000000 in
set_option maxRecDepth 100000 in
theorem k_X1_begin (l : Launch) (D : va_G) (cB cI cJ cZ : ClassId) (tL tK : Nat) (h_this : Nat) (sz : Nat) (v_read : Int32) (v_due : Int32)  (q : Int32 × Int32) (hf : f_X1_begin v_read v_due = q) : Met l yX1_begin (.code yX1_begin cX1_begin 1 none :: k_all) { frames := 0, cells := 0, slots := 0, locals := 0 } (k_P D cB cI cJ cZ tL tK [.ref h_this] [(h_this, o_X1 v_read v_due)] sz) (k_V D [(h_this, o_X1 v_read v_due)] [(h_this, o_X1 q.1 q.2)] sz) 0 0 (va_A [(h_this, o_X1 v_read v_due)] sz) := by
  unfold f_X1_begin at hf
  refine k_met RX1 rfl (by decide +kernel) (Nat.le_of_ble_eq_true rfl) ?_
  intro p e s m below meth c A ls hx hb hr hml hown hts hlocks hin hsz hAe hA hK hN hZ hD hS hP hl
  have hl : lv_has ls 1 [(0, .ref h_this)] := hl
  refine lv_aload_n hx hb dX1_begin_0 rfl (lv_at hl 0 rfl) ?_
  refine lv_iconst (v := 0) hx hb dX1_begin_1 (by decide) ?_
  refine va_put (D := D) (ci := 1) (v := .int 0) (ty := .int) (C := RX1) (T := TX1) (N := 2) hx hb hts inlX1 tyX1 tyX1_ok nmX1 hown hK hP hD hS 0 rfl rfl 0 (by decide) (hts _ m_148) (fun _ h9 => h9) rfl (by decide +kernel) rfl rfl (Nat.le_of_ble_eq_true rfl) dX1_begin_2 (fun H locs hP hD hS => ?_)
  have hP : va_P D vwCl [(h_this, o_X1 0 v_due)] H := hP
  have hD : va_D A [(h_this, o_X1 0 v_due)] := hD
  refine lv_aload_n hx hb dX1_begin_5 rfl (lv_at hl 0 rfl) ?_
  refine lv_iconst (v := 1) hx hb dX1_begin_6 (by decide) ?_
  refine va_put (D := D) (ci := 1) (v := .int 1) (ty := .int) (C := RX1) (T := TX1) (N := 2) hx hb hts inlX1 tyX1 tyX1_ok nmX1 hown hK hP hD hS 0 rfl rfl 1 (by decide) (hts _ m_149) (fun _ h9 => h9) rfl (by decide +kernel) rfl rfl (Nat.le_of_ble_eq_true rfl) dX1_begin_7 (fun H locs hP hD hS => ?_)
  have hP : va_P D vwCl [(h_this, o_X1 0 1)] H := hP
  have hD : va_D A [(h_this, o_X1 0 1)] := hD
  subst hf
  exact k_vret hx hb hr hlocks hAe hS hP hD dX1_begin_10
set_option maxHeartbeats 4000000 in
set_option maxRecDepth 100000 in
theorem k_X1_reads (l : Launch) (D : va_G) (cB cI cJ cZ : ClassId) (tL tK : Nat) (h_this : Nat) (sz : Nat) (v_read : Int32) (v_due : Int32) (x1 : Int32) (q : Int32 × Int32 × Int32) (hf : f_X1_reads v_read v_due x1 = q) : Met l yX1_reads (.code yX1_reads cX1_reads 4 (some .boolean) :: k_all) { frames := 1, cells := 0, slots := 0, locals := 20 } (k_P D cB cI cJ cZ tL tK [.ref h_this, .int x1] [(h_this, o_X1 v_read v_due)] sz) (k_I D q.1 [(h_this, o_X1 v_read v_due)] [(h_this, o_X1 q.2.1 q.2.2)] sz) 0 0 (va_A [(h_this, o_X1 v_read v_due)] sz) := by
  unfold f_X1_reads at hf
  refine k_met RX1 rfl (by decide +kernel) (Nat.le_of_ble_eq_true rfl) ?_
  intro p e s m below meth c A ls hx hb hr hml hown hts hlocks hin hsz hAe hA hK hN hZ hD hS hP hl
  have hl : lv_has ls 4 [(0, .ref h_this), (1, .int x1)] := hl
  refine lv_iload_n hx hb dX1_reads_0 rfl (lv_at hl 1 rfl) ?_
  refine k_calli (wN := [(h_this, o_X1 v_read v_due)]) [] [0] [0] hP hD hS hA (va_runS (As := [.int x1]) (rest := []) ⟨hx, hb, hml, hown, hts⟩ (k_X0_operands l D cB cI cJ cZ tL tK _ x1 (f_X0_operands x1) rfl) (va_cwS 1 hts (k_gS m_179 m_177 m_178 m_30) rfl rfl rfl (by decide +kernel) ⟨Nat.le_of_ble_eq_true rfl, Nat.le_of_ble_eq_true rfl⟩) (k_preS [] hK hN hZ hP hD hS hA rfl rfl) rfl rfl hl.1 rfl (lv_room (Nat.le_of_ble_eq_true rfl)) dX1_reads_1 ⟨Nat.le_refl _, Nat.le_refl _⟩) rfl rfl rfl rfl rfl (fun H locs hP hD hS => ?_)
  refine lv_istore_n (lv' := [(2, .int (f_X0_operands x1)), (0, .ref h_this), (1, .int x1)]) hx hb dX1_reads_4 rfl hl (by decide) rfl (fun ls hl => ?_)
  refine lv_iload_n hx hb dX1_reads_5 rfl (lv_at hl 0 rfl) ?_
  refine lv_iconst (v := (-1)) hx hb dX1_reads_6 (by decide) ?_
  refine lv_icmp_eq (tgt := 17) hx hb dX1_reads_7 (by decide) (fun c7 => ?_) (fun c7 => ?_)
  · replace hf := k_ifT c7 hf
    refine lv_iconst (v := 0) hx hb dX1_reads_17 (by decide) ?_
    subst hf
    exact k_zret (r := 0) hx hb hr rfl hlocks hAe hS hP hD dX1_reads_18
  · replace hf := k_ifF c7 hf
    refine lv_aload_n hx hb dX1_reads_10 rfl (lv_at hl 1 rfl) ?_
    refine va_get (D := D) (ci := 1) (v := .int v_due) (C := RX1) (T := TX1) (N := 2) hx hb hts inlX1 hown hK hP 0 rfl rfl 1 (by decide) (hts _ m_149) (fun _ h9 => h9) rfl dX1_reads_11 ?_
    refine lv_if_ne (tgt := 19) hx hb dX1_reads_14 (by decide) (fun c14 => ?_) (fun c14 => ?_)
    · replace hf := k_ifF c14 hf
      refine lv_aload_n hx hb dX1_reads_19 rfl (lv_at hl 1 rfl) ?_
      refine va_get (D := D) (ci := 1) (v := .int v_due) (C := RX1) (T := TX1) (N := 2) hx hb hts inlX1 hown hK hP 0 rfl rfl 1 (by decide) (hts _ m_149) (fun _ h9 => h9) rfl dX1_reads_20 ?_
      refine lv_iconst (v := 1) hx hb dX1_reads_23 (by decide) ?_
      refine lv_isub hx hb dX1_reads_24 ?_
      refine lv_iload_n hx hb dX1_reads_25 rfl (lv_at hl 0 rfl) ?_
      refine lv_iadd hx hb dX1_reads_26 ?_
      refine lv_istore_n (lv' := [(3, .int ((v_due - 1) + (f_X0_operands x1))), (2, .int (f_X0_operands x1)), (0, .ref h_this), (1, .int x1)]) hx hb dX1_reads_27 rfl hl (by decide) rfl (fun ls hl => ?_)
      refine lv_aload_n hx hb dX1_reads_28 rfl (lv_at hl 2 rfl) ?_
      refine va_get (D := D) (ci := 1) (v := .int v_read) (C := RX1) (T := TX1) (N := 2) hx hb hts inlX1 hown hK hP 0 rfl rfl 0 (by decide) (hts _ m_148) (fun _ h9 => h9) rfl dX1_reads_29 ?_
      refine lv_iconst (v := 1) hx hb dX1_reads_32 (by decide) ?_
      refine lv_iadd hx hb dX1_reads_33 ?_
      refine lv_iload_n hx hb dX1_reads_34 rfl (lv_at hl 0 rfl) ?_
      refine lv_iadd hx hb dX1_reads_35 ?_
      refine lv_bipush (v := 16) hx hb dX1_reads_36 (by decide) ?_
      refine lv_icmp_le (tgt := 43) hx hb dX1_reads_38 (by decide) (fun c38 => ?_) (fun c38 => ?_)
      · replace hf := k_ifT c38 hf
        refine lv_aload_n hx hb dX1_reads_43 rfl (lv_at hl 2 rfl) ?_
        refine lv_dup hx hb dX1_reads_44 rfl ?_
        refine va_get (D := D) (ci := 1) (v := .int v_read) (C := RX1) (T := TX1) (N := 2) hx hb hts inlX1 hown hK hP 0 rfl rfl 0 (by decide) (hts _ m_148) (fun _ h9 => h9) rfl dX1_reads_45 ?_
        refine lv_iconst (v := 1) hx hb dX1_reads_48 (by decide) ?_
        refine lv_iadd hx hb dX1_reads_49 ?_
        refine va_put (D := D) (ci := 1) (v := .int (v_read + 1)) (ty := .int) (C := RX1) (T := TX1) (N := 2) hx hb hts inlX1 tyX1 tyX1_ok nmX1 hown hK hP hD hS 0 rfl rfl 0 (by decide) (hts _ m_148) (fun _ h9 => h9) rfl (by decide +kernel) rfl rfl (Nat.le_of_ble_eq_true rfl) dX1_reads_50 (fun H locs hP hD hS => ?_)
        have hP : va_P D vwCl [(h_this, o_X1 (v_read + 1) v_due)] H := hP
        have hD : va_D A [(h_this, o_X1 (v_read + 1) v_due)] := hD
        refine lv_aload_n hx hb dX1_reads_53 rfl (lv_at hl 2 rfl) ?_
        refine lv_iload_n hx hb dX1_reads_54 rfl (lv_at hl 0 rfl) ?_
        refine va_put (D := D) (ci := 1) (v := .int ((v_due - 1) + (f_X0_operands x1))) (ty := .int) (C := RX1) (T := TX1) (N := 2) hx hb hts inlX1 tyX1 tyX1_ok nmX1 hown hK hP hD hS 0 rfl rfl 1 (by decide) (hts _ m_149) (fun _ h9 => h9) rfl (by decide +kernel) rfl rfl (Nat.le_of_ble_eq_true rfl) dX1_reads_55 (fun H locs hP hD hS => ?_)
        have hP : va_P D vwCl [(h_this, o_X1 (v_read + 1) ((v_due - 1) + (f_X0_operands x1)))] H := hP
        have hD : va_D A [(h_this, o_X1 (v_read + 1) ((v_due - 1) + (f_X0_operands x1)))] := hD
        refine lv_iconst (v := 1) hx hb dX1_reads_58 (by decide) ?_
        subst hf
        exact k_zret (r := 1) hx hb hr rfl hlocks hAe hS hP hD dX1_reads_59
      · replace hf := k_ifF c38 hf
        refine lv_iconst (v := 0) hx hb dX1_reads_41 (by decide) ?_
        subst hf
        exact k_zret (r := 0) hx hb hr rfl hlocks hAe hS hP hD dX1_reads_42
    · replace hf := k_ifT c14 hf
      refine lv_iconst (v := 0) hx hb dX1_reads_17 (by decide) ?_
      subst hf
      exact k_zret (r := 0) hx hb hr rfl hlocks hAe hS hP hD dX1_reads_18
set_option maxHeartbeats 4000000 in
set_option maxRecDepth 100000 in
theorem k_X6_firstFault_X1 (l : Launch) (D : va_G) (cB cI cJ cZ : ClassId) (tL tK : Nat) (h_this h_x1 h_x1_codes : Nat) (sz : Nat) (v_read : Int32) (v_due : Int32) (v_x1_length : Int32) (v_x1_codes : (Nat → Int32))  (q : Int32 × Int32 × Int32) (hf : f_X6_firstFault_X1 v_read v_due v_x1_length v_x1_codes = some q) : Met l yX6_firstFault (.code yX6_firstFault cX6_firstFault 3 (some .int) :: k_all) { frames := 2, cells := 0, slots := 0, locals := 43 } (k_P D cB cI cJ cZ tL tK [.ref h_this, .ref h_x1] [(h_this, o_X1 v_read v_due), (h_x1, o_X5 h_x1_codes v_x1_length), (h_x1_codes, o_I cI 66 v_x1_codes)] sz) (k_I D q.1 [(h_this, o_X1 v_read v_due), (h_x1, o_X5 h_x1_codes v_x1_length), (h_x1_codes, o_I cI 66 v_x1_codes)] [(h_this, o_X1 q.2.1 q.2.2), (h_x1, o_X5 h_x1_codes v_x1_length), (h_x1_codes, o_I cI 66 v_x1_codes)] sz) 0 0 (va_A [(h_this, o_X1 v_read v_due), (h_x1, o_X5 h_x1_codes v_x1_length), (h_x1_codes, o_I cI 66 v_x1_codes)] sz) := by
  unfold f_X6_firstFault_X1 at hf
  refine k_met RX6 rfl (by decide +kernel) (Nat.le_of_ble_eq_true rfl) ?_
  intro p e s m below meth c A ls hx hb hr hml hown hts hlocks hin hsz hAe hA hK hN hZ hD hS hP hl
  have hl : lv_has ls 3 [(0, .ref h_this), (1, .ref h_x1)] := hl
  refine lv_aload_n hx hb dX6_firstFault_0 rfl (lv_at hl 0 rfl) ?_
  obtain ⟨q1, hq1, hf⟩ := k_let_ex hf
  refine k_callv (wN := [(h_this, o_X1 q1.1 q1.2), (h_x1, o_X5 h_x1_codes v_x1_length), (h_x1_codes, o_I cI 66 v_x1_codes)]) [0] [1, 2] [2, 0, 1] hP hD hS hA (va_runU (As := []) (rest := []) ⟨hx, hb, hml, hown, hts⟩ (k_X1_begin l D cB cI cJ cZ tL tK h_this _ v_read v_due q1 hq1) (va_cwA (owner := "FrameBoard$Text") (x := ⟨"FrameBoard$Text", "begin", "()V"⟩) (C := RX1) 0 hts (k_gU m_147 m_143 m_144 m_145 m_146 m_22) rfl rfl rfl (hN.2 _ (List.mem_of_getElem? (i := 1) rfl)) (by decide +kernel) ⟨Nat.le_of_ble_eq_true rfl, Nat.le_of_ble_eq_true rfl⟩) (k_preV [0] hK hN hZ hP hD hS hA rfl rfl (va_recv hK hP (ci := 1) (q0 := 0) rfl rfl)) rfl rfl hl.1 rfl (lv_room (Nat.le_of_ble_eq_true rfl)) dX6_firstFault_1 ⟨Nat.le_refl _, Nat.le_refl _⟩) rfl rfl rfl rfl rfl (fun H locs hP hD hS => ?_)
  refine lv_iconst (v := 0) hx hb dX6_firstFault_4 (by decide) ?_
  refine lv_istore_n (lv' := [(2, .int 0), (0, .ref h_this), (1, .ref h_x1)]) hx hb dX6_firstFault_5 rfl hl (by decide) rfl (fun ls hl => ?_)
  refine k_wl 34 (wsf := fun (a6 : Int32 × Int32 × Int32) => [(h_this, o_X1 a6.2.1 a6.2.2), (h_x1, o_X5 h_x1_codes v_x1_length), (h_x1_codes, o_I cI 66 v_x1_codes)]) (lvf := fun (a6 : Int32 × Int32 × Int32) => [(0, .ref h_this), (1, .ref h_x1), (2, .int a6.1)]) hf hP hD hS (lv_sub hl [1, 2, 0] rfl) ?_ ?_
  · intro a6 H locs ls hf hP hD hS hl
    have hP : va_P D vwCl [(h_this, o_X1 a6.2.1 a6.2.2), (h_x1, o_X5 h_x1_codes v_x1_length), (h_x1_codes, o_I cI 66 v_x1_codes)] H := hP
    have hD : va_D A [(h_this, o_X1 a6.2.1 a6.2.2), (h_x1, o_X5 h_x1_codes v_x1_length), (h_x1_codes, o_I cI 66 v_x1_codes)] := hD
    have hl : lv_has ls 3 [(0, .ref h_this), (1, .ref h_x1), (2, .int a6.1)] := hl
    refine lv_aload_n hx hb dX6_firstFault_34 rfl (lv_at hl 1 rfl) ?_
    refine k_calli (wN := [(h_this, o_X1 a6.2.1 a6.2.2), (h_x1, o_X5 h_x1_codes v_x1_length), (h_x1_codes, o_I cI 66 v_x1_codes)]) [1] [0, 2] [0, 2, 1] hP hD hS hA (va_runV (As := []) (rest := []) ⟨hx, hb, hml, hown, hts⟩ (k_X5_length l D cB cI cJ cZ tL tK h_x1 h_x1_codes _ v_x1_length (f_X5_length v_x1_length) rfl) (cwV 0 hts (k_gV m_105 m_167 m_103 m_104 m_14) rfl rfl rfl (by decide +kernel) ⟨Nat.le_of_ble_eq_true rfl, Nat.le_of_ble_eq_true rfl⟩) (k_preV [1] hK hN hZ hP hD hS hA rfl rfl (va_recv hK hP (ci := 5) (q0 := 1) rfl rfl)) rfl rfl hl.1 rfl (lv_room (Nat.le_of_ble_eq_true rfl)) dX6_firstFault_35 ⟨Nat.le_refl _, Nat.le_refl _⟩) rfl rfl rfl rfl rfl (fun H locs hP hD hS => ?_)
    cases hf
    exact k_iret hx hb hr hlocks hAe hS hP hD dX6_firstFault_38
  · intro ex6 rc6 hE6 hR6 a6 H locs ls hf hP hD hS hl
    have hP : va_P D vwCl [(h_this, o_X1 a6.2.1 a6.2.2), (h_x1, o_X5 h_x1_codes v_x1_length), (h_x1_codes, o_I cI 66 v_x1_codes)] H := hP
    have hD : va_D A [(h_this, o_X1 a6.2.1 a6.2.2), (h_x1, o_X5 h_x1_codes v_x1_length), (h_x1_codes, o_I cI 66 v_x1_codes)] := hD
    have hl : lv_has ls 3 [(0, .ref h_this), (1, .ref h_x1), (2, .int a6.1)] := hl
    refine lv_iload_n hx hb dX6_firstFault_6 rfl (lv_at hl 2 rfl) ?_
    refine lv_aload_n hx hb dX6_firstFault_7 rfl (lv_at hl 1 rfl) ?_
    refine k_calli (wN := [(h_this, o_X1 a6.2.1 a6.2.2), (h_x1, o_X5 h_x1_codes v_x1_length), (h_x1_codes, o_I cI 66 v_x1_codes)]) [1] [0, 2] [0, 2, 1] hP hD hS hA (va_runV (As := []) (rest := [.int a6.1]) ⟨hx, hb, hml, hown, hts⟩ (k_X5_length l D cB cI cJ cZ tL tK h_x1 h_x1_codes _ v_x1_length (f_X5_length v_x1_length) rfl) (cwV 0 hts (k_gV m_105 m_167 m_103 m_104 m_14) rfl rfl rfl (by decide +kernel) ⟨Nat.le_of_ble_eq_true rfl, Nat.le_of_ble_eq_true rfl⟩) (k_preV [1] hK hN hZ hP hD hS hA rfl rfl (va_recv hK hP (ci := 5) (q0 := 1) rfl rfl)) rfl rfl hl.1 rfl (lv_room (Nat.le_of_ble_eq_true rfl)) dX6_firstFault_8 ⟨Nat.le_refl _, Nat.le_refl _⟩) rfl rfl rfl rfl rfl (fun H locs hP hD hS => ?_)
    refine lv_icmp_ge (tgt := 34) hx hb dX6_firstFault_11 (by decide) (fun c11 => ?_) (fun c11 => ?_)
    · replace hf := k_ifT c11 hf
      exact hE6 _ _ _ _ hf hP hD hS (lv_sub hl [0, 1, 2] rfl)
    · replace hf := k_ifF c11 hf
      refine lv_aload_n hx hb dX6_firstFault_14 rfl (lv_at hl 0 rfl) ?_
      refine lv_aload_n hx hb dX6_firstFault_15 rfl (lv_at hl 1 rfl) ?_
      refine lv_iload_n hx hb dX6_firstFault_16 rfl (lv_at hl 2 rfl) ?_
      obtain ⟨q17, hq17, hf⟩ := k_bind hf
      refine k_calli (wN := [(h_this, o_X1 a6.2.1 a6.2.2), (h_x1, o_X5 h_x1_codes v_x1_length), (h_x1_codes, o_I cI 66 v_x1_codes)]) [1, 2] [0] [0, 1, 2] hP hD hS hA (va_runV (As := [.int a6.1]) (rest := [.ref h_this]) ⟨hx, hb, hml, hown, hts⟩ (k_X5_at l D cB cI cJ cZ tL tK h_x1 h_x1_codes _ v_x1_length v_x1_codes a6.1 q17 hq17) (cwV 1 hts (k_gV m_171 m_168 m_169 m_170 m_14) rfl rfl rfl (by decide +kernel) ⟨Nat.le_of_ble_eq_true rfl, Nat.le_of_ble_eq_true rfl⟩) (k_preV [1, 2] hK hN hZ hP hD hS hA rfl rfl (va_recv hK hP (ci := 5) (q0 := 1) rfl rfl)) rfl rfl hl.1 rfl (lv_room (Nat.le_of_ble_eq_true rfl)) dX6_firstFault_17 ⟨Nat.le_refl _, Nat.le_refl _⟩) rfl rfl rfl rfl rfl (fun H locs hP hD hS => ?_)
      obtain ⟨q20, hq20, hf⟩ := k_let_ex hf
      refine k_calli (wN := [(h_this, o_X1 q20.2.1 q20.2.2), (h_x1, o_X5 h_x1_codes v_x1_length), (h_x1_codes, o_I cI 66 v_x1_codes)]) [0] [1, 2] [2, 0, 1] hP hD hS hA (va_runU (As := [.int q17]) (rest := []) ⟨hx, hb, hml, hown, hts⟩ (k_X1_reads l D cB cI cJ cZ tL tK h_this _ a6.2.1 a6.2.2 q17 q20 hq20) (va_cwA (owner := "FrameBoard$Text") (x := ⟨"FrameBoard$Text", "reads", "(I)Z"⟩) (C := RX1) 1 hts (k_gU m_176 m_172 m_173 m_174 m_175 m_22) rfl rfl rfl (hN.2 _ (List.mem_of_getElem? (i := 2) rfl)) (by decide +kernel) ⟨Nat.le_of_ble_eq_true rfl, Nat.le_of_ble_eq_true rfl⟩) (k_preV [0] hK hN hZ hP hD hS hA rfl rfl (va_recv hK hP (ci := 1) (q0 := 0) rfl rfl)) rfl rfl hl.1 rfl (lv_room (Nat.le_of_ble_eq_true rfl)) dX6_firstFault_20 ⟨Nat.le_refl _, Nat.le_refl _⟩) rfl rfl rfl rfl rfl (fun H locs hP hD hS => ?_)
      refine lv_if_ne (tgt := 28) hx hb dX6_firstFault_23 (by decide) (fun c23 => ?_) (fun c23 => ?_)
      · replace hf := k_ifF c23 hf
        refine lv_iinc (v := (a6.1 + 1)) (lv' := [(2, .int (a6.1 + 1)), (0, .ref h_this), (1, .ref h_x1)]) hx hb dX6_firstFault_28 hl (k := 2) rfl rfl (by decide) rfl (fun ls hl => ?_)
        refine lv_goto (tgt := 6) hx hb dX6_firstFault_31 (by decide) ?_
        exact hR6 _ _ _ _ hf hP hD hS (lv_sub hl [1, 2, 0] rfl)
      · replace hf := k_ifT c23 hf
        refine lv_iload_n hx hb dX6_firstFault_26 rfl (lv_at hl 2 rfl) ?_
        cases hf
        exact k_iret hx hb hr hlocks hAe hS hP hD dX6_firstFault_27
set_option maxHeartbeats 4000000 in
set_option maxRecDepth 100000 in
theorem k_X3_isComplete (l : Launch) (D : va_G) (cB cI cJ cZ : ClassId) (tL tK : Nat) (h_this h_draft : Nat) (sz : Nat) (v_place : Int32) (v_from : Int32) (v_leastWorld : Int32)  (q : Int32) (hf : f_X3_isComplete v_place = q) : Met l yX3_isComplete (.code yX3_isComplete cX3_isComplete 1 (some .boolean) :: k_all) { frames := 0, cells := 0, slots := 0, locals := 0 } (k_P D cB cI cJ cZ tL tK [.ref h_this] [(h_this, o_X3 h_draft v_place v_from v_leastWorld)] sz) (k_I D q [(h_this, o_X3 h_draft v_place v_from v_leastWorld)] [(h_this, o_X3 h_draft v_place v_from v_leastWorld)] sz) 0 0 (va_A [(h_this, o_X3 h_draft v_place v_from v_leastWorld)] sz) := by
  unfold f_X3_isComplete at hf
  refine k_met RX3 rfl (by decide +kernel) (Nat.le_of_ble_eq_true rfl) ?_
  intro p e s m below meth c A ls hx hb hr hml hown hts hlocks hin hsz hAe hA hK hN hZ hD hS hP hl
  have hl : lv_has ls 1 [(0, .ref h_this)] := hl
  refine lv_aload_n hx hb dX3_isComplete_0 rfl (lv_at hl 0 rfl) ?_
  refine va_get (D := D) (ci := 3) (v := .int v_place) (C := RX3) (T := TX3) (N := 4) hx hb hts inlX3 hown hK hP 0 rfl rfl 1 (by decide) (hts _ m_153) (fun _ h9 => h9) rfl dX3_isComplete_1 ?_
  refine lv_bipush (v := 9) hx hb dX3_isComplete_4 (by decide) ?_
  refine lv_icmp_ne (tgt := 13) hx hb dX3_isComplete_6 (by decide) (fun c6 => ?_) (fun c6 => ?_)
  · replace hf := k_ifF c6 hf
    refine lv_iconst (v := 0) hx hb dX3_isComplete_13 (by decide) ?_
    subst hf
    exact k_zret (r := 0) hx hb hr rfl hlocks hAe hS hP hD dX3_isComplete_14
  · replace hf := k_ifT c6 hf
    refine lv_iconst (v := 1) hx hb dX3_isComplete_9 (by decide) ?_
    refine lv_goto (tgt := 14) hx hb dX3_isComplete_10 (by decide) ?_
    subst hf
    exact k_zret (r := 1) hx hb hr rfl hlocks hAe hS hP hD dX3_isComplete_14
set_option maxHeartbeats 4000000 in
set_option maxRecDepth 100000 in
theorem k_X6_isWhole_X3 (l : Launch) (D : va_G) (cB cI cJ cZ : ClassId) (tL tK : Nat) (h_this h_draft h_x1 h_x1_codes : Nat) (sz : Nat) (v_place : Int32) (v_from : Int32) (v_leastWorld : Int32) (v_draft_kind : Int32) (v_draft_worlds : Int32) (v_draft_arrows : Int32) (v_draft_p : Int32) (v_draft_q : Int32) (v_x1_length : Int32) (v_x1_codes : (Nat → Int32))  (q : Int32 × Int32 × Int32 × Int32 × Int32 × Int32 × Int32 × Int32 × Int32) (hf : f_X6_isWhole_X3 v_place v_from v_leastWorld v_draft_kind v_draft_worlds v_draft_arrows v_draft_p v_draft_q v_x1_length v_x1_codes = some q) : Met l yX6_isWhole (.code yX6_isWhole cX6_isWhole 2 (some .boolean) :: k_all) { frames := 5, cells := 0, slots := 0, locals := 109 } (k_P D cB cI cJ cZ tL tK [.ref h_this, .ref h_x1] [(h_this, o_X3 h_draft v_place v_from v_leastWorld), (h_draft, o_X2 v_draft_kind v_draft_worlds v_draft_arrows v_draft_p v_draft_q), (h_x1, o_X5 h_x1_codes v_x1_length), (h_x1_codes, o_I cI 66 v_x1_codes)] sz) (k_I D q.1 [(h_this, o_X3 h_draft v_place v_from v_leastWorld), (h_draft, o_X2 v_draft_kind v_draft_worlds v_draft_arrows v_draft_p v_draft_q), (h_x1, o_X5 h_x1_codes v_x1_length), (h_x1_codes, o_I cI 66 v_x1_codes)] [(h_this, o_X3 h_draft q.2.1 q.2.2.1 q.2.2.2.1), (h_draft, o_X2 q.2.2.2.2.1 q.2.2.2.2.2.1 q.2.2.2.2.2.2.1 q.2.2.2.2.2.2.2.1 q.2.2.2.2.2.2.2.2), (h_x1, o_X5 h_x1_codes v_x1_length), (h_x1_codes, o_I cI 66 v_x1_codes)] sz) 0 0 (va_A [(h_this, o_X3 h_draft v_place v_from v_leastWorld), (h_draft, o_X2 v_draft_kind v_draft_worlds v_draft_arrows v_draft_p v_draft_q), (h_x1, o_X5 h_x1_codes v_x1_length), (h_x1_codes, o_I cI 66 v_x1_codes)] sz) := by
  unfold f_X6_isWhole_X3 at hf
  refine k_met RX6 rfl (by decide +kernel) (Nat.le_of_ble_eq_true rfl) ?_
  intro p e s m below meth c A ls hx hb hr hml hown hts hlocks hin hsz hAe hA hK hN hZ hD hS hP hl
  have hl : lv_has ls 2 [(0, .ref h_this), (1, .ref h_x1)] := hl
  refine lv_aload_n hx hb dX6_isWhole_0 rfl (lv_at hl 0 rfl) ?_
  refine lv_aload_n hx hb dX6_isWhole_1 rfl (lv_at hl 1 rfl) ?_
  obtain ⟨q2, hq2, hf⟩ := k_bind hf
  refine k_calli (wN := [(h_this, o_X3 h_draft q2.2.1 q2.2.2.1 q2.2.2.2.1), (h_draft, o_X2 q2.2.2.2.2.1 q2.2.2.2.2.2.1 q2.2.2.2.2.2.2.1 q2.2.2.2.2.2.2.2.1 q2.2.2.2.2.2.2.2.2), (h_x1, o_X5 h_x1_codes v_x1_length), (h_x1_codes, o_I cI 66 v_x1_codes)]) [0, 1, 2, 3] [] [0, 1, 2, 3] hP hD hS hA (va_runU (As := [.ref h_x1]) (rest := []) ⟨hx, hb, hml, hown, hts⟩ (k_X6_firstFault_X3 l D cB cI cJ cZ tL tK h_this h_draft h_x1 h_x1_codes _ v_place v_from v_leastWorld v_draft_kind v_draft_worlds v_draft_arrows v_draft_p v_draft_q v_x1_length v_x1_codes q2 hq2) (va_cwU (owner := "FrameBoard$Text") (x := ⟨"FrameBoard$Text", "firstFault", "(LFrameBoard$Page;)I"⟩) (C := RX3) 1 hts (k_gU m_142 m_293 m_294 m_296 m_141 m_53) rfl rfl rfl rfl (by decide +kernel) ⟨Nat.le_of_ble_eq_true rfl, Nat.le_of_ble_eq_true rfl⟩) (k_preV [0, 1, 2, 3] hK hN hZ hP hD hS hA rfl rfl (va_recv hK hP (ci := 3) (q0 := 0) rfl rfl)) rfl rfl hl.1 rfl (lv_room (Nat.le_of_ble_eq_true rfl)) dX6_isWhole_2 ⟨Nat.le_refl _, Nat.le_refl _⟩) rfl rfl rfl rfl rfl (fun H locs hP hD hS => ?_)
  refine lv_aload_n hx hb dX6_isWhole_5 rfl (lv_at hl 1 rfl) ?_
  refine k_calli (wN := [(h_this, o_X3 h_draft q2.2.1 q2.2.2.1 q2.2.2.2.1), (h_draft, o_X2 q2.2.2.2.2.1 q2.2.2.2.2.2.1 q2.2.2.2.2.2.2.1 q2.2.2.2.2.2.2.2.1 q2.2.2.2.2.2.2.2.2), (h_x1, o_X5 h_x1_codes v_x1_length), (h_x1_codes, o_I cI 66 v_x1_codes)]) [2] [0, 1, 3] [0, 1, 3, 2] hP hD hS hA (va_runV (As := []) (rest := [.int q2.1]) ⟨hx, hb, hml, hown, hts⟩ (k_X5_length l D cB cI cJ cZ tL tK h_x1 h_x1_codes _ v_x1_length (f_X5_length v_x1_length) rfl) (cwV 0 hts (k_gV m_105 m_167 m_103 m_104 m_14) rfl rfl rfl (by decide +kernel) ⟨Nat.le_of_ble_eq_true rfl, Nat.le_of_ble_eq_true rfl⟩) (k_preV [2] hK hN hZ hP hD hS hA rfl rfl (va_recv hK hP (ci := 5) (q0 := 2) rfl rfl)) rfl rfl hl.1 rfl (lv_room (Nat.le_of_ble_eq_true rfl)) dX6_isWhole_6 ⟨Nat.le_refl _, Nat.le_refl _⟩) rfl rfl rfl rfl rfl (fun H locs hP hD hS => ?_)
  refine lv_icmp_ne (tgt := 23) hx hb dX6_isWhole_9 (by decide) (fun c9 => ?_) (fun c9 => ?_)
  · replace hf := k_ifF c9 hf
    refine lv_iconst (v := 0) hx hb dX6_isWhole_23 (by decide) ?_
    cases hf
    exact k_zret (r := 0) hx hb hr rfl hlocks hAe hS hP hD dX6_isWhole_24
  · replace hf := k_ifT c9 hf
    refine lv_aload_n hx hb dX6_isWhole_12 rfl (lv_at hl 0 rfl) ?_
    refine k_calli (wN := [(h_this, o_X3 h_draft q2.2.1 q2.2.2.1 q2.2.2.2.1), (h_draft, o_X2 q2.2.2.2.2.1 q2.2.2.2.2.2.1 q2.2.2.2.2.2.2.1 q2.2.2.2.2.2.2.2.1 q2.2.2.2.2.2.2.2.2), (h_x1, o_X5 h_x1_codes v_x1_length), (h_x1_codes, o_I cI 66 v_x1_codes)]) [0] [1, 2, 3] [3, 0, 1, 2] hP hD hS hA (va_runU (As := []) (rest := []) ⟨hx, hb, hml, hown, hts⟩ (k_X3_isComplete l D cB cI cJ cZ tL tK h_this h_draft _ q2.2.1 q2.2.2.1 q2.2.2.2.1 (f_X3_isComplete q2.2.1) rfl) (va_cwA (owner := "FrameBoard$Text") (x := ⟨"FrameBoard$Text", "isComplete", "()Z"⟩) (C := RX3) 0 hts (k_gU m_304 m_297 m_298 m_302 m_303 m_18) rfl rfl rfl (hN.2 _ (List.mem_of_getElem? (i := 4) rfl)) (by decide +kernel) ⟨Nat.le_of_ble_eq_true rfl, Nat.le_of_ble_eq_true rfl⟩) (k_preV [0] hK hN hZ hP hD hS hA rfl rfl (va_recv hK hP (ci := 3) (q0 := 0) rfl rfl)) rfl rfl hl.1 rfl (lv_room (Nat.le_of_ble_eq_true rfl)) dX6_isWhole_13 ⟨Nat.le_refl _, Nat.le_refl _⟩) rfl rfl rfl rfl rfl (fun H locs hP hD hS => ?_)
    refine lv_if_eq (tgt := 23) hx hb dX6_isWhole_16 (by decide) (fun c16 => ?_) (fun c16 => ?_)
    · replace hf := k_ifT c16 hf
      refine lv_iconst (v := 0) hx hb dX6_isWhole_23 (by decide) ?_
      cases hf
      exact k_zret (r := 0) hx hb hr rfl hlocks hAe hS hP hD dX6_isWhole_24
    · replace hf := k_ifF c16 hf
      refine lv_iconst (v := 1) hx hb dX6_isWhole_19 (by decide) ?_
      refine lv_goto (tgt := 24) hx hb dX6_isWhole_20 (by decide) ?_
      cases hf
      exact k_zret (r := 1) hx hb hr rfl hlocks hAe hS hP hD dX6_isWhole_24
set_option maxHeartbeats 4000000 in
set_option maxRecDepth 100000 in
theorem k_X1_isComplete (l : Launch) (D : va_G) (cB cI cJ cZ : ClassId) (tL tK : Nat) (h_this : Nat) (sz : Nat) (v_read : Int32) (v_due : Int32)  (q : Int32) (hf : f_X1_isComplete v_due = q) : Met l yX1_isComplete (.code yX1_isComplete cX1_isComplete 1 (some .boolean) :: k_all) { frames := 0, cells := 0, slots := 0, locals := 0 } (k_P D cB cI cJ cZ tL tK [.ref h_this] [(h_this, o_X1 v_read v_due)] sz) (k_I D q [(h_this, o_X1 v_read v_due)] [(h_this, o_X1 v_read v_due)] sz) 0 0 (va_A [(h_this, o_X1 v_read v_due)] sz) := by
  unfold f_X1_isComplete at hf
  refine k_met RX1 rfl (by decide +kernel) (Nat.le_of_ble_eq_true rfl) ?_
  intro p e s m below meth c A ls hx hb hr hml hown hts hlocks hin hsz hAe hA hK hN hZ hD hS hP hl
  have hl : lv_has ls 1 [(0, .ref h_this)] := hl
  refine lv_aload_n hx hb dX1_isComplete_0 rfl (lv_at hl 0 rfl) ?_
  refine va_get (D := D) (ci := 1) (v := .int v_due) (C := RX1) (T := TX1) (N := 2) hx hb hts inlX1 hown hK hP 0 rfl rfl 1 (by decide) (hts _ m_149) (fun _ h9 => h9) rfl dX1_isComplete_1 ?_
  refine lv_if_ne (tgt := 11) hx hb dX1_isComplete_4 (by decide) (fun c4 => ?_) (fun c4 => ?_)
  · replace hf := k_ifF c4 hf
    refine lv_iconst (v := 0) hx hb dX1_isComplete_11 (by decide) ?_
    subst hf
    exact k_zret (r := 0) hx hb hr rfl hlocks hAe hS hP hD dX1_isComplete_12
  · replace hf := k_ifT c4 hf
    refine lv_iconst (v := 1) hx hb dX1_isComplete_7 (by decide) ?_
    refine lv_goto (tgt := 12) hx hb dX1_isComplete_8 (by decide) ?_
    subst hf
    exact k_zret (r := 1) hx hb hr rfl hlocks hAe hS hP hD dX1_isComplete_12
set_option maxHeartbeats 4000000 in
set_option maxRecDepth 100000 in
theorem k_X6_isWhole_X1 (l : Launch) (D : va_G) (cB cI cJ cZ : ClassId) (tL tK : Nat) (h_this h_x1 h_x1_codes : Nat) (sz : Nat) (v_read : Int32) (v_due : Int32) (v_x1_length : Int32) (v_x1_codes : (Nat → Int32))  (q : Int32 × Int32 × Int32) (hf : f_X6_isWhole_X1 v_read v_due v_x1_length v_x1_codes = some q) : Met l yX6_isWhole (.code yX6_isWhole cX6_isWhole 2 (some .boolean) :: k_all) { frames := 3, cells := 0, slots := 0, locals := 65 } (k_P D cB cI cJ cZ tL tK [.ref h_this, .ref h_x1] [(h_this, o_X1 v_read v_due), (h_x1, o_X5 h_x1_codes v_x1_length), (h_x1_codes, o_I cI 66 v_x1_codes)] sz) (k_I D q.1 [(h_this, o_X1 v_read v_due), (h_x1, o_X5 h_x1_codes v_x1_length), (h_x1_codes, o_I cI 66 v_x1_codes)] [(h_this, o_X1 q.2.1 q.2.2), (h_x1, o_X5 h_x1_codes v_x1_length), (h_x1_codes, o_I cI 66 v_x1_codes)] sz) 0 0 (va_A [(h_this, o_X1 v_read v_due), (h_x1, o_X5 h_x1_codes v_x1_length), (h_x1_codes, o_I cI 66 v_x1_codes)] sz) := by
  unfold f_X6_isWhole_X1 at hf
  refine k_met RX6 rfl (by decide +kernel) (Nat.le_of_ble_eq_true rfl) ?_
  intro p e s m below meth c A ls hx hb hr hml hown hts hlocks hin hsz hAe hA hK hN hZ hD hS hP hl
  have hl : lv_has ls 2 [(0, .ref h_this), (1, .ref h_x1)] := hl
  refine lv_aload_n hx hb dX6_isWhole_0 rfl (lv_at hl 0 rfl) ?_
  refine lv_aload_n hx hb dX6_isWhole_1 rfl (lv_at hl 1 rfl) ?_
  obtain ⟨q2, hq2, hf⟩ := k_bind hf
  refine k_calli (wN := [(h_this, o_X1 q2.2.1 q2.2.2), (h_x1, o_X5 h_x1_codes v_x1_length), (h_x1_codes, o_I cI 66 v_x1_codes)]) [0, 1, 2] [] [0, 1, 2] hP hD hS hA (va_runU (As := [.ref h_x1]) (rest := []) ⟨hx, hb, hml, hown, hts⟩ (k_X6_firstFault_X1 l D cB cI cJ cZ tL tK h_this h_x1 h_x1_codes _ v_read v_due v_x1_length v_x1_codes q2 hq2) (va_cwU (owner := "FrameBoard$Text") (x := ⟨"FrameBoard$Text", "firstFault", "(LFrameBoard$Page;)I"⟩) (C := RX1) 1 hts (k_gU m_142 m_293 m_294 m_295 m_141 m_53) rfl rfl rfl rfl (by decide +kernel) ⟨Nat.le_of_ble_eq_true rfl, Nat.le_of_ble_eq_true rfl⟩) (k_preV [0, 1, 2] hK hN hZ hP hD hS hA rfl rfl (va_recv hK hP (ci := 1) (q0 := 0) rfl rfl)) rfl rfl hl.1 rfl (lv_room (Nat.le_of_ble_eq_true rfl)) dX6_isWhole_2 ⟨Nat.le_refl _, Nat.le_refl _⟩) rfl rfl rfl rfl rfl (fun H locs hP hD hS => ?_)
  refine lv_aload_n hx hb dX6_isWhole_5 rfl (lv_at hl 1 rfl) ?_
  refine k_calli (wN := [(h_this, o_X1 q2.2.1 q2.2.2), (h_x1, o_X5 h_x1_codes v_x1_length), (h_x1_codes, o_I cI 66 v_x1_codes)]) [1] [0, 2] [0, 2, 1] hP hD hS hA (va_runV (As := []) (rest := [.int q2.1]) ⟨hx, hb, hml, hown, hts⟩ (k_X5_length l D cB cI cJ cZ tL tK h_x1 h_x1_codes _ v_x1_length (f_X5_length v_x1_length) rfl) (cwV 0 hts (k_gV m_105 m_167 m_103 m_104 m_14) rfl rfl rfl (by decide +kernel) ⟨Nat.le_of_ble_eq_true rfl, Nat.le_of_ble_eq_true rfl⟩) (k_preV [1] hK hN hZ hP hD hS hA rfl rfl (va_recv hK hP (ci := 5) (q0 := 1) rfl rfl)) rfl rfl hl.1 rfl (lv_room (Nat.le_of_ble_eq_true rfl)) dX6_isWhole_6 ⟨Nat.le_refl _, Nat.le_refl _⟩) rfl rfl rfl rfl rfl (fun H locs hP hD hS => ?_)
  refine lv_icmp_ne (tgt := 23) hx hb dX6_isWhole_9 (by decide) (fun c9 => ?_) (fun c9 => ?_)
  · replace hf := k_ifF c9 hf
    refine lv_iconst (v := 0) hx hb dX6_isWhole_23 (by decide) ?_
    cases hf
    exact k_zret (r := 0) hx hb hr rfl hlocks hAe hS hP hD dX6_isWhole_24
  · replace hf := k_ifT c9 hf
    refine lv_aload_n hx hb dX6_isWhole_12 rfl (lv_at hl 0 rfl) ?_
    refine k_calli (wN := [(h_this, o_X1 q2.2.1 q2.2.2), (h_x1, o_X5 h_x1_codes v_x1_length), (h_x1_codes, o_I cI 66 v_x1_codes)]) [0] [1, 2] [2, 0, 1] hP hD hS hA (va_runU (As := []) (rest := []) ⟨hx, hb, hml, hown, hts⟩ (k_X1_isComplete l D cB cI cJ cZ tL tK h_this _ q2.2.1 q2.2.2 (f_X1_isComplete q2.2.2) rfl) (va_cwA (owner := "FrameBoard$Text") (x := ⟨"FrameBoard$Text", "isComplete", "()Z"⟩) (C := RX1) 0 hts (k_gU m_301 m_297 m_298 m_299 m_300 m_22) rfl rfl rfl (hN.2 _ (List.mem_of_getElem? (i := 4) rfl)) (by decide +kernel) ⟨Nat.le_of_ble_eq_true rfl, Nat.le_of_ble_eq_true rfl⟩) (k_preV [0] hK hN hZ hP hD hS hA rfl rfl (va_recv hK hP (ci := 1) (q0 := 0) rfl rfl)) rfl rfl hl.1 rfl (lv_room (Nat.le_of_ble_eq_true rfl)) dX6_isWhole_13 ⟨Nat.le_refl _, Nat.le_refl _⟩) rfl rfl rfl rfl rfl (fun H locs hP hD hS => ?_)
    refine lv_if_eq (tgt := 23) hx hb dX6_isWhole_16 (by decide) (fun c16 => ?_) (fun c16 => ?_)
    · replace hf := k_ifT c16 hf
      refine lv_iconst (v := 0) hx hb dX6_isWhole_23 (by decide) ?_
      cases hf
      exact k_zret (r := 0) hx hb hr rfl hlocks hAe hS hP hD dX6_isWhole_24
    · replace hf := k_ifF c16 hf
      refine lv_iconst (v := 1) hx hb dX6_isWhole_19 (by decide) ?_
      refine lv_goto (tgt := 24) hx hb dX6_isWhole_20 (by decide) ?_
      cases hf
      exact k_zret (r := 1) hx hb hr rfl hlocks hAe hS hP hD dX6_isWhole_24
