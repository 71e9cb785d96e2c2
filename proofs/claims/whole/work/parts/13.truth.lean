set_option maxHeartbeats 4000000 in
set_option maxRecDepth 100000 in
theorem k_X7_allLanes (l : Launch) (D : va_G) (cB cI cJ cZ : ClassId) (tL tK : Nat) (sz : Nat)  (x1 : Int32) (q : Int64) (hf : f_X7_allLanes x1 = q) : Met l yX7_allLanes (.code yX7_allLanes cX7_allLanes 1 (some .long) :: k_all) { frames := 0, cells := 0, slots := 0, locals := 0 } (k_P D cB cI cJ cZ tL tK [.int x1] [] sz) (k_L D q [] [] sz) 0 0 (va_A [] sz) := by
  unfold f_X7_allLanes at hf
  refine k_met RX7 rfl (by decide +kernel) (Nat.le_of_ble_eq_true rfl) ?_
  intro p e s m below meth c A ls hx hb hr hml hown hts hlocks hin hsz hAe hA hK hN hZ hD hS hP hl
  have hl : lv_has ls 1 [(0, .int x1)] := hl
  refine lv_iload_n hx hb dX7_allLanes_0 rfl (lv_at hl 0 rfl) ?_
  refine lv_if_ne (tgt := 8) hx hb dX7_allLanes_1 (by decide) (fun c1 => ?_) (fun c1 => ?_)
  · replace hf := k_ifF c1 hf
    refine lv_ldc2 (v := (-1)) hx hb hown (hts _ m_544) dX7_allLanes_8 ?_
    subst hf
    exact k_lret hx hb hr hlocks hAe hS hP hD dX7_allLanes_11
  · replace hf := k_ifT c1 hf
    refine lv_lconst (v := 0) hx hb dX7_allLanes_4 (by decide) ?_
    refine lv_goto (tgt := 11) hx hb dX7_allLanes_5 (by decide) ?_
    subst hf
    exact k_lret hx hb hr hlocks hAe hS hP hD dX7_allLanes_11
set_option maxHeartbeats 4000000 in
set_option maxRecDepth 100000 in
theorem k_X7_setLetters (l : Launch) (D : va_G) (cB cI cJ cZ : ClassId) (tL tK : Nat) (h_this h_p h_q h_held : Nat) (sz : Nat) (v_p : (Nat → Int64)) (v_q : (Nat → Int64)) (x1 : Int32) (x2 : Int64) (x3 : Int64) (q : (Nat → Int64) × (Nat → Int64)) (hf : f_X7_setLetters v_p v_q x1 x2 x3 = some q) : Met l yX7_setLetters (.code yX7_setLetters cX7_setLetters 6 none :: k_all) { frames := 1, cells := 0, slots := 0, locals := 21 } (k_P D cB cI cJ cZ tL tK [.ref h_this, .int x1, .long x2, .long x3] [(h_this, o_X7 h_p h_q h_held), (h_p, o_J cJ 4 v_p), (h_q, o_J cJ 4 v_q)] sz) (k_V D [(h_this, o_X7 h_p h_q h_held), (h_p, o_J cJ 4 v_p), (h_q, o_J cJ 4 v_q)] [(h_this, o_X7 h_p h_q h_held), (h_p, o_J cJ 4 q.1), (h_q, o_J cJ 4 q.2)] sz) 0 0 (va_A [(h_this, o_X7 h_p h_q h_held), (h_p, o_J cJ 4 v_p), (h_q, o_J cJ 4 v_q)] sz) := by
  unfold f_X7_setLetters at hf
  refine k_met RX7 rfl (by decide +kernel) (Nat.le_of_ble_eq_true rfl) ?_
  intro p e s m below meth c A ls hx hb hr hml hown hts hlocks hin hsz hAe hA hK hN hZ hD hS hP hl
  have hl : lv_has ls 6 [(0, .ref h_this), (1, .int x1), (2, .long x2), (4, .long x3)] := hl
  refine lv_iload_n hx hb dX7_setLetters_0 rfl (lv_at hl 1 rfl) ?_
  refine lv_aload_n hx hb dX7_setLetters_1 rfl (lv_at hl 0 rfl) ?_
  refine va_get (D := D) (ci := 6) (v := .ref h_p) (C := RX7) (T := TX7) (N := 3) hx hb hts inlX7 hown hK hP 0 rfl rfl 0 (by decide) (hts _ m_74) (fun _ h9 => h9) rfl dX7_setLetters_2 ?_
  refine va_alen (D := D) (v := 4) hx hb hK hP 1 2 rfl rfl rfl dX7_setLetters_5 ?_
  refine k_calli (wN := [(h_this, o_X7 h_p h_q h_held), (h_p, o_J cJ 4 v_p), (h_q, o_J cJ 4 v_q)]) [] [0, 1, 2] [0, 1, 2] hP hD hS hA (va_runSN (As := [.int x1, .int 4]) (rest := []) ⟨hx, hb, hml, hown, hts⟩ (k_X8_isBelow l D cB cI cJ cZ tL tK _ x1 4 (f_X8_isBelow x1 4) rfl) ⟨va_cnB 2 hts (k_gB m_112) rfl rfl rfl (hN.1 _ (List.mem_of_getElem? (i := 16) rfl)) (hts _ m_2) (by decide +kernel) ⟨Nat.le_of_ble_eq_true rfl, Nat.le_of_ble_eq_true rfl⟩, (hts _ m_111), trivial⟩ (k_preS [] hK hN hZ hP hD hS hA rfl rfl) rfl rfl hl.1 rfl (lv_room (Nat.le_of_ble_eq_true rfl)) dX7_setLetters_6 ⟨Nat.le_refl _, Nat.le_refl _⟩) rfl rfl rfl rfl rfl (fun H locs hP hD hS => ?_)
  refine lv_if_eq (tgt := 39) hx hb dX7_setLetters_9 (by decide) (fun c9 => ?_) (fun c9 => ?_)
  · replace hf := k_ifT c9 hf
    cases hf
    exact k_vret hx hb hr hlocks hAe hS hP hD dX7_setLetters_39
  · replace hf := k_ifF c9 hf
    refine lv_iload_n hx hb dX7_setLetters_12 rfl (lv_at hl 1 rfl) ?_
    refine lv_aload_n hx hb dX7_setLetters_13 rfl (lv_at hl 0 rfl) ?_
    refine va_get (D := D) (ci := 6) (v := .ref h_q) (C := RX7) (T := TX7) (N := 3) hx hb hts inlX7 hown hK hP 0 rfl rfl 1 (by decide) (hts _ m_75) (fun _ h9 => h9) rfl dX7_setLetters_14 ?_
    refine va_alen (D := D) (v := 4) hx hb hK hP 2 2 rfl rfl rfl dX7_setLetters_17 ?_
    refine k_calli (wN := [(h_this, o_X7 h_p h_q h_held), (h_p, o_J cJ 4 v_p), (h_q, o_J cJ 4 v_q)]) [] [0, 1, 2] [0, 1, 2] hP hD hS hA (va_runSN (As := [.int x1, .int 4]) (rest := []) ⟨hx, hb, hml, hown, hts⟩ (k_X8_isBelow l D cB cI cJ cZ tL tK _ x1 4 (f_X8_isBelow x1 4) rfl) ⟨va_cnB 2 hts (k_gB m_112) rfl rfl rfl (hN.1 _ (List.mem_of_getElem? (i := 16) rfl)) (hts _ m_2) (by decide +kernel) ⟨Nat.le_of_ble_eq_true rfl, Nat.le_of_ble_eq_true rfl⟩, (hts _ m_111), trivial⟩ (k_preS [] hK hN hZ hP hD hS hA rfl rfl) rfl rfl hl.1 rfl (lv_room (Nat.le_of_ble_eq_true rfl)) dX7_setLetters_18 ⟨Nat.le_refl _, Nat.le_refl _⟩) rfl rfl rfl rfl rfl (fun H locs hP hD hS => ?_)
    refine lv_if_eq (tgt := 39) hx hb dX7_setLetters_21 (by decide) (fun c21 => ?_) (fun c21 => ?_)
    · replace hf := k_ifT c21 hf
      cases hf
      exact k_vret hx hb hr hlocks hAe hS hP hD dX7_setLetters_39
    · replace hf := k_ifF c21 hf
      refine lv_aload_n hx hb dX7_setLetters_24 rfl (lv_at hl 0 rfl) ?_
      refine va_get (D := D) (ci := 6) (v := .ref h_p) (C := RX7) (T := TX7) (N := 3) hx hb hts inlX7 hown hK hP 0 rfl rfl 0 (by decide) (hts _ m_74) (fun _ h9 => h9) rfl dX7_setLetters_25 ?_
      refine lv_iload_n hx hb dX7_setLetters_28 rfl (lv_at hl 1 rfl) ?_
      refine lv_lload_n hx hb dX7_setLetters_29 rfl (lv_at hl 2 rfl) ?_
      obtain ⟨hi30, hf⟩ := k_chk_some hf
      refine va_last (D := D) hx hb hK hP hD hS 1 2 rfl rfl hi30 dX7_setLetters_30 (fun H locs hP hD hS => ?_)
      have hP : va_P D vwCl [(h_this, o_X7 h_p h_q h_held), (h_p, o_J cJ 4 (vp_updL v_p (Int32.toNatClampNeg x1) x2)), (h_q, o_J cJ 4 v_q)] H := hP
      have hD : va_D A [(h_this, o_X7 h_p h_q h_held), (h_p, o_J cJ 4 (vp_updL v_p (Int32.toNatClampNeg x1) x2)), (h_q, o_J cJ 4 v_q)] := hD
      refine lv_aload_n hx hb dX7_setLetters_31 rfl (lv_at hl 0 rfl) ?_
      refine va_get (D := D) (ci := 6) (v := .ref h_q) (C := RX7) (T := TX7) (N := 3) hx hb hts inlX7 hown hK hP 0 rfl rfl 1 (by decide) (hts _ m_75) (fun _ h9 => h9) rfl dX7_setLetters_32 ?_
      refine lv_iload_n hx hb dX7_setLetters_35 rfl (lv_at hl 1 rfl) ?_
      refine lv_lload hx hb dX7_setLetters_36 (lv_at hl 3 rfl) ?_
      obtain ⟨hi38, hf⟩ := k_chk_some hf
      refine va_last (D := D) hx hb hK hP hD hS 2 2 rfl rfl hi38 dX7_setLetters_38 (fun H locs hP hD hS => ?_)
      have hP : va_P D vwCl [(h_this, o_X7 h_p h_q h_held), (h_p, o_J cJ 4 (vp_updL v_p (Int32.toNatClampNeg x1) x2)), (h_q, o_J cJ 4 (vp_updL v_q (Int32.toNatClampNeg x1) x3))] H := hP
      have hD : va_D A [(h_this, o_X7 h_p h_q h_held), (h_p, o_J cJ 4 (vp_updL v_p (Int32.toNatClampNeg x1) x2)), (h_q, o_J cJ 4 (vp_updL v_q (Int32.toNatClampNeg x1) x3))] := hD
      cases hf
      exact k_vret hx hb hr hlocks hAe hS hP hD dX7_setLetters_39
set_option maxHeartbeats 4000000 in
set_option maxRecDepth 100000 in
theorem k_X7_useOwn (l : Launch) (D : va_G) (cB cI cJ cZ : ClassId) (tL tK : Nat) (h_this h_p h_q h_held h_x1 : Nat) (sz : Nat) (v_p : (Nat → Int64)) (v_q : (Nat → Int64)) (v_x1_kind : Int32) (v_x1_worlds : Int32) (v_x1_arrows : Int32) (v_x1_p : Int32) (v_x1_q : Int32)  (q : (Nat → Int64) × (Nat → Int64)) (hf : f_X7_useOwn v_p v_q v_x1_p v_x1_q = some q) : Met l yX7_useOwn (.code yX7_useOwn cX7_useOwn 4 none :: k_all) { frames := 2, cells := 0, slots := 0, locals := 46 } (k_P D cB cI cJ cZ tL tK [.ref h_this, .ref h_x1] [(h_this, o_X7 h_p h_q h_held), (h_p, o_J cJ 4 v_p), (h_q, o_J cJ 4 v_q), (h_x1, o_X2 v_x1_kind v_x1_worlds v_x1_arrows v_x1_p v_x1_q)] sz) (k_V D [(h_this, o_X7 h_p h_q h_held), (h_p, o_J cJ 4 v_p), (h_q, o_J cJ 4 v_q), (h_x1, o_X2 v_x1_kind v_x1_worlds v_x1_arrows v_x1_p v_x1_q)] [(h_this, o_X7 h_p h_q h_held), (h_p, o_J cJ 4 q.1), (h_q, o_J cJ 4 q.2), (h_x1, o_X2 v_x1_kind v_x1_worlds v_x1_arrows v_x1_p v_x1_q)] sz) 0 0 (va_A [(h_this, o_X7 h_p h_q h_held), (h_p, o_J cJ 4 v_p), (h_q, o_J cJ 4 v_q), (h_x1, o_X2 v_x1_kind v_x1_worlds v_x1_arrows v_x1_p v_x1_q)] sz) := by
  unfold f_X7_useOwn at hf
  refine k_met RX7 rfl (by decide +kernel) (Nat.le_of_ble_eq_true rfl) ?_
  intro p e s m below meth c A ls hx hb hr hml hown hts hlocks hin hsz hAe hA hK hN hZ hD hS hP hl
  have hl : lv_has ls 4 [(0, .ref h_this), (1, .ref h_x1)] := hl
  refine lv_iconst (v := 0) hx hb dX7_useOwn_0 (by decide) ?_
  refine lv_istore_n (lv' := [(2, .int 0), (0, .ref h_this), (1, .ref h_x1)]) hx hb dX7_useOwn_1 rfl hl (by decide) rfl (fun ls hl => ?_)
  refine k_wl 40 (wsf := fun (a2 : Int32 × (Nat → Int64) × (Nat → Int64)) => [(h_this, o_X7 h_p h_q h_held), (h_p, o_J cJ 4 a2.2.1), (h_q, o_J cJ 4 a2.2.2), (h_x1, o_X2 v_x1_kind v_x1_worlds v_x1_arrows v_x1_p v_x1_q)]) (lvf := fun (a2 : Int32 × (Nat → Int64) × (Nat → Int64)) => [(0, .ref h_this), (1, .ref h_x1), (2, .int a2.1)]) hf hP hD hS (lv_sub hl [1, 2, 0] rfl) ?_ ?_
  · intro a2 H locs ls hf hP hD hS hl
    have hP : va_P D vwCl [(h_this, o_X7 h_p h_q h_held), (h_p, o_J cJ 4 a2.2.1), (h_q, o_J cJ 4 a2.2.2), (h_x1, o_X2 v_x1_kind v_x1_worlds v_x1_arrows v_x1_p v_x1_q)] H := hP
    have hD : va_D A [(h_this, o_X7 h_p h_q h_held), (h_p, o_J cJ 4 a2.2.1), (h_q, o_J cJ 4 a2.2.2), (h_x1, o_X2 v_x1_kind v_x1_worlds v_x1_arrows v_x1_p v_x1_q)] := hD
    have hl : lv_has ls 4 [(0, .ref h_this), (1, .ref h_x1), (2, .int a2.1)] := hl
    cases hf
    exact k_vret hx hb hr hlocks hAe hS hP hD dX7_useOwn_40
  · intro ex2 rc2 hE2 hR2 a2 H locs ls hf hP hD hS hl
    have hP : va_P D vwCl [(h_this, o_X7 h_p h_q h_held), (h_p, o_J cJ 4 a2.2.1), (h_q, o_J cJ 4 a2.2.2), (h_x1, o_X2 v_x1_kind v_x1_worlds v_x1_arrows v_x1_p v_x1_q)] H := hP
    have hD : va_D A [(h_this, o_X7 h_p h_q h_held), (h_p, o_J cJ 4 a2.2.1), (h_q, o_J cJ 4 a2.2.2), (h_x1, o_X2 v_x1_kind v_x1_worlds v_x1_arrows v_x1_p v_x1_q)] := hD
    have hl : lv_has ls 4 [(0, .ref h_this), (1, .ref h_x1), (2, .int a2.1)] := hl
    refine lv_iload_n hx hb dX7_useOwn_2 rfl (lv_at hl 2 rfl) ?_
    refine lv_iconst (v := 4) hx hb dX7_useOwn_3 (by decide) ?_
    refine lv_icmp_ge (tgt := 40) hx hb dX7_useOwn_4 (by decide) (fun c4 => ?_) (fun c4 => ?_)
    · replace hf := k_ifT c4 hf
      exact hE2 _ _ _ _ hf hP hD hS (lv_sub hl [0, 1, 2] rfl)
    · replace hf := k_ifF c4 hf
      refine lv_aload_n hx hb dX7_useOwn_7 rfl (lv_at hl 1 rfl) ?_
      refine lv_iload_n hx hb dX7_useOwn_8 rfl (lv_at hl 2 rfl) ?_
      refine k_calli (wN := [(h_this, o_X7 h_p h_q h_held), (h_p, o_J cJ 4 a2.2.1), (h_q, o_J cJ 4 a2.2.2), (h_x1, o_X2 v_x1_kind v_x1_worlds v_x1_arrows v_x1_p v_x1_q)]) [3] [0, 1, 2] [0, 1, 2, 3] hP hD hS hA (va_runV (As := [.int a2.1]) (rest := []) ⟨hx, hb, hml, hown, hts⟩ (k_X2_marks l D cB cI cJ cZ tL tK h_x1 _ v_x1_kind v_x1_worlds v_x1_arrows v_x1_p v_x1_q a2.1 (f_X2_marks v_x1_p v_x1_q a2.1) rfl) (cwV 1 hts (k_gV m_228 m_540 m_226 m_227 m_26) rfl rfl rfl (by decide +kernel) ⟨Nat.le_of_ble_eq_true rfl, Nat.le_of_ble_eq_true rfl⟩) (k_preV [3] hK hN hZ hP hD hS hA rfl rfl (va_recv hK hP (ci := 2) (q0 := 3) rfl rfl)) rfl rfl hl.1 rfl (lv_room (Nat.le_of_ble_eq_true rfl)) dX7_useOwn_9 ⟨Nat.le_refl _, Nat.le_refl _⟩) rfl rfl rfl rfl rfl (fun H locs hP hD hS => ?_)
      refine lv_istore_n (lv' := [(3, .int (f_X2_marks v_x1_p v_x1_q a2.1)), (0, .ref h_this), (1, .ref h_x1), (2, .int a2.1)]) hx hb dX7_useOwn_12 rfl hl (by decide) rfl (fun ls hl => ?_)
      refine lv_aload_n hx hb dX7_useOwn_13 rfl (lv_at hl 1 rfl) ?_
      refine lv_iload_n hx hb dX7_useOwn_14 rfl (lv_at hl 3 rfl) ?_
      refine lv_iload_n hx hb dX7_useOwn_15 rfl (lv_at hl 0 rfl) ?_
      refine lv_iconst (v := 0) hx hb dX7_useOwn_16 (by decide) ?_
      refine k_calli (wN := [(h_this, o_X7 h_p h_q h_held), (h_p, o_J cJ 4 a2.2.1), (h_q, o_J cJ 4 a2.2.2), (h_x1, o_X2 v_x1_kind v_x1_worlds v_x1_arrows v_x1_p v_x1_q)]) [] [0, 1, 2, 3] [0, 1, 2, 3] hP hD hS hA (va_runSN (As := [.int (f_X2_marks v_x1_p v_x1_q a2.1), .int 0]) (rest := [.int a2.1, .ref h_this]) ⟨hx, hb, hml, hown, hts⟩ (k_X8_bit l D cB cI cJ cZ tL tK _ (f_X2_marks v_x1_p v_x1_q a2.1) 0 (f_X8_bit (f_X2_marks v_x1_p v_x1_q a2.1) 0) rfl) ⟨va_cnB 2 hts (k_gB m_230) rfl rfl rfl (hN.1 _ (List.mem_of_getElem? (i := 15) rfl)) (hts _ m_2) (by decide +kernel) ⟨Nat.le_of_ble_eq_true rfl, Nat.le_of_ble_eq_true rfl⟩, (hts _ m_229), trivial⟩ (k_preS [] hK hN hZ hP hD hS hA rfl rfl) rfl rfl hl.1 rfl (lv_room (Nat.le_of_ble_eq_true rfl)) dX7_useOwn_17 ⟨Nat.le_refl _, Nat.le_refl _⟩) rfl rfl rfl rfl rfl (fun H locs hP hD hS => ?_)
      refine k_calll (wN := [(h_this, o_X7 h_p h_q h_held), (h_p, o_J cJ 4 a2.2.1), (h_q, o_J cJ 4 a2.2.2), (h_x1, o_X2 v_x1_kind v_x1_worlds v_x1_arrows v_x1_p v_x1_q)]) [] [0, 1, 2, 3] [0, 1, 2, 3] hP hD hS hA (va_runS (As := [.int (f_X8_bit (f_X2_marks v_x1_p v_x1_q a2.1) 0)]) (rest := [.int a2.1, .ref h_this]) ⟨hx, hb, hml, hown, hts⟩ (k_X7_allLanes l D cB cI cJ cZ tL tK _ (f_X8_bit (f_X2_marks v_x1_p v_x1_q a2.1) 0) (f_X7_allLanes (f_X8_bit (f_X2_marks v_x1_p v_x1_q a2.1) 0)) rfl) (va_cwS 1 hts (k_gS m_543 m_541 m_542 m_41) rfl rfl rfl (by decide +kernel) ⟨Nat.le_of_ble_eq_true rfl, Nat.le_of_ble_eq_true rfl⟩) (k_preS [] hK hN hZ hP hD hS hA rfl rfl) rfl rfl hl.1 rfl (lv_room (Nat.le_of_ble_eq_true rfl)) dX7_useOwn_20 ⟨Nat.le_refl _, Nat.le_refl _⟩) rfl rfl rfl rfl rfl (fun H locs hP hD hS => ?_)
      refine lv_iload_n hx hb dX7_useOwn_23 rfl (lv_at hl 0 rfl) ?_
      refine lv_iconst (v := 1) hx hb dX7_useOwn_24 (by decide) ?_
      refine k_calli (wN := [(h_this, o_X7 h_p h_q h_held), (h_p, o_J cJ 4 a2.2.1), (h_q, o_J cJ 4 a2.2.2), (h_x1, o_X2 v_x1_kind v_x1_worlds v_x1_arrows v_x1_p v_x1_q)]) [] [0, 1, 2, 3] [0, 1, 2, 3] hP hD hS hA (va_runSN (As := [.int (f_X2_marks v_x1_p v_x1_q a2.1), .int 1]) (rest := [.long (f_X7_allLanes (f_X8_bit (f_X2_marks v_x1_p v_x1_q a2.1) 0)), .int a2.1, .ref h_this]) ⟨hx, hb, hml, hown, hts⟩ (k_X8_bit l D cB cI cJ cZ tL tK _ (f_X2_marks v_x1_p v_x1_q a2.1) 1 (f_X8_bit (f_X2_marks v_x1_p v_x1_q a2.1) 1) rfl) ⟨va_cnB 2 hts (k_gB m_230) rfl rfl rfl (hN.1 _ (List.mem_of_getElem? (i := 15) rfl)) (hts _ m_2) (by decide +kernel) ⟨Nat.le_of_ble_eq_true rfl, Nat.le_of_ble_eq_true rfl⟩, (hts _ m_229), trivial⟩ (k_preS [] hK hN hZ hP hD hS hA rfl rfl) rfl rfl hl.1 rfl (lv_room (Nat.le_of_ble_eq_true rfl)) dX7_useOwn_25 ⟨Nat.le_refl _, Nat.le_refl _⟩) rfl rfl rfl rfl rfl (fun H locs hP hD hS => ?_)
      refine k_calll (wN := [(h_this, o_X7 h_p h_q h_held), (h_p, o_J cJ 4 a2.2.1), (h_q, o_J cJ 4 a2.2.2), (h_x1, o_X2 v_x1_kind v_x1_worlds v_x1_arrows v_x1_p v_x1_q)]) [] [0, 1, 2, 3] [0, 1, 2, 3] hP hD hS hA (va_runS (As := [.int (f_X8_bit (f_X2_marks v_x1_p v_x1_q a2.1) 1)]) (rest := [.long (f_X7_allLanes (f_X8_bit (f_X2_marks v_x1_p v_x1_q a2.1) 0)), .int a2.1, .ref h_this]) ⟨hx, hb, hml, hown, hts⟩ (k_X7_allLanes l D cB cI cJ cZ tL tK _ (f_X8_bit (f_X2_marks v_x1_p v_x1_q a2.1) 1) (f_X7_allLanes (f_X8_bit (f_X2_marks v_x1_p v_x1_q a2.1) 1)) rfl) (va_cwS 1 hts (k_gS m_543 m_541 m_542 m_41) rfl rfl rfl (by decide +kernel) ⟨Nat.le_of_ble_eq_true rfl, Nat.le_of_ble_eq_true rfl⟩) (k_preS [] hK hN hZ hP hD hS hA rfl rfl) rfl rfl hl.1 rfl (lv_room (Nat.le_of_ble_eq_true rfl)) dX7_useOwn_28 ⟨Nat.le_refl _, Nat.le_refl _⟩) rfl rfl rfl rfl rfl (fun H locs hP hD hS => ?_)
      obtain ⟨q31, hq31, hf⟩ := k_bind hf
      refine k_callv (wN := [(h_this, o_X7 h_p h_q h_held), (h_p, o_J cJ 4 q31.1), (h_q, o_J cJ 4 q31.2), (h_x1, o_X2 v_x1_kind v_x1_worlds v_x1_arrows v_x1_p v_x1_q)]) [0, 1, 2] [3] [1, 2, 3, 0] hP hD hS hA (va_runV (As := [.int a2.1, .long (f_X7_allLanes (f_X8_bit (f_X2_marks v_x1_p v_x1_q a2.1) 0)), .long (f_X7_allLanes (f_X8_bit (f_X2_marks v_x1_p v_x1_q a2.1) 1))]) (rest := []) ⟨hx, hb, hml, hown, hts⟩ (k_X7_setLetters l D cB cI cJ cZ tL tK h_this h_p h_q h_held _ a2.2.1 a2.2.2 a2.1 (f_X7_allLanes (f_X8_bit (f_X2_marks v_x1_p v_x1_q a2.1) 0)) (f_X7_allLanes (f_X8_bit (f_X2_marks v_x1_p v_x1_q a2.1) 1)) q31 hq31) (cwV 3 hts (k_gV m_548 m_545 m_546 m_547 m_41) rfl rfl rfl (by decide +kernel) ⟨Nat.le_of_ble_eq_true rfl, Nat.le_of_ble_eq_true rfl⟩) (k_preV [0, 1, 2] hK hN hZ hP hD hS hA rfl rfl (va_recv hK hP (ci := 6) (q0 := 0) rfl rfl)) rfl rfl hl.1 rfl (lv_room (Nat.le_of_ble_eq_true rfl)) dX7_useOwn_31 ⟨Nat.le_refl _, Nat.le_refl _⟩) rfl rfl rfl rfl rfl (fun H locs hP hD hS => ?_)
      refine lv_iinc (v := (a2.1 + 1)) (lv' := [(2, .int (a2.1 + 1)), (3, .int (f_X2_marks v_x1_p v_x1_q a2.1)), (0, .ref h_this), (1, .ref h_x1)]) hx hb dX7_useOwn_34 hl (k := 3) rfl rfl (by decide) rfl (fun ls hl => ?_)
      refine lv_goto (tgt := 2) hx hb dX7_useOwn_37 (by decide) ?_
      exact hR2 _ _ _ _ hf hP hD hS (lv_sub hl [2, 3, 0] rfl)
set_option maxHeartbeats 4000000 in
set_option maxRecDepth 100000 in
theorem k_X7_at (l : Launch) (D : va_G) (cB cI cJ cZ : ClassId) (tL tK : Nat) (h_this h_p h_q h_held : Nat) (sz : Nat) (v_held : (Nat → Int64)) (x1 : Int32) (x2 : Int32) (q : Int64) (hf : f_X7_at v_held x1 x2 = some q) : Met l yX7_at (.code yX7_at cX7_at 4 (some .long) :: k_all) { frames := 0, cells := 0, slots := 0, locals := 0 } (k_P D cB cI cJ cZ tL tK [.ref h_this, .int x1, .int x2] [(h_this, o_X7 h_p h_q h_held), (h_held, o_J cJ 64 v_held)] sz) (k_L D q [(h_this, o_X7 h_p h_q h_held), (h_held, o_J cJ 64 v_held)] [(h_this, o_X7 h_p h_q h_held), (h_held, o_J cJ 64 v_held)] sz) 0 0 (va_A [(h_this, o_X7 h_p h_q h_held), (h_held, o_J cJ 64 v_held)] sz) := by
  unfold f_X7_at at hf
  refine k_met RX7 rfl (by decide +kernel) (Nat.le_of_ble_eq_true rfl) ?_
  intro p e s m below meth c A ls hx hb hr hml hown hts hlocks hin hsz hAe hA hK hN hZ hD hS hP hl
  have hl : lv_has ls 4 [(0, .ref h_this), (1, .int x1), (2, .int x2)] := hl
  refine lv_iconst (v := 4) hx hb dX7_at_0 (by decide) ?_
  refine lv_iload_n hx hb dX7_at_1 rfl (lv_at hl 1 rfl) ?_
  refine lv_imul hx hb dX7_at_2 ?_
  refine lv_iload_n hx hb dX7_at_3 rfl (lv_at hl 2 rfl) ?_
  refine lv_iadd hx hb dX7_at_4 ?_
  refine lv_istore_n (lv' := [(3, .int ((4 * x1) + x2)), (0, .ref h_this), (1, .int x1), (2, .int x2)]) hx hb dX7_at_5 rfl hl (by decide) rfl (fun ls hl => ?_)
  refine lv_iload_n hx hb dX7_at_6 rfl (lv_at hl 0 rfl) ?_
  refine lv_if_lt (tgt := 28) hx hb dX7_at_7 (by decide) (fun c7 => ?_) (fun c7 => ?_)
  · replace hf := k_ifT c7 hf
    refine lv_lconst (v := 0) hx hb dX7_at_28 (by decide) ?_
    cases hf
    exact k_lret hx hb hr hlocks hAe hS hP hD dX7_at_29
  · replace hf := k_ifF c7 hf
    refine lv_iload_n hx hb dX7_at_10 rfl (lv_at hl 0 rfl) ?_
    refine lv_aload_n hx hb dX7_at_11 rfl (lv_at hl 1 rfl) ?_
    refine va_get (D := D) (ci := 6) (v := .ref h_held) (C := RX7) (T := TX7) (N := 3) hx hb hts inlX7 hown hK hP 0 rfl rfl 2 (by decide) (hts _ m_76) (fun _ h9 => h9) rfl dX7_at_12 ?_
    refine va_alen (D := D) (v := 64) hx hb hK hP 1 2 rfl rfl rfl dX7_at_15 ?_
    refine lv_icmp_ge (tgt := 28) hx hb dX7_at_16 (by decide) (fun c16 => ?_) (fun c16 => ?_)
    · replace hf := k_ifT c16 hf
      refine lv_lconst (v := 0) hx hb dX7_at_28 (by decide) ?_
      cases hf
      exact k_lret hx hb hr hlocks hAe hS hP hD dX7_at_29
    · replace hf := k_ifF c16 hf
      refine lv_aload_n hx hb dX7_at_19 rfl (lv_at hl 1 rfl) ?_
      refine va_get (D := D) (ci := 6) (v := .ref h_held) (C := RX7) (T := TX7) (N := 3) hx hb hts inlX7 hown hK hP 0 rfl rfl 2 (by decide) (hts _ m_76) (fun _ h9 => h9) rfl dX7_at_20 ?_
      refine lv_iload_n hx hb dX7_at_23 rfl (lv_at hl 0 rfl) ?_
      obtain ⟨hi24, hf⟩ := k_chk_some hf
      refine va_lald (D := D) hx hb hK hP 1 2 rfl rfl hi24 dX7_at_24 ?_
      refine lv_goto (tgt := 29) hx hb dX7_at_25 (by decide) ?_
      cases hf
      exact k_lret hx hb hr hlocks hAe hS hP hD dX7_at_29
set_option maxHeartbeats 4000000 in
set_option maxRecDepth 100000 in
theorem k_X7_inSome (l : Launch) (D : va_G) (cB cI cJ cZ : ClassId) (tL tK : Nat) (h_this h_p h_q h_held : Nat) (sz : Nat) (v_held : (Nat → Int64)) (x1 : Int32) (x2 : Int32) (q : Int64) (hf : f_X7_inSome v_held x1 x2 = some q) : Met l yX7_inSome (.code yX7_inSome cX7_inSome 6 (some .long) :: k_all) { frames := 1, cells := 0, slots := 0, locals := 23 } (k_P D cB cI cJ cZ tL tK [.ref h_this, .int x1, .int x2] [(h_this, o_X7 h_p h_q h_held), (h_held, o_J cJ 64 v_held)] sz) (k_L D q [(h_this, o_X7 h_p h_q h_held), (h_held, o_J cJ 64 v_held)] [(h_this, o_X7 h_p h_q h_held), (h_held, o_J cJ 64 v_held)] sz) 0 0 (va_A [(h_this, o_X7 h_p h_q h_held), (h_held, o_J cJ 64 v_held)] sz) := by
  unfold f_X7_inSome at hf
  refine k_met RX7 rfl (by decide +kernel) (Nat.le_of_ble_eq_true rfl) ?_
  intro p e s m below meth c A ls hx hb hr hml hown hts hlocks hin hsz hAe hA hK hN hZ hD hS hP hl
  have hl : lv_has ls 6 [(0, .ref h_this), (1, .int x1), (2, .int x2)] := hl
  refine lv_lconst (v := 0) hx hb dX7_inSome_0 (by decide) ?_
  refine lv_lstore_n (lv' := [(3, .long 0), (0, .ref h_this), (1, .int x1), (2, .int x2)]) hx hb dX7_inSome_1 rfl hl (by decide) rfl (fun ls hl => ?_)
  refine lv_iconst (v := 0) hx hb dX7_inSome_2 (by decide) ?_
  refine lv_istore (lv' := [(5, .int 0), (3, .long 0), (0, .ref h_this), (1, .int x1), (2, .int x2)]) hx hb dX7_inSome_3 hl (by decide) rfl (fun ls hl => ?_)
  refine k_wl 37 (wsf := fun (a5 : Int64 × Int32) => [(h_this, o_X7 h_p h_q h_held), (h_held, o_J cJ 64 v_held)]) (lvf := fun (a5 : Int64 × Int32) => [(0, .ref h_this), (1, .int x1), (2, .int x2), (3, .long a5.1), (5, .int a5.2)]) hf hP hD hS (lv_sub hl [2, 3, 4, 1, 0] rfl) ?_ ?_
  · intro a5 H locs ls hf hP hD hS hl
    have hP : va_P D vwCl [(h_this, o_X7 h_p h_q h_held), (h_held, o_J cJ 64 v_held)] H := hP
    have hD : va_D A [(h_this, o_X7 h_p h_q h_held), (h_held, o_J cJ 64 v_held)] := hD
    have hl : lv_has ls 6 [(0, .ref h_this), (1, .int x1), (2, .int x2), (3, .long a5.1), (5, .int a5.2)] := hl
    refine lv_lload_n hx hb dX7_inSome_37 rfl (lv_at hl 3 rfl) ?_
    cases hf
    exact k_lret hx hb hr hlocks hAe hS hP hD dX7_inSome_38
  · intro ex5 rc5 hE5 hR5 a5 H locs ls hf hP hD hS hl
    have hP : va_P D vwCl [(h_this, o_X7 h_p h_q h_held), (h_held, o_J cJ 64 v_held)] H := hP
    have hD : va_D A [(h_this, o_X7 h_p h_q h_held), (h_held, o_J cJ 64 v_held)] := hD
    have hl : lv_has ls 6 [(0, .ref h_this), (1, .int x1), (2, .int x2), (3, .long a5.1), (5, .int a5.2)] := hl
    refine lv_iload hx hb dX7_inSome_5 (lv_at hl 4 rfl) ?_
    refine lv_iconst (v := 4) hx hb dX7_inSome_7 (by decide) ?_
    refine lv_icmp_ge (tgt := 37) hx hb dX7_inSome_8 (by decide) (fun c8 => ?_) (fun c8 => ?_)
    · replace hf := k_ifT c8 hf
      exact hE5 _ _ _ _ hf hP hD hS (lv_sub hl [0, 1, 2, 3, 4] rfl)
    · replace hf := k_ifF c8 hf
      refine lv_iload_n hx hb dX7_inSome_11 rfl (lv_at hl 2 rfl) ?_
      refine lv_iload hx hb dX7_inSome_12 (lv_at hl 4 rfl) ?_
      refine k_calli (wN := [(h_this, o_X7 h_p h_q h_held), (h_held, o_J cJ 64 v_held)]) [] [0, 1] [0, 1] hP hD hS hA (va_runSN (As := [.int x2, .int a5.2]) (rest := []) ⟨hx, hb, hml, hown, hts⟩ (k_X8_bit l D cB cI cJ cZ tL tK _ x2 a5.2 (f_X8_bit x2 a5.2) rfl) ⟨va_cnB 2 hts (k_gB m_230) rfl rfl rfl (hN.1 _ (List.mem_of_getElem? (i := 15) rfl)) (hts _ m_2) (by decide +kernel) ⟨Nat.le_of_ble_eq_true rfl, Nat.le_of_ble_eq_true rfl⟩, (hts _ m_229), trivial⟩ (k_preS [] hK hN hZ hP hD hS hA rfl rfl) rfl rfl hl.1 rfl (lv_room (Nat.le_of_ble_eq_true rfl)) dX7_inSome_14 ⟨Nat.le_refl _, Nat.le_refl _⟩) rfl rfl rfl rfl rfl (fun H locs hP hD hS => ?_)
      refine lv_iconst (v := 1) hx hb dX7_inSome_17 (by decide) ?_
      refine lv_icmp_ne (tgt := 31) hx hb dX7_inSome_18 (by decide) (fun c18 => ?_) (fun c18 => ?_)
      · replace hf := k_ifF c18 hf
        refine lv_iinc (v := (a5.2 + 1)) (lv' := [(5, .int (a5.2 + 1)), (0, .ref h_this), (1, .int x1), (2, .int x2), (3, .long a5.1)]) hx hb dX7_inSome_31 hl (k := 4) rfl rfl (by decide) rfl (fun ls hl => ?_)
        refine lv_goto (tgt := 5) hx hb dX7_inSome_34 (by decide) ?_
        exact hR5 _ _ _ _ hf hP hD hS (lv_sub hl [1, 2, 3, 4, 0] rfl)
      · replace hf := k_ifT c18 hf
        refine lv_lload_n hx hb dX7_inSome_21 rfl (lv_at hl 3 rfl) ?_
        refine lv_aload_n hx hb dX7_inSome_22 rfl (lv_at hl 0 rfl) ?_
        refine lv_iload_n hx hb dX7_inSome_23 rfl (lv_at hl 1 rfl) ?_
        refine lv_iload hx hb dX7_inSome_24 (lv_at hl 4 rfl) ?_
        obtain ⟨q26, hq26, hf⟩ := k_bind hf
        refine k_calll (wN := [(h_this, o_X7 h_p h_q h_held), (h_held, o_J cJ 64 v_held)]) [0, 1] [] [0, 1] hP hD hS hA (va_runV (As := [.int x1, .int a5.2]) (rest := [.long a5.1]) ⟨hx, hb, hml, hown, hts⟩ (k_X7_at l D cB cI cJ cZ tL tK h_this h_p h_q h_held _ v_held x1 a5.2 q26 hq26) (cwV 2 hts (k_gV m_563 m_560 m_561 m_562 m_41) rfl rfl rfl (by decide +kernel) ⟨Nat.le_of_ble_eq_true rfl, Nat.le_of_ble_eq_true rfl⟩) (k_preV [0, 1] hK hN hZ hP hD hS hA rfl rfl (va_recv hK hP (ci := 6) (q0 := 0) rfl rfl)) rfl rfl hl.1 rfl (lv_room (Nat.le_of_ble_eq_true rfl)) dX7_inSome_26 ⟨Nat.le_refl _, Nat.le_refl _⟩) rfl rfl rfl rfl rfl (fun H locs hP hD hS => ?_)
        refine lv_lor hx hb dX7_inSome_29 ?_
        refine lv_lstore_n (lv' := [(3, .long (a5.1 ||| q26)), (0, .ref h_this), (1, .int x1), (2, .int x2), (5, .int a5.2)]) hx hb dX7_inSome_30 rfl hl (by decide) rfl (fun ls hl => ?_)
        refine lv_iinc (v := (a5.2 + 1)) (lv' := [(5, .int (a5.2 + 1)), (3, .long (a5.1 ||| q26)), (0, .ref h_this), (1, .int x1), (2, .int x2)]) hx hb dX7_inSome_31 hl (k := 4) rfl rfl (by decide) rfl (fun ls hl => ?_)
        refine lv_goto (tgt := 5) hx hb dX7_inSome_34 (by decide) ?_
        exact hR5 _ _ _ _ hf hP hD hS (lv_sub hl [2, 3, 4, 1, 0] rfl)
set_option maxHeartbeats 4000000 in
set_option maxRecDepth 100000 in
theorem k_X7_inAll (l : Launch) (D : va_G) (cB cI cJ cZ : ClassId) (tL tK : Nat) (h_this h_p h_q h_held : Nat) (sz : Nat) (v_held : (Nat → Int64)) (x1 : Int32) (x2 : Int32) (q : Int64) (hf : f_X7_inAll v_held x1 x2 = some q) : Met l yX7_inAll (.code yX7_inAll cX7_inAll 6 (some .long) :: k_all) { frames := 1, cells := 0, slots := 0, locals := 23 } (k_P D cB cI cJ cZ tL tK [.ref h_this, .int x1, .int x2] [(h_this, o_X7 h_p h_q h_held), (h_held, o_J cJ 64 v_held)] sz) (k_L D q [(h_this, o_X7 h_p h_q h_held), (h_held, o_J cJ 64 v_held)] [(h_this, o_X7 h_p h_q h_held), (h_held, o_J cJ 64 v_held)] sz) 0 0 (va_A [(h_this, o_X7 h_p h_q h_held), (h_held, o_J cJ 64 v_held)] sz) := by
  unfold f_X7_inAll at hf
  refine k_met RX7 rfl (by decide +kernel) (Nat.le_of_ble_eq_true rfl) ?_
  intro p e s m below meth c A ls hx hb hr hml hown hts hlocks hin hsz hAe hA hK hN hZ hD hS hP hl
  have hl : lv_has ls 6 [(0, .ref h_this), (1, .int x1), (2, .int x2)] := hl
  refine lv_ldc2 (v := (-1)) hx hb hown (hts _ m_544) dX7_inAll_0 ?_
  refine lv_lstore_n (lv' := [(3, .long (-1)), (0, .ref h_this), (1, .int x1), (2, .int x2)]) hx hb dX7_inAll_3 rfl hl (by decide) rfl (fun ls hl => ?_)
  refine lv_iconst (v := 0) hx hb dX7_inAll_4 (by decide) ?_
  refine lv_istore (lv' := [(5, .int 0), (3, .long (-1)), (0, .ref h_this), (1, .int x1), (2, .int x2)]) hx hb dX7_inAll_5 hl (by decide) rfl (fun ls hl => ?_)
  refine k_wl 39 (wsf := fun (a7 : Int64 × Int32) => [(h_this, o_X7 h_p h_q h_held), (h_held, o_J cJ 64 v_held)]) (lvf := fun (a7 : Int64 × Int32) => [(0, .ref h_this), (1, .int x1), (2, .int x2), (3, .long a7.1), (5, .int a7.2)]) hf hP hD hS (lv_sub hl [2, 3, 4, 1, 0] rfl) ?_ ?_
  · intro a7 H locs ls hf hP hD hS hl
    have hP : va_P D vwCl [(h_this, o_X7 h_p h_q h_held), (h_held, o_J cJ 64 v_held)] H := hP
    have hD : va_D A [(h_this, o_X7 h_p h_q h_held), (h_held, o_J cJ 64 v_held)] := hD
    have hl : lv_has ls 6 [(0, .ref h_this), (1, .int x1), (2, .int x2), (3, .long a7.1), (5, .int a7.2)] := hl
    refine lv_lload_n hx hb dX7_inAll_39 rfl (lv_at hl 3 rfl) ?_
    cases hf
    exact k_lret hx hb hr hlocks hAe hS hP hD dX7_inAll_40
  · intro ex7 rc7 hE7 hR7 a7 H locs ls hf hP hD hS hl
    have hP : va_P D vwCl [(h_this, o_X7 h_p h_q h_held), (h_held, o_J cJ 64 v_held)] H := hP
    have hD : va_D A [(h_this, o_X7 h_p h_q h_held), (h_held, o_J cJ 64 v_held)] := hD
    have hl : lv_has ls 6 [(0, .ref h_this), (1, .int x1), (2, .int x2), (3, .long a7.1), (5, .int a7.2)] := hl
    refine lv_iload hx hb dX7_inAll_7 (lv_at hl 4 rfl) ?_
    refine lv_iconst (v := 4) hx hb dX7_inAll_9 (by decide) ?_
    refine lv_icmp_ge (tgt := 39) hx hb dX7_inAll_10 (by decide) (fun c10 => ?_) (fun c10 => ?_)
    · replace hf := k_ifT c10 hf
      exact hE7 _ _ _ _ hf hP hD hS (lv_sub hl [0, 1, 2, 3, 4] rfl)
    · replace hf := k_ifF c10 hf
      refine lv_iload_n hx hb dX7_inAll_13 rfl (lv_at hl 2 rfl) ?_
      refine lv_iload hx hb dX7_inAll_14 (lv_at hl 4 rfl) ?_
      refine k_calli (wN := [(h_this, o_X7 h_p h_q h_held), (h_held, o_J cJ 64 v_held)]) [] [0, 1] [0, 1] hP hD hS hA (va_runSN (As := [.int x2, .int a7.2]) (rest := []) ⟨hx, hb, hml, hown, hts⟩ (k_X8_bit l D cB cI cJ cZ tL tK _ x2 a7.2 (f_X8_bit x2 a7.2) rfl) ⟨va_cnB 2 hts (k_gB m_230) rfl rfl rfl (hN.1 _ (List.mem_of_getElem? (i := 15) rfl)) (hts _ m_2) (by decide +kernel) ⟨Nat.le_of_ble_eq_true rfl, Nat.le_of_ble_eq_true rfl⟩, (hts _ m_229), trivial⟩ (k_preS [] hK hN hZ hP hD hS hA rfl rfl) rfl rfl hl.1 rfl (lv_room (Nat.le_of_ble_eq_true rfl)) dX7_inAll_16 ⟨Nat.le_refl _, Nat.le_refl _⟩) rfl rfl rfl rfl rfl (fun H locs hP hD hS => ?_)
      refine lv_iconst (v := 1) hx hb dX7_inAll_19 (by decide) ?_
      refine lv_icmp_ne (tgt := 33) hx hb dX7_inAll_20 (by decide) (fun c20 => ?_) (fun c20 => ?_)
      · replace hf := k_ifF c20 hf
        refine lv_iinc (v := (a7.2 + 1)) (lv' := [(5, .int (a7.2 + 1)), (0, .ref h_this), (1, .int x1), (2, .int x2), (3, .long a7.1)]) hx hb dX7_inAll_33 hl (k := 4) rfl rfl (by decide) rfl (fun ls hl => ?_)
        refine lv_goto (tgt := 7) hx hb dX7_inAll_36 (by decide) ?_
        exact hR7 _ _ _ _ hf hP hD hS (lv_sub hl [1, 2, 3, 4, 0] rfl)
      · replace hf := k_ifT c20 hf
        refine lv_lload_n hx hb dX7_inAll_23 rfl (lv_at hl 3 rfl) ?_
        refine lv_aload_n hx hb dX7_inAll_24 rfl (lv_at hl 0 rfl) ?_
        refine lv_iload_n hx hb dX7_inAll_25 rfl (lv_at hl 1 rfl) ?_
        refine lv_iload hx hb dX7_inAll_26 (lv_at hl 4 rfl) ?_
        obtain ⟨q28, hq28, hf⟩ := k_bind hf
        refine k_calll (wN := [(h_this, o_X7 h_p h_q h_held), (h_held, o_J cJ 64 v_held)]) [0, 1] [] [0, 1] hP hD hS hA (va_runV (As := [.int x1, .int a7.2]) (rest := [.long a7.1]) ⟨hx, hb, hml, hown, hts⟩ (k_X7_at l D cB cI cJ cZ tL tK h_this h_p h_q h_held _ v_held x1 a7.2 q28 hq28) (cwV 2 hts (k_gV m_563 m_560 m_561 m_562 m_41) rfl rfl rfl (by decide +kernel) ⟨Nat.le_of_ble_eq_true rfl, Nat.le_of_ble_eq_true rfl⟩) (k_preV [0, 1] hK hN hZ hP hD hS hA rfl rfl (va_recv hK hP (ci := 6) (q0 := 0) rfl rfl)) rfl rfl hl.1 rfl (lv_room (Nat.le_of_ble_eq_true rfl)) dX7_inAll_28 ⟨Nat.le_refl _, Nat.le_refl _⟩) rfl rfl rfl rfl rfl (fun H locs hP hD hS => ?_)
        refine lv_land hx hb dX7_inAll_31 ?_
        refine lv_lstore_n (lv' := [(3, .long (a7.1 &&& q28)), (0, .ref h_this), (1, .int x1), (2, .int x2), (5, .int a7.2)]) hx hb dX7_inAll_32 rfl hl (by decide) rfl (fun ls hl => ?_)
        refine lv_iinc (v := (a7.2 + 1)) (lv' := [(5, .int (a7.2 + 1)), (3, .long (a7.1 &&& q28)), (0, .ref h_this), (1, .int x1), (2, .int x2)]) hx hb dX7_inAll_33 hl (k := 4) rfl rfl (by decide) rfl (fun ls hl => ?_)
        refine lv_goto (tgt := 7) hx hb dX7_inAll_36 (by decide) ?_
        exact hR7 _ _ _ _ hf hP hD hS (lv_sub hl [2, 3, 4, 1, 0] rfl)
set_option maxHeartbeats 4000000 in
set_option maxRecDepth 100000 in
theorem k_X7_lanesOf (l : Launch) (D : va_G) (cB cI cJ cZ : ClassId) (tL tK : Nat) (h_this h_p h_q h_held h_x1 h_x1_signs h_x1_ends h_x2 : Nat) (sz : Nat) (v_p : (Nat → Int64)) (v_q : (Nat → Int64)) (v_held : (Nat → Int64)) (v_x1_length : Int32) (v_x1_signs : (Nat → Int32)) (v_x1_ends : (Nat → Int32)) (v_x2_kind : Int32) (v_x2_worlds : Int32) (v_x2_arrows : Int32) (v_x2_p : Int32) (v_x2_q : Int32) (x3 : Int32) (x4 : Int32) (q : Int64) (hf : f_X7_lanesOf v_p v_q v_held v_x1_length v_x1_signs v_x1_ends v_x2_arrows x3 x4 = some q) : Met l yX7_lanesOf (.code yX7_lanesOf cX7_lanesOf 6 (some .long) :: k_all) { frames := 2, cells := 0, slots := 0, locals := 48 } (k_P D cB cI cJ cZ tL tK [.ref h_this, .ref h_x1, .ref h_x2, .int x3, .int x4] [(h_this, o_X7 h_p h_q h_held), (h_p, o_J cJ 4 v_p), (h_q, o_J cJ 4 v_q), (h_held, o_J cJ 64 v_held), (h_x1, o_X0 h_x1_signs h_x1_ends v_x1_length), (h_x1_signs, o_I cI 16 v_x1_signs), (h_x1_ends, o_I cI 16 v_x1_ends), (h_x2, o_X2 v_x2_kind v_x2_worlds v_x2_arrows v_x2_p v_x2_q)] sz) (k_L D q [(h_this, o_X7 h_p h_q h_held), (h_p, o_J cJ 4 v_p), (h_q, o_J cJ 4 v_q), (h_held, o_J cJ 64 v_held), (h_x1, o_X0 h_x1_signs h_x1_ends v_x1_length), (h_x1_signs, o_I cI 16 v_x1_signs), (h_x1_ends, o_I cI 16 v_x1_ends), (h_x2, o_X2 v_x2_kind v_x2_worlds v_x2_arrows v_x2_p v_x2_q)] [(h_this, o_X7 h_p h_q h_held), (h_p, o_J cJ 4 v_p), (h_q, o_J cJ 4 v_q), (h_held, o_J cJ 64 v_held), (h_x1, o_X0 h_x1_signs h_x1_ends v_x1_length), (h_x1_signs, o_I cI 16 v_x1_signs), (h_x1_ends, o_I cI 16 v_x1_ends), (h_x2, o_X2 v_x2_kind v_x2_worlds v_x2_arrows v_x2_p v_x2_q)] sz) 0 0 (va_A [(h_this, o_X7 h_p h_q h_held), (h_p, o_J cJ 4 v_p), (h_q, o_J cJ 4 v_q), (h_held, o_J cJ 64 v_held), (h_x1, o_X0 h_x1_signs h_x1_ends v_x1_length), (h_x1_signs, o_I cI 16 v_x1_signs), (h_x1_ends, o_I cI 16 v_x1_ends), (h_x2, o_X2 v_x2_kind v_x2_worlds v_x2_arrows v_x2_p v_x2_q)] sz) := by
  unfold f_X7_lanesOf at hf
  refine k_met RX7 rfl (by decide +kernel) (Nat.le_of_ble_eq_true rfl) ?_
  intro p e s m below meth c A ls hx hb hr hml hown hts hlocks hin hsz hAe hA hK hN hZ hD hS hP hl
  have hl : lv_has ls 6 [(0, .ref h_this), (1, .ref h_x1), (2, .ref h_x2), (3, .int x3), (4, .int x4)] := hl
  refine lv_iload_n hx hb dX7_lanesOf_0 rfl (lv_at hl 3 rfl) ?_
  refine lv_iconst (v := 1) hx hb dX7_lanesOf_1 (by decide) ?_
  refine lv_iadd hx hb dX7_lanesOf_2 ?_
  refine lv_istore (lv' := [(5, .int (x3 + 1)), (0, .ref h_this), (1, .ref h_x1), (2, .ref h_x2), (3, .int x3), (4, .int x4)]) hx hb dX7_lanesOf_3 hl (by decide) rfl (fun ls hl => ?_)
  refine lv_aload_n hx hb dX7_lanesOf_5 rfl (lv_at hl 2 rfl) ?_
  refine lv_iload_n hx hb dX7_lanesOf_6 rfl (lv_at hl 4 rfl) ?_
  obtain ⟨q7, hq7, hf⟩ := k_bind hf
  refine k_calli (wN := [(h_this, o_X7 h_p h_q h_held), (h_p, o_J cJ 4 v_p), (h_q, o_J cJ 4 v_q), (h_held, o_J cJ 64 v_held), (h_x1, o_X0 h_x1_signs h_x1_ends v_x1_length), (h_x1_signs, o_I cI 16 v_x1_signs), (h_x1_ends, o_I cI 16 v_x1_ends), (h_x2, o_X2 v_x2_kind v_x2_worlds v_x2_arrows v_x2_p v_x2_q)]) [4, 5] [0, 1, 2, 3, 6, 7] [0, 1, 2, 3, 6, 7, 4, 5] hP hD hS hA (va_runV (As := [.int x3]) (rest := []) ⟨hx, hb, hml, hown, hts⟩ (k_X0_signAt l D cB cI cJ cZ tL tK h_x1 h_x1_signs h_x1_ends _ v_x1_length v_x1_signs x3 q7 hq7) (cwV 1 hts (k_gV m_344 m_559 m_342 m_343 m_30) rfl rfl rfl (by decide +kernel) ⟨Nat.le_of_ble_eq_true rfl, Nat.le_of_ble_eq_true rfl⟩) (k_preV [4, 5] hK hN hZ hP hD hS hA rfl rfl (va_recv hK hP (ci := 0) (q0 := 4) rfl rfl)) rfl rfl hl.1 rfl (lv_room (Nat.le_of_ble_eq_true rfl)) dX7_lanesOf_7 ⟨Nat.le_refl _, Nat.le_refl _⟩) rfl rfl rfl rfl rfl (fun H locs hP hD hS => ?_)
  by_cases c10_38 : q7 = 38
  · replace hf := k_ifT c10_38 hf
    refine lv_lookup (tgt := 139) (off := 129) hx hb dX7_lanesOf_10 (by decide) (by rw [c10_38]; rfl) (by decide) ?_
    refine lv_aload_n hx hb dX7_lanesOf_139 rfl (lv_at hl 1 rfl) ?_
    refine lv_iload hx hb dX7_lanesOf_140 (lv_at hl 0 rfl) ?_
    refine lv_iload hx hb dX7_lanesOf_142 (lv_at hl 5 rfl) ?_
    obtain ⟨q144, hq144, hf⟩ := k_bind hf
    refine k_calll (wN := [(h_this, o_X7 h_p h_q h_held), (h_p, o_J cJ 4 v_p), (h_q, o_J cJ 4 v_q), (h_held, o_J cJ 64 v_held), (h_x1, o_X0 h_x1_signs h_x1_ends v_x1_length), (h_x1_signs, o_I cI 16 v_x1_signs), (h_x1_ends, o_I cI 16 v_x1_ends), (h_x2, o_X2 v_x2_kind v_x2_worlds v_x2_arrows v_x2_p v_x2_q)]) [0, 3] [1, 2, 4, 5, 6, 7] [6, 0, 1, 7, 2, 3, 4, 5] hP hD hS hA (va_runV (As := [.int (x3 + 1), .int x4]) (rest := []) ⟨hx, hb, hml, hown, hts⟩ (k_X7_at l D cB cI cJ cZ tL tK h_this h_p h_q h_held _ v_held (x3 + 1) x4 q144 hq144) (cwV 2 hts (k_gV m_563 m_560 m_561 m_562 m_41) rfl rfl rfl (by decide +kernel) ⟨Nat.le_of_ble_eq_true rfl, Nat.le_of_ble_eq_true rfl⟩) (k_preV [0, 3] hK hN hZ hP hD hS hA rfl rfl (va_recv hK hP (ci := 6) (q0 := 0) rfl rfl)) rfl rfl hl.1 rfl (lv_room (Nat.le_of_ble_eq_true rfl)) dX7_lanesOf_144 ⟨Nat.le_refl _, Nat.le_refl _⟩) rfl rfl rfl rfl rfl (fun H locs hP hD hS => ?_)
    refine lv_aload_n hx hb dX7_lanesOf_147 rfl (lv_at hl 1 rfl) ?_
    refine lv_aload_n hx hb dX7_lanesOf_148 rfl (lv_at hl 2 rfl) ?_
    refine lv_iload hx hb dX7_lanesOf_149 (lv_at hl 0 rfl) ?_
    obtain ⟨q151, hq151, hf⟩ := k_bind hf
    refine k_calli (wN := [(h_this, o_X7 h_p h_q h_held), (h_p, o_J cJ 4 v_p), (h_q, o_J cJ 4 v_q), (h_held, o_J cJ 64 v_held), (h_x1, o_X0 h_x1_signs h_x1_ends v_x1_length), (h_x1_signs, o_I cI 16 v_x1_signs), (h_x1_ends, o_I cI 16 v_x1_ends), (h_x2, o_X2 v_x2_kind v_x2_worlds v_x2_arrows v_x2_p v_x2_q)]) [4, 6] [0, 1, 2, 3, 5, 7] [0, 1, 2, 3, 6, 4, 7, 5] hP hD hS hA (va_runV (As := [.int (x3 + 1)]) (rest := [.ref h_this, .long q144]) ⟨hx, hb, hml, hown, hts⟩ (k_X0_end l D cB cI cJ cZ tL tK h_x1 h_x1_signs h_x1_ends _ v_x1_length v_x1_ends (x3 + 1) q151 hq151) (cwV 1 hts (k_gV m_349 m_564 m_347 m_348 m_30) rfl rfl rfl (by decide +kernel) ⟨Nat.le_of_ble_eq_true rfl, Nat.le_of_ble_eq_true rfl⟩) (k_preV [4, 6] hK hN hZ hP hD hS hA rfl rfl (va_recv hK hP (ci := 0) (q0 := 4) rfl rfl)) rfl rfl hl.1 rfl (lv_room (Nat.le_of_ble_eq_true rfl)) dX7_lanesOf_151 ⟨Nat.le_refl _, Nat.le_refl _⟩) rfl rfl rfl rfl rfl (fun H locs hP hD hS => ?_)
    refine lv_iload hx hb dX7_lanesOf_154 (lv_at hl 5 rfl) ?_
    obtain ⟨q156, hq156, hf⟩ := k_bind hf
    refine k_calll (wN := [(h_this, o_X7 h_p h_q h_held), (h_p, o_J cJ 4 v_p), (h_q, o_J cJ 4 v_q), (h_held, o_J cJ 64 v_held), (h_x1, o_X0 h_x1_signs h_x1_ends v_x1_length), (h_x1_signs, o_I cI 16 v_x1_signs), (h_x1_ends, o_I cI 16 v_x1_ends), (h_x2, o_X2 v_x2_kind v_x2_worlds v_x2_arrows v_x2_p v_x2_q)]) [0, 3] [1, 2, 4, 5, 6, 7] [6, 0, 1, 7, 2, 3, 4, 5] hP hD hS hA (va_runV (As := [.int q151, .int x4]) (rest := [.long q144]) ⟨hx, hb, hml, hown, hts⟩ (k_X7_at l D cB cI cJ cZ tL tK h_this h_p h_q h_held _ v_held q151 x4 q156 hq156) (cwV 2 hts (k_gV m_563 m_560 m_561 m_562 m_41) rfl rfl rfl (by decide +kernel) ⟨Nat.le_of_ble_eq_true rfl, Nat.le_of_ble_eq_true rfl⟩) (k_preV [0, 3] hK hN hZ hP hD hS hA rfl rfl (va_recv hK hP (ci := 6) (q0 := 0) rfl rfl)) rfl rfl hl.1 rfl (lv_room (Nat.le_of_ble_eq_true rfl)) dX7_lanesOf_156 ⟨Nat.le_refl _, Nat.le_refl _⟩) rfl rfl rfl rfl rfl (fun H locs hP hD hS => ?_)
    refine lv_land hx hb dX7_lanesOf_159 ?_
    cases hf
    exact k_lret hx hb hr hlocks hAe hS hP hD dX7_lanesOf_160
  · replace hf := k_ifF c10_38 hf
    by_cases c10_62 : q7 = 62
    · replace hf := k_ifT c10_62 hf
      refine lv_lookup (tgt := 183) (off := 173) hx hb dX7_lanesOf_10 (by decide) (by rw [c10_62]; rfl) (by decide) ?_
      refine lv_aload_n hx hb dX7_lanesOf_183 rfl (lv_at hl 1 rfl) ?_
      refine lv_iload hx hb dX7_lanesOf_184 (lv_at hl 0 rfl) ?_
      refine lv_iload hx hb dX7_lanesOf_186 (lv_at hl 5 rfl) ?_
      obtain ⟨q188, hq188, hf⟩ := k_bind hf
      refine k_calll (wN := [(h_this, o_X7 h_p h_q h_held), (h_p, o_J cJ 4 v_p), (h_q, o_J cJ 4 v_q), (h_held, o_J cJ 64 v_held), (h_x1, o_X0 h_x1_signs h_x1_ends v_x1_length), (h_x1_signs, o_I cI 16 v_x1_signs), (h_x1_ends, o_I cI 16 v_x1_ends), (h_x2, o_X2 v_x2_kind v_x2_worlds v_x2_arrows v_x2_p v_x2_q)]) [0, 3] [1, 2, 4, 5, 6, 7] [6, 0, 1, 7, 2, 3, 4, 5] hP hD hS hA (va_runV (As := [.int (x3 + 1), .int x4]) (rest := []) ⟨hx, hb, hml, hown, hts⟩ (k_X7_at l D cB cI cJ cZ tL tK h_this h_p h_q h_held _ v_held (x3 + 1) x4 q188 hq188) (cwV 2 hts (k_gV m_563 m_560 m_561 m_562 m_41) rfl rfl rfl (by decide +kernel) ⟨Nat.le_of_ble_eq_true rfl, Nat.le_of_ble_eq_true rfl⟩) (k_preV [0, 3] hK hN hZ hP hD hS hA rfl rfl (va_recv hK hP (ci := 6) (q0 := 0) rfl rfl)) rfl rfl hl.1 rfl (lv_room (Nat.le_of_ble_eq_true rfl)) dX7_lanesOf_188 ⟨Nat.le_refl _, Nat.le_refl _⟩) rfl rfl rfl rfl rfl (fun H locs hP hD hS => ?_)
      refine lv_ldc2 (v := (-1)) hx hb hown (hts _ m_544) dX7_lanesOf_191 ?_
      refine lv_lxor hx hb dX7_lanesOf_194 ?_
      refine lv_aload_n hx hb dX7_lanesOf_195 rfl (lv_at hl 1 rfl) ?_
      refine lv_aload_n hx hb dX7_lanesOf_196 rfl (lv_at hl 2 rfl) ?_
      refine lv_iload hx hb dX7_lanesOf_197 (lv_at hl 0 rfl) ?_
      obtain ⟨q199, hq199, hf⟩ := k_bind hf
      refine k_calli (wN := [(h_this, o_X7 h_p h_q h_held), (h_p, o_J cJ 4 v_p), (h_q, o_J cJ 4 v_q), (h_held, o_J cJ 64 v_held), (h_x1, o_X0 h_x1_signs h_x1_ends v_x1_length), (h_x1_signs, o_I cI 16 v_x1_signs), (h_x1_ends, o_I cI 16 v_x1_ends), (h_x2, o_X2 v_x2_kind v_x2_worlds v_x2_arrows v_x2_p v_x2_q)]) [4, 6] [0, 1, 2, 3, 5, 7] [0, 1, 2, 3, 6, 4, 7, 5] hP hD hS hA (va_runV (As := [.int (x3 + 1)]) (rest := [.ref h_this, .long (q188 ^^^ (-1))]) ⟨hx, hb, hml, hown, hts⟩ (k_X0_end l D cB cI cJ cZ tL tK h_x1 h_x1_signs h_x1_ends _ v_x1_length v_x1_ends (x3 + 1) q199 hq199) (cwV 1 hts (k_gV m_349 m_564 m_347 m_348 m_30) rfl rfl rfl (by decide +kernel) ⟨Nat.le_of_ble_eq_true rfl, Nat.le_of_ble_eq_true rfl⟩) (k_preV [4, 6] hK hN hZ hP hD hS hA rfl rfl (va_recv hK hP (ci := 0) (q0 := 4) rfl rfl)) rfl rfl hl.1 rfl (lv_room (Nat.le_of_ble_eq_true rfl)) dX7_lanesOf_199 ⟨Nat.le_refl _, Nat.le_refl _⟩) rfl rfl rfl rfl rfl (fun H locs hP hD hS => ?_)
      refine lv_iload hx hb dX7_lanesOf_202 (lv_at hl 5 rfl) ?_
      obtain ⟨q204, hq204, hf⟩ := k_bind hf
      refine k_calll (wN := [(h_this, o_X7 h_p h_q h_held), (h_p, o_J cJ 4 v_p), (h_q, o_J cJ 4 v_q), (h_held, o_J cJ 64 v_held), (h_x1, o_X0 h_x1_signs h_x1_ends v_x1_length), (h_x1_signs, o_I cI 16 v_x1_signs), (h_x1_ends, o_I cI 16 v_x1_ends), (h_x2, o_X2 v_x2_kind v_x2_worlds v_x2_arrows v_x2_p v_x2_q)]) [0, 3] [1, 2, 4, 5, 6, 7] [6, 0, 1, 7, 2, 3, 4, 5] hP hD hS hA (va_runV (As := [.int q199, .int x4]) (rest := [.long (q188 ^^^ (-1))]) ⟨hx, hb, hml, hown, hts⟩ (k_X7_at l D cB cI cJ cZ tL tK h_this h_p h_q h_held _ v_held q199 x4 q204 hq204) (cwV 2 hts (k_gV m_563 m_560 m_561 m_562 m_41) rfl rfl rfl (by decide +kernel) ⟨Nat.le_of_ble_eq_true rfl, Nat.le_of_ble_eq_true rfl⟩) (k_preV [0, 3] hK hN hZ hP hD hS hA rfl rfl (va_recv hK hP (ci := 6) (q0 := 0) rfl rfl)) rfl rfl hl.1 rfl (lv_room (Nat.le_of_ble_eq_true rfl)) dX7_lanesOf_204 ⟨Nat.le_refl _, Nat.le_refl _⟩) rfl rfl rfl rfl rfl (fun H locs hP hD hS => ?_)
      refine lv_lor hx hb dX7_lanesOf_207 ?_
      cases hf
      exact k_lret hx hb hr hlocks hAe hS hP hD dX7_lanesOf_208
    · replace hf := k_ifF c10_62 hf
      by_cases c10_78 : q7 = 78
      · replace hf := k_ifT c10_78 hf
        refine lv_lookup (tgt := 209) (off := 199) hx hb dX7_lanesOf_10 (by decide) (by rw [c10_78]; rfl) (by decide) ?_
        refine lv_aload_n hx hb dX7_lanesOf_209 rfl (lv_at hl 1 rfl) ?_
        refine lv_iload hx hb dX7_lanesOf_210 (lv_at hl 0 rfl) ?_
        refine lv_aload_n hx hb dX7_lanesOf_212 rfl (lv_at hl 3 rfl) ?_
        refine lv_iload hx hb dX7_lanesOf_213 (lv_at hl 5 rfl) ?_
        refine k_calli (wN := [(h_this, o_X7 h_p h_q h_held), (h_p, o_J cJ 4 v_p), (h_q, o_J cJ 4 v_q), (h_held, o_J cJ 64 v_held), (h_x1, o_X0 h_x1_signs h_x1_ends v_x1_length), (h_x1_signs, o_I cI 16 v_x1_signs), (h_x1_ends, o_I cI 16 v_x1_ends), (h_x2, o_X2 v_x2_kind v_x2_worlds v_x2_arrows v_x2_p v_x2_q)]) [7] [0, 1, 2, 3, 4, 5, 6] [0, 1, 2, 3, 4, 5, 6, 7] hP hD hS hA (va_runV (As := [.int x4]) (rest := [.int (x3 + 1), .ref h_this]) ⟨hx, hb, hml, hown, hts⟩ (k_X2_row l D cB cI cJ cZ tL tK h_x2 _ v_x2_kind v_x2_worlds v_x2_arrows v_x2_p v_x2_q x4 (f_X2_row v_x2_arrows x4) rfl) (cwV 1 hts (k_gV m_396 m_565 m_394 m_395 m_26) rfl rfl rfl (by decide +kernel) ⟨Nat.le_of_ble_eq_true rfl, Nat.le_of_ble_eq_true rfl⟩) (k_preV [7] hK hN hZ hP hD hS hA rfl rfl (va_recv hK hP (ci := 2) (q0 := 7) rfl rfl)) rfl rfl hl.1 rfl (lv_room (Nat.le_of_ble_eq_true rfl)) dX7_lanesOf_215 ⟨Nat.le_refl _, Nat.le_refl _⟩) rfl rfl rfl rfl rfl (fun H locs hP hD hS => ?_)
        obtain ⟨q218, hq218, hf⟩ := k_bind hf
        refine k_calll (wN := [(h_this, o_X7 h_p h_q h_held), (h_p, o_J cJ 4 v_p), (h_q, o_J cJ 4 v_q), (h_held, o_J cJ 64 v_held), (h_x1, o_X0 h_x1_signs h_x1_ends v_x1_length), (h_x1_signs, o_I cI 16 v_x1_signs), (h_x1_ends, o_I cI 16 v_x1_ends), (h_x2, o_X2 v_x2_kind v_x2_worlds v_x2_arrows v_x2_p v_x2_q)]) [0, 3] [1, 2, 4, 5, 6, 7] [6, 0, 1, 7, 2, 3, 4, 5] hP hD hS hA (va_runV (As := [.int (x3 + 1), .int (f_X2_row v_x2_arrows x4)]) (rest := []) ⟨hx, hb, hml, hown, hts⟩ (k_X7_inAll l D cB cI cJ cZ tL tK h_this h_p h_q h_held _ v_held (x3 + 1) (f_X2_row v_x2_arrows x4) q218 hq218) (cwV 2 hts (k_gV m_569 m_566 m_567 m_568 m_41) rfl rfl rfl (by decide +kernel) ⟨Nat.le_of_ble_eq_true rfl, Nat.le_of_ble_eq_true rfl⟩) (k_preV [0, 3] hK hN hZ hP hD hS hA rfl rfl (va_recv hK hP (ci := 6) (q0 := 0) rfl rfl)) rfl rfl hl.1 rfl (lv_room (Nat.le_of_ble_eq_true rfl)) dX7_lanesOf_218 ⟨Nat.le_refl _, Nat.le_refl _⟩) rfl rfl rfl rfl rfl (fun H locs hP hD hS => ?_)
        cases hf
        exact k_lret hx hb hr hlocks hAe hS hP hD dX7_lanesOf_221
      · replace hf := k_ifF c10_78 hf
        by_cases c10_112 : q7 = 112
        · replace hf := k_ifT c10_112 hf
          refine lv_lookup (tgt := 76) (off := 66) hx hb dX7_lanesOf_10 (by decide) (by rw [c10_112]; rfl) (by decide) ?_
          refine lv_iload hx hb dX7_lanesOf_76 (lv_at hl 5 rfl) ?_
          refine lv_aload_n hx hb dX7_lanesOf_78 rfl (lv_at hl 1 rfl) ?_
          refine va_get (D := D) (ci := 6) (v := .ref h_p) (C := RX7) (T := TX7) (N := 3) hx hb hts inlX7 hown hK hP 0 rfl rfl 0 (by decide) (hts _ m_74) (fun _ h9 => h9) rfl dX7_lanesOf_79 ?_
          refine va_alen (D := D) (v := 4) hx hb hK hP 1 2 rfl rfl rfl dX7_lanesOf_82 ?_
          refine k_calli (wN := [(h_this, o_X7 h_p h_q h_held), (h_p, o_J cJ 4 v_p), (h_q, o_J cJ 4 v_q), (h_held, o_J cJ 64 v_held), (h_x1, o_X0 h_x1_signs h_x1_ends v_x1_length), (h_x1_signs, o_I cI 16 v_x1_signs), (h_x1_ends, o_I cI 16 v_x1_ends), (h_x2, o_X2 v_x2_kind v_x2_worlds v_x2_arrows v_x2_p v_x2_q)]) [] [0, 1, 2, 3, 4, 5, 6, 7] [0, 1, 2, 3, 4, 5, 6, 7] hP hD hS hA (va_runSN (As := [.int x4, .int 4]) (rest := []) ⟨hx, hb, hml, hown, hts⟩ (k_X8_isBelow l D cB cI cJ cZ tL tK _ x4 4 (f_X8_isBelow x4 4) rfl) ⟨va_cnB 2 hts (k_gB m_112) rfl rfl rfl (hN.1 _ (List.mem_of_getElem? (i := 16) rfl)) (hts _ m_2) (by decide +kernel) ⟨Nat.le_of_ble_eq_true rfl, Nat.le_of_ble_eq_true rfl⟩, (hts _ m_111), trivial⟩ (k_preS [] hK hN hZ hP hD hS hA rfl rfl) rfl rfl hl.1 rfl (lv_room (Nat.le_of_ble_eq_true rfl)) dX7_lanesOf_83 ⟨Nat.le_refl _, Nat.le_refl _⟩) rfl rfl rfl rfl rfl (fun H locs hP hD hS => ?_)
          refine lv_if_eq (tgt := 99) hx hb dX7_lanesOf_86 (by decide) (fun c86 => ?_) (fun c86 => ?_)
          · replace hf := k_ifT c86 hf
            refine lv_lconst (v := 0) hx hb dX7_lanesOf_99 (by decide) ?_
            cases hf
            exact k_lret hx hb hr hlocks hAe hS hP hD dX7_lanesOf_100
          · replace hf := k_ifF c86 hf
            refine lv_aload_n hx hb dX7_lanesOf_89 rfl (lv_at hl 1 rfl) ?_
            refine va_get (D := D) (ci := 6) (v := .ref h_p) (C := RX7) (T := TX7) (N := 3) hx hb hts inlX7 hown hK hP 0 rfl rfl 0 (by decide) (hts _ m_74) (fun _ h9 => h9) rfl dX7_lanesOf_90 ?_
            refine lv_iload hx hb dX7_lanesOf_93 (lv_at hl 5 rfl) ?_
            obtain ⟨hi95, hf⟩ := k_chk_some hf
            refine va_lald (D := D) hx hb hK hP 1 2 rfl rfl hi95 dX7_lanesOf_95 ?_
            refine lv_goto (tgt := 100) hx hb dX7_lanesOf_96 (by decide) ?_
            cases hf
            exact k_lret hx hb hr hlocks hAe hS hP hD dX7_lanesOf_100
        · replace hf := k_ifF c10_112 hf
          by_cases c10_113 : q7 = 113
          · replace hf := k_ifT c10_113 hf
            refine lv_lookup (tgt := 101) (off := 91) hx hb dX7_lanesOf_10 (by decide) (by rw [c10_113]; rfl) (by decide) ?_
            refine lv_iload hx hb dX7_lanesOf_101 (lv_at hl 5 rfl) ?_
            refine lv_aload_n hx hb dX7_lanesOf_103 rfl (lv_at hl 1 rfl) ?_
            refine va_get (D := D) (ci := 6) (v := .ref h_q) (C := RX7) (T := TX7) (N := 3) hx hb hts inlX7 hown hK hP 0 rfl rfl 1 (by decide) (hts _ m_75) (fun _ h9 => h9) rfl dX7_lanesOf_104 ?_
            refine va_alen (D := D) (v := 4) hx hb hK hP 2 2 rfl rfl rfl dX7_lanesOf_107 ?_
            refine k_calli (wN := [(h_this, o_X7 h_p h_q h_held), (h_p, o_J cJ 4 v_p), (h_q, o_J cJ 4 v_q), (h_held, o_J cJ 64 v_held), (h_x1, o_X0 h_x1_signs h_x1_ends v_x1_length), (h_x1_signs, o_I cI 16 v_x1_signs), (h_x1_ends, o_I cI 16 v_x1_ends), (h_x2, o_X2 v_x2_kind v_x2_worlds v_x2_arrows v_x2_p v_x2_q)]) [] [0, 1, 2, 3, 4, 5, 6, 7] [0, 1, 2, 3, 4, 5, 6, 7] hP hD hS hA (va_runSN (As := [.int x4, .int 4]) (rest := []) ⟨hx, hb, hml, hown, hts⟩ (k_X8_isBelow l D cB cI cJ cZ tL tK _ x4 4 (f_X8_isBelow x4 4) rfl) ⟨va_cnB 2 hts (k_gB m_112) rfl rfl rfl (hN.1 _ (List.mem_of_getElem? (i := 16) rfl)) (hts _ m_2) (by decide +kernel) ⟨Nat.le_of_ble_eq_true rfl, Nat.le_of_ble_eq_true rfl⟩, (hts _ m_111), trivial⟩ (k_preS [] hK hN hZ hP hD hS hA rfl rfl) rfl rfl hl.1 rfl (lv_room (Nat.le_of_ble_eq_true rfl)) dX7_lanesOf_108 ⟨Nat.le_refl _, Nat.le_refl _⟩) rfl rfl rfl rfl rfl (fun H locs hP hD hS => ?_)
            refine lv_if_eq (tgt := 124) hx hb dX7_lanesOf_111 (by decide) (fun c111 => ?_) (fun c111 => ?_)
            · replace hf := k_ifT c111 hf
              refine lv_lconst (v := 0) hx hb dX7_lanesOf_124 (by decide) ?_
              cases hf
              exact k_lret hx hb hr hlocks hAe hS hP hD dX7_lanesOf_125
            · replace hf := k_ifF c111 hf
              refine lv_aload_n hx hb dX7_lanesOf_114 rfl (lv_at hl 1 rfl) ?_
              refine va_get (D := D) (ci := 6) (v := .ref h_q) (C := RX7) (T := TX7) (N := 3) hx hb hts inlX7 hown hK hP 0 rfl rfl 1 (by decide) (hts _ m_75) (fun _ h9 => h9) rfl dX7_lanesOf_115 ?_
              refine lv_iload hx hb dX7_lanesOf_118 (lv_at hl 5 rfl) ?_
              obtain ⟨hi120, hf⟩ := k_chk_some hf
              refine va_lald (D := D) hx hb hK hP 2 2 rfl rfl hi120 dX7_lanesOf_120 ?_
              refine lv_goto (tgt := 125) hx hb dX7_lanesOf_121 (by decide) ?_
              cases hf
              exact k_lret hx hb hr hlocks hAe hS hP hD dX7_lanesOf_125
          · replace hf := k_ifF c10_113 hf
            by_cases c10_124 : q7 = 124
            · replace hf := k_ifT c10_124 hf
              refine lv_lookup (tgt := 161) (off := 151) hx hb dX7_lanesOf_10 (by decide) (by rw [c10_124]; rfl) (by decide) ?_
              refine lv_aload_n hx hb dX7_lanesOf_161 rfl (lv_at hl 1 rfl) ?_
              refine lv_iload hx hb dX7_lanesOf_162 (lv_at hl 0 rfl) ?_
              refine lv_iload hx hb dX7_lanesOf_164 (lv_at hl 5 rfl) ?_
              obtain ⟨q166, hq166, hf⟩ := k_bind hf
              refine k_calll (wN := [(h_this, o_X7 h_p h_q h_held), (h_p, o_J cJ 4 v_p), (h_q, o_J cJ 4 v_q), (h_held, o_J cJ 64 v_held), (h_x1, o_X0 h_x1_signs h_x1_ends v_x1_length), (h_x1_signs, o_I cI 16 v_x1_signs), (h_x1_ends, o_I cI 16 v_x1_ends), (h_x2, o_X2 v_x2_kind v_x2_worlds v_x2_arrows v_x2_p v_x2_q)]) [0, 3] [1, 2, 4, 5, 6, 7] [6, 0, 1, 7, 2, 3, 4, 5] hP hD hS hA (va_runV (As := [.int (x3 + 1), .int x4]) (rest := []) ⟨hx, hb, hml, hown, hts⟩ (k_X7_at l D cB cI cJ cZ tL tK h_this h_p h_q h_held _ v_held (x3 + 1) x4 q166 hq166) (cwV 2 hts (k_gV m_563 m_560 m_561 m_562 m_41) rfl rfl rfl (by decide +kernel) ⟨Nat.le_of_ble_eq_true rfl, Nat.le_of_ble_eq_true rfl⟩) (k_preV [0, 3] hK hN hZ hP hD hS hA rfl rfl (va_recv hK hP (ci := 6) (q0 := 0) rfl rfl)) rfl rfl hl.1 rfl (lv_room (Nat.le_of_ble_eq_true rfl)) dX7_lanesOf_166 ⟨Nat.le_refl _, Nat.le_refl _⟩) rfl rfl rfl rfl rfl (fun H locs hP hD hS => ?_)
              refine lv_aload_n hx hb dX7_lanesOf_169 rfl (lv_at hl 1 rfl) ?_
              refine lv_aload_n hx hb dX7_lanesOf_170 rfl (lv_at hl 2 rfl) ?_
              refine lv_iload hx hb dX7_lanesOf_171 (lv_at hl 0 rfl) ?_
              obtain ⟨q173, hq173, hf⟩ := k_bind hf
              refine k_calli (wN := [(h_this, o_X7 h_p h_q h_held), (h_p, o_J cJ 4 v_p), (h_q, o_J cJ 4 v_q), (h_held, o_J cJ 64 v_held), (h_x1, o_X0 h_x1_signs h_x1_ends v_x1_length), (h_x1_signs, o_I cI 16 v_x1_signs), (h_x1_ends, o_I cI 16 v_x1_ends), (h_x2, o_X2 v_x2_kind v_x2_worlds v_x2_arrows v_x2_p v_x2_q)]) [4, 6] [0, 1, 2, 3, 5, 7] [0, 1, 2, 3, 6, 4, 7, 5] hP hD hS hA (va_runV (As := [.int (x3 + 1)]) (rest := [.ref h_this, .long q166]) ⟨hx, hb, hml, hown, hts⟩ (k_X0_end l D cB cI cJ cZ tL tK h_x1 h_x1_signs h_x1_ends _ v_x1_length v_x1_ends (x3 + 1) q173 hq173) (cwV 1 hts (k_gV m_349 m_564 m_347 m_348 m_30) rfl rfl rfl (by decide +kernel) ⟨Nat.le_of_ble_eq_true rfl, Nat.le_of_ble_eq_true rfl⟩) (k_preV [4, 6] hK hN hZ hP hD hS hA rfl rfl (va_recv hK hP (ci := 0) (q0 := 4) rfl rfl)) rfl rfl hl.1 rfl (lv_room (Nat.le_of_ble_eq_true rfl)) dX7_lanesOf_173 ⟨Nat.le_refl _, Nat.le_refl _⟩) rfl rfl rfl rfl rfl (fun H locs hP hD hS => ?_)
              refine lv_iload hx hb dX7_lanesOf_176 (lv_at hl 5 rfl) ?_
              obtain ⟨q178, hq178, hf⟩ := k_bind hf
              refine k_calll (wN := [(h_this, o_X7 h_p h_q h_held), (h_p, o_J cJ 4 v_p), (h_q, o_J cJ 4 v_q), (h_held, o_J cJ 64 v_held), (h_x1, o_X0 h_x1_signs h_x1_ends v_x1_length), (h_x1_signs, o_I cI 16 v_x1_signs), (h_x1_ends, o_I cI 16 v_x1_ends), (h_x2, o_X2 v_x2_kind v_x2_worlds v_x2_arrows v_x2_p v_x2_q)]) [0, 3] [1, 2, 4, 5, 6, 7] [6, 0, 1, 7, 2, 3, 4, 5] hP hD hS hA (va_runV (As := [.int q173, .int x4]) (rest := [.long q166]) ⟨hx, hb, hml, hown, hts⟩ (k_X7_at l D cB cI cJ cZ tL tK h_this h_p h_q h_held _ v_held q173 x4 q178 hq178) (cwV 2 hts (k_gV m_563 m_560 m_561 m_562 m_41) rfl rfl rfl (by decide +kernel) ⟨Nat.le_of_ble_eq_true rfl, Nat.le_of_ble_eq_true rfl⟩) (k_preV [0, 3] hK hN hZ hP hD hS hA rfl rfl (va_recv hK hP (ci := 6) (q0 := 0) rfl rfl)) rfl rfl hl.1 rfl (lv_room (Nat.le_of_ble_eq_true rfl)) dX7_lanesOf_178 ⟨Nat.le_refl _, Nat.le_refl _⟩) rfl rfl rfl rfl rfl (fun H locs hP hD hS => ?_)
              refine lv_lor hx hb dX7_lanesOf_181 ?_
              cases hf
              exact k_lret hx hb hr hlocks hAe hS hP hD dX7_lanesOf_182
            · replace hf := k_ifF c10_124 hf
              by_cases c10_126 : q7 = 126
              · replace hf := k_ifT c10_126 hf
                refine lv_lookup (tgt := 126) (off := 116) hx hb dX7_lanesOf_10 (by decide) (by rw [c10_126]; rfl) (by decide) ?_
                refine lv_aload_n hx hb dX7_lanesOf_126 rfl (lv_at hl 1 rfl) ?_
                refine lv_iload hx hb dX7_lanesOf_127 (lv_at hl 0 rfl) ?_
                refine lv_iload hx hb dX7_lanesOf_129 (lv_at hl 5 rfl) ?_
                obtain ⟨q131, hq131, hf⟩ := k_bind hf
                refine k_calll (wN := [(h_this, o_X7 h_p h_q h_held), (h_p, o_J cJ 4 v_p), (h_q, o_J cJ 4 v_q), (h_held, o_J cJ 64 v_held), (h_x1, o_X0 h_x1_signs h_x1_ends v_x1_length), (h_x1_signs, o_I cI 16 v_x1_signs), (h_x1_ends, o_I cI 16 v_x1_ends), (h_x2, o_X2 v_x2_kind v_x2_worlds v_x2_arrows v_x2_p v_x2_q)]) [0, 3] [1, 2, 4, 5, 6, 7] [6, 0, 1, 7, 2, 3, 4, 5] hP hD hS hA (va_runV (As := [.int (x3 + 1), .int x4]) (rest := []) ⟨hx, hb, hml, hown, hts⟩ (k_X7_at l D cB cI cJ cZ tL tK h_this h_p h_q h_held _ v_held (x3 + 1) x4 q131 hq131) (cwV 2 hts (k_gV m_563 m_560 m_561 m_562 m_41) rfl rfl rfl (by decide +kernel) ⟨Nat.le_of_ble_eq_true rfl, Nat.le_of_ble_eq_true rfl⟩) (k_preV [0, 3] hK hN hZ hP hD hS hA rfl rfl (va_recv hK hP (ci := 6) (q0 := 0) rfl rfl)) rfl rfl hl.1 rfl (lv_room (Nat.le_of_ble_eq_true rfl)) dX7_lanesOf_131 ⟨Nat.le_refl _, Nat.le_refl _⟩) rfl rfl rfl rfl rfl (fun H locs hP hD hS => ?_)
                refine lv_ldc2 (v := (-1)) hx hb hown (hts _ m_544) dX7_lanesOf_134 ?_
                refine lv_lxor hx hb dX7_lanesOf_137 ?_
                cases hf
                exact k_lret hx hb hr hlocks hAe hS hP hD dX7_lanesOf_138
              · replace hf := k_ifF c10_126 hf
                refine lv_lookup (tgt := 222) (off := 212) hx hb dX7_lanesOf_10 (by decide) (by rw [lv_osw c10_38 (show (38 : Int32).toInt = 38 by decide)]; rw [lv_osw c10_62 (show (62 : Int32).toInt = 62 by decide)]; rw [lv_osw c10_78 (show (78 : Int32).toInt = 78 by decide)]; rw [lv_osw c10_112 (show (112 : Int32).toInt = 112 by decide)]; rw [lv_osw c10_113 (show (113 : Int32).toInt = 113 by decide)]; rw [lv_osw c10_124 (show (124 : Int32).toInt = 124 by decide)]; rw [lv_osw c10_126 (show (126 : Int32).toInt = 126 by decide)]; rfl) (by decide) ?_
                refine lv_aload_n hx hb dX7_lanesOf_222 rfl (lv_at hl 1 rfl) ?_
                refine lv_iload hx hb dX7_lanesOf_223 (lv_at hl 0 rfl) ?_
                refine lv_aload_n hx hb dX7_lanesOf_225 rfl (lv_at hl 3 rfl) ?_
                refine lv_iload hx hb dX7_lanesOf_226 (lv_at hl 5 rfl) ?_
                refine k_calli (wN := [(h_this, o_X7 h_p h_q h_held), (h_p, o_J cJ 4 v_p), (h_q, o_J cJ 4 v_q), (h_held, o_J cJ 64 v_held), (h_x1, o_X0 h_x1_signs h_x1_ends v_x1_length), (h_x1_signs, o_I cI 16 v_x1_signs), (h_x1_ends, o_I cI 16 v_x1_ends), (h_x2, o_X2 v_x2_kind v_x2_worlds v_x2_arrows v_x2_p v_x2_q)]) [7] [0, 1, 2, 3, 4, 5, 6] [0, 1, 2, 3, 4, 5, 6, 7] hP hD hS hA (va_runV (As := [.int x4]) (rest := [.int (x3 + 1), .ref h_this]) ⟨hx, hb, hml, hown, hts⟩ (k_X2_row l D cB cI cJ cZ tL tK h_x2 _ v_x2_kind v_x2_worlds v_x2_arrows v_x2_p v_x2_q x4 (f_X2_row v_x2_arrows x4) rfl) (cwV 1 hts (k_gV m_396 m_565 m_394 m_395 m_26) rfl rfl rfl (by decide +kernel) ⟨Nat.le_of_ble_eq_true rfl, Nat.le_of_ble_eq_true rfl⟩) (k_preV [7] hK hN hZ hP hD hS hA rfl rfl (va_recv hK hP (ci := 2) (q0 := 7) rfl rfl)) rfl rfl hl.1 rfl (lv_room (Nat.le_of_ble_eq_true rfl)) dX7_lanesOf_228 ⟨Nat.le_refl _, Nat.le_refl _⟩) rfl rfl rfl rfl rfl (fun H locs hP hD hS => ?_)
                obtain ⟨q231, hq231, hf⟩ := k_bind hf
                refine k_calll (wN := [(h_this, o_X7 h_p h_q h_held), (h_p, o_J cJ 4 v_p), (h_q, o_J cJ 4 v_q), (h_held, o_J cJ 64 v_held), (h_x1, o_X0 h_x1_signs h_x1_ends v_x1_length), (h_x1_signs, o_I cI 16 v_x1_signs), (h_x1_ends, o_I cI 16 v_x1_ends), (h_x2, o_X2 v_x2_kind v_x2_worlds v_x2_arrows v_x2_p v_x2_q)]) [0, 3] [1, 2, 4, 5, 6, 7] [6, 0, 1, 7, 2, 3, 4, 5] hP hD hS hA (va_runV (As := [.int (x3 + 1), .int (f_X2_row v_x2_arrows x4)]) (rest := []) ⟨hx, hb, hml, hown, hts⟩ (k_X7_inSome l D cB cI cJ cZ tL tK h_this h_p h_q h_held _ v_held (x3 + 1) (f_X2_row v_x2_arrows x4) q231 hq231) (cwV 2 hts (k_gV m_573 m_570 m_571 m_572 m_41) rfl rfl rfl (by decide +kernel) ⟨Nat.le_of_ble_eq_true rfl, Nat.le_of_ble_eq_true rfl⟩) (k_preV [0, 3] hK hN hZ hP hD hS hA rfl rfl (va_recv hK hP (ci := 6) (q0 := 0) rfl rfl)) rfl rfl hl.1 rfl (lv_room (Nat.le_of_ble_eq_true rfl)) dX7_lanesOf_231 ⟨Nat.le_refl _, Nat.le_refl _⟩) rfl rfl rfl rfl rfl (fun H locs hP hD hS => ?_)
                cases hf
                exact k_lret hx hb hr hlocks hAe hS hP hD dX7_lanesOf_234
set_option maxHeartbeats 4000000 in
set_option maxRecDepth 100000 in
theorem k_X7_set (l : Launch) (D : va_G) (cB cI cJ cZ : ClassId) (tL tK : Nat) (h_this h_p h_q h_held : Nat) (sz : Nat) (v_held : (Nat → Int64)) (x1 : Int32) (x2 : Int32) (x3 : Int64) (q : (Nat → Int64)) (hf : f_X7_set v_held x1 x2 x3 = some q) : Met l yX7_set (.code yX7_set cX7_set 6 none :: k_all) { frames := 1, cells := 0, slots := 0, locals := 21 } (k_P D cB cI cJ cZ tL tK [.ref h_this, .int x1, .int x2, .long x3] [(h_this, o_X7 h_p h_q h_held), (h_held, o_J cJ 64 v_held)] sz) (k_V D [(h_this, o_X7 h_p h_q h_held), (h_held, o_J cJ 64 v_held)] [(h_this, o_X7 h_p h_q h_held), (h_held, o_J cJ 64 q)] sz) 0 0 (va_A [(h_this, o_X7 h_p h_q h_held), (h_held, o_J cJ 64 v_held)] sz) := by
  unfold f_X7_set at hf
  refine k_met RX7 rfl (by decide +kernel) (Nat.le_of_ble_eq_true rfl) ?_
  intro p e s m below meth c A ls hx hb hr hml hown hts hlocks hin hsz hAe hA hK hN hZ hD hS hP hl
  have hl : lv_has ls 6 [(0, .ref h_this), (1, .int x1), (2, .int x2), (3, .long x3)] := hl
  refine lv_iconst (v := 4) hx hb dX7_set_0 (by decide) ?_
  refine lv_iload_n hx hb dX7_set_1 rfl (lv_at hl 1 rfl) ?_
  refine lv_imul hx hb dX7_set_2 ?_
  refine lv_iload_n hx hb dX7_set_3 rfl (lv_at hl 2 rfl) ?_
  refine lv_iadd hx hb dX7_set_4 ?_
  refine lv_istore (lv' := [(5, .int ((4 * x1) + x2)), (0, .ref h_this), (1, .int x1), (2, .int x2), (3, .long x3)]) hx hb dX7_set_5 hl (by decide) rfl (fun ls hl => ?_)
  refine lv_iload hx hb dX7_set_7 (lv_at hl 0 rfl) ?_
  refine lv_aload_n hx hb dX7_set_9 rfl (lv_at hl 1 rfl) ?_
  refine va_get (D := D) (ci := 6) (v := .ref h_held) (C := RX7) (T := TX7) (N := 3) hx hb hts inlX7 hown hK hP 0 rfl rfl 2 (by decide) (hts _ m_76) (fun _ h9 => h9) rfl dX7_set_10 ?_
  refine va_alen (D := D) (v := 64) hx hb hK hP 1 2 rfl rfl rfl dX7_set_13 ?_
  refine k_calli (wN := [(h_this, o_X7 h_p h_q h_held), (h_held, o_J cJ 64 v_held)]) [] [0, 1] [0, 1] hP hD hS hA (va_runSN (As := [.int ((4 * x1) + x2), .int 64]) (rest := []) ⟨hx, hb, hml, hown, hts⟩ (k_X8_isBelow l D cB cI cJ cZ tL tK _ ((4 * x1) + x2) 64 (f_X8_isBelow ((4 * x1) + x2) 64) rfl) ⟨va_cnB 2 hts (k_gB m_112) rfl rfl rfl (hN.1 _ (List.mem_of_getElem? (i := 16) rfl)) (hts _ m_2) (by decide +kernel) ⟨Nat.le_of_ble_eq_true rfl, Nat.le_of_ble_eq_true rfl⟩, (hts _ m_111), trivial⟩ (k_preS [] hK hN hZ hP hD hS hA rfl rfl) rfl rfl hl.1 rfl (lv_room (Nat.le_of_ble_eq_true rfl)) dX7_set_14 ⟨Nat.le_refl _, Nat.le_refl _⟩) rfl rfl rfl rfl rfl (fun H locs hP hD hS => ?_)
  refine lv_if_eq (tgt := 28) hx hb dX7_set_17 (by decide) (fun c17 => ?_) (fun c17 => ?_)
  · replace hf := k_ifT c17 hf
    cases hf
    exact k_vret hx hb hr hlocks hAe hS hP hD dX7_set_28
  · replace hf := k_ifF c17 hf
    refine lv_aload_n hx hb dX7_set_20 rfl (lv_at hl 1 rfl) ?_
    refine va_get (D := D) (ci := 6) (v := .ref h_held) (C := RX7) (T := TX7) (N := 3) hx hb hts inlX7 hown hK hP 0 rfl rfl 2 (by decide) (hts _ m_76) (fun _ h9 => h9) rfl dX7_set_21 ?_
    refine lv_iload hx hb dX7_set_24 (lv_at hl 0 rfl) ?_
    refine lv_lload_n hx hb dX7_set_26 rfl (lv_at hl 4 rfl) ?_
    obtain ⟨hi27, hf⟩ := k_chk_some hf
    refine va_last (D := D) hx hb hK hP hD hS 1 2 rfl rfl hi27 dX7_set_27 (fun H locs hP hD hS => ?_)
    have hP : va_P D vwCl [(h_this, o_X7 h_p h_q h_held), (h_held, o_J cJ 64 (vp_updL v_held (Int32.toNatClampNeg ((4 * x1) + x2)) x3))] H := hP
    have hD : va_D A [(h_this, o_X7 h_p h_q h_held), (h_held, o_J cJ 64 (vp_updL v_held (Int32.toNatClampNeg ((4 * x1) + x2)) x3))] := hD
    cases hf
    exact k_vret hx hb hr hlocks hAe hS hP hD dX7_set_28
set_option maxHeartbeats 4000000 in
set_option maxRecDepth 100000 in
theorem k_X7_evaluate (l : Launch) (D : va_G) (cB cI cJ cZ : ClassId) (tL tK : Nat) (h_this h_p h_q h_held h_x1 h_x1_signs h_x1_ends h_x2 : Nat) (sz : Nat) (v_p : (Nat → Int64)) (v_q : (Nat → Int64)) (v_held : (Nat → Int64)) (v_x1_length : Int32) (v_x1_signs : (Nat → Int32)) (v_x1_ends : (Nat → Int32)) (v_x2_kind : Int32) (v_x2_worlds : Int32) (v_x2_arrows : Int32) (v_x2_p : Int32) (v_x2_q : Int32)  (q : (Nat → Int64)) (hf : f_X7_evaluate v_p v_q v_held v_x1_length v_x1_signs v_x1_ends v_x2_worlds v_x2_arrows = some q) : Met l yX7_evaluate (.code yX7_evaluate cX7_evaluate 5 none :: k_all) { frames := 3, cells := 0, slots := 0, locals := 73 } (k_P D cB cI cJ cZ tL tK [.ref h_this, .ref h_x1, .ref h_x2] [(h_this, o_X7 h_p h_q h_held), (h_p, o_J cJ 4 v_p), (h_q, o_J cJ 4 v_q), (h_held, o_J cJ 64 v_held), (h_x1, o_X0 h_x1_signs h_x1_ends v_x1_length), (h_x1_signs, o_I cI 16 v_x1_signs), (h_x1_ends, o_I cI 16 v_x1_ends), (h_x2, o_X2 v_x2_kind v_x2_worlds v_x2_arrows v_x2_p v_x2_q)] sz) (k_V D [(h_this, o_X7 h_p h_q h_held), (h_p, o_J cJ 4 v_p), (h_q, o_J cJ 4 v_q), (h_held, o_J cJ 64 v_held), (h_x1, o_X0 h_x1_signs h_x1_ends v_x1_length), (h_x1_signs, o_I cI 16 v_x1_signs), (h_x1_ends, o_I cI 16 v_x1_ends), (h_x2, o_X2 v_x2_kind v_x2_worlds v_x2_arrows v_x2_p v_x2_q)] [(h_this, o_X7 h_p h_q h_held), (h_p, o_J cJ 4 v_p), (h_q, o_J cJ 4 v_q), (h_held, o_J cJ 64 q), (h_x1, o_X0 h_x1_signs h_x1_ends v_x1_length), (h_x1_signs, o_I cI 16 v_x1_signs), (h_x1_ends, o_I cI 16 v_x1_ends), (h_x2, o_X2 v_x2_kind v_x2_worlds v_x2_arrows v_x2_p v_x2_q)] sz) 0 0 (va_A [(h_this, o_X7 h_p h_q h_held), (h_p, o_J cJ 4 v_p), (h_q, o_J cJ 4 v_q), (h_held, o_J cJ 64 v_held), (h_x1, o_X0 h_x1_signs h_x1_ends v_x1_length), (h_x1_signs, o_I cI 16 v_x1_signs), (h_x1_ends, o_I cI 16 v_x1_ends), (h_x2, o_X2 v_x2_kind v_x2_worlds v_x2_arrows v_x2_p v_x2_q)] sz) := by
  unfold f_X7_evaluate at hf
  refine k_met RX7 rfl (by decide +kernel) (Nat.le_of_ble_eq_true rfl) ?_
  intro p e s m below meth c A ls hx hb hr hml hown hts hlocks hin hsz hAe hA hK hN hZ hD hS hP hl
  have hl : lv_has ls 5 [(0, .ref h_this), (1, .ref h_x1), (2, .ref h_x2)] := hl
  refine lv_aload_n hx hb dX7_evaluate_0 rfl (lv_at hl 1 rfl) ?_
  refine k_calli (wN := [(h_this, o_X7 h_p h_q h_held), (h_p, o_J cJ 4 v_p), (h_q, o_J cJ 4 v_q), (h_held, o_J cJ 64 v_held), (h_x1, o_X0 h_x1_signs h_x1_ends v_x1_length), (h_x1_signs, o_I cI 16 v_x1_signs), (h_x1_ends, o_I cI 16 v_x1_ends), (h_x2, o_X2 v_x2_kind v_x2_worlds v_x2_arrows v_x2_p v_x2_q)]) [4] [0, 1, 2, 3, 5, 6, 7] [0, 1, 2, 3, 7, 4, 5, 6] hP hD hS hA (va_runV (As := []) (rest := []) ⟨hx, hb, hml, hown, hts⟩ (k_X0_length l D cB cI cJ cZ tL tK h_x1 h_x1_signs h_x1_ends _ v_x1_length (f_X0_length v_x1_length) rfl) (cwV 0 hts (k_gV m_353 m_554 m_351 m_352 m_30) rfl rfl rfl (by decide +kernel) ⟨Nat.le_of_ble_eq_true rfl, Nat.le_of_ble_eq_true rfl⟩) (k_preV [4] hK hN hZ hP hD hS hA rfl rfl (va_recv hK hP (ci := 0) (q0 := 4) rfl rfl)) rfl rfl hl.1 rfl (lv_room (Nat.le_of_ble_eq_true rfl)) dX7_evaluate_1 ⟨Nat.le_refl _, Nat.le_refl _⟩) rfl rfl rfl rfl rfl (fun H locs hP hD hS => ?_)
  refine lv_iconst (v := 1) hx hb dX7_evaluate_4 (by decide) ?_
  refine lv_isub hx hb dX7_evaluate_5 ?_
  refine lv_istore_n (lv' := [(3, .int ((f_X0_length v_x1_length) - 1)), (0, .ref h_this), (1, .ref h_x1), (2, .ref h_x2)]) hx hb dX7_evaluate_6 rfl hl (by decide) rfl (fun ls hl => ?_)
  refine k_wl 51 (wsf := fun (a7 : Int32 × (Nat → Int64)) => [(h_this, o_X7 h_p h_q h_held), (h_p, o_J cJ 4 v_p), (h_q, o_J cJ 4 v_q), (h_held, o_J cJ 64 a7.2), (h_x1, o_X0 h_x1_signs h_x1_ends v_x1_length), (h_x1_signs, o_I cI 16 v_x1_signs), (h_x1_ends, o_I cI 16 v_x1_ends), (h_x2, o_X2 v_x2_kind v_x2_worlds v_x2_arrows v_x2_p v_x2_q)]) (lvf := fun (a7 : Int32 × (Nat → Int64)) => [(0, .ref h_this), (1, .ref h_x1), (2, .ref h_x2), (3, .int a7.1)]) hf hP hD hS (lv_sub hl [1, 2, 3, 0] rfl) ?_ ?_
  · intro a7 H locs ls hf hP hD hS hl
    have hP : va_P D vwCl [(h_this, o_X7 h_p h_q h_held), (h_p, o_J cJ 4 v_p), (h_q, o_J cJ 4 v_q), (h_held, o_J cJ 64 a7.2), (h_x1, o_X0 h_x1_signs h_x1_ends v_x1_length), (h_x1_signs, o_I cI 16 v_x1_signs), (h_x1_ends, o_I cI 16 v_x1_ends), (h_x2, o_X2 v_x2_kind v_x2_worlds v_x2_arrows v_x2_p v_x2_q)] H := hP
    have hD : va_D A [(h_this, o_X7 h_p h_q h_held), (h_p, o_J cJ 4 v_p), (h_q, o_J cJ 4 v_q), (h_held, o_J cJ 64 a7.2), (h_x1, o_X0 h_x1_signs h_x1_ends v_x1_length), (h_x1_signs, o_I cI 16 v_x1_signs), (h_x1_ends, o_I cI 16 v_x1_ends), (h_x2, o_X2 v_x2_kind v_x2_worlds v_x2_arrows v_x2_p v_x2_q)] := hD
    have hl : lv_has ls 5 [(0, .ref h_this), (1, .ref h_x1), (2, .ref h_x2), (3, .int a7.1)] := hl
    cases hf
    exact k_vret hx hb hr hlocks hAe hS hP hD dX7_evaluate_51
  · intro ex7 rc7 hE7 hR7 a7 H locs ls hf hP hD hS hl
    have hP : va_P D vwCl [(h_this, o_X7 h_p h_q h_held), (h_p, o_J cJ 4 v_p), (h_q, o_J cJ 4 v_q), (h_held, o_J cJ 64 a7.2), (h_x1, o_X0 h_x1_signs h_x1_ends v_x1_length), (h_x1_signs, o_I cI 16 v_x1_signs), (h_x1_ends, o_I cI 16 v_x1_ends), (h_x2, o_X2 v_x2_kind v_x2_worlds v_x2_arrows v_x2_p v_x2_q)] H := hP
    have hD : va_D A [(h_this, o_X7 h_p h_q h_held), (h_p, o_J cJ 4 v_p), (h_q, o_J cJ 4 v_q), (h_held, o_J cJ 64 a7.2), (h_x1, o_X0 h_x1_signs h_x1_ends v_x1_length), (h_x1_signs, o_I cI 16 v_x1_signs), (h_x1_ends, o_I cI 16 v_x1_ends), (h_x2, o_X2 v_x2_kind v_x2_worlds v_x2_arrows v_x2_p v_x2_q)] := hD
    have hl : lv_has ls 5 [(0, .ref h_this), (1, .ref h_x1), (2, .ref h_x2), (3, .int a7.1)] := hl
    refine lv_iload_n hx hb dX7_evaluate_7 rfl (lv_at hl 3 rfl) ?_
    refine lv_if_lt (tgt := 51) hx hb dX7_evaluate_8 (by decide) (fun c8 => ?_) (fun c8 => ?_)
    · replace hf := k_ifT c8 hf
      exact hE7 _ _ _ _ hf hP hD hS (lv_sub hl [0, 1, 2, 3] rfl)
    · replace hf := k_ifF c8 hf
      refine lv_iconst (v := 0) hx hb dX7_evaluate_11 (by decide) ?_
      refine lv_istore (lv' := [(4, .int 0), (0, .ref h_this), (1, .ref h_x1), (2, .ref h_x2), (3, .int a7.1)]) hx hb dX7_evaluate_12 hl (by decide) rfl (fun ls hl => ?_)
      refine k_wl 45 (wsf := fun (a14 : Int32 × (Nat → Int64)) => [(h_this, o_X7 h_p h_q h_held), (h_p, o_J cJ 4 v_p), (h_q, o_J cJ 4 v_q), (h_held, o_J cJ 64 a14.2), (h_x1, o_X0 h_x1_signs h_x1_ends v_x1_length), (h_x1_signs, o_I cI 16 v_x1_signs), (h_x1_ends, o_I cI 16 v_x1_ends), (h_x2, o_X2 v_x2_kind v_x2_worlds v_x2_arrows v_x2_p v_x2_q)]) (lvf := fun (a14 : Int32 × (Nat → Int64)) => [(0, .ref h_this), (1, .ref h_x1), (2, .ref h_x2), (3, .int a7.1), (4, .int a14.1)]) hf hP hD hS (lv_sub hl [1, 2, 3, 4, 0] rfl) ?_ ?_
      · intro a14 H locs ls hf hP hD hS hl
        have hP : va_P D vwCl [(h_this, o_X7 h_p h_q h_held), (h_p, o_J cJ 4 v_p), (h_q, o_J cJ 4 v_q), (h_held, o_J cJ 64 a14.2), (h_x1, o_X0 h_x1_signs h_x1_ends v_x1_length), (h_x1_signs, o_I cI 16 v_x1_signs), (h_x1_ends, o_I cI 16 v_x1_ends), (h_x2, o_X2 v_x2_kind v_x2_worlds v_x2_arrows v_x2_p v_x2_q)] H := hP
        have hD : va_D A [(h_this, o_X7 h_p h_q h_held), (h_p, o_J cJ 4 v_p), (h_q, o_J cJ 4 v_q), (h_held, o_J cJ 64 a14.2), (h_x1, o_X0 h_x1_signs h_x1_ends v_x1_length), (h_x1_signs, o_I cI 16 v_x1_signs), (h_x1_ends, o_I cI 16 v_x1_ends), (h_x2, o_X2 v_x2_kind v_x2_worlds v_x2_arrows v_x2_p v_x2_q)] := hD
        have hl : lv_has ls 5 [(0, .ref h_this), (1, .ref h_x1), (2, .ref h_x2), (3, .int a7.1), (4, .int a14.1)] := hl
        refine lv_iinc (v := (a7.1 + (-1))) (lv' := [(3, .int (a7.1 + (-1))), (0, .ref h_this), (1, .ref h_x1), (2, .ref h_x2), (4, .int a14.1)]) hx hb dX7_evaluate_45 hl (k := 3) rfl rfl (by decide) rfl (fun ls hl => ?_)
        refine lv_goto (tgt := 7) hx hb dX7_evaluate_48 (by decide) ?_
        exact hR7 _ _ _ _ hf hP hD hS (lv_sub hl [1, 2, 3, 0] rfl)
      · intro ex14 rc14 hE14 hR14 a14 H locs ls hf hP hD hS hl
        have hP : va_P D vwCl [(h_this, o_X7 h_p h_q h_held), (h_p, o_J cJ 4 v_p), (h_q, o_J cJ 4 v_q), (h_held, o_J cJ 64 a14.2), (h_x1, o_X0 h_x1_signs h_x1_ends v_x1_length), (h_x1_signs, o_I cI 16 v_x1_signs), (h_x1_ends, o_I cI 16 v_x1_ends), (h_x2, o_X2 v_x2_kind v_x2_worlds v_x2_arrows v_x2_p v_x2_q)] H := hP
        have hD : va_D A [(h_this, o_X7 h_p h_q h_held), (h_p, o_J cJ 4 v_p), (h_q, o_J cJ 4 v_q), (h_held, o_J cJ 64 a14.2), (h_x1, o_X0 h_x1_signs h_x1_ends v_x1_length), (h_x1_signs, o_I cI 16 v_x1_signs), (h_x1_ends, o_I cI 16 v_x1_ends), (h_x2, o_X2 v_x2_kind v_x2_worlds v_x2_arrows v_x2_p v_x2_q)] := hD
        have hl : lv_has ls 5 [(0, .ref h_this), (1, .ref h_x1), (2, .ref h_x2), (3, .int a7.1), (4, .int a14.1)] := hl
        refine lv_iload hx hb dX7_evaluate_14 (lv_at hl 4 rfl) ?_
        refine lv_aload_n hx hb dX7_evaluate_16 rfl (lv_at hl 2 rfl) ?_
        refine va_get (D := D) (ci := 2) (v := .int v_x2_worlds) (C := RX2) (T := TX2) (N := 5) hx hb hts inlX2 hown hK hP 7 rfl rfl 1 (by decide) (hts _ m_553) (fun _ h9 => h9) rfl dX7_evaluate_17 ?_
        refine lv_icmp_ge (tgt := 45) hx hb dX7_evaluate_20 (by decide) (fun c20 => ?_) (fun c20 => ?_)
        · replace hf := k_ifT c20 hf
          exact hE14 _ _ _ _ hf hP hD hS (lv_sub hl [0, 1, 2, 3, 4] rfl)
        · replace hf := k_ifF c20 hf
          refine lv_aload_n hx hb dX7_evaluate_23 rfl (lv_at hl 0 rfl) ?_
          refine lv_iload_n hx hb dX7_evaluate_24 rfl (lv_at hl 3 rfl) ?_
          refine lv_iload hx hb dX7_evaluate_25 (lv_at hl 4 rfl) ?_
          refine lv_aload_n hx hb dX7_evaluate_27 rfl (lv_at hl 0 rfl) ?_
          refine lv_aload_n hx hb dX7_evaluate_28 rfl (lv_at hl 1 rfl) ?_
          refine lv_aload_n hx hb dX7_evaluate_29 rfl (lv_at hl 2 rfl) ?_
          refine lv_iload_n hx hb dX7_evaluate_30 rfl (lv_at hl 3 rfl) ?_
          refine lv_iload hx hb dX7_evaluate_31 (lv_at hl 4 rfl) ?_
          obtain ⟨q33, hq33, hf⟩ := k_bind hf
          refine k_calll (wN := [(h_this, o_X7 h_p h_q h_held), (h_p, o_J cJ 4 v_p), (h_q, o_J cJ 4 v_q), (h_held, o_J cJ 64 a14.2), (h_x1, o_X0 h_x1_signs h_x1_ends v_x1_length), (h_x1_signs, o_I cI 16 v_x1_signs), (h_x1_ends, o_I cI 16 v_x1_ends), (h_x2, o_X2 v_x2_kind v_x2_worlds v_x2_arrows v_x2_p v_x2_q)]) [0, 1, 2, 3, 4, 5, 6, 7] [] [0, 1, 2, 3, 4, 5, 6, 7] hP hD hS hA (va_runV (As := [.ref h_x1, .ref h_x2, .int a7.1, .int a14.1]) (rest := [.int a14.1, .int a7.1, .ref h_this]) ⟨hx, hb, hml, hown, hts⟩ (k_X7_lanesOf l D cB cI cJ cZ tL tK h_this h_p h_q h_held h_x1 h_x1_signs h_x1_ends h_x2 _ v_p v_q a14.2 v_x1_length v_x1_signs v_x1_ends v_x2_kind v_x2_worlds v_x2_arrows v_x2_p v_x2_q a7.1 a14.1 q33 hq33) (cwV 4 hts (k_gV m_558 m_555 m_556 m_557 m_41) rfl rfl rfl (by decide +kernel) ⟨Nat.le_of_ble_eq_true rfl, Nat.le_of_ble_eq_true rfl⟩) (k_preV [0, 1, 2, 3, 4, 5, 6, 7] hK hN hZ hP hD hS hA rfl rfl (va_recv hK hP (ci := 6) (q0 := 0) rfl rfl)) rfl rfl hl.1 rfl (lv_room (Nat.le_of_ble_eq_true rfl)) dX7_evaluate_33 ⟨Nat.le_refl _, Nat.le_refl _⟩) rfl rfl rfl rfl rfl (fun H locs hP hD hS => ?_)
          obtain ⟨q36, hq36, hf⟩ := k_bind hf
          refine k_callv (wN := [(h_this, o_X7 h_p h_q h_held), (h_p, o_J cJ 4 v_p), (h_q, o_J cJ 4 v_q), (h_held, o_J cJ 64 q36), (h_x1, o_X0 h_x1_signs h_x1_ends v_x1_length), (h_x1_signs, o_I cI 16 v_x1_signs), (h_x1_ends, o_I cI 16 v_x1_ends), (h_x2, o_X2 v_x2_kind v_x2_worlds v_x2_arrows v_x2_p v_x2_q)]) [0, 3] [1, 2, 4, 5, 6, 7] [6, 0, 1, 7, 2, 3, 4, 5] hP hD hS hA (va_runV (As := [.int a7.1, .int a14.1, .long q33]) (rest := []) ⟨hx, hb, hml, hown, hts⟩ (k_X7_set l D cB cI cJ cZ tL tK h_this h_p h_q h_held _ a14.2 a7.1 a14.1 q33 q36 hq36) (cwV 3 hts (k_gV m_577 m_574 m_575 m_576 m_41) rfl rfl rfl (by decide +kernel) ⟨Nat.le_of_ble_eq_true rfl, Nat.le_of_ble_eq_true rfl⟩) (k_preV [0, 3] hK hN hZ hP hD hS hA rfl rfl (va_recv hK hP (ci := 6) (q0 := 0) rfl rfl)) rfl rfl hl.1 rfl (lv_room (Nat.le_of_ble_eq_true rfl)) dX7_evaluate_36 ⟨Nat.le_refl _, Nat.le_refl _⟩) rfl rfl rfl rfl rfl (fun H locs hP hD hS => ?_)
          refine lv_iinc (v := (a14.1 + 1)) (lv' := [(4, .int (a14.1 + 1)), (0, .ref h_this), (1, .ref h_x1), (2, .ref h_x2), (3, .int a7.1)]) hx hb dX7_evaluate_39 hl (k := 4) rfl rfl (by decide) rfl (fun ls hl => ?_)
          refine lv_goto (tgt := 14) hx hb dX7_evaluate_42 (by decide) ?_
          exact hR14 _ _ _ _ hf hP hD hS (lv_sub hl [1, 2, 3, 4, 0] rfl)
set_option maxHeartbeats 4000000 in
set_option maxRecDepth 100000 in
theorem k_X7_agree (l : Launch) (D : va_G) (cB cI cJ cZ : ClassId) (tL tK : Nat) (h_this h_p h_q h_held h_x1 h_x1_signs h_x1_ends : Nat) (sz : Nat) (v_held : (Nat → Int64)) (v_x1_length : Int32) (x2 : Int32) (x3 : Int32) (q : Int32) (hf : f_X7_agree v_held v_x1_length x2 x3 = some q) : Met l yX7_agree (.code yX7_agree cX7_agree 5 (some .boolean) :: k_all) { frames := 1, cells := 0, slots := 0, locals := 23 } (k_P D cB cI cJ cZ tL tK [.ref h_this, .ref h_x1, .int x2, .int x3] [(h_this, o_X7 h_p h_q h_held), (h_held, o_J cJ 64 v_held), (h_x1, o_X0 h_x1_signs h_x1_ends v_x1_length)] sz) (k_I D q [(h_this, o_X7 h_p h_q h_held), (h_held, o_J cJ 64 v_held), (h_x1, o_X0 h_x1_signs h_x1_ends v_x1_length)] [(h_this, o_X7 h_p h_q h_held), (h_held, o_J cJ 64 v_held), (h_x1, o_X0 h_x1_signs h_x1_ends v_x1_length)] sz) 0 0 (va_A [(h_this, o_X7 h_p h_q h_held), (h_held, o_J cJ 64 v_held), (h_x1, o_X0 h_x1_signs h_x1_ends v_x1_length)] sz) := by
  unfold f_X7_agree at hf
  refine k_met RX7 rfl (by decide +kernel) (Nat.le_of_ble_eq_true rfl) ?_
  intro p e s m below meth c A ls hx hb hr hml hown hts hlocks hin hsz hAe hA hK hN hZ hD hS hP hl
  have hl : lv_has ls 5 [(0, .ref h_this), (1, .ref h_x1), (2, .int x2), (3, .int x3)] := hl
  refine lv_iconst (v := 0) hx hb dX7_agree_0 (by decide) ?_
  refine lv_istore (lv' := [(4, .int 0), (0, .ref h_this), (1, .ref h_x1), (2, .int x2), (3, .int x3)]) hx hb dX7_agree_1 hl (by decide) rfl (fun ls hl => ?_)
  refine k_wl 38 (wsf := fun (a3 : Int32) => [(h_this, o_X7 h_p h_q h_held), (h_held, o_J cJ 64 v_held), (h_x1, o_X0 h_x1_signs h_x1_ends v_x1_length)]) (lvf := fun (a3 : Int32) => [(0, .ref h_this), (1, .ref h_x1), (2, .int x2), (3, .int x3), (4, .int a3)]) hf hP hD hS (lv_sub hl [1, 2, 3, 4, 0] rfl) ?_ ?_
  · intro a3 H locs ls hf hP hD hS hl
    have hP : va_P D vwCl [(h_this, o_X7 h_p h_q h_held), (h_held, o_J cJ 64 v_held), (h_x1, o_X0 h_x1_signs h_x1_ends v_x1_length)] H := hP
    have hD : va_D A [(h_this, o_X7 h_p h_q h_held), (h_held, o_J cJ 64 v_held), (h_x1, o_X0 h_x1_signs h_x1_ends v_x1_length)] := hD
    have hl : lv_has ls 5 [(0, .ref h_this), (1, .ref h_x1), (2, .int x2), (3, .int x3), (4, .int a3)] := hl
    refine lv_iconst (v := 1) hx hb dX7_agree_38 (by decide) ?_
    cases hf
    exact k_zret (r := 1) hx hb hr rfl hlocks hAe hS hP hD dX7_agree_39
  · intro ex3 rc3 hE3 hR3 a3 H locs ls hf hP hD hS hl
    have hP : va_P D vwCl [(h_this, o_X7 h_p h_q h_held), (h_held, o_J cJ 64 v_held), (h_x1, o_X0 h_x1_signs h_x1_ends v_x1_length)] H := hP
    have hD : va_D A [(h_this, o_X7 h_p h_q h_held), (h_held, o_J cJ 64 v_held), (h_x1, o_X0 h_x1_signs h_x1_ends v_x1_length)] := hD
    have hl : lv_has ls 5 [(0, .ref h_this), (1, .ref h_x1), (2, .int x2), (3, .int x3), (4, .int a3)] := hl
    refine lv_iload hx hb dX7_agree_3 (lv_at hl 4 rfl) ?_
    refine lv_aload_n hx hb dX7_agree_5 rfl (lv_at hl 1 rfl) ?_
    refine k_calli (wN := [(h_this, o_X7 h_p h_q h_held), (h_held, o_J cJ 64 v_held), (h_x1, o_X0 h_x1_signs h_x1_ends v_x1_length)]) [2] [0, 1] [0, 1, 2] hP hD hS hA (va_runV (As := []) (rest := [.int a3]) ⟨hx, hb, hml, hown, hts⟩ (k_X0_length l D cB cI cJ cZ tL tK h_x1 h_x1_signs h_x1_ends _ v_x1_length (f_X0_length v_x1_length) rfl) (cwV 0 hts (k_gV m_353 m_554 m_351 m_352 m_30) rfl rfl rfl (by decide +kernel) ⟨Nat.le_of_ble_eq_true rfl, Nat.le_of_ble_eq_true rfl⟩) (k_preV [2] hK hN hZ hP hD hS hA rfl rfl (va_recv hK hP (ci := 0) (q0 := 2) rfl rfl)) rfl rfl hl.1 rfl (lv_room (Nat.le_of_ble_eq_true rfl)) dX7_agree_6 ⟨Nat.le_refl _, Nat.le_refl _⟩) rfl rfl rfl rfl rfl (fun H locs hP hD hS => ?_)
    refine lv_icmp_ge (tgt := 38) hx hb dX7_agree_9 (by decide) (fun c9 => ?_) (fun c9 => ?_)
    · replace hf := k_ifT c9 hf
      exact hE3 _ _ _ _ hf hP hD hS (lv_sub hl [0, 1, 2, 3, 4] rfl)
    · replace hf := k_ifF c9 hf
      refine lv_aload_n hx hb dX7_agree_12 rfl (lv_at hl 0 rfl) ?_
      refine lv_iload hx hb dX7_agree_13 (lv_at hl 4 rfl) ?_
      refine lv_iload_n hx hb dX7_agree_15 rfl (lv_at hl 2 rfl) ?_
      obtain ⟨q16, hq16, hf⟩ := k_bind hf
      refine k_calll (wN := [(h_this, o_X7 h_p h_q h_held), (h_held, o_J cJ 64 v_held), (h_x1, o_X0 h_x1_signs h_x1_ends v_x1_length)]) [0, 1] [2] [1, 2, 0] hP hD hS hA (va_runV (As := [.int a3, .int x2]) (rest := []) ⟨hx, hb, hml, hown, hts⟩ (k_X7_at l D cB cI cJ cZ tL tK h_this h_p h_q h_held _ v_held a3 x2 q16 hq16) (cwV 2 hts (k_gV m_563 m_560 m_561 m_562 m_41) rfl rfl rfl (by decide +kernel) ⟨Nat.le_of_ble_eq_true rfl, Nat.le_of_ble_eq_true rfl⟩) (k_preV [0, 1] hK hN hZ hP hD hS hA rfl rfl (va_recv hK hP (ci := 6) (q0 := 0) rfl rfl)) rfl rfl hl.1 rfl (lv_room (Nat.le_of_ble_eq_true rfl)) dX7_agree_16 ⟨Nat.le_refl _, Nat.le_refl _⟩) rfl rfl rfl rfl rfl (fun H locs hP hD hS => ?_)
      refine lv_aload_n hx hb dX7_agree_19 rfl (lv_at hl 0 rfl) ?_
      refine lv_iload hx hb dX7_agree_20 (lv_at hl 4 rfl) ?_
      refine lv_iload_n hx hb dX7_agree_22 rfl (lv_at hl 3 rfl) ?_
      obtain ⟨q23, hq23, hf⟩ := k_bind hf
      refine k_calll (wN := [(h_this, o_X7 h_p h_q h_held), (h_held, o_J cJ 64 v_held), (h_x1, o_X0 h_x1_signs h_x1_ends v_x1_length)]) [0, 1] [2] [1, 2, 0] hP hD hS hA (va_runV (As := [.int a3, .int x3]) (rest := [.long q16]) ⟨hx, hb, hml, hown, hts⟩ (k_X7_at l D cB cI cJ cZ tL tK h_this h_p h_q h_held _ v_held a3 x3 q23 hq23) (cwV 2 hts (k_gV m_563 m_560 m_561 m_562 m_41) rfl rfl rfl (by decide +kernel) ⟨Nat.le_of_ble_eq_true rfl, Nat.le_of_ble_eq_true rfl⟩) (k_preV [0, 1] hK hN hZ hP hD hS hA rfl rfl (va_recv hK hP (ci := 6) (q0 := 0) rfl rfl)) rfl rfl hl.1 rfl (lv_room (Nat.le_of_ble_eq_true rfl)) dX7_agree_23 ⟨Nat.le_refl _, Nat.le_refl _⟩) rfl rfl rfl rfl rfl (fun H locs hP hD hS => ?_)
      refine W.lcmp hx hb dX7_agree_26 ?_
      refine lv_if_eq (tgt := 32) hx hb dX7_agree_27 (by decide) (fun c27 => ?_) (fun c27 => ?_)
      · replace hf := k_ifT c27 hf
        refine lv_iinc (v := (a3 + 1)) (lv' := [(4, .int (a3 + 1)), (0, .ref h_this), (1, .ref h_x1), (2, .int x2), (3, .int x3)]) hx hb dX7_agree_32 hl (k := 4) rfl rfl (by decide) rfl (fun ls hl => ?_)
        refine lv_goto (tgt := 3) hx hb dX7_agree_35 (by decide) ?_
        exact hR3 _ _ _ _ hf hP hD hS (lv_sub hl [1, 2, 3, 4, 0] rfl)
      · replace hf := k_ifF c27 hf
        refine lv_iconst (v := 0) hx hb dX7_agree_30 (by decide) ?_
        cases hf
        exact k_zret (r := 0) hx hb hr rfl hlocks hAe hS hP hD dX7_agree_31
set_option maxHeartbeats 4000000 in
set_option maxRecDepth 100000 in
theorem k_X7_lanesOfBit (l : Launch) (D : va_G) (cB cI cJ cZ : ClassId) (tL tK : Nat) (sz : Nat)  (x1 : Int32) (x2 : Int32) (q : Int64) (hf : f_X7_lanesOfBit x1 x2 = some q) : Met l yX7_lanesOfBit (.code yX7_lanesOfBit cX7_lanesOfBit 2 (some .long) :: k_all) { frames := 1, cells := 0, slots := 0, locals := 21 } (k_P D cB cI cJ cZ tL tK [.int x1, .int x2] [] sz) (k_L D q [] [] sz) 0 0 (va_A [] sz) := by
  unfold f_X7_lanesOfBit at hf
  refine k_met RX7 rfl (by decide +kernel) (Nat.le_of_ble_eq_true rfl) ?_
  intro p e s m below meth c A ls hx hb hr hml hown hts hlocks hin hsz hAe hA hK hN hZ hD hS hP hl
  have hl : lv_has ls 2 [(0, .int x1), (1, .int x2)] := hl
  refine lv_iload_n hx hb dX7_lanesOfBit_0 rfl (lv_at hl 0 rfl) ?_
  refine va_gets hx hb hZ.1 hS hown (hts _ m_791) (fun _ h9 => h9) dX7_lanesOfBit_1 ?_
  refine va_tlen (v := 6) hx hb hZ.2.1 hS rfl dX7_lanesOfBit_4 ?_
  refine k_calli (wN := []) [] [] [] hP hD hS hA (va_runSN (As := [.int x1, .int 6]) (rest := []) ⟨hx, hb, hml, hown, hts⟩ (k_X8_isBelow l D cB cI cJ cZ tL tK _ x1 6 (f_X8_isBelow x1 6) rfl) ⟨va_cnB 2 hts (k_gB m_112) rfl rfl rfl (hN.1 _ (List.mem_of_getElem? (i := 16) rfl)) (hts _ m_2) (by decide +kernel) ⟨Nat.le_of_ble_eq_true rfl, Nat.le_of_ble_eq_true rfl⟩, (hts _ m_111), trivial⟩ (k_preS [] hK hN hZ hP hD hS hA rfl rfl) rfl rfl hl.1 rfl (lv_room (Nat.le_of_ble_eq_true rfl)) dX7_lanesOfBit_5 ⟨Nat.le_refl _, Nat.le_refl _⟩) rfl rfl rfl rfl rfl (fun H locs hP hD hS => ?_)
  refine lv_if_eq (tgt := 17) hx hb dX7_lanesOfBit_8 (by decide) (fun c8 => ?_) (fun c8 => ?_)
  · replace hf := k_ifT c8 hf
    refine lv_iload_n hx hb dX7_lanesOfBit_17 rfl (lv_at hl 1 rfl) ?_
    refine lv_iload_n hx hb dX7_lanesOfBit_18 rfl (lv_at hl 0 rfl) ?_
    refine va_gets hx hb hZ.1 hS hown (hts _ m_791) (fun _ h9 => h9) dX7_lanesOfBit_19 ?_
    refine va_tlen (v := 6) hx hb hZ.2.1 hS rfl dX7_lanesOfBit_22 ?_
    refine lv_isub hx hb dX7_lanesOfBit_23 ?_
    refine k_calli (wN := []) [] [] [] hP hD hS hA (va_runSN (As := [.int x2, .int (x1 - 6)]) (rest := []) ⟨hx, hb, hml, hown, hts⟩ (k_X8_bit l D cB cI cJ cZ tL tK _ x2 (x1 - 6) (f_X8_bit x2 (x1 - 6)) rfl) ⟨va_cnB 2 hts (k_gB m_230) rfl rfl rfl (hN.1 _ (List.mem_of_getElem? (i := 15) rfl)) (hts _ m_2) (by decide +kernel) ⟨Nat.le_of_ble_eq_true rfl, Nat.le_of_ble_eq_true rfl⟩, (hts _ m_229), trivial⟩ (k_preS [] hK hN hZ hP hD hS hA rfl rfl) rfl rfl hl.1 rfl (lv_room (Nat.le_of_ble_eq_true rfl)) dX7_lanesOfBit_24 ⟨Nat.le_refl _, Nat.le_refl _⟩) rfl rfl rfl rfl rfl (fun H locs hP hD hS => ?_)
    refine k_calll (wN := []) [] [] [] hP hD hS hA (va_runS (As := [.int (f_X8_bit x2 (x1 - 6))]) (rest := []) ⟨hx, hb, hml, hown, hts⟩ (k_X7_allLanes l D cB cI cJ cZ tL tK _ (f_X8_bit x2 (x1 - 6)) (f_X7_allLanes (f_X8_bit x2 (x1 - 6))) rfl) (va_cwS 1 hts (k_gS m_543 m_541 m_542 m_41) rfl rfl rfl (by decide +kernel) ⟨Nat.le_of_ble_eq_true rfl, Nat.le_of_ble_eq_true rfl⟩) (k_preS [] hK hN hZ hP hD hS hA rfl rfl) rfl rfl hl.1 rfl (lv_room (Nat.le_of_ble_eq_true rfl)) dX7_lanesOfBit_27 ⟨Nat.le_refl _, Nat.le_refl _⟩) rfl rfl rfl rfl rfl (fun H locs hP hD hS => ?_)
    cases hf
    exact k_lret hx hb hr hlocks hAe hS hP hD dX7_lanesOfBit_30
  · replace hf := k_ifF c8 hf
    refine va_gets hx hb hZ.1 hS hown (hts _ m_791) (fun _ h9 => h9) dX7_lanesOfBit_11 ?_
    refine lv_iload_n hx hb dX7_lanesOfBit_14 rfl (lv_at hl 0 rfl) ?_
    obtain ⟨hi15, hf⟩ := k_chk_some hf
    refine va_tl (v := .long (k_lanes (Int32.toNatClampNeg x1))) hx hb hZ.2.1 hS hi15 rfl dX7_lanesOfBit_15 ?_
    cases hf
    exact k_lret hx hb hr hlocks hAe hS hP hD dX7_lanesOfBit_16
set_option maxHeartbeats 4000000 in
set_option maxRecDepth 100000 in
theorem k_X7_useBlock (l : Launch) (D : va_G) (cB cI cJ cZ : ClassId) (tL tK : Nat) (h_this h_p h_q h_held : Nat) (sz : Nat) (v_p : (Nat → Int64)) (v_q : (Nat → Int64)) (x1 : Int32) (x2 : Int32) (q : (Nat → Int64) × (Nat → Int64)) (hf : f_X7_useBlock v_p v_q x1 x2 = some q) : Met l yX7_useBlock (.code yX7_useBlock cX7_useBlock 4 none :: k_all) { frames := 2, cells := 0, slots := 0, locals := 46 } (k_P D cB cI cJ cZ tL tK [.ref h_this, .int x1, .int x2] [(h_this, o_X7 h_p h_q h_held), (h_p, o_J cJ 4 v_p), (h_q, o_J cJ 4 v_q)] sz) (k_V D [(h_this, o_X7 h_p h_q h_held), (h_p, o_J cJ 4 v_p), (h_q, o_J cJ 4 v_q)] [(h_this, o_X7 h_p h_q h_held), (h_p, o_J cJ 4 q.1), (h_q, o_J cJ 4 q.2)] sz) 0 0 (va_A [(h_this, o_X7 h_p h_q h_held), (h_p, o_J cJ 4 v_p), (h_q, o_J cJ 4 v_q)] sz) := by
  unfold f_X7_useBlock at hf
  refine k_met RX7 rfl (by decide +kernel) (Nat.le_of_ble_eq_true rfl) ?_
  intro p e s m below meth c A ls hx hb hr hml hown hts hlocks hin hsz hAe hA hK hN hZ hD hS hP hl
  have hl : lv_has ls 4 [(0, .ref h_this), (1, .int x1), (2, .int x2)] := hl
  refine lv_iconst (v := 0) hx hb dX7_useBlock_0 (by decide) ?_
  refine lv_istore_n (lv' := [(3, .int 0), (0, .ref h_this), (1, .int x1), (2, .int x2)]) hx hb dX7_useBlock_1 rfl hl (by decide) rfl (fun ls hl => ?_)
  refine k_wl 30 (wsf := fun (a2 : Int32 × (Nat → Int64) × (Nat → Int64)) => [(h_this, o_X7 h_p h_q h_held), (h_p, o_J cJ 4 a2.2.1), (h_q, o_J cJ 4 a2.2.2)]) (lvf := fun (a2 : Int32 × (Nat → Int64) × (Nat → Int64)) => [(0, .ref h_this), (1, .int x1), (2, .int x2), (3, .int a2.1)]) hf hP hD hS (lv_sub hl [1, 2, 3, 0] rfl) ?_ ?_
  · intro a2 H locs ls hf hP hD hS hl
    have hP : va_P D vwCl [(h_this, o_X7 h_p h_q h_held), (h_p, o_J cJ 4 a2.2.1), (h_q, o_J cJ 4 a2.2.2)] H := hP
    have hD : va_D A [(h_this, o_X7 h_p h_q h_held), (h_p, o_J cJ 4 a2.2.1), (h_q, o_J cJ 4 a2.2.2)] := hD
    have hl : lv_has ls 4 [(0, .ref h_this), (1, .int x1), (2, .int x2), (3, .int a2.1)] := hl
    cases hf
    exact k_vret hx hb hr hlocks hAe hS hP hD dX7_useBlock_30
  · intro ex2 rc2 hE2 hR2 a2 H locs ls hf hP hD hS hl
    have hP : va_P D vwCl [(h_this, o_X7 h_p h_q h_held), (h_p, o_J cJ 4 a2.2.1), (h_q, o_J cJ 4 a2.2.2)] H := hP
    have hD : va_D A [(h_this, o_X7 h_p h_q h_held), (h_p, o_J cJ 4 a2.2.1), (h_q, o_J cJ 4 a2.2.2)] := hD
    have hl : lv_has ls 4 [(0, .ref h_this), (1, .int x1), (2, .int x2), (3, .int a2.1)] := hl
    refine lv_iload_n hx hb dX7_useBlock_2 rfl (lv_at hl 3 rfl) ?_
    refine lv_iload_n hx hb dX7_useBlock_3 rfl (lv_at hl 2 rfl) ?_
    refine lv_icmp_ge (tgt := 30) hx hb dX7_useBlock_4 (by decide) (fun c4 => ?_) (fun c4 => ?_)
    · replace hf := k_ifT c4 hf
      exact hE2 _ _ _ _ hf hP hD hS (lv_sub hl [0, 1, 2, 3] rfl)
    · replace hf := k_ifF c4 hf
      refine lv_aload_n hx hb dX7_useBlock_7 rfl (lv_at hl 0 rfl) ?_
      refine lv_iload_n hx hb dX7_useBlock_8 rfl (lv_at hl 3 rfl) ?_
      refine lv_iload_n hx hb dX7_useBlock_9 rfl (lv_at hl 3 rfl) ?_
      refine lv_iload_n hx hb dX7_useBlock_10 rfl (lv_at hl 1 rfl) ?_
      obtain ⟨q11, hq11, hf⟩ := k_bind hf
      refine k_calll (wN := [(h_this, o_X7 h_p h_q h_held), (h_p, o_J cJ 4 a2.2.1), (h_q, o_J cJ 4 a2.2.2)]) [] [0, 1, 2] [0, 1, 2] hP hD hS hA (va_runS (As := [.int a2.1, .int x1]) (rest := [.int a2.1, .ref h_this]) ⟨hx, hb, hml, hown, hts⟩ (k_X7_lanesOfBit l D cB cI cJ cZ tL tK _ a2.1 x1 q11 hq11) (va_cwS 2 hts (k_gS m_790 m_788 m_789 m_41) rfl rfl rfl (by decide +kernel) ⟨Nat.le_of_ble_eq_true rfl, Nat.le_of_ble_eq_true rfl⟩) (k_preS [] hK hN hZ hP hD hS hA rfl rfl) rfl rfl hl.1 rfl (lv_room (Nat.le_of_ble_eq_true rfl)) dX7_useBlock_11 ⟨Nat.le_refl _, Nat.le_refl _⟩) rfl rfl rfl rfl rfl (fun H locs hP hD hS => ?_)
      refine lv_iload_n hx hb dX7_useBlock_14 rfl (lv_at hl 2 rfl) ?_
      refine lv_iload_n hx hb dX7_useBlock_15 rfl (lv_at hl 3 rfl) ?_
      refine lv_iadd hx hb dX7_useBlock_16 ?_
      refine lv_iload_n hx hb dX7_useBlock_17 rfl (lv_at hl 1 rfl) ?_
      obtain ⟨q18, hq18, hf⟩ := k_bind hf
      refine k_calll (wN := [(h_this, o_X7 h_p h_q h_held), (h_p, o_J cJ 4 a2.2.1), (h_q, o_J cJ 4 a2.2.2)]) [] [0, 1, 2] [0, 1, 2] hP hD hS hA (va_runS (As := [.int (x2 + a2.1), .int x1]) (rest := [.long q11, .int a2.1, .ref h_this]) ⟨hx, hb, hml, hown, hts⟩ (k_X7_lanesOfBit l D cB cI cJ cZ tL tK _ (x2 + a2.1) x1 q18 hq18) (va_cwS 2 hts (k_gS m_790 m_788 m_789 m_41) rfl rfl rfl (by decide +kernel) ⟨Nat.le_of_ble_eq_true rfl, Nat.le_of_ble_eq_true rfl⟩) (k_preS [] hK hN hZ hP hD hS hA rfl rfl) rfl rfl hl.1 rfl (lv_room (Nat.le_of_ble_eq_true rfl)) dX7_useBlock_18 ⟨Nat.le_refl _, Nat.le_refl _⟩) rfl rfl rfl rfl rfl (fun H locs hP hD hS => ?_)
      obtain ⟨q21, hq21, hf⟩ := k_bind hf
      refine k_callv (wN := [(h_this, o_X7 h_p h_q h_held), (h_p, o_J cJ 4 q21.1), (h_q, o_J cJ 4 q21.2)]) [0, 1, 2] [] [0, 1, 2] hP hD hS hA (va_runV (As := [.int a2.1, .long q11, .long q18]) (rest := []) ⟨hx, hb, hml, hown, hts⟩ (k_X7_setLetters l D cB cI cJ cZ tL tK h_this h_p h_q h_held _ a2.2.1 a2.2.2 a2.1 q11 q18 q21 hq21) (cwV 3 hts (k_gV m_548 m_545 m_546 m_547 m_41) rfl rfl rfl (by decide +kernel) ⟨Nat.le_of_ble_eq_true rfl, Nat.le_of_ble_eq_true rfl⟩) (k_preV [0, 1, 2] hK hN hZ hP hD hS hA rfl rfl (va_recv hK hP (ci := 6) (q0 := 0) rfl rfl)) rfl rfl hl.1 rfl (lv_room (Nat.le_of_ble_eq_true rfl)) dX7_useBlock_21 ⟨Nat.le_refl _, Nat.le_refl _⟩) rfl rfl rfl rfl rfl (fun H locs hP hD hS => ?_)
      refine lv_iinc (v := (a2.1 + 1)) (lv' := [(3, .int (a2.1 + 1)), (0, .ref h_this), (1, .int x1), (2, .int x2)]) hx hb dX7_useBlock_24 hl (k := 3) rfl rfl (by decide) rfl (fun ls hl => ?_)
      refine lv_goto (tgt := 2) hx hb dX7_useBlock_27 (by decide) ?_
      exact hR2 _ _ _ _ hf hP hD hS (lv_sub hl [1, 2, 3, 0] rfl)
set_option maxHeartbeats 4000000 in
set_option maxRecDepth 100000 in
theorem k_X7_refuting (l : Launch) (D : va_G) (cB cI cJ cZ : ClassId) (tL tK : Nat) (h_this h_p h_q h_held : Nat) (sz : Nat) (v_held : (Nat → Int64)) (x1 : Int32) (q : Int64) (hf : f_X7_refuting v_held x1 = some q) : Met l yX7_refuting (.code yX7_refuting cX7_refuting 5 (some .long) :: k_all) { frames := 1, cells := 0, slots := 0, locals := 23 } (k_P D cB cI cJ cZ tL tK [.ref h_this, .int x1] [(h_this, o_X7 h_p h_q h_held), (h_held, o_J cJ 64 v_held)] sz) (k_L D q [(h_this, o_X7 h_p h_q h_held), (h_held, o_J cJ 64 v_held)] [(h_this, o_X7 h_p h_q h_held), (h_held, o_J cJ 64 v_held)] sz) 0 0 (va_A [(h_this, o_X7 h_p h_q h_held), (h_held, o_J cJ 64 v_held)] sz) := by
  unfold f_X7_refuting at hf
  refine k_met RX7 rfl (by decide +kernel) (Nat.le_of_ble_eq_true rfl) ?_
  intro p e s m below meth c A ls hx hb hr hml hown hts hlocks hin hsz hAe hA hK hN hZ hD hS hP hl
  have hl : lv_has ls 5 [(0, .ref h_this), (1, .int x1)] := hl
  refine lv_lconst (v := 0) hx hb dX7_refuting_0 (by decide) ?_
  refine lv_lstore_n (lv' := [(2, .long 0), (0, .ref h_this), (1, .int x1)]) hx hb dX7_refuting_1 rfl hl (by decide) rfl (fun ls hl => ?_)
  refine lv_iconst (v := 0) hx hb dX7_refuting_2 (by decide) ?_
  refine lv_istore (lv' := [(4, .int 0), (2, .long 0), (0, .ref h_this), (1, .int x1)]) hx hb dX7_refuting_3 hl (by decide) rfl (fun ls hl => ?_)
  refine k_wl 31 (wsf := fun (a5 : Int64 × Int32) => [(h_this, o_X7 h_p h_q h_held), (h_held, o_J cJ 64 v_held)]) (lvf := fun (a5 : Int64 × Int32) => [(0, .ref h_this), (1, .int x1), (2, .long a5.1), (4, .int a5.2)]) hf hP hD hS (lv_sub hl [2, 3, 1, 0] rfl) ?_ ?_
  · intro a5 H locs ls hf hP hD hS hl
    have hP : va_P D vwCl [(h_this, o_X7 h_p h_q h_held), (h_held, o_J cJ 64 v_held)] H := hP
    have hD : va_D A [(h_this, o_X7 h_p h_q h_held), (h_held, o_J cJ 64 v_held)] := hD
    have hl : lv_has ls 5 [(0, .ref h_this), (1, .int x1), (2, .long a5.1), (4, .int a5.2)] := hl
    refine lv_lload_n hx hb dX7_refuting_31 rfl (lv_at hl 2 rfl) ?_
    cases hf
    exact k_lret hx hb hr hlocks hAe hS hP hD dX7_refuting_32
  · intro ex5 rc5 hE5 hR5 a5 H locs ls hf hP hD hS hl
    have hP : va_P D vwCl [(h_this, o_X7 h_p h_q h_held), (h_held, o_J cJ 64 v_held)] H := hP
    have hD : va_D A [(h_this, o_X7 h_p h_q h_held), (h_held, o_J cJ 64 v_held)] := hD
    have hl : lv_has ls 5 [(0, .ref h_this), (1, .int x1), (2, .long a5.1), (4, .int a5.2)] := hl
    refine lv_iload hx hb dX7_refuting_5 (lv_at hl 3 rfl) ?_
    refine lv_iload_n hx hb dX7_refuting_7 rfl (lv_at hl 1 rfl) ?_
    refine lv_icmp_ge (tgt := 31) hx hb dX7_refuting_8 (by decide) (fun c8 => ?_) (fun c8 => ?_)
    · replace hf := k_ifT c8 hf
      exact hE5 _ _ _ _ hf hP hD hS (lv_sub hl [0, 1, 2, 3] rfl)
    · replace hf := k_ifF c8 hf
      refine lv_lload_n hx hb dX7_refuting_11 rfl (lv_at hl 2 rfl) ?_
      refine lv_aload_n hx hb dX7_refuting_12 rfl (lv_at hl 0 rfl) ?_
      refine lv_iconst (v := 0) hx hb dX7_refuting_13 (by decide) ?_
      refine lv_iload hx hb dX7_refuting_14 (lv_at hl 3 rfl) ?_
      obtain ⟨q16, hq16, hf⟩ := k_bind hf
      refine k_calll (wN := [(h_this, o_X7 h_p h_q h_held), (h_held, o_J cJ 64 v_held)]) [0, 1] [] [0, 1] hP hD hS hA (va_runV (As := [.int 0, .int a5.2]) (rest := [.long a5.1]) ⟨hx, hb, hml, hown, hts⟩ (k_X7_at l D cB cI cJ cZ tL tK h_this h_p h_q h_held _ v_held 0 a5.2 q16 hq16) (cwV 2 hts (k_gV m_563 m_560 m_561 m_562 m_41) rfl rfl rfl (by decide +kernel) ⟨Nat.le_of_ble_eq_true rfl, Nat.le_of_ble_eq_true rfl⟩) (k_preV [0, 1] hK hN hZ hP hD hS hA rfl rfl (va_recv hK hP (ci := 6) (q0 := 0) rfl rfl)) rfl rfl hl.1 rfl (lv_room (Nat.le_of_ble_eq_true rfl)) dX7_refuting_16 ⟨Nat.le_refl _, Nat.le_refl _⟩) rfl rfl rfl rfl rfl (fun H locs hP hD hS => ?_)
      refine lv_ldc2 (v := (-1)) hx hb hown (hts _ m_544) dX7_refuting_19 ?_
      refine lv_lxor hx hb dX7_refuting_22 ?_
      refine lv_lor hx hb dX7_refuting_23 ?_
      refine lv_lstore_n (lv' := [(2, .long (a5.1 ||| (q16 ^^^ (-1)))), (0, .ref h_this), (1, .int x1), (4, .int a5.2)]) hx hb dX7_refuting_24 rfl hl (by decide) rfl (fun ls hl => ?_)
      refine lv_iinc (v := (a5.2 + 1)) (lv' := [(4, .int (a5.2 + 1)), (2, .long (a5.1 ||| (q16 ^^^ (-1)))), (0, .ref h_this), (1, .int x1)]) hx hb dX7_refuting_25 hl (k := 3) rfl rfl (by decide) rfl (fun ls hl => ?_)
      refine lv_goto (tgt := 5) hx hb dX7_refuting_28 (by decide) ?_
      exact hR5 _ _ _ _ hf hP hD hS (lv_sub hl [2, 3, 1, 0] rfl)
set_option maxHeartbeats 4000000 in
set_option maxRecDepth 100000 in
theorem k_X7_isValid (l : Launch) (D : va_G) (cB cI cJ cZ : ClassId) (tL tK : Nat) (h_this h_p h_q h_held h_x1 h_x1_signs h_x1_ends h_x2 : Nat) (sz : Nat) (v_p : (Nat → Int64)) (v_q : (Nat → Int64)) (v_held : (Nat → Int64)) (v_x1_length : Int32) (v_x1_signs : (Nat → Int32)) (v_x1_ends : (Nat → Int32)) (v_x2_kind : Int32) (v_x2_worlds : Int32) (v_x2_arrows : Int32) (v_x2_p : Int32) (v_x2_q : Int32)  (q : Int32 × (Nat → Int64) × (Nat → Int64) × (Nat → Int64)) (hf : f_X7_isValid v_p v_q v_held v_x1_length v_x1_signs v_x1_ends v_x2_worlds v_x2_arrows = some q) : Met l yX7_isValid (.code yX7_isValid cX7_isValid 5 (some .boolean) :: k_all) { frames := 4, cells := 0, slots := 0, locals := 97 } (k_P D cB cI cJ cZ tL tK [.ref h_this, .ref h_x1, .ref h_x2] [(h_this, o_X7 h_p h_q h_held), (h_p, o_J cJ 4 v_p), (h_q, o_J cJ 4 v_q), (h_held, o_J cJ 64 v_held), (h_x1, o_X0 h_x1_signs h_x1_ends v_x1_length), (h_x1_signs, o_I cI 16 v_x1_signs), (h_x1_ends, o_I cI 16 v_x1_ends), (h_x2, o_X2 v_x2_kind v_x2_worlds v_x2_arrows v_x2_p v_x2_q)] sz) (k_I D q.1 [(h_this, o_X7 h_p h_q h_held), (h_p, o_J cJ 4 v_p), (h_q, o_J cJ 4 v_q), (h_held, o_J cJ 64 v_held), (h_x1, o_X0 h_x1_signs h_x1_ends v_x1_length), (h_x1_signs, o_I cI 16 v_x1_signs), (h_x1_ends, o_I cI 16 v_x1_ends), (h_x2, o_X2 v_x2_kind v_x2_worlds v_x2_arrows v_x2_p v_x2_q)] [(h_this, o_X7 h_p h_q h_held), (h_p, o_J cJ 4 q.2.1), (h_q, o_J cJ 4 q.2.2.1), (h_held, o_J cJ 64 q.2.2.2), (h_x1, o_X0 h_x1_signs h_x1_ends v_x1_length), (h_x1_signs, o_I cI 16 v_x1_signs), (h_x1_ends, o_I cI 16 v_x1_ends), (h_x2, o_X2 v_x2_kind v_x2_worlds v_x2_arrows v_x2_p v_x2_q)] sz) 0 0 (va_A [(h_this, o_X7 h_p h_q h_held), (h_p, o_J cJ 4 v_p), (h_q, o_J cJ 4 v_q), (h_held, o_J cJ 64 v_held), (h_x1, o_X0 h_x1_signs h_x1_ends v_x1_length), (h_x1_signs, o_I cI 16 v_x1_signs), (h_x1_ends, o_I cI 16 v_x1_ends), (h_x2, o_X2 v_x2_kind v_x2_worlds v_x2_arrows v_x2_p v_x2_q)] sz) := by
  unfold f_X7_isValid at hf
  refine k_met RX7 rfl (by decide +kernel) (Nat.le_of_ble_eq_true rfl) ?_
  intro p e s m below meth c A ls hx hb hr hml hown hts hlocks hin hsz hAe hA hK hN hZ hD hS hP hl
  have hl : lv_has ls 5 [(0, .ref h_this), (1, .ref h_x1), (2, .ref h_x2)] := hl
  refine lv_aload_n hx hb dX7_isValid_0 rfl (lv_at hl 2 rfl) ?_
  refine va_get (D := D) (ci := 2) (v := .int v_x2_worlds) (C := RX2) (T := TX2) (N := 5) hx hb hts inlX2 hown hK hP 7 rfl rfl 1 (by decide) (hts _ m_553) (fun _ h9 => h9) rfl dX7_isValid_1 ?_
  refine lv_iconst (v := 4) hx hb dX7_isValid_4 (by decide) ?_
  refine k_jn (D := D) (A := A) (nL := 5) hf (fun (j5 : Int32) => [(h_this, o_X7 h_p h_q h_held), (h_p, o_J cJ 4 v_p), (h_q, o_J cJ 4 v_q), (h_held, o_J cJ 64 v_held), (h_x1, o_X0 h_x1_signs h_x1_ends v_x1_length), (h_x1_signs, o_I cI 16 v_x1_signs), (h_x1_ends, o_I cI 16 v_x1_ends), (h_x2, o_X2 v_x2_kind v_x2_worlds v_x2_arrows v_x2_p v_x2_q)]) (fun (j5 : Int32) => [(0, .ref h_this), (1, .ref h_x1), (2, .ref h_x2)]) (fun (j5 : Int32) => [.int j5]) 13 ?_ ?_
  · intro j5 H locs ls hf hP hD hS hl
    have hP : va_P D vwCl [(h_this, o_X7 h_p h_q h_held), (h_p, o_J cJ 4 v_p), (h_q, o_J cJ 4 v_q), (h_held, o_J cJ 64 v_held), (h_x1, o_X0 h_x1_signs h_x1_ends v_x1_length), (h_x1_signs, o_I cI 16 v_x1_signs), (h_x1_ends, o_I cI 16 v_x1_ends), (h_x2, o_X2 v_x2_kind v_x2_worlds v_x2_arrows v_x2_p v_x2_q)] H := hP
    have hD : va_D A [(h_this, o_X7 h_p h_q h_held), (h_p, o_J cJ 4 v_p), (h_q, o_J cJ 4 v_q), (h_held, o_J cJ 64 v_held), (h_x1, o_X0 h_x1_signs h_x1_ends v_x1_length), (h_x1_signs, o_I cI 16 v_x1_signs), (h_x1_ends, o_I cI 16 v_x1_ends), (h_x2, o_X2 v_x2_kind v_x2_worlds v_x2_arrows v_x2_p v_x2_q)] := hD
    have hl : lv_has ls 5 [(0, .ref h_this), (1, .ref h_x1), (2, .ref h_x2)] := hl
    show W p l e _ s m _ below meth c H locs _ _ _ (F0 m 13 ls [.int j5])
    refine lv_istore_n (lv' := [(3, .int j5), (0, .ref h_this), (1, .ref h_x1), (2, .ref h_x2)]) hx hb dX7_isValid_13 rfl hl (by decide) rfl (fun ls hl => ?_)
    refine lv_iconst (v := 0) hx hb dX7_isValid_14 (by decide) ?_
    refine lv_istore (lv' := [(4, .int 0), (3, .int j5), (0, .ref h_this), (1, .ref h_x1), (2, .ref h_x2)]) hx hb dX7_isValid_15 hl (by decide) rfl (fun ls hl => ?_)
    refine k_wl 60 (wsf := fun (a17 : Int32 × (Nat → Int64) × (Nat → Int64) × (Nat → Int64)) => [(h_this, o_X7 h_p h_q h_held), (h_p, o_J cJ 4 a17.2.1), (h_q, o_J cJ 4 a17.2.2.1), (h_held, o_J cJ 64 a17.2.2.2), (h_x1, o_X0 h_x1_signs h_x1_ends v_x1_length), (h_x1_signs, o_I cI 16 v_x1_signs), (h_x1_ends, o_I cI 16 v_x1_ends), (h_x2, o_X2 v_x2_kind v_x2_worlds v_x2_arrows v_x2_p v_x2_q)]) (lvf := fun (a17 : Int32 × (Nat → Int64) × (Nat → Int64) × (Nat → Int64)) => [(0, .ref h_this), (1, .ref h_x1), (2, .ref h_x2), (3, .int j5), (4, .int a17.1)]) hf hP hD hS (lv_sub hl [2, 3, 4, 1, 0] rfl) ?_ ?_
    · intro a17 H locs ls hf hP hD hS hl
      have hP : va_P D vwCl [(h_this, o_X7 h_p h_q h_held), (h_p, o_J cJ 4 a17.2.1), (h_q, o_J cJ 4 a17.2.2.1), (h_held, o_J cJ 64 a17.2.2.2), (h_x1, o_X0 h_x1_signs h_x1_ends v_x1_length), (h_x1_signs, o_I cI 16 v_x1_signs), (h_x1_ends, o_I cI 16 v_x1_ends), (h_x2, o_X2 v_x2_kind v_x2_worlds v_x2_arrows v_x2_p v_x2_q)] H := hP
      have hD : va_D A [(h_this, o_X7 h_p h_q h_held), (h_p, o_J cJ 4 a17.2.1), (h_q, o_J cJ 4 a17.2.2.1), (h_held, o_J cJ 64 a17.2.2.2), (h_x1, o_X0 h_x1_signs h_x1_ends v_x1_length), (h_x1_signs, o_I cI 16 v_x1_signs), (h_x1_ends, o_I cI 16 v_x1_ends), (h_x2, o_X2 v_x2_kind v_x2_worlds v_x2_arrows v_x2_p v_x2_q)] := hD
      have hl : lv_has ls 5 [(0, .ref h_this), (1, .ref h_x1), (2, .ref h_x2), (3, .int j5), (4, .int a17.1)] := hl
      refine lv_iconst (v := 1) hx hb dX7_isValid_60 (by decide) ?_
      cases hf
      exact k_zret (r := 1) hx hb hr rfl hlocks hAe hS hP hD dX7_isValid_61
    · intro ex17 rc17 hE17 hR17 a17 H locs ls hf hP hD hS hl
      have hP : va_P D vwCl [(h_this, o_X7 h_p h_q h_held), (h_p, o_J cJ 4 a17.2.1), (h_q, o_J cJ 4 a17.2.2.1), (h_held, o_J cJ 64 a17.2.2.2), (h_x1, o_X0 h_x1_signs h_x1_ends v_x1_length), (h_x1_signs, o_I cI 16 v_x1_signs), (h_x1_ends, o_I cI 16 v_x1_ends), (h_x2, o_X2 v_x2_kind v_x2_worlds v_x2_arrows v_x2_p v_x2_q)] H := hP
      have hD : va_D A [(h_this, o_X7 h_p h_q h_held), (h_p, o_J cJ 4 a17.2.1), (h_q, o_J cJ 4 a17.2.2.1), (h_held, o_J cJ 64 a17.2.2.2), (h_x1, o_X0 h_x1_signs h_x1_ends v_x1_length), (h_x1_signs, o_I cI 16 v_x1_signs), (h_x1_ends, o_I cI 16 v_x1_ends), (h_x2, o_X2 v_x2_kind v_x2_worlds v_x2_arrows v_x2_p v_x2_q)] := hD
      have hl : lv_has ls 5 [(0, .ref h_this), (1, .ref h_x1), (2, .ref h_x2), (3, .int j5), (4, .int a17.1)] := hl
      refine lv_iload hx hb dX7_isValid_17 (lv_at hl 4 rfl) ?_
      refine lv_iload_n hx hb dX7_isValid_19 rfl (lv_at hl 3 rfl) ?_
      refine lv_icmp_ge (tgt := 60) hx hb dX7_isValid_20 (by decide) (fun c20 => ?_) (fun c20 => ?_)
      · replace hf := k_ifT c20 hf
        exact hE17 _ _ _ _ hf hP hD hS (lv_sub hl [0, 1, 2, 3, 4] rfl)
      · replace hf := k_ifF c20 hf
        refine lv_aload_n hx hb dX7_isValid_23 rfl (lv_at hl 0 rfl) ?_
        refine lv_iload hx hb dX7_isValid_24 (lv_at hl 4 rfl) ?_
        refine lv_aload_n hx hb dX7_isValid_26 rfl (lv_at hl 2 rfl) ?_
        refine va_get (D := D) (ci := 2) (v := .int v_x2_worlds) (C := RX2) (T := TX2) (N := 5) hx hb hts inlX2 hown hK hP 7 rfl rfl 1 (by decide) (hts _ m_553) (fun _ h9 => h9) rfl dX7_isValid_27 ?_
        obtain ⟨q30, hq30, hf⟩ := k_bind hf
        refine k_callv (wN := [(h_this, o_X7 h_p h_q h_held), (h_p, o_J cJ 4 q30.1), (h_q, o_J cJ 4 q30.2), (h_held, o_J cJ 64 a17.2.2.2), (h_x1, o_X0 h_x1_signs h_x1_ends v_x1_length), (h_x1_signs, o_I cI 16 v_x1_signs), (h_x1_ends, o_I cI 16 v_x1_ends), (h_x2, o_X2 v_x2_kind v_x2_worlds v_x2_arrows v_x2_p v_x2_q)]) [0, 1, 2] [3, 4, 5, 6, 7] [5, 6, 7, 0, 1, 2, 3, 4] hP hD hS hA (va_runV (As := [.int a17.1, .int v_x2_worlds]) (rest := []) ⟨hx, hb, hml, hown, hts⟩ (k_X7_useBlock l D cB cI cJ cZ tL tK h_this h_p h_q h_held _ a17.2.1 a17.2.2.1 a17.1 v_x2_worlds q30 hq30) (cwV 2 hts (k_gV m_787 m_784 m_785 m_786 m_41) rfl rfl rfl (by decide +kernel) ⟨Nat.le_of_ble_eq_true rfl, Nat.le_of_ble_eq_true rfl⟩) (k_preV [0, 1, 2] hK hN hZ hP hD hS hA rfl rfl (va_recv hK hP (ci := 6) (q0 := 0) rfl rfl)) rfl rfl hl.1 rfl (lv_room (Nat.le_of_ble_eq_true rfl)) dX7_isValid_30 ⟨Nat.le_refl _, Nat.le_refl _⟩) rfl rfl rfl rfl rfl (fun H locs hP hD hS => ?_)
        refine lv_aload_n hx hb dX7_isValid_33 rfl (lv_at hl 0 rfl) ?_
        refine lv_aload_n hx hb dX7_isValid_34 rfl (lv_at hl 1 rfl) ?_
        refine lv_aload_n hx hb dX7_isValid_35 rfl (lv_at hl 2 rfl) ?_
        obtain ⟨q36, hq36, hf⟩ := k_bind hf
        refine k_callv (wN := [(h_this, o_X7 h_p h_q h_held), (h_p, o_J cJ 4 q30.1), (h_q, o_J cJ 4 q30.2), (h_held, o_J cJ 64 q36), (h_x1, o_X0 h_x1_signs h_x1_ends v_x1_length), (h_x1_signs, o_I cI 16 v_x1_signs), (h_x1_ends, o_I cI 16 v_x1_ends), (h_x2, o_X2 v_x2_kind v_x2_worlds v_x2_arrows v_x2_p v_x2_q)]) [0, 1, 2, 3, 4, 5, 6, 7] [] [0, 1, 2, 3, 4, 5, 6, 7] hP hD hS hA (va_runV (As := [.ref h_x1, .ref h_x2]) (rest := []) ⟨hx, hb, hml, hown, hts⟩ (k_X7_evaluate l D cB cI cJ cZ tL tK h_this h_p h_q h_held h_x1 h_x1_signs h_x1_ends h_x2 _ q30.1 q30.2 a17.2.2.2 v_x1_length v_x1_signs v_x1_ends v_x2_kind v_x2_worlds v_x2_arrows v_x2_p v_x2_q q36 hq36) (cwV 2 hts (k_gV m_552 m_792 m_550 m_551 m_41) rfl rfl rfl (by decide +kernel) ⟨Nat.le_of_ble_eq_true rfl, Nat.le_of_ble_eq_true rfl⟩) (k_preV [0, 1, 2, 3, 4, 5, 6, 7] hK hN hZ hP hD hS hA rfl rfl (va_recv hK hP (ci := 6) (q0 := 0) rfl rfl)) rfl rfl hl.1 rfl (lv_room (Nat.le_of_ble_eq_true rfl)) dX7_isValid_36 ⟨Nat.le_refl _, Nat.le_refl _⟩) rfl rfl rfl rfl rfl (fun H locs hP hD hS => ?_)
        refine lv_aload_n hx hb dX7_isValid_39 rfl (lv_at hl 0 rfl) ?_
        refine lv_aload_n hx hb dX7_isValid_40 rfl (lv_at hl 2 rfl) ?_
        refine va_get (D := D) (ci := 2) (v := .int v_x2_worlds) (C := RX2) (T := TX2) (N := 5) hx hb hts inlX2 hown hK hP 7 rfl rfl 1 (by decide) (hts _ m_553) (fun _ h9 => h9) rfl dX7_isValid_41 ?_
        obtain ⟨q44, hq44, hf⟩ := k_bind hf
        refine k_calll (wN := [(h_this, o_X7 h_p h_q h_held), (h_p, o_J cJ 4 q30.1), (h_q, o_J cJ 4 q30.2), (h_held, o_J cJ 64 q36), (h_x1, o_X0 h_x1_signs h_x1_ends v_x1_length), (h_x1_signs, o_I cI 16 v_x1_signs), (h_x1_ends, o_I cI 16 v_x1_ends), (h_x2, o_X2 v_x2_kind v_x2_worlds v_x2_arrows v_x2_p v_x2_q)]) [0, 3] [1, 2, 4, 5, 6, 7] [6, 0, 1, 7, 2, 3, 4, 5] hP hD hS hA (va_runV (As := [.int v_x2_worlds]) (rest := []) ⟨hx, hb, hml, hown, hts⟩ (k_X7_refuting l D cB cI cJ cZ tL tK h_this h_p h_q h_held _ q36 v_x2_worlds q44 hq44) (cwV 1 hts (k_gV m_796 m_793 m_794 m_795 m_41) rfl rfl rfl (by decide +kernel) ⟨Nat.le_of_ble_eq_true rfl, Nat.le_of_ble_eq_true rfl⟩) (k_preV [0, 3] hK hN hZ hP hD hS hA rfl rfl (va_recv hK hP (ci := 6) (q0 := 0) rfl rfl)) rfl rfl hl.1 rfl (lv_room (Nat.le_of_ble_eq_true rfl)) dX7_isValid_44 ⟨Nat.le_refl _, Nat.le_refl _⟩) rfl rfl rfl rfl rfl (fun H locs hP hD hS => ?_)
        refine lv_lconst (v := 0) hx hb dX7_isValid_47 (by decide) ?_
        refine W.lcmp hx hb dX7_isValid_48 ?_
        refine lv_if_eq (tgt := 54) hx hb dX7_isValid_49 (by decide) (fun c49 => ?_) (fun c49 => ?_)
        · replace hf := k_ifT c49 hf
          refine lv_iinc (v := (a17.1 + 1)) (lv' := [(4, .int (a17.1 + 1)), (0, .ref h_this), (1, .ref h_x1), (2, .ref h_x2), (3, .int j5)]) hx hb dX7_isValid_54 hl (k := 4) rfl rfl (by decide) rfl (fun ls hl => ?_)
          refine lv_goto (tgt := 17) hx hb dX7_isValid_57 (by decide) ?_
          exact hR17 _ _ _ _ hf hP hD hS (lv_sub hl [1, 2, 3, 4, 0] rfl)
        · replace hf := k_ifF c49 hf
          refine lv_iconst (v := 0) hx hb dX7_isValid_52 (by decide) ?_
          cases hf
          exact k_zret (r := 0) hx hb hr rfl hlocks hAe hS hP hD dX7_isValid_53
  · intro j5 hf hj5
    refine lv_icmp_ge (tgt := 12) hx hb dX7_isValid_5 (by decide) (fun c5 => ?_) (fun c5 => ?_)
    · replace hf := k_ifT c5 hf
      refine lv_iconst (v := 4) hx hb dX7_isValid_12 (by decide) ?_
      cases hf
      exact hj5 _ _ _ hP hD hS (lv_sub hl [0, 1, 2] rfl)
    · replace hf := k_ifF c5 hf
      refine lv_iconst (v := 1) hx hb dX7_isValid_8 (by decide) ?_
      refine lv_goto (tgt := 13) hx hb dX7_isValid_9 (by decide) ?_
      cases hf
      exact hj5 _ _ _ hP hD hS (lv_sub hl [0, 1, 2] rfl)
set_option maxHeartbeats 4000000 in
set_option maxRecDepth 100000 in
theorem k_X7_lowestWithout (l : Launch) (D : va_G) (cB cI cJ cZ : ClassId) (tL tK : Nat) (h_this h_p h_q h_held : Nat) (sz : Nat) (v_held : (Nat → Int64)) (x1 : Int32) (x2 : Int32) (q : Int32) (hf : f_X7_lowestWithout v_held x1 x2 = some q) : Met l yX7_lowestWithout (.code yX7_lowestWithout cX7_lowestWithout 4 (some .int) :: k_all) { frames := 1, cells := 0, slots := 0, locals := 23 } (k_P D cB cI cJ cZ tL tK [.ref h_this, .int x1, .int x2] [(h_this, o_X7 h_p h_q h_held), (h_held, o_J cJ 64 v_held)] sz) (k_I D q [(h_this, o_X7 h_p h_q h_held), (h_held, o_J cJ 64 v_held)] [(h_this, o_X7 h_p h_q h_held), (h_held, o_J cJ 64 v_held)] sz) 0 0 (va_A [(h_this, o_X7 h_p h_q h_held), (h_held, o_J cJ 64 v_held)] sz) := by
  unfold f_X7_lowestWithout at hf
  refine k_met RX7 rfl (by decide +kernel) (Nat.le_of_ble_eq_true rfl) ?_
  intro p e s m below meth c A ls hx hb hr hml hown hts hlocks hin hsz hAe hA hK hN hZ hD hS hP hl
  have hl : lv_has ls 4 [(0, .ref h_this), (1, .int x1), (2, .int x2)] := hl
  refine lv_iconst (v := 0) hx hb dX7_lowestWithout_0 (by decide) ?_
  refine lv_istore_n (lv' := [(3, .int 0), (0, .ref h_this), (1, .int x1), (2, .int x2)]) hx hb dX7_lowestWithout_1 rfl hl (by decide) rfl (fun ls hl => ?_)
  refine k_wl 30 (wsf := fun (a2 : Int32) => [(h_this, o_X7 h_p h_q h_held), (h_held, o_J cJ 64 v_held)]) (lvf := fun (a2 : Int32) => [(0, .ref h_this), (1, .int x1), (2, .int x2), (3, .int a2)]) hf hP hD hS (lv_sub hl [1, 2, 3, 0] rfl) ?_ ?_
  · intro a2 H locs ls hf hP hD hS hl
    have hP : va_P D vwCl [(h_this, o_X7 h_p h_q h_held), (h_held, o_J cJ 64 v_held)] H := hP
    have hD : va_D A [(h_this, o_X7 h_p h_q h_held), (h_held, o_J cJ 64 v_held)] := hD
    have hl : lv_has ls 4 [(0, .ref h_this), (1, .int x1), (2, .int x2), (3, .int a2)] := hl
    refine lv_iconst (v := (-1)) hx hb dX7_lowestWithout_30 (by decide) ?_
    cases hf
    exact k_iret hx hb hr hlocks hAe hS hP hD dX7_lowestWithout_31
  · intro ex2 rc2 hE2 hR2 a2 H locs ls hf hP hD hS hl
    have hP : va_P D vwCl [(h_this, o_X7 h_p h_q h_held), (h_held, o_J cJ 64 v_held)] H := hP
    have hD : va_D A [(h_this, o_X7 h_p h_q h_held), (h_held, o_J cJ 64 v_held)] := hD
    have hl : lv_has ls 4 [(0, .ref h_this), (1, .int x1), (2, .int x2), (3, .int a2)] := hl
    refine lv_iload_n hx hb dX7_lowestWithout_2 rfl (lv_at hl 3 rfl) ?_
    refine lv_iload_n hx hb dX7_lowestWithout_3 rfl (lv_at hl 2 rfl) ?_
    refine lv_icmp_ge (tgt := 30) hx hb dX7_lowestWithout_4 (by decide) (fun c4 => ?_) (fun c4 => ?_)
    · replace hf := k_ifT c4 hf
      exact hE2 _ _ _ _ hf hP hD hS (lv_sub hl [0, 1, 2, 3] rfl)
    · replace hf := k_ifF c4 hf
      refine lv_aload_n hx hb dX7_lowestWithout_7 rfl (lv_at hl 0 rfl) ?_
      refine lv_iconst (v := 0) hx hb dX7_lowestWithout_8 (by decide) ?_
      refine lv_iload_n hx hb dX7_lowestWithout_9 rfl (lv_at hl 3 rfl) ?_
      obtain ⟨q10, hq10, hf⟩ := k_bind hf
      refine k_calll (wN := [(h_this, o_X7 h_p h_q h_held), (h_held, o_J cJ 64 v_held)]) [0, 1] [] [0, 1] hP hD hS hA (va_runV (As := [.int 0, .int a2]) (rest := []) ⟨hx, hb, hml, hown, hts⟩ (k_X7_at l D cB cI cJ cZ tL tK h_this h_p h_q h_held _ v_held 0 a2 q10 hq10) (cwV 2 hts (k_gV m_563 m_560 m_561 m_562 m_41) rfl rfl rfl (by decide +kernel) ⟨Nat.le_of_ble_eq_true rfl, Nat.le_of_ble_eq_true rfl⟩) (k_preV [0, 1] hK hN hZ hP hD hS hA rfl rfl (va_recv hK hP (ci := 6) (q0 := 0) rfl rfl)) rfl rfl hl.1 rfl (lv_room (Nat.le_of_ble_eq_true rfl)) dX7_lowestWithout_10 ⟨Nat.le_refl _, Nat.le_refl _⟩) rfl rfl rfl rfl rfl (fun H locs hP hD hS => ?_)
      refine lv_iload_n hx hb dX7_lowestWithout_13 rfl (lv_at hl 1 rfl) ?_
      refine lv_lshr (v := k_lshr q10 x1) hx hb dX7_lowestWithout_14 rfl ?_
      refine lv_lconst (v := 1) hx hb dX7_lowestWithout_15 (by decide) ?_
      refine lv_land hx hb dX7_lowestWithout_16 ?_
      refine lv_lconst (v := 0) hx hb dX7_lowestWithout_17 (by decide) ?_
      refine W.lcmp hx hb dX7_lowestWithout_18 ?_
      refine lv_if_ne (tgt := 24) hx hb dX7_lowestWithout_19 (by decide) (fun c19 => ?_) (fun c19 => ?_)
      · replace hf := k_ifF c19 hf
        refine lv_iinc (v := (a2 + 1)) (lv' := [(3, .int (a2 + 1)), (0, .ref h_this), (1, .int x1), (2, .int x2)]) hx hb dX7_lowestWithout_24 hl (k := 3) rfl rfl (by decide) rfl (fun ls hl => ?_)
        refine lv_goto (tgt := 2) hx hb dX7_lowestWithout_27 (by decide) ?_
        exact hR2 _ _ _ _ hf hP hD hS (lv_sub hl [1, 2, 3, 0] rfl)
      · replace hf := k_ifT c19 hf
        refine lv_iload_n hx hb dX7_lowestWithout_22 rfl (lv_at hl 3 rfl) ?_
        cases hf
        exact k_iret hx hb hr hlocks hAe hS hP hD dX7_lowestWithout_23
set_option maxHeartbeats 4000000 in
set_option maxRecDepth 100000 in
theorem k_X7_addLetters (l : Launch) (D : va_G) (cB cI cJ cZ : ClassId) (tL tK : Nat) (h_this h_p h_q h_held : Nat) (sz : Nat) (v_p : (Nat → Int64)) (v_q : (Nat → Int64)) (x1 : Int32) (x2 : Int32) (x3 : Int32) (q : (Nat → Int64) × (Nat → Int64)) (hf : f_X7_addLetters v_p v_q x1 x2 x3 = some q) : Met l yX7_addLetters (.code yX7_addLetters cX7_addLetters 4 none :: k_all) { frames := 1, cells := 0, slots := 0, locals := 21 } (k_P D cB cI cJ cZ tL tK [.ref h_this, .int x1, .int x2, .int x3] [(h_this, o_X7 h_p h_q h_held), (h_p, o_J cJ 4 v_p), (h_q, o_J cJ 4 v_q)] sz) (k_V D [(h_this, o_X7 h_p h_q h_held), (h_p, o_J cJ 4 v_p), (h_q, o_J cJ 4 v_q)] [(h_this, o_X7 h_p h_q h_held), (h_p, o_J cJ 4 q.1), (h_q, o_J cJ 4 q.2)] sz) 0 0 (va_A [(h_this, o_X7 h_p h_q h_held), (h_p, o_J cJ 4 v_p), (h_q, o_J cJ 4 v_q)] sz) := by
  unfold f_X7_addLetters at hf
  refine k_met RX7 rfl (by decide +kernel) (Nat.le_of_ble_eq_true rfl) ?_
  intro p e s m below meth c A ls hx hb hr hml hown hts hlocks hin hsz hAe hA hK hN hZ hD hS hP hl
  have hl : lv_has ls 4 [(0, .ref h_this), (1, .int x1), (2, .int x2), (3, .int x3)] := hl
  refine lv_iload_n hx hb dX7_addLetters_0 rfl (lv_at hl 1 rfl) ?_
  refine lv_aload_n hx hb dX7_addLetters_1 rfl (lv_at hl 0 rfl) ?_
  refine va_get (D := D) (ci := 6) (v := .ref h_p) (C := RX7) (T := TX7) (N := 3) hx hb hts inlX7 hown hK hP 0 rfl rfl 0 (by decide) (hts _ m_74) (fun _ h9 => h9) rfl dX7_addLetters_2 ?_
  refine va_alen (D := D) (v := 4) hx hb hK hP 1 2 rfl rfl rfl dX7_addLetters_5 ?_
  refine k_calli (wN := [(h_this, o_X7 h_p h_q h_held), (h_p, o_J cJ 4 v_p), (h_q, o_J cJ 4 v_q)]) [] [0, 1, 2] [0, 1, 2] hP hD hS hA (va_runSN (As := [.int x1, .int 4]) (rest := []) ⟨hx, hb, hml, hown, hts⟩ (k_X8_isBelow l D cB cI cJ cZ tL tK _ x1 4 (f_X8_isBelow x1 4) rfl) ⟨va_cnB 2 hts (k_gB m_112) rfl rfl rfl (hN.1 _ (List.mem_of_getElem? (i := 16) rfl)) (hts _ m_2) (by decide +kernel) ⟨Nat.le_of_ble_eq_true rfl, Nat.le_of_ble_eq_true rfl⟩, (hts _ m_111), trivial⟩ (k_preS [] hK hN hZ hP hD hS hA rfl rfl) rfl rfl hl.1 rfl (lv_room (Nat.le_of_ble_eq_true rfl)) dX7_addLetters_6 ⟨Nat.le_refl _, Nat.le_refl _⟩) rfl rfl rfl rfl rfl (fun H locs hP hD hS => ?_)
  refine lv_if_eq (tgt := 58) hx hb dX7_addLetters_9 (by decide) (fun c9 => ?_) (fun c9 => ?_)
  · replace hf := k_ifT c9 hf
    cases hf
    exact k_vret hx hb hr hlocks hAe hS hP hD dX7_addLetters_58
  · replace hf := k_ifF c9 hf
    refine lv_iload_n hx hb dX7_addLetters_12 rfl (lv_at hl 1 rfl) ?_
    refine lv_aload_n hx hb dX7_addLetters_13 rfl (lv_at hl 0 rfl) ?_
    refine va_get (D := D) (ci := 6) (v := .ref h_q) (C := RX7) (T := TX7) (N := 3) hx hb hts inlX7 hown hK hP 0 rfl rfl 1 (by decide) (hts _ m_75) (fun _ h9 => h9) rfl dX7_addLetters_14 ?_
    refine va_alen (D := D) (v := 4) hx hb hK hP 2 2 rfl rfl rfl dX7_addLetters_17 ?_
    refine k_calli (wN := [(h_this, o_X7 h_p h_q h_held), (h_p, o_J cJ 4 v_p), (h_q, o_J cJ 4 v_q)]) [] [0, 1, 2] [0, 1, 2] hP hD hS hA (va_runSN (As := [.int x1, .int 4]) (rest := []) ⟨hx, hb, hml, hown, hts⟩ (k_X8_isBelow l D cB cI cJ cZ tL tK _ x1 4 (f_X8_isBelow x1 4) rfl) ⟨va_cnB 2 hts (k_gB m_112) rfl rfl rfl (hN.1 _ (List.mem_of_getElem? (i := 16) rfl)) (hts _ m_2) (by decide +kernel) ⟨Nat.le_of_ble_eq_true rfl, Nat.le_of_ble_eq_true rfl⟩, (hts _ m_111), trivial⟩ (k_preS [] hK hN hZ hP hD hS hA rfl rfl) rfl rfl hl.1 rfl (lv_room (Nat.le_of_ble_eq_true rfl)) dX7_addLetters_18 ⟨Nat.le_refl _, Nat.le_refl _⟩) rfl rfl rfl rfl rfl (fun H locs hP hD hS => ?_)
    refine lv_if_eq (tgt := 58) hx hb dX7_addLetters_21 (by decide) (fun c21 => ?_) (fun c21 => ?_)
    · replace hf := k_ifT c21 hf
      cases hf
      exact k_vret hx hb hr hlocks hAe hS hP hD dX7_addLetters_58
    · replace hf := k_ifF c21 hf
      refine lv_aload_n hx hb dX7_addLetters_24 rfl (lv_at hl 0 rfl) ?_
      refine va_get (D := D) (ci := 6) (v := .ref h_p) (C := RX7) (T := TX7) (N := 3) hx hb hts inlX7 hown hK hP 0 rfl rfl 0 (by decide) (hts _ m_74) (fun _ h9 => h9) rfl dX7_addLetters_25 ?_
      refine lv_iload_n hx hb dX7_addLetters_28 rfl (lv_at hl 1 rfl) ?_
      refine lv_dup2_11 hx hb dX7_addLetters_29 rfl rfl ?_
      obtain ⟨hi30, hf⟩ := k_chk_some hf
      refine va_lald (D := D) hx hb hK hP 1 2 rfl rfl hi30 dX7_addLetters_30 ?_
      refine lv_iload_n hx hb dX7_addLetters_31 rfl (lv_at hl 2 rfl) ?_
      refine lv_iconst (v := 0) hx hb dX7_addLetters_32 (by decide) ?_
      refine k_calli (wN := [(h_this, o_X7 h_p h_q h_held), (h_p, o_J cJ 4 v_p), (h_q, o_J cJ 4 v_q)]) [] [0, 1, 2] [0, 1, 2] hP hD hS hA (va_runSN (As := [.int x2, .int 0]) (rest := [.long (v_p (Int32.toNatClampNeg x1)), .int x1, .ref h_p]) ⟨hx, hb, hml, hown, hts⟩ (k_X8_bit l D cB cI cJ cZ tL tK _ x2 0 (f_X8_bit x2 0) rfl) ⟨va_cnB 2 hts (k_gB m_230) rfl rfl rfl (hN.1 _ (List.mem_of_getElem? (i := 15) rfl)) (hts _ m_2) (by decide +kernel) ⟨Nat.le_of_ble_eq_true rfl, Nat.le_of_ble_eq_true rfl⟩, (hts _ m_229), trivial⟩ (k_preS [] hK hN hZ hP hD hS hA rfl rfl) rfl rfl hl.1 rfl (lv_room (Nat.le_of_ble_eq_true rfl)) dX7_addLetters_33 ⟨Nat.le_refl _, Nat.le_refl _⟩) rfl rfl rfl rfl rfl (fun H locs hP hD hS => ?_)
      refine lv_i2l hx hb dX7_addLetters_36 rfl ?_
      refine lv_iload_n hx hb dX7_addLetters_37 rfl (lv_at hl 3 rfl) ?_
      refine lv_lshl (v := k_lshl (Int32.toInt64 (f_X8_bit x2 0)) x3) hx hb dX7_addLetters_38 rfl ?_
      refine lv_lor hx hb dX7_addLetters_39 ?_
      obtain ⟨hi40, hf⟩ := k_chk_some hf
      refine va_last (D := D) hx hb hK hP hD hS 1 2 rfl rfl hi40 dX7_addLetters_40 (fun H locs hP hD hS => ?_)
      have hP : va_P D vwCl [(h_this, o_X7 h_p h_q h_held), (h_p, o_J cJ 4 (vp_updL v_p (Int32.toNatClampNeg x1) ((v_p (Int32.toNatClampNeg x1)) ||| (k_lshl (Int32.toInt64 (f_X8_bit x2 0)) x3)))), (h_q, o_J cJ 4 v_q)] H := hP
      have hD : va_D A [(h_this, o_X7 h_p h_q h_held), (h_p, o_J cJ 4 (vp_updL v_p (Int32.toNatClampNeg x1) ((v_p (Int32.toNatClampNeg x1)) ||| (k_lshl (Int32.toInt64 (f_X8_bit x2 0)) x3)))), (h_q, o_J cJ 4 v_q)] := hD
      refine lv_aload_n hx hb dX7_addLetters_41 rfl (lv_at hl 0 rfl) ?_
      refine va_get (D := D) (ci := 6) (v := .ref h_q) (C := RX7) (T := TX7) (N := 3) hx hb hts inlX7 hown hK hP 0 rfl rfl 1 (by decide) (hts _ m_75) (fun _ h9 => h9) rfl dX7_addLetters_42 ?_
      refine lv_iload_n hx hb dX7_addLetters_45 rfl (lv_at hl 1 rfl) ?_
      refine lv_dup2_11 hx hb dX7_addLetters_46 rfl rfl ?_
      obtain ⟨hi47, hf⟩ := k_chk_some hf
      refine va_lald (D := D) hx hb hK hP 2 2 rfl rfl hi47 dX7_addLetters_47 ?_
      refine lv_iload_n hx hb dX7_addLetters_48 rfl (lv_at hl 2 rfl) ?_
      refine lv_iconst (v := 1) hx hb dX7_addLetters_49 (by decide) ?_
      refine k_calli (wN := [(h_this, o_X7 h_p h_q h_held), (h_p, o_J cJ 4 (vp_updL v_p (Int32.toNatClampNeg x1) ((v_p (Int32.toNatClampNeg x1)) ||| (k_lshl (Int32.toInt64 (f_X8_bit x2 0)) x3)))), (h_q, o_J cJ 4 v_q)]) [] [0, 1, 2] [0, 1, 2] hP hD hS hA (va_runSN (As := [.int x2, .int 1]) (rest := [.long (v_q (Int32.toNatClampNeg x1)), .int x1, .ref h_q]) ⟨hx, hb, hml, hown, hts⟩ (k_X8_bit l D cB cI cJ cZ tL tK _ x2 1 (f_X8_bit x2 1) rfl) ⟨va_cnB 2 hts (k_gB m_230) rfl rfl rfl (hN.1 _ (List.mem_of_getElem? (i := 15) rfl)) (hts _ m_2) (by decide +kernel) ⟨Nat.le_of_ble_eq_true rfl, Nat.le_of_ble_eq_true rfl⟩, (hts _ m_229), trivial⟩ (k_preS [] hK hN hZ hP hD hS hA rfl rfl) rfl rfl hl.1 rfl (lv_room (Nat.le_of_ble_eq_true rfl)) dX7_addLetters_50 ⟨Nat.le_refl _, Nat.le_refl _⟩) rfl rfl rfl rfl rfl (fun H locs hP hD hS => ?_)
      refine lv_i2l hx hb dX7_addLetters_53 rfl ?_
      refine lv_iload_n hx hb dX7_addLetters_54 rfl (lv_at hl 3 rfl) ?_
      refine lv_lshl (v := k_lshl (Int32.toInt64 (f_X8_bit x2 1)) x3) hx hb dX7_addLetters_55 rfl ?_
      refine lv_lor hx hb dX7_addLetters_56 ?_
      obtain ⟨hi57, hf⟩ := k_chk_some hf
      refine va_last (D := D) hx hb hK hP hD hS 2 2 rfl rfl hi57 dX7_addLetters_57 (fun H locs hP hD hS => ?_)
      have hP : va_P D vwCl [(h_this, o_X7 h_p h_q h_held), (h_p, o_J cJ 4 (vp_updL v_p (Int32.toNatClampNeg x1) ((v_p (Int32.toNatClampNeg x1)) ||| (k_lshl (Int32.toInt64 (f_X8_bit x2 0)) x3)))), (h_q, o_J cJ 4 (vp_updL v_q (Int32.toNatClampNeg x1) ((v_q (Int32.toNatClampNeg x1)) ||| (k_lshl (Int32.toInt64 (f_X8_bit x2 1)) x3))))] H := hP
      have hD : va_D A [(h_this, o_X7 h_p h_q h_held), (h_p, o_J cJ 4 (vp_updL v_p (Int32.toNatClampNeg x1) ((v_p (Int32.toNatClampNeg x1)) ||| (k_lshl (Int32.toInt64 (f_X8_bit x2 0)) x3)))), (h_q, o_J cJ 4 (vp_updL v_q (Int32.toNatClampNeg x1) ((v_q (Int32.toNatClampNeg x1)) ||| (k_lshl (Int32.toInt64 (f_X8_bit x2 1)) x3))))] := hD
      cases hf
      exact k_vret hx hb hr hlocks hAe hS hP hD dX7_addLetters_58
set_option maxHeartbeats 4000000 in
set_option maxRecDepth 100000 in
theorem k_X7_useDrawn (l : Launch) (D : va_G) (cB cI cJ cZ : ClassId) (tL tK : Nat) (h_this h_p h_q h_held : Nat) (sz : Nat) (v_p : (Nat → Int64)) (v_q : (Nat → Int64)) (x1 : Int32) (x2 : Int32) (x3 : Int32) (q : Int32 × (Nat → Int64) × (Nat → Int64)) (hf : f_X7_useDrawn v_p v_q x1 x2 x3 = some q) : Met l yX7_useDrawn (.code yX7_useDrawn cX7_useDrawn 7 (some .int) :: k_all) { frames := 2, cells := 0, slots := 0, locals := 46 } (k_P D cB cI cJ cZ tL tK [.ref h_this, .int x1, .int x2, .int x3] [(h_this, o_X7 h_p h_q h_held), (h_p, o_J cJ 4 v_p), (h_q, o_J cJ 4 v_q)] sz) (k_I D q.1 [(h_this, o_X7 h_p h_q h_held), (h_p, o_J cJ 4 v_p), (h_q, o_J cJ 4 v_q)] [(h_this, o_X7 h_p h_q h_held), (h_p, o_J cJ 4 q.2.1), (h_q, o_J cJ 4 q.2.2)] sz) 0 0 (va_A [(h_this, o_X7 h_p h_q h_held), (h_p, o_J cJ 4 v_p), (h_q, o_J cJ 4 v_q)] sz) := by
  unfold f_X7_useDrawn at hf
  refine k_met RX7 rfl (by decide +kernel) (Nat.le_of_ble_eq_true rfl) ?_
  intro p e s m below meth c A ls hx hb hr hml hown hts hlocks hin hsz hAe hA hK hN hZ hD hS hP hl
  have hl : lv_has ls 7 [(0, .ref h_this), (1, .int x1), (2, .int x2), (3, .int x3)] := hl
  refine lv_iconst (v := 0) hx hb dX7_useDrawn_0 (by decide) ?_
  refine lv_istore (lv' := [(4, .int 0), (0, .ref h_this), (1, .int x1), (2, .int x2), (3, .int x3)]) hx hb dX7_useDrawn_1 hl (by decide) rfl (fun ls hl => ?_)
  refine k_wl 23 (wsf := fun (a3 : Int32 × (Nat → Int64) × (Nat → Int64)) => [(h_this, o_X7 h_p h_q h_held), (h_p, o_J cJ 4 a3.2.1), (h_q, o_J cJ 4 a3.2.2)]) (lvf := fun (a3 : Int32 × (Nat → Int64) × (Nat → Int64)) => [(0, .ref h_this), (1, .int x1), (2, .int x2), (3, .int x3), (4, .int a3.1)]) hf hP hD hS (lv_sub hl [1, 2, 3, 4, 0] rfl) ?_ ?_
  · intro a3 H locs ls hf hP hD hS hl
    have hP : va_P D vwCl [(h_this, o_X7 h_p h_q h_held), (h_p, o_J cJ 4 a3.2.1), (h_q, o_J cJ 4 a3.2.2)] H := hP
    have hD : va_D A [(h_this, o_X7 h_p h_q h_held), (h_p, o_J cJ 4 a3.2.1), (h_q, o_J cJ 4 a3.2.2)] := hD
    have hl : lv_has ls 7 [(0, .ref h_this), (1, .int x1), (2, .int x2), (3, .int x3), (4, .int a3.1)] := hl
    refine lv_iload_n hx hb dX7_useDrawn_23 rfl (lv_at hl 2 rfl) ?_
    refine lv_istore (lv' := [(4, .int x2), (0, .ref h_this), (1, .int x1), (2, .int x2), (3, .int x3)]) hx hb dX7_useDrawn_24 hl (by decide) rfl (fun ls hl => ?_)
    refine lv_iconst (v := 0) hx hb dX7_useDrawn_26 (by decide) ?_
    refine lv_istore (lv' := [(5, .int 0), (4, .int x2), (0, .ref h_this), (1, .int x1), (2, .int x2), (3, .int x3)]) hx hb dX7_useDrawn_27 hl (by decide) rfl (fun ls hl => ?_)
    refine k_wl 85 (wsf := fun (a29 : Int32 × Int32 × (Nat → Int64) × (Nat → Int64)) => [(h_this, o_X7 h_p h_q h_held), (h_p, o_J cJ 4 a29.2.2.1), (h_q, o_J cJ 4 a29.2.2.2)]) (lvf := fun (a29 : Int32 × Int32 × (Nat → Int64) × (Nat → Int64)) => [(0, .ref h_this), (1, .int x1), (3, .int x3), (4, .int a29.1), (5, .int a29.2.1)]) hf hP hD hS (lv_sub hl [2, 3, 5, 1, 0] rfl) ?_ ?_
    · intro a29 H locs ls hf hP hD hS hl
      have hP : va_P D vwCl [(h_this, o_X7 h_p h_q h_held), (h_p, o_J cJ 4 a29.2.2.1), (h_q, o_J cJ 4 a29.2.2.2)] H := hP
      have hD : va_D A [(h_this, o_X7 h_p h_q h_held), (h_p, o_J cJ 4 a29.2.2.1), (h_q, o_J cJ 4 a29.2.2.2)] := hD
      have hl : lv_has ls 7 [(0, .ref h_this), (1, .int x1), (3, .int x3), (4, .int a29.1), (5, .int a29.2.1)] := hl
      refine lv_iload hx hb dX7_useDrawn_85 (lv_at hl 3 rfl) ?_
      cases hf
      exact k_iret hx hb hr hlocks hAe hS hP hD dX7_useDrawn_87
    · intro ex29 rc29 hE29 hR29 a29 H locs ls hf hP hD hS hl
      have hP : va_P D vwCl [(h_this, o_X7 h_p h_q h_held), (h_p, o_J cJ 4 a29.2.2.1), (h_q, o_J cJ 4 a29.2.2.2)] H := hP
      have hD : va_D A [(h_this, o_X7 h_p h_q h_held), (h_p, o_J cJ 4 a29.2.2.1), (h_q, o_J cJ 4 a29.2.2.2)] := hD
      have hl : lv_has ls 7 [(0, .ref h_this), (1, .int x1), (3, .int x3), (4, .int a29.1), (5, .int a29.2.1)] := hl
      refine lv_iload hx hb dX7_useDrawn_29 (lv_at hl 4 rfl) ?_
      refine lv_iload_n hx hb dX7_useDrawn_31 rfl (lv_at hl 1 rfl) ?_
      refine lv_icmp_ge (tgt := 85) hx hb dX7_useDrawn_32 (by decide) (fun c32 => ?_) (fun c32 => ?_)
      · replace hf := k_ifT c32 hf
        exact hE29 _ _ _ _ hf hP hD hS (lv_sub hl [0, 1, 2, 3, 4] rfl)
      · replace hf := k_ifF c32 hf
        refine lv_iconst (v := 0) hx hb dX7_useDrawn_35 (by decide) ?_
        refine lv_istore (lv' := [(6, .int 0), (0, .ref h_this), (1, .int x1), (3, .int x3), (4, .int a29.1), (5, .int a29.2.1)]) hx hb dX7_useDrawn_36 hl (by decide) rfl (fun ls hl => ?_)
        refine k_wl 79 (wsf := fun (a38 : Int32 × Int32 × (Nat → Int64) × (Nat → Int64)) => [(h_this, o_X7 h_p h_q h_held), (h_p, o_J cJ 4 a38.2.2.1), (h_q, o_J cJ 4 a38.2.2.2)]) (lvf := fun (a38 : Int32 × Int32 × (Nat → Int64) × (Nat → Int64)) => [(0, .ref h_this), (1, .int x1), (3, .int x3), (4, .int a38.1), (5, .int a29.2.1), (6, .int a38.2.1)]) hf hP hD hS (lv_sub hl [1, 2, 3, 4, 5, 0] rfl) ?_ ?_
        · intro a38 H locs ls hf hP hD hS hl
          have hP : va_P D vwCl [(h_this, o_X7 h_p h_q h_held), (h_p, o_J cJ 4 a38.2.2.1), (h_q, o_J cJ 4 a38.2.2.2)] H := hP
          have hD : va_D A [(h_this, o_X7 h_p h_q h_held), (h_p, o_J cJ 4 a38.2.2.1), (h_q, o_J cJ 4 a38.2.2.2)] := hD
          have hl : lv_has ls 7 [(0, .ref h_this), (1, .int x1), (3, .int x3), (4, .int a38.1), (5, .int a29.2.1), (6, .int a38.2.1)] := hl
          refine lv_iinc (v := (a29.2.1 + 1)) (lv' := [(5, .int (a29.2.1 + 1)), (0, .ref h_this), (1, .int x1), (3, .int x3), (4, .int a38.1), (6, .int a38.2.1)]) hx hb dX7_useDrawn_79 hl (k := 4) rfl rfl (by decide) rfl (fun ls hl => ?_)
          refine lv_goto (tgt := 29) hx hb dX7_useDrawn_82 (by decide) ?_
          exact hR29 _ _ _ _ hf hP hD hS (lv_sub hl [1, 2, 3, 4, 0] rfl)
        · intro ex38 rc38 hE38 hR38 a38 H locs ls hf hP hD hS hl
          have hP : va_P D vwCl [(h_this, o_X7 h_p h_q h_held), (h_p, o_J cJ 4 a38.2.2.1), (h_q, o_J cJ 4 a38.2.2.2)] H := hP
          have hD : va_D A [(h_this, o_X7 h_p h_q h_held), (h_p, o_J cJ 4 a38.2.2.1), (h_q, o_J cJ 4 a38.2.2.2)] := hD
          have hl : lv_has ls 7 [(0, .ref h_this), (1, .int x1), (3, .int x3), (4, .int a38.1), (5, .int a29.2.1), (6, .int a38.2.1)] := hl
          refine lv_iload hx hb dX7_useDrawn_38 (lv_at hl 5 rfl) ?_
          refine lv_iload_n hx hb dX7_useDrawn_40 rfl (lv_at hl 2 rfl) ?_
          refine lv_icmp_ge (tgt := 79) hx hb dX7_useDrawn_41 (by decide) (fun c41 => ?_) (fun c41 => ?_)
          · replace hf := k_ifT c41 hf
            exact hE38 _ _ _ _ hf hP hD hS (lv_sub hl [0, 1, 2, 3, 4, 5] rfl)
          · replace hf := k_ifF c41 hf
            refine lv_ldc (v := 1103515245) hx hb hown (hts _ m_944) dX7_useDrawn_44 ?_
            refine lv_iload hx hb dX7_useDrawn_46 (lv_at hl 3 rfl) ?_
            refine lv_imul hx hb dX7_useDrawn_48 ?_
            refine lv_sipush (v := 12345) hx hb dX7_useDrawn_49 (by decide) ?_
            refine lv_iadd hx hb dX7_useDrawn_52 ?_
            refine lv_ldc (v := 2147483647) hx hb hown (hts _ m_945) dX7_useDrawn_53 ?_
            refine lv_iand hx hb dX7_useDrawn_55 ?_
            refine lv_istore (lv' := [(4, .int (((1103515245 * a38.1) + 12345) &&& 2147483647)), (0, .ref h_this), (1, .int x1), (3, .int x3), (5, .int a29.2.1), (6, .int a38.2.1)]) hx hb dX7_useDrawn_56 hl (by decide) rfl (fun ls hl => ?_)
            refine lv_aload_n hx hb dX7_useDrawn_58 rfl (lv_at hl 1 rfl) ?_
            refine lv_iload hx hb dX7_useDrawn_59 (lv_at hl 5 rfl) ?_
            refine lv_iload hx hb dX7_useDrawn_61 (lv_at hl 0 rfl) ?_
            refine lv_bipush (v := 16) hx hb dX7_useDrawn_63 (by decide) ?_
            refine lv_ishr hx hb dX7_useDrawn_65 ?_
            refine lv_iconst (v := 3) hx hb dX7_useDrawn_66 (by decide) ?_
            refine lv_iand hx hb dX7_useDrawn_67 ?_
            refine lv_iload hx hb dX7_useDrawn_68 (lv_at hl 4 rfl) ?_
            obtain ⟨q70, hq70, hf⟩ := k_bind hf
            refine k_callv (wN := [(h_this, o_X7 h_p h_q h_held), (h_p, o_J cJ 4 q70.1), (h_q, o_J cJ 4 q70.2)]) [0, 1, 2] [] [0, 1, 2] hP hD hS hA (va_runV (As := [.int a38.2.1, .int (((((1103515245 * a38.1) + 12345) &&& 2147483647) >>> ((16 : Int32) &&& 31)) &&& 3), .int a29.2.1]) (rest := []) ⟨hx, hb, hml, hown, hts⟩ (k_X7_addLetters l D cB cI cJ cZ tL tK h_this h_p h_q h_held _ a38.2.2.1 a38.2.2.2 a38.2.1 (((((1103515245 * a38.1) + 12345) &&& 2147483647) >>> ((16 : Int32) &&& 31)) &&& 3) a29.2.1 q70 hq70) (cwV 3 hts (k_gV m_949 m_946 m_947 m_948 m_41) rfl rfl rfl (by decide +kernel) ⟨Nat.le_of_ble_eq_true rfl, Nat.le_of_ble_eq_true rfl⟩) (k_preV [0, 1, 2] hK hN hZ hP hD hS hA rfl rfl (va_recv hK hP (ci := 6) (q0 := 0) rfl rfl)) rfl rfl hl.1 rfl (lv_room (Nat.le_of_ble_eq_true rfl)) dX7_useDrawn_70 ⟨Nat.le_refl _, Nat.le_refl _⟩) rfl rfl rfl rfl rfl (fun H locs hP hD hS => ?_)
            refine lv_iinc (v := (a38.2.1 + 1)) (lv' := [(6, .int (a38.2.1 + 1)), (4, .int (((1103515245 * a38.1) + 12345) &&& 2147483647)), (0, .ref h_this), (1, .int x1), (3, .int x3), (5, .int a29.2.1)]) hx hb dX7_useDrawn_73 hl (k := 5) rfl rfl (by decide) rfl (fun ls hl => ?_)
            refine lv_goto (tgt := 38) hx hb dX7_useDrawn_76 (by decide) ?_
            exact hR38 _ _ _ _ hf hP hD hS (lv_sub hl [2, 3, 4, 1, 5, 0] rfl)
  · intro ex3 rc3 hE3 hR3 a3 H locs ls hf hP hD hS hl
    have hP : va_P D vwCl [(h_this, o_X7 h_p h_q h_held), (h_p, o_J cJ 4 a3.2.1), (h_q, o_J cJ 4 a3.2.2)] H := hP
    have hD : va_D A [(h_this, o_X7 h_p h_q h_held), (h_p, o_J cJ 4 a3.2.1), (h_q, o_J cJ 4 a3.2.2)] := hD
    have hl : lv_has ls 7 [(0, .ref h_this), (1, .int x1), (2, .int x2), (3, .int x3), (4, .int a3.1)] := hl
    refine lv_iload hx hb dX7_useDrawn_3 (lv_at hl 4 rfl) ?_
    refine lv_iconst (v := 4) hx hb dX7_useDrawn_5 (by decide) ?_
    refine lv_icmp_ge (tgt := 23) hx hb dX7_useDrawn_6 (by decide) (fun c6 => ?_) (fun c6 => ?_)
    · replace hf := k_ifT c6 hf
      exact hE3 _ _ _ _ hf hP hD hS (lv_sub hl [0, 1, 2, 3, 4] rfl)
    · replace hf := k_ifF c6 hf
      refine lv_aload_n hx hb dX7_useDrawn_9 rfl (lv_at hl 0 rfl) ?_
      refine lv_iload hx hb dX7_useDrawn_10 (lv_at hl 4 rfl) ?_
      refine lv_lconst (v := 0) hx hb dX7_useDrawn_12 (by decide) ?_
      refine lv_lconst (v := 0) hx hb dX7_useDrawn_13 (by decide) ?_
      obtain ⟨q14, hq14, hf⟩ := k_bind hf
      refine k_callv (wN := [(h_this, o_X7 h_p h_q h_held), (h_p, o_J cJ 4 q14.1), (h_q, o_J cJ 4 q14.2)]) [0, 1, 2] [] [0, 1, 2] hP hD hS hA (va_runV (As := [.int a3.1, .long 0, .long 0]) (rest := []) ⟨hx, hb, hml, hown, hts⟩ (k_X7_setLetters l D cB cI cJ cZ tL tK h_this h_p h_q h_held _ a3.2.1 a3.2.2 a3.1 0 0 q14 hq14) (cwV 3 hts (k_gV m_548 m_545 m_546 m_547 m_41) rfl rfl rfl (by decide +kernel) ⟨Nat.le_of_ble_eq_true rfl, Nat.le_of_ble_eq_true rfl⟩) (k_preV [0, 1, 2] hK hN hZ hP hD hS hA rfl rfl (va_recv hK hP (ci := 6) (q0 := 0) rfl rfl)) rfl rfl hl.1 rfl (lv_room (Nat.le_of_ble_eq_true rfl)) dX7_useDrawn_14 ⟨Nat.le_refl _, Nat.le_refl _⟩) rfl rfl rfl rfl rfl (fun H locs hP hD hS => ?_)
      refine lv_iinc (v := (a3.1 + 1)) (lv' := [(4, .int (a3.1 + 1)), (0, .ref h_this), (1, .int x1), (2, .int x2), (3, .int x3)]) hx hb dX7_useDrawn_17 hl (k := 4) rfl rfl (by decide) rfl (fun ls hl => ?_)
      refine lv_goto (tgt := 3) hx hb dX7_useDrawn_20 (by decide) ?_
      exact hR3 _ _ _ _ hf hP hD hS (lv_sub hl [1, 2, 3, 4, 0] rfl)
set_option maxHeartbeats 4000000 in
set_option maxRecDepth 100000 in
theorem k_X7_heldIn (l : Launch) (D : va_G) (cB cI cJ cZ : ClassId) (tL tK : Nat) (h_this h_p h_q h_held : Nat) (sz : Nat) (v_held : (Nat → Int64)) (x1 : Int64) (x2 : Int32) (q : Int32) (hf : f_X7_heldIn v_held x1 x2 = some q) : Met l yX7_heldIn (.code yX7_heldIn cX7_heldIn 6 (some .int) :: k_all) { frames := 1, cells := 0, slots := 0, locals := 23 } (k_P D cB cI cJ cZ tL tK [.ref h_this, .long x1, .int x2] [(h_this, o_X7 h_p h_q h_held), (h_held, o_J cJ 64 v_held)] sz) (k_I D q [(h_this, o_X7 h_p h_q h_held), (h_held, o_J cJ 64 v_held)] [(h_this, o_X7 h_p h_q h_held), (h_held, o_J cJ 64 v_held)] sz) 0 0 (va_A [(h_this, o_X7 h_p h_q h_held), (h_held, o_J cJ 64 v_held)] sz) := by
  unfold f_X7_heldIn at hf
  refine k_met RX7 rfl (by decide +kernel) (Nat.le_of_ble_eq_true rfl) ?_
  intro p e s m below meth c A ls hx hb hr hml hown hts hlocks hin hsz hAe hA hK hN hZ hD hS hP hl
  have hl : lv_has ls 6 [(0, .ref h_this), (1, .long x1), (3, .int x2)] := hl
  refine lv_iconst (v := 0) hx hb dX7_heldIn_0 (by decide) ?_
  refine lv_istore (lv' := [(4, .int 0), (0, .ref h_this), (1, .long x1), (3, .int x2)]) hx hb dX7_heldIn_1 hl (by decide) rfl (fun ls hl => ?_)
  refine lv_iconst (v := 0) hx hb dX7_heldIn_3 (by decide) ?_
  refine lv_istore (lv' := [(5, .int 0), (4, .int 0), (0, .ref h_this), (1, .long x1), (3, .int x2)]) hx hb dX7_heldIn_4 hl (by decide) rfl (fun ls hl => ?_)
  refine k_wl 35 (wsf := fun (a6 : Int32 × Int32) => [(h_this, o_X7 h_p h_q h_held), (h_held, o_J cJ 64 v_held)]) (lvf := fun (a6 : Int32 × Int32) => [(0, .ref h_this), (1, .long x1), (3, .int x2), (4, .int a6.1), (5, .int a6.2)]) hf hP hD hS (lv_sub hl [2, 3, 4, 1, 0] rfl) ?_ ?_
  · intro a6 H locs ls hf hP hD hS hl
    have hP : va_P D vwCl [(h_this, o_X7 h_p h_q h_held), (h_held, o_J cJ 64 v_held)] H := hP
    have hD : va_D A [(h_this, o_X7 h_p h_q h_held), (h_held, o_J cJ 64 v_held)] := hD
    have hl : lv_has ls 6 [(0, .ref h_this), (1, .long x1), (3, .int x2), (4, .int a6.1), (5, .int a6.2)] := hl
    refine lv_iload hx hb dX7_heldIn_35 (lv_at hl 3 rfl) ?_
    cases hf
    exact k_iret hx hb hr hlocks hAe hS hP hD dX7_heldIn_37
  · intro ex6 rc6 hE6 hR6 a6 H locs ls hf hP hD hS hl
    have hP : va_P D vwCl [(h_this, o_X7 h_p h_q h_held), (h_held, o_J cJ 64 v_held)] H := hP
    have hD : va_D A [(h_this, o_X7 h_p h_q h_held), (h_held, o_J cJ 64 v_held)] := hD
    have hl : lv_has ls 6 [(0, .ref h_this), (1, .long x1), (3, .int x2), (4, .int a6.1), (5, .int a6.2)] := hl
    refine lv_iload hx hb dX7_heldIn_6 (lv_at hl 4 rfl) ?_
    refine lv_iload_n hx hb dX7_heldIn_8 rfl (lv_at hl 2 rfl) ?_
    refine lv_icmp_ge (tgt := 35) hx hb dX7_heldIn_9 (by decide) (fun c9 => ?_) (fun c9 => ?_)
    · replace hf := k_ifT c9 hf
      exact hE6 _ _ _ _ hf hP hD hS (lv_sub hl [0, 1, 2, 3, 4] rfl)
    · replace hf := k_ifF c9 hf
      refine lv_iload hx hb dX7_heldIn_12 (lv_at hl 3 rfl) ?_
      refine lv_aload_n hx hb dX7_heldIn_14 rfl (lv_at hl 0 rfl) ?_
      refine lv_iconst (v := 0) hx hb dX7_heldIn_15 (by decide) ?_
      refine lv_iload hx hb dX7_heldIn_16 (lv_at hl 4 rfl) ?_
      obtain ⟨q18, hq18, hf⟩ := k_bind hf
      refine k_calll (wN := [(h_this, o_X7 h_p h_q h_held), (h_held, o_J cJ 64 v_held)]) [0, 1] [] [0, 1] hP hD hS hA (va_runV (As := [.int 0, .int a6.2]) (rest := [.int a6.1]) ⟨hx, hb, hml, hown, hts⟩ (k_X7_at l D cB cI cJ cZ tL tK h_this h_p h_q h_held _ v_held 0 a6.2 q18 hq18) (cwV 2 hts (k_gV m_563 m_560 m_561 m_562 m_41) rfl rfl rfl (by decide +kernel) ⟨Nat.le_of_ble_eq_true rfl, Nat.le_of_ble_eq_true rfl⟩) (k_preV [0, 1] hK hN hZ hP hD hS hA rfl rfl (va_recv hK hP (ci := 6) (q0 := 0) rfl rfl)) rfl rfl hl.1 rfl (lv_room (Nat.le_of_ble_eq_true rfl)) dX7_heldIn_18 ⟨Nat.le_refl _, Nat.le_refl _⟩) rfl rfl rfl rfl rfl (fun H locs hP hD hS => ?_)
      refine lv_lload_n hx hb dX7_heldIn_21 rfl (lv_at hl 1 rfl) ?_
      refine lv_land hx hb dX7_heldIn_22 ?_
      refine k_calli (wN := [(h_this, o_X7 h_p h_q h_held), (h_held, o_J cJ 64 v_held)]) [] [0, 1] [0, 1] hP hD hS hA (va_runS (As := [.long (q18 &&& x1)]) (rest := [.int a6.1]) ⟨hx, hb, hml, hown, hts⟩ (k_J13_bitCount_95d88 l D cB cI cJ cZ tL tK _ (q18 &&& x1) (f_J13_bitCount_95d88 (q18 &&& x1)) rfl) (va_cwS 1 hts (k_gS m_433 m_954 m_431 m_432) rfl rfl rfl (by decide +kernel) ⟨Nat.le_of_ble_eq_true rfl, Nat.le_of_ble_eq_true rfl⟩) (k_preS [] hK hN hZ hP hD hS hA rfl rfl) rfl rfl hl.1 rfl (lv_room (Nat.le_of_ble_eq_true rfl)) dX7_heldIn_23 ⟨Nat.le_refl _, Nat.le_refl _⟩) rfl rfl rfl rfl rfl (fun H locs hP hD hS => ?_)
      refine lv_iadd hx hb dX7_heldIn_26 ?_
      refine lv_istore (lv' := [(4, .int (a6.1 + (f_J13_bitCount_95d88 (q18 &&& x1)))), (0, .ref h_this), (1, .long x1), (3, .int x2), (5, .int a6.2)]) hx hb dX7_heldIn_27 hl (by decide) rfl (fun ls hl => ?_)
      refine lv_iinc (v := (a6.2 + 1)) (lv' := [(5, .int (a6.2 + 1)), (4, .int (a6.1 + (f_J13_bitCount_95d88 (q18 &&& x1)))), (0, .ref h_this), (1, .long x1), (3, .int x2)]) hx hb dX7_heldIn_29 hl (k := 4) rfl rfl (by decide) rfl (fun ls hl => ?_)
      refine lv_goto (tgt := 6) hx hb dX7_heldIn_32 (by decide) ?_
      exact hR6 _ _ _ _ hf hP hD hS (lv_sub hl [2, 3, 4, 1, 0] rfl)
