set_option maxHeartbeats 4000000 in
set_option maxRecDepth 100000 in
theorem k_X5_length (l : Launch) (D : va_G) (cB cI cJ cZ : ClassId) (tL tK : Nat) (h_this h_codes : Nat) (sz : Nat) (v_length : Int32)  (q : Int32) (hf : f_X5_length v_length = q) : Met l yX5_length (.code yX5_length cX5_length 1 (some .int) :: k_all) { frames := 0, cells := 0, slots := 0, locals := 0 } (k_P D cB cI cJ cZ tL tK [.ref h_this] [(h_this, o_X5 h_codes v_length)] sz) (k_I D q [(h_this, o_X5 h_codes v_length)] [(h_this, o_X5 h_codes v_length)] sz) 0 0 (va_A [(h_this, o_X5 h_codes v_length)] sz) := by
  unfold f_X5_length at hf
  refine k_met RX5 rfl (by decide +kernel) (Nat.le_of_ble_eq_true rfl) ?_
  intro p e s m below meth c A ls hx hb hr hml hown hts hlocks hin hsz hAe hA hK hN hZ hD hS hP hl
  have hl : lv_has ls 1 [(0, .ref h_this)] := hl
  refine lv_aload_n hx hb dX5_length_0 rfl (lv_at hl 0 rfl) ?_
  refine va_get (D := D) (ci := 5) (v := .int v_length) (C := RX5) (T := TX5) (N := 2) hx hb hts inlX5 hown hK hP 0 rfl rfl 1 (by decide) (hts _ m_106) (fun _ h9 => h9) rfl dX5_length_1 ?_
  subst hf
  exact k_iret hx hb hr hlocks hAe hS hP hD dX5_length_4
set_option maxHeartbeats 4000000 in
set_option maxRecDepth 100000 in
theorem k_X8_isBelow (l : Launch) (D : va_G) (cB cI cJ cZ : ClassId) (tL tK : Nat) (sz : Nat)  (x1 : Int32) (x2 : Int32) (q : Int32) (hf : f_X8_isBelow x1 x2 = q) : Met l yX8_isBelow (.code yX8_isBelow cX8_isBelow 2 (some .boolean) :: k_all) { frames := 0, cells := 0, slots := 0, locals := 0 } (k_P D cB cI cJ cZ tL tK [.int x1, .int x2] [] sz) (k_I D q [] [] sz) 0 0 (va_A [] sz) := by
  unfold f_X8_isBelow at hf
  refine k_met RX8 rfl (by decide +kernel) (Nat.le_of_ble_eq_true rfl) ?_
  intro p e s m below meth c A ls hx hb hr hml hown hts hlocks hin hsz hAe hA hK hN hZ hD hS hP hl
  have hl : lv_has ls 2 [(0, .int x1), (1, .int x2)] := hl
  refine lv_iload_n hx hb dX8_isBelow_0 rfl (lv_at hl 0 rfl) ?_
  refine lv_if_lt (tgt := 13) hx hb dX8_isBelow_1 (by decide) (fun c1 => ?_) (fun c1 => ?_)
  · replace hf := k_ifT c1 hf
    refine lv_iconst (v := 0) hx hb dX8_isBelow_13 (by decide) ?_
    subst hf
    exact k_zret (r := 0) hx hb hr rfl hlocks hAe hS hP hD dX8_isBelow_14
  · replace hf := k_ifF c1 hf
    refine lv_iload_n hx hb dX8_isBelow_4 rfl (lv_at hl 0 rfl) ?_
    refine lv_iload_n hx hb dX8_isBelow_5 rfl (lv_at hl 1 rfl) ?_
    refine lv_icmp_ge (tgt := 13) hx hb dX8_isBelow_6 (by decide) (fun c6 => ?_) (fun c6 => ?_)
    · replace hf := k_ifT c6 hf
      refine lv_iconst (v := 0) hx hb dX8_isBelow_13 (by decide) ?_
      subst hf
      exact k_zret (r := 0) hx hb hr rfl hlocks hAe hS hP hD dX8_isBelow_14
    · replace hf := k_ifF c6 hf
      refine lv_iconst (v := 1) hx hb dX8_isBelow_9 (by decide) ?_
      refine lv_goto (tgt := 14) hx hb dX8_isBelow_10 (by decide) ?_
      subst hf
      exact k_zret (r := 1) hx hb hr rfl hlocks hAe hS hP hD dX8_isBelow_14
set_option maxHeartbeats 4000000 in
set_option maxRecDepth 100000 in
theorem k_X5_write (l : Launch) (D : va_G) (cB cI cJ cZ : ClassId) (tL tK : Nat) (h_this h_codes : Nat) (sz : Nat) (v_length : Int32) (v_codes : (Nat → Int32)) (x1 : Int32) (q : Int32 × (Nat → Int32)) (hf : f_X5_write v_length v_codes x1 = some q) : Met l yX5_write (.code yX5_write cX5_write 2 none :: k_all) { frames := 1, cells := 0, slots := 0, locals := 21 } (k_P D cB cI cJ cZ tL tK [.ref h_this, .int x1] [(h_this, o_X5 h_codes v_length), (h_codes, o_I cI 66 v_codes)] sz) (k_V D [(h_this, o_X5 h_codes v_length), (h_codes, o_I cI 66 v_codes)] [(h_this, o_X5 h_codes q.1), (h_codes, o_I cI 66 q.2)] sz) 0 0 (va_A [(h_this, o_X5 h_codes v_length), (h_codes, o_I cI 66 v_codes)] sz) := by
  unfold f_X5_write at hf
  refine k_met RX5 rfl (by decide +kernel) (Nat.le_of_ble_eq_true rfl) ?_
  intro p e s m below meth c A ls hx hb hr hml hown hts hlocks hin hsz hAe hA hK hN hZ hD hS hP hl
  have hl : lv_has ls 2 [(0, .ref h_this), (1, .int x1)] := hl
  refine lv_aload_n hx hb dX5_write_0 rfl (lv_at hl 0 rfl) ?_
  refine va_get (D := D) (ci := 5) (v := .int v_length) (C := RX5) (T := TX5) (N := 2) hx hb hts inlX5 hown hK hP 0 rfl rfl 1 (by decide) (hts _ m_106) (fun _ h9 => h9) rfl dX5_write_1 ?_
  refine lv_aload_n hx hb dX5_write_4 rfl (lv_at hl 0 rfl) ?_
  refine va_get (D := D) (ci := 5) (v := .ref h_codes) (C := RX5) (T := TX5) (N := 2) hx hb hts inlX5 hown hK hP 0 rfl rfl 0 (by decide) (hts _ m_47) (fun _ h9 => h9) rfl dX5_write_5 ?_
  refine va_alen (D := D) (v := 66) hx hb hK hP 1 1 rfl rfl rfl dX5_write_8 ?_
  refine k_calli (wN := [(h_this, o_X5 h_codes v_length), (h_codes, o_I cI 66 v_codes)]) [] [0, 1] [0, 1] hP hD hS hA (va_runSN (As := [.int v_length, .int 66]) (rest := []) ⟨hx, hb, hml, hown, hts⟩ (k_X8_isBelow l D cB cI cJ cZ tL tK _ v_length 66 (f_X8_isBelow v_length 66) rfl) ⟨va_cnB 2 hts (k_gB m_112) rfl rfl rfl (hN.1 _ (List.mem_of_getElem? (i := 10) rfl)) (hts _ m_2) (by decide +kernel) ⟨Nat.le_of_ble_eq_true rfl, Nat.le_of_ble_eq_true rfl⟩, (hts _ m_111), trivial⟩ (k_preS [] hK hN hZ hP hD hS hA rfl rfl) rfl rfl hl.1 rfl (lv_room (Nat.le_of_ble_eq_true rfl)) dX5_write_9 ⟨Nat.le_refl _, Nat.le_refl _⟩) rfl rfl rfl rfl rfl (fun H locs hP hD hS => ?_)
  refine lv_if_eq (tgt := 35) hx hb dX5_write_12 (by decide) (fun c12 => ?_) (fun c12 => ?_)
  · replace hf := k_ifT c12 hf
    cases hf
    exact k_vret hx hb hr hlocks hAe hS hP hD dX5_write_35
  · replace hf := k_ifF c12 hf
    refine lv_aload_n hx hb dX5_write_15 rfl (lv_at hl 0 rfl) ?_
    refine va_get (D := D) (ci := 5) (v := .ref h_codes) (C := RX5) (T := TX5) (N := 2) hx hb hts inlX5 hown hK hP 0 rfl rfl 0 (by decide) (hts _ m_47) (fun _ h9 => h9) rfl dX5_write_16 ?_
    refine lv_aload_n hx hb dX5_write_19 rfl (lv_at hl 0 rfl) ?_
    refine va_get (D := D) (ci := 5) (v := .int v_length) (C := RX5) (T := TX5) (N := 2) hx hb hts inlX5 hown hK hP 0 rfl rfl 1 (by decide) (hts _ m_106) (fun _ h9 => h9) rfl dX5_write_20 ?_
    refine lv_iload_n hx hb dX5_write_23 rfl (lv_at hl 1 rfl) ?_
    obtain ⟨hi24, hf⟩ := k_chk_some hf
    refine va_iast (D := D) hx hb hK hP hD hS 1 1 rfl rfl hi24 dX5_write_24 (fun H locs hP hD hS => ?_)
    have hP : va_P D vwCl [(h_this, o_X5 h_codes v_length), (h_codes, o_I cI 66 (upd v_codes (Int32.toNatClampNeg v_length) x1))] H := hP
    have hD : va_D A [(h_this, o_X5 h_codes v_length), (h_codes, o_I cI 66 (upd v_codes (Int32.toNatClampNeg v_length) x1))] := hD
    refine lv_aload_n hx hb dX5_write_25 rfl (lv_at hl 0 rfl) ?_
    refine lv_dup hx hb dX5_write_26 rfl ?_
    refine va_get (D := D) (ci := 5) (v := .int v_length) (C := RX5) (T := TX5) (N := 2) hx hb hts inlX5 hown hK hP 0 rfl rfl 1 (by decide) (hts _ m_106) (fun _ h9 => h9) rfl dX5_write_27 ?_
    refine lv_iconst (v := 1) hx hb dX5_write_30 (by decide) ?_
    refine lv_iadd hx hb dX5_write_31 ?_
    refine va_put (D := D) (ci := 5) (v := .int (v_length + 1)) (ty := .int) (C := RX5) (T := TX5) (N := 2) hx hb hts inlX5 tyX5 tyX5_ok nmX5 hown hK hP hD hS 0 rfl rfl 1 (by decide) (hts _ m_106) (fun _ h9 => h9) rfl (by decide +kernel) rfl rfl (Nat.le_of_ble_eq_true rfl) dX5_write_32 (fun H locs hP hD hS => ?_)
    have hP : va_P D vwCl [(h_this, o_X5 h_codes (v_length + 1)), (h_codes, o_I cI 66 (upd v_codes (Int32.toNatClampNeg v_length) x1))] H := hP
    have hD : va_D A [(h_this, o_X5 h_codes (v_length + 1)), (h_codes, o_I cI 66 (upd v_codes (Int32.toNatClampNeg v_length) x1))] := hD
    cases hf
    exact k_vret hx hb hr hlocks hAe hS hP hD dX5_write_35
set_option maxHeartbeats 4000000 in
set_option maxRecDepth 100000 in
theorem k_X5_clear (l : Launch) (D : va_G) (cB cI cJ cZ : ClassId) (tL tK : Nat) (h_this h_codes : Nat) (sz : Nat) (v_length : Int32)  (q : Int32) (hf : f_X5_clear v_length = q) : Met l yX5_clear (.code yX5_clear cX5_clear 1 none :: k_all) { frames := 0, cells := 0, slots := 0, locals := 0 } (k_P D cB cI cJ cZ tL tK [.ref h_this] [(h_this, o_X5 h_codes v_length)] sz) (k_V D [(h_this, o_X5 h_codes v_length)] [(h_this, o_X5 h_codes q)] sz) 0 0 (va_A [(h_this, o_X5 h_codes v_length)] sz) := by
  unfold f_X5_clear at hf
  refine k_met RX5 rfl (by decide +kernel) (Nat.le_of_ble_eq_true rfl) ?_
  intro p e s m below meth c A ls hx hb hr hml hown hts hlocks hin hsz hAe hA hK hN hZ hD hS hP hl
  have hl : lv_has ls 1 [(0, .ref h_this)] := hl
  refine lv_aload_n hx hb dX5_clear_0 rfl (lv_at hl 0 rfl) ?_
  refine lv_iconst (v := 0) hx hb dX5_clear_1 (by decide) ?_
  refine va_put (D := D) (ci := 5) (v := .int 0) (ty := .int) (C := RX5) (T := TX5) (N := 2) hx hb hts inlX5 tyX5 tyX5_ok nmX5 hown hK hP hD hS 0 rfl rfl 1 (by decide) (hts _ m_106) (fun _ h9 => h9) rfl (by decide +kernel) rfl rfl (Nat.le_of_ble_eq_true rfl) dX5_clear_2 (fun H locs hP hD hS => ?_)
  have hP : va_P D vwCl [(h_this, o_X5 h_codes 0)] H := hP
  have hD : va_D A [(h_this, o_X5 h_codes 0)] := hD
  subst hf
  exact k_vret hx hb hr hlocks hAe hS hP hD dX5_clear_5
set_option maxHeartbeats 4000000 in
set_option maxRecDepth 100000 in
theorem k_X5_at (l : Launch) (D : va_G) (cB cI cJ cZ : ClassId) (tL tK : Nat) (h_this h_codes : Nat) (sz : Nat) (v_length : Int32) (v_codes : (Nat → Int32)) (x1 : Int32) (q : Int32) (hf : f_X5_at v_codes x1 = some q) : Met l yX5_at (.code yX5_at cX5_at 2 (some .int) :: k_all) { frames := 1, cells := 0, slots := 0, locals := 21 } (k_P D cB cI cJ cZ tL tK [.ref h_this, .int x1] [(h_this, o_X5 h_codes v_length), (h_codes, o_I cI 66 v_codes)] sz) (k_I D q [(h_this, o_X5 h_codes v_length), (h_codes, o_I cI 66 v_codes)] [(h_this, o_X5 h_codes v_length), (h_codes, o_I cI 66 v_codes)] sz) 0 0 (va_A [(h_this, o_X5 h_codes v_length), (h_codes, o_I cI 66 v_codes)] sz) := by
  unfold f_X5_at at hf
  refine k_met RX5 rfl (by decide +kernel) (Nat.le_of_ble_eq_true rfl) ?_
  intro p e s m below meth c A ls hx hb hr hml hown hts hlocks hin hsz hAe hA hK hN hZ hD hS hP hl
  have hl : lv_has ls 2 [(0, .ref h_this), (1, .int x1)] := hl
  refine lv_iload_n hx hb dX5_at_0 rfl (lv_at hl 1 rfl) ?_
  refine lv_aload_n hx hb dX5_at_1 rfl (lv_at hl 0 rfl) ?_
  refine va_get (D := D) (ci := 5) (v := .ref h_codes) (C := RX5) (T := TX5) (N := 2) hx hb hts inlX5 hown hK hP 0 rfl rfl 0 (by decide) (hts _ m_47) (fun _ h9 => h9) rfl dX5_at_2 ?_
  refine va_alen (D := D) (v := 66) hx hb hK hP 1 1 rfl rfl rfl dX5_at_5 ?_
  refine k_calli (wN := [(h_this, o_X5 h_codes v_length), (h_codes, o_I cI 66 v_codes)]) [] [0, 1] [0, 1] hP hD hS hA (va_runSN (As := [.int x1, .int 66]) (rest := []) ⟨hx, hb, hml, hown, hts⟩ (k_X8_isBelow l D cB cI cJ cZ tL tK _ x1 66 (f_X8_isBelow x1 66) rfl) ⟨va_cnB 2 hts (k_gB m_112) rfl rfl rfl (hN.1 _ (List.mem_of_getElem? (i := 10) rfl)) (hts _ m_2) (by decide +kernel) ⟨Nat.le_of_ble_eq_true rfl, Nat.le_of_ble_eq_true rfl⟩, (hts _ m_111), trivial⟩ (k_preS [] hK hN hZ hP hD hS hA rfl rfl) rfl rfl hl.1 rfl (lv_room (Nat.le_of_ble_eq_true rfl)) dX5_at_6 ⟨Nat.le_refl _, Nat.le_refl _⟩) rfl rfl rfl rfl rfl (fun H locs hP hD hS => ?_)
  refine lv_if_eq (tgt := 21) hx hb dX5_at_9 (by decide) (fun c9 => ?_) (fun c9 => ?_)
  · replace hf := k_ifT c9 hf
    refine lv_iconst (v := (-1)) hx hb dX5_at_21 (by decide) ?_
    cases hf
    exact k_iret hx hb hr hlocks hAe hS hP hD dX5_at_22
  · replace hf := k_ifF c9 hf
    refine lv_aload_n hx hb dX5_at_12 rfl (lv_at hl 0 rfl) ?_
    refine va_get (D := D) (ci := 5) (v := .ref h_codes) (C := RX5) (T := TX5) (N := 2) hx hb hts inlX5 hown hK hP 0 rfl rfl 0 (by decide) (hts _ m_47) (fun _ h9 => h9) rfl dX5_at_13 ?_
    refine lv_iload_n hx hb dX5_at_16 rfl (lv_at hl 1 rfl) ?_
    obtain ⟨hi17, hf⟩ := k_chk_some hf
    refine va_iald (D := D) hx hb hK hP 1 1 rfl rfl hi17 dX5_at_17 ?_
    refine lv_goto (tgt := 22) hx hb dX5_at_18 (by decide) ?_
    cases hf
    exact k_iret hx hb hr hlocks hAe hS hP hD dX5_at_22
set_option maxHeartbeats 4000000 in
set_option maxRecDepth 100000 in
theorem k_X8_bit (l : Launch) (D : va_G) (cB cI cJ cZ : ClassId) (tL tK : Nat) (sz : Nat)  (x1 : Int32) (x2 : Int32) (q : Int32) (hf : f_X8_bit x1 x2 = q) : Met l yX8_bit (.code yX8_bit cX8_bit 2 (some .int) :: k_all) { frames := 0, cells := 0, slots := 0, locals := 0 } (k_P D cB cI cJ cZ tL tK [.int x1, .int x2] [] sz) (k_I D q [] [] sz) 0 0 (va_A [] sz) := by
  unfold f_X8_bit at hf
  refine k_met RX8 rfl (by decide +kernel) (Nat.le_of_ble_eq_true rfl) ?_
  intro p e s m below meth c A ls hx hb hr hml hown hts hlocks hin hsz hAe hA hK hN hZ hD hS hP hl
  have hl : lv_has ls 2 [(0, .int x1), (1, .int x2)] := hl
  refine lv_iload_n hx hb dX8_bit_0 rfl (lv_at hl 0 rfl) ?_
  refine lv_iload_n hx hb dX8_bit_1 rfl (lv_at hl 1 rfl) ?_
  refine lv_ishr hx hb dX8_bit_2 ?_
  refine lv_iconst (v := 1) hx hb dX8_bit_3 (by decide) ?_
  refine lv_iand hx hb dX8_bit_4 ?_
  subst hf
  exact k_iret hx hb hr hlocks hAe hS hP hD dX8_bit_5
set_option maxHeartbeats 4000000 in
set_option maxRecDepth 100000 in
theorem k_X0_operands (l : Launch) (D : va_G) (cB cI cJ cZ : ClassId) (tL tK : Nat) (sz : Nat)  (x1 : Int32) (q : Int32) (hf : f_X0_operands x1 = q) : Met l yX0_operands (.code yX0_operands cX0_operands 1 (some .int) :: k_all) { frames := 0, cells := 0, slots := 0, locals := 0 } (k_P D cB cI cJ cZ tL tK [.int x1] [] sz) (k_I D q [] [] sz) 0 0 (va_A [] sz) := by
  unfold f_X0_operands at hf
  refine k_met RX0 rfl (by decide +kernel) (Nat.le_of_ble_eq_true rfl) ?_
  intro p e s m below meth c A ls hx hb hr hml hown hts hlocks hin hsz hAe hA hK hN hZ hD hS hP hl
  have hl : lv_has ls 1 [(0, .int x1)] := hl
  refine lv_iload_n hx hb dX0_operands_0 rfl (lv_at hl 0 rfl) ?_
  by_cases c1_38 : x1 = 38
  · replace hf := k_ifT c1_38 hf
    refine lv_lookup (tgt := 80) (off := 79) hx hb dX0_operands_1 (by decide) (by rw [c1_38]; rfl) (by decide) ?_
    refine lv_iconst (v := 2) hx hb dX0_operands_80 (by decide) ?_
    subst hf
    exact k_iret hx hb hr hlocks hAe hS hP hD dX0_operands_81
  · replace hf := k_ifF c1_38 hf
    by_cases c1_62 : x1 = 62
    · replace hf := k_ifT c1_62 hf
      refine lv_lookup (tgt := 80) (off := 79) hx hb dX0_operands_1 (by decide) (by rw [c1_62]; rfl) (by decide) ?_
      refine lv_iconst (v := 2) hx hb dX0_operands_80 (by decide) ?_
      subst hf
      exact k_iret hx hb hr hlocks hAe hS hP hD dX0_operands_81
    · replace hf := k_ifF c1_62 hf
      by_cases c1_77 : x1 = 77
      · replace hf := k_ifT c1_77 hf
        refine lv_lookup (tgt := 78) (off := 77) hx hb dX0_operands_1 (by decide) (by rw [c1_77]; rfl) (by decide) ?_
        refine lv_iconst (v := 1) hx hb dX0_operands_78 (by decide) ?_
        subst hf
        exact k_iret hx hb hr hlocks hAe hS hP hD dX0_operands_79
      · replace hf := k_ifF c1_77 hf
        by_cases c1_78 : x1 = 78
        · replace hf := k_ifT c1_78 hf
          refine lv_lookup (tgt := 78) (off := 77) hx hb dX0_operands_1 (by decide) (by rw [c1_78]; rfl) (by decide) ?_
          refine lv_iconst (v := 1) hx hb dX0_operands_78 (by decide) ?_
          subst hf
          exact k_iret hx hb hr hlocks hAe hS hP hD dX0_operands_79
        · replace hf := k_ifF c1_78 hf
          by_cases c1_112 : x1 = 112
          · replace hf := k_ifT c1_112 hf
            refine lv_lookup (tgt := 76) (off := 75) hx hb dX0_operands_1 (by decide) (by rw [c1_112]; rfl) (by decide) ?_
            refine lv_iconst (v := 0) hx hb dX0_operands_76 (by decide) ?_
            subst hf
            exact k_iret hx hb hr hlocks hAe hS hP hD dX0_operands_77
          · replace hf := k_ifF c1_112 hf
            by_cases c1_113 : x1 = 113
            · replace hf := k_ifT c1_113 hf
              refine lv_lookup (tgt := 76) (off := 75) hx hb dX0_operands_1 (by decide) (by rw [c1_113]; rfl) (by decide) ?_
              refine lv_iconst (v := 0) hx hb dX0_operands_76 (by decide) ?_
              subst hf
              exact k_iret hx hb hr hlocks hAe hS hP hD dX0_operands_77
            · replace hf := k_ifF c1_113 hf
              by_cases c1_124 : x1 = 124
              · replace hf := k_ifT c1_124 hf
                refine lv_lookup (tgt := 80) (off := 79) hx hb dX0_operands_1 (by decide) (by rw [c1_124]; rfl) (by decide) ?_
                refine lv_iconst (v := 2) hx hb dX0_operands_80 (by decide) ?_
                subst hf
                exact k_iret hx hb hr hlocks hAe hS hP hD dX0_operands_81
              · replace hf := k_ifF c1_124 hf
                by_cases c1_126 : x1 = 126
                · replace hf := k_ifT c1_126 hf
                  refine lv_lookup (tgt := 78) (off := 77) hx hb dX0_operands_1 (by decide) (by rw [c1_126]; rfl) (by decide) ?_
                  refine lv_iconst (v := 1) hx hb dX0_operands_78 (by decide) ?_
                  subst hf
                  exact k_iret hx hb hr hlocks hAe hS hP hD dX0_operands_79
                · replace hf := k_ifF c1_126 hf
                  refine lv_lookup (tgt := 82) (off := 81) hx hb dX0_operands_1 (by decide) (by rw [lv_osw c1_38 (show (38 : Int32).toInt = 38 by decide)]; rw [lv_osw c1_62 (show (62 : Int32).toInt = 62 by decide)]; rw [lv_osw c1_77 (show (77 : Int32).toInt = 77 by decide)]; rw [lv_osw c1_78 (show (78 : Int32).toInt = 78 by decide)]; rw [lv_osw c1_112 (show (112 : Int32).toInt = 112 by decide)]; rw [lv_osw c1_113 (show (113 : Int32).toInt = 113 by decide)]; rw [lv_osw c1_124 (show (124 : Int32).toInt = 124 by decide)]; rw [lv_osw c1_126 (show (126 : Int32).toInt = 126 by decide)]; rfl) (by decide) ?_
                  refine lv_iconst (v := (-1)) hx hb dX0_operands_82 (by decide) ?_
                  subst hf
                  exact k_iret hx hb hr hlocks hAe hS hP hD dX0_operands_83
set_option maxHeartbeats 4000000 in
set_option maxRecDepth 100000 in
theorem k_X4_clear (l : Launch) (D : va_G) (cB cI cJ cZ : ClassId) (tL tK : Nat) (h_this : Nat) (sz : Nat) (v_number : Int32) (v_possible : Int32)  (q : Int32 × Int32) (hf : f_X4_clear v_number v_possible = q) : Met l yX4_clear (.code yX4_clear cX4_clear 1 none :: k_all) { frames := 0, cells := 0, slots := 0, locals := 0 } (k_P D cB cI cJ cZ tL tK [.ref h_this] [(h_this, o_X4 v_number v_possible)] sz) (k_V D [(h_this, o_X4 v_number v_possible)] [(h_this, o_X4 q.1 q.2)] sz) 0 0 (va_A [(h_this, o_X4 v_number v_possible)] sz) := by
  unfold f_X4_clear at hf
  refine k_met RX4 rfl (by decide +kernel) (Nat.le_of_ble_eq_true rfl) ?_
  intro p e s m below meth c A ls hx hb hr hml hown hts hlocks hin hsz hAe hA hK hN hZ hD hS hP hl
  have hl : lv_has ls 1 [(0, .ref h_this)] := hl
  refine lv_aload_n hx hb dX4_clear_0 rfl (lv_at hl 0 rfl) ?_
  refine lv_iconst (v := 0) hx hb dX4_clear_1 (by decide) ?_
  refine va_put (D := D) (ci := 4) (v := .int 0) (ty := .int) (C := RX4) (T := TX4) (N := 2) hx hb hts inlX4 tyX4 tyX4_ok nmX4 hown hK hP hD hS 0 rfl rfl 0 (by decide) (hts _ m_313) (fun _ h9 => h9) rfl (by decide +kernel) rfl rfl (Nat.le_of_ble_eq_true rfl) dX4_clear_2 (fun H locs hP hD hS => ?_)
  have hP : va_P D vwCl [(h_this, o_X4 0 v_possible)] H := hP
  have hD : va_D A [(h_this, o_X4 0 v_possible)] := hD
  refine lv_aload_n hx hb dX4_clear_5 rfl (lv_at hl 0 rfl) ?_
  refine lv_bipush (v := 31) hx hb dX4_clear_6 (by decide) ?_
  refine va_put (D := D) (ci := 4) (v := .int 31) (ty := .int) (C := RX4) (T := TX4) (N := 2) hx hb hts inlX4 tyX4 tyX4_ok nmX4 hown hK hP hD hS 0 rfl rfl 1 (by decide) (hts _ m_69) (fun _ h9 => h9) rfl (by decide +kernel) rfl rfl (Nat.le_of_ble_eq_true rfl) dX4_clear_8 (fun H locs hP hD hS => ?_)
  have hP : va_P D vwCl [(h_this, o_X4 0 31)] H := hP
  have hD : va_D A [(h_this, o_X4 0 31)] := hD
  subst hf
  exact k_vret hx hb hr hlocks hAe hS hP hD dX4_clear_11
set_option maxHeartbeats 4000000 in
set_option maxRecDepth 100000 in
theorem k_X0_signAt (l : Launch) (D : va_G) (cB cI cJ cZ : ClassId) (tL tK : Nat) (h_this h_signs h_ends : Nat) (sz : Nat) (v_length : Int32) (v_signs : (Nat → Int32)) (x1 : Int32) (q : Int32) (hf : f_X0_signAt v_signs x1 = some q) : Met l yX0_signAt (.code yX0_signAt cX0_signAt 2 (some .int) :: k_all) { frames := 1, cells := 0, slots := 0, locals := 21 } (k_P D cB cI cJ cZ tL tK [.ref h_this, .int x1] [(h_this, o_X0 h_signs h_ends v_length), (h_signs, o_I cI 16 v_signs)] sz) (k_I D q [(h_this, o_X0 h_signs h_ends v_length), (h_signs, o_I cI 16 v_signs)] [(h_this, o_X0 h_signs h_ends v_length), (h_signs, o_I cI 16 v_signs)] sz) 0 0 (va_A [(h_this, o_X0 h_signs h_ends v_length), (h_signs, o_I cI 16 v_signs)] sz) := by
  unfold f_X0_signAt at hf
  refine k_met RX0 rfl (by decide +kernel) (Nat.le_of_ble_eq_true rfl) ?_
  intro p e s m below meth c A ls hx hb hr hml hown hts hlocks hin hsz hAe hA hK hN hZ hD hS hP hl
  have hl : lv_has ls 2 [(0, .ref h_this), (1, .int x1)] := hl
  refine lv_iload_n hx hb dX0_signAt_0 rfl (lv_at hl 1 rfl) ?_
  refine lv_aload_n hx hb dX0_signAt_1 rfl (lv_at hl 0 rfl) ?_
  refine va_get (D := D) (ci := 0) (v := .ref h_signs) (C := RX0) (T := TX0) (N := 3) hx hb hts inlX0 hown hK hP 0 rfl rfl 0 (by decide) (hts _ m_64) (fun _ h9 => h9) rfl dX0_signAt_2 ?_
  refine va_alen (D := D) (v := 16) hx hb hK hP 1 1 rfl rfl rfl dX0_signAt_5 ?_
  refine k_calli (wN := [(h_this, o_X0 h_signs h_ends v_length), (h_signs, o_I cI 16 v_signs)]) [] [0, 1] [0, 1] hP hD hS hA (va_runSN (As := [.int x1, .int 16]) (rest := []) ⟨hx, hb, hml, hown, hts⟩ (k_X8_isBelow l D cB cI cJ cZ tL tK _ x1 16 (f_X8_isBelow x1 16) rfl) ⟨va_cnB 2 hts (k_gB m_112) rfl rfl rfl (hN.1 _ (List.mem_of_getElem? (i := 13) rfl)) (hts _ m_2) (by decide +kernel) ⟨Nat.le_of_ble_eq_true rfl, Nat.le_of_ble_eq_true rfl⟩, (hts _ m_111), trivial⟩ (k_preS [] hK hN hZ hP hD hS hA rfl rfl) rfl rfl hl.1 rfl (lv_room (Nat.le_of_ble_eq_true rfl)) dX0_signAt_6 ⟨Nat.le_refl _, Nat.le_refl _⟩) rfl rfl rfl rfl rfl (fun H locs hP hD hS => ?_)
  refine lv_if_eq (tgt := 21) hx hb dX0_signAt_9 (by decide) (fun c9 => ?_) (fun c9 => ?_)
  · replace hf := k_ifT c9 hf
    refine lv_iconst (v := (-1)) hx hb dX0_signAt_21 (by decide) ?_
    cases hf
    exact k_iret hx hb hr hlocks hAe hS hP hD dX0_signAt_22
  · replace hf := k_ifF c9 hf
    refine lv_aload_n hx hb dX0_signAt_12 rfl (lv_at hl 0 rfl) ?_
    refine va_get (D := D) (ci := 0) (v := .ref h_signs) (C := RX0) (T := TX0) (N := 3) hx hb hts inlX0 hown hK hP 0 rfl rfl 0 (by decide) (hts _ m_64) (fun _ h9 => h9) rfl dX0_signAt_13 ?_
    refine lv_iload_n hx hb dX0_signAt_16 rfl (lv_at hl 1 rfl) ?_
    obtain ⟨hi17, hf⟩ := k_chk_some hf
    refine va_iald (D := D) hx hb hK hP 1 1 rfl rfl hi17 dX0_signAt_17 ?_
    refine lv_goto (tgt := 22) hx hb dX0_signAt_18 (by decide) ?_
    cases hf
    exact k_iret hx hb hr hlocks hAe hS hP hD dX0_signAt_22
set_option maxHeartbeats 4000000 in
set_option maxRecDepth 100000 in
theorem k_X0_end (l : Launch) (D : va_G) (cB cI cJ cZ : ClassId) (tL tK : Nat) (h_this h_signs h_ends : Nat) (sz : Nat) (v_length : Int32) (v_ends : (Nat → Int32)) (x1 : Int32) (q : Int32) (hf : f_X0_end v_length v_ends x1 = some q) : Met l yX0_end (.code yX0_end cX0_end 2 (some .int) :: k_all) { frames := 1, cells := 0, slots := 0, locals := 21 } (k_P D cB cI cJ cZ tL tK [.ref h_this, .int x1] [(h_this, o_X0 h_signs h_ends v_length), (h_ends, o_I cI 16 v_ends)] sz) (k_I D q [(h_this, o_X0 h_signs h_ends v_length), (h_ends, o_I cI 16 v_ends)] [(h_this, o_X0 h_signs h_ends v_length), (h_ends, o_I cI 16 v_ends)] sz) 0 0 (va_A [(h_this, o_X0 h_signs h_ends v_length), (h_ends, o_I cI 16 v_ends)] sz) := by
  unfold f_X0_end at hf
  refine k_met RX0 rfl (by decide +kernel) (Nat.le_of_ble_eq_true rfl) ?_
  intro p e s m below meth c A ls hx hb hr hml hown hts hlocks hin hsz hAe hA hK hN hZ hD hS hP hl
  have hl : lv_has ls 2 [(0, .ref h_this), (1, .int x1)] := hl
  refine lv_iload_n hx hb dX0_end_0 rfl (lv_at hl 1 rfl) ?_
  refine lv_aload_n hx hb dX0_end_1 rfl (lv_at hl 0 rfl) ?_
  refine va_get (D := D) (ci := 0) (v := .ref h_ends) (C := RX0) (T := TX0) (N := 3) hx hb hts inlX0 hown hK hP 0 rfl rfl 1 (by decide) (hts _ m_65) (fun _ h9 => h9) rfl dX0_end_2 ?_
  refine va_alen (D := D) (v := 16) hx hb hK hP 1 1 rfl rfl rfl dX0_end_5 ?_
  refine k_calli (wN := [(h_this, o_X0 h_signs h_ends v_length), (h_ends, o_I cI 16 v_ends)]) [] [0, 1] [0, 1] hP hD hS hA (va_runSN (As := [.int x1, .int 16]) (rest := []) ⟨hx, hb, hml, hown, hts⟩ (k_X8_isBelow l D cB cI cJ cZ tL tK _ x1 16 (f_X8_isBelow x1 16) rfl) ⟨va_cnB 2 hts (k_gB m_112) rfl rfl rfl (hN.1 _ (List.mem_of_getElem? (i := 13) rfl)) (hts _ m_2) (by decide +kernel) ⟨Nat.le_of_ble_eq_true rfl, Nat.le_of_ble_eq_true rfl⟩, (hts _ m_111), trivial⟩ (k_preS [] hK hN hZ hP hD hS hA rfl rfl) rfl rfl hl.1 rfl (lv_room (Nat.le_of_ble_eq_true rfl)) dX0_end_6 ⟨Nat.le_refl _, Nat.le_refl _⟩) rfl rfl rfl rfl rfl (fun H locs hP hD hS => ?_)
  refine lv_if_eq (tgt := 21) hx hb dX0_end_9 (by decide) (fun c9 => ?_) (fun c9 => ?_)
  · replace hf := k_ifT c9 hf
    refine lv_aload_n hx hb dX0_end_21 rfl (lv_at hl 0 rfl) ?_
    refine va_get (D := D) (ci := 0) (v := .int v_length) (C := RX0) (T := TX0) (N := 3) hx hb hts inlX0 hown hK hP 0 rfl rfl 2 (by decide) (hts _ m_334) (fun _ h9 => h9) rfl dX0_end_22 ?_
    cases hf
    exact k_iret hx hb hr hlocks hAe hS hP hD dX0_end_25
  · replace hf := k_ifF c9 hf
    refine lv_aload_n hx hb dX0_end_12 rfl (lv_at hl 0 rfl) ?_
    refine va_get (D := D) (ci := 0) (v := .ref h_ends) (C := RX0) (T := TX0) (N := 3) hx hb hts inlX0 hown hK hP 0 rfl rfl 1 (by decide) (hts _ m_65) (fun _ h9 => h9) rfl dX0_end_13 ?_
    refine lv_iload_n hx hb dX0_end_16 rfl (lv_at hl 1 rfl) ?_
    obtain ⟨hi17, hf⟩ := k_chk_some hf
    refine va_iald (D := D) hx hb hK hP 1 1 rfl rfl hi17 dX0_end_17 ?_
    refine lv_goto (tgt := 25) hx hb dX0_end_18 (by decide) ?_
    cases hf
    exact k_iret hx hb hr hlocks hAe hS hP hD dX0_end_25
set_option maxHeartbeats 4000000 in
set_option maxRecDepth 100000 in
theorem k_X0_endFrom (l : Launch) (D : va_G) (cB cI cJ cZ : ClassId) (tL tK : Nat) (h_this h_signs h_ends : Nat) (sz : Nat) (v_length : Int32) (v_signs : (Nat → Int32)) (v_ends : (Nat → Int32)) (x1 : Int32) (q : Int32) (hf : f_X0_endFrom v_length v_signs v_ends x1 = some q) : Met l yX0_endFrom (.code yX0_endFrom cX0_endFrom 5 (some .int) :: k_all) { frames := 2, cells := 0, slots := 0, locals := 42 } (k_P D cB cI cJ cZ tL tK [.ref h_this, .int x1] [(h_this, o_X0 h_signs h_ends v_length), (h_signs, o_I cI 16 v_signs), (h_ends, o_I cI 16 v_ends)] sz) (k_I D q [(h_this, o_X0 h_signs h_ends v_length), (h_signs, o_I cI 16 v_signs), (h_ends, o_I cI 16 v_ends)] [(h_this, o_X0 h_signs h_ends v_length), (h_signs, o_I cI 16 v_signs), (h_ends, o_I cI 16 v_ends)] sz) 0 0 (va_A [(h_this, o_X0 h_signs h_ends v_length), (h_signs, o_I cI 16 v_signs), (h_ends, o_I cI 16 v_ends)] sz) := by
  unfold f_X0_endFrom at hf
  refine k_met RX0 rfl (by decide +kernel) (Nat.le_of_ble_eq_true rfl) ?_
  intro p e s m below meth c A ls hx hb hr hml hown hts hlocks hin hsz hAe hA hK hN hZ hD hS hP hl
  have hl : lv_has ls 5 [(0, .ref h_this), (1, .int x1)] := hl
  refine lv_iload_n hx hb dX0_endFrom_0 rfl (lv_at hl 1 rfl) ?_
  refine lv_iconst (v := 1) hx hb dX0_endFrom_1 (by decide) ?_
  refine lv_iadd hx hb dX0_endFrom_2 ?_
  refine lv_istore_n (lv' := [(2, .int (x1 + 1)), (0, .ref h_this), (1, .int x1)]) hx hb dX0_endFrom_3 rfl hl (by decide) rfl (fun ls hl => ?_)
  refine lv_aload_n hx hb dX0_endFrom_4 rfl (lv_at hl 1 rfl) ?_
  refine lv_iload_n hx hb dX0_endFrom_5 rfl (lv_at hl 2 rfl) ?_
  obtain ⟨q6, hq6, hf⟩ := k_bind hf
  refine k_calli (wN := [(h_this, o_X0 h_signs h_ends v_length), (h_signs, o_I cI 16 v_signs), (h_ends, o_I cI 16 v_ends)]) [0, 1] [2] [1, 2, 0] hP hD hS hA (va_runV (As := [.int x1]) (rest := []) ⟨hx, hb, hml, hown, hts⟩ (k_X0_signAt l D cB cI cJ cZ tL tK h_this h_signs h_ends _ v_length v_signs x1 q6 hq6) (cwV 1 hts (k_gV m_344 m_341 m_342 m_343 m_30) rfl rfl rfl (by decide +kernel) ⟨Nat.le_of_ble_eq_true rfl, Nat.le_of_ble_eq_true rfl⟩) (k_preV [0, 1] hK hN hZ hP hD hS hA rfl rfl (va_recv hK hP (ci := 0) (q0 := 0) rfl rfl)) rfl rfl hl.1 rfl (lv_room (Nat.le_of_ble_eq_true rfl)) dX0_endFrom_6 ⟨Nat.le_refl _, Nat.le_refl _⟩) rfl rfl rfl rfl rfl (fun H locs hP hD hS => ?_)
  refine k_calli (wN := [(h_this, o_X0 h_signs h_ends v_length), (h_signs, o_I cI 16 v_signs), (h_ends, o_I cI 16 v_ends)]) [] [0, 1, 2] [0, 1, 2] hP hD hS hA (va_runS (As := [.int q6]) (rest := []) ⟨hx, hb, hml, hown, hts⟩ (k_X0_operands l D cB cI cJ cZ tL tK _ q6 (f_X0_operands q6) rfl) (va_cwS 1 hts (k_gS m_179 m_345 m_178 m_30) rfl rfl rfl (by decide +kernel) ⟨Nat.le_of_ble_eq_true rfl, Nat.le_of_ble_eq_true rfl⟩) (k_preS [] hK hN hZ hP hD hS hA rfl rfl) rfl rfl hl.1 rfl (lv_room (Nat.le_of_ble_eq_true rfl)) dX0_endFrom_9 ⟨Nat.le_refl _, Nat.le_refl _⟩) rfl rfl rfl rfl rfl (fun H locs hP hD hS => ?_)
  refine lv_istore_n (lv' := [(3, .int (f_X0_operands q6)), (2, .int (x1 + 1)), (0, .ref h_this), (1, .int x1)]) hx hb dX0_endFrom_12 rfl hl (by decide) rfl (fun ls hl => ?_)
  refine lv_iconst (v := 0) hx hb dX0_endFrom_13 (by decide) ?_
  refine lv_istore (lv' := [(4, .int 0), (3, .int (f_X0_operands q6)), (2, .int (x1 + 1)), (0, .ref h_this), (1, .int x1)]) hx hb dX0_endFrom_14 hl (by decide) rfl (fun ls hl => ?_)
  refine k_wl 34 (wsf := fun (a16 : Int32 × Int32) => [(h_this, o_X0 h_signs h_ends v_length), (h_signs, o_I cI 16 v_signs), (h_ends, o_I cI 16 v_ends)]) (lvf := fun (a16 : Int32 × Int32) => [(0, .ref h_this), (2, .int a16.1), (3, .int (f_X0_operands q6)), (4, .int a16.2)]) hf hP hD hS (lv_sub hl [3, 2, 1, 0] rfl) ?_ ?_
  · intro a16 H locs ls hf hP hD hS hl
    have hP : va_P D vwCl [(h_this, o_X0 h_signs h_ends v_length), (h_signs, o_I cI 16 v_signs), (h_ends, o_I cI 16 v_ends)] H := hP
    have hD : va_D A [(h_this, o_X0 h_signs h_ends v_length), (h_signs, o_I cI 16 v_signs), (h_ends, o_I cI 16 v_ends)] := hD
    have hl : lv_has ls 5 [(0, .ref h_this), (2, .int a16.1), (3, .int (f_X0_operands q6)), (4, .int a16.2)] := hl
    refine lv_iload_n hx hb dX0_endFrom_34 rfl (lv_at hl 1 rfl) ?_
    cases hf
    exact k_iret hx hb hr hlocks hAe hS hP hD dX0_endFrom_35
  · intro ex16 rc16 hE16 hR16 a16 H locs ls hf hP hD hS hl
    have hP : va_P D vwCl [(h_this, o_X0 h_signs h_ends v_length), (h_signs, o_I cI 16 v_signs), (h_ends, o_I cI 16 v_ends)] H := hP
    have hD : va_D A [(h_this, o_X0 h_signs h_ends v_length), (h_signs, o_I cI 16 v_signs), (h_ends, o_I cI 16 v_ends)] := hD
    have hl : lv_has ls 5 [(0, .ref h_this), (2, .int a16.1), (3, .int (f_X0_operands q6)), (4, .int a16.2)] := hl
    refine lv_iload hx hb dX0_endFrom_16 (lv_at hl 3 rfl) ?_
    refine lv_iload_n hx hb dX0_endFrom_18 rfl (lv_at hl 2 rfl) ?_
    refine lv_icmp_ge (tgt := 34) hx hb dX0_endFrom_19 (by decide) (fun c19 => ?_) (fun c19 => ?_)
    · replace hf := k_ifT c19 hf
      exact hE16 _ _ _ _ hf hP hD hS (lv_sub hl [0, 1, 2, 3] rfl)
    · replace hf := k_ifF c19 hf
      refine lv_aload_n hx hb dX0_endFrom_22 rfl (lv_at hl 0 rfl) ?_
      refine lv_iload_n hx hb dX0_endFrom_23 rfl (lv_at hl 1 rfl) ?_
      obtain ⟨q24, hq24, hf⟩ := k_bind hf
      refine k_calli (wN := [(h_this, o_X0 h_signs h_ends v_length), (h_signs, o_I cI 16 v_signs), (h_ends, o_I cI 16 v_ends)]) [0, 2] [1] [1, 0, 2] hP hD hS hA (va_runV (As := [.int a16.1]) (rest := []) ⟨hx, hb, hml, hown, hts⟩ (k_X0_end l D cB cI cJ cZ tL tK h_this h_signs h_ends _ v_length v_ends a16.1 q24 hq24) (cwV 1 hts (k_gV m_349 m_346 m_347 m_348 m_30) rfl rfl rfl (by decide +kernel) ⟨Nat.le_of_ble_eq_true rfl, Nat.le_of_ble_eq_true rfl⟩) (k_preV [0, 2] hK hN hZ hP hD hS hA rfl rfl (va_recv hK hP (ci := 0) (q0 := 0) rfl rfl)) rfl rfl hl.1 rfl (lv_room (Nat.le_of_ble_eq_true rfl)) dX0_endFrom_24 ⟨Nat.le_refl _, Nat.le_refl _⟩) rfl rfl rfl rfl rfl (fun H locs hP hD hS => ?_)
      refine lv_istore_n (lv' := [(2, .int q24), (0, .ref h_this), (3, .int (f_X0_operands q6)), (4, .int a16.2)]) hx hb dX0_endFrom_27 rfl hl (by decide) rfl (fun ls hl => ?_)
      refine lv_iinc (v := (a16.2 + 1)) (lv' := [(4, .int (a16.2 + 1)), (2, .int q24), (0, .ref h_this), (3, .int (f_X0_operands q6))]) hx hb dX0_endFrom_28 hl (k := 3) rfl rfl (by decide) rfl (fun ls hl => ?_)
      refine lv_goto (tgt := 16) hx hb dX0_endFrom_31 (by decide) ?_
      exact hR16 _ _ _ _ hf hP hD hS (lv_sub hl [2, 1, 3, 0] rfl)
set_option maxHeartbeats 4000000 in
set_option maxRecDepth 100000 in
theorem k_X0_read (l : Launch) (D : va_G) (cB cI cJ cZ : ClassId) (tL tK : Nat) (h_this h_signs h_ends h_x1 h_x1_codes : Nat) (sz : Nat) (v_length : Int32) (v_signs : (Nat → Int32)) (v_ends : (Nat → Int32)) (v_x1_length : Int32) (v_x1_codes : (Nat → Int32))  (q : Int32 × (Nat → Int32) × (Nat → Int32)) (hf : f_X0_read v_length v_signs v_ends v_x1_length v_x1_codes = some q) : Met l yX0_read (.code yX0_read cX0_read 3 none :: k_all) { frames := 3, cells := 0, slots := 0, locals := 66 } (k_P D cB cI cJ cZ tL tK [.ref h_this, .ref h_x1] [(h_this, o_X0 h_signs h_ends v_length), (h_signs, o_I cI 16 v_signs), (h_ends, o_I cI 16 v_ends), (h_x1, o_X5 h_x1_codes v_x1_length), (h_x1_codes, o_I cI 66 v_x1_codes)] sz) (k_V D [(h_this, o_X0 h_signs h_ends v_length), (h_signs, o_I cI 16 v_signs), (h_ends, o_I cI 16 v_ends), (h_x1, o_X5 h_x1_codes v_x1_length), (h_x1_codes, o_I cI 66 v_x1_codes)] [(h_this, o_X0 h_signs h_ends q.1), (h_signs, o_I cI 16 q.2.1), (h_ends, o_I cI 16 q.2.2), (h_x1, o_X5 h_x1_codes v_x1_length), (h_x1_codes, o_I cI 66 v_x1_codes)] sz) 0 0 (va_A [(h_this, o_X0 h_signs h_ends v_length), (h_signs, o_I cI 16 v_signs), (h_ends, o_I cI 16 v_ends), (h_x1, o_X5 h_x1_codes v_x1_length), (h_x1_codes, o_I cI 66 v_x1_codes)] sz) := by
  unfold f_X0_read at hf
  refine k_met RX0 rfl (by decide +kernel) (Nat.le_of_ble_eq_true rfl) ?_
  intro p e s m below meth c A ls hx hb hr hml hown hts hlocks hin hsz hAe hA hK hN hZ hD hS hP hl
  have hl : lv_has ls 3 [(0, .ref h_this), (1, .ref h_x1)] := hl
  refine lv_aload_n hx hb dX0_read_0 rfl (lv_at hl 0 rfl) ?_
  refine lv_aload_n hx hb dX0_read_1 rfl (lv_at hl 1 rfl) ?_
  refine k_calli (wN := [(h_this, o_X0 h_signs h_ends v_length), (h_signs, o_I cI 16 v_signs), (h_ends, o_I cI 16 v_ends), (h_x1, o_X5 h_x1_codes v_x1_length), (h_x1_codes, o_I cI 66 v_x1_codes)]) [3] [0, 1, 2, 4] [0, 1, 2, 4, 3] hP hD hS hA (va_runV (As := []) (rest := [.ref h_this]) ⟨hx, hb, hml, hown, hts⟩ (k_X5_length l D cB cI cJ cZ tL tK h_x1 h_x1_codes _ v_x1_length (f_X5_length v_x1_length) rfl) (cwV 0 hts (k_gV m_105 m_335 m_103 m_104 m_14) rfl rfl rfl (by decide +kernel) ⟨Nat.le_of_ble_eq_true rfl, Nat.le_of_ble_eq_true rfl⟩) (k_preV [3] hK hN hZ hP hD hS hA rfl rfl (va_recv hK hP (ci := 5) (q0 := 3) rfl rfl)) rfl rfl hl.1 rfl (lv_room (Nat.le_of_ble_eq_true rfl)) dX0_read_2 ⟨Nat.le_refl _, Nat.le_refl _⟩) rfl rfl rfl rfl rfl (fun H locs hP hD hS => ?_)
  refine va_put (D := D) (ci := 0) (v := .int (f_X5_length v_x1_length)) (ty := .int) (C := RX0) (T := TX0) (N := 3) hx hb hts inlX0 tyX0 tyX0_ok nmX0 hown hK hP hD hS 0 rfl rfl 2 (by decide) (hts _ m_334) (fun _ h9 => h9) rfl (by decide +kernel) rfl rfl (Nat.le_of_ble_eq_true rfl) dX0_read_5 (fun H locs hP hD hS => ?_)
  have hP : va_P D vwCl [(h_this, o_X0 h_signs h_ends (f_X5_length v_x1_length)), (h_signs, o_I cI 16 v_signs), (h_ends, o_I cI 16 v_ends), (h_x1, o_X5 h_x1_codes v_x1_length), (h_x1_codes, o_I cI 66 v_x1_codes)] H := hP
  have hD : va_D A [(h_this, o_X0 h_signs h_ends (f_X5_length v_x1_length)), (h_signs, o_I cI 16 v_signs), (h_ends, o_I cI 16 v_ends), (h_x1, o_X5 h_x1_codes v_x1_length), (h_x1_codes, o_I cI 66 v_x1_codes)] := hD
  refine lv_iconst (v := 0) hx hb dX0_read_8 (by decide) ?_
  refine lv_istore_n (lv' := [(2, .int 0), (0, .ref h_this), (1, .ref h_x1)]) hx hb dX0_read_9 rfl hl (by decide) rfl (fun ls hl => ?_)
  refine k_wl 36 (wsf := fun (a10 : Int32 × (Nat → Int32)) => [(h_this, o_X0 h_signs h_ends (f_X5_length v_x1_length)), (h_signs, o_I cI 16 a10.2), (h_ends, o_I cI 16 v_ends), (h_x1, o_X5 h_x1_codes v_x1_length), (h_x1_codes, o_I cI 66 v_x1_codes)]) (lvf := fun (a10 : Int32 × (Nat → Int32)) => [(0, .ref h_this), (1, .ref h_x1), (2, .int a10.1)]) hf hP hD hS (lv_sub hl [1, 2, 0] rfl) ?_ ?_
  · intro a10 H locs ls hf hP hD hS hl
    have hP : va_P D vwCl [(h_this, o_X0 h_signs h_ends (f_X5_length v_x1_length)), (h_signs, o_I cI 16 a10.2), (h_ends, o_I cI 16 v_ends), (h_x1, o_X5 h_x1_codes v_x1_length), (h_x1_codes, o_I cI 66 v_x1_codes)] H := hP
    have hD : va_D A [(h_this, o_X0 h_signs h_ends (f_X5_length v_x1_length)), (h_signs, o_I cI 16 a10.2), (h_ends, o_I cI 16 v_ends), (h_x1, o_X5 h_x1_codes v_x1_length), (h_x1_codes, o_I cI 66 v_x1_codes)] := hD
    have hl : lv_has ls 3 [(0, .ref h_this), (1, .ref h_x1), (2, .int a10.1)] := hl
    refine lv_aload_n hx hb dX0_read_36 rfl (lv_at hl 0 rfl) ?_
    refine va_get (D := D) (ci := 0) (v := .ref h_ends) (C := RX0) (T := TX0) (N := 3) hx hb hts inlX0 hown hK hP 0 rfl rfl 1 (by decide) (hts _ m_65) (fun _ h9 => h9) rfl dX0_read_37 ?_
    refine va_alen (D := D) (v := 16) hx hb hK hP 2 1 rfl rfl rfl dX0_read_40 ?_
    refine lv_iconst (v := 1) hx hb dX0_read_41 (by decide) ?_
    refine lv_isub hx hb dX0_read_42 ?_
    refine lv_istore_n (lv' := [(2, .int (16 - 1)), (0, .ref h_this), (1, .ref h_x1)]) hx hb dX0_read_43 rfl hl (by decide) rfl (fun ls hl => ?_)
    refine k_wl 65 (wsf := fun (a44 : Int32 × (Nat → Int32)) => [(h_this, o_X0 h_signs h_ends (f_X5_length v_x1_length)), (h_signs, o_I cI 16 a10.2), (h_ends, o_I cI 16 a44.2), (h_x1, o_X5 h_x1_codes v_x1_length), (h_x1_codes, o_I cI 66 v_x1_codes)]) (lvf := fun (a44 : Int32 × (Nat → Int32)) => [(0, .ref h_this), (2, .int a44.1)]) hf hP hD hS (lv_sub hl [1, 0] rfl) ?_ ?_
    · intro a44 H locs ls hf hP hD hS hl
      have hP : va_P D vwCl [(h_this, o_X0 h_signs h_ends (f_X5_length v_x1_length)), (h_signs, o_I cI 16 a10.2), (h_ends, o_I cI 16 a44.2), (h_x1, o_X5 h_x1_codes v_x1_length), (h_x1_codes, o_I cI 66 v_x1_codes)] H := hP
      have hD : va_D A [(h_this, o_X0 h_signs h_ends (f_X5_length v_x1_length)), (h_signs, o_I cI 16 a10.2), (h_ends, o_I cI 16 a44.2), (h_x1, o_X5 h_x1_codes v_x1_length), (h_x1_codes, o_I cI 66 v_x1_codes)] := hD
      have hl : lv_has ls 3 [(0, .ref h_this), (2, .int a44.1)] := hl
      cases hf
      exact k_vret hx hb hr hlocks hAe hS hP hD dX0_read_65
    · intro ex44 rc44 hE44 hR44 a44 H locs ls hf hP hD hS hl
      have hP : va_P D vwCl [(h_this, o_X0 h_signs h_ends (f_X5_length v_x1_length)), (h_signs, o_I cI 16 a10.2), (h_ends, o_I cI 16 a44.2), (h_x1, o_X5 h_x1_codes v_x1_length), (h_x1_codes, o_I cI 66 v_x1_codes)] H := hP
      have hD : va_D A [(h_this, o_X0 h_signs h_ends (f_X5_length v_x1_length)), (h_signs, o_I cI 16 a10.2), (h_ends, o_I cI 16 a44.2), (h_x1, o_X5 h_x1_codes v_x1_length), (h_x1_codes, o_I cI 66 v_x1_codes)] := hD
      have hl : lv_has ls 3 [(0, .ref h_this), (2, .int a44.1)] := hl
      refine lv_iload_n hx hb dX0_read_44 rfl (lv_at hl 1 rfl) ?_
      refine lv_if_lt (tgt := 65) hx hb dX0_read_45 (by decide) (fun c45 => ?_) (fun c45 => ?_)
      · replace hf := k_ifT c45 hf
        exact hE44 _ _ _ _ hf hP hD hS (lv_sub hl [0, 1] rfl)
      · replace hf := k_ifF c45 hf
        refine lv_aload_n hx hb dX0_read_48 rfl (lv_at hl 0 rfl) ?_
        refine va_get (D := D) (ci := 0) (v := .ref h_ends) (C := RX0) (T := TX0) (N := 3) hx hb hts inlX0 hown hK hP 0 rfl rfl 1 (by decide) (hts _ m_65) (fun _ h9 => h9) rfl dX0_read_49 ?_
        refine lv_iload_n hx hb dX0_read_52 rfl (lv_at hl 1 rfl) ?_
        refine lv_aload_n hx hb dX0_read_53 rfl (lv_at hl 0 rfl) ?_
        refine lv_iload_n hx hb dX0_read_54 rfl (lv_at hl 1 rfl) ?_
        obtain ⟨q55, hq55, hf⟩ := k_bind hf
        refine k_calli (wN := [(h_this, o_X0 h_signs h_ends (f_X5_length v_x1_length)), (h_signs, o_I cI 16 a10.2), (h_ends, o_I cI 16 a44.2), (h_x1, o_X5 h_x1_codes v_x1_length), (h_x1_codes, o_I cI 66 v_x1_codes)]) [0, 1, 2] [3, 4] [2, 3, 4, 0, 1] hP hD hS hA (va_runV (As := [.int a44.1]) (rest := [.int a44.1, .ref h_ends]) ⟨hx, hb, hml, hown, hts⟩ (k_X0_endFrom l D cB cI cJ cZ tL tK h_this h_signs h_ends _ (f_X5_length v_x1_length) a10.2 a44.2 a44.1 q55 hq55) (cwV 1 hts (k_gV m_340 m_337 m_338 m_339 m_30) rfl rfl rfl (by decide +kernel) ⟨Nat.le_of_ble_eq_true rfl, Nat.le_of_ble_eq_true rfl⟩) (k_preV [0, 1, 2] hK hN hZ hP hD hS hA rfl rfl (va_recv hK hP (ci := 0) (q0 := 0) rfl rfl)) rfl rfl hl.1 rfl (lv_room (Nat.le_of_ble_eq_true rfl)) dX0_read_55 ⟨Nat.le_refl _, Nat.le_refl _⟩) rfl rfl rfl rfl rfl (fun H locs hP hD hS => ?_)
        obtain ⟨hi58, hf⟩ := k_chk_some hf
        refine va_iast (D := D) hx hb hK hP hD hS 2 1 rfl rfl hi58 dX0_read_58 (fun H locs hP hD hS => ?_)
        have hP : va_P D vwCl [(h_this, o_X0 h_signs h_ends (f_X5_length v_x1_length)), (h_signs, o_I cI 16 a10.2), (h_ends, o_I cI 16 (upd a44.2 (Int32.toNatClampNeg a44.1) q55)), (h_x1, o_X5 h_x1_codes v_x1_length), (h_x1_codes, o_I cI 66 v_x1_codes)] H := hP
        have hD : va_D A [(h_this, o_X0 h_signs h_ends (f_X5_length v_x1_length)), (h_signs, o_I cI 16 a10.2), (h_ends, o_I cI 16 (upd a44.2 (Int32.toNatClampNeg a44.1) q55)), (h_x1, o_X5 h_x1_codes v_x1_length), (h_x1_codes, o_I cI 66 v_x1_codes)] := hD
        refine lv_iinc (v := (a44.1 + (-1))) (lv' := [(2, .int (a44.1 + (-1))), (0, .ref h_this)]) hx hb dX0_read_59 hl (k := 1) rfl rfl (by decide) rfl (fun ls hl => ?_)
        refine lv_goto (tgt := 44) hx hb dX0_read_62 (by decide) ?_
        exact hR44 _ _ _ _ hf hP hD hS (lv_sub hl [1, 0] rfl)
  · intro ex10 rc10 hE10 hR10 a10 H locs ls hf hP hD hS hl
    have hP : va_P D vwCl [(h_this, o_X0 h_signs h_ends (f_X5_length v_x1_length)), (h_signs, o_I cI 16 a10.2), (h_ends, o_I cI 16 v_ends), (h_x1, o_X5 h_x1_codes v_x1_length), (h_x1_codes, o_I cI 66 v_x1_codes)] H := hP
    have hD : va_D A [(h_this, o_X0 h_signs h_ends (f_X5_length v_x1_length)), (h_signs, o_I cI 16 a10.2), (h_ends, o_I cI 16 v_ends), (h_x1, o_X5 h_x1_codes v_x1_length), (h_x1_codes, o_I cI 66 v_x1_codes)] := hD
    have hl : lv_has ls 3 [(0, .ref h_this), (1, .ref h_x1), (2, .int a10.1)] := hl
    refine lv_iload_n hx hb dX0_read_10 rfl (lv_at hl 2 rfl) ?_
    refine lv_aload_n hx hb dX0_read_11 rfl (lv_at hl 0 rfl) ?_
    refine va_get (D := D) (ci := 0) (v := .ref h_signs) (C := RX0) (T := TX0) (N := 3) hx hb hts inlX0 hown hK hP 0 rfl rfl 0 (by decide) (hts _ m_64) (fun _ h9 => h9) rfl dX0_read_12 ?_
    refine va_alen (D := D) (v := 16) hx hb hK hP 1 1 rfl rfl rfl dX0_read_15 ?_
    refine lv_icmp_ge (tgt := 36) hx hb dX0_read_16 (by decide) (fun c16 => ?_) (fun c16 => ?_)
    · replace hf := k_ifT c16 hf
      exact hE10 _ _ _ _ hf hP hD hS (lv_sub hl [0, 1, 2] rfl)
    · replace hf := k_ifF c16 hf
      refine lv_aload_n hx hb dX0_read_19 rfl (lv_at hl 0 rfl) ?_
      refine va_get (D := D) (ci := 0) (v := .ref h_signs) (C := RX0) (T := TX0) (N := 3) hx hb hts inlX0 hown hK hP 0 rfl rfl 0 (by decide) (hts _ m_64) (fun _ h9 => h9) rfl dX0_read_20 ?_
      refine lv_iload_n hx hb dX0_read_23 rfl (lv_at hl 2 rfl) ?_
      refine lv_aload_n hx hb dX0_read_24 rfl (lv_at hl 1 rfl) ?_
      refine lv_iload_n hx hb dX0_read_25 rfl (lv_at hl 2 rfl) ?_
      obtain ⟨q26, hq26, hf⟩ := k_bind hf
      refine k_calli (wN := [(h_this, o_X0 h_signs h_ends (f_X5_length v_x1_length)), (h_signs, o_I cI 16 a10.2), (h_ends, o_I cI 16 v_ends), (h_x1, o_X5 h_x1_codes v_x1_length), (h_x1_codes, o_I cI 66 v_x1_codes)]) [3, 4] [0, 1, 2] [0, 1, 2, 3, 4] hP hD hS hA (va_runV (As := [.int a10.1]) (rest := [.int a10.1, .ref h_signs]) ⟨hx, hb, hml, hown, hts⟩ (k_X5_at l D cB cI cJ cZ tL tK h_x1 h_x1_codes _ v_x1_length v_x1_codes a10.1 q26 hq26) (cwV 1 hts (k_gV m_171 m_336 m_169 m_170 m_14) rfl rfl rfl (by decide +kernel) ⟨Nat.le_of_ble_eq_true rfl, Nat.le_of_ble_eq_true rfl⟩) (k_preV [3, 4] hK hN hZ hP hD hS hA rfl rfl (va_recv hK hP (ci := 5) (q0 := 3) rfl rfl)) rfl rfl hl.1 rfl (lv_room (Nat.le_of_ble_eq_true rfl)) dX0_read_26 ⟨Nat.le_refl _, Nat.le_refl _⟩) rfl rfl rfl rfl rfl (fun H locs hP hD hS => ?_)
      obtain ⟨hi29, hf⟩ := k_chk_some hf
      refine va_iast (D := D) hx hb hK hP hD hS 1 1 rfl rfl hi29 dX0_read_29 (fun H locs hP hD hS => ?_)
      have hP : va_P D vwCl [(h_this, o_X0 h_signs h_ends (f_X5_length v_x1_length)), (h_signs, o_I cI 16 (upd a10.2 (Int32.toNatClampNeg a10.1) q26)), (h_ends, o_I cI 16 v_ends), (h_x1, o_X5 h_x1_codes v_x1_length), (h_x1_codes, o_I cI 66 v_x1_codes)] H := hP
      have hD : va_D A [(h_this, o_X0 h_signs h_ends (f_X5_length v_x1_length)), (h_signs, o_I cI 16 (upd a10.2 (Int32.toNatClampNeg a10.1) q26)), (h_ends, o_I cI 16 v_ends), (h_x1, o_X5 h_x1_codes v_x1_length), (h_x1_codes, o_I cI 66 v_x1_codes)] := hD
      refine lv_iinc (v := (a10.1 + 1)) (lv' := [(2, .int (a10.1 + 1)), (0, .ref h_this), (1, .ref h_x1)]) hx hb dX0_read_30 hl (k := 2) rfl rfl (by decide) rfl (fun ls hl => ?_)
      refine lv_goto (tgt := 10) hx hb dX0_read_33 (by decide) ?_
      exact hR10 _ _ _ _ hf hP hD hS (lv_sub hl [1, 2, 0] rfl)
set_option maxHeartbeats 4000000 in
set_option maxRecDepth 100000 in
theorem k_X0_length (l : Launch) (D : va_G) (cB cI cJ cZ : ClassId) (tL tK : Nat) (h_this h_signs h_ends : Nat) (sz : Nat) (v_length : Int32)  (q : Int32) (hf : f_X0_length v_length = q) : Met l yX0_length (.code yX0_length cX0_length 1 (some .int) :: k_all) { frames := 0, cells := 0, slots := 0, locals := 0 } (k_P D cB cI cJ cZ tL tK [.ref h_this] [(h_this, o_X0 h_signs h_ends v_length)] sz) (k_I D q [(h_this, o_X0 h_signs h_ends v_length)] [(h_this, o_X0 h_signs h_ends v_length)] sz) 0 0 (va_A [(h_this, o_X0 h_signs h_ends v_length)] sz) := by
  unfold f_X0_length at hf
  refine k_met RX0 rfl (by decide +kernel) (Nat.le_of_ble_eq_true rfl) ?_
  intro p e s m below meth c A ls hx hb hr hml hown hts hlocks hin hsz hAe hA hK hN hZ hD hS hP hl
  have hl : lv_has ls 1 [(0, .ref h_this)] := hl
  refine lv_aload_n hx hb dX0_length_0 rfl (lv_at hl 0 rfl) ?_
  refine va_get (D := D) (ci := 0) (v := .int v_length) (C := RX0) (T := TX0) (N := 3) hx hb hts inlX0 hown hK hP 0 rfl rfl 2 (by decide) (hts _ m_334) (fun _ h9 => h9) rfl dX0_length_1 ?_
  subst hf
  exact k_iret hx hb hr hlocks hAe hS hP hD dX0_length_4
set_option maxHeartbeats 4000000 in
set_option maxRecDepth 100000 in
theorem k_J13_bitCount_95d88 (l : Launch) (D : va_G) (cB cI cJ cZ : ClassId) (tL tK : Nat) (sz : Nat)  (x1 : Int64) (q : Int32) (hf : f_J13_bitCount_95d88 x1 = q) : Met l yJ13_bitCount_95d88 (.code yJ13_bitCount_95d88 cJ13_bitCount_95d88 2 (some .int) :: k_all) { frames := 0, cells := 0, slots := 0, locals := 0 } (k_P D cB cI cJ cZ tL tK [.long x1] [] sz) (k_I D q [] [] sz) 0 0 (va_A [] sz) := by
  unfold f_J13_bitCount_95d88 at hf
  refine k_met RJ13 rfl (by decide +kernel) (Nat.le_of_ble_eq_true rfl) ?_
  intro p e s m below meth c A ls hx hb hr hml hown hts hlocks hin hsz hAe hA hK hN hZ hD hS hP hl
  have hl : lv_has ls 2 [(0, .long x1)] := hl
  refine lv_lload_n hx hb dJ13_bitCount_95d88_0 rfl (lv_at hl 0 rfl) ?_
  refine lv_lload_n hx hb dJ13_bitCount_95d88_1 rfl (lv_at hl 0 rfl) ?_
  refine lv_iconst (v := 1) hx hb dJ13_bitCount_95d88_2 (by decide) ?_
  refine lv_lushr (v := k_lushr x1 1) hx hb dJ13_bitCount_95d88_3 rfl ?_
  refine lv_ldc2 (v := 6148914691236517205) hx hb hown (hts _ m_434) dJ13_bitCount_95d88_4 ?_
  refine lv_land hx hb dJ13_bitCount_95d88_7 ?_
  refine lv_lsub hx hb dJ13_bitCount_95d88_8 ?_
  refine lv_lstore_n (lv' := [(0, .long (x1 - ((k_lushr x1 1) &&& 6148914691236517205)))]) hx hb dJ13_bitCount_95d88_9 rfl hl (by decide) rfl (fun ls hl => ?_)
  refine lv_lload_n hx hb dJ13_bitCount_95d88_10 rfl (lv_at hl 0 rfl) ?_
  refine lv_ldc2 (v := 3689348814741910323) hx hb hown (hts _ m_435) dJ13_bitCount_95d88_11 ?_
  refine lv_land hx hb dJ13_bitCount_95d88_14 ?_
  refine lv_lload_n hx hb dJ13_bitCount_95d88_15 rfl (lv_at hl 0 rfl) ?_
  refine lv_iconst (v := 2) hx hb dJ13_bitCount_95d88_16 (by decide) ?_
  refine lv_lushr (v := k_lushr (x1 - ((k_lushr x1 1) &&& 6148914691236517205)) 2) hx hb dJ13_bitCount_95d88_17 rfl ?_
  refine lv_ldc2 (v := 3689348814741910323) hx hb hown (hts _ m_435) dJ13_bitCount_95d88_18 ?_
  refine lv_land hx hb dJ13_bitCount_95d88_21 ?_
  refine lv_ladd hx hb dJ13_bitCount_95d88_22 ?_
  refine lv_topl (fun y23 ey23 => ?_)
  replace hf := k_let_at ey23 hf
  refine lv_lstore_n (lv' := [(0, .long y23)]) hx hb dJ13_bitCount_95d88_23 rfl hl (by decide) rfl (fun ls hl => ?_)
  refine lv_lload_n hx hb dJ13_bitCount_95d88_24 rfl (lv_at hl 0 rfl) ?_
  refine lv_lload_n hx hb dJ13_bitCount_95d88_25 rfl (lv_at hl 0 rfl) ?_
  refine lv_iconst (v := 4) hx hb dJ13_bitCount_95d88_26 (by decide) ?_
  refine lv_lushr (v := k_lushr y23 4) hx hb dJ13_bitCount_95d88_27 rfl ?_
  refine lv_ladd hx hb dJ13_bitCount_95d88_28 ?_
  refine lv_ldc2 (v := 1085102592571150095) hx hb hown (hts _ m_436) dJ13_bitCount_95d88_29 ?_
  refine lv_land hx hb dJ13_bitCount_95d88_32 ?_
  refine lv_lstore_n (lv' := [(0, .long ((y23 + (k_lushr y23 4)) &&& 1085102592571150095))]) hx hb dJ13_bitCount_95d88_33 rfl hl (by decide) rfl (fun ls hl => ?_)
  refine lv_lload_n hx hb dJ13_bitCount_95d88_34 rfl (lv_at hl 0 rfl) ?_
  refine lv_lload_n hx hb dJ13_bitCount_95d88_35 rfl (lv_at hl 0 rfl) ?_
  refine lv_bipush (v := 8) hx hb dJ13_bitCount_95d88_36 (by decide) ?_
  refine lv_lushr (v := k_lushr ((y23 + (k_lushr y23 4)) &&& 1085102592571150095) 8) hx hb dJ13_bitCount_95d88_38 rfl ?_
  refine lv_ladd hx hb dJ13_bitCount_95d88_39 ?_
  refine lv_topl (fun y40 ey40 => ?_)
  replace hf := k_let_at ey40 hf
  refine lv_lstore_n (lv' := [(0, .long y40)]) hx hb dJ13_bitCount_95d88_40 rfl hl (by decide) rfl (fun ls hl => ?_)
  refine lv_lload_n hx hb dJ13_bitCount_95d88_41 rfl (lv_at hl 0 rfl) ?_
  refine lv_lload_n hx hb dJ13_bitCount_95d88_42 rfl (lv_at hl 0 rfl) ?_
  refine lv_bipush (v := 16) hx hb dJ13_bitCount_95d88_43 (by decide) ?_
  refine lv_lushr (v := k_lushr y40 16) hx hb dJ13_bitCount_95d88_45 rfl ?_
  refine lv_ladd hx hb dJ13_bitCount_95d88_46 ?_
  refine lv_lstore_n (lv' := [(0, .long (y40 + (k_lushr y40 16)))]) hx hb dJ13_bitCount_95d88_47 rfl hl (by decide) rfl (fun ls hl => ?_)
  refine lv_lload_n hx hb dJ13_bitCount_95d88_48 rfl (lv_at hl 0 rfl) ?_
  refine lv_lload_n hx hb dJ13_bitCount_95d88_49 rfl (lv_at hl 0 rfl) ?_
  refine lv_bipush (v := 32) hx hb dJ13_bitCount_95d88_50 (by decide) ?_
  refine lv_lushr (v := k_lushr (y40 + (k_lushr y40 16)) 32) hx hb dJ13_bitCount_95d88_52 rfl ?_
  refine lv_ladd hx hb dJ13_bitCount_95d88_53 ?_
  refine lv_lstore_n (lv' := [(0, .long ((y40 + (k_lushr y40 16)) + (k_lushr (y40 + (k_lushr y40 16)) 32)))]) hx hb dJ13_bitCount_95d88_54 rfl hl (by decide) rfl (fun ls hl => ?_)
  refine lv_lload_n hx hb dJ13_bitCount_95d88_55 rfl (lv_at hl 0 rfl) ?_
  refine lv_l2i hx hb dJ13_bitCount_95d88_56 rfl ?_
  refine lv_bipush (v := 127) hx hb dJ13_bitCount_95d88_57 (by decide) ?_
  refine lv_iand hx hb dJ13_bitCount_95d88_59 ?_
  subst hf
  exact k_iret hx hb hr hlocks hAe hS hP hD dJ13_bitCount_95d88_60
set_option maxHeartbeats 4000000 in
set_option maxRecDepth 100000 in
theorem k_X8_lowest (l : Launch) (D : va_G) (cB cI cJ cZ : ClassId) (tL tK : Nat) (sz : Nat)  (x1 : Int64) (q : Int32) (hf : f_X8_lowest x1 = q) : Met l yX8_lowest (.code yX8_lowest cX8_lowest 2 (some .int) :: k_all) { frames := 1, cells := 0, slots := 0, locals := 21 } (k_P D cB cI cJ cZ tL tK [.long x1] [] sz) (k_I D q [] [] sz) 0 0 (va_A [] sz) := by
  unfold f_X8_lowest at hf
  refine k_met RX8 rfl (by decide +kernel) (Nat.le_of_ble_eq_true rfl) ?_
  intro p e s m below meth c A ls hx hb hr hml hown hts hlocks hin hsz hAe hA hK hN hZ hD hS hP hl
  have hl : lv_has ls 2 [(0, .long x1)] := hl
  refine lv_lload_n hx hb dX8_lowest_0 rfl (lv_at hl 0 rfl) ?_
  refine lv_lload_n hx hb dX8_lowest_1 rfl (lv_at hl 0 rfl) ?_
  refine lv_lneg hx hb dX8_lowest_2 ?_
  refine lv_land hx hb dX8_lowest_3 ?_
  refine lv_lconst (v := 1) hx hb dX8_lowest_4 (by decide) ?_
  refine lv_lsub hx hb dX8_lowest_5 ?_
  refine k_calli (wN := []) [] [] [] hP hD hS hA (va_runS (As := [.long ((x1 &&& (-x1)) - 1)]) (rest := []) ⟨hx, hb, hml, hown, hts⟩ (k_J13_bitCount_95d88 l D cB cI cJ cZ tL tK _ ((x1 &&& (-x1)) - 1) (f_J13_bitCount_95d88 ((x1 &&& (-x1)) - 1)) rfl) (va_cwS 1 hts (k_gS m_433 m_430 m_431 m_432) rfl rfl rfl (by decide +kernel) ⟨Nat.le_of_ble_eq_true rfl, Nat.le_of_ble_eq_true rfl⟩) (k_preS [] hK hN hZ hP hD hS hA rfl rfl) rfl rfl hl.1 rfl (lv_room (Nat.le_of_ble_eq_true rfl)) dX8_lowest_6 ⟨Nat.le_refl _, Nat.le_refl _⟩) rfl rfl rfl rfl rfl (fun H locs hP hD hS => ?_)
  subst hf
  exact k_iret hx hb hr hlocks hAe hS hP hD dX8_lowest_9
set_option maxHeartbeats 4000000 in
set_option maxRecDepth 100000 in
theorem k_X8_toInt (l : Launch) (D : va_G) (cB cI cJ cZ : ClassId) (tL tK : Nat) (sz : Nat)  (x1 : Int32) (q : Int32) (hf : f_X8_toInt x1 = q) : Met l yX8_toInt (.code yX8_toInt cX8_toInt 1 (some .int) :: k_all) { frames := 0, cells := 0, slots := 0, locals := 0 } (k_P D cB cI cJ cZ tL tK [.int x1] [] sz) (k_I D q [] [] sz) 0 0 (va_A [] sz) := by
  unfold f_X8_toInt at hf
  refine k_met RX8 rfl (by decide +kernel) (Nat.le_of_ble_eq_true rfl) ?_
  intro p e s m below meth c A ls hx hb hr hml hown hts hlocks hin hsz hAe hA hK hN hZ hD hS hP hl
  have hl : lv_has ls 1 [(0, .int x1)] := hl
  refine lv_iload_n hx hb dX8_toInt_0 rfl (lv_at hl 0 rfl) ?_
  refine lv_if_eq (tgt := 8) hx hb dX8_toInt_1 (by decide) (fun c1 => ?_) (fun c1 => ?_)
  · replace hf := k_ifT c1 hf
    refine lv_iconst (v := 0) hx hb dX8_toInt_8 (by decide) ?_
    subst hf
    exact k_iret hx hb hr hlocks hAe hS hP hD dX8_toInt_9
  · replace hf := k_ifF c1 hf
    refine lv_iconst (v := 1) hx hb dX8_toInt_4 (by decide) ?_
    refine lv_goto (tgt := 9) hx hb dX8_toInt_5 (by decide) ?_
    subst hf
    exact k_iret hx hb hr hlocks hAe hS hP hD dX8_toInt_9
set_option maxHeartbeats 4000000 in
set_option maxRecDepth 100000 in
theorem k_J6_bitCount_0f7a4 (l : Launch) (D : va_G) (cB cI cJ cZ : ClassId) (tL tK : Nat) (sz : Nat)  (x1 : Int32) (q : Int32) (hf : f_J6_bitCount_0f7a4 x1 = q) : Met l yJ6_bitCount_0f7a4 (.code yJ6_bitCount_0f7a4 cJ6_bitCount_0f7a4 1 (some .int) :: k_all) { frames := 0, cells := 0, slots := 0, locals := 0 } (k_P D cB cI cJ cZ tL tK [.int x1] [] sz) (k_I D q [] [] sz) 0 0 (va_A [] sz) := by
  unfold f_J6_bitCount_0f7a4 at hf
  refine k_met RJ6 rfl (by decide +kernel) (Nat.le_of_ble_eq_true rfl) ?_
  intro p e s m below meth c A ls hx hb hr hml hown hts hlocks hin hsz hAe hA hK hN hZ hD hS hP hl
  have hl : lv_has ls 1 [(0, .int x1)] := hl
  refine lv_iload_n hx hb dJ6_bitCount_0f7a4_0 rfl (lv_at hl 0 rfl) ?_
  refine lv_iload_n hx hb dJ6_bitCount_0f7a4_1 rfl (lv_at hl 0 rfl) ?_
  refine lv_iconst (v := 1) hx hb dJ6_bitCount_0f7a4_2 (by decide) ?_
  refine lv_iushr (v := k_ush x1 1) hx hb dJ6_bitCount_0f7a4_3 rfl ?_
  refine lv_ldcw (v := 1431655765) hx hb hown (hts _ m_377) dJ6_bitCount_0f7a4_4 ?_
  refine lv_iand hx hb dJ6_bitCount_0f7a4_7 ?_
  refine lv_isub hx hb dJ6_bitCount_0f7a4_8 ?_
  refine lv_istore_n (lv' := [(0, .int (x1 - ((k_ush x1 1) &&& 1431655765)))]) hx hb dJ6_bitCount_0f7a4_9 rfl hl (by decide) rfl (fun ls hl => ?_)
  refine lv_iload_n hx hb dJ6_bitCount_0f7a4_10 rfl (lv_at hl 0 rfl) ?_
  refine lv_ldcw (v := 858993459) hx hb hown (hts _ m_378) dJ6_bitCount_0f7a4_11 ?_
  refine lv_iand hx hb dJ6_bitCount_0f7a4_14 ?_
  refine lv_iload_n hx hb dJ6_bitCount_0f7a4_15 rfl (lv_at hl 0 rfl) ?_
  refine lv_iconst (v := 2) hx hb dJ6_bitCount_0f7a4_16 (by decide) ?_
  refine lv_iushr (v := k_ush (x1 - ((k_ush x1 1) &&& 1431655765)) 2) hx hb dJ6_bitCount_0f7a4_17 rfl ?_
  refine lv_ldcw (v := 858993459) hx hb hown (hts _ m_378) dJ6_bitCount_0f7a4_18 ?_
  refine lv_iand hx hb dJ6_bitCount_0f7a4_21 ?_
  refine lv_iadd hx hb dJ6_bitCount_0f7a4_22 ?_
  refine lv_topi (fun y23 ey23 => ?_)
  replace hf := k_let_at ey23 hf
  refine lv_istore_n (lv' := [(0, .int y23)]) hx hb dJ6_bitCount_0f7a4_23 rfl hl (by decide) rfl (fun ls hl => ?_)
  refine lv_iload_n hx hb dJ6_bitCount_0f7a4_24 rfl (lv_at hl 0 rfl) ?_
  refine lv_iload_n hx hb dJ6_bitCount_0f7a4_25 rfl (lv_at hl 0 rfl) ?_
  refine lv_iconst (v := 4) hx hb dJ6_bitCount_0f7a4_26 (by decide) ?_
  refine lv_iushr (v := k_ush y23 4) hx hb dJ6_bitCount_0f7a4_27 rfl ?_
  refine lv_iadd hx hb dJ6_bitCount_0f7a4_28 ?_
  refine lv_ldcw (v := 252645135) hx hb hown (hts _ m_379) dJ6_bitCount_0f7a4_29 ?_
  refine lv_iand hx hb dJ6_bitCount_0f7a4_32 ?_
  refine lv_istore_n (lv' := [(0, .int ((y23 + (k_ush y23 4)) &&& 252645135))]) hx hb dJ6_bitCount_0f7a4_33 rfl hl (by decide) rfl (fun ls hl => ?_)
  refine lv_iload_n hx hb dJ6_bitCount_0f7a4_34 rfl (lv_at hl 0 rfl) ?_
  refine lv_iload_n hx hb dJ6_bitCount_0f7a4_35 rfl (lv_at hl 0 rfl) ?_
  refine lv_bipush (v := 8) hx hb dJ6_bitCount_0f7a4_36 (by decide) ?_
  refine lv_iushr (v := k_ush ((y23 + (k_ush y23 4)) &&& 252645135) 8) hx hb dJ6_bitCount_0f7a4_38 rfl ?_
  refine lv_iadd hx hb dJ6_bitCount_0f7a4_39 ?_
  refine lv_topi (fun y40 ey40 => ?_)
  replace hf := k_let_at ey40 hf
  refine lv_istore_n (lv' := [(0, .int y40)]) hx hb dJ6_bitCount_0f7a4_40 rfl hl (by decide) rfl (fun ls hl => ?_)
  refine lv_iload_n hx hb dJ6_bitCount_0f7a4_41 rfl (lv_at hl 0 rfl) ?_
  refine lv_iload_n hx hb dJ6_bitCount_0f7a4_42 rfl (lv_at hl 0 rfl) ?_
  refine lv_bipush (v := 16) hx hb dJ6_bitCount_0f7a4_43 (by decide) ?_
  refine lv_iushr (v := k_ush y40 16) hx hb dJ6_bitCount_0f7a4_45 rfl ?_
  refine lv_iadd hx hb dJ6_bitCount_0f7a4_46 ?_
  refine lv_istore_n (lv' := [(0, .int (y40 + (k_ush y40 16)))]) hx hb dJ6_bitCount_0f7a4_47 rfl hl (by decide) rfl (fun ls hl => ?_)
  refine lv_iload_n hx hb dJ6_bitCount_0f7a4_48 rfl (lv_at hl 0 rfl) ?_
  refine lv_bipush (v := 63) hx hb dJ6_bitCount_0f7a4_49 (by decide) ?_
  refine lv_iand hx hb dJ6_bitCount_0f7a4_51 ?_
  subst hf
  exact k_iret hx hb hr hlocks hAe hS hP hD dJ6_bitCount_0f7a4_52
set_option maxHeartbeats 4000000 in
set_option maxRecDepth 100000 in
theorem k_X8_isType (l : Launch) (D : va_G) (cB cI cJ cZ : ClassId) (tL tK : Nat) (sz : Nat)  (x1 : Int32) (x2 : Int32) (q : Int32) (hf : f_X8_isType x1 x2 = q) : Met l yX8_isType (.code yX8_isType cX8_isType 2 (some .boolean) :: k_all) { frames := 0, cells := 0, slots := 0, locals := 0 } (k_P D cB cI cJ cZ tL tK [.int x1, .int x2] [] sz) (k_I D q [] [] sz) 0 0 (va_A [] sz) := by
  unfold f_X8_isType at hf
  refine k_met RX8 rfl (by decide +kernel) (Nat.le_of_ble_eq_true rfl) ?_
  intro p e s m below meth c A ls hx hb hr hml hown hts hlocks hin hsz hAe hA hK hN hZ hD hS hP hl
  have hl : lv_has ls 2 [(0, .int x1), (1, .int x2)] := hl
  refine lv_iload_n hx hb dX8_isType_0 rfl (lv_at hl 1 rfl) ?_
  refine lv_if_eq (tgt := 19) hx hb dX8_isType_1 (by decide) (fun c1 => ?_) (fun c1 => ?_)
  · replace hf := k_ifT c1 hf
    refine lv_iconst (v := 1) hx hb dX8_isType_19 (by decide) ?_
    refine lv_goto (tgt := 24) hx hb dX8_isType_20 (by decide) ?_
    subst hf
    exact k_zret (r := 1) hx hb hr rfl hlocks hAe hS hP hD dX8_isType_24
  · replace hf := k_ifF c1 hf
    refine lv_iload_n hx hb dX8_isType_4 rfl (lv_at hl 1 rfl) ?_
    refine lv_iload_n hx hb dX8_isType_5 rfl (lv_at hl 0 rfl) ?_
    refine lv_icmp_eq (tgt := 19) hx hb dX8_isType_6 (by decide) (fun c6 => ?_) (fun c6 => ?_)
    · replace hf := k_ifT c6 hf
      refine lv_iconst (v := 1) hx hb dX8_isType_19 (by decide) ?_
      refine lv_goto (tgt := 24) hx hb dX8_isType_20 (by decide) ?_
      subst hf
      exact k_zret (r := 1) hx hb hr rfl hlocks hAe hS hP hD dX8_isType_24
    · replace hf := k_ifF c6 hf
      refine lv_iload_n hx hb dX8_isType_9 rfl (lv_at hl 0 rfl) ?_
      refine lv_iconst (v := 2) hx hb dX8_isType_10 (by decide) ?_
      refine lv_icmp_ne (tgt := 23) hx hb dX8_isType_11 (by decide) (fun c11 => ?_) (fun c11 => ?_)
      · replace hf := k_ifF c11 hf
        refine lv_iconst (v := 0) hx hb dX8_isType_23 (by decide) ?_
        subst hf
        exact k_zret (r := 0) hx hb hr rfl hlocks hAe hS hP hD dX8_isType_24
      · replace hf := k_ifT c11 hf
        refine lv_iload_n hx hb dX8_isType_14 rfl (lv_at hl 1 rfl) ?_
        refine lv_iconst (v := 1) hx hb dX8_isType_15 (by decide) ?_
        refine lv_icmp_ne (tgt := 23) hx hb dX8_isType_16 (by decide) (fun c16 => ?_) (fun c16 => ?_)
        · replace hf := k_ifF c16 hf
          refine lv_iconst (v := 0) hx hb dX8_isType_23 (by decide) ?_
          subst hf
          exact k_zret (r := 0) hx hb hr rfl hlocks hAe hS hP hD dX8_isType_24
        · replace hf := k_ifT c16 hf
          refine lv_iconst (v := 1) hx hb dX8_isType_19 (by decide) ?_
          refine lv_goto (tgt := 24) hx hb dX8_isType_20 (by decide) ?_
          subst hf
          exact k_zret (r := 1) hx hb hr rfl hlocks hAe hS hP hD dX8_isType_24
set_option maxHeartbeats 4000000 in
set_option maxRecDepth 100000 in
theorem k_X4_kindsWith (l : Launch) (D : va_G) (cB cI cJ cZ : ClassId) (tL tK : Nat) (sz : Nat)  (x1 : Int32) (q : Int32) (hf : f_X4_kindsWith x1 = some q) : Met l yX4_kindsWith (.code yX4_kindsWith cX4_kindsWith 1 (some .int) :: k_all) { frames := 1, cells := 0, slots := 0, locals := 21 } (k_P D cB cI cJ cZ tL tK [.int x1] [] sz) (k_I D q [] [] sz) 0 0 (va_A [] sz) := by
  unfold f_X4_kindsWith at hf
  refine k_met RX4 rfl (by decide +kernel) (Nat.le_of_ble_eq_true rfl) ?_
  intro p e s m below meth c A ls hx hb hr hml hown hts hlocks hin hsz hAe hA hK hN hZ hD hS hP hl
  have hl : lv_has ls 1 [(0, .int x1)] := hl
  refine lv_iload_n hx hb dX4_kindsWith_0 rfl (lv_at hl 0 rfl) ?_
  refine va_gets hx hb hZ.2.2.1 hS hown (hts _ m_885) (fun _ h9 => h9) dX4_kindsWith_1 ?_
  refine va_tlen (v := 4) hx hb hZ.2.2.2 hS rfl dX4_kindsWith_4 ?_
  refine k_calli (wN := []) [] [] [] hP hD hS hA (va_runSN (As := [.int x1, .int 4]) (rest := []) ⟨hx, hb, hml, hown, hts⟩ (k_X8_isBelow l D cB cI cJ cZ tL tK _ x1 4 (f_X8_isBelow x1 4) rfl) ⟨va_cnB 2 hts (k_gB m_112) rfl rfl rfl (hN.1 _ (List.mem_of_getElem? (i := 17) rfl)) (hts _ m_2) (by decide +kernel) ⟨Nat.le_of_ble_eq_true rfl, Nat.le_of_ble_eq_true rfl⟩, (hts _ m_111), trivial⟩ (k_preS [] hK hN hZ hP hD hS hA rfl rfl) rfl rfl hl.1 rfl (lv_room (Nat.le_of_ble_eq_true rfl)) dX4_kindsWith_5 ⟨Nat.le_refl _, Nat.le_refl _⟩) rfl rfl rfl rfl rfl (fun H locs hP hD hS => ?_)
  refine lv_if_eq (tgt := 19) hx hb dX4_kindsWith_8 (by decide) (fun c8 => ?_) (fun c8 => ?_)
  · replace hf := k_ifT c8 hf
    refine lv_iconst (v := 0) hx hb dX4_kindsWith_19 (by decide) ?_
    cases hf
    exact k_iret hx hb hr hlocks hAe hS hP hD dX4_kindsWith_20
  · replace hf := k_ifF c8 hf
    refine va_gets hx hb hZ.2.2.1 hS hown (hts _ m_885) (fun _ h9 => h9) dX4_kindsWith_11 ?_
    refine lv_iload_n hx hb dX4_kindsWith_14 rfl (lv_at hl 0 rfl) ?_
    obtain ⟨hi15, hf⟩ := k_chk_some hf
    refine va_ti (v := .int (k_kinds (Int32.toNatClampNeg x1))) hx hb hZ.2.2.2 hS hi15 rfl dX4_kindsWith_15 ?_
    refine lv_goto (tgt := 20) hx hb dX4_kindsWith_16 (by decide) ?_
    cases hf
    exact k_iret hx hb hr hlocks hAe hS hP hD dX4_kindsWith_20
set_option maxHeartbeats 4000000 in
set_option maxRecDepth 100000 in
theorem k_X4_note (l : Launch) (D : va_G) (cB cI cJ cZ : ClassId) (tL tK : Nat) (h_this : Nat) (sz : Nat) (v_number : Int32) (v_possible : Int32) (x1 : Int32) (x2 : Int32) (q : Int32 × Int32) (hf : f_X4_note v_number v_possible x1 x2 = some q) : Met l yX4_note (.code yX4_note cX4_note 3 none :: k_all) { frames := 2, cells := 0, slots := 0, locals := 41 } (k_P D cB cI cJ cZ tL tK [.ref h_this, .int x1, .int x2] [(h_this, o_X4 v_number v_possible)] sz) (k_V D [(h_this, o_X4 v_number v_possible)] [(h_this, o_X4 q.1 q.2)] sz) 0 0 (va_A [(h_this, o_X4 v_number v_possible)] sz) := by
  unfold f_X4_note at hf
  refine k_met RX4 rfl (by decide +kernel) (Nat.le_of_ble_eq_true rfl) ?_
  intro p e s m below meth c A ls hx hb hr hml hown hts hlocks hin hsz hAe hA hK hN hZ hD hS hP hl
  have hl : lv_has ls 3 [(0, .ref h_this), (1, .int x1), (2, .int x2)] := hl
  refine lv_aload_n hx hb dX4_note_0 rfl (lv_at hl 0 rfl) ?_
  refine lv_dup hx hb dX4_note_1 rfl ?_
  refine va_get (D := D) (ci := 4) (v := .int v_number) (C := RX4) (T := TX4) (N := 2) hx hb hts inlX4 hown hK hP 0 rfl rfl 0 (by decide) (hts _ m_313) (fun _ h9 => h9) rfl dX4_note_2 ?_
  refine lv_iconst (v := 1) hx hb dX4_note_5 (by decide) ?_
  refine lv_iadd hx hb dX4_note_6 ?_
  refine va_put (D := D) (ci := 4) (v := .int (v_number + 1)) (ty := .int) (C := RX4) (T := TX4) (N := 2) hx hb hts inlX4 tyX4 tyX4_ok nmX4 hown hK hP hD hS 0 rfl rfl 0 (by decide) (hts _ m_313) (fun _ h9 => h9) rfl (by decide +kernel) rfl rfl (Nat.le_of_ble_eq_true rfl) dX4_note_7 (fun H locs hP hD hS => ?_)
  have hP : va_P D vwCl [(h_this, o_X4 (v_number + 1) v_possible)] H := hP
  have hD : va_D A [(h_this, o_X4 (v_number + 1) v_possible)] := hD
  refine lv_aload_n hx hb dX4_note_10 rfl (lv_at hl 0 rfl) ?_
  refine lv_dup hx hb dX4_note_11 rfl ?_
  refine va_get (D := D) (ci := 4) (v := .int v_possible) (C := RX4) (T := TX4) (N := 2) hx hb hts inlX4 hown hK hP 0 rfl rfl 1 (by decide) (hts _ m_69) (fun _ h9 => h9) rfl dX4_note_12 ?_
  refine lv_iload_n hx hb dX4_note_15 rfl (lv_at hl 2 rfl) ?_
  refine lv_if_eq (tgt := 26) hx hb dX4_note_16 (by decide) (fun c16 => ?_) (fun c16 => ?_)
  · replace hf := k_ifT c16 hf
    refine lv_iload_n hx hb dX4_note_26 rfl (lv_at hl 1 rfl) ?_
    obtain ⟨q27, hq27, hf⟩ := k_bind hf
    refine k_calli (wN := [(h_this, o_X4 (v_number + 1) v_possible)]) [] [0] [0] hP hD hS hA (va_runS (As := [.int x1]) (rest := [.int v_possible, .ref h_this]) ⟨hx, hb, hml, hown, hts⟩ (k_X4_kindsWith l D cB cI cJ cZ tL tK _ x1 q27 hq27) (va_cwS 1 hts (k_gS m_884 m_882 m_883 m_34) rfl rfl rfl (by decide +kernel) ⟨Nat.le_of_ble_eq_true rfl, Nat.le_of_ble_eq_true rfl⟩) (k_preS [] hK hN hZ hP hD hS hA rfl rfl) rfl rfl hl.1 rfl (lv_room (Nat.le_of_ble_eq_true rfl)) dX4_note_27 ⟨Nat.le_refl _, Nat.le_refl _⟩) rfl rfl rfl rfl rfl (fun H locs hP hD hS => ?_)
    refine lv_iconst (v := (-1)) hx hb dX4_note_30 (by decide) ?_
    refine lv_ixor hx hb dX4_note_31 ?_
    refine lv_iand hx hb dX4_note_32 ?_
    refine va_put (D := D) (ci := 4) (v := .int (v_possible &&& (q27 ^^^ (-1)))) (ty := .int) (C := RX4) (T := TX4) (N := 2) hx hb hts inlX4 tyX4 tyX4_ok nmX4 hown hK hP hD hS 0 rfl rfl 1 (by decide) (hts _ m_69) (fun _ h9 => h9) rfl (by decide +kernel) rfl rfl (Nat.le_of_ble_eq_true rfl) dX4_note_33 (fun H locs hP hD hS => ?_)
    have hP : va_P D vwCl [(h_this, o_X4 (v_number + 1) (v_possible &&& (q27 ^^^ (-1))))] H := hP
    have hD : va_D A [(h_this, o_X4 (v_number + 1) (v_possible &&& (q27 ^^^ (-1))))] := hD
    cases hf
    exact k_vret hx hb hr hlocks hAe hS hP hD dX4_note_36
  · replace hf := k_ifF c16 hf
    refine lv_iload_n hx hb dX4_note_19 rfl (lv_at hl 1 rfl) ?_
    obtain ⟨q20, hq20, hf⟩ := k_bind hf
    refine k_calli (wN := [(h_this, o_X4 (v_number + 1) v_possible)]) [] [0] [0] hP hD hS hA (va_runS (As := [.int x1]) (rest := [.int v_possible, .ref h_this]) ⟨hx, hb, hml, hown, hts⟩ (k_X4_kindsWith l D cB cI cJ cZ tL tK _ x1 q20 hq20) (va_cwS 1 hts (k_gS m_884 m_882 m_883 m_34) rfl rfl rfl (by decide +kernel) ⟨Nat.le_of_ble_eq_true rfl, Nat.le_of_ble_eq_true rfl⟩) (k_preS [] hK hN hZ hP hD hS hA rfl rfl) rfl rfl hl.1 rfl (lv_room (Nat.le_of_ble_eq_true rfl)) dX4_note_20 ⟨Nat.le_refl _, Nat.le_refl _⟩) rfl rfl rfl rfl rfl (fun H locs hP hD hS => ?_)
    refine lv_goto (tgt := 32) hx hb dX4_note_23 (by decide) ?_
    refine lv_iand hx hb dX4_note_32 ?_
    refine va_put (D := D) (ci := 4) (v := .int (v_possible &&& q20)) (ty := .int) (C := RX4) (T := TX4) (N := 2) hx hb hts inlX4 tyX4 tyX4_ok nmX4 hown hK hP hD hS 0 rfl rfl 1 (by decide) (hts _ m_69) (fun _ h9 => h9) rfl (by decide +kernel) rfl rfl (Nat.le_of_ble_eq_true rfl) dX4_note_33 (fun H locs hP hD hS => ?_)
    have hP : va_P D vwCl [(h_this, o_X4 (v_number + 1) (v_possible &&& q20))] H := hP
    have hD : va_D A [(h_this, o_X4 (v_number + 1) (v_possible &&& q20))] := hD
    cases hf
    exact k_vret hx hb hr hlocks hAe hS hP hD dX4_note_36
set_option maxHeartbeats 4000000 in
set_option maxRecDepth 100000 in
theorem k_X4_leftAtWorst (l : Launch) (D : va_G) (cB cI cJ cZ : ClassId) (tL tK : Nat) (h_this : Nat) (sz : Nat) (v_number : Int32) (v_possible : Int32) (x1 : Int32) (q : Int32) (hf : f_X4_leftAtWorst v_possible x1 = some q) : Met l yX4_leftAtWorst (.code yX4_leftAtWorst cX4_leftAtWorst 3 (some .int) :: k_all) { frames := 2, cells := 0, slots := 0, locals := 41 } (k_P D cB cI cJ cZ tL tK [.ref h_this, .int x1] [(h_this, o_X4 v_number v_possible)] sz) (k_I D q [(h_this, o_X4 v_number v_possible)] [(h_this, o_X4 v_number v_possible)] sz) 0 0 (va_A [(h_this, o_X4 v_number v_possible)] sz) := by
  unfold f_X4_leftAtWorst at hf
  refine k_met RX4 rfl (by decide +kernel) (Nat.le_of_ble_eq_true rfl) ?_
  intro p e s m below meth c A ls hx hb hr hml hown hts hlocks hin hsz hAe hA hK hN hZ hD hS hP hl
  have hl : lv_has ls 3 [(0, .ref h_this), (1, .int x1)] := hl
  refine lv_aload_n hx hb dX4_leftAtWorst_0 rfl (lv_at hl 0 rfl) ?_
  refine va_get (D := D) (ci := 4) (v := .int v_possible) (C := RX4) (T := TX4) (N := 2) hx hb hts inlX4 hown hK hP 0 rfl rfl 1 (by decide) (hts _ m_69) (fun _ h9 => h9) rfl dX4_leftAtWorst_1 ?_
  refine lv_iload_n hx hb dX4_leftAtWorst_4 rfl (lv_at hl 1 rfl) ?_
  obtain ⟨q5, hq5, hf⟩ := k_bind hf
  refine k_calli (wN := [(h_this, o_X4 v_number v_possible)]) [] [0] [0] hP hD hS hA (va_runS (As := [.int x1]) (rest := [.int v_possible]) ⟨hx, hb, hml, hown, hts⟩ (k_X4_kindsWith l D cB cI cJ cZ tL tK _ x1 q5 hq5) (va_cwS 1 hts (k_gS m_884 m_882 m_883 m_34) rfl rfl rfl (by decide +kernel) ⟨Nat.le_of_ble_eq_true rfl, Nat.le_of_ble_eq_true rfl⟩) (k_preS [] hK hN hZ hP hD hS hA rfl rfl) rfl rfl hl.1 rfl (lv_room (Nat.le_of_ble_eq_true rfl)) dX4_leftAtWorst_5 ⟨Nat.le_refl _, Nat.le_refl _⟩) rfl rfl rfl rfl rfl (fun H locs hP hD hS => ?_)
  refine lv_iand hx hb dX4_leftAtWorst_8 ?_
  refine k_calli (wN := [(h_this, o_X4 v_number v_possible)]) [] [0] [0] hP hD hS hA (va_runS (As := [.int (v_possible &&& q5)]) (rest := []) ⟨hx, hb, hml, hown, hts⟩ (k_J6_bitCount_0f7a4 l D cB cI cJ cZ tL tK _ (v_possible &&& q5) (f_J6_bitCount_0f7a4 (v_possible &&& q5)) rfl) (va_cwS 1 hts (k_gS m_376 m_915 m_374 m_375) rfl rfl rfl (by decide +kernel) ⟨Nat.le_of_ble_eq_true rfl, Nat.le_of_ble_eq_true rfl⟩) (k_preS [] hK hN hZ hP hD hS hA rfl rfl) rfl rfl hl.1 rfl (lv_room (Nat.le_of_ble_eq_true rfl)) dX4_leftAtWorst_9 ⟨Nat.le_refl _, Nat.le_refl _⟩) rfl rfl rfl rfl rfl (fun H locs hP hD hS => ?_)
  refine lv_istore_n (lv' := [(2, .int (f_J6_bitCount_0f7a4 (v_possible &&& q5))), (0, .ref h_this), (1, .int x1)]) hx hb dX4_leftAtWorst_12 rfl hl (by decide) rfl (fun ls hl => ?_)
  refine lv_iload_n hx hb dX4_leftAtWorst_13 rfl (lv_at hl 0 rfl) ?_
  refine lv_aload_n hx hb dX4_leftAtWorst_14 rfl (lv_at hl 1 rfl) ?_
  refine va_get (D := D) (ci := 4) (v := .int v_possible) (C := RX4) (T := TX4) (N := 2) hx hb hts inlX4 hown hK hP 0 rfl rfl 1 (by decide) (hts _ m_69) (fun _ h9 => h9) rfl dX4_leftAtWorst_15 ?_
  refine k_calli (wN := [(h_this, o_X4 v_number v_possible)]) [] [0] [0] hP hD hS hA (va_runS (As := [.int v_possible]) (rest := [.int (f_J6_bitCount_0f7a4 (v_possible &&& q5))]) ⟨hx, hb, hml, hown, hts⟩ (k_J6_bitCount_0f7a4 l D cB cI cJ cZ tL tK _ v_possible (f_J6_bitCount_0f7a4 v_possible) rfl) (va_cwS 1 hts (k_gS m_376 m_915 m_374 m_375) rfl rfl rfl (by decide +kernel) ⟨Nat.le_of_ble_eq_true rfl, Nat.le_of_ble_eq_true rfl⟩) (k_preS [] hK hN hZ hP hD hS hA rfl rfl) rfl rfl hl.1 rfl (lv_room (Nat.le_of_ble_eq_true rfl)) dX4_leftAtWorst_18 ⟨Nat.le_refl _, Nat.le_refl _⟩) rfl rfl rfl rfl rfl (fun H locs hP hD hS => ?_)
  refine lv_iload_n hx hb dX4_leftAtWorst_21 rfl (lv_at hl 0 rfl) ?_
  refine lv_isub hx hb dX4_leftAtWorst_22 ?_
  refine va_mmax hx hb (hml.trans hl.1.symm) hown (hts _ m_911) (hts _ m_912) (hts _ m_913) (hts _ m_914) (Nat.le_of_ble_eq_true rfl) (Nat.le_of_ble_eq_true rfl) (Nat.le_refl _) (Nat.le_refl _) dX4_leftAtWorst_23 ?_
  cases hf
  exact k_iret hx hb hr hlocks hAe hS hP hD dX4_leftAtWorst_26
set_option maxHeartbeats 4000000 in
set_option maxRecDepth 100000 in
theorem k_X4_bestQuestion (l : Launch) (D : va_G) (cB cI cJ cZ : ClassId) (tL tK : Nat) (h_this : Nat) (sz : Nat) (v_number : Int32) (v_possible : Int32)  (q : Int32) (hf : f_X4_bestQuestion v_possible = some q) : Met l yX4_bestQuestion (.code yX4_bestQuestion cX4_bestQuestion 4 (some .int) :: k_all) { frames := 3, cells := 0, slots := 0, locals := 63 } (k_P D cB cI cJ cZ tL tK [.ref h_this] [(h_this, o_X4 v_number v_possible)] sz) (k_I D q [(h_this, o_X4 v_number v_possible)] [(h_this, o_X4 v_number v_possible)] sz) 0 0 (va_A [(h_this, o_X4 v_number v_possible)] sz) := by
  unfold f_X4_bestQuestion at hf
  refine k_met RX4 rfl (by decide +kernel) (Nat.le_of_ble_eq_true rfl) ?_
  intro p e s m below meth c A ls hx hb hr hml hown hts hlocks hin hsz hAe hA hK hN hZ hD hS hP hl
  have hl : lv_has ls 4 [(0, .ref h_this)] := hl
  refine lv_iconst (v := (-1)) hx hb dX4_bestQuestion_0 (by decide) ?_
  refine lv_istore_n (lv' := [(1, .int (-1)), (0, .ref h_this)]) hx hb dX4_bestQuestion_1 rfl hl (by decide) rfl (fun ls hl => ?_)
  refine lv_aload_n hx hb dX4_bestQuestion_2 rfl (lv_at hl 1 rfl) ?_
  refine va_get (D := D) (ci := 4) (v := .int v_possible) (C := RX4) (T := TX4) (N := 2) hx hb hts inlX4 hown hK hP 0 rfl rfl 1 (by decide) (hts _ m_69) (fun _ h9 => h9) rfl dX4_bestQuestion_3 ?_
  refine k_jn (D := D) (A := A) (nL := 4) hf (fun (j6 : Int32) => [(h_this, o_X4 v_number v_possible)]) (fun (j6 : Int32) => [(0, .ref h_this), (1, .int (-1))]) (fun (j6 : Int32) => [.int j6]) 15 ?_ ?_
  · intro j6 H locs ls hf hP hD hS hl
    have hP : va_P D vwCl [(h_this, o_X4 v_number v_possible)] H := hP
    have hD : va_D A [(h_this, o_X4 v_number v_possible)] := hD
    have hl : lv_has ls 4 [(0, .ref h_this), (1, .int (-1))] := hl
    show W p l e _ s m _ below meth c H locs _ _ _ (F0 m 15 ls [.int j6])
    refine lv_istore_n (lv' := [(2, .int j6), (0, .ref h_this), (1, .int (-1))]) hx hb dX4_bestQuestion_15 rfl hl (by decide) rfl (fun ls hl => ?_)
    refine lv_iconst (v := 0) hx hb dX4_bestQuestion_16 (by decide) ?_
    refine lv_istore_n (lv' := [(3, .int 0), (2, .int j6), (0, .ref h_this), (1, .int (-1))]) hx hb dX4_bestQuestion_17 rfl hl (by decide) rfl (fun ls hl => ?_)
    refine k_wl 46 (wsf := fun (a18 : Int32 × Int32 × Int32) => [(h_this, o_X4 v_number v_possible)]) (lvf := fun (a18 : Int32 × Int32 × Int32) => [(0, .ref h_this), (1, .int a18.1), (2, .int a18.2.1), (3, .int a18.2.2)]) hf hP hD hS (lv_sub hl [2, 3, 1, 0] rfl) ?_ ?_
    · intro a18 H locs ls hf hP hD hS hl
      have hP : va_P D vwCl [(h_this, o_X4 v_number v_possible)] H := hP
      have hD : va_D A [(h_this, o_X4 v_number v_possible)] := hD
      have hl : lv_has ls 4 [(0, .ref h_this), (1, .int a18.1), (2, .int a18.2.1), (3, .int a18.2.2)] := hl
      refine lv_iload_n hx hb dX4_bestQuestion_46 rfl (lv_at hl 1 rfl) ?_
      cases hf
      exact k_iret hx hb hr hlocks hAe hS hP hD dX4_bestQuestion_47
    · intro ex18 rc18 hE18 hR18 a18 H locs ls hf hP hD hS hl
      have hP : va_P D vwCl [(h_this, o_X4 v_number v_possible)] H := hP
      have hD : va_D A [(h_this, o_X4 v_number v_possible)] := hD
      have hl : lv_has ls 4 [(0, .ref h_this), (1, .int a18.1), (2, .int a18.2.1), (3, .int a18.2.2)] := hl
      refine lv_iload_n hx hb dX4_bestQuestion_18 rfl (lv_at hl 3 rfl) ?_
      refine lv_iconst (v := 4) hx hb dX4_bestQuestion_19 (by decide) ?_
      refine lv_icmp_ge (tgt := 46) hx hb dX4_bestQuestion_20 (by decide) (fun c20 => ?_) (fun c20 => ?_)
      · replace hf := k_ifT c20 hf
        exact hE18 _ _ _ _ hf hP hD hS (lv_sub hl [0, 1, 2, 3] rfl)
      · replace hf := k_ifF c20 hf
        refine lv_aload_n hx hb dX4_bestQuestion_23 rfl (lv_at hl 0 rfl) ?_
        refine lv_iload_n hx hb dX4_bestQuestion_24 rfl (lv_at hl 3 rfl) ?_
        obtain ⟨q25, hq25, hf⟩ := k_bind hf
        refine k_calli (wN := [(h_this, o_X4 v_number v_possible)]) [0] [] [0] hP hD hS hA (va_runV (As := [.int a18.2.2]) (rest := []) ⟨hx, hb, hml, hown, hts⟩ (k_X4_leftAtWorst l D cB cI cJ cZ tL tK h_this _ v_number v_possible a18.2.2 q25 hq25) (cwV 1 hts (k_gV m_910 m_907 m_908 m_909 m_34) rfl rfl rfl (by decide +kernel) ⟨Nat.le_of_ble_eq_true rfl, Nat.le_of_ble_eq_true rfl⟩) (k_preV [0] hK hN hZ hP hD hS hA rfl rfl (va_recv hK hP (ci := 4) (q0 := 0) rfl rfl)) rfl rfl hl.1 rfl (lv_room (Nat.le_of_ble_eq_true rfl)) dX4_bestQuestion_25 ⟨Nat.le_refl _, Nat.le_refl _⟩) rfl rfl rfl rfl rfl (fun H locs hP hD hS => ?_)
        refine lv_iload_n hx hb dX4_bestQuestion_28 rfl (lv_at hl 2 rfl) ?_
        refine lv_icmp_ge (tgt := 40) hx hb dX4_bestQuestion_29 (by decide) (fun c29 => ?_) (fun c29 => ?_)
        · replace hf := k_ifT c29 hf
          refine lv_iinc (v := (a18.2.2 + 1)) (lv' := [(3, .int (a18.2.2 + 1)), (0, .ref h_this), (1, .int a18.1), (2, .int a18.2.1)]) hx hb dX4_bestQuestion_40 hl (k := 3) rfl rfl (by decide) rfl (fun ls hl => ?_)
          refine lv_goto (tgt := 18) hx hb dX4_bestQuestion_43 (by decide) ?_
          exact hR18 _ _ _ _ hf hP hD hS (lv_sub hl [1, 2, 3, 0] rfl)
        · replace hf := k_ifF c29 hf
          refine lv_aload_n hx hb dX4_bestQuestion_32 rfl (lv_at hl 0 rfl) ?_
          refine lv_iload_n hx hb dX4_bestQuestion_33 rfl (lv_at hl 3 rfl) ?_
          obtain ⟨q34, hq34, hf⟩ := k_bind hf
          refine k_calli (wN := [(h_this, o_X4 v_number v_possible)]) [0] [] [0] hP hD hS hA (va_runV (As := [.int a18.2.2]) (rest := []) ⟨hx, hb, hml, hown, hts⟩ (k_X4_leftAtWorst l D cB cI cJ cZ tL tK h_this _ v_number v_possible a18.2.2 q34 hq34) (cwV 1 hts (k_gV m_910 m_907 m_908 m_909 m_34) rfl rfl rfl (by decide +kernel) ⟨Nat.le_of_ble_eq_true rfl, Nat.le_of_ble_eq_true rfl⟩) (k_preV [0] hK hN hZ hP hD hS hA rfl rfl (va_recv hK hP (ci := 4) (q0 := 0) rfl rfl)) rfl rfl hl.1 rfl (lv_room (Nat.le_of_ble_eq_true rfl)) dX4_bestQuestion_34 ⟨Nat.le_refl _, Nat.le_refl _⟩) rfl rfl rfl rfl rfl (fun H locs hP hD hS => ?_)
          refine lv_istore_n (lv' := [(2, .int q34), (0, .ref h_this), (1, .int a18.1), (3, .int a18.2.2)]) hx hb dX4_bestQuestion_37 rfl hl (by decide) rfl (fun ls hl => ?_)
          refine lv_iload_n hx hb dX4_bestQuestion_38 rfl (lv_at hl 3 rfl) ?_
          refine lv_istore_n (lv' := [(1, .int a18.2.2), (2, .int q34), (0, .ref h_this), (3, .int a18.2.2)]) hx hb dX4_bestQuestion_39 rfl hl (by decide) rfl (fun ls hl => ?_)
          refine lv_iinc (v := (a18.2.2 + 1)) (lv' := [(3, .int (a18.2.2 + 1)), (1, .int a18.2.2), (2, .int q34), (0, .ref h_this)]) hx hb dX4_bestQuestion_40 hl (k := 3) rfl rfl (by decide) rfl (fun ls hl => ?_)
          refine lv_goto (tgt := 18) hx hb dX4_bestQuestion_43 (by decide) ?_
          exact hR18 _ _ _ _ hf hP hD hS (lv_sub hl [3, 1, 2, 0] rfl)
  · intro j6 hf hj6
    refine lv_if_ne (tgt := 13) hx hb dX4_bestQuestion_6 (by decide) (fun c6 => ?_) (fun c6 => ?_)
    · replace hf := k_ifF c6 hf
      refine lv_bipush (v := 6) hx hb dX4_bestQuestion_13 (by decide) ?_
      cases hf
      exact hj6 _ _ _ hP hD hS (lv_sub hl [1, 0] rfl)
    · replace hf := k_ifT c6 hf
      refine lv_iconst (v := 0) hx hb dX4_bestQuestion_9 (by decide) ?_
      refine lv_goto (tgt := 15) hx hb dX4_bestQuestion_10 (by decide) ?_
      cases hf
      exact hj6 _ _ _ hP hD hS (lv_sub hl [1, 0] rfl)
set_option maxHeartbeats 4000000 in
set_option maxRecDepth 100000 in
theorem k_X4_copy (l : Launch) (D : va_G) (cB cI cJ cZ : ClassId) (tL tK : Nat) (h_this h_x1 : Nat) (sz : Nat) (v_number : Int32) (v_possible : Int32) (v_x1_number : Int32) (v_x1_possible : Int32)  (q : Int32 × Int32) (hf : f_X4_copy v_number v_possible v_x1_number v_x1_possible = q) : Met l yX4_copy (.code yX4_copy cX4_copy 2 none :: k_all) { frames := 0, cells := 0, slots := 0, locals := 0 } (k_P D cB cI cJ cZ tL tK [.ref h_this, .ref h_x1] [(h_this, o_X4 v_number v_possible), (h_x1, o_X4 v_x1_number v_x1_possible)] sz) (k_V D [(h_this, o_X4 v_number v_possible), (h_x1, o_X4 v_x1_number v_x1_possible)] [(h_this, o_X4 q.1 q.2), (h_x1, o_X4 v_x1_number v_x1_possible)] sz) 0 0 (va_A [(h_this, o_X4 v_number v_possible), (h_x1, o_X4 v_x1_number v_x1_possible)] sz) := by
  unfold f_X4_copy at hf
  refine k_met RX4 rfl (by decide +kernel) (Nat.le_of_ble_eq_true rfl) ?_
  intro p e s m below meth c A ls hx hb hr hml hown hts hlocks hin hsz hAe hA hK hN hZ hD hS hP hl
  have hl : lv_has ls 2 [(0, .ref h_this), (1, .ref h_x1)] := hl
  refine lv_aload_n hx hb dX4_copy_0 rfl (lv_at hl 0 rfl) ?_
  refine lv_aload_n hx hb dX4_copy_1 rfl (lv_at hl 1 rfl) ?_
  refine va_get (D := D) (ci := 4) (v := .int v_x1_number) (C := RX4) (T := TX4) (N := 2) hx hb hts inlX4 hown hK hP 1 rfl rfl 0 (by decide) (hts _ m_313) (fun _ h9 => h9) rfl dX4_copy_2 ?_
  refine va_put (D := D) (ci := 4) (v := .int v_x1_number) (ty := .int) (C := RX4) (T := TX4) (N := 2) hx hb hts inlX4 tyX4 tyX4_ok nmX4 hown hK hP hD hS 0 rfl rfl 0 (by decide) (hts _ m_313) (fun _ h9 => h9) rfl (by decide +kernel) rfl rfl (Nat.le_of_ble_eq_true rfl) dX4_copy_5 (fun H locs hP hD hS => ?_)
  have hP : va_P D vwCl [(h_this, o_X4 v_x1_number v_possible), (h_x1, o_X4 v_x1_number v_x1_possible)] H := hP
  have hD : va_D A [(h_this, o_X4 v_x1_number v_possible), (h_x1, o_X4 v_x1_number v_x1_possible)] := hD
  refine lv_aload_n hx hb dX4_copy_8 rfl (lv_at hl 0 rfl) ?_
  refine lv_aload_n hx hb dX4_copy_9 rfl (lv_at hl 1 rfl) ?_
  refine va_get (D := D) (ci := 4) (v := .int v_x1_possible) (C := RX4) (T := TX4) (N := 2) hx hb hts inlX4 hown hK hP 1 rfl rfl 1 (by decide) (hts _ m_69) (fun _ h9 => h9) rfl dX4_copy_10 ?_
  refine va_put (D := D) (ci := 4) (v := .int v_x1_possible) (ty := .int) (C := RX4) (T := TX4) (N := 2) hx hb hts inlX4 tyX4 tyX4_ok nmX4 hown hK hP hD hS 0 rfl rfl 1 (by decide) (hts _ m_69) (fun _ h9 => h9) rfl (by decide +kernel) rfl rfl (Nat.le_of_ble_eq_true rfl) dX4_copy_13 (fun H locs hP hD hS => ?_)
  have hP : va_P D vwCl [(h_this, o_X4 v_x1_number v_x1_possible), (h_x1, o_X4 v_x1_number v_x1_possible)] H := hP
  have hD : va_D A [(h_this, o_X4 v_x1_number v_x1_possible), (h_x1, o_X4 v_x1_number v_x1_possible)] := hD
  subst hf
  exact k_vret hx hb hr hlocks hAe hS hP hD dX4_copy_16
