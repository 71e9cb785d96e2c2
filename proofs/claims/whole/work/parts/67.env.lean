theorem k_arr {s : State} {args : Array Value} {ty : FieldType} (hn : ∀ C, ty ≠ .object C) (h : (Cond.arrayClass ty).before args s = true) : ∃ c : ClassId, ArrOfT s c ty ∧ va_RA s c ty := by
  obtain ⟨c, k, comp, h1, h2, h3⟩ := Cond.arrayClass_spec h
  refine ⟨c, fun n z => ⟨fun k h => (by cases h), k, h2, comp, h3⟩, ?_⟩
  cases ty with
  | object C => exact absurd rfl (hn C)
  | _ => exact h1
theorem k_nw {s : State} {args : Array Value} (hts : ∀ w ∈ lw_tbl, w.before args s = true) : k_NW s := by
  refine ⟨?_, ?_⟩
  · show ∀ q ∈ [(RX8, 9, yX5_init, "FrameBoard"), (RX8, 18, yX3_init, "FrameBoard"), (RX3, 3, yX6_init, "FrameBoard"), (RX3, 11, yX2_init, "FrameBoard"), (RX8, 25, yX1_init, "FrameBoard"), (RX1, 3, yX6_init, "FrameBoard"), (RX8, 32, yX2_init, "FrameBoard"), (RX8, 39, yX0_init, "FrameBoard"), (RX8, 46, yX4_init, "FrameBoard"), (RX8, 62, yX7_init, "FrameBoard"), (RX5, 19, yX8_isBelow, "FrameBoard"), (RX3, 60, yX8_isBelow, "FrameBoard"), (RX2, 44, yX8_bit, "FrameBoard"), (RX0, 22, yX8_isBelow, "FrameBoard"), (RX2, 78, yX8_lowest, "FrameBoard"), (RX7, 27, yX8_bit, "FrameBoard"), (RX7, 54, yX8_isBelow, "FrameBoard"), (RX4, 26, yX8_isBelow, "FrameBoard")], va_Nw (.methodLinkNest q.1 q.2.1 q.2.2.1 q.2.2.2) s
    exact List.forall_mem_cons.mpr ⟨va_Nw.of rfl (hts _ (k_t1 (List.mem_of_getElem? (i := 24) rfl))), List.forall_mem_cons.mpr ⟨va_Nw.of rfl (hts _ (k_t1 (List.mem_of_getElem? (i := 38) rfl))), List.forall_mem_cons.mpr ⟨va_Nw.of rfl (hts _ (k_t1 (List.mem_of_getElem? (i := 41) rfl))), List.forall_mem_cons.mpr ⟨va_Nw.of rfl (hts _ (k_t1 (List.mem_of_getElem? (i := 47) rfl))), List.forall_mem_cons.mpr ⟨va_Nw.of rfl (hts _ (k_t1 (List.mem_of_getElem? (i := 88) rfl))), List.forall_mem_cons.mpr ⟨va_Nw.of rfl (hts _ (k_t1 (List.mem_of_getElem? (i := 91) rfl))), List.forall_mem_cons.mpr ⟨va_Nw.of rfl (hts _ (k_t1 (List.mem_of_getElem? (i := 100) rfl))), List.forall_mem_cons.mpr ⟨va_Nw.of rfl (hts _ (k_t1 (List.mem_of_getElem? (i := 103) rfl))), List.forall_mem_cons.mpr ⟨va_Nw.of rfl (hts _ (k_t1 (List.mem_of_getElem? (i := 119) rfl))), List.forall_mem_cons.mpr ⟨va_Nw.of rfl (hts _ (k_t1 (List.mem_of_getElem? (i := 134) rfl))), List.forall_mem_cons.mpr ⟨va_Nw.of rfl (hts _ (k_t1 (List.mem_of_getElem? (i := 207) rfl))), List.forall_mem_cons.mpr ⟨va_Nw.of rfl (hts _ (k_t2 (List.mem_of_getElem? (i := 42) rfl))), List.forall_mem_cons.mpr ⟨va_Nw.of rfl (hts _ (k_t2 (List.mem_of_getElem? (i := 66) rfl))), List.forall_mem_cons.mpr ⟨va_Nw.of rfl (hts _ (k_t2 (List.mem_of_getElem? (i := 125) rfl))), List.forall_mem_cons.mpr ⟨va_Nw.of rfl (hts _ (k_t2 (List.mem_of_getElem? (i := 201) rfl))), List.forall_mem_cons.mpr ⟨va_Nw.of rfl (hts _ (k_t3 (List.mem_of_getElem? (i := 5) rfl))), List.forall_mem_cons.mpr ⟨va_Nw.of rfl (hts _ (k_t3 (List.mem_of_getElem? (i := 14) rfl))), List.forall_mem_cons.mpr ⟨va_Nw.of rfl (hts _ (k_t3 (List.mem_of_getElem? (i := 184) rfl))), fun w h => absurd h List.not_mem_nil⟩⟩⟩⟩⟩⟩⟩⟩⟩⟩⟩⟩⟩⟩⟩⟩⟩⟩
  · show ∀ x ∈ ([⟨"FrameBoard$Text", "firstFault", "(LFrameBoard$Page;)I"⟩, ⟨"FrameBoard$Text", "begin", "()V"⟩, ⟨"FrameBoard$Text", "reads", "(I)Z"⟩, ⟨"FrameBoard$Text", "isWhole", "(LFrameBoard$Page;)Z"⟩, ⟨"FrameBoard$Text", "isComplete", "()Z"⟩] : List MethodName), va_Nw (.declares x) s
    exact List.forall_mem_cons.mpr ⟨va_Nw.of rfl (hts _ (k_t1 (List.mem_of_getElem? (i := 225) rfl))), List.forall_mem_cons.mpr ⟨va_Nw.of rfl (hts _ (k_t1 (List.mem_of_getElem? (i := 230) rfl))), List.forall_mem_cons.mpr ⟨va_Nw.of rfl (hts _ (k_t2 (List.mem_of_getElem? (i := 12) rfl))), List.forall_mem_cons.mpr ⟨va_Nw.of rfl (hts _ (k_t2 (List.mem_of_getElem? (i := 82) rfl))), List.forall_mem_cons.mpr ⟨va_Nw.of rfl (hts _ (k_t2 (List.mem_of_getElem? (i := 88) rfl))), fun w h => absurd h List.not_mem_nil⟩⟩⟩⟩⟩
theorem k_st_LANES_OF_BIT {s : State} {args : Array Value} (hts : ∀ w ∈ lw_tbl, w.before args s = true) (hg : (Jvm.Cond.and given_1 narrow_1).before args s = true) : ∃ t : Nat, va_Z "FrameBoard$Truth" "LANES_OF_BIT" "[J" (.ref t) (lw_A s) s s.heap ∧ va_T .long t 6 (fun j => .long (k_lanes j)) (lw_A s) s s.heap := by
  have hs := flat_of_before _ hg
  have hA : ∀ a : Nat, a < s.heap.size → ¬ lw_A s a := fun a h => Nat.not_le.mpr h
  have h1 : (Cond.arrayOf (.static "FrameBoard$Truth" "LANES_OF_BIT" "[J") .long).before args s = true := hs _ (by decide +kernel)
  have h2 : (Cond.eq (.length (.static "FrameBoard$Truth" "LANES_OF_BIT" "[J")) (.int 6)).before args s = true := hs _ (by decide +kernel)
  have e0 : (Cond.eq (.elem (.static "FrameBoard$Truth" "LANES_OF_BIT" "[J") (.int 0)) (.long (-6148914691236517206))).before args s = true := hs _ (by decide +kernel)
  have e1 : (Cond.eq (.elem (.static "FrameBoard$Truth" "LANES_OF_BIT" "[J") (.int 1)) (.long (-3689348814741910324))).before args s = true := hs _ (by decide +kernel)
  have e2 : (Cond.eq (.elem (.static "FrameBoard$Truth" "LANES_OF_BIT" "[J") (.int 2)) (.long (-1085102592571150096))).before args s = true := hs _ (by decide +kernel)
  have e3 : (Cond.eq (.elem (.static "FrameBoard$Truth" "LANES_OF_BIT" "[J") (.int 3)) (.long (-71777214294589696))).before args s = true := hs _ (by decide +kernel)
  have e4 : (Cond.eq (.elem (.static "FrameBoard$Truth" "LANES_OF_BIT" "[J") (.int 4)) (.long (-281470681808896))).before args s = true := hs _ (by decide +kernel)
  have e5 : (Cond.eq (.elem (.static "FrameBoard$Truth" "LANES_OF_BIT" "[J") (.int 5)) (.long (-4294967296))).before args s = true := hs _ (by decide +kernel)
  have hel : ∀ j : Nat, j < 6 → (Term.elem (.static "FrameBoard$Truth" "LANES_OF_BIT" "[J") (.int (Int32.ofNat j))).eval args s none [] s = some (.long (k_lanes j)) := by
    intro j hj
    rcases (show j = 0 ∨ j = 1 ∨ j = 2 ∨ j = 3 ∨ j = 4 ∨ j = 5 by omega) with rfl | rfl | rfl | rfl | rfl | rfl
    · exact va_eqtl e0
    · exact va_eqtl e1
    · exact va_eqtl e2
    · exact va_eqtl e3
    · exact va_eqtl e4
    · exact va_eqtl e5
  obtain ⟨t, h3, h4⟩ := va_Tof (N := 6) (f := fun j => .long (k_lanes j)) (A := lw_A s) (by decide) h1 (va_eqt h2) hel hA
  exact ⟨t, va_Zof (hts _ (k_t3 (List.mem_of_getElem? (i := 137) rfl))) (hts _ (k_t1 (List.mem_of_getElem? (i := 9) rfl))) h3 hA, h4⟩
theorem k_st_KINDS_WITH {s : State} {args : Array Value} (hts : ∀ w ∈ lw_tbl, w.before args s = true) (hg : (Jvm.Cond.and given_1 narrow_1).before args s = true) : ∃ t : Nat, va_Z "FrameBoard$Observations" "KINDS_WITH" "[I" (.ref t) (lw_A s) s s.heap ∧ va_T .int t 4 (fun j => .int (k_kinds j)) (lw_A s) s s.heap := by
  have hs := flat_of_before _ hg
  have hA : ∀ a : Nat, a < s.heap.size → ¬ lw_A s a := fun a h => Nat.not_le.mpr h
  have h1 : (Cond.arrayOf (.static "FrameBoard$Observations" "KINDS_WITH" "[I") .int).before args s = true := hs _ (by decide +kernel)
  have h2 : (Cond.eq (.length (.static "FrameBoard$Observations" "KINDS_WITH" "[I")) (.int 4)).before args s = true := hs _ (by decide +kernel)
  have e0 : (Cond.eq (.elem (.static "FrameBoard$Observations" "KINDS_WITH" "[I") (.int 0)) (.int (9))).before args s = true := hs _ (by decide +kernel)
  have e1 : (Cond.eq (.elem (.static "FrameBoard$Observations" "KINDS_WITH" "[I") (.int 1)) (.int (25))).before args s = true := hs _ (by decide +kernel)
  have e2 : (Cond.eq (.elem (.static "FrameBoard$Observations" "KINDS_WITH" "[I") (.int 2)) (.int (23))).before args s = true := hs _ (by decide +kernel)
  have e3 : (Cond.eq (.elem (.static "FrameBoard$Observations" "KINDS_WITH" "[I") (.int 3)) (.int (27))).before args s = true := hs _ (by decide +kernel)
  have hel : ∀ j : Nat, j < 4 → (Term.elem (.static "FrameBoard$Observations" "KINDS_WITH" "[I") (.int (Int32.ofNat j))).eval args s none [] s = some (.int (k_kinds j)) := by
    intro j hj
    rcases (show j = 0 ∨ j = 1 ∨ j = 2 ∨ j = 3 by omega) with rfl | rfl | rfl | rfl
    · exact va_eqt e0
    · exact va_eqt e1
    · exact va_eqt e2
    · exact va_eqt e3
  obtain ⟨t, h3, h4⟩ := va_Tof (N := 4) (f := fun j => .int (k_kinds j)) (A := lw_A s) (by decide) h1 (va_eqt h2) hel hA
  exact ⟨t, va_Zof (hts _ (k_t3 (List.mem_of_getElem? (i := 183) rfl))) (hts _ (k_t1 (List.mem_of_getElem? (i := 8) rfl))) h3 hA, h4⟩
set_option maxHeartbeats 4000000 in
set_option maxRecDepth 100000 in
theorem k_env {s : State} {args : Array Value} (hts : ∀ w ∈ lw_tbl, w.before args s = true) : ∃ (D : va_G) (cB cI cJ cZ : ClassId), va_K D vwCl (k_tys cB cI cJ cZ) s := by
  have hta : ∀ w ∈ k_all, w.before args s = true := fun w h => hts w (List.mem_filter.mp h).1
  obtain ⟨c0, i0, h0⟩ := u_known (C := RX0) (T := TX0) (N := 3) (n := 3) hta inlX0 (hts _ (k_t1 (List.mem_of_getElem? (i := 102) rfl)))
  obtain ⟨c1, i1, h1⟩ := u_known (C := RX1) (T := TX1) (N := 2) (n := 2) hta inlX1 (hts _ (k_t1 (List.mem_of_getElem? (i := 87) rfl)))
  obtain ⟨c2, i2, h2⟩ := u_known (C := RX2) (T := TX2) (N := 5) (n := 5) hta inlX2 (hts _ (k_t1 (List.mem_of_getElem? (i := 46) rfl)))
  obtain ⟨c3, i3, h3⟩ := u_known (C := RX3) (T := TX3) (N := 4) (n := 4) hta inlX3 (hts _ (k_t1 (List.mem_of_getElem? (i := 37) rfl)))
  obtain ⟨c4, i4, h4⟩ := u_known (C := RX4) (T := TX4) (N := 2) (n := 2) hta inlX4 (hts _ (k_t1 (List.mem_of_getElem? (i := 118) rfl)))
  obtain ⟨c5, i5, h5⟩ := u_known (C := RX5) (T := TX5) (N := 2) (n := 2) hta inlX5 (hts _ (k_t1 (List.mem_of_getElem? (i := 23) rfl)))
  obtain ⟨c6, i6, h6⟩ := u_known (C := RX7) (T := TX7) (N := 3) (n := 3) hta inlX7 (hts _ (k_t1 (List.mem_of_getElem? (i := 133) rfl)))
  obtain ⟨c7, i7, h7⟩ := u_known (C := RX8) (T := TX8) (N := 15) (n := 15) hta inlX8 (hts _ (k_t1 (List.mem_of_getElem? (i := 15) rfl)))
  obtain ⟨c8, i8, h8⟩ := u_known (C := RX9) (T := TX9) (N := 41) (n := 41) hta inlX9 (hts _ (k_t4 (List.mem_of_getElem? (i := 22) rfl)))
  obtain ⟨cB, aB, bB⟩ := k_arr (ty := .byte) (by intro C h; cases h) (hts _ (k_t4 (List.mem_of_getElem? (i := 152) rfl)))
  obtain ⟨cI, aI, bI⟩ := k_arr (ty := .int) (by intro C h; cases h) (hts _ (k_t1 (List.mem_of_getElem? (i := 35) rfl)))
  obtain ⟨cJ, aJ, bJ⟩ := k_arr (ty := .long) (by intro C h; cases h) (hts _ (k_t1 (List.mem_of_getElem? (i := 148) rfl)))
  obtain ⟨cZ, aZ, bZ⟩ := k_arr (ty := .boolean) (by intro C h; cases h) (hts _ (k_t4 (List.mem_of_getElem? (i := 151) rfl)))
  refine ⟨(fun k => if k = 0 then c0 else if k = 1 then c1 else if k = 2 then c2 else if k = 3 then c3 else if k = 4 then c4 else if k = 5 then c5 else if k = 6 then c6 else if k = 7 then c7 else c8, fun k => if k = 0 then i0 else if k = 1 then i1 else if k = 2 then i2 else if k = 3 then i3 else if k = 4 then i4 else if k = 5 then i5 else if k = 6 then i6 else if k = 7 then i7 else i8), cB, cI, cJ, cZ, ?_, ?_⟩
  · intro k q hq
    match k, hq with
    | 0, hq => cases hq; exact h0
    | 1, hq => cases hq; exact h1
    | 2, hq => cases hq; exact h2
    | 3, hq => cases hq; exact h3
    | 4, hq => cases hq; exact h4
    | 5, hq => cases hq; exact h5
    | 6, hq => cases hq; exact h6
    | 7, hq => cases hq; exact h7
    | 8, hq => cases hq; exact h8
    | k + 9, hq => exact absurd hq (by simp [vwCl])
  · intro k q hq
    match k, hq with
    | 0, hq => cases hq; exact ⟨aB, bB⟩
    | 1, hq => cases hq; exact ⟨aI, bI⟩
    | 2, hq => cases hq; exact ⟨aJ, bJ⟩
    | 3, hq => cases hq; exact ⟨aZ, bZ⟩
    | k + 4, hq => exact absurd hq (by simp [k_tys])
theorem wf_0 : wfF 0 (fun _ => 0) (fun _ => 0) := ⟨Nat.zero_le 16, fun i h => absurd h (Nat.not_lt_zero i)⟩
theorem RFo_0 {a b : Nat → Int32} : RFo 0 (fun _ => 0) (fun _ => 0) a b := ⟨wf_0, fun i h => absurd h (Nat.not_lt_zero i), fun i h => absurd h (Nat.not_lt_zero i)⟩
theorem RMo_0 {a b : Nat → Int32} : RMo 0 (fun _ => 0) (fun _ => 0) a b := ⟨wf_0, fun i h => absurd h (Nat.not_lt_zero i), fun i h => absurd h (Nat.not_lt_zero i)⟩
theorem RSv_0 {s1 s2 s3 s4 s5 sn sp l1 l2 ks : Int32} {ka km kh kc : Nat → Int32} : RSv 0 0 0 0 s1 s2 s3 s4 s5 sn sp l1 l2 ks ka km kh kc := ⟨rfl, Nat.le_refl 0, Or.inl ⟨rfl, Or.inl rfl⟩⟩
theorem mkv_0 : (0 : Int32) = mkv false false := by decide +kernel
theorem RF_0 : RF 0 0 0 0 0 0 0 (fun _ => 0) (fun _ => 0) := ⟨0, 0, fun _ _ => false, fun _ => false, fun _ => false, by omega, ⟨Nat.zero_le 4, fun _ _ h => absurd h Bool.false_ne_true, fun _ h => absurd h Bool.false_ne_true, fun _ h => absurd h Bool.false_ne_true⟩, nI_0.symm, nI_0.symm, nI_0.symm, nI_0.symm, (bI_0 (n := 16) (by omega)).symm, (bI_0 (n := 4) (by omega)).symm, (bI_0 (n := 4) (by omega)).symm, fun _ _ _ _ => rfl, fun _ _ => mkv_0⟩
