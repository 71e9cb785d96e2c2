/-! My own rows: contracts over one environment (class ids, static arrays, nest words), one word list for all methods -/
/-- the good words of the tables: one list for all methods -/
def k_all : List Cond := lw_tbl.filter goodWord
theorem k_mem {w : Cond} (h : w ∈ lw_tbl) (g : goodWord w = true) : w ∈ k_all := List.mem_filter.mpr ⟨h, g⟩
theorem k_tb {w : Cond} (h : w ∈ tables_1) : w ∈ lw_tbl := List.mem_append_right _ h
theorem k_t1 {w : Cond} (h : w ∈ tables_1_1) : w ∈ lw_tbl := k_tb (List.mem_append_left _ h)
theorem k_t2 {w : Cond} (h : w ∈ tables_1_2) : w ∈ lw_tbl := k_tb (List.mem_append_right _ (List.mem_append_left _ h))
theorem k_t3 {w : Cond} (h : w ∈ tables_1_3) : w ∈ lw_tbl := k_tb (List.mem_append_right _ (List.mem_append_right _ (List.mem_append_left _ h)))
theorem k_t4 {w : Cond} (h : w ∈ tables_1_4) : w ∈ lw_tbl := k_tb (List.mem_append_right _ (List.mem_append_right _ (List.mem_append_right _ (List.mem_append_left _ h))))
theorem k_t5 {w : Cond} (h : w ∈ tables_1_5) : w ∈ lw_tbl := k_tb (List.mem_append_right _ (List.mem_append_right _ (List.mem_append_right _ (List.mem_append_right _ (List.mem_append_left _ h)))))
theorem k_t6 {w : Cond} (h : w ∈ tables_1_6) : w ∈ lw_tbl := k_tb (List.mem_append_right _ (List.mem_append_right _ (List.mem_append_right _ (List.mem_append_right _ (List.mem_append_right _ h)))))
theorem k_sb {q : MethodName × Nat} (h : q ∈ lw_privs) : Cond.selects q.1.cls q.1 q.1 ∈ lw_tbl := List.mem_append_left _ (List.mem_map.mpr ⟨q, h, rfl⟩)
theorem k_s1 {q : MethodName × Nat} (h : q ∈ lw_privs_1) : Cond.selects q.1.cls q.1 q.1 ∈ lw_tbl := k_sb (List.mem_append_left _ h)
theorem k_s2 {q : MethodName × Nat} (h : q ∈ lw_privs_2) : Cond.selects q.1.cls q.1 q.1 ∈ lw_tbl := k_sb (List.mem_append_right _ (List.mem_append_left _ h))
theorem k_s3 {q : MethodName × Nat} (h : q ∈ lw_privs_3) : Cond.selects q.1.cls q.1 q.1 ∈ lw_tbl := k_sb (List.mem_append_right _ (List.mem_append_right _ (List.mem_append_left _ h)))
theorem k_s4 {q : MethodName × Nat} (h : q ∈ lw_privs_4) : Cond.selects q.1.cls q.1 q.1 ∈ lw_tbl := k_sb (List.mem_append_right _ (List.mem_append_right _ (List.mem_append_right _ (List.mem_append_left _ h))))
theorem k_s5 {q : MethodName × Nat} (h : q ∈ lw_privs_5) : Cond.selects q.1.cls q.1 q.1 ∈ lw_tbl := k_sb (List.mem_append_right _ (List.mem_append_right _ (List.mem_append_right _ (List.mem_append_right _ (List.mem_append_left _ h)))))
theorem k_s6 {q : MethodName × Nat} (h : q ∈ lw_privs_6) : Cond.selects q.1.cls q.1 q.1 ∈ lw_tbl := k_sb (List.mem_append_right _ (List.mem_append_right _ (List.mem_append_right _ (List.mem_append_right _ (List.mem_append_right _ h)))))
def k_lanes (j : Nat) : Int64 := if j = 0 then -6148914691236517206 else if j = 1 then -3689348814741910324 else if j = 2 then -1085102592571150096 else if j = 3 then -71777214294589696 else if j = 4 then -281470681808896 else -4294967296
def k_kinds (j : Nat) : Int32 := if j = 0 then 9 else if j = 1 then 25 else if j = 2 then 23 else 27
def k_nests : List (String × Nat × MethodName × String) := [(RX8, 9, yX5_init, "FrameBoard"), (RX8, 18, yX3_init, "FrameBoard"), (RX3, 3, yX6_init, "FrameBoard"), (RX3, 11, yX2_init, "FrameBoard"), (RX8, 25, yX1_init, "FrameBoard"), (RX1, 3, yX6_init, "FrameBoard"), (RX8, 32, yX2_init, "FrameBoard"), (RX8, 39, yX0_init, "FrameBoard"), (RX8, 46, yX4_init, "FrameBoard"), (RX8, 62, yX7_init, "FrameBoard"), (RX5, 19, yX8_isBelow, "FrameBoard"), (RX3, 60, yX8_isBelow, "FrameBoard"), (RX2, 44, yX8_bit, "FrameBoard"), (RX0, 22, yX8_isBelow, "FrameBoard"), (RX2, 78, yX8_lowest, "FrameBoard"), (RX7, 27, yX8_bit, "FrameBoard"), (RX7, 54, yX8_isBelow, "FrameBoard"), (RX4, 26, yX8_isBelow, "FrameBoard")]
def k_decls : List MethodName := [⟨"FrameBoard$Text", "firstFault", "(LFrameBoard$Page;)I"⟩, ⟨"FrameBoard$Text", "begin", "()V"⟩, ⟨"FrameBoard$Text", "reads", "(I)Z"⟩, ⟨"FrameBoard$Text", "isWhole", "(LFrameBoard$Page;)Z"⟩, ⟨"FrameBoard$Text", "isComplete", "()Z"⟩]
def k_NW (U : State) : Prop := (∀ q ∈ k_nests, va_Nw (.methodLinkNest q.1 q.2.1 q.2.2.1 q.2.2.2) U) ∧ ∀ x ∈ k_decls, va_Nw (.declares x) U
theorem k_NW_warm {s U : State} (hW : s.WarmedH U.vm) (h : k_NW s) : k_NW U := ⟨fun q hq => va_Nw.warmM hW (h.1 q hq), fun x hx => va_Nw.warmD hW (h.2 x hx)⟩
theorem k_NW_same {s U : State} (hW : s.vm = U.vm) (h : k_NW s) : k_NW U := ⟨fun q hq => va_Nw.same rfl hW (h.1 q hq), fun x hx => va_Nw.same rfl hW (h.2 x hx)⟩
def k_ST (tL tK : Nat) (A : Nat → Prop) (U : State) (H : Heap) : Prop := va_Z "FrameBoard$Truth" "LANES_OF_BIT" "[J" (.ref tL) A U H ∧ va_T .long tL 6 (fun j => .long (k_lanes j)) A U H ∧ va_Z "FrameBoard$Observations" "KINDS_WITH" "[I" (.ref tK) A U H ∧ va_T .int tK 4 (fun j => .int (k_kinds j)) A U H
theorem k_ST_moved {tL tK : Nat} {A : Nat → Prop} {u U : State} {H : Heap} (hvm : u.vm.Alike U.vm) (h : k_ST tL tK A u H) : k_ST tL tK A U H := ⟨h.1.moved hvm, h.2.1.moved hvm, h.2.2.1.moved hvm, h.2.2.2.moved hvm⟩
theorem k_ST_to {tL tK : Nat} {A B : Nat → Prop} {s U : State} {H : Heap} {locs : List Loc} (h : k_ST tL tK A s s.heap) (hS : va_S A s.heap H locs) (hB : ∀ q, B q → A q) (hW : s.vm.Alike U.vm) : k_ST tL tK B U H :=
  ⟨((h.1.kept hS.2.1).narrow hB).moved hW, ((h.2.1.kept hS.2.1).narrow hB).moved hW, ((h.2.2.1.kept hS.2.1).narrow hB).moved hW, ((h.2.2.2.kept hS.2.1).narrow hB).moved hW⟩
abbrev k_tys (cB cI cJ cZ : ClassId) : List (ClassId × FieldType) := [(cB, .byte), (cI, .int), (cJ, .long), (cZ, .boolean)]
def k_P (D : va_G) (cB cI cJ cZ : ClassId) (tL tK : Nat) (av : List Value) (ws : va_W) (sz : Nat) : Array Value → State → Prop := va_Pc av (fun U => U.heap.size = sz ∧ va_P D vwCl ws U.heap ∧ va_K D vwCl (k_tys cB cI cJ cZ) U ∧ k_NW U ∧ k_ST tL tK (va_A ws sz) U U.heap ∧ va_D (fun _ => True) ws)
theorem k_blind {D : va_G} {cB cI cJ cZ : ClassId} {tL tK : Nat} {av : List Value} {ws : va_W} {sz : Nat} : FrameBlind (k_P D cB cI cJ cZ tL tK av ws sz) := fun a U g mk q =>
  ⟨q.1, q.2.1, q.2.2.1, va_K.moved (u := U) (U := U.calling g mk a) (Vm.Alike.refl U.vm) q.2.2.2.1, k_NW_same (s := U) (U := U.calling g mk a) rfl q.2.2.2.2.1, k_ST_moved (u := U) (U := U.calling g mk a) (Vm.Alike.refl U.vm) q.2.2.2.2.2.1, q.2.2.2.2.2.2⟩
def k_I (D : va_G) (r : Int32) (ws w1 : va_W) (sz : Nat) : Array Value → State → Outcome → State → Prop := va_Qi (fun (r' : Int32) (_ : Unit) => r' = r) (fun _ t => va_P D vwCl w1 t.heap ∧ va_D (va_A ws sz) w1) (va_A ws sz)
def k_L (D : va_G) (r : Int64) (ws w1 : va_W) (sz : Nat) : Array Value → State → Outcome → State → Prop := va_Ql (fun (r' : Int64) (_ : Unit) => r' = r) (fun _ t => va_P D vwCl w1 t.heap ∧ va_D (va_A ws sz) w1) (va_A ws sz)
def k_V (D : va_G) (ws w1 : va_W) (sz : Nat) : Array Value → State → Outcome → State → Prop := va_Qv (fun (_ : Unit) => True) (fun _ t => va_P D vwCl w1 t.heap ∧ va_D (va_A ws sz) w1) (va_A ws sz)
/-- a contract's start -/
theorem k_met {l : Launch} {y : MethodName} {cc : ByteArray} {maxL : Nat} {ret : Option FieldType} {rm : Room} {av : List Value} {ws : va_W} {sz : Nat} {D : va_G} {cB cI cJ cZ : ClassId} {tL tK : Nat} {Qc : Array Value → State → Outcome → State → Prop} {mc ms : Nat} (C : String) (hC : y.cls = C) (hy : plainName y.cls = true) (hlen : (lg_sl av).length ≤ maxL)
    (body : ∀ (p : Program) (e : Env) (s : State) (m : MethodId) (below : List Frame) (meth : Method) (c : Code) (A : Nat → Prop) (ls : Array Slot), p.tables.exec = Jvm.exec → c.code = cc → meth.sig.returnType = ret → c.maxLocals = maxL → s.vm.findClass C = some m.cls → (∀ w ∈ k_all, w.before av.toArray s = true) → meth.locks = false → meth.name = y.name → s.heap.size = sz → A = va_A ws sz → (∀ q, s.heap.size ≤ q → A q) → va_K D vwCl (k_tys cB cI cJ cZ) s → k_NW s → k_ST tL tK A s s.heap → va_D A ws → va_S A s.heap s.heap [] → va_P D vwCl ws s.heap → lv_has ls maxL (lv_args 0 av) →
      W p l e rm s m av.toArray below meth c s.heap [] 0 0 (MQ below Qc av.toArray s mc ms A) (F0 m 0 ls [])) : Met l y (.code y cc maxL ret :: k_all) rm (k_P D cB cI cJ cZ tL tK av ws sz) Qc mc ms (va_A ws sz) := by
  refine Met.ofW (cc := cc) (maxL := maxL) (ret := ret) hy rfl ?_
  intro p e s m args below meth c s₁ B hml hv
  obtain ⟨rfl, hsz, hP, hK, hN, hZ, hD0⟩ := hv
  have hts := atoms_spec (ws := .code y cc maxL ret :: k_all) B.pre
  have hl := lv_entry av (n := maxL) hlen
  rw [lg_entry_eq]
  exact body p e s m below meth c (va_A ws sz) _ B.exec B.bytes B.returns hml (hC ▸ findClass_of_methodNamed B.named) (fun w h => hts w (List.mem_cons_of_mem _ h)) B.notSynchronized (name_of_methodNamed B.named B.method).1 hsz rfl (fun q h => Or.inr (hsz ▸ h)) hK hN hZ hD0.self va_S.rf hP hl
section KR
variable {p : Program} {l : Launch} {e : Env} {R : Room} {s : State} {m : MethodId} {args : Array Value} {below : List Frame} {meth : Method} {c : Code} {H : Heap} {locs : List Loc} {cells slots : Nat} {Q : State → Prop}
variable {cc : ByteArray} {pc : Nat} {ls : Array Slot} {rest st0 : List Value} {D : va_G} {A : Nat → Prop} {sz mc ms : Nat} {w0 w1 : va_W} {a : Array Value}
theorem k_iret {r : Int32} (hx : p.tables.exec = Jvm.exec) (hb : c.code = cc) (hr : meth.sig.returnType = some .int) (hlocks : meth.locks = false) (hAe : A = va_A w0 sz) (hS : va_S A s.heap H locs) (hP : va_P D vwCl w1 H) (hD : va_D A w1) (hdg : decode cc pc = .ok (.ireturn, 1)) : W p l e R s m args below meth c H locs cells slots (MQ below (k_I D r w0 w1 sz) args s cells slots A) (F0 m pc ls [.int r]) := by
  subst hAe
  exact W.iret hx hb hr (fun t ht hW => ⟨⟨r, (), rfl, rfl, by rw [ht]; exact hP, hD⟩, hS.F ht⟩) hS.2.2 hdg hlocks
theorem k_zret {r : Int32} {ty : FieldType} (hx : p.tables.exec = Jvm.exec) (hb : c.code = cc) (hr : meth.sig.returnType = some ty) (hn : narrow ty (.int r) = .int r) (hlocks : meth.locks = false) (hAe : A = va_A w0 sz) (hS : va_S A s.heap H locs) (hP : va_P D vwCl w1 H) (hD : va_D A w1) (hdg : decode cc pc = .ok (.ireturn, 1)) : W p l e R s m args below meth c H locs cells slots (MQ below (k_I D r w0 w1 sz) args s cells slots A) (F0 m pc ls [.int r]) := by
  subst hAe
  exact W.zret hx hb hr hn (fun t ht hW => ⟨⟨r, (), rfl, rfl, by rw [ht]; exact hP, hD⟩, hS.F ht⟩) hS.2.2 hdg hlocks
theorem k_lret {r : Int64} (hx : p.tables.exec = Jvm.exec) (hb : c.code = cc) (hr : meth.sig.returnType = some .long) (hlocks : meth.locks = false) (hAe : A = va_A w0 sz) (hS : va_S A s.heap H locs) (hP : va_P D vwCl w1 H) (hD : va_D A w1) (hdg : decode cc pc = .ok (.lreturn, 1)) : W p l e R s m args below meth c H locs cells slots (MQ below (k_L D r w0 w1 sz) args s cells slots A) (F0 m pc ls [.long r]) := by
  subst hAe
  exact W.lret hx hb hr (fun t ht hW => ⟨⟨r, (), rfl, rfl, by rw [ht]; exact hP, hD⟩, hS.F ht⟩) hS.2.2 hdg hlocks
theorem k_vret (hx : p.tables.exec = Jvm.exec) (hb : c.code = cc) (hr : meth.sig.returnType = none) (hlocks : meth.locks = false) (hAe : A = va_A w0 sz) (hS : va_S A s.heap H locs) (hP : va_P D vwCl w1 H) (hD : va_D A w1) (hdg : decode cc pc = .ok (.return_, 1)) : W p l e R s m args below meth c H locs cells slots (MQ below (k_V D w0 w1 sz) args s cells slots A) (F0 m pc ls []) := by
  subst hAe
  exact W.vret hx hb hr (fun t ht hW => ⟨⟨(), rfl, trivial, by rw [ht]; exact hP, hD⟩, hS.F ht⟩) hS.2.2 hdg hlocks
theorem k_fm {α β : Type} {f : α → Option β} : ∀ (is : List α) (ws : List β), is.map f = ws.map some → is.filterMap f = ws := by
  intro is
  induction is with
  | nil => intro ws h; cases ws with | nil => rfl | cons a b => cases h
  | cons i is ih =>
    intro ws h
    cases ws with
    | nil => cases h
    | cons a b =>
      simp only [List.map_cons, List.cons.injEq] at h
      rw [List.filterMap_cons_some h.1, ih b h.2]
theorem k_fm' {α β : Type} {f : α → Option β} : ∀ (is : List α), (∀ i ∈ is, (f i).isSome = true) → is.map f = (is.filterMap f).map some := by
  intro is
  induction is with
  | nil => intro _; rfl
  | cons i is ih =>
    intro h
    obtain ⟨b, hb⟩ := Option.isSome_iff_exists.mp (h i List.mem_cons_self)
    rw [List.filterMap_cons_some hb, List.map_cons, List.map_cons, hb, ih (fun j hj => h j (List.mem_cons_of_mem _ hj))]
/-- behind a call: the world with the callee's cells as they are now, in the old order -/
theorem k_back {ws wc wN : va_W} {H1 : Heap} (isC isR isN : List Nat) (hP : va_P D vwCl ws H) (hD : va_D A ws) (hC : isC.map (fun i => ws[i]?) = wc.map some) (hR : isR.all (fun i => decide (i < ws.length) && !isC.contains i) = true) (hn : va_nd isR = true) (hN : isN.map (fun i => (isR.filterMap (fun i => ws[i]?) ++ w1)[i]?) = wN.map some) (hN2 : va_nd isN = true)
    (hk : ∀ q : Nat, q < H.size → ¬ va_A wc H.size q → H1[q]? = H[q]?) (hF : ∀ q, va_A wc H.size q → A q) (hP1 : va_P D vwCl w1 H1) (hD1 : va_D (va_A wc H.size) w1) : va_P D vwCl wN H1 ∧ va_D A wN := by
  have hR1 : ∀ i ∈ isR, i < ws.length ∧ i ∉ isC := fun i hi => by
    have h := List.all_eq_true.mp hR i hi
    simpa using h
  have hR2 : isR.map (fun i => ws[i]?) = (isR.filterMap (fun i => ws[i]?)).map some := k_fm' isR (fun i hi => by simp [(hR1 i hi).1])
  obtain ⟨hP2, hD2⟩ := va_join hP hD isC isR hC hR2 hn (fun i hi => (hR1 i hi).2) hk hF hP1 hD1
  exact ⟨hP2.sub isN (k_fm _ _ hN), hD2.sub isN hN2 hN⟩
theorem k_calli {r : Int32} {ws wc wN : va_W} (isC isR isN : List Nat) (hP : va_P D vwCl ws H) (hD : va_D A ws) (hS : va_S A s.heap H locs) (hA : ∀ q, s.heap.size ≤ q → A q) (hr : va_Run p l e R s m args below meth c H locs cells slots 0 0 (F0 m pc ls st0) rest (k_I D r wc w1 H.size a) (va_A wc H.size))
    (hC : isC.map (fun i => ws[i]?) = wc.map some) (hR : isR.all (fun i => decide (i < ws.length) && !isC.contains i) = true) (hn : va_nd isR = true) (hN : isN.map (fun i => (isR.filterMap (fun i => ws[i]?) ++ w1)[i]?) = wN.map some) (hN2 : va_nd isN = true)
    (kk : ∀ (H1 : Heap) (locs1 : List Loc), va_P D vwCl wN H1 → va_D A wN → va_S A s.heap H1 locs1 → W p l e R s m args below meth c H1 locs1 cells slots Q (F0 m (pc + 3) ls (.int r :: rest))) : W p l e R s m args below meth c H locs cells slots Q (F0 m pc ls st0) := by
  have hF := va_free hD hS hA isC hC
  refine va_calli hr hS (fun q _ h => hF q h) hF (fun r' u t H1 locs1 ht hvm hw hB hz1 hk1 hS1 => ?_)
  obtain ⟨hP1, hD1⟩ := hB
  rw [ht] at hP1
  subst hw
  obtain ⟨hP2, hD2⟩ := k_back isC isR isN hP hD hC hR hn hN hN2 hk1 hF hP1 hD1
  exact kk H1 locs1 hP2 hD2 hS1
theorem k_calll {r : Int64} {ws wc wN : va_W} (isC isR isN : List Nat) (hP : va_P D vwCl ws H) (hD : va_D A ws) (hS : va_S A s.heap H locs) (hA : ∀ q, s.heap.size ≤ q → A q) (hr : va_Run p l e R s m args below meth c H locs cells slots 0 0 (F0 m pc ls st0) rest (k_L D r wc w1 H.size a) (va_A wc H.size))
    (hC : isC.map (fun i => ws[i]?) = wc.map some) (hR : isR.all (fun i => decide (i < ws.length) && !isC.contains i) = true) (hn : va_nd isR = true) (hN : isN.map (fun i => (isR.filterMap (fun i => ws[i]?) ++ w1)[i]?) = wN.map some) (hN2 : va_nd isN = true)
    (kk : ∀ (H1 : Heap) (locs1 : List Loc), va_P D vwCl wN H1 → va_D A wN → va_S A s.heap H1 locs1 → W p l e R s m args below meth c H1 locs1 cells slots Q (F0 m (pc + 3) ls (.long r :: rest))) : W p l e R s m args below meth c H locs cells slots Q (F0 m pc ls st0) := by
  have hF := va_free hD hS hA isC hC
  refine va_calll hr hS (fun q _ h => hF q h) hF (fun r' u t H1 locs1 ht hvm hw hB hz1 hk1 hS1 => ?_)
  obtain ⟨hP1, hD1⟩ := hB
  rw [ht] at hP1
  subst hw
  obtain ⟨hP2, hD2⟩ := k_back isC isR isN hP hD hC hR hn hN hN2 hk1 hF hP1 hD1
  exact kk H1 locs1 hP2 hD2 hS1
theorem k_callv {ws wc wN : va_W} (isC isR isN : List Nat) (hP : va_P D vwCl ws H) (hD : va_D A ws) (hS : va_S A s.heap H locs) (hA : ∀ q, s.heap.size ≤ q → A q) (hr : va_Run p l e R s m args below meth c H locs cells slots mc ms (F0 m pc ls st0) rest (k_V D wc w1 H.size a) (va_A wc H.size))
    (hC : isC.map (fun i => ws[i]?) = wc.map some) (hR : isR.all (fun i => decide (i < ws.length) && !isC.contains i) = true) (hn : va_nd isR = true) (hN : isN.map (fun i => (isR.filterMap (fun i => ws[i]?) ++ w1)[i]?) = wN.map some) (hN2 : va_nd isN = true)
    (kk : ∀ (H1 : Heap) (locs1 : List Loc), va_P D vwCl wN H1 → va_D A wN → va_S A s.heap H1 locs1 → W p l e R s m args below meth c H1 locs1 (cells + mc) (slots + ms) Q (F0 m (pc + 3) ls rest)) : W p l e R s m args below meth c H locs cells slots Q (F0 m pc ls st0) := by
  have hF := va_free hD hS hA isC hC
  refine va_callv hr hS (fun q _ h => hF q h) hF (fun u t H1 locs1 ht hvm hw hB hz1 hk1 hS1 => ?_)
  obtain ⟨hP1, hD1⟩ := hB
  rw [ht] at hP1
  obtain ⟨hP2, hD2⟩ := k_back isC isR isN hP hD hC hR hn hN hN2 hk1 hF hP1 hD1
  exact kk H1 locs1 hP2 hD2 hS1
variable {cB cI cJ cZ : ClassId} {tL tK : Nat} {ws wc : va_W} {av : List Value}
theorem k_preS (isC : List Nat) (hK : va_K D vwCl (k_tys cB cI cJ cZ) s) (hN : k_NW s) (hZ : k_ST tL tK A s s.heap) (hP : va_P D vwCl ws H) (hD : va_D A ws) (hS : va_S A s.heap H locs) (hA : ∀ q, s.heap.size ≤ q → A q) (hC : isC.map (fun i => ws[i]?) = wc.map some) (hn : va_nd isC = true) : PreS s H (k_P D cB cI cJ cZ tL tK av wc H.size) av :=
  ⟨k_blind, fun U hU hW => ⟨rfl, by rw [hU], by rw [hU]; exact hP.sub isC (k_fm _ _ hC), va_K.moved hW.alike hK, k_NW_warm hW hN, by rw [hU]; exact k_ST_to hZ hS (va_free hD hS hA isC hC) hW.alike, (hD.sub isC hn hC).weaken (fun _ _ _ _ => trivial)⟩⟩
theorem k_preV {C : String} {b : Addr} (isC : List Nat) (hK : va_K D vwCl (k_tys cB cI cJ cZ) s) (hN : k_NW s) (hZ : k_ST tL tK A s s.heap) (hP : va_P D vwCl ws H) (hD : va_D A ws) (hS : va_S A s.heap H locs) (hA : ∀ q, s.heap.size ≤ q → A q) (hC : isC.map (fun i => ws[i]?) = wc.map some) (hn : va_nd isC = true)
    (hrc : ∃ cellB : Cell, H[b]? = some cellB ∧ cellB.vm.isStatics = false ∧ s.vm.findClass C = some cellB.cls) : PreV s H C b (k_P D cB cI cJ cZ tL tK (.ref b :: av) wc H.size) av :=
  ⟨k_blind, hrc, (k_preS isC hK hN hZ hP hD hS hA hC hn).2⟩
end KR
/-! words of a call, out of the one list -/
theorem k_in {w : Cond} (h : w ∈ k_all) : w ∈ k_all ∧ ((w.onTables && w.keeps) = true ∨ ∃ ty, w = .arrayClass ty) := ⟨h, good_of_word (List.mem_filter.mp h).2⟩
theorem k_gB {y : MethodName} {cc : ByteArray} {n : Nat} {r : Option FieldType} (h : Cond.code y cc n r ∈ k_all) : GoodIn k_all (Cond.code y cc n r :: k_all) := fun w hw => (List.mem_cons.mp hw).elim (fun e => e ▸ k_in h) k_in
theorem k_gV {own C : String} {idx : Nat} {y : MethodName} {cc : ByteArray} {n : Nat} {r : Option FieldType} (h : Cond.code y cc n r ∈ k_all) (h1 : Cond.methodLink own idx y ∈ k_all) (h2 : Cond.instanceMethod y ∈ k_all) (h3 : Cond.selects C y y ∈ k_all) (h4 : Cond.initialized C ∈ k_all) : GoodIn k_all (wsV own idx C y (Cond.code y cc n r :: k_all)) := by
  intro w hw
  rcases List.mem_append.mp hw with hw | hw
  · simp only [List.mem_cons, List.not_mem_nil, or_false] at hw
    rcases hw with rfl | rfl | rfl | rfl
    · exact k_in h1
    · exact k_in h2
    · exact k_in h3
    · exact k_in h4
  · exact k_gB h w hw
theorem k_gS {own : String} {idx : Nat} {y : MethodName} {cc : ByteArray} {n : Nat} {r : Option FieldType} (h : Cond.code y cc n r ∈ k_all) (h1 : Cond.methodLink own idx y ∈ k_all) (h2 : Cond.static y ∈ k_all) (h4 : Cond.initialized y.cls ∈ k_all) : GoodIn k_all (va_wsS own idx y (Cond.code y cc n r :: k_all)) := by
  intro w hw
  rcases List.mem_append.mp hw with hw | hw
  · simp only [List.mem_cons, List.not_mem_nil, or_false] at hw
    rcases hw with rfl | rfl | rfl
    · exact k_in h1
    · exact k_in h2
    · exact k_in h4
  · exact k_gB h w hw
theorem k_gU {own C owner : String} {idx : Nat} {x y : MethodName} {cc : ByteArray} {n : Nat} {r : Option FieldType} (h : Cond.code y cc n r ∈ k_all) (h1 : Cond.methodLink own idx x ∈ k_all) (h2 : Cond.sameMethod x.cls owner x.name x.desc ∈ k_all) (h3 : Cond.selects C x y ∈ k_all) (h4 : Cond.instanceMethod y ∈ k_all) (h5 : Cond.initialized y.cls ∈ k_all) : GoodIn k_all (va_wsU own idx C owner x y (Cond.code y cc n r :: k_all)) := by
  intro w hw
  rcases List.mem_append.mp hw with hw | hw
  · simp only [List.mem_cons, List.not_mem_nil, or_false] at hw
    rcases hw with rfl | rfl | rfl | rfl | rfl
    · exact k_in h1
    · exact k_in h2
    · exact k_in h3
    · exact k_in h4
    · exact k_in h5
  · exact k_gB h w hw
/-! the pure side's words: checks, names, loops -/
def k_chk {β : Type} (i : Int32) (n : Nat) (e : Option β) : Option β := if i < 0 ∨ n ≤ i.toNatClampNeg then none else e
theorem k_chk_some {β : Type} {i : Int32} {n : Nat} {e : Option β} {x : β} (h : k_chk i n e = some x) : vp_in i n ∧ e = some x := by
  unfold k_chk at h
  by_cases hc : i < 0 ∨ n ≤ i.toNatClampNeg
  · rw [if_pos hc] at h; cases h
  · rw [if_neg hc] at h; exact ⟨hc, h⟩
def k_nz {α β : Type} [DecidableEq α] [OfNat α 0] (i : α) (e : Option β) : Option β := if i = 0 then none else e
theorem k_nz_some {α β : Type} [DecidableEq α] [OfNat α 0] {i : α} {e : Option β} {x : β} (h : k_nz i e = some x) : ¬ i = 0 ∧ e = some x := by
  unfold k_nz at h
  by_cases hc : i = 0
  · rw [if_pos hc] at h; cases h
  · rw [if_neg hc] at h; exact ⟨hc, h⟩
def k_bl {β : Type} (i : Int32) (e : Option β) : Option β := if i = 0 ∨ i = 1 then e else none
theorem k_bl_some {β : Type} {i : Int32} {e : Option β} {x : β} (h : k_bl i e = some x) : (i = 0 ∨ i = 1) ∧ e = some x := by
  unfold k_bl at h
  by_cases hc : i = 0 ∨ i = 1
  · rw [if_pos hc] at h; exact ⟨hc, h⟩
  · rw [if_neg hc] at h; cases h
theorem k_bn {i : Int32} (h : i = 0 ∨ i = 1) : narrow .boolean (.int i) = .int i := by rcases h with rfl | rfl <;> rfl
def k_let {α β : Type} (x : α) (f : α → β) : β := f x
theorem k_let_at {α β : Type} {x y : α} {f : α → β} {z : β} (e : y = x) (h : k_let x f = z) : f y = z := by rw [e]; exact h
theorem k_bind {α β : Type} {o : Option α} {f : α → Option β} {x : β} (h : o.bind f = some x) : ∃ q, o = some q ∧ f q = some x := by
  cases o with
  | none => cases h
  | some q => exact ⟨q, rfl, h⟩
theorem k_ifT {α : Type} {c : Prop} [Decidable c] {a b x : α} (hc : c) (h : (if c then a else b) = x) : a = x := by rw [if_pos hc] at h; exact h
theorem k_ifF {α : Type} {c : Prop} [Decidable c] {a b x : α} (hc : ¬ c) (h : (if c then a else b) = x) : b = x := by rw [if_neg hc] at h; exact h
def k_it {α β : Type} (b : (α → Option β) → (α → Option β) → α → Option β) (ex : α → Option β) : Nat → α → Option β
  | 0, _ => none
  | n + 1, a => b ex (k_it b ex n) a
theorem k_let_ex {α β : Type} {x : α} {f : α → β} {z : β} (h : k_let x f = z) : ∃ q, x = q ∧ f q = z := ⟨x, rfl, h⟩
def k_ush (x y : Int32) : Int32 := (x.toUInt32 >>> (y.toUInt32 &&& Int32.toUInt32 31)).toInt32
def k_lushr (x : Int64) (y : Int32) : Int64 := (x.toUInt64 >>> (y.toInt64.toUInt64 &&& Int64.toUInt64 63)).toInt64
def k_lshl (x : Int64) (y : Int32) : Int64 := x <<< (y.toInt64 &&& 63)
def k_lshr (x : Int64) (y : Int32) : Int64 := x >>> (y.toInt64 &&& 63)
section KL
variable {p : Program} {l : Launch} {e : Env} {R : Room} {s : State} {m : MethodId} {args : Array Value} {below : List Frame} {meth : Method} {c : Code} {cells slots : Nat} {Q : State → Prop}
variable {pc nL : Nat} {D : va_G} {A : Nat → Prop}
theorem k_wl {α β : Type} (pce : Nat) {b : (α → Option β) → (α → Option β) → α → Option β} {ex : α → Option β} {n0 : Nat} {a0 : α} {x : β} {wsf : α → va_W} {lvf : α → List (Nat × Value)} {H : Heap} {locs : List Loc} {ls : Array Slot} (hf : k_it b ex n0 a0 = some x) (hP : va_P D vwCl (wsf a0) H) (hD : va_D A (wsf a0)) (hS : va_S A s.heap H locs) (hl : lv_has ls nL (lvf a0))
    (hex : ∀ (a : α) (H : Heap) (locs : List Loc) (ls : Array Slot), ex a = some x → va_P D vwCl (wsf a) H → va_D A (wsf a) → va_S A s.heap H locs → lv_has ls nL (lvf a) → W p l e R s m args below meth c H locs cells slots Q (F0 m pce ls []))
    (step : ∀ (ex1 rc : α → Option β), (∀ (a : α) (H : Heap) (locs : List Loc) (ls : Array Slot), ex1 a = some x → va_P D vwCl (wsf a) H → va_D A (wsf a) → va_S A s.heap H locs → lv_has ls nL (lvf a) → W p l e R s m args below meth c H locs cells slots Q (F0 m pce ls [])) →
      (∀ (a : α) (H : Heap) (locs : List Loc) (ls : Array Slot), rc a = some x → va_P D vwCl (wsf a) H → va_D A (wsf a) → va_S A s.heap H locs → lv_has ls nL (lvf a) → W p l e R s m args below meth c H locs cells slots Q (F0 m pc ls [])) →
      ∀ (a : α) (H : Heap) (locs : List Loc) (ls : Array Slot), b ex1 rc a = some x → va_P D vwCl (wsf a) H → va_D A (wsf a) → va_S A s.heap H locs → lv_has ls nL (lvf a) → W p l e R s m args below meth c H locs cells slots Q (F0 m pc ls [])) :
    W p l e R s m args below meth c H locs cells slots Q (F0 m pc ls []) := by
  have key : ∀ (n : Nat) (a : α) (H : Heap) (locs : List Loc) (ls : Array Slot), k_it b ex n a = some x → va_P D vwCl (wsf a) H → va_D A (wsf a) → va_S A s.heap H locs → lv_has ls nL (lvf a) → W p l e R s m args below meth c H locs cells slots Q (F0 m pc ls []) := by
    intro n
    induction n with
    | zero => intro a H locs ls h; cases h
    | succ n ih => intro a H locs ls h h1 h2 h3 h4; exact step ex (k_it b ex n) hex ih a H locs ls h h1 h2 h3 h4
  exact key n0 a0 H locs ls hf hP hD hS hl
theorem k_jn {α β : Type} {E : Option α} {f : α → Option β} {x : β} {H : Heap} {locs : List Loc} {ls : Array Slot} {st0 : List Value} (hf : E.bind f = some x) (wsf : α → va_W) (lvf : α → List (Nat × Value)) (stf : α → List Value) (pcj : Nat)
    (hj : ∀ (a : α) (H : Heap) (locs : List Loc) (ls : Array Slot), f a = some x → va_P D vwCl (wsf a) H → va_D A (wsf a) → va_S A s.heap H locs → lv_has ls nL (lvf a) → W p l e R s m args below meth c H locs cells slots Q (F0 m pcj ls (stf a)))
    (body : ∀ a : α, E = some a → (∀ (H : Heap) (locs : List Loc) (ls : Array Slot), va_P D vwCl (wsf a) H → va_D A (wsf a) → va_S A s.heap H locs → lv_has ls nL (lvf a) → W p l e R s m args below meth c H locs cells slots Q (F0 m pcj ls (stf a))) → W p l e R s m args below meth c H locs cells slots Q (F0 m pc ls st0)) :
    W p l e R s m args below meth c H locs cells slots Q (F0 m pc ls st0) := by
  obtain ⟨a, h1, h2⟩ := k_bind hf
  exact body a h1 (fun H locs ls => hj a H locs ls h2)
end KL
/-! cells -/
abbrev o_I (c : ClassId) (n : Nat) (f : Nat → Int32) : va_E := .inl (c, n, .inl f)
abbrev o_J (c : ClassId) (n : Nat) (f : Nat → Int64) : va_E := .inl (c, n, .inr (.inl f))
abbrev o_X0 (z0 : Nat) (z1 : Nat) (z2 : Int32) : va_E := .inr (0, [.ref z0, .ref z1, .int z2])
abbrev o_X1 (z0 : Int32) (z1 : Int32) : va_E := .inr (1, [.int z0, .int z1])
abbrev o_X2 (z0 : Int32) (z1 : Int32) (z2 : Int32) (z3 : Int32) (z4 : Int32) : va_E := .inr (2, [.int z0, .int z1, .int z2, .int z3, .int z4])
abbrev o_X3 (z0 : Nat) (z1 : Int32) (z2 : Int32) (z3 : Int32) : va_E := .inr (3, [.ref z0, .int z1, .int z2, .int z3])
abbrev o_X4 (z0 : Int32) (z1 : Int32) : va_E := .inr (4, [.int z0, .int z1])
abbrev o_X5 (z0 : Nat) (z1 : Int32) : va_E := .inr (5, [.ref z0, .int z1])
abbrev o_X7 (z0 : Nat) (z1 : Nat) (z2 : Nat) : va_E := .inr (6, [.ref z0, .ref z1, .ref z2])
abbrev o_X8 (z0 : Nat) (z1 : Nat) (z2 : Nat) (z3 : Nat) (z4 : Nat) (z5 : Nat) (z6 : Nat) (z7 : Nat) (z8 : Nat) (z9 : Nat) (z10 : Int32) (z11 : Int32) (z12 : Int32) (z13 : Int32) (z14 : Int32) : va_E := .inr (7, [.ref z0, .ref z1, .ref z2, .ref z3, .ref z4, .ref z5, .ref z6, .ref z7, .ref z8, .ref z9, .int z10, .int z11, .int z12, .int z13, .int z14])
abbrev o_X9 (z0 : Int32) (z1 : Int32) (z2 : Nat) (z3 : Nat) (z4 : Int32) (z5 : Int32) (z6 : Nat) (z7 : Nat) (z8 : Int32) (z9 : Int32) (z10 : Int32) (z11 : Int32) (z12 : Nat) (z13 : Nat) (z14 : Int32) (z15 : Nat) (z16 : Int32) (z17 : Int32) (z18 : Int32) (z19 : Int32) (z20 : Int32) (z21 : Int32) (z22 : Int32) (z23 : Nat) (z24 : Int32) (z25 : Int32) (z26 : Nat) (z27 : Int32) (z28 : Int32) (z29 : Nat) (z30 : Nat) (z31 : Int64) (z32 : Int32) (z33 : Int32) (z34 : Int32) (z35 : Int32) (z36 : Nat) (z37 : Nat) (z38 : Nat) (z39 : Nat) (z40 : Int64) : va_E := .inr (8, [.int z0, .int z1, .ref z2, .ref z3, .int z4, .int z5, .ref z6, .ref z7, .int z8, .int z9, .int z10, .int z11, .ref z12, .ref z13, .int z14, .ref z15, .int z16, .int z17, .int z18, .int z19, .int z20, .int z21, .int z22, .ref z23, .int z24, .int z25, .ref z26, .int z27, .int z28, .ref z29, .ref z30, .long z31, .int z32, .int z33, .int z34, .int z35, .ref z36, .ref z37, .ref z38, .ref z39, .long z40])
