section KCX
variable {p : Program} {l : Launch} {e : Env} {R : Room} {s : State} {m : MethodId} {args : Array Value} {below : List Frame} {meth : Method} {c : Code} {H : Heap} {locs : List Loc} {cells slots : Nat} {Q : State → Prop}
variable {pc : Nat} {ls : Array Slot} {rest st0 : List Value} {D : va_G} {A : Nat → Prop} {w1 : va_W} {a : Array Value}
theorem k_calliX {r : Int32} {ws wc wr : va_W} (isC isR : List Nat) (hP : va_P D vwCl ws H) (hD : va_D A ws) (hS : va_S A s.heap H locs) (hA : ∀ q, s.heap.size ≤ q → A q) (hr : va_Run p l e R s m args below meth c H locs cells slots 0 0 (F0 m pc ls st0) rest (k_I D r wc w1 H.size a) (va_A wc H.size))
    (hC : isC.map (fun i => ws[i]?) = wc.map some) (hR : isR.map (fun i => ws[i]?) = wr.map some) (hn : va_nd isR = true) (hdis : isR.all (fun i => !isC.contains i) = true)
    (kk : ∀ (H1 : Heap) (locs1 : List Loc), va_P D vwCl (wr ++ w1) H1 → va_D A (wr ++ w1) → va_S A s.heap H1 locs1 → W p l e R s m args below meth c H1 locs1 cells slots Q (F0 m (pc + 3) ls (.int r :: rest))) : W p l e R s m args below meth c H locs cells slots Q (F0 m pc ls st0) := by
  have hF := va_free hD hS hA isC hC
  refine va_calli hr hS (fun q _ h => hF q h) hF (fun r' u t H1 locs1 ht hvm hw hB hz1 hk1 hS1 => ?_)
  obtain ⟨hP1, hD1⟩ := hB
  rw [ht] at hP1
  subst hw
  obtain ⟨hP2, hD2⟩ := va_join hP hD isC isR hC hR hn (fun i hi => by
    have := List.all_eq_true.mp hdis i hi
    simpa using this) hk1 hF hP1 hD1
  exact kk H1 locs1 hP2 hD2 hS1
theorem k_calllX {r : Int64} {ws wc wr : va_W} (isC isR : List Nat) (hP : va_P D vwCl ws H) (hD : va_D A ws) (hS : va_S A s.heap H locs) (hA : ∀ q, s.heap.size ≤ q → A q) (hr : va_Run p l e R s m args below meth c H locs cells slots 0 0 (F0 m pc ls st0) rest (k_L D r wc w1 H.size a) (va_A wc H.size))
    (hC : isC.map (fun i => ws[i]?) = wc.map some) (hR : isR.map (fun i => ws[i]?) = wr.map some) (hn : va_nd isR = true) (hdis : isR.all (fun i => !isC.contains i) = true)
    (kk : ∀ (H1 : Heap) (locs1 : List Loc), va_P D vwCl (wr ++ w1) H1 → va_D A (wr ++ w1) → va_S A s.heap H1 locs1 → W p l e R s m args below meth c H1 locs1 cells slots Q (F0 m (pc + 3) ls (.long r :: rest))) : W p l e R s m args below meth c H locs cells slots Q (F0 m pc ls st0) := by
  have hF := va_free hD hS hA isC hC
  refine va_calll hr hS (fun q _ h => hF q h) hF (fun r' u t H1 locs1 ht hvm hw hB hz1 hk1 hS1 => ?_)
  obtain ⟨hP1, hD1⟩ := hB
  rw [ht] at hP1
  subst hw
  obtain ⟨hP2, hD2⟩ := va_join hP hD isC isR hC hR hn (fun i hi => by
    have := List.all_eq_true.mp hdis i hi
    simpa using this) hk1 hF hP1 hD1
  exact kk H1 locs1 hP2 hD2 hS1
end KCX
section KN
variable {p : Program} {l : Launch} {e : Env} {R : Room} {s : State} {m : MethodId} {args : Array Value} {below : List Frame} {meth : Method} {c : Code} {H : Heap} {locs : List Loc} {cells slots : Nat} {Q : State → Prop}
variable {cc : ByteArray} {ls : Array Slot} {rest : List Value}
theorem lw_nz {x : Int32} {pc p3 p4 p7 p8 : Nat} (hx : p.tables.exec = Jvm.exec) (hb : c.code = cc) (e3 : pc + 3 = p3) (e4 : pc + 4 = p4) (e7 : pc + 7 = p7) (e8 : pc + 8 = p8) (d0 : decode cc pc = .ok (.ifCond .eq 7, 3)) (d1 : decode cc p3 = .ok (.iconst 1, 1)) (d2 : decode cc p4 = .ok (.goto 4, 3)) (d3 : decode cc p7 = .ok (.iconst 0, 1)) (kk : W p l e R s m args below meth c H locs cells slots Q (F0 m p8 ls (.int (bi (decide (¬ x = 0))) :: rest))) : W p l e R s m args below meth c H locs cells slots Q (F0 m pc ls (.int x :: rest)) := by
  subst e3; subst e4; subst e7; subst e8
  refine lv_if_eq (tgt := pc + 7) hx hb d0 (by omega) (fun h => ?_) (fun h => ?_)
  · refine lv_iconst (v := 0) hx hb d3 (by decide) ?_
    rw [show decide (¬ x = 0) = false from decide_eq_false (fun q => q h)] at kk
    exact kk
  · refine lv_iconst (v := 1) hx hb d1 (by decide) ?_
    refine lv_goto (tgt := pc + 8) hx hb d2 (by omega) ?_
    rw [show decide (¬ x = 0) = true from decide_eq_true h] at kk
    exact kk
end KN
theorem lw_cmp (x : Int64) : lg_cmp x x = 0 := by
  unfold lg_cmp
  rw [if_neg (show ¬ x > x from Int64.lt_irrefl), if_pos rfl]
theorem hwF_shrink {w1 A p q r w1' A' p' q' : Int32} {F : Nat} (e : f_X8_shrink w1 A p q = some (r, w1', A', p', q')) (h : w1 = 0 ∨ F ≠ 0) : w1' = 0 ∨ F ≠ 0 := by
  rcases h with rfl | h
  · unfold f_X8_shrink at e
    rw [if_pos (show f_X8_hasFrame 0 = 0 by decide)] at e
    cases e
    exact Or.inl rfl
  · exact Or.inr h
theorem RF_w {k1 w1 A p q k2 w2 : Int32} {arr mk : Nat → Int32} (h : RF k1 w1 A p q k2 w2 arr mk) : ∃ w : Nat, w ≤ 4 ∧ w1 = nI w ∧ w2 = nI w := by
  obtain ⟨kk, w, R, P, Q, hk, ok, rfl, rfl, rfl, rfl, rfl, rfl, rfl, hb, hm⟩ := h
  exact ⟨w, ok.1, rfl, rfl⟩
