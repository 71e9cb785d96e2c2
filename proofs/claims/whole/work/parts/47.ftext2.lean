def rdG (l : Nat) (o : C9) (o' : M9) : Prop := (∃ i s t, o = some (nI i, s) ∧ o' = some (nI i, t) ∧ i < l) ∨ (∃ pl fr le dk dw da dp dq sg nk nw nf nl np nq narr, o = some (nI l, pl, fr, le, dk, dw, da, dp, dq) ∧ o' = some (nI l, sg, nk, nw, nf, nl, np, nq, narr) ∧ RT pl fr le dk dw da dp dq sg nk nw nf nl np nq narr)
theorem readFr_e {l : Nat} (hl : l ≤ 66) {codes page : Nat → Int32} {c : Nat → Nat} (hc : ∀ i, i < l → 32 ≤ c i ∧ c i ≤ 126 ∧ codes i = nI (c i) ∧ page i = nI (c i)) (a1 a2 a3 a4 a5 a6 a7 a8 b1 b2 b3 b4 b5 b6 b7 : Int32) (narr : Nat → Int32) : rdG l (f_X6_firstFault_X3 a1 a2 a3 a4 a5 a6 a7 a8 (nI l) codes) (f_X9_readFrame (nI l) b1 b2 b3 b4 b5 b6 b7 page narr) := by
  unfold f_X6_firstFault_X3 f_X9_readFrame f_X3_begin
  rw [show f_X2_build a4 a5 a6 a7 a8 0 0 = some (0, nI 0, eA (gr 0 0), 0, 0) from build_e (n := 0) (x := 0) (by omega) (by omega) a4 a5 a6 a7 a8, Option.bind_some, Option.bind_some, show f_X5_length (nI l) = nI l from rfl]
  try dsimp only
  have e0 : eA (gr 0 0) = eA (fun _ _ => false) := eA_congr (fun a b _ _ => rfl)
  rw [e0]
  have z4 : (0 : Int32) = bI 4 (fun _ => false) := (bI_0 (n := 4) (by omega)).symm
  refine k_runG (N := 1000) (fun (o' : M9) => rdG l _ o') 16 (fun (k : Nat) (s : Int32 × (Nat → Int32)) => s.1 = nI k ∧ ∀ j, j < k → s.2 j = 0) (by omega) ⟨rfl, fun j h => absurd h (Nat.not_lt_zero j)⟩ ?_ ?_ ?_
  · intro rc k s hk hI
    obtain ⟨h1, h2⟩ := hI
    refine ⟨(nI (k + 1), upd s.2 k 0), ⟨rfl, fun j hj => ?_⟩, ?_⟩
    · try dsimp only
      by_cases q : j = k
      · rw [q, pk_us]
      · rw [pk_un q]; exact h2 j (by omega)
    · try dsimp only
      rw [h1, if_neg (show ¬ (16 : Int32) ≤ nI k from nI_nge4 (a := 16) (by omega) (by omega) hk), chk_e hk (by omega), cl_e (show k < 2 ^ 31 by omega), nI_1]
      rfl
  · intro rc s hI
    try dsimp only
    rw [hI.1, if_pos (show (16 : Int32) ≤ nI 16 from nI_ge4 (a := 16) (by omega) (by omega) (Nat.le_refl 16))]
  · intro s hI
    obtain ⟨-, hz⟩ := hI
    try dsimp only
    refine k_sim (N := 1000) (N' := 1000) (rdG l) l (fun (k : Nat) (s : Int32 × Int32 × Int32 × Int32 × Int32 × Int32 × Int32 × Int32 × Int32) (t : Int32 × Int32 × Int32 × Int32 × Int32 × Int32 × Int32 × Int32 × (Nat → Int32)) => s.1 = nI k ∧ t.1 = nI k ∧ RT s.2.1 s.2.2.1 s.2.2.2.1 s.2.2.2.2.1 s.2.2.2.2.2.1 s.2.2.2.2.2.2.1 s.2.2.2.2.2.2.2.1 s.2.2.2.2.2.2.2.2 t.2.1 t.2.2.1 t.2.2.2.1 t.2.2.2.2.1 t.2.2.2.2.2.1 t.2.2.2.2.2.2.1 t.2.2.2.2.2.2.2.1 t.2.2.2.2.2.2.2.2) (by omega) (by omega) ⟨rfl, rfl, 0, 0, 0, 0, 0, (fun _ _ => false), (fun _ => false), (fun _ => false), by omega, rfl, rfl, fun h => by omega, fun h => by omega, fun h => by omega, ⟨by omega, fun _ => rfl, fun h => by omega, rfl⟩, rfl, ba_mk (fun x y hx hy => hz _ (by omega)), z4, z4, z4, z4, fun h => by omega, fun _ => ⟨fun _ _ => rfl, fun _ => rfl, fun _ => rfl⟩⟩ ?_ ?_
    · intro rc rc' k u v hk hI _
      obtain ⟨h1, h2, h3⟩ := hI
      obtain ⟨c1, c2, c3, c4⟩ := hc k hk
      try dsimp only
      rw [h1, h2, if_neg (nI_nge4 (by omega) (by omega) hk), if_neg (nI_nge4 (by omega) (by omega) hk), at5_e (show k < 66 by omega), Option.bind_some, chk_e (show k < 66 by omega) (by omega), cl_e (show k < 2 ^ 31 by omega), c3, c4]
      rcases step_e h3 c1 c2 with ⟨s', t', e1, e2⟩ | ⟨pl, fr, le, dk, dw, da, dp, dq, sg, nk, nw, nf, nl, np, nq, na, e1, e2, e3⟩
      · rw [e1, e2, Option.bind_some, Option.bind_some]
        exact .inr (.inl ⟨k, _, _, rfl, rfl, hk⟩)
      · rw [e1, e2, Option.bind_some, Option.bind_some, nI_1]
        exact .inl ⟨_, _, ⟨rfl, rfl, e3⟩, rfl, rfl⟩
    · intro rc rc' u v hI
      obtain ⟨h1, h2, h3⟩ := hI
      try dsimp only
      rw [h1, h2, if_pos (nI_ge4 (by omega) (by omega) (Nat.le_refl l)), if_pos (nI_ge4 (by omega) (by omega) (Nat.le_refl l))]
      exact .inr ⟨_, _, _, _, _, _, _, _, _, _, _, _, _, _, _, _, rfl, rfl, h3⟩
theorem st_fault {len plen : Int32} {codes page : Nat → Int32} (hp : RPg len codes plen page) (a1 a2 a3 a4 a5 a6 a7 a8 rd du b1 b2 b3 b4 b5 b6 b7 w0 : Int32) (narr : Nat → Int32) (x : Int32) :
    ∃ r a1' a2' a3' a4' a5' a6' a7' a8' rd' du' b1' b2' b3' b4' b5' b6' b7' w0' narr', f_X8_fault len codes a1 a2 a3 a4 a5 a6 a7 a8 rd du x = some (r, a1', a2', a3', a4', a5', a6', a7', a8', rd', du') ∧ f_X9_fault plen b1 b2 b3 b4 b5 b6 b7 w0 page narr x = some (r, b1', b2', b3', b4', b5', b6', b7', w0', narr') := by
  obtain ⟨l, c, hl, rfl, rfl, hc⟩ := hp
  unfold f_X8_fault f_X9_fault
  rcases idx_k x 2 1 (by omega) (by decide) with ⟨j, g1, rfl, g2, g3⟩ | ⟨g2, g3⟩
  · simp only [show f_X8_isBelow (nI j) 2 = 1 from g2, g3, i10, if_false]
    rcases (by omega : j = 0 ∨ j = 1) with rfl | rfl
    · rw [if_pos (show nI 0 = 0 from rfl), if_pos (show nI 0 = 0 from rfl)]
      rcases readFr_e hl hc a1 a2 a3 a4 a5 a6 a7 a8 b1 b2 b3 b4 b5 b6 b7 narr with ⟨i, s, t, e1, e2, e3⟩ | ⟨pl, fr, le, dk, dw, da, dp, dq, sg, nk, nw, nf, nl, np, nq, na, e1, e2, e3⟩
      · rw [e1, e2]
        exact ⟨_, _, _, _, _, _, _, _, _, _, _, _, _, _, _, _, _, _, _, _, rfl, rfl⟩
      · rw [e1, e2]
        exact ⟨_, _, _, _, _, _, _, _, _, _, _, _, _, _, _, _, _, _, _, _, rfl, rfl⟩
    · rw [if_neg (show ¬ nI 1 = 0 by decide), if_neg (show ¬ nI 1 = 0 by decide)]
      rcases readF_e (g := fun i => nI (c i)) hl (fun i hi => ⟨(hc i hi).2.2.1, (hc i hi).2.2.2⟩) rd du w0 with ⟨i, a, b, d, e1, e2, hi⟩ | ⟨a, e1, e2, hT, hd⟩
      · rw [e1, e2]
        exact ⟨_, _, _, _, _, _, _, _, _, _, _, _, _, _, _, _, _, _, _, _, rfl, rfl⟩
      · rw [e1, e2]
        exact ⟨_, _, _, _, _, _, _, _, _, _, _, _, _, _, _, _, _, _, _, _, rfl, rfl⟩
  · simp only [show f_X8_isBelow x 2 = 0 from g2, g3, i00, if_true]
    exact ⟨_, _, _, _, _, _, _, _, _, _, _, _, _, _, _, _, _, _, _, _, rfl, rfl⟩
theorem marksZ {β : Type} {P Q : Nat → Bool} (dst : Nat → Int32) (ex : Int32 × (Nat → Int32) → Option β) : ∃ mk', mks mk' P Q ∧ k_it (fun (ex67 rc67 : (Int32 × (Nat → Int32)) → Option β) (a67 : Int32 × (Nat → Int32)) => (if 4 ≤ a67.1 then ex67 (a67.1, a67.2) else k_chk a67.1 4 (rc67 ((a67.1 + 1), (upd a67.2 (Int32.toNatClampNeg a67.1) (((bI 4 P >>> (a67.1 &&& 31)) &&& 1) + (2 * ((bI 4 Q >>> (a67.1 &&& 31)) &&& 1)))))))) ex 1000 (0, dst) = ex (nI 4, mk') := by
  refine k_runG (N := 1000) (fun (o : Option β) => ∃ mk', mks mk' P Q ∧ o = ex (nI 4, mk')) 4 (fun (k : Nat) (s : Int32 × (Nat → Int32)) => s.1 = nI k ∧ ∀ j, j < k → s.2 j = mkv (P j) (Q j)) (by omega) ⟨rfl, fun j h => absurd h (Nat.not_lt_zero j)⟩ ?_ ?_ ?_
  · intro rc k s hk hI
    obtain ⟨h1, h2⟩ := hI
    refine ⟨(nI (k + 1), upd s.2 k (mkv (P k) (Q k))), ⟨rfl, fun j hj => ?_⟩, ?_⟩
    · try dsimp only
      by_cases q : j = k
      · rw [q, pk_us]
      · rw [pk_un q]; exact h2 j (by omega)
    · try dsimp only
      rw [h1, if_neg (show ¬ (4 : Int32) ≤ nI k from nI_nge4 (a := 4) (by omega) (by omega) hk), chk_e hk (by omega), cl_e (show k < 2 ^ 31 by omega), show ((bI 4 P >>> (nI k &&& 31)) &&& 1) + (2 * ((bI 4 Q >>> (nI k &&& 31)) &&& 1)) = f_X2_marks (bI 4 P) (bI 4 Q) (nI k) from rfl, marks_e P Q hk, nI_1]
  · intro rc s hI
    try dsimp only
    rw [hI.1, if_pos (show (4 : Int32) ≤ nI 4 from nI_ge4 (a := 4) (by omega) (by omega) (Nat.le_refl 4))]
    rw [← hI.1]
  · intro s hI
    exact ⟨s.2, hI.2, by rw [← hI.1]⟩
theorem stg_9 {p : Nat} (hp : p ≤ 9) : (nI p = 9 ↔ p = 9) ∧ (nI (stg p) = 9 ↔ p = 9) := by
  rcases (by omega : p = 0 ∨ p = 1 ∨ p = 2 ∨ p = 3 ∨ p = 4 ∨ p = 5 ∨ p = 6 ∨ p = 7 ∨ p = 8 ∨ p = 9) with rfl | rfl | rfl | rfl | rfl | rfl | rfl | rfl | rfl | rfl <;> decide
abbrev M16 := Option (Int32 × Int32 × Int32 × Int32 × Int32 × Int32 × Int32 × Int32 × Int32 × Int32 × Int32 × Int32 × Int32 × (Nat → Int32) × (Nat → Int32) × (Nat → Int32))
theorem st_frame {len plen : Int32} {codes page : Nat → Int32} (hp : RPg len codes plen page) {F K : Nat} {k1 w1 A p q k2 w2 : Int32} {arr mk : Nat → Int32} (h : RF k1 w1 A p q k2 w2 arr mk) {num poss seen : Int32} {what can : Nat → Int32} (ho : ROb num poss seen what can) (hwF : w1 = 0 ∨ F ≠ 0) {sv kf s1 s2 s3 s4 s5 sn sp l1 l2 ks : Int32} {ka km kh kc : Nat → Int32} (hs : RSv F K sv kf s1 s2 s3 s4 s5 sn sp l1 l2 ks ka km kh kc) (a1 a2 a3 a4 a5 a6 a7 a8 b1 b2 b3 b4 b5 b6 b7 : Int32) (narr : Nat → Int32) :
    ∃ r sv' F' len' a1' a2' a3' a4' a5' a6' a7' a8' k1' w1' A' p' q' num' poss' k2' w2' seen' plen' b1' b2' b3' b4' b5' b6' b7' arr' mk' narr',
      f_X8_frame sv (nI F) len codes a1 a2 a3 a4 a5 a6 a7 a8 k1 w1 A p q num poss = some (r, sv', nI F', len', a1', a2', a3', a4', a5', a6', a7', a8', k1', w1', A', p', q', num', poss') ∧
      f_X9_frame k2 w2 (nI F) seen plen b1 b2 b3 b4 b5 b6 b7 arr mk page narr = some (r, k2', w2', nI F', seen', plen', b1', b2', b3', b4', b5', b6', b7', arr', mk', narr') ∧
      RPg len' codes plen' page ∧ RF k1' w1' A' p' q' k2' w2' arr' mk' ∧ ROb num' poss' seen' what can ∧ (w1' = 0 ∨ F' ≠ 0) ∧ RSv F' K sv' kf s1 s2 s3 s4 s5 sn sp l1 l2 ks ka km kh kc ∧ F' ≤ F + 1 := by
  have hp0 := hp
  obtain ⟨l, c, hl, rfl, rfl, hc⟩ := hp
  unfold f_X8_frame f_X9_frame f_X6_isWhole_X3
  rw [show f_X5_length (nI l) = nI l from rfl]
  rcases readFr_e hl hc a1 a2 a3 a4 a5 a6 a7 a8 b1 b2 b3 b4 b5 b6 b7 narr with ⟨i, s, t, e1, e2, hi⟩ | ⟨pl, fr, le, dk, dw, da, dp, dq, sg, nk, nw, nf, nl, np, nq, na, e1, e2, e3⟩
  · rw [e1, e2, Option.bind_some, Option.bind_some]
    try dsimp only
    rw [if_neg (nI_ne (by omega) (by omega) (show i ≠ l by omega)), Option.bind_some, if_pos ((nI_ltI (by omega) (by omega)).mpr hi)]
    exact ⟨_, _, F, _, _, _, _, _, _, _, _, _, _, _, _, _, _, _, _, _, _, _, _, _, _, _, _, _, _, _, _, _, _, rfl, rfl, hp0, h, ho, hwF, hs, by omega⟩
  · rw [e1, e2, Option.bind_some, Option.bind_some]
    try dsimp only
    rw [if_pos (show nI l = nI l from rfl), if_neg (show ¬ nI l < nI l from fun q => by have := (nI_ltI (by omega) (by omega)).mp q; omega)]
    unfold f_X3_isComplete
    obtain ⟨z, kk, w, a, cc, R, P, Q, hp9, rfl, rfl, hk, hw, hfa, hcc, rfl, hna, rfl, rfl, rfl, rfl, hin, hno⟩ := e3
    by_cases h9 : z = 9
    · rw [if_pos ((stg_9 hp9).1.mpr h9), if_pos ((stg_9 hp9).2.mpr h9)]
      simp only [i10, if_false]
      rw [Option.bind_some]
      simp only [i10, if_false]
      simp only [k_let]
      obtain ⟨w1', w4, rfl, rfl⟩ := hw (by omega)
      obtain ⟨k5, rfl, rfl⟩ := hk (by omega)
      obtain ⟨i1, i2, i3⟩ := hin (by omega)
      rw [copyZ (n := 16) (by omega) _ (fun x => vp_nar .boolean x) 16 rfl]
      try dsimp only
      obtain ⟨mk', hm1, hm2⟩ := marksZ (β := Int32 × Int32 × Int32 × Int32 × Int32 × Int32 × Int32 × Int32 × Int32 × Int32 × Int32 × Int32 × Int32 × (Nat → Int32) × (Nat → Int32) × (Nat → Int32)) (P := P) (Q := Q) mk (fun (a67 : Int32 × (Nat → Int32)) => some (nI w, nI kk, nI w, (nI F + 1), 0, 0, nI (stg z), nI kk, nI w, nf, nl, bI 4 P, bI 4 Q, (fun j => if j < 16 then vp_nar .boolean (na j) else arr j), a67.2, na))
      rw [hm2, nI_1]
      refine ⟨_, _, F + 1, _, _, _, _, _, _, _, _, _, _, _, _, _, _, _, _, _, _, _, _, _, _, _, _, _, _, _, _, _, _, rfl, rfl, RPg_0 codes page, ⟨kk, w, R, P, Q, k5, ⟨w4, i1, i2, i3⟩, rfl, rfl, rfl, rfl, rfl, rfl, rfl, ba_copy hna, hm1⟩, ROb_0 what can, .inr (by omega), ⟨hs.1, by have := hs.2.1; omega, .inl ⟨rfl, .inr (by have := hs.2.1; omega)⟩⟩, by omega⟩
    · rw [if_neg (fun q => h9 ((stg_9 hp9).1.mp q)), if_neg (fun q => h9 ((stg_9 hp9).2.mp q))]
      simp only [i00, if_true]
      rw [Option.bind_some]
      simp only [i00, if_true]
      exact ⟨_, _, F, _, _, _, _, _, _, _, _, _, _, _, _, _, _, _, _, _, _, _, _, _, _, _, _, _, _, _, _, _, _, rfl, rfl, hp0, h, ho, hwF, hs, by omega⟩
