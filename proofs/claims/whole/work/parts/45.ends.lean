/-! where the parts end -/
theorem end_ex (g : Nat → Int32) (l i : Nat) : ∃ j, (i < l → due g l < due g i → (i < j ∧ j ≤ l ∧ due g j < due g i ∧ ∀ k, i < k → k < j → due g i ≤ due g k)) := by
  by_cases h : i < l ∧ due g l < due g i
  · obtain ⟨j, ⟨h1, h2⟩, h3⟩ := pk_least (fun j => i < j ∧ due g j < due g i) ⟨l, h⟩
    refine ⟨j, fun _ _ => ⟨h1, ?_, h2, fun k hk hk2 => ?_⟩⟩
    · rcases Nat.lt_or_ge l j with q | q
      · exact absurd h (h3 l q)
      · exact q
    · rcases Nat.lt_or_ge (due g k) (due g i) with q | q
      · exact absurd ⟨hk, q⟩ (h3 k hk2)
      · exact q
  · exact ⟨0, fun a b => absurd ⟨a, b⟩ h⟩
noncomputable def en (g : Nat → Int32) (l i : Nat) : Nat := Classical.choose (end_ex g l i)
theorem en_p {g : Nat → Int32} {l i : Nat} (hT : okT g l) (h0 : due g l = 0) (hi : i < l) : i < en g l i ∧ en g l i ≤ l ∧ due g (en g l i) < due g i ∧ ∀ k, i < k → k < en g l i → due g i ≤ due g k := Classical.choose_spec (end_ex g l i) hi (by rw [h0]; exact (hT i hi).2.1)
theorem en_is {g : Nat → Int32} {l i j : Nat} (hT : okT g l) (h0 : due g l = 0) (hi : i < l) (h1 : i < j) (h2 : due g j < due g i) (h3 : ∀ k, i < k → k < j → due g i ≤ due g k) : en g l i = j := by
  obtain ⟨p1, p2, p3, p4⟩ := en_p hT h0 hi
  rcases Nat.lt_trichotomy (en g l i) j with q | q | q
  · have := h3 _ p1 q; omega
  · exact q
  · have := p4 _ h1 q; omega
theorem due_s (g : Nat → Int32) (i : Nat) : due g (i + 1) = due g i - 1 + ar (g i) := rfl
theorem en_due {g : Nat → Int32} {l i : Nat} (hT : okT g l) (h0 : due g l = 0) (hi : i < l) : due g (en g l i) + 1 = due g i := by
  obtain ⟨p1, p2, p3, p4⟩ := en_p hT h0 hi
  have hm : due g (en g l i) = due g (en g l i - 1) - 1 + ar (g (en g l i - 1)) := by
    have := due_s g (en g l i - 1)
    rw [show en g l i - 1 + 1 = en g l i by omega] at this
    exact this
  by_cases q : en g l i - 1 = i
  · rw [q] at hm; omega
  · have := p4 (en g l i - 1) (by omega) (by omega)
    omega
theorem en_0 {g : Nat → Int32} {l i : Nat} (hT : okT g l) (h0 : due g l = 0) (hi : i < l) (h : ar (g i) = 0) : en g l i = i + 1 := en_is hT h0 hi (by omega) (by rw [due_s, h]; have := (hT i hi).2.1; omega) (fun k h1 h2 => by omega)
theorem nxt_lt {g : Nat → Int32} {l i : Nat} (hT : okT g l) (h0 : due g l = 0) (hi : i < l) (h : 0 < ar (g i)) : i + 1 < l := by
  have h1 := (hT i hi).2.1
  have h2 := due_s g i
  rcases Nat.lt_or_ge (i + 1) l with q | q
  · exact q
  · have : i + 1 = l := by omega
    rw [this, h0] at h2; omega
theorem en_1 {g : Nat → Int32} {l i : Nat} (hT : okT g l) (h0 : due g l = 0) (hi : i < l) (h : ar (g i) = 1) : en g l i = en g l (i + 1) := by
  have hn := nxt_lt hT h0 hi (by omega)
  obtain ⟨p1, p2, p3, p4⟩ := en_p hT h0 hn
  have h1 := (hT i hi).2.1
  have hd := due_s g i
  refine en_is hT h0 hi (by omega) (by omega) (fun k h3 h4 => ?_)
  by_cases q : k = i + 1
  · rw [q]; omega
  · have := p4 k (by omega) h4; omega
theorem en_2 {g : Nat → Int32} {l i : Nat} (hT : okT g l) (h0 : due g l = 0) (hi : i < l) (h : ar (g i) = 2) : en g l (i + 1) < l ∧ en g l i = en g l (en g l (i + 1)) := by
  have hn := nxt_lt hT h0 hi (by omega)
  obtain ⟨p1, p2, p3, p4⟩ := en_p hT h0 hn
  have hed := en_due hT h0 hn
  have h1 := (hT i hi).2.1
  have hd := due_s g i
  have hlt : en g l (i + 1) < l := by
    rcases Nat.lt_or_ge (en g l (i + 1)) l with q | q
    · exact q
    · have : en g l (i + 1) = l := by omega
      rw [this, h0] at hed; omega
  refine ⟨hlt, ?_⟩
  obtain ⟨q1, q2, q3, q4⟩ := en_p hT h0 hlt
  refine en_is hT h0 hi (by omega) (by omega) (fun k h3 h4 => ?_)
  by_cases z : k = i + 1
  · rw [z]; omega
  · rcases Nat.lt_trichotomy k (en g l (i + 1)) with z2 | z2 | z2
    · have := p4 k (by omega) z2; omega
    · rw [z2]; omega
    · have := q4 k z2 h4; omega
theorem okT_16 {g : Nat → Int32} {l : Nat} (hT : okT g l) : l ≤ 16 := by
  rcases Nat.eq_zero_or_pos l with q | q
  · omega
  · have := (hT (l - 1) (by omega)).2.2
    omega
theorem wf_en {g : Nat → Int32} {l : Nat} (hT : okT g l) (h0 : due g l = 0) : wfF l g (en g l) := ⟨okT_16 hT, fun i hi => by
  obtain ⟨p1, p2, p3, p4⟩ := en_p hT h0 hi
  exact ⟨(hT i hi).1, p1, p2, fun h => nxt_lt hT h0 hi h, fun h => (en_2 hT h0 hi h).1⟩⟩
/-! reading the formula -/
theorem opl_e {β : Type} (f : Int32 → Option Int32) (ex : Int32 × Int32 → Option β) (m : Nat) (hm : m < 3) (x : Int32) :
    k_it (fun (ex16 rc16 : (Int32 × Int32) → Option β) (a16 : Int32 × Int32) => (if nI m ≤ a16.2 then ex16 (a16.1, a16.2) else Option.bind (f a16.1) (fun (q24 : Int32) => rc16 (q24, (a16.2 + 1))))) ex 1000 (x, 0) = if m = 0 then ex (x, 0) else if m = 1 then Option.bind (f x) (fun q => ex (q, 1)) else Option.bind (f x) (fun q => Option.bind (f q) (fun q2 => ex (q2, 2))) := by
  rcases (by omega : m = 0 ∨ m = 1 ∨ m = 2) with rfl | rfl | rfl
  · rfl
  · rw [if_neg (by omega), if_pos rfl, k_it_s]
    dsimp only
    rw [if_neg (show ¬ nI 1 ≤ 0 by decide)]
    congr 1
  · rw [if_neg (by omega), if_neg (by omega), k_it_s]
    dsimp only
    rw [if_neg (show ¬ nI 2 ≤ 0 by decide)]
    congr 1
theorem end_t (len : Int32) (ends : Nat → Int32) (x : Int32) : ∃ y, f_X0_end len ends x = some y := by
  unfold f_X0_end
  rcases idx_k x 16 15 (by omega) (by decide) with ⟨j, g1, rfl, g2, g3⟩ | ⟨g2, g3⟩
  · rw [show f_X8_isBelow (nI j) 16 = 1 from g2, chk_e g1 (by omega)]
    exact ⟨_, rfl⟩
  · rw [show f_X8_isBelow x 16 = 0 from g2]
    exact ⟨_, rfl⟩
theorem endFrom_t (len : Int32) (signs ends : Nat → Int32) {i : Nat} (hi : i < 16) : ∃ y, f_X0_endFrom len signs ends (nI i) = some y := by
  unfold f_X0_endFrom
  rw [signAt_e signs hi, Option.bind_some]
  rcases oper_or (signs i) with ⟨h1, h2⟩ | h2
  · rw [h2, opl_e (f_X0_end len ends) _ (ar (signs i)) (ar_lt _)]
    obtain ⟨y, hy⟩ := end_t len ends (nI i + 1)
    obtain ⟨z, hz⟩ := end_t len ends y
    rcases (by have := ar_lt (signs i); omega : ar (signs i) = 0 ∨ ar (signs i) = 1 ∨ ar (signs i) = 2) with q | q | q
    · rw [q]; exact ⟨_, rfl⟩
    · rw [q, if_neg (by omega), if_pos rfl, hy]; exact ⟨_, rfl⟩
    · rw [q, if_neg (by omega), if_neg (by omega), hy, Option.bind_some, hz]; exact ⟨_, rfl⟩
  · rw [h2]
    exact ⟨_, rfl⟩
theorem endFrom_e {l : Nat} {g : Nat → Int32} (hT : okT g l) (h0 : due g l = 0) {signs ends : Nat → Int32} {i : Nat} (hi : i < l) (hs : signs i = g i) (he : ∀ j, i < j → j < l → ends j = nI (en g l j)) (len : Int32) : f_X0_endFrom len signs ends (nI i) = some (nI (en g l i)) := by
  have h16 := okT_16 hT
  unfold f_X0_endFrom
  rw [signAt_e signs (show i < 16 by omega), Option.bind_some, hs, oper_e (hT i hi).1, opl_e (f_X0_end len ends) _ (ar (g i)) (ar_lt _), nI_1]
  have har := ar_lt (g i)
  rcases (by omega : ar (g i) = 0 ∨ ar (g i) = 1 ∨ ar (g i) = 2) with q | q | q
  · rw [q, if_pos rfl, en_0 hT h0 hi q]
  · have hn := nxt_lt hT h0 hi (by omega)
    rw [q, if_neg (by omega), if_pos rfl, end_e _ _ (show i + 1 < 16 by omega), he _ (by omega) hn, Option.bind_some, en_1 hT h0 hi q]
  · have hn := nxt_lt hT h0 hi (by omega)
    obtain ⟨z1, z2⟩ := en_2 hT h0 hi q
    have hp := (en_p hT h0 hn).1
    rw [q, if_neg (by omega), if_neg (by omega), end_e _ _ (show i + 1 < 16 by omega), he _ (by omega) hn, Option.bind_some, end_e _ _ (show en g l (i + 1) < 16 by omega), he _ (by omega) z1, Option.bind_some, z2]
theorem read0_e {l : Nat} {g : Nat → Int32} (hT : okT g l) (h0 : due g l = 0) {codes : Nat → Int32} (hc : ∀ i, i < l → codes i = g i) (len : Int32) (signs ends : Nat → Int32) : ∃ signs' ends', f_X0_read len signs ends (nI l) codes = some (nI l, signs', ends') ∧ RFo l g (en g l) signs' ends' := by
  have h16 := okT_16 hT
  unfold f_X0_read
  rw [show f_X5_length (nI l) = nI l from rfl]
  refine k_runG (N := 1000) (fun (o : Option (Int32 × (Nat → Int32) × (Nat → Int32))) => ∃ signs' ends', o = some (nI l, signs', ends') ∧ RFo l g (en g l) signs' ends') 16 (fun (k : Nat) (s : Int32 × (Nat → Int32)) => s.1 = nI k ∧ ∀ i, i < k → s.2 i = codes i) (by omega) ⟨rfl, fun i h => absurd h (Nat.not_lt_zero i)⟩ ?_ ?_ ?_
  · intro rc k s hk hI
    obtain ⟨h1, h2⟩ := hI
    refine ⟨(nI (k + 1), upd s.2 k (codes k)), ⟨rfl, fun i hi => ?_⟩, ?_⟩
    · dsimp only
      by_cases q : i = k
      · rw [q, pk_us]
      · rw [pk_un q]; exact h2 i (by omega)
    · dsimp only
      rw [h1, if_neg (show ¬ (16 : Int32) ≤ nI k from nI_nge4 (a := 16) (by omega) (by omega) hk), at5_e (show k < 66 by omega), Option.bind_some, chk_e hk (by omega), cl_e (show k < 2 ^ 31 by omega), nI_1]
  · intro rc s hI
    dsimp only
    rw [hI.1, if_pos (show (16 : Int32) ≤ nI 16 from nI_ge4 (a := 16) (by omega) (by omega) (Nat.le_refl 16))]
  · intro s hI
    obtain ⟨-, hs⟩ := hI
    try dsimp only
    refine k_runG (N := 1000) (fun (o : Option (Int32 × (Nat → Int32) × (Nat → Int32))) => ∃ signs' ends', o = some (nI l, signs', ends') ∧ RFo l g (en g l) signs' ends') 16 (fun (k : Nat) (u : Int32 × (Nat → Int32)) => u.1 = nI (16 - k) - 1 ∧ ∀ j, 16 - k ≤ j → j < l → u.2 j = nI (en g l j)) (by omega) ⟨rfl, fun j h1 h2 => by omega⟩ ?_ ?_ ?_
    · intro rc k u hk hI
      obtain ⟨h1, h2⟩ := hI
      have hj : u.1 = nI (15 - k) := by rw [h1, show 16 - k = (15 - k) + 1 by omega, dn_1]
      have hy : ∃ y, f_X0_endFrom (nI l) s.2 u.2 (nI (15 - k)) = some y ∧ (15 - k < l → y = nI (en g l (15 - k))) := by
        by_cases q : 15 - k < l
        · exact ⟨_, endFrom_e hT h0 q (by rw [hs _ (by omega)]; exact hc _ q) (fun j h3 h4 => h2 j (by omega) h4) _, fun _ => rfl⟩
        · obtain ⟨y, hy⟩ := endFrom_t (nI l) s.2 u.2 (show 15 - k < 16 by omega)
          exact ⟨y, hy, fun z => absurd z q⟩
      obtain ⟨y, hy1, hy2⟩ := hy
      refine ⟨(nI (15 - k) + -1, upd u.2 (15 - k) y), ⟨?_, fun j h3 h4 => ?_⟩, ?_⟩
      · dsimp only
        rw [dn_2, show 16 - (k + 1) = 15 - k by omega]
      · dsimp only
        by_cases q : j = 15 - k
        · rw [q, pk_us]; exact hy2 (by omega)
        · rw [pk_un q]; exact h2 j (by omega) h4
      · dsimp only
        rw [hj, if_neg (nI_pos (show 15 - k < 2 ^ 31 by omega)), hy1, Option.bind_some, chk_e (show 15 - k < 16 by omega) (by omega), cl_e (show 15 - k < 2 ^ 31 by omega)]
    · intro rc u hI
      dsimp only
      rw [hI.1, if_pos (show nI (16 - 16) - 1 < 0 by decide)]
    · intro u hI
      exact ⟨_, _, rfl, wf_en hT h0, fun i hi => by rw [hs i (by omega)]; exact hc i hi, fun i hi => hI.2 i (by omega) hi⟩
theorem nxt_e {β : Type} (beh : Nat → Int32) (ex : Int32 × Int32 → Option β) (m : Nat) (hm : m < 3) (x : Int32) :
    k_it (fun (ex69 rc69 : (Int32 × Int32) → Option β) (a69 : Int32 × Int32) => (if nI m ≤ a69.2 then ex69 (a69.1, a69.2) else k_chk a69.1 17 (rc69 ((beh (Int32.toNatClampNeg a69.1)), (a69.2 + 1))))) ex 1000 (x, 0) = if m = 0 then ex (x, 0) else if m = 1 then k_chk x 17 (ex (beh (Int32.toNatClampNeg x), 1)) else k_chk x 17 (k_chk (beh (Int32.toNatClampNeg x)) 17 (ex (beh (Int32.toNatClampNeg (beh (Int32.toNatClampNeg x))), 2))) := by
  rcases (by omega : m = 0 ∨ m = 1 ∨ m = 2) with rfl | rfl | rfl
  · rfl
  · rw [if_neg (by omega), if_pos rfl, k_it_s]
    dsimp only
    rw [if_neg (show ¬ nI 1 ≤ 0 by decide)]
    congr 1
  · rw [if_neg (by omega), if_neg (by omega), k_it_s]
    dsimp only
    rw [if_neg (show ¬ nI 2 ≤ 0 by decide)]
    congr 1
def RFm (L : Nat) (g : Nat → Int32) (e : Nat → Nat) (fL fs : Int32) (signs ends signAt behind : Nat → Int32) (ss : Int32) : Prop := fL = nI L ∧ ss = nI L ∧ RFo L g e signs ends ∧ RMo L g e signAt behind ∧ fs = 0
theorem st_formula {len plen : Int32} {codes page : Nat → Int32} (hp : RPg len codes plen page) {L : Nat} {g : Nat → Int32} {e : Nat → Nat} {signs ends signAt behind : Nat → Int32} (hf : RFo L g e signs ends) (hf2 : RMo L g e signAt behind) (G : Nat) (rd du w0 : Int32) :
    ∃ r L' g' e' G' len' rd' du' signs' ends' plen' w0' signAt' behind', f_X8_formula (nI G) len codes rd du (nI L) signs ends = some (r, nI G', len', rd', du', nI L', signs', ends') ∧ f_X9_formula (nI L) (nI G) plen w0 signAt behind page = some (r, nI L', nI G', plen', w0', signAt', behind') ∧ RPg len' codes plen' page ∧ RFo L' g' e' signs' ends' ∧ RMo L' g' e' signAt' behind' := by
  have hp0 := hp
  obtain ⟨l, c, hl, rfl, rfl, hc⟩ := hp
  unfold f_X8_formula f_X9_formula f_X6_isWhole_X1
  rw [show f_X5_length (nI l) = nI l from rfl]
  rcases readF_e (g := fun i => nI (c i)) hl (fun i hi => ⟨(hc i hi).2.2.1, (hc i hi).2.2.2⟩) rd du w0 with ⟨i, a, b, d, e1, e2, hi⟩ | ⟨a, e1, e2, hT, hd⟩
  · rw [e1, e2, Option.bind_some, Option.bind_some]
    dsimp only
    rw [if_neg (nI_ne (by omega) (by omega) (show i ≠ l by omega)), Option.bind_some, if_pos ((nI_ltI (by omega) (by omega)).mpr hi)]
    exact ⟨_, L, g, e, G, _, _, _, _, _, _, _, _, _, rfl, rfl, hp0, hf, hf2⟩
  · rw [e1, e2, Option.bind_some, Option.bind_some]
    dsimp only
    rw [if_pos (show nI l = nI l from rfl), if_neg (show ¬ nI l < nI l from fun q => by have := (nI_ltI (by omega) (by omega)).mp q; omega)]
    unfold f_X1_isComplete
    by_cases h0 : due (fun i => nI (c i)) l = 0
    · have h16 := okT_16 hT
      have hl0 : 0 < l := by
        rcases Nat.eq_zero_or_pos l with q | q
        · rw [q] at h0; exact absurd h0 (show ¬ (1 : Nat) = 0 by omega)
        · exact q
      rw [h0, if_pos (show nI 0 = 0 from rfl)]
      simp only [i10, if_false]
      rw [if_pos (show nI 0 = 0 from rfl), Option.bind_some]
      simp only [i10, if_false]
      obtain ⟨signs', ends', f1, f2⟩ := read0_e hT h0 (codes := codes) (fun i hi => (hc i hi).2.2.1) (nI L) signs ends
      rw [f1, Option.bind_some, nI_1]
      have hm : ∃ signAt' behind', k_it (fun (ex36 rc36 : (Int32 × (Nat → Int32) × (Nat → Int32)) → Option (Int32 × Int32 × Int32 × Int32 × Int32 × (Nat → Int32) × (Nat → Int32))) (a36 : Int32 × (Nat → Int32) × (Nat → Int32)) => (if a36.1 < 0 then ex36 (a36.1, a36.2.1, a36.2.2) else k_chk a36.1 66 (k_chk a36.1 16 (k_chk a36.1 66 ((k_it (fun (ex69 rc69 : (Int32 × Int32) → Option (Int32 × Int32 × Int32 × Int32 × Int32 × (Nat → Int32) × (Nat → Int32))) (a69 : Int32 × Int32) => (if (f_X9_partsOf (page (Int32.toNatClampNeg a36.1))) ≤ a69.2 then ex69 (a69.1, a69.2) else k_chk a69.1 17 (rc69 ((a36.2.2 (Int32.toNatClampNeg a69.1)), (a69.2 + 1))))) (fun (a69 : Int32 × Int32) => k_chk a36.1 17 (rc36 ((a36.1 + (-1)), (upd a36.2.1 (Int32.toNatClampNeg a36.1) (vp_nar .byte (page (Int32.toNatClampNeg a36.1)))), (upd a36.2.2 (Int32.toNatClampNeg a36.1) a69.1)))) 1000 ((a36.1 + 1), 0))))))) (fun (a36 : Int32 × (Nat → Int32) × (Nat → Int32)) => some (nI l, nI l, nI (G + 1), 0, nI 0, a36.2.1, a36.2.2)) 1000 ((nI l - 1), signAt, behind) = some (nI l, nI l, nI (G + 1), 0, nI 0, signAt', behind') ∧ RMo l (fun i => nI (c i)) (en (fun i => nI (c i)) l) signAt' behind' := by
        refine k_runG (N := 1000) (fun (o : Option (Int32 × Int32 × Int32 × Int32 × Int32 × (Nat → Int32) × (Nat → Int32))) => ∃ signAt' behind', o = some (nI l, nI l, nI (G + 1), 0, nI 0, signAt', behind') ∧ RMo l (fun i => nI (c i)) (en (fun i => nI (c i)) l) signAt' behind') l (fun (k : Nat) (u : Int32 × (Nat → Int32) × (Nat → Int32)) => u.1 = nI (l - k) - 1 ∧ ∀ j, l - k ≤ j → j < l → u.2.1 j = nI (c j) ∧ u.2.2 j = nI (en (fun i => nI (c i)) l j)) (by omega) ⟨rfl, fun j h1 h2 => by omega⟩ ?_ ?_ ?_
        · intro rc k u hk hI
          obtain ⟨h1, h2⟩ := hI
          have hj : u.1 = nI (l - k - 1) := by rw [h1, show l - k = (l - k - 1) + 1 by omega, dn_1]; rfl
          have ht : l - k = (l - k - 1) + 1 := by omega
          have ht2 : l - (k + 1) = l - k - 1 := by omega
          generalize l - k - 1 = t at hj ht ht2
          have htl : t < l := by omega
          have hcT := hc t htl
          have har := ar_lt (nI (c t))
          have hsg := (hT t htl).1
          dsimp only
          rw [hj, if_neg (nI_pos (show t < 2 ^ 31 by omega)), chk_e (show t < 66 by omega) (by omega), chk_e (show t < 16 by omega) (by omega), chk_e (show t < 66 by omega) (by omega), cl_e (show t < 2 ^ 31 by omega), hcT.2.2.2, parts_e, oper_e hsg, nxt_e u.2.2 _ (ar (nI (c t))) har, (byteK (c t) (by omega)).2, nI_1]
          have fin : ∀ x : Int32, x = nI (en (fun i => nI (c i)) l t) → ∃ a', (a'.1 = nI t - 1 ∧ ∀ j, t ≤ j → j < l → a'.2.1 j = nI (c j) ∧ a'.2.2 j = nI (en (fun i => nI (c i)) l j)) ∧ k_chk (nI t) 17 (rc (nI t + -1, upd u.2.1 t (nI (c t)), upd u.2.2 t x)) = rc a' := fun x hx => by
            refine ⟨(nI t + -1, upd u.2.1 t (nI (c t)), upd u.2.2 t x), ⟨?_, fun j h3 h4 => ?_⟩, chk_e (show t < 17 by omega) (by omega) _⟩
            · dsimp only
              rw [dn_2]
            · dsimp only
              by_cases q : j = t
              · rw [q, pk_us, pk_us, hx]; exact ⟨rfl, rfl⟩
              · rw [pk_un q, pk_un q]; exact h2 j (by omega) h4
          rcases (by omega : ar (nI (c t)) = 0 ∨ ar (nI (c t)) = 1 ∨ ar (nI (c t)) = 2) with q | q | q
          · rw [q, if_pos rfl]
            exact fin _ (by rw [en_0 hT h0 htl q])
          · have hn := nxt_lt hT h0 htl (show 0 < ar (nI (c t)) by omega)
            rw [q, if_neg (by omega), if_pos rfl, chk_e (show t + 1 < 17 by omega) (by omega), cl_e (show t + 1 < 2 ^ 31 by omega)]
            exact fin _ (by rw [(h2 (t + 1) (by omega) hn).2, en_1 hT h0 htl q])
          · have hn := nxt_lt hT h0 htl (show 0 < ar (nI (c t)) by omega)
            obtain ⟨z1, z2⟩ := en_2 hT h0 htl q
            have hp9 := (en_p hT h0 hn).1
            rw [q, if_neg (by omega), if_neg (by omega), chk_e (show t + 1 < 17 by omega) (by omega), cl_e (show t + 1 < 2 ^ 31 by omega), (h2 (t + 1) (by omega) hn).2, chk_e (show en (fun i => nI (c i)) l (t + 1) < 17 by omega) (by omega), cl_e (show en (fun i => nI (c i)) l (t + 1) < 2 ^ 31 by omega)]
            exact fin _ (by rw [(h2 _ (by omega) z1).2, z2])
        · intro rc u hI
          dsimp only
          rw [hI.1, if_pos (show nI (l - l) - 1 < 0 by rw [Nat.sub_self]; decide)]
        · intro u hI
          exact ⟨_, _, rfl, wf_en hT h0, fun i hi => (hI.2 i (by omega) hi).1, fun i hi => (hI.2 i (by omega) hi).2⟩
      obtain ⟨signAt', behind', f3, f4⟩ := hm
      rw [f3]
      exact ⟨_, l, _, _, G + 1, _, _, _, _, _, _, _, _, _, rfl, rfl, RPg_0 codes page, f2, f4⟩
    · rw [if_neg (nI_ne0 (by omega) (by omega)), if_neg (nI_ne0 (by omega) (by omega)), if_pos rfl, Option.bind_some, if_pos rfl]
      exact ⟨_, L, g, e, G, _, _, _, _, _, _, _, _, _, rfl, rfl, hp0, hf, hf2⟩
