/-! world, part, sign, count, both ways -/
theorem hpu_e {L w : Nat} {g : Nat → Int32} {e : Nat → Nat} {R : Nat → Nat → Bool} {P Q : Nat → Bool} {held : Nat → Int64} (h : hdR L L w g e R (fun _ => P) (fun _ => Q) held) {i a : Nat} (hi : i < L) (ha : a < w) : held (4 * i + a) = if hp g e R P Q i a then -1 else 0 := c_ext (fun l hl => by
  rw [h i a l (by omega) hi ha hl]
  cases hp g e R P Q i a
  · exact (c_0 l).symm
  · exact (c_m1 l hl).symm)
theorem cmp_u (b c : Bool) : (lg_cmp (if b then -1 else 0) (if c then -1 else 0) = 0) ↔ b = c := by rw [lg_cmp_eq]; cases b <;> cases c <;> decide
theorem cmp_0 (b : Bool) : (lg_cmp (if b then -1 else 0) 0 = 0) ↔ b = false := by rw [lg_cmp_eq]; cases b <;> decide
theorem worldsOf_e {L : Nat} {g : Nat → Int32} {e : Nat → Nat} {signs ends : Nat → Int32} (hf : RFo L g e signs ends) {w : Nat} {R : Nat → Nat → Bool} {P Q : Nat → Bool} (ok : okF w R P Q) (vp vq held : Nat → Int64) {i : Nat} (hi : i < L) :
    ∃ vp' vq' held', f_X8_worldsOf (nI w) (eA R) (bI 4 P) (bI 4 Q) (nI L) signs ends vp vq held (nI i) = some (hw_ w (hp g e R P Q) i, vp', vq', held') := by
  have h4 := ok.1
  have h16 := hf.1.1
  unfold f_X8_worldsOf
  obtain ⟨vp', vq', e1, e2, e3⟩ := useOwn_e vp vq P Q
  rw [e1, Option.bind_some]
  obtain ⟨held', e4, e5⟩ := evaluate_e hf ok.1 ok.2.1 e2 e3 held
  rw [e4, Option.bind_some]
  refine ⟨vp', vq', held', ?_⟩
  refine k_runG (N := 1000) (fun (o : Option (Int32 × (Nat → Int64) × (Nat → Int64) × (Nat → Int64))) => o = some (hw_ w (hp g e R P Q) i, vp', vq', held')) w (fun (k : Nat) (s : Int32 × Int32) => s.2 = nI k ∧ s.1 = bI 4 (fun a => decide (a < k) && hp g e R P Q i a)) (by omega) ⟨rfl, (bI_0 (n := 4) (by omega)).symm.trans (bI_congr (fun i _ => by simp))⟩ ?_ ?_ ?_
  · intro rc k s hk hI
    obtain ⟨h1, h2⟩ := hI
    refine ⟨(bI 4 (fun a => decide (a < k + 1) && hp g e R P Q i a), nI (k + 1)), ⟨rfl, rfl⟩, ?_⟩
    try dsimp only
    rw [h1, h2, if_neg (nI_nge4 (by omega) (by omega) hk), at_e held' (show i < 16 by omega) (show k < 4 by omega), Option.bind_some, hpu_e e5 hi hk, ← acc_one _ (show k < 4 by omega), nI_1]
    by_cases g1 : hp g e R P Q i k = true
    · rw [if_neg (fun q => by rw [(cmp_0 _).mp q] at g1; cases g1), if_pos g1]
    · rw [if_pos ((cmp_0 _).mpr (Bool.eq_false_iff.mpr g1)), if_neg g1, Int32.or_zero]
  · intro rc s hI
    try dsimp only
    rw [hI.1, if_pos (nI_ge4 (by omega) (by omega) (Nat.le_refl w))]
  · intro s hI
    rw [hI.2]
    rfl
theorem formulaHolds_e {L : Nat} {g : Nat → Int32} {e : Nat → Nat} {signAt behind : Nat → Int32} (hf : RMo L g e signAt behind) {w : Nat} {R : Nat → Nat → Bool} {P Q : Nat → Bool} (ok : okF w R P Q) {arr mk : Nat → Int32} (hb : ba arr R) (hm : mks mk P Q) (m a b : Int32) (to holds : Nat → Int32) (hL : 0 < L) :
    ∃ m' a' b' to' holds', f_X9_formulaHolds (nI w) (nI L) m a b arr mk signAt behind to holds = some (hw_ w (hp g e R P Q) 0, m', a', b', to', holds') := by
  unfold f_X9_formulaHolds
  rw [layFrame_e ok.1 ok.2.1 ok.2.2.1 ok.2.2.2 hb hm, Option.bind_some]
  try dsimp only
  obtain ⟨holds', e1, e2⟩ := layHolds_e hf ok.1 ok.2.1 ok.2.2.1 ok.2.2.2 (rows_lk w R to) holds
  rw [e1, Option.bind_some, show (0 : Int32) = nI 0 from rfl, chk_e (show 0 < 16 by omega) (by omega), cl_e (show 0 < 2 ^ 31 by omega), e2 0 hL]
  exact ⟨_, _, _, _, _, rfl⟩
theorem hasFormula_e {L : Nat} (h : L ≤ 16) : f_X8_hasFormula (nI L) = if L = 0 then 0 else 1 := by
  unfold f_X8_hasFormula f_X0_length
  by_cases h0 : L = 0
  · subst h0; rfl
  · rw [if_neg (nI_nle (by omega) (by omega)), if_neg h0]
theorem isFormula_e {L : Nat} (h : L ≤ 16) : f_X9_isFormula (nI L) = if L = 0 then 0 else 1 := hasFormula_e h
/-- two worlds where all the parts hold alike -/
def lks (L : Nat) (X : Nat → Nat → Bool) (a b : Nat) : Bool := (List.range L).all (fun i => X i a == X i b)
theorem agree_e {L w : Nat} (h16 : L ≤ 16) (hw : w ≤ 4) {g : Nat → Int32} {e : Nat → Nat} {R : Nat → Nat → Bool} {P Q : Nat → Bool} {held : Nat → Int64} (h : hdR L L w g e R (fun _ => P) (fun _ => Q) held) {a b : Nat} (ha : a < w) (hb : b < w) : f_X7_agree held (nI L) (nI a) (nI b) = some (if lks L (hp g e R P Q) a b then 1 else 0) := by
  unfold f_X7_agree
  refine (k_all_ (N := 1000) L (fun k => nI k) (fun i => hp g e R P Q i a == hp g e R P Q i b) (some 0) ?_ ?_ (by omega)).trans ?_
  · intro rc k hk
    try dsimp only
    rw [show f_X0_length (nI L) = nI L from rfl, if_neg (nI_nge4 (by omega) (by omega) hk), at_e held (show k < 16 by omega) (show a < 4 by omega), Option.bind_some, at_e held (show k < 16 by omega) (show b < 4 by omega), Option.bind_some, hpu_e h hk ha, hpu_e h hk hb, nI_1]
    by_cases g1 : hp g e R P Q k a = hp g e R P Q k b
    · rw [if_pos ((cmp_u _ _).mpr g1), if_pos (beq_iff_eq.mpr g1)]
    · rw [if_neg (fun q => g1 ((cmp_u _ _).mp q)), if_neg (fun q => g1 (beq_iff_eq.mp q))]
  · intro rc
    try dsimp only
    rw [show f_X0_length (nI L) = nI L from rfl, if_pos (nI_ge4 (by omega) (by omega) (Nat.le_refl L))]
  · unfold lks
    exact ite_some _
theorem isIn_w {w i a : Nat} {X : Nat → Nat → Bool} (hw : w ≤ 4) (ha : a < w) : f_X9_isIn (hw_ w X i) (nI a) = if X i a then 1 else 0 := by
  unfold hw_
  rw [isIn_e (by omega) _ (show a < 4 by omega) (by omega), decide_eq_true ha]
  rfl
theorem isLike_e {L w : Nat} (h16 : L ≤ 16) (hw : w ≤ 4) {X : Nat → Nat → Bool} {holds : Nat → Int32} (h : ∀ i, i < L → holds i = hw_ w X i) {a b : Nat} (ha : a < w) (hb : b < w) : f_X9_isLike (nI L) holds (nI a) (nI b) = some (if lks L X a b then 1 else 0) := by
  unfold f_X9_isLike
  refine k_runG (N := 1000) (fun (o : Option Int32) => o = some (if lks L X a b then 1 else 0)) L (fun (k : Nat) (s : Int32 × Int32) => s.2 = nI k ∧ s.1 = if (List.range k).all (fun i => X i a == X i b) then 1 else 0) (by omega) ⟨rfl, rfl⟩ ?_ ?_ ?_
  · intro rc k s hk hI
    obtain ⟨h1, h2⟩ := hI
    refine ⟨(if (List.range (k + 1)).all (fun i => X i a == X i b) then 1 else 0, nI (k + 1)), ⟨rfl, rfl⟩, ?_⟩
    try dsimp only
    rw [h1, h2, if_neg (nI_nge4 (by omega) (by omega) hk), chk_e (show k < 16 by omega) (by omega), chk_e (show k < 16 by omega) (by omega), cl_e (show k < 2 ^ 31 by omega), h k hk, isIn_w hw ha, isIn_w hw hb, nI_1, all_s]
    cases (List.range k).all (fun i => X i a == X i b)
    · rfl
    · cases X k a <;> cases X k b <;> rfl
  · intro rc s hI
    try dsimp only
    rw [hI.1, if_pos (nI_ge4 (by omega) (by omega) (Nat.le_refl L))]
  · intro s hI
    rw [hI.2, bl_b]
    rfl
theorem lowestSimilar_e {L : Nat} {g : Nat → Int32} {e : Nat → Nat} {signs ends signAt behind : Nat → Int32} (hf : RFo L g e signs ends) (hf2 : RMo L g e signAt behind) {w : Nat} {R : Nat → Nat → Bool} {P Q : Nat → Bool} (ok : okF w R P Q) {arr mk : Nat → Int32} (hb : ba arr R) (hm : mks mk P Q) (hL : L ≠ 0) (vp vq held : Nat → Int64) (m a b : Int32) (to holds : Nat → Int32) {x : Nat} (hx : x < w) :
    ∃ r vp' vq' held' m' a' b' to' holds', f_X8_lowestSimilar (nI w) (eA R) (bI 4 P) (bI 4 Q) (nI L) signs ends vp vq held (nI x) = some (r, vp', vq', held') ∧ f_X9_likeOf (nI w) (nI L) m a b arr mk signAt behind to holds (nI x) = some (r, m', a', b', to', holds') := by
  have h4 := ok.1
  have h16 := hf.1.1
  unfold f_X8_lowestSimilar f_X9_likeOf
  rw [hasFormula_e h16, if_neg hL]
  simp only [i10, if_false]
  obtain ⟨vp', vq', e1, e2, e3⟩ := useOwn_e vp vq P Q
  rw [e1, Option.bind_some]
  obtain ⟨held', e4, e5⟩ := evaluate_e hf ok.1 ok.2.1 e2 e3 held
  rw [e4, Option.bind_some, layFrame_e ok.1 ok.2.1 ok.2.2.1 ok.2.2.2 hb hm, Option.bind_some]
  try dsimp only
  obtain ⟨holds', e6, e7⟩ := layHolds_e hf2 ok.1 ok.2.1 ok.2.2.1 ok.2.2.2 (rows_lk w R to) holds
  rw [e6, Option.bind_some]
  -- the first like it, or it
  have hr : ∃ z, z ≤ x ∧ (z < x → lks L (hp g e R P Q) z x = true) ∧ ∀ y, y < z → lks L (hp g e R P Q) y x = false := by
    have : ∃ k, ¬ (k < x ∧ lks L (hp g e R P Q) k x = false) := ⟨x, fun q => Nat.lt_irrefl x q.1⟩
    obtain ⟨z, z1, z2⟩ := pk_least (fun k => ¬ (k < x ∧ lks L (hp g e R P Q) k x = false)) this
    have hlt : ∀ y, y < z → y < x ∧ lks L (hp g e R P Q) y x = false := fun y hy => Classical.byContradiction (z2 y hy)
    refine ⟨z, ?_, fun hz => ?_, fun y hy => (hlt y hy).2⟩
    · rcases Nat.lt_or_ge x z with q | q
      · exact absurd (hlt x q).1 (Nat.lt_irrefl x)
      · exact q
    · cases hc : lks L (hp g e R P Q) z x
      · exact absurd ⟨hz, hc⟩ z1
      · rfl
  obtain ⟨z, z1, z2, z3⟩ := hr
  have lsym : ∀ y, lks L (hp g e R P Q) x y = lks L (hp g e R P Q) y x := fun y => by
    unfold lks
    refine congrArg _ (funext fun i => ?_)
    cases hp g e R P Q i x <;> cases hp g e R P Q i y <;> rfl
  refine ⟨nI z, vp', vq', held', nI w, bI 4 P, bI 4 Q, rows_ w R to, holds', ?_, ?_⟩
  · refine k_srchG (N := 1000) (fun (o : Option (Int32 × (Nat → Int64) × (Nat → Int64) × (Nat → Int64))) => o = some (nI z, vp', vq', held')) x (fun k => nI k) (fun k => !lks L (hp g e R P Q) k x) (fun k => some (nI k, vp', vq', held')) (by omega) rfl ?_ ?_ ?_ ?_
    · intro rc k hk
      try dsimp only
      rw [if_neg (nI_nge4 (by omega) (by omega) hk), agree_e h16 h4 e5 (show k < w by omega) hx, Option.bind_some, nI_1]
      cases lks L (hp g e R P Q) k x <;> rfl
    · intro rc
      try dsimp only
      rw [if_pos (nI_ge4 (by omega) (by omega) (Nat.le_refl x))]
    · intro k hk h1 h2
      have hk1 : lks L (hp g e R P Q) k x = true := by cases hc : lks L (hp g e R P Q) k x; (rw [hc] at h1; cases h1); rfl
      have : k = z := by
        rcases Nat.lt_trichotomy k z with q | q | q
        · rw [z3 k q] at hk1; cases hk1
        · exact q
        · have h5 := h2 z q
          rw [z2 (by omega)] at h5; cases h5
      rw [this]
    · intro h2
      have : z = x := by
        rcases Nat.lt_or_ge z x with q | q
        · have h5 := h2 z q
          rw [z2 q] at h5; cases h5
        · omega
      rw [this]
  · refine k_srchG (N := 1000) (fun (o : Option (Int32 × Int32 × Int32 × Int32 × (Nat → Int32) × (Nat → Int32))) => o = some (nI z, nI w, bI 4 P, bI 4 Q, rows_ w R to, holds')) x (fun k => nI k) (fun k => !lks L (hp g e R P Q) k x) (fun k => some (nI k, nI w, bI 4 P, bI 4 Q, rows_ w R to, holds')) (by omega) rfl ?_ ?_ ?_ ?_
    · intro rc k hk
      try dsimp only
      rw [if_neg (nI_nge4 (by omega) (by omega) hk), isLike_e h16 h4 e7 hx (show k < w by omega), Option.bind_some, nI_1, lsym k]
      cases lks L (hp g e R P Q) k x <;> rfl
    · intro rc
      try dsimp only
      rw [if_pos (nI_ge4 (by omega) (by omega) (Nat.le_refl x))]
    · intro k hk h1 h2
      have hk1 : lks L (hp g e R P Q) k x = true := by cases hc : lks L (hp g e R P Q) k x; (rw [hc] at h1; cases h1); rfl
      have : k = z := by
        rcases Nat.lt_trichotomy k z with q | q | q
        · rw [z3 k q] at hk1; cases hk1
        · exact q
        · have h5 := h2 z q
          rw [z2 (by omega)] at h5; cases h5
      rw [this]
    · intro h2
      have : z = x := by
        rcases Nat.lt_or_ge z x with q | q
        · have h5 := h2 z q
          rw [z2 q] at h5; cases h5
        · omega
      rw [this]
theorem bcrow_e {w : Nat} (hw : w ≤ 4) (f : Nat → Bool) : f_J6_bitCount_0f7a4 (bI 4 (fun a => decide (a < w) && f a)) = nI (fb_ct f w) := by
  rw [bcI_e (by omega)]
  have h1 := fb_ct_split (fun a => decide (a < w) && f a) w (4 - w)
  rw [show w + (4 - w) = 4 by omega] at h1
  have h2 : fb_ct (fun k => decide (w + k < w) && f (w + k)) (4 - w) = 0 := fb_ct_zero.mpr (fun k _ => by rw [decide_eq_false (by omega)]; rfl)
  have h3 : fb_ct (fun a => decide (a < w) && f a) w = fb_ct f w := fb_ct_cong (fun k hk => by rw [decide_eq_true hk]; rfl)
  rw [h1]
  show nI (fb_ct (fun a => decide (a < w) && f a) w + fb_ct (fun k => decide (w + k < w) && f (w + k)) (4 - w)) = _
  rw [h2, h3]
  rfl
theorem st_world {k1 w1 A p q k2 w2 : Int32} {arr mk : Nat → Int32} (h : RF k1 w1 A p q k2 w2 arr mk) {L : Nat} {g : Nat → Int32} {e : Nat → Nat} {signs ends signAt behind : Nat → Int32} (hf : RFo L g e signs ends) (hf2 : RMo L g e signAt behind) (vp vq held : Nat → Int64) (m a b : Int32) (to holds ap : Nat → Int32) (x y : Int32) :
    ∃ r vp' vq' held' m' a' b' to' holds' ap', f_X8_world w1 A p q (nI L) signs ends vp vq held x y = some (r, vp', vq', held') ∧ f_X9_world w2 (nI L) m a b arr mk signAt behind to holds ap x y = some (r, m', a', b', to', holds', ap') := by
  obtain ⟨kk, w, R, P, Q, hk, ok, rfl, rfl, rfl, rfl, rfl, rfl, rfl, hb, hm⟩ := h
  have h4 := ok.1
  have h16 := hf.1.1
  unfold f_X9_world f_X8_world
  rw [isWorld_e, Option.bind_some]
  rcases idx_e x (w_lt ok.1) with ⟨i, h1, rfl, h2, h3⟩ | ⟨h2, h3⟩
  · simp only [h2, h3, i10, if_false]
    rcases idx_k y 6 5 (by omega) (by decide) with ⟨j, g1, rfl, g2, g3⟩ | ⟨g2, g3⟩
    · simp only [show f_X8_isBelow (nI j) 6 = 1 from g2, g3, i10, if_false]
      unfold f_X9_worldNow
      rcases (by omega : j = 0 ∨ j = 1 ∨ j = 2 ∨ j = 3 ∨ j = 4 ∨ j = 5) with rfl | rfl | rfl | rfl | rfl | rfl
      · rw [if_pos (show nI 0 = 0 from rfl), if_pos (show nI 0 = 0 from rfl), goOut_e hb ok.1 (show i < 4 by omega), row_e R (show i < 4 by omega)]
        have e1 : bI 4 (R i) = bI 4 (fun a => decide (a < w) && R i a) := wi_ (fun a ha => (ok.2.1 _ _ ha).2)
        rw [e1, bcrow_e ok.1]
        exact ⟨_, _, _, _, _, _, _, _, _, _, rfl, rfl⟩
      · rw [if_neg (show ¬ nI 1 = 0 by decide), if_neg (show ¬ nI 1 = 0 by decide), if_pos (show nI 1 = 1 from rfl), if_pos (show nI 1 = 1 from rfl), comeIn_e hb ok.1 (show i < 4 by omega), arrowsTo_e R ok.1 (show i < 4 by omega)]
        exact ⟨_, _, _, _, _, _, _, _, _, _, rfl, rfl⟩
      · rw [if_neg (show ¬ nI 2 = 0 by decide), if_neg (show ¬ nI 2 = 0 by decide), if_neg (show ¬ nI 2 = 1 by decide), if_neg (show ¬ nI 2 = 1 by decide), if_pos (show nI 2 = 2 from rfl), if_pos (show nI 2 = 2 from rfl), chk_e (show i < 4 by omega) (by omega), cl_e (show i < 2 ^ 31 by omega), hm i (by omega), marks_e P Q (show i < 4 by omega)]
        exact ⟨_, _, _, _, _, _, _, _, _, _, rfl, rfl⟩
      · obtain ⟨ap', e1, e2⟩ := layApart_e ok.1 (P := P) (Q := Q) ok.2.1 hb hm ap
        rw [if_neg (show ¬ nI 3 = 0 by decide), if_neg (show ¬ nI 3 = 0 by decide), if_neg (show ¬ nI 3 = 1 by decide), if_neg (show ¬ nI 3 = 1 by decide), if_neg (show ¬ nI 3 = 2 by decide), if_neg (show ¬ nI 3 = 2 by decide), if_pos (show nI 3 = 3 from rfl), if_pos (show nI 3 = 3 from rfl), e1, Option.bind_some, twinOf_e ok.1 e2 h1, lowestBisimilar_e ok.1 R P Q h1]
        exact ⟨_, _, _, _, _, _, _, _, _, _, rfl, rfl⟩
      · rw [if_neg (show ¬ nI 4 = 0 by decide), if_neg (show ¬ nI 4 = 0 by decide), if_neg (show ¬ nI 4 = 1 by decide), if_neg (show ¬ nI 4 = 1 by decide), if_neg (show ¬ nI 4 = 2 by decide), if_neg (show ¬ nI 4 = 2 by decide), if_neg (show ¬ nI 4 = 3 by decide), if_neg (show ¬ nI 4 = 3 by decide), if_pos (show nI 4 = 4 from rfl), if_pos (show nI 4 = 4 from rfl), isFormula_e h16]
        by_cases hL : L = 0
        · rw [if_pos hL]
          unfold f_X8_lowestSimilar
          rw [hasFormula_e h16, if_pos hL]
          exact ⟨_, _, _, _, _, _, _, _, _, _, rfl, rfl⟩
        · rw [if_neg hL]
          obtain ⟨r, vp', vq', held', m', a', b', to', holds', e1, e2⟩ := lowestSimilar_e hf hf2 ok hb hm hL vp vq held m a b to holds h1
          rw [e1, e2]
          exact ⟨_, _, _, _, _, _, _, _, _, _, rfl, rfl⟩
      · rw [if_neg (show ¬ nI 5 = 0 by decide), if_neg (show ¬ nI 5 = 0 by decide), if_neg (show ¬ nI 5 = 1 by decide), if_neg (show ¬ nI 5 = 1 by decide), if_neg (show ¬ nI 5 = 2 by decide), if_neg (show ¬ nI 5 = 2 by decide), if_neg (show ¬ nI 5 = 3 by decide), if_neg (show ¬ nI 5 = 3 by decide), if_neg (show ¬ nI 5 = 4 by decide), if_neg (show ¬ nI 5 = 4 by decide), isFormula_e h16, hasFormula_e h16]
        by_cases hL : L = 0
        · rw [if_pos hL]
          exact ⟨_, _, _, _, _, _, _, _, _, _, rfl, rfl⟩
        · rw [if_neg hL]
          obtain ⟨vp', vq', held', e1⟩ := worldsOf_e hf ok vp vq held (show 0 < L by omega)
          obtain ⟨m', a', b', to', holds', e2⟩ := formulaHolds_e hf2 ok hb hm m a b to holds (show 0 < L by omega)
          rw [show (0 : Int32) = nI 0 from rfl] at *
          rw [e1, e2]
          exact ⟨_, _, _, _, _, _, _, _, _, _, rfl, rfl⟩
    · simp only [show f_X8_isBelow y 6 = 0 from g2, g3, i00, if_true]
      exact ⟨_, _, _, _, _, _, _, _, _, _, rfl, rfl⟩
  · simp only [h2, h3, i00, if_true]
    exact ⟨_, _, _, _, _, _, _, _, _, _, rfl, rfl⟩
theorem st_part {k1 w1 A p q k2 w2 : Int32} {arr mk : Nat → Int32} (h : RF k1 w1 A p q k2 w2 arr mk) {L : Nat} {g : Nat → Int32} {e : Nat → Nat} {signs ends signAt behind : Nat → Int32} (hf : RFo L g e signs ends) (hf2 : RMo L g e signAt behind) (vp vq held : Nat → Int64) (m a b : Int32) (to holds : Nat → Int32) (x : Int32) :
    ∃ r vp' vq' held' m' a' b' to' holds', f_X8_part w1 A p q (nI L) signs ends vp vq held x = some (r, vp', vq', held') ∧ f_X9_part w2 (nI L) m a b arr mk signAt behind to holds x = some (r, m', a', b', to', holds') := by
  obtain ⟨kk, w, R, P, Q, hk, ok, rfl, rfl, rfl, rfl, rfl, rfl, rfl, hb, hm⟩ := h
  have h4 := ok.1
  have h16 := hf.1.1
  unfold f_X9_part f_X8_part
  rw [show f_X0_length (nI L) = nI L from rfl, hasFrame_e (w_lt ok.1), isFrame_e (w_lt ok.1)]
  rcases idx_e x (show L < 2 ^ 31 by omega) with ⟨i, h1, rfl, h2, h3⟩ | ⟨h2, h3⟩
  · simp only [h2, h3, i10, if_false]
    by_cases hw : w = 0
    · rw [if_pos hw]; simp only [i00, if_true]
      exact ⟨_, _, _, _, _, _, _, _, _, rfl, rfl⟩
    · rw [if_neg hw]; simp only [i10, if_false]
      obtain ⟨vp', vq', held', e1⟩ := worldsOf_e hf ok vp vq held h1
      rw [e1]
      unfold f_X9_partNow
      rw [layFrame_e ok.1 ok.2.1 ok.2.2.1 ok.2.2.2 hb hm, Option.bind_some]
      try dsimp only
      obtain ⟨holds', e2, e3⟩ := layHolds_e hf2 ok.1 ok.2.1 ok.2.2.1 ok.2.2.2 (rows_lk w R to) holds
      rw [Option.bind_some]
      try dsimp only
      rw [e2, Option.bind_some, chk_e (show i < 16 by omega) (by omega), cl_e (show i < 2 ^ 31 by omega), e3 i h1]
      exact ⟨_, _, _, _, _, _, _, _, _, rfl, rfl⟩
  · simp only [h2, h3, i00, if_true]
    exact ⟨_, _, _, _, _, _, _, _, _, rfl, rfl⟩
theorem st_sign {L : Nat} {g : Nat → Int32} {e : Nat → Nat} {signs ends signAt behind : Nat → Int32} (hf : RFo L g e signs ends) (hf2 : RMo L g e signAt behind) (x : Int32) : ∃ r, f_X8_sign (nI L) signs x = some r ∧ f_X9_sign (nI L) signAt x = some r := by
  have h16 := hf.1.1
  unfold f_X9_sign f_X8_sign
  rw [show f_X0_length (nI L) = nI L from rfl]
  rcases idx_e x (show L < 2 ^ 31 by omega) with ⟨i, h1, rfl, h2, h3⟩ | ⟨h2, h3⟩
  · simp only [h2, h3, i10, if_false]
    rw [signAt_e signs (show i < 16 by omega), chk_e (show i < 16 by omega) (by omega), cl_e (show i < 2 ^ 31 by omega), hf.2.1 i h1, hf2.2.1 i h1]
    exact ⟨_, rfl, rfl⟩
  · simp only [h2, h3, i00, if_true]
    exact ⟨_, rfl, rfl⟩
