/-! digest, both ways -/
theorem indep {S T : Type} {C : S → Option (Int32 × S)} {M : T → Option (Int32 × T)} (h : ∀ s t, ∃ r s' t', C s = some (r, s') ∧ M t = some (r, t')) (s0 : S) (t0 : T) : ∃ r, (∀ s, ∃ s', C s = some (r, s')) ∧ ∀ t, ∃ t', M t = some (r, t') := by
  obtain ⟨r, s1, t1, e1, e2⟩ := h s0 t0
  refine ⟨r, fun s => ?_, fun t => ?_⟩
  · obtain ⟨r', s2, t2, e3, e4⟩ := h s t0
    rw [e2] at e4
    have := (Prod.mk.inj (Option.some.inj e4)).1
    exact ⟨s2, by rw [e3, this]⟩
  · obtain ⟨r', s2, t2, e3, e4⟩ := h s0 t
    rw [e1] at e3
    have := (Prod.mk.inj (Option.some.inj e3)).1
    exact ⟨t2, by rw [e4, this]⟩
theorem indepN {S T : Type} {C : Nat → S → Option (Int32 × S)} {M : Nat → T → Option (Int32 × T)} (n : Nat) (s0 : S) (t0 : T) (h : ∀ k, k < n → ∀ s t, ∃ r s' t', C k s = some (r, s') ∧ M k t = some (r, t')) : ∃ r : Nat → Int32, ∀ k, k < n → (∀ s, ∃ s', C k s = some (r k, s')) ∧ ∀ t, ∃ t', M k t = some (r k, t') := by
  have h2 : ∀ k, ∃ r, k < n → (∀ s, ∃ s', C k s = some (r, s')) ∧ ∀ t, ∃ t', M k t = some (r, t') := fun k => by
    by_cases hk : k < n
    · obtain ⟨r, hr⟩ := indep (h k hk) s0 t0
      exact ⟨r, fun _ => hr⟩
    · exact ⟨0, fun q => absurd q hk⟩
  exact ⟨fun k => Classical.choose (h2 k), fun k hk => Classical.choose_spec (h2 k) hk⟩
def hs (f : Nat → Int32) : Nat → Int64 → Int64
  | 0, h => h
  | k + 1, h => 31 * hs f k h + Int32.toInt64 (f k)
theorem hs_s (f : Nat → Int32) (k : Nat) (h : Int64) : hs f (k + 1) h = 31 * hs f k h + Int32.toInt64 (f k) := rfl
def hsw (rW rR : Nat → Nat → Int32) (w : Nat) (h : Int64) : Nat → Int64
  | 0 => h
  | i + 1 => hs (rR i) w (hs (rW i) 6 (hsw rW rR w h i))
theorem hsw_s (rW rR : Nat → Nat → Int32) (w : Nat) (h : Int64) (i : Nat) : hsw rW rR w h (i + 1) = hs (rR i) w (hs (rW i) 6 (hsw rW rR w h i)) := rfl
abbrev TS := (Nat → Int64) × (Nat → Int64) × (Nat → Int64)
abbrev TM := Int32 × Int32 × Int32 × (Nat → Int32) × (Nat → Int32)
theorem eta6 {α1 α2 α3 α4 α5 α6 : Type} (o : Option (α1 × α2 × α3 × α4 × α5 × α6)) : Option.bind o (fun q => some (q.1, q.2.1, q.2.2.1, q.2.2.2.1, q.2.2.2.2.1, q.2.2.2.2.2)) = o := by cases o <;> rfl
theorem eta7 {α1 α2 α3 α4 α5 α6 α7 : Type} (o : Option (α1 × α2 × α3 × α4 × α5 × α6 × α7)) : Option.bind o (fun q => some (q.1, q.2.1, q.2.2.1, q.2.2.2.1, q.2.2.2.2.1, q.2.2.2.2.2.1, q.2.2.2.2.2.2)) = o := by cases o <;> rfl
theorem within_e {k n : Nat} {m : Int32} (hk : k < n) (hn : n < 2 ^ 31) (hm : m = nI n - 1) : f_X9_within (nI k) 0 m = 1 := by
  rcases idx_k (nI k) n m hn hm with ⟨_, _, _, _, h⟩ | ⟨h, _⟩
  · exact h
  · rw [below_e hk hn] at h
    exact absurd h (by decide)
theorem aboutNow_e {w : Nat} (hw : w ≤ 4) (hw0 : w ≠ 0) {k : Nat} (hk : k < 5) (k2 m a b : Int32) (arr mk to ap : Nat → Int32) : f_X9_about k2 (nI w) m a b arr mk to ap (nI k) = f_X9_aboutNow k2 (nI w) m a b arr mk to ap (nI k) := by
  unfold f_X9_about
  rw [within_e hk (by omega) (show (4 : Int32) = nI 5 - 1 by decide), isFrame_e (w_lt hw), if_neg hw0]
  simp only [i10, if_false]
  exact eta6 _
theorem worldNow_e {w : Nat} (hw : w ≤ 4) {i k : Nat} (hi : i < w) (hk : k < 6) (s m a b : Int32) (arr mk sa be to ho ap : Nat → Int32) : f_X9_world (nI w) s m a b arr mk sa be to ho ap (nI i) (nI k) = f_X9_worldNow (nI w) s m a b arr mk sa be to ho ap (nI i) (nI k) := by
  unfold f_X9_world
  rw [isWorld_e, Option.bind_some, within_e hi (by omega) rfl, within_e hk (by omega) (show (5 : Int32) = nI 6 - 1 by decide)]
  simp only [i10, if_false]
  exact eta7 _
theorem validNow_e {w L : Nat} (hw : w ≤ 4) (hw0 : w ≠ 0) (hL : L ≠ 0) (h16 : L ≤ 16) (m a b : Int32) (arr mk sa be to ho : Nat → Int32) : f_X9_valid (nI w) (nI L) m a b arr mk sa be to ho = f_X9_validNow (nI w) (nI L) m a b arr mk sa be to ho := by
  unfold f_X9_valid
  rw [isFrame_e (w_lt hw), if_neg hw0, isFormula_e h16, if_neg hL]
  simp only [i10, if_false]
  exact eta6 _
theorem partNow_e {w L : Nat} (hw : w ≤ 4) (hw0 : w ≠ 0) (h16 : L ≤ 16) {i : Nat} (hi : i < L) (m a b : Int32) (arr mk sa be to ho : Nat → Int32) : f_X9_part (nI w) (nI L) m a b arr mk sa be to ho (nI i) = f_X9_partNow (nI w) (nI L) m a b arr mk sa be to ho (nI i) := by
  unfold f_X9_part
  rw [isFrame_e (w_lt hw), if_neg hw0, within_e hi (by omega) rfl]
  simp only [i10, if_false]
  exact eta6 _
theorem arrow8_e {w : Nat} (hw : w ≤ 4) (R : Nat → Nat → Bool) {i j : Nat} (hi : i < w) (hj : j < w) : f_X8_arrow (nI w) (eA R) (nI i) (nI j) = bi (R i j) := by
  unfold f_X8_arrow
  rw [below_e hi (by omega), below_e hj (by omega), has_e R (show i < 4 by omega) (show j < 4 by omega), toInt_e]
  rfl
theorem keeps8_e {w : Nat} (hw : w ≤ 4) (hw0 : w ≠ 0) {R : Nat → Nat → Bool} (hR : ∀ a b, R a b = true → a < w ∧ b < w) {k : Nat} (hk : k < 5) : f_X8_keeps (nI w) (eA R) (nI k) = some (bi (obs k w R)) := by
  unfold f_X8_keeps
  rw [show f_X8_isBelow (nI k) 5 = 1 from below_e (n := 5) hk (by omega), hasFrame_e (w_lt hw), if_neg hw0]
  simp only [i10, if_false]
  rw [obeys_e hk hw hR, Option.bind_some, toInt_e]
  rfl
/-- the class's digest by its answers -/
def dgH (w L l : Nat) (rA : Nat → Int32) (rW rR : Nat → Nat → Int32) (rK : Nat → Int32) (rV : Int32) (rP rS : Nat → Int32) (s0 s1 : Int32) (rG rC : Nat → Int32) : Int64 :=
  hs rC 11 (hs rG l (31 * (31 * hs rS L (hs rP (if w = 0 then 0 else L) (if w = 0 then hs rK (if w = 0 then 0 else 5) (hsw rW rR w (hs rA (if w = 0 then 0 else 5) 1481) w) else if L = 0 then hs rK (if w = 0 then 0 else 5) (hsw rW rR w (hs rA (if w = 0 then 0 else 5) 1481) w) else 31 * hs rK (if w = 0 then 0 else 5) (hsw rW rR w (hs rA (if w = 0 then 0 else 5) 1481) w) + Int32.toInt64 rV)) + Int32.toInt64 s0) + Int32.toInt64 s1))
theorem hf_if {w : Nat} (hw : w ≤ 4) : (f_X8_hasFrame (nI w) = 0) = (w = 0) := by
  rw [hasFrame_e (w_lt hw)]
  exact propext (hasF_0 hw)
abbrev D4 := Option (Int64 × (Nat → Int64) × (Nat → Int64) × (Nat → Int64))
theorem digest8_e {kk w : Nat} {R : Nat → Nat → Bool} {P Q : Nat → Bool} (ok : okF w R P Q) {l : Nat} (hl : l ≤ 66) {codes : Nat → Int32} {L : Nat} {g : Nat → Int32} {e : Nat → Nat} {signs ends : Nat → Int32} (hf : RFo L g e signs ends) (F G fc tc num poss : Int32) (vp vq held : Nat → Int64)
    {rA : Nat → Int32} {rW : Nat → Nat → Int32} {rV : Int32} {rP : Nat → Int32} {s0 s1 : Int32} {rC : Nat → Int32}
    (hA : w ≠ 0 → ∀ k, k < 5 → f_X8_about (nI kk) (nI w) (eA R) (bI 4 P) (bI 4 Q) (nI k) = some (rA k))
    (hW : ∀ i, i < w → ∀ k, k < 6 → ∀ s : TS, ∃ s' : TS, f_X8_world (nI w) (eA R) (bI 4 P) (bI 4 Q) (nI L) signs ends s.1 s.2.1 s.2.2 (nI i) (nI k) = some (rW i k, s'))
    (hV : w ≠ 0 → L ≠ 0 → ∀ s : TS, ∃ s' : TS, f_X8_valid (nI w) (eA R) (nI L) signs ends s.1 s.2.1 s.2.2 = some (rV, s'))
    (hP : w ≠ 0 → ∀ i, i < L → ∀ s : TS, ∃ s' : TS, f_X8_part (nI w) (eA R) (bI 4 P) (bI 4 Q) (nI L) signs ends s.1 s.2.1 s.2.2 (nI i) = some (rP i, s'))
    (h0 : f_X8_sorts poss 0 = some s0) (h1 : f_X8_sorts poss 1 = some s1)
    (hC : ∀ k, k < 11 → ∀ s : TS, ∃ s' : TS, f_X8_count F G fc tc (nI l) (nI w) (eA R) (bI 4 P) (bI 4 Q) (nI L) signs ends num s.1 s.2.1 s.2.2 (nI k) = some (rC k, s')) :
    ∃ vp' vq' held', f_X8_digest F G fc tc (nI l) codes (nI kk) (nI w) (eA R) (bI 4 P) (bI 4 Q) (nI L) signs ends num poss vp vq held = some (dgH w L l rA rW (fun i j => bi (R i j)) (fun k => bi (obs k w R)) rV rP g s0 s1 codes rC, vp', vq', held') := by
  have hw4 := ok.1
  have h16 := hf.1.1
  have n1 : (if w = 0 then 0 else 5) ≤ 5 := by split <;> omega
  have n2 : (if w = 0 then 0 else L) ≤ 16 := by split <;> omega
  unfold f_X8_digest dgH
  simp only [hf_if hw4, show f_X0_length (nI L) = nI L from rfl, show f_X5_length (nI l) = nI l from rfl]
  generalize hH : (hs rC 11 _) = H
  refine k_runG (N := 1000) (fun (o : D4) => ∃ vp' vq' held', o = some (H, vp', vq', held')) (if w = 0 then 0 else 5) (fun (k : Nat) (s : Int64 × Int32) => s.1 = hs rA k 1481 ∧ s.2 = nI k) (by omega) ⟨rfl, rfl⟩ ?_ ?_ ?_
  · intro rc k s hk hI
    obtain ⟨q1, q2⟩ := hI
    have hw0 : w ≠ 0 := fun q => by rw [if_pos q] at hk; omega
    rw [if_neg hw0] at hk
    refine ⟨(hs rA (k + 1) 1481, nI (k + 1)), ⟨rfl, rfl⟩, ?_⟩
    try dsimp only
    rw [q1, q2, if_neg hw0, if_neg (show ¬ (5 : Int32) ≤ nI k from nI_nge4 (a := 5) (by omega) (by omega) hk), hA hw0 k hk, Option.bind_some, nI_1, hs_s]
  · intro rc s hI
    try dsimp only
    by_cases hw0 : w = 0
    · rw [if_pos hw0]
    · rw [if_neg hw0, hI.2, if_neg hw0, if_pos (show (5 : Int32) ≤ nI 5 from nI_ge4 (a := 5) (by omega) (by omega) (Nat.le_refl 5))]
  · intro s hI
    obtain ⟨q1, -⟩ := hI
    try dsimp only
    rw [q1]
    -- the worlds
    refine k_runG (N := 1000) (fun (o : D4) => ∃ vp' vq' held', o = some (H, vp', vq', held')) w (fun (i : Nat) (s : Int64 × Int32 × (Nat → Int64) × (Nat → Int64) × (Nat → Int64)) => s.1 = hsw rW (fun i j => bi (R i j)) w (hs rA (if w = 0 then 0 else 5) 1481) i ∧ s.2.1 = nI i) (by omega) ⟨rfl, rfl⟩ ?_ ?_ ?_
    · intro rc i s hi hI
      obtain ⟨q1, q2⟩ := hI
      try dsimp only
      rw [q1, q2, if_neg (nI_nge4 (by omega) (by omega) hi), hsw_s]
      generalize hsw rW (fun i j => bi (R i j)) w (hs rA (if w = 0 then 0 else 5) 1481) i = h2
      refine k_runG (N := 1000) (a0 := (h2, 0, s.2.2.1, s.2.2.2.1, s.2.2.2.2)) (fun (o : D4) => ∃ a', (a'.1 = hs (fun j => bi (R i j)) w (hs (rW i) 6 h2) ∧ a'.2.1 = nI (i + 1)) ∧ o = rc a') 6 (fun (k : Nat) (u : Int64 × Int32 × (Nat → Int64) × (Nat → Int64) × (Nat → Int64)) => u.1 = hs (rW i) k h2 ∧ u.2.1 = nI k) (by omega) ⟨rfl, rfl⟩ ?_ ?_ ?_
      · intro rc2 k u hk hI2
        obtain ⟨g1, g2⟩ := hI2
        obtain ⟨s', hs'⟩ := hW i hi k hk (u.2.2.1, u.2.2.2.1, u.2.2.2.2)
        refine ⟨(hs (rW i) (k + 1) h2, nI (k + 1), s'), ⟨rfl, rfl⟩, ?_⟩
        try dsimp only at hs'
        try dsimp only
        rw [g1, g2, if_neg (show ¬ (6 : Int32) ≤ nI k from nI_nge4 (a := 6) (by omega) (by omega) hk), hs', Option.bind_some, nI_1, hs_s]
      · intro rc2 u hI2
        try dsimp only
        rw [hI2.2, if_pos (show (6 : Int32) ≤ nI 6 from nI_ge4 (a := 6) (by omega) (by omega) (Nat.le_refl 6))]
      · intro u hI2
        obtain ⟨g1, g2⟩ := hI2
        try dsimp only
        rw [g1]
        generalize hs (rW i) 6 h2 = h3
        refine k_runG (N := 1000) (a0 := (h3, 0)) (fun (o : D4) => ∃ a', (a'.1 = hs (fun j => bi (R i j)) w h3 ∧ a'.2.1 = nI (i + 1)) ∧ o = rc a') w (fun (k : Nat) (v : Int64 × Int32) => v.1 = hs (fun j => bi (R i j)) k h3 ∧ v.2 = nI k) (by omega) ⟨rfl, rfl⟩ ?_ ?_ ?_
        · intro rc3 k v hk hI3
          obtain ⟨t1, t2⟩ := hI3
          refine ⟨(hs (fun j => bi (R i j)) (k + 1) h3, nI (k + 1)), ⟨rfl, rfl⟩, ?_⟩
          try dsimp only
          simp only [k_let]
          rw [t1, t2, if_neg (nI_nge4 (by omega) (by omega) hk), arrow8_e hw4 R hi hk, nI_1, hs_s]
        · intro rc3 v hI3
          try dsimp only
          rw [hI3.2, if_pos (nI_ge4 (by omega) (by omega) (Nat.le_refl w))]
        · intro v hI3
          refine ⟨_, ⟨hI3.1, ?_⟩, rfl⟩
          try dsimp only
          rw [nI_1]
    · intro rc s hI
      try dsimp only
      rw [hI.2, if_pos (nI_ge4 (by omega) (by omega) (Nat.le_refl w))]
    · intro s hI
      obtain ⟨q1, -⟩ := hI
      try dsimp only
      rw [q1]
      generalize hh2 : hsw rW (fun i j => bi (R i j)) w (hs rA (if w = 0 then 0 else 5) 1481) w = h2 at hH
      obtain ⟨-, -, vp1, vq1, held1⟩ := s
      try dsimp only
      -- the laws
      refine k_runG (N := 1000) (fun (o : D4) => ∃ vp' vq' held', o = some (H, vp', vq', held')) (if w = 0 then 0 else 5) (fun (k : Nat) (s : Int64 × Int32) => s.1 = hs (fun k => bi (obs k w R)) k h2 ∧ s.2 = nI k) (by omega) ⟨rfl, rfl⟩ ?_ ?_ ?_
      · intro rc k s hk hI
        obtain ⟨q1, q2⟩ := hI
        have hw0 : w ≠ 0 := fun q => by rw [if_pos q] at hk; omega
        rw [if_neg hw0] at hk
        refine ⟨(hs (fun k => bi (obs k w R)) (k + 1) h2, nI (k + 1)), ⟨rfl, rfl⟩, ?_⟩
        try dsimp only
        rw [q1, q2, if_neg hw0, if_neg (show ¬ (5 : Int32) ≤ nI k from nI_nge4 (a := 5) (by omega) (by omega) hk), keeps8_e hw4 hw0 ok.2.1 hk, Option.bind_some, nI_1, hs_s]
      · intro rc s hI
        try dsimp only
        by_cases hw0 : w = 0
        · rw [if_pos hw0]
        · rw [if_neg hw0, hI.2, if_neg hw0, if_pos (show (5 : Int32) ≤ nI 5 from nI_ge4 (a := 5) (by omega) (by omega) (Nat.le_refl 5))]
      · intro s hI
        obtain ⟨q1, -⟩ := hI
        try dsimp only
        rw [q1]
        generalize hh3 : hs (fun k => bi (obs k w R)) (if w = 0 then 0 else 5) h2 = h3 at hH
        -- whether it is valid
        have hv : ∃ s' : TS, (if w = 0 then some (h3, vp1, vq1, held1) else if f_X8_hasFormula (nI L) = 0 then some (h3, vp1, vq1, held1) else Option.bind (f_X8_valid (nI w) (eA R) (nI L) signs ends vp1 vq1 held1) (fun (q176 : Int32 × (Nat → Int64) × (Nat → Int64) × (Nat → Int64)) => some (((31 * h3) + (Int32.toInt64 q176.1)), q176.2.1, q176.2.2.1, q176.2.2.2))) = some ((if w = 0 then h3 else if L = 0 then h3 else 31 * h3 + Int32.toInt64 rV), s') := by
          by_cases hw0 : w = 0
          · rw [if_pos hw0, if_pos hw0]
            exact ⟨(vp1, vq1, held1), rfl⟩
          · rw [if_neg hw0, if_neg hw0, hasFormula_e h16]
            by_cases hL : L = 0
            · rw [if_pos hL, if_pos hL]
              exact ⟨(vp1, vq1, held1), rfl⟩
            · rw [if_neg hL, if_neg hL]
              simp only [i10, if_false]
              obtain ⟨s', e1⟩ := hV hw0 hL (vp1, vq1, held1)
              try dsimp only at e1
              rw [e1]
              exact ⟨s', rfl⟩
        obtain ⟨s', hv⟩ := hv
        rw [hv, Option.bind_some]
        try dsimp only
        generalize hh4 : (if w = 0 then h3 else if L = 0 then h3 else 31 * h3 + Int32.toInt64 rV) = h4 at hH
        -- the parts
        refine k_runG (N := 1000) (fun (o : D4) => ∃ vp' vq' held', o = some (H, vp', vq', held')) (if w = 0 then 0 else L) (fun (k : Nat) (s : Int64 × Int32 × (Nat → Int64) × (Nat → Int64) × (Nat → Int64)) => s.1 = hs rP k h4 ∧ s.2.1 = nI k) (by omega) ⟨rfl, rfl⟩ ?_ ?_ ?_
        · intro rc k u hk hI
          obtain ⟨q1, q2⟩ := hI
          have hw0 : w ≠ 0 := fun q => by rw [if_pos q] at hk; omega
          rw [if_neg hw0] at hk
          obtain ⟨s', hs'⟩ := hP hw0 k hk (u.2.2.1, u.2.2.2.1, u.2.2.2.2)
          refine ⟨(hs rP (k + 1) h4, nI (k + 1), s'), ⟨rfl, rfl⟩, ?_⟩
          try dsimp only at hs'
          try dsimp only
          rw [q1, q2, if_neg hw0, if_neg (nI_nge4 (by omega) (by omega) hk), hs', Option.bind_some, nI_1, hs_s]
        · intro rc u hI
          try dsimp only
          by_cases hw0 : w = 0
          · rw [if_pos hw0]
          · obtain ⟨q1, q2⟩ := hI
            rw [if_neg hw0] at q2
            rw [if_neg hw0, q2, if_pos (nI_ge4 (by omega) (by omega) (Nat.le_refl L)), ← q2]
        · intro u hI
          obtain ⟨q1, -⟩ := hI
          try dsimp only
          rw [q1]
          generalize hh5 : hs rP (if w = 0 then 0 else L) h4 = h5 at hH
          -- the signs
          refine k_runG (N := 1000) (fun (o : D4) => ∃ vp' vq' held', o = some (H, vp', vq', held')) L (fun (k : Nat) (s : Int64 × Int32) => s.1 = hs g k h5 ∧ s.2 = nI k) (by omega) ⟨rfl, rfl⟩ ?_ ?_ ?_
          · intro rc k s hk hI
            obtain ⟨q1, q2⟩ := hI
            refine ⟨(hs g (k + 1) h5, nI (k + 1)), ⟨rfl, rfl⟩, ?_⟩
            have hsg : f_X8_sign (nI L) signs (nI k) = some (g k) := by
              unfold f_X8_sign
              rw [show f_X0_length (nI L) = nI L from rfl, below_e hk (by omega), signAt_e signs (show k < 16 by omega), Option.bind_some, hf.2.1 k hk]
              rfl
            try dsimp only
            rw [q1, q2, if_neg (nI_nge4 (by omega) (by omega) hk), hsg, Option.bind_some, nI_1, hs_s]
          · intro rc s hI
            try dsimp only
            rw [hI.2, if_pos (nI_ge4 (by omega) (by omega) (Nat.le_refl L))]
          · intro s hI
            obtain ⟨q1, -⟩ := hI
            try dsimp only
            rw [h0, h1, Option.bind_some, Option.bind_some, q1]
            generalize hh7 : 31 * (31 * hs g L h5 + Int32.toInt64 s0) + Int32.toInt64 s1 = h7 at hH
            -- the page
            refine k_runG (N := 1000) (fun (o : D4) => ∃ vp' vq' held', o = some (H, vp', vq', held')) l (fun (k : Nat) (s : Int64 × Int32) => s.1 = hs codes k h7 ∧ s.2 = nI k) (by omega) ⟨rfl, rfl⟩ ?_ ?_ ?_
            · intro rc k s hk hI
              obtain ⟨q1, q2⟩ := hI
              refine ⟨(hs codes (k + 1) h7, nI (k + 1)), ⟨rfl, rfl⟩, ?_⟩
              try dsimp only
              rw [q1, q2, if_neg (nI_nge4 (by omega) (by omega) hk), at5_e (show k < 66 by omega), Option.bind_some, nI_1, hs_s]
            · intro rc s hI
              try dsimp only
              rw [hI.2, if_pos (nI_ge4 (by omega) (by omega) (Nat.le_refl l))]
            · intro s hI
              obtain ⟨q1, -⟩ := hI
              try dsimp only
              rw [q1]
              generalize hs codes l h7 = h8 at hH
              -- the counts
              refine k_runG (N := 1000) (fun (o : D4) => ∃ vp' vq' held', o = some (H, vp', vq', held')) 11 (fun (k : Nat) (s : Int64 × Int32 × (Nat → Int64) × (Nat → Int64) × (Nat → Int64)) => s.1 = hs rC k h8 ∧ s.2.1 = nI k) (by omega) ⟨rfl, rfl⟩ ?_ ?_ ?_
              · intro rc k u hk hI
                obtain ⟨q1, q2⟩ := hI
                obtain ⟨s', hs'⟩ := hC k hk (u.2.2.1, u.2.2.2.1, u.2.2.2.2)
                refine ⟨(hs rC (k + 1) h8, nI (k + 1), s'), ⟨rfl, rfl⟩, ?_⟩
                try dsimp only at hs'
                try dsimp only
                rw [q1, q2, if_neg (show ¬ (11 : Int32) ≤ nI k from nI_nge4 (a := 11) (by omega) (by omega) hk), hs', Option.bind_some, nI_1, hs_s]
              · intro rc u hI
                try dsimp only
                rw [hI.2, if_pos (show (11 : Int32) ≤ nI 11 from nI_ge4 (a := 11) (by omega) (by omega) (Nat.le_refl 11))]
              · intro u hI
                exact ⟨_, _, _, by rw [hI.1, hH]⟩
