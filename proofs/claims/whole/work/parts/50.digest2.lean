abbrev W7 := Option (Int32 × Int32 × Int32 × Int64 × (Nat → Int32) × (Nat → Int32) × (Nat → Int32))
abbrev D8 := Option (Int64 × Int32 × Int32 × Int32 × Int64 × (Nat → Int32) × (Nat → Int32) × (Nat → Int32))
abbrev TA := Int32 × Int32 × Int32 × (Nat → Int32) × (Nat → Int32)
abbrev TW := Int32 × Int32 × Int32 × (Nat → Int32) × (Nat → Int32) × (Nat → Int32)
theorem mixWorld_e {w : Nat} (hw4 : w ≤ 4) {R : Nat → Nat → Bool} {arr : Nat → Int32} (hb : ba arr R) {L : Nat} {mk sa be : Nat → Int32} {i : Nat} (hi : i < w) {rW : Nat → Int32}
    (hW : ∀ k, k < 6 → ∀ s : TW, ∃ s' : TW, f_X9_worldNow (nI w) (nI L) s.1 s.2.1 s.2.2.1 arr mk sa be s.2.2.2.1 s.2.2.2.2.1 s.2.2.2.2.2 (nI i) (nI k) = some (rW k, s')) (m a b : Int32) (h : Int64) (to ho ap : Nat → Int32) :
    ∃ m' a' b' to' ho' ap', f_X9_mixWorld (nI w) (nI L) m a b h arr mk sa be to ho ap (nI i) = some (m', a', b', hs (fun j => bi (R i j)) w (hs rW 6 h), to', ho', ap') := by
  unfold f_X9_mixWorld
  refine k_runG (N := 1000) (fun (o : W7) => ∃ m' a' b' to' ho' ap', o = some (m', a', b', hs (fun j => bi (R i j)) w (hs rW 6 h), to', ho', ap')) 6 (fun (k : Nat) (u : Int32 × Int32 × Int32 × Int32 × Int64 × (Nat → Int32) × (Nat → Int32) × (Nat → Int32)) => u.1 = nI k ∧ u.2.2.2.2.1 = hs rW k h) (by omega) ⟨rfl, rfl⟩ ?_ ?_ ?_
  · intro rc k u hk hI
    obtain ⟨q1, q2⟩ := hI
    obtain ⟨⟨m1, a1, b1, t1, o1, p1⟩, hs'⟩ := hW k hk (u.2.1, u.2.2.1, u.2.2.2.1, u.2.2.2.2.2.1, u.2.2.2.2.2.2.1, u.2.2.2.2.2.2.2)
    refine ⟨(nI (k + 1), m1, a1, b1, hs rW (k + 1) h, t1, o1, p1), ⟨rfl, rfl⟩, ?_⟩
    try dsimp only at hs'
    try dsimp only
    rw [q1, q2, if_neg (show ¬ (6 : Int32) ≤ nI k from nI_nge4 (a := 6) (by omega) (by omega) hk), hs', Option.bind_some, nI_1]
    rfl
  · intro rc u hI
    try dsimp only
    rw [hI.1, if_pos (show (6 : Int32) ≤ nI 6 from nI_ge4 (a := 6) (by omega) (by omega) (Nat.le_refl 6))]
  · intro u hI
    obtain ⟨q1, q2⟩ := hI
    try dsimp only
    rw [q2]
    generalize hs rW 6 h = h3
    refine k_runG (N := 1000) (fun (o : W7) => ∃ m' a' b' to' ho' ap', o = some (m', a', b', hs (fun j => bi (R i j)) w h3, to', ho', ap')) w (fun (k : Nat) (v : Int32 × Int64) => v.1 = nI k ∧ v.2 = hs (fun j => bi (R i j)) k h3) (by omega) ⟨rfl, rfl⟩ ?_ ?_ ?_
    · intro rc k v hk hI
      obtain ⟨t1, t2⟩ := hI
      refine ⟨(nI (k + 1), hs (fun j => bi (R i j)) (k + 1) h3), ⟨rfl, rfl⟩, ?_⟩
      try dsimp only
      rw [t1, t2, if_neg (nI_nge4 (by omega) (by omega) hk), arrowNow_e hb (show i < 4 by omega) (show k < 4 by omega), Option.bind_some, nI_1]
      rfl
    · intro rc v hI
      try dsimp only
      rw [hI.1, if_pos (nI_ge4 (by omega) (by omega) (Nat.le_refl w))]
    · intro v hI
      exact ⟨_, _, _, _, _, _, by rw [hI.2]⟩
/-- the hash when the frame is told -/
def dgF (w L : Nat) (rA : Nat → Int32) (rW rR : Nat → Nat → Int32) (rK : Nat → Int32) (rV : Int32) (rP : Nat → Int32) (h : Int64) : Int64 := hs rP L (if L = 0 then hs rK 5 (hsw rW rR w (hs rA 5 h) w) else 31 * hs rK 5 (hsw rW rR w (hs rA 5 h) w) + Int32.toInt64 rV)
theorem mixFrame_e {kk w : Nat} (hw0 : w ≠ 0) {R : Nat → Nat → Bool} {P Q : Nat → Bool} (ok : okF w R P Q) {arr mk : Nat → Int32} (hb : ba arr R) (hm : mks mk P Q) {L : Nat} (h16 : L ≤ 16) {sa be : Nat → Int32}
    {rA : Nat → Int32} {rW : Nat → Nat → Int32} {rV : Int32} {rP : Nat → Int32}
    (hA : ∀ k, k < 5 → ∀ s : TA, ∃ s' : TA, f_X9_aboutNow (nI kk) (nI w) s.1 s.2.1 s.2.2.1 arr mk s.2.2.2.1 s.2.2.2.2 (nI k) = some (rA k, s'))
    (hW : ∀ i, i < w → ∀ k, k < 6 → ∀ s : TW, ∃ s' : TW, f_X9_worldNow (nI w) (nI L) s.1 s.2.1 s.2.2.1 arr mk sa be s.2.2.2.1 s.2.2.2.2.1 s.2.2.2.2.2 (nI i) (nI k) = some (rW i k, s'))
    (hV : L ≠ 0 → ∀ s : TA, ∃ s' : TA, f_X9_validNow (nI w) (nI L) s.1 s.2.1 s.2.2.1 arr mk sa be s.2.2.2.1 s.2.2.2.2 = some (rV, s'))
    (hP : ∀ i, i < L → ∀ s : TA, ∃ s' : TA, f_X9_partNow (nI w) (nI L) s.1 s.2.1 s.2.2.1 arr mk sa be s.2.2.2.1 s.2.2.2.2 (nI i) = some (rP i, s')) (m a b : Int32) (h : Int64) (to ho ap : Nat → Int32) :
    ∃ m' a' b' to' ho' ap', f_X9_mixFrame (nI kk) (nI w) (nI L) m a b h arr mk sa be to ho ap = some (m', a', b', dgF w L rA rW (fun i j => bi (R i j)) (fun k => bi (obs k w R)) rV rP h, to', ho', ap') := by
  have hw4 := ok.1
  unfold f_X9_mixFrame dgF
  generalize hH : hs rP L _ = H
  refine k_runG (N := 1000) (fun (o : W7) => ∃ m' a' b' to' ho' ap', o = some (m', a', b', H, to', ho', ap')) 5 (fun (k : Nat) (u : Int32 × Int32 × Int32 × Int32 × Int64 × (Nat → Int32) × (Nat → Int32)) => u.1 = nI k ∧ u.2.2.2.2.1 = hs rA k h) (by omega) ⟨rfl, rfl⟩ ?_ ?_ ?_
  · intro rc k u hk hI
    obtain ⟨q1, q2⟩ := hI
    obtain ⟨⟨m1, a1, b1, t1, p1⟩, hs'⟩ := hA k hk (u.2.1, u.2.2.1, u.2.2.2.1, u.2.2.2.2.2.1, u.2.2.2.2.2.2)
    refine ⟨(nI (k + 1), m1, a1, b1, hs rA (k + 1) h, t1, p1), ⟨rfl, rfl⟩, ?_⟩
    try dsimp only at hs'
    try dsimp only
    rw [q1, q2, if_neg (show ¬ (5 : Int32) ≤ nI k from nI_nge4 (a := 5) (by omega) (by omega) hk), hs', Option.bind_some, nI_1]
    rfl
  · intro rc u hI
    try dsimp only
    rw [hI.1, if_pos (show (5 : Int32) ≤ nI 5 from nI_ge4 (a := 5) (by omega) (by omega) (Nat.le_refl 5))]
  · intro u hI
    obtain ⟨q1, q2⟩ := hI
    try dsimp only
    rw [q2]
    refine k_runG (N := 1000) (fun (o : W7) => ∃ m' a' b' to' ho' ap', o = some (m', a', b', H, to', ho', ap')) w (fun (i : Nat) (v : Int32 × Int32 × Int32 × Int32 × Int64 × (Nat → Int32) × (Nat → Int32) × (Nat → Int32)) => v.1 = nI i ∧ v.2.2.2.2.1 = hsw rW (fun i j => bi (R i j)) w (hs rA 5 h) i) (by omega) ⟨rfl, rfl⟩ ?_ ?_ ?_
    · intro rc i v hi hI
      obtain ⟨q1, q2⟩ := hI
      obtain ⟨m1, a1, b1, t1, o1, p1, hs'⟩ := mixWorld_e hw4 hb hi (hW i hi) v.2.1 v.2.2.1 v.2.2.2.1 v.2.2.2.2.1 v.2.2.2.2.2.1 v.2.2.2.2.2.2.1 v.2.2.2.2.2.2.2
      refine ⟨(nI (i + 1), m1, a1, b1, hsw rW (fun i j => bi (R i j)) w (hs rA 5 h) (i + 1), t1, o1, p1), ⟨rfl, rfl⟩, ?_⟩
      try dsimp only
      rw [q1, if_neg (nI_nge4 (by omega) (by omega) hi), hs', Option.bind_some, nI_1, q2]
      rfl
    · intro rc v hI
      try dsimp only
      rw [hI.1, if_pos (nI_ge4 (by omega) (by omega) (Nat.le_refl w))]
    · intro v hI
      obtain ⟨q1, q2⟩ := hI
      try dsimp only
      rw [q2]
      generalize hsw rW (fun i j => bi (R i j)) w (hs rA 5 h) w = h2 at hH ⊢
      refine k_runG (N := 1000) (fun (o : W7) => ∃ m' a' b' to' ho' ap', o = some (m', a', b', H, to', ho', ap')) 5 (fun (k : Nat) (u : Int32 × Int32 × Int32 × Int32 × Int64 × (Nat → Int32)) => u.1 = nI k ∧ u.2.2.2.2.1 = hs (fun k => bi (obs k w R)) k h2) (by omega) ⟨rfl, rfl⟩ ?_ ?_ ?_
      · intro rc k u hk hI
        obtain ⟨q1, q2⟩ := hI
        refine ⟨(nI (k + 1), nI w, bI 4 P, bI 4 Q, hs (fun k => bi (obs k w R)) (k + 1) h2, rows_ w R u.2.2.2.2.2), ⟨rfl, rfl⟩, ?_⟩
        try dsimp only
        rw [q1, q2, if_neg (show ¬ (5 : Int32) ≤ nI k from nI_nge4 (a := 5) (by omega) (by omega) hk), keepsTold_e hk ok hb hm, Option.bind_some, nI_1]
        rfl
      · intro rc u hI
        try dsimp only
        rw [hI.1, if_pos (show (5 : Int32) ≤ nI 5 from nI_ge4 (a := 5) (by omega) (by omega) (Nat.le_refl 5))]
      · intro u hI
        obtain ⟨q1, q2⟩ := hI
        try dsimp only
        rw [q2, isFormula_e h16]
        generalize hs (fun k => bi (obs k w R)) 5 h2 = h3 at hH ⊢
        by_cases hL : L = 0
        · rw [if_pos hL, if_pos rfl]
          rw [if_pos hL] at hH
          subst hL
          exact ⟨_, _, _, _, _, _, by rw [← hH]; rfl⟩
        · rw [if_neg hL, if_neg (show ¬ (1 : Int32) = 0 by decide)]
          rw [if_neg hL] at hH
          obtain ⟨⟨m1, a1, b1, t1, p1⟩, hs'⟩ := hV hL (u.2.1, u.2.2.1, u.2.2.2.1, u.2.2.2.2.2, v.2.2.2.2.2.2.1)
          try dsimp only at hs'
          rw [hs', Option.bind_some]
          try dsimp only
          rw [show f_X9_mix h3 (Int32.toInt64 rV) = 31 * h3 + Int32.toInt64 rV from rfl]
          generalize 31 * h3 + Int32.toInt64 rV = h4 at hH ⊢
          refine k_runG (N := 1000) (fun (o : W7) => ∃ m' a' b' to' ho' ap', o = some (m', a', b', H, to', ho', ap')) L (fun (k : Nat) (u : Int32 × Int32 × Int32 × Int32 × Int64 × (Nat → Int32) × (Nat → Int32)) => u.1 = nI k ∧ u.2.2.2.2.1 = hs rP k h4) (by omega) ⟨rfl, rfl⟩ ?_ ?_ ?_
          · intro rc k x hk hI
            obtain ⟨q1, q2⟩ := hI
            obtain ⟨⟨m2, a2, b2, t2, p2⟩, hs2⟩ := hP k hk (x.2.1, x.2.2.1, x.2.2.2.1, x.2.2.2.2.2.1, x.2.2.2.2.2.2)
            refine ⟨(nI (k + 1), m2, a2, b2, hs rP (k + 1) h4, t2, p2), ⟨rfl, rfl⟩, ?_⟩
            try dsimp only at hs2
            try dsimp only
            rw [q1, q2, if_neg (nI_nge4 (by omega) (by omega) hk), hs2, Option.bind_some, nI_1]
            rfl
          · intro rc x hI
            try dsimp only
            rw [hI.1, if_pos (nI_ge4 (by omega) (by omega) (Nat.le_refl L))]
          · intro x hI
            exact ⟨_, _, _, _, _, _, by rw [hI.2, hH]⟩
theorem dgH_0 {L l : Nat} {rA : Nat → Int32} {rW rR : Nat → Nat → Int32} {rK : Nat → Int32} {rV : Int32} {rP rS : Nat → Int32} {s0 s1 : Int32} {rG rC : Nat → Int32} : dgH 0 L l rA rW rR rK rV rP rS s0 s1 rG rC = hs rC 11 (hs rG l (31 * (31 * hs rS L 1481 + Int32.toInt64 s0) + Int32.toInt64 s1)) := rfl
theorem dgH_1 {w L l : Nat} (hw0 : w ≠ 0) {rA : Nat → Int32} {rW rR : Nat → Nat → Int32} {rK : Nat → Int32} {rV : Int32} {rP rS : Nat → Int32} {s0 s1 : Int32} {rG rC : Nat → Int32} : dgH w L l rA rW rR rK rV rP rS s0 s1 rG rC = hs rC 11 (hs rG l (31 * (31 * hs rS L (dgF w L rA rW rR rK rV rP 1481) + Int32.toInt64 s0) + Int32.toInt64 s1)) := by
  unfold dgH dgF
  rw [if_neg hw0, if_neg hw0, if_neg hw0]
theorem digest9_e {kk w : Nat} {R : Nat → Nat → Bool} {P Q : Nat → Bool} (ok : okF w R P Q) {arr mk : Nat → Int32} (hb : ba arr R) (hm : mks mk P Q) {l : Nat} (hl : l ≤ 66) {codes page : Nat → Int32} (hpg : ∀ i, i < l → page i = codes i) {L : Nat} {g : Nat → Int32} {e : Nat → Nat} {sa be : Nat → Int32} (hf : RMo L g e sa be) (F G fc tc n : Int32) {what can : Nat → Int32}
    {rA : Nat → Int32} {rW : Nat → Nat → Int32} {rV : Int32} {rP : Nat → Int32} {s0 s1 : Int32} {rC : Nat → Int32}
    (hA : w ≠ 0 → ∀ k, k < 5 → ∀ s : TA, ∃ s' : TA, f_X9_aboutNow (nI kk) (nI w) s.1 s.2.1 s.2.2.1 arr mk s.2.2.2.1 s.2.2.2.2 (nI k) = some (rA k, s'))
    (hW : ∀ i, i < w → ∀ k, k < 6 → ∀ s : TW, ∃ s' : TW, f_X9_worldNow (nI w) (nI L) s.1 s.2.1 s.2.2.1 arr mk sa be s.2.2.2.1 s.2.2.2.2.1 s.2.2.2.2.2 (nI i) (nI k) = some (rW i k, s'))
    (hV : w ≠ 0 → L ≠ 0 → ∀ s : TA, ∃ s' : TA, f_X9_validNow (nI w) (nI L) s.1 s.2.1 s.2.2.1 arr mk sa be s.2.2.2.1 s.2.2.2.2 = some (rV, s'))
    (hP : w ≠ 0 → ∀ i, i < L → ∀ s : TA, ∃ s' : TA, f_X9_partNow (nI w) (nI L) s.1 s.2.1 s.2.2.1 arr mk sa be s.2.2.2.1 s.2.2.2.2 (nI i) = some (rP i, s'))
    (h0 : f_X9_sortsNow n what can = some s0) (h1 : f_X9_askNow n what can = some s1)
    (hC : ∀ k, k < 11 → ∀ s : TA, ∃ s' : TA, f_X9_howMany (nI w) F (nI L) G fc tc n (nI l) s.1 s.2.1 s.2.2.1 arr mk sa be s.2.2.2.1 s.2.2.2.2 (nI k) = some (rC k, s')) (m a b : Int32) (h : Int64) (to ho ap : Nat → Int32) :
    ∃ m' a' b' h' to' ho' ap', f_X9_digest (nI kk) (nI w) F (nI L) G fc tc n (nI l) m a b h arr mk sa be what can page to ho ap = some (dgH w L l rA rW (fun i j => bi (R i j)) (fun k => bi (obs k w R)) rV rP g s0 s1 codes rC, m', a', b', h', to', ho', ap') := by
  have hw4 := ok.1
  have h16 := hf.1.1
  unfold f_X9_digest
  have hj : ∃ h5 m1 a1 b1 t1 o1 p1, (if (f_X9_isFrame (nI w)) = 0 then some (m, a, b, 1481, to, ho, ap) else Option.bind (f_X9_mixFrame (nI kk) (nI w) (nI L) m a b 1481 arr mk sa be to ho ap) (fun (q15 : Int32 × Int32 × Int32 × Int64 × (Nat → Int32) × (Nat → Int32) × (Nat → Int32)) => some (q15.1, q15.2.1, q15.2.2.1, q15.2.2.2.1, q15.2.2.2.2.1, q15.2.2.2.2.2.1, q15.2.2.2.2.2.2)) : W7) = some (m1, a1, b1, h5, t1, o1, p1) ∧ dgH w L l rA rW (fun i j => bi (R i j)) (fun k => bi (obs k w R)) rV rP g s0 s1 codes rC = hs rC 11 (hs codes l (31 * (31 * hs g L h5 + Int32.toInt64 s0) + Int32.toInt64 s1)) := by
    rw [isFrame_e (w_lt hw4)]
    by_cases hw0 : w = 0
    · subst hw0
      rw [if_pos rfl, if_pos rfl]
      exact ⟨1481, _, _, _, _, _, _, rfl, dgH_0⟩
    · rw [if_neg hw0, if_neg (show ¬ (1 : Int32) = 0 by decide)]
      obtain ⟨m1, a1, b1, t1, o1, p1, e1⟩ := mixFrame_e hw0 ok hb hm h16 (hA hw0) hW (hV hw0) (hP hw0) m a b 1481 to ho ap
      rw [e1]
      exact ⟨_, _, _, _, _, _, _, rfl, dgH_1 hw0⟩
  obtain ⟨h5, m1, a1, b1, t1, o1, p1, e1, e2⟩ := hj
  rw [e1, e2, Option.bind_some]
  try dsimp only
  generalize hH : hs rC 11 _ = H
  refine k_runG (N := 1000) (fun (o : D8) => ∃ m' a' b' h' to' ho' ap', o = some (H, m', a', b', h', to', ho', ap')) L (fun (k : Nat) (s : Int32 × Int64) => s.1 = nI k ∧ s.2 = hs g k h5) (by omega) ⟨rfl, rfl⟩ ?_ ?_ ?_
  · intro rc k s hk hI
    obtain ⟨q1, q2⟩ := hI
    refine ⟨(nI (k + 1), hs g (k + 1) h5), ⟨rfl, rfl⟩, ?_⟩
    try dsimp only
    rw [q1, q2, if_neg (nI_nge4 (by omega) (by omega) hk), chk_e (show k < 16 by omega) (by omega), cl_e (show k < 2 ^ 31 by omega), hf.2.1 k hk, nI_1]
    rfl
  · intro rc s hI
    try dsimp only
    rw [hI.1, if_pos (nI_ge4 (by omega) (by omega) (Nat.le_refl L))]
  · intro s hI
    obtain ⟨q1, q2⟩ := hI
    try dsimp only
    rw [h0, h1, Option.bind_some, Option.bind_some, q2, show f_X9_mix (f_X9_mix (hs g L h5) (Int32.toInt64 s0)) (Int32.toInt64 s1) = 31 * (31 * hs g L h5 + Int32.toInt64 s0) + Int32.toInt64 s1 from rfl]
    generalize 31 * (31 * hs g L h5 + Int32.toInt64 s0) + Int32.toInt64 s1 = h7 at hH ⊢
    refine k_runG (N := 1000) (fun (o : D8) => ∃ m' a' b' h' to' ho' ap', o = some (H, m', a', b', h', to', ho', ap')) l (fun (k : Nat) (s : Int32 × Int64) => s.1 = nI k ∧ s.2 = hs codes k h7) (by omega) ⟨rfl, rfl⟩ ?_ ?_ ?_
    · intro rc k s hk hI
      obtain ⟨q1, q2⟩ := hI
      refine ⟨(nI (k + 1), hs codes (k + 1) h7), ⟨rfl, rfl⟩, ?_⟩
      try dsimp only
      rw [q1, q2, if_neg (nI_nge4 (by omega) (by omega) hk), chk_e (show k < 66 by omega) (by omega), cl_e (show k < 2 ^ 31 by omega), hpg k hk, nI_1]
      rfl
    · intro rc s hI
      try dsimp only
      rw [hI.1, if_pos (nI_ge4 (by omega) (by omega) (Nat.le_refl l))]
    · intro s hI
      obtain ⟨q1, q2⟩ := hI
      try dsimp only
      rw [q2]
      generalize hs codes l h7 = h8 at hH ⊢
      refine k_runG (N := 1000) (fun (o : D8) => ∃ m' a' b' h' to' ho' ap', o = some (H, m', a', b', h', to', ho', ap')) 11 (fun (k : Nat) (u : Int32 × Int32 × Int32 × Int32 × Int64 × (Nat → Int32) × (Nat → Int32)) => u.1 = nI k ∧ u.2.2.2.2.1 = hs rC k h8) (by omega) ⟨rfl, rfl⟩ ?_ ?_ ?_
      · intro rc k u hk hI
        obtain ⟨q1, q2⟩ := hI
        obtain ⟨⟨m2, a2, b2, t2, p2⟩, hs2⟩ := hC k hk (u.2.1, u.2.2.1, u.2.2.2.1, u.2.2.2.2.2.1, u.2.2.2.2.2.2)
        refine ⟨(nI (k + 1), m2, a2, b2, hs rC (k + 1) h8, t2, p2), ⟨rfl, rfl⟩, ?_⟩
        try dsimp only at hs2
        try dsimp only
        rw [q1, q2, if_neg (show ¬ (11 : Int32) ≤ nI k from nI_nge4 (a := 11) (by omega) (by omega) hk), hs2, Option.bind_some, nI_1]
        rfl
      · intro rc u hI
        try dsimp only
        rw [hI.1, if_pos (show (11 : Int32) ≤ nI 11 from nI_ge4 (a := 11) (by omega) (by omega) (Nat.le_refl 11))]
      · intro u hI
        exact ⟨_, _, _, _, _, _, _, by rw [hI.2, hH]⟩
theorem st_digest {k1 w1 A p q k2 w2 : Int32} {arr mk : Nat → Int32} (h : RF k1 w1 A p q k2 w2 arr mk) {len plen : Int32} {codes page : Nat → Int32} (hp : RPg len codes plen page) {L : Nat} {g : Nat → Int32} {e : Nat → Nat} {signs ends sa be : Nat → Int32} (hf : RFo L g e signs ends) (hf2 : RMo L g e sa be) {num poss seen : Int32} {what can : Nat → Int32} (ho : ROb num poss seen what can) (F G fc tc : Int32) (vp vq held : Nat → Int64) (m a b : Int32) (hh : Int64) (to hd ap : Nat → Int32) :
    ∃ r vp' vq' held' m' a' b' h' to' hd' ap', f_X8_digest F G fc tc len codes k1 w1 A p q (nI L) signs ends num poss vp vq held = some (r, vp', vq', held') ∧ f_X9_digest k2 w2 F (nI L) G fc tc seen plen m a b hh arr mk sa be what can page to hd ap = some (r, m', a', b', h', to', hd', ap') := by
  have h0 := h
  have hp0 := hp
  have ho0 := ho
  have h16 := hf.1.1
  obtain ⟨kk, w, R, P, Q, hk, ok, rfl, rfl, rfl, rfl, rfl, rfl, rfl, hb, hm⟩ := h
  obtain ⟨l, c, hl, rfl, rfl, hc⟩ := hp
  have hw4 := ok.1
  have zS : TS := (fun _ => 0, fun _ => 0, fun _ => 0)
  have zA : TA := (0, 0, 0, fun _ => 0, fun _ => 0)
  have zW : TW := (0, 0, 0, fun _ => 0, fun _ => 0, fun _ => 0)
  obtain ⟨rC, hC⟩ := indepN (C := fun k (s : TS) => f_X8_count F G fc tc (nI l) (nI w) (eA R) (bI 4 P) (bI 4 Q) (nI L) signs ends num s.1 s.2.1 s.2.2 (nI k)) (M := fun k (s : TA) => f_X9_howMany (nI w) F (nI L) G fc tc seen (nI l) s.1 s.2.1 s.2.2.1 arr mk sa be s.2.2.2.1 s.2.2.2.2 (nI k)) 11 zS zA (fun k _ s t => by
    obtain ⟨r, v1, v2, v3, u1, u2, u3, u4, u5, e1, e2⟩ := howMany_e h0 hp0 hf hf2 ho0 F G fc tc s.1 s.2.1 s.2.2 t.1 t.2.1 t.2.2.1 t.2.2.2.1 t.2.2.2.2 (nI k)
    exact ⟨r, (v1, v2, v3), (u1, u2, u3, u4, u5), e1, e2⟩)
  obtain ⟨rP, hP⟩ := indepN (C := fun k (s : TS) => f_X8_part (nI w) (eA R) (bI 4 P) (bI 4 Q) (nI L) signs ends s.1 s.2.1 s.2.2 (nI k)) (M := fun k (s : TA) => f_X9_part (nI w) (nI L) s.1 s.2.1 s.2.2.1 arr mk sa be s.2.2.2.1 s.2.2.2.2 (nI k)) L zS zA (fun k _ s t => by
    obtain ⟨r, v1, v2, v3, u1, u2, u3, u4, u5, e1, e2⟩ := st_part h0 hf hf2 s.1 s.2.1 s.2.2 t.1 t.2.1 t.2.2.1 t.2.2.2.1 t.2.2.2.2 (nI k)
    exact ⟨r, (v1, v2, v3), (u1, u2, u3, u4, u5), e1, e2⟩)
  obtain ⟨rV, hV⟩ := indep (C := fun (s : TS) => f_X8_valid (nI w) (eA R) (nI L) signs ends s.1 s.2.1 s.2.2) (M := fun (s : TA) => f_X9_valid (nI w) (nI L) s.1 s.2.1 s.2.2.1 arr mk sa be s.2.2.2.1 s.2.2.2.2) (fun s t => by
    obtain ⟨r, v1, v2, v3, u1, u2, u3, u4, u5, e1, e2⟩ := st_valid h0 hf hf2 s.1 s.2.1 s.2.2 t.1 t.2.1 t.2.2.1 t.2.2.2.1 t.2.2.2.2
    exact ⟨r, (v1, v2, v3), (u1, u2, u3, u4, u5), e1, e2⟩) zS zA
  have hW' : ∀ i, ∃ rW : Nat → Int32, ∀ k, k < 6 → (∀ s : TS, ∃ s' : TS, f_X8_world (nI w) (eA R) (bI 4 P) (bI 4 Q) (nI L) signs ends s.1 s.2.1 s.2.2 (nI i) (nI k) = some (rW k, s')) ∧ ∀ t : TW, ∃ t' : TW, f_X9_world (nI w) (nI L) t.1 t.2.1 t.2.2.1 arr mk sa be t.2.2.2.1 t.2.2.2.2.1 t.2.2.2.2.2 (nI i) (nI k) = some (rW k, t') := fun i =>
    indepN (C := fun k (s : TS) => f_X8_world (nI w) (eA R) (bI 4 P) (bI 4 Q) (nI L) signs ends s.1 s.2.1 s.2.2 (nI i) (nI k)) (M := fun k (t : TW) => f_X9_world (nI w) (nI L) t.1 t.2.1 t.2.2.1 arr mk sa be t.2.2.2.1 t.2.2.2.2.1 t.2.2.2.2.2 (nI i) (nI k)) 6 zS zW (fun k _ s t => by
      obtain ⟨r, v1, v2, v3, u1, u2, u3, u4, u5, u6, e1, e2⟩ := st_world h0 hf hf2 s.1 s.2.1 s.2.2 t.1 t.2.1 t.2.2.1 t.2.2.2.1 t.2.2.2.2.1 t.2.2.2.2.2 (nI i) (nI k)
      exact ⟨r, (v1, v2, v3), (u1, u2, u3, u4, u5, u6), e1, e2⟩)
  obtain ⟨rA, hA⟩ := indepN (C := fun k (s : Unit) => (f_X8_about (nI kk) (nI w) (eA R) (bI 4 P) (bI 4 Q) (nI k)).map (fun r => (r, s))) (M := fun k (t : TA) => f_X9_about (nI kk) (nI w) t.1 t.2.1 t.2.2.1 arr mk t.2.2.2.1 t.2.2.2.2 (nI k)) 5 () zA (fun k _ s t => by
    obtain ⟨r, u1, u2, u3, u4, u5, e1, e2⟩ := st_about h0 t.1 t.2.1 t.2.2.1 t.2.2.2.1 t.2.2.2.2 (nI k)
    exact ⟨r, s, (u1, u2, u3, u4, u5), by rw [e1]; rfl, e2⟩)
  have hA8 : ∀ k, k < 5 → f_X8_about (nI kk) (nI w) (eA R) (bI 4 P) (bI 4 Q) (nI k) = some (rA k) := fun k hk => by
    obtain ⟨s', e1⟩ := (hA k hk).1 ()
    cases ho : f_X8_about (nI kk) (nI w) (eA R) (bI 4 P) (bI 4 Q) (nI k) with
    | none => rw [ho] at e1; cases e1
    | some r => rw [ho] at e1; rw [(Prod.mk.inj (Option.some.inj e1)).1]
  obtain ⟨n, wh, cn, hn, rfl, rfl, hi, rfl⟩ := ho
  obtain ⟨s1, a1, a2⟩ := askNow_e hn hi
  have a0 := sortsNow_e hn hi
  have b0 : f_X8_sorts (bI 5 (lef n wh cn)) 0 = some (bI 5 (lef n wh cn)) := rfl
  have b1 : f_X8_sorts (bI 5 (lef n wh cn)) 1 = some s1 := by
    unfold f_X8_sorts
    rw [show f_X8_isBelow 1 2 = 1 by decide, if_neg (show ¬ (1 : Int32) = 0 by decide), if_neg (show ¬ (1 : Int32) = 0 by decide), a1]
    rfl
  obtain ⟨v1, v2, v3, e1⟩ := digest8_e (kk := kk) ok hl (codes := codes) hf F G fc tc (nI n) (bI 5 (lef n wh cn)) vp vq held (rA := rA) (rW := fun i => Classical.choose (hW' i)) (rV := rV) (rP := rP) (s0 := bI 5 (lef n wh cn)) (s1 := s1) (rC := rC) (fun _ k hk => hA8 k hk) (fun i _ k hk => ((Classical.choose_spec (hW' i)) k hk).1) (fun _ _ => hV.1) (fun _ i hi => (hP i hi).1) b0 b1 (fun k hk => (hC k hk).1)
  obtain ⟨u1, u2, u3, u4, u5, u6, u7, e2⟩ := digest9_e (kk := kk) ok hb hm hl (codes := codes) (page := page) (fun i hi => by rw [(hc i hi).2.2.1, (hc i hi).2.2.2]) hf2 F G fc tc (nI n) (what := what) (can := can) (rA := rA) (rW := fun i => Classical.choose (hW' i)) (rV := rV) (rP := rP) (s0 := bI 5 (lef n wh cn)) (s1 := s1) (rC := rC) (fun hw0 k hk s => by
      obtain ⟨t', e3⟩ := (hA k hk).2 s
      exact ⟨t', by rw [← aboutNow_e hw4 hw0 hk]; exact e3⟩) (fun i hi k hk s => by
      obtain ⟨t', e3⟩ := ((Classical.choose_spec (hW' i)) k hk).2 s
      exact ⟨t', by rw [← worldNow_e hw4 hi hk]; exact e3⟩) (fun hw0 hL s => by
      obtain ⟨t', e3⟩ := hV.2 s
      exact ⟨t', by rw [← validNow_e hw4 hw0 hL h16]; exact e3⟩) (fun hw0 i hi s => by
      obtain ⟨t', e3⟩ := (hP i hi).2 s
      exact ⟨t', by rw [← partNow_e hw4 hw0 h16 hi]; exact e3⟩) a0 a2 (fun k hk => (hC k hk).2) m a b hh to hd ap
  exact ⟨_, v1, v2, v3, u1, u2, u3, u4, u5, u6, u7, e1, e2⟩
