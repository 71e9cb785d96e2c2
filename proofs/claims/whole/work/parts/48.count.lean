/-! count, both ways -/
theorem lawsObeyed_e {w : Nat} (hw : w ≤ 4) {R : Nat → Nat → Bool} (hR : ∀ a b, R a b = true → a < w ∧ b < w) : f_X8_lawsObeyed (nI w) (eA R) = some (nI (fb_ct (fun k => obs k w R) 5)) := by
  unfold f_X8_lawsObeyed
  refine k_runG (N := 1000) (fun (o : Option Int32) => o = some (nI (fb_ct (fun k => obs k w R) 5))) 5 (fun (k : Nat) (s : Int32 × Int32) => s.2 = nI k ∧ s.1 = nI (fb_ct (fun k => obs k w R) k)) (by omega) ⟨rfl, rfl⟩ ?_ ?_ ?_
  · intro rc k s hk hI
    obtain ⟨h1, h2⟩ := hI
    refine ⟨(nI (fb_ct (fun k => obs k w R) (k + 1)), nI (k + 1)), ⟨rfl, rfl⟩, ?_⟩
    try dsimp only
    rw [h1, h2, if_neg (show ¬ (5 : Int32) ≤ nI k from nI_nge4 (a := 5) (by omega) (by omega) hk), obeys_e hk hw hR, Option.bind_some, fb_ct_succ, nI_1, nI_1]
    cases obs k w R <;> rfl
  · intro rc s hI
    try dsimp only
    rw [hI.1, if_pos (show (5 : Int32) ≤ nI 5 from nI_ge4 (a := 5) (by omega) (by omega) (Nat.le_refl 5))]
  · intro s hI
    rw [hI.2]
theorem lawsKept_e {w : Nat} {R : Nat → Nat → Bool} {P Q : Nat → Bool} (ok : okF w R P Q) {arr mk : Nat → Int32} (hb : ba arr R) (hm : mks mk P Q) (m a b : Int32) (to : Nat → Int32) : ∃ m' a' b' to', f_X9_lawsKept (nI w) m a b arr mk to = some (nI (if w = 0 then 0 else fb_ct (fun k => obs k w R) 5), m', a', b', to') := by
  unfold f_X9_lawsKept
  rw [layFrame_e ok.1 ok.2.1 ok.2.2.1 ok.2.2.2 hb hm, Option.bind_some, isFrame_e (w_lt ok.1)]
  try dsimp only
  refine ⟨nI w, bI 4 P, bI 4 Q, rows_ w R to, ?_⟩
  refine k_runG (N := 1000) (fun (o : Option (Int32 × Int32 × Int32 × Int32 × (Nat → Int32))) => o = some (nI (if w = 0 then 0 else fb_ct (fun k => obs k w R) 5), nI w, bI 4 P, bI 4 Q, rows_ w R to)) 5 (fun (k : Nat) (s : Int32 × Int32) => s.2 = nI k ∧ s.1 = nI (if w = 0 then 0 else fb_ct (fun k => obs k w R) k)) (by omega) ⟨rfl, by split <;> rfl⟩ ?_ ?_ ?_
  · intro rc k s hk hI
    obtain ⟨h1, h2⟩ := hI
    refine ⟨(nI (if w = 0 then 0 else fb_ct (fun k => obs k w R) (k + 1)), nI (k + 1)), ⟨rfl, rfl⟩, ?_⟩
    try dsimp only
    rw [h1, h2, if_neg (show ¬ (5 : Int32) ≤ nI k from nI_nge4 (a := 5) (by omega) (by omega) hk), keepsNow_e hk (rows_lk w R to) ok.1, Option.bind_some, fb_ct_succ, nI_1]
    by_cases hw : w = 0
    · rw [if_pos hw, if_pos hw, if_pos hw, if_pos rfl]
      rfl
    · rw [if_neg hw, if_neg hw, if_neg hw, if_neg (show ¬ (1 : Int32) = 0 by decide)]
      cases obs k w R
      · rw [if_neg (show ¬ false = true by decide), if_pos rfl]
        show rc (_ + nI 0, _) = _
        rw [nI_add]
        rfl
      · rw [if_pos rfl, if_neg (show ¬ (1 : Int32) = 0 by decide)]
        show rc (_ + nI 1, _) = _
        rw [nI_add]
        rfl
  · intro rc s hI
    try dsimp only
    rw [hI.1, if_pos (show (5 : Int32) ≤ nI 5 from nI_ge4 (a := 5) (by omega) (by omega) (Nat.le_refl 5))]
  · intro s hI
    rw [hI.2]
theorem hasF_0 {w : Nat} (hw : w ≤ 4) : (if w = 0 then (0 : Int32) else 1) = 0 ↔ w = 0 := by
  by_cases h : w = 0
  · rw [if_pos h]; exact ⟨fun _ => h, fun _ => rfl⟩
  · rw [if_neg h]; exact ⟨fun q => absurd q (by decide), fun q => absurd q h⟩
theorem fm_0 {L : Nat} (X : Nat → Nat → Bool) : hw_ 0 X L = 0 := (bI_congr (fun a _ => by simp)).trans (bI_0 (n := 4) (by omega))
theorem howMany_e {k1 w1 A p q k2 w2 : Int32} {arr mk : Nat → Int32} (h : RF k1 w1 A p q k2 w2 arr mk) {len plen : Int32} {codes page : Nat → Int32} (hp : RPg len codes plen page) {L : Nat} {g : Nat → Int32} {e : Nat → Nat} {signs ends signAt behind : Nat → Int32} (hf : RFo L g e signs ends) (hf2 : RMo L g e signAt behind) {num poss seen : Int32} {what can : Nat → Int32} (ho : ROb num poss seen what can) (F G fc tc : Int32) (vp vq held : Nat → Int64) (m a b : Int32) (to holds : Nat → Int32) (x : Int32) :
    ∃ r vp' vq' held' m' a' b' to' holds', f_X8_count F G fc tc len w1 A p q (nI L) signs ends num vp vq held x = some (r, vp', vq', held') ∧ f_X9_howMany w2 F (nI L) G fc tc seen plen m a b arr mk signAt behind to holds x = some (r, m', a', b', to', holds') := by
  obtain ⟨kk, w, R, P, Q, hk, ok, rfl, rfl, rfl, rfl, rfl, rfl, rfl, hb, hm⟩ := h
  obtain ⟨l, c, hl, rfl, rfl, hc⟩ := hp
  obtain ⟨n, wh, cn, hn, rfl, rfl, hi, rfl⟩ := ho
  have h4 := ok.1
  have h16 := hf.1.1
  unfold f_X8_count f_X9_howMany
  by_cases h0 : x = 0
  · rw [if_pos h0, if_pos h0]; exact ⟨_, _, _, _, _, _, _, _, _, rfl, rfl⟩
  rw [if_neg h0, if_neg h0]
  by_cases h1 : x = 1
  · rw [if_pos h1, if_pos h1, arrowCount_e, allArrows_e hb]; exact ⟨_, _, _, _, _, _, _, _, _, rfl, rfl⟩
  rw [if_neg h1, if_neg h1]
  by_cases h2 : x = 2
  · rw [if_pos h2, if_pos h2]; exact ⟨_, _, _, _, _, _, _, _, _, rfl, rfl⟩
  rw [if_neg h2, if_neg h2]
  by_cases h3 : x = 3
  · rw [if_pos h3, if_pos h3, hasFormula_e h16, isFormula_e h16, isFrame_e (w_lt ok.1)]
    by_cases hL : L = 0
    · rw [if_pos hL, if_pos rfl, if_pos rfl]
      by_cases hw : w = 0
      · rw [if_pos hw]; exact ⟨_, _, _, _, _, _, _, _, _, rfl, rfl⟩
      · rw [if_neg hw]; exact ⟨_, _, _, _, _, _, _, _, _, rfl, rfl⟩
    · rw [if_neg hL, if_neg (show ¬ (1 : Int32) = 0 by decide)]
      obtain ⟨vp', vq', held', e1⟩ := worldsOf_e hf ok vp vq held (show 0 < L by omega)
      rw [show f_X8_worldsOf (nI w) (eA R) (bI 4 P) (bI 4 Q) (nI L) signs ends vp vq held 0 = _ from e1, Option.bind_some]
      try dsimp only
      by_cases hw : w = 0
      · rw [if_pos hw, if_pos rfl]
        subst hw
        rw [fm_0]
        exact ⟨_, _, _, _, _, _, _, _, _, rfl, rfl⟩
      · rw [if_neg hw, if_neg (show ¬ (1 : Int32) = 0 by decide), if_neg (show ¬ (1 : Int32) = 0 by decide)]
        obtain ⟨m', a', b', to', holds', e2⟩ := formulaHolds_e hf2 ok hb hm m a b to holds (show 0 < L by omega)
        rw [e2, Option.bind_some]
        try dsimp only
        unfold hw_
        rw [bcrow_e ok.1, sizew_e ok.1, Option.bind_some]
        exact ⟨_, _, _, _, _, _, _, _, _, rfl, rfl⟩
  rw [if_neg h3, if_neg h3]
  by_cases h5 : x = 4
  · rw [if_pos h5, if_pos h5, hasFrame_e (w_lt ok.1)]
    obtain ⟨m', a', b', to', e1⟩ := lawsKept_e ok hb hm m a b to
    rw [e1, Option.bind_some]
    by_cases hw : w = 0
    · rw [if_pos hw, if_pos rfl, if_pos hw]
      exact ⟨_, _, _, _, _, _, _, _, _, rfl, rfl⟩
    · rw [if_neg hw, if_neg (show ¬ (1 : Int32) = 0 by decide), if_neg hw, lawsObeyed_e ok.1 ok.2.1, Option.bind_some]
      exact ⟨_, _, _, _, _, _, _, _, _, rfl, rfl⟩
  rw [if_neg h5, if_neg h5]
  by_cases h6 : x = 5
  · rw [if_pos h6, if_pos h6]; exact ⟨_, _, _, _, _, _, _, _, _, rfl, rfl⟩
  rw [if_neg h6, if_neg h6]
  by_cases h7 : x = 6
  · rw [if_pos h7, if_pos h7]; exact ⟨_, _, _, _, _, _, _, _, _, rfl, rfl⟩
  rw [if_neg h7, if_neg h7]
  by_cases h8 : x = 7
  · rw [if_pos h8, if_pos h8]; exact ⟨_, _, _, _, _, _, _, _, _, rfl, rfl⟩
  rw [if_neg h8, if_neg h8]
  by_cases h9 : x = 8
  · rw [if_pos h9, if_pos h9]; exact ⟨_, _, _, _, _, _, _, _, _, rfl, rfl⟩
  rw [if_neg h9, if_neg h9]
  by_cases h10 : x = 9
  · rw [if_pos h10, if_pos h10]; exact ⟨_, _, _, _, _, _, _, _, _, rfl, rfl⟩
  rw [if_neg h10, if_neg h10]
  by_cases h11 : x = 10
  · rw [if_pos h11, if_pos h11]; exact ⟨_, _, _, _, _, _, _, _, _, rfl, rfl⟩
  rw [if_neg h11, if_neg h11]
  exact ⟨_, _, _, _, _, _, _, _, _, rfl, rfl⟩
theorem st_count {k1 w1 A p q k2 w2 : Int32} {arr mk : Nat → Int32} (h : RF k1 w1 A p q k2 w2 arr mk) {len plen : Int32} {codes page : Nat → Int32} (hp : RPg len codes plen page) {L : Nat} {g : Nat → Int32} {e : Nat → Nat} {signs ends signAt behind : Nat → Int32} (hf : RFo L g e signs ends) (hf2 : RMo L g e signAt behind) {num poss seen : Int32} {what can : Nat → Int32} (ho : ROb num poss seen what can) (F G fc tc : Int32) (vp vq held : Nat → Int64) (m a b : Int32) (to holds : Nat → Int32) (x : Int32) :
    ∃ r vp' vq' held' m' a' b' to' holds', f_X8_count F G fc tc len w1 A p q (nI L) signs ends num vp vq held x = some (r, vp', vq', held') ∧ f_X9_count w2 F (nI L) G fc tc seen plen m a b arr mk signAt behind to holds x = some (r, m', a', b', to', holds') := by
  obtain ⟨r, vp', vq', held', m', a', b', to', holds', e1, e2⟩ := howMany_e h hp hf hf2 ho F G fc tc vp vq held m a b to holds x
  refine ⟨r, vp', vq', held', m', a', b', to', holds', e1, ?_⟩
  unfold f_X9_count
  rw [e2]
  rfl
