def dres (s w n y : Nat) (g : Nat → Int32) (e : Nat → Nat) (R : Nat → Nat → Bool) : Nat := if y = 0 then fb_sm (fun d => fb_ct (Hd s w g e R d) w) n else if y = 1 then fb_ct (fun d => (List.range w).all (Hd s w g e R d)) n else sq s (n * w)
abbrev K7 := Option (Int32 × Int32 × Int32 × Int32 × Int64 × (Nat → Int32) × (Nat → Int32))
theorem allw_ct {w : Nat} (hw : w ≤ 4) (f : Nat → Bool) : (nI (fb_ct f w) = nI w) ↔ (List.range w).all f = true := by
  have h := fb_ct_le f w
  rw [nI_eq (by omega) (by omega), fb_ct_all, List.all_eq_true]
  exact ⟨fun h k hk => h k (List.mem_range.mp hk), fun h k hk => h k (List.mem_range.mpr hk)⟩
theorem drawOf_e {s : Nat} (h : s < 2 ^ 31) : f_X9_drawOf (lN s) 4 = some (nI (nx s / 65536 % 4), lN (nx s)) := by
  unfold f_X9_drawOf
  rw [nx_l h, num_l (nx_lt s)]
  unfold k_nz
  rw [if_neg (show ¬ Int32.toInt64 4 = 0 by decide)]
theorem drawnNow_e {L : Nat} {g : Nat → Int32} {e : Nat → Nat} {signAt behind : Nat → Int32} (hf : RMo L g e signAt behind) (hL : 0 < L) {w : Nat} {R : Nat → Nat → Bool} {P Q : Nat → Bool} (ok : okF w R P Q) {arr mk : Nat → Int32} (hb : ba arr R) (hm : mks mk P Q) {n s y : Nat} (hn : n ≤ 60) (hs : s < 2 ^ 31) (hy : y < 3) (m a b : Int32) (sd : Int64) (to holds : Nat → Int32) :
    ∃ m' a' b' sd' to' holds', f_X9_drawnNow (nI w) (nI L) m a b sd arr mk signAt behind to holds (nI n) (nI s) (nI y) = some (nI (dres s w n y g e R), m', a', b', sd', to', holds') := by
  have hw := ok.1
  unfold f_X9_drawnNow
  rw [layFrame_e ok.1 ok.2.1 ok.2.2.1 ok.2.2.2 hb hm, Option.bind_some]
  try dsimp only
  rw [nI_l hs]
  refine k_runG (N := 1000) (fun (o : K7) => ∃ m' a' b' sd' to' holds', o = some (nI (dres s w n y g e R), m', a', b', sd', to', holds')) n (fun (d : Nat) (t : Int32 × Int32 × Int32 × Int32 × Int32 × Int64 × (Nat → Int32)) => t.1 = nI (fb_sm (fun d => fb_ct (Hd s w g e R d) w) d) ∧ t.2.1 = nI (fb_ct (fun d => (List.range w).all (Hd s w g e R d)) d) ∧ t.2.2.1 = nI d ∧ t.2.2.2.2.2.1 = lN (sq s (d * w))) (by omega) ⟨rfl, rfl, rfl, by rw [Nat.zero_mul]; rfl⟩ ?_ ?_ ?_
  · intro rc d t hd hI
    obtain ⟨h1, h2, h3, h4⟩ := hI
    try dsimp only
    rw [h3, if_neg (nI_nge4 (by omega) (by omega) hd), h1, h2, h4]
    refine k_runG (N := 1000) (a0 := (0, 0, 0, lN (sq s (d * w)))) (fun (o : K7) => ∃ a', (a'.1 = nI (fb_sm (fun d => fb_ct (Hd s w g e R d) w) (d + 1)) ∧ a'.2.1 = nI (fb_ct (fun d => (List.range w).all (Hd s w g e R d)) (d + 1)) ∧ a'.2.2.1 = nI (d + 1) ∧ a'.2.2.2.2.2.1 = lN (sq s ((d + 1) * w))) ∧ o = rc a') w (fun (k : Nat) (u : Int32 × Int32 × Int32 × Int64) => u.1 = nI k ∧ u.2.1 = bI 4 (fun a => decide (a < k) && Pd s w d a) ∧ u.2.2.1 = bI 4 (fun a => decide (a < k) && Qd s w d a) ∧ u.2.2.2 = lN (sq s (d * w + k))) (by omega) ⟨rfl, (bI_0 (n := 4) (by omega)).symm.trans (bI_congr (fun i _ => by simp)), (bI_0 (n := 4) (by omega)).symm.trans (bI_congr (fun i _ => by simp)), rfl⟩ ?_ ?_ ?_
    · intro rc2 k u hk hI2
      obtain ⟨g1, g2, g3, g4⟩ := hI2
      obtain ⟨-, -, b3, b4⟩ := bits_k _ (dn_lt s w d k)
      refine ⟨(nI (k + 1), bI 4 (fun a => decide (a < k + 1) && Pd s w d a), bI 4 (fun a => decide (a < k + 1) && Qd s w d a), lN (sq s (d * w + (k + 1)))), ⟨rfl, rfl, rfl, rfl⟩, ?_⟩
      try dsimp only
      rw [g1, g2, g3, g4, if_neg (nI_nge4 (by omega) (by omega) hk), drawOf_e (sq_lt hs _), Option.bind_some]
      try dsimp only
      rw [show nx (sq s (d * w + k)) / 65536 % 4 = dn s w d k from rfl, b3, b4, nI_1]
      rw [show (if decide (dn s w d k % 2 = 1) = true then (1 : Int32) else 0) = if Pd s w d k then (1 : Int32) else 0 from rfl, show (if decide (2 ≤ dn s w d k) = true then (1 : Int32) else 0) = if Qd s w d k then (1 : Int32) else 0 from rfl, acc_bit (Pd s w d) (show k < 4 by omega), acc_bit (Qd s w d) (show k < 4 by omega)]
      rfl
    · intro rc2 u hI2
      try dsimp only
      rw [hI2.1, if_pos (nI_ge4 (by omega) (by omega) (Nat.le_refl w))]
    · intro u hI2
      obtain ⟨g1, g2, g3, g4⟩ := hI2
      try dsimp only
      obtain ⟨holds', e1, e2⟩ := layHolds_e hf hw ok.2.1 (P := fun a => decide (a < w) && Pd s w d a) (Q := fun a => decide (a < w) && Qd s w d a) (fun a ha => by
        rw [Bool.and_eq_true, decide_eq_true_eq] at ha; exact ha.1) (fun a ha => by
        rw [Bool.and_eq_true, decide_eq_true_eq] at ha; exact ha.1) (rows_lk w R to) t.2.2.2.2.2.2
      have e3 : holds' 0 = bI 4 (fun a => decide (a < w) && Hd s w g e R d a) := by
        rw [e2 0 hL]
        unfold hw_
        refine bI_congr (fun a _ => ?_)
        by_cases ha : a < w
        · rw [decide_eq_true ha, Bool.true_and, Bool.true_and]
          exact hp_letters ok.2.1 (fun a ha => by rw [decide_eq_true ha, Bool.true_and]) (fun a ha => by rw [decide_eq_true ha, Bool.true_and]) ha
        · rw [decide_eq_false ha, Bool.false_and, Bool.false_and]
      rw [g2, g3, g4, e1, Option.bind_some, show (0 : Int32) = nI 0 from rfl, chk_e (show 0 < 16 by omega) (by omega), cl_e (show 0 < 2 ^ 31 by omega), e3, sizew_e hw, Option.bind_some, chk_e (show 0 < 16 by omega) (by omega), Option.bind_some, nI_1]
      have hsq : sq s ((d + 1) * w) = sq s (d * w + w) := by rw [Nat.add_mul, Nat.one_mul]
      by_cases ha : (List.range w).all (Hd s w g e R d) = true
      · rw [if_pos ((allw_ct hw _).mpr ha)]
        refine ⟨_, ⟨?_, ?_, (by
          try dsimp only
          rw [nI_1]), ?_⟩, rfl⟩
        · try dsimp only
          rw [nI_add, fb_sm_succ]
        · try dsimp only
          rw [fb_ct_succ, if_pos ha]
        · try dsimp only
          rw [hsq]
      · rw [if_neg (fun q => ha ((allw_ct hw _).mp q))]
        refine ⟨_, ⟨?_, ?_, (by
          try dsimp only
          rw [nI_1]), ?_⟩, rfl⟩
        · try dsimp only
          rw [nI_add, fb_sm_succ]
        · try dsimp only
          rw [nI_add, fb_ct_succ, if_neg ha]
        · try dsimp only
          rw [hsq]
  · intro rc t hI
    try dsimp only
    rw [hI.2.2.1, if_pos (nI_ge4 (by omega) (by omega) (Nat.le_refl n))]
  · intro t hI
    obtain ⟨h1, h2, h3, h4⟩ := hI
    try dsimp only
    rw [h1, h2, h4, lN_i]
    rcases (by omega : y = 0 ∨ y = 1 ∨ y = 2) with rfl | rfl | rfl
    · exact ⟨_, _, _, _, _, _, rfl⟩
    · exact ⟨_, _, _, _, _, _, rfl⟩
    · exact ⟨_, _, _, _, _, _, rfl⟩
/-- from one to sixty -/
theorem w160_e (x : Int32) : (∃ n, 0 < n ∧ n ≤ 60 ∧ x = nI n ∧ ¬ x < 1 ∧ ¬ 60 < x ∧ f_X9_within x 1 60 = 1) ∨ ((x < 1 ∨ 60 < x) ∧ f_X9_within x 1 60 = 0) := by
  unfold f_X9_within
  by_cases h1 : x < 1
  · exact Or.inr ⟨.inl h1, if_pos h1⟩
  · by_cases h3 : 60 < x
    · exact Or.inr ⟨.inr h3, by rw [if_neg h1, if_pos h3]⟩
    · have h0 : ¬ x < 0 := fun q => h1 (by
        rw [Int32.lt_iff_toInt_lt] at q ⊢
        have e1 : (1 : Int32).toInt = 1 := rfl
        have e0 : (0 : Int32).toInt = 0 := rfl
        omega)
      obtain ⟨n, hn, rfl⟩ := nI_of h0
      have a1 : ¬ n < 1 := fun q => h1 ((nI_ltI hn (show 1 < 2 ^ 31 by omega)).mpr q)
      have a3 : ¬ 60 < n := fun q => h3 ((nI_ltI (show 60 < 2 ^ 31 by omega) hn).mpr q)
      exact Or.inl ⟨n, by omega, by omega, rfl, h1, h3, by rw [if_neg h1, if_neg h3]⟩
theorem st_drawn {k1 w1 A p q k2 w2 : Int32} {arr mk : Nat → Int32} (h : RF k1 w1 A p q k2 w2 arr mk) {L : Nat} {g : Nat → Int32} {e : Nat → Nat} {signs ends signAt behind : Nat → Int32} (hf : RFo L g e signs ends) (hf2 : RMo L g e signAt behind) (vp vq held : Nat → Int64) (m a b : Int32) (sd : Int64) (to holds : Nat → Int32) (x y z : Int32) :
    ∃ r vp' vq' held' m' a' b' sd' to' holds', f_X8_drawn w1 A (nI L) signs ends vp vq held x y z = some (r, vp', vq', held') ∧ f_X9_drawn w2 (nI L) m a b sd arr mk signAt behind to holds x y z = some (r, m', a', b', sd', to', holds') := by
  obtain ⟨kk, w, R, P, Q, hk, ok, rfl, rfl, rfl, rfl, rfl, rfl, rfl, hb, hm⟩ := h
  have h16 := hf.1.1
  have hw4 := ok.1
  unfold f_X9_drawn f_X8_drawn
  rw [hasFrame_e (w_lt ok.1), isFrame_e (w_lt ok.1), hasFormula_e h16, isFormula_e h16]
  rcases w160_e x with ⟨n, n0, n4, rfl, h1, h2, h3⟩ | ⟨h1, h3⟩
  · rw [if_neg h1, if_neg h2]
    simp only [h3, i10, if_false]
    by_cases hy : y < 0
    · rw [if_pos hy, if_pos hy]
      exact ⟨_, _, _, _, _, _, _, _, _, _, rfl, rfl⟩
    · rw [if_neg hy, if_neg hy]
      obtain ⟨s, hs, rfl⟩ := nI_of hy
      rcases idx_k z 3 2 (by omega) (by decide) with ⟨j, g1, rfl, g2, g3⟩ | ⟨g2, g3⟩
      · simp only [show f_X8_isBelow (nI j) 3 = 1 from g2, g3, i10, if_false]
        by_cases hw : w = 0
        · rw [if_pos hw]; simp only [i00, if_true]
          exact ⟨_, _, _, _, _, _, _, _, _, _, rfl, rfl⟩
        · rw [if_neg hw]; simp only [i10, if_false]
          by_cases hL : L = 0
          · rw [if_pos hL]; simp only [i00, if_true]
            exact ⟨_, _, _, _, _, _, _, _, _, _, rfl, rfl⟩
          · rw [if_neg hL]; simp only [i10, if_false]
            obtain ⟨vp', vq', e1, e2⟩ := useDrawn_e vp vq n4 hs hw4
            obtain ⟨m', a', b', sd', to', holds', f1⟩ := drawnNow_e hf2 (show 0 < L by omega) ok hb hm n4 hs g1 m a b sd to holds
            rw [e1, f1, Option.bind_some, Option.bind_some]
            try dsimp only
            by_cases hz : j = 2
            · subst hz
              rw [if_pos (show nI 2 = 2 from rfl)]
              exact ⟨_, _, _, _, _, _, _, _, _, _, rfl, rfl⟩
            · rw [if_neg (show ¬ nI j = 2 from nI_ne (b := 2) (by omega) (by omega) hz)]
              obtain ⟨held', e3, e4⟩ := evaluate_e hf ok.1 ok.2.1 (P := fun l a => bL (vp' a) l) (Q := fun l a => bL (vq' a) l) (fun _ _ _ _ => rfl) (fun _ _ _ _ => rfl) held
              have hv : ∀ a l, a < w → l < n → bL (held' a) l = Hd s w g e R l a := fun a l ha hl => by
                have h5 := e4 0 a l (by omega) (by omega) ha (by omega)
                rw [show 4 * 0 + a = a by omega] at h5
                rw [h5]
                have hdf : ∀ a, dfar n 0 l a = true := fun a => by unfold dfar; rw [decide_eq_true hl]; rfl
                exact hp_letters ok.2.1 (fun a ha => by
                  show bL (vp' a) l = _
                  rw [(e2 a l ha (by omega)).1, hdf, Bool.true_and]) (fun a ha => by
                  show bL (vq' a) l = _
                  rw [(e2 a l ha (by omega)).2, hdf, Bool.true_and]) ha
              rw [e3, Option.bind_some]
              by_cases hz1 : j = 1
              · subst hz1
                rw [if_pos (show nI 1 = 1 from rfl)]
                obtain ⟨x9, r1, r2⟩ := refuting_e held' hw4
                rw [r1, Option.bind_some, bcl_e n4 (f := fun d => (List.range w).all (Hd s w g e R d)) (fun l hl => by
                  rw [c_and, mask_e n4 hl, c_not _ hl, r2 l hl, any_nall, Bool.not_not]
                  by_cases q : l < n
                  · rw [decide_eq_true q, Bool.true_and, Bool.true_and, Bool.eq_iff_iff, List.all_eq_true, List.all_eq_true]
                    exact ⟨fun h a ha => by rw [← hv a l (List.mem_range.mp ha) q]; exact h a ha, fun h a ha => by rw [hv a l (List.mem_range.mp ha) q]; exact h a ha⟩
                  · rw [decide_eq_false q]; rfl)]
                exact ⟨_, _, _, _, _, _, _, _, _, _, rfl, rfl⟩
              · have hz0 : j = 0 := by omega
                subst hz0
                rw [if_neg (show ¬ nI 0 = 1 by decide), heldIn_e n4 hw4 hv, Option.bind_some, sum_swap]
                exact ⟨_, _, _, _, _, _, _, _, _, _, rfl, rfl⟩
      · simp only [show f_X8_isBelow z 3 = 0 from g2, g3, i00, if_true]
        exact ⟨_, _, _, _, _, _, _, _, _, _, rfl, rfl⟩
  · simp only [h3, i00, if_true]
    by_cases h5 : x < 1
    · rw [if_pos h5]
      exact ⟨_, _, _, _, _, _, _, _, _, _, rfl, rfl⟩
    · rw [if_neg h5, if_pos (h1.resolve_left h5)]
      exact ⟨_, _, _, _, _, _, _, _, _, _, rfl, rfl⟩
