/-! draw and about, both ways -/
theorem bi_inj {a b : Bool} (h : bi a = bi b) : a = b := by cases a <;> cases b <;> first | rfl | exact absurd h (by decide)
theorem st_draw {k1 w1 A p q k2 w2 : Int32} {arr mk : Nat → Int32} (h : RF k1 w1 A p q k2 w2 arr mk) (x y : Int32) (v : Bool) : ∃ r A' arr', f_X8_draw w1 A x y (bi v) = (r, A') ∧ f_X9_draw w2 arr x y (bi v) = some (r, arr') ∧ RF k1 w1 A' p q k2 w2 arr' mk := by
  have h0 := h
  obtain ⟨kk, w, R, P, Q, hk, ok, rfl, rfl, rfl, rfl, rfl, rfl, rfl, hb, hm⟩ := h
  have h4 := ok.1
  unfold f_X9_draw f_X8_draw
  rw [isWorld_e, isWorld_e, Option.bind_some, Option.bind_some]
  rcases idx_e x (w_lt ok.1) with ⟨a, h1, rfl, h2, h3⟩ | ⟨h2, h3⟩
  · simp only [h2, h3, i10, if_false]
    rcases idx_e y (w_lt ok.1) with ⟨b, g1, rfl, g2, g3⟩ | ⟨g2, g3⟩
    · simp only [g2, g3, i10, if_false]
      rw [nI_mul4, chk_e (show 4 * a + b < 16 by omega) (by omega), chk_e (show 4 * a + b < 16 by omega) (by omega), cl_e (show 4 * a + b < 2 ^ 31 by omega), has_e R (show a < 4 by omega) (show b < 4 by omega), ba_get hb (show a < 4 by omega) (show b < 4 by omega), nar_bi, e_turn R (show a < 4 by omega) (show b < 4 by omega)]
      by_cases hv : R a b = v
      · rw [if_pos (show (if R a b then (1 : Int32) else 0) = bi v by rw [hv]; rfl), if_pos (show bi (R a b) = bi v by rw [hv])]
        exact ⟨_, _, _, rfl, rfl, h0⟩
      · rw [if_neg (show ¬ (if R a b then (1 : Int32) else 0) = bi v from fun q => hv (bi_inj q)), if_neg (show ¬ bi (R a b) = bi v from fun q => hv (bi_inj q))]
        have hx : ∀ x y, (R x y ^^ (decide (x = a) && decide (y = b))) = if x = a ∧ y = b then v else R x y := by
          intro x y
          by_cases g : x = a ∧ y = b
          · rw [if_pos g, g.1, g.2, decide_eq_true rfl, decide_eq_true rfl]
            revert hv
            cases R a b <;> cases v <;> simp
          · rw [if_neg g]
            have : (decide (x = a) && decide (y = b)) = false := by
              cases h : (decide (x = a) && decide (y = b))
              · rfl
              · rw [Bool.and_eq_true, decide_eq_true_eq, decide_eq_true_eq] at h
                exact absurd h g
            rw [this, Bool.xor_false]
        have hb' : ba (upd arr (4 * a + b) (bi v)) (fun x y => R x y ^^ (decide (x = a) && decide (y = b))) := ba_mk (fun x y hx' hy' => by
          try dsimp only
          rw [hx]
          by_cases g : x = a ∧ y = b
          · rw [if_pos g, g.1, g.2, pk_us]
          · rw [if_neg g, pk_un (show ¬ 4 * x + y = 4 * a + b by omega), ba_get hb hx' hy'])
        rw [allArrows_e hb', Option.bind_some, arrowCount_e]
        refine ⟨_, _, _, rfl, rfl, kk, w, _, P, Q, hk, ⟨ok.1, fun x y hxy => ?_, ok.2.2⟩, rfl, rfl, rfl, rfl, rfl, rfl, rfl, hb', hm⟩
        rw [hx] at hxy
        by_cases g : x = a ∧ y = b
        · rw [g.1, g.2]; exact ⟨h1, g1⟩
        · rw [if_neg g] at hxy; exact ok.2.1 x y hxy
    · simp only [g2, g3, i00, if_true]
      exact ⟨_, _, _, rfl, rfl, h0⟩
  · simp only [h2, h3, i00, if_true]
    exact ⟨_, _, _, rfl, rfl, h0⟩
theorem fitsTold_e {kk w : Nat} (hk : kk < 5) {R : Nat → Nat → Bool} {P Q : Nat → Bool} (ok : okF w R P Q) {arr mk : Nat → Int32} (hb : ba arr R) (hm : mks mk P Q) (m a b : Int32) (to : Nat → Int32) : f_X9_fitsTold (nI kk) (nI w) m a b arr mk to = some (if ftk kk w R then 1 else 0, nI w, bI 4 P, bI 4 Q, rows_ w R to) := by
  unfold f_X9_fitsTold
  rw [layFrame_e ok.1 ok.2.1 ok.2.2.1 ok.2.2.2 hb hm, Option.bind_some]
  try dsimp only
  rw [fitsNow_e hk (rows_lk w R to) ok.1, Option.bind_some]
  cases ftk kk w R <;> rfl
theorem twinKinds_e {w : Nat} {R : Nat → Nat → Bool} {P Q : Nat → Bool} (ok : okF w R P Q) {arr mk : Nat → Int32} (hb : ba arr R) (hm : mks mk P Q) (ap0 : Nat → Int32) : ∃ ap, f_X9_twinKinds (nI w) arr mk ap0 = some (nI (fb_ct (fun a => decide (lwb w R P Q a = a)) w), ap) := by
  obtain ⟨ap, e1, e2⟩ := layApart_e ok.1 (P := P) (Q := Q) ok.2.1 hb hm ap0
  refine ⟨ap, ?_⟩
  have h4 := ok.1
  unfold f_X9_twinKinds
  rw [e1, Option.bind_some]
  refine (k_for (N := 1000) w (fun k => (nI (fb_ct (fun a => decide (lwb w R P Q a = a)) k), nI k)) ?_ ?_ (by omega)).trans ?_
  · intro rc k hk
    try dsimp only
    rw [if_neg (nI_nge4 (by omega) (by omega) hk), twinOf_e ok.1 e2 hk, Option.bind_some, fb_ct_succ]
    have hl := (lwb_spec ok.1 R P Q hk).1
    by_cases g : lwb w R P Q k = k
    · rw [if_pos (congrArg nI g), decide_eq_true g, if_pos rfl, nI_1, nI_1]
    · rw [if_neg (nI_ne (by omega) (by omega) g), decide_eq_false g, nI_1]
      show rc (_ + nI 0, _) = _
      rw [nI_add]
      rfl
  · intro rc
    try dsimp only
    rw [if_pos (nI_ge4 (by omega) (by omega) (Nat.le_refl w))]
  · rfl
theorem st_about {k1 w1 A p q k2 w2 : Int32} {arr mk : Nat → Int32} (h : RF k1 w1 A p q k2 w2 arr mk) (m a b : Int32) (to ap : Nat → Int32) (x : Int32) : ∃ r m' a' b' to' ap', f_X8_about k1 w1 A p q x = some r ∧ f_X9_about k2 w2 m a b arr mk to ap x = some (r, m', a', b', to', ap') := by
  obtain ⟨kk, w, R, P, Q, hk, ok, rfl, rfl, rfl, rfl, rfl, rfl, rfl, hb, hm⟩ := h
  have h4 := ok.1
  unfold f_X9_about f_X8_about
  rw [hasFrame_e (w_lt ok.1), isFrame_e (w_lt ok.1)]
  rcases idx_k x 5 4 (by omega) (by decide) with ⟨j, h1, rfl, h3, h4⟩ | ⟨h3, h4⟩
  · simp only [show f_X8_isBelow (nI j) 5 = 1 from h3, h4, i10, if_false]
    by_cases hw : w = 0
    · rw [if_pos hw]; simp only [i00, if_true]
      exact ⟨_, _, _, _, _, _, rfl, rfl⟩
    · rw [if_neg hw]; simp only [i10, if_false]
      unfold f_X9_aboutNow
      by_cases j0 : j = 0
      · subst j0
        exact ⟨_, _, _, _, _, _, rfl, rfl⟩
      · rw [if_neg (nI_ne0 (by omega) (by omega)), if_neg (nI_ne0 (by omega) (by omega))]
        by_cases j1 : j = 1
        · subst j1
          exact ⟨_, _, _, _, _, _, rfl, rfl⟩
        · rw [if_neg (show ¬ nI j = 1 from nI_ne (by omega) (show 1 < 2 ^ 31 by omega) j1), if_neg (show ¬ nI j = 1 from nI_ne (by omega) (show 1 < 2 ^ 31 by omega) j1)]
          by_cases j2 : j = 2
          · subst j2
            rw [if_pos (show nI 2 = 2 from rfl), if_pos (show nI 2 = 2 from rfl), arrowCount_e, allArrows_e hb]
            exact ⟨_, _, _, _, _, _, rfl, rfl⟩
          · rw [if_neg (show ¬ nI j = 2 from nI_ne (by omega) (show 2 < 2 ^ 31 by omega) j2), if_neg (show ¬ nI j = 2 from nI_ne (by omega) (show 2 < 2 ^ 31 by omega) j2)]
            by_cases j3 : j = 3
            · subst j3
              rw [if_pos (show nI 3 = 3 from rfl), if_pos (show nI 3 = 3 from rfl), fits_e hk ok.1 ok.2.1, fitsTold_e hk ok hb hm, Option.bind_some, toInt_e]
              exact ⟨_, _, _, _, _, _, rfl, rfl⟩
            · rw [if_neg (show ¬ nI j = 3 from nI_ne (by omega) (show 3 < 2 ^ 31 by omega) j3), if_neg (show ¬ nI j = 3 from nI_ne (by omega) (show 3 < 2 ^ 31 by omega) j3), classes_e ok.1]
              obtain ⟨ap', e⟩ := twinKinds_e ok hb hm ap
              rw [e]
              exact ⟨_, _, _, _, _, _, rfl, rfl⟩
  · simp only [show f_X8_isBelow x 5 = 0 from h3, h4, i00, if_true]
    exact ⟨_, _, _, _, _, _, rfl, rfl⟩
