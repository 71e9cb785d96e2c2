/-- arrows to t go to its twin too, for the first k worlds -/
def bnd (S : Nat → Nat → Bool) (tw t k : Nat) : Nat → Nat → Bool := fun x y => if y = tw ∧ x < k then S x tw || S x t else S x y
abbrev K5 := Option (Int32 × Int32 × (Nat → Int32) × (Nat → Int32) × (Nat → Int32))
theorem shrink9_e {w : Nat} (hw0 : w ≠ 0) {R : Nat → Nat → Bool} {P Q : Nat → Bool} (ok : okF w R P Q) {arr mk : Nat → Int32} (hb : ba arr R) (hm : mks mk P Q) (ap0 : Nat → Int32) :
    ∃ arr' mk' ap', f_X9_shrink (nI w) arr mk ap0 = some (nI (shr (lwb w R P Q) w w).1, nI (shr (lwb w R P Q) w w).1, arr', mk', ap') ∧ ba arr' (fun x y => bent w R (lwb w R P Q) 0 ((shr (lwb w R P Q) w w).2 x) ((shr (lwb w R P Q) w w).2 y)) ∧ mks mk' (fun x => P ((shr (lwb w R P Q) w w).2 x)) (fun x => Q ((shr (lwb w R P Q) w w).2 x)) := by
  have hw := ok.1
  have hlo := lwb_p hw P Q ok.2.1
  obtain ⟨ap, e1, e2⟩ := layApart_e hw (P := P) (Q := Q) ok.2.1 hb hm ap0
  have htw : ∀ a, a < w → f_X9_twinOf ap (nI a) = some (nI (lwb w R P Q a)) := fun a ha => twinOf_e hw e2 ha
  unfold f_X9_shrink
  rw [isFrame_e (w_lt hw), if_neg hw0]
  simp only [i10, if_false]
  rw [e1, Option.bind_some]
  generalize lwb w R P Q = lo at hlo htw ⊢
  refine k_runG (N := 1000) (fun (o : K5) => ∃ arr' mk' ap', o = some (nI (shr lo w w).1, nI (shr lo w w).1, arr', mk', ap') ∧ ba arr' (fun x y => bent w R lo 0 ((shr lo w w).2 x) ((shr lo w w).2 y)) ∧ mks mk' (fun x => P ((shr lo w w).2 x)) (fun x => Q ((shr lo w w).2 x))) w (fun (k : Nat) (u : Int32 × Int32 × (Nat → Int32) × (Nat → Int32)) => u.1 = nI (w - k) - 1 ∧ u.2.1 = nI (shr lo w k).1 ∧ ba u.2.2.1 (fun x y => bent w R lo (w - k) ((shr lo w k).2 x) ((shr lo w k).2 y)) ∧ mks u.2.2.2 (fun x => P ((shr lo w k).2 x)) (fun x => Q ((shr lo w k).2 x))) (by omega) ⟨rfl, rfl, ba_congr (fun a b _ _ => b_eq (by
      rw [bent_e]
      exact ⟨fun h => .inl h, fun h => h.resolve_right (fun ⟨b, q1, q2, _⟩ => by omega)⟩)) hb, hm⟩ ?_ ?_ ?_
  · intro rc k u hk hI
    obtain ⟨g1, g2, g3, g4⟩ := hI
    have hj : u.1 = nI (w - k - 1) := by rw [g1, show w - k = (w - k - 1) + 1 by omega, dn_1]; rfl
    have hlt : lo (w - k - 1) ≤ w - k - 1 := (hlo _ (by omega)).1
    obtain ⟨p1, p2, p3, p4, p5⟩ := shr_p lo w k (by omega)
    have hnext : nI (w - k - 1) + -1 = nI (w - (k + 1)) - 1 := by rw [dn_2]; rfl
    have hs1 : w - k = w - (k + 1) + 1 := by omega
    try dsimp only
    rw [hj, if_neg (nI_pos (show w - k - 1 < 2 ^ 31 by omega)), htw _ (by omega), Option.bind_some, g2]
    by_cases h : lo (w - k - 1) = w - k - 1
    · rw [if_pos (congrArg nI h)]
      refine ⟨(nI (w - k - 1) + -1, nI (shr lo w k).1, u.2.2.1, u.2.2.2), ⟨hnext, ?_, ?_, ?_⟩, rfl⟩
      · try dsimp only
        rw [shr_s1 h]
      · try dsimp only
        rw [shr_s1 h]
        refine ba_congr (fun a b _ _ => ?_) g3
        rw [hs1]
        exact (bent_same h _ _).symm
      · try dsimp only
        rw [shr_s1 h]
        exact g4
    · rw [if_neg (nI_ne (by omega) (by omega) h)]
      generalize hn : (shr lo w k).1 = n at p2 p3 p4
      generalize hio : (shr lo w k).2 = io at p1 p4 p5 g3 g4
      generalize ht : w - k - 1 = t at hlt h hnext
      have hwk : w - k = t + 1 := by omega
      rw [hwk] at g3 p1 p2
      have htn : t < n := by omega
      have hiot : io t = t := p1 t (by omega)
      have hiol : io (lo t) = lo t := p1 (lo t) (by omega)
      have okn : okF n (fun x y => bent w R lo t (io x) (io y)) (fun x => P (io x)) (fun x => Q (io x)) := ⟨by omega, fun a b q => by
          have := bent_in hlo ok.2.1 _ _ q
          exact ⟨(p4 a).mpr this.1, (p4 b).mpr this.2⟩, fun a q => (p4 a).mpr (ok.2.2.1 _ q), fun a q => (p4 a).mpr (ok.2.2.2 _ q)⟩
      have hbend : ∀ x y, bnd (fun x y => bent w R lo (t + 1) (io x) (io y)) (lo t) t n x y = bent w R lo t (io x) (io y) := fun x y => by
        unfold bnd
        by_cases q : y = lo t ∧ x < n
        · rw [if_pos q, q.1]
          dsimp only
          rw [hiol, hiot, bent_t hlo h, bent_put (show t < w by omega) (io x) (lo t), decide_eq_true (rfl : lo t = lo t), Bool.true_and]
        · rw [if_neg q]
          dsimp only
          rw [bent_put (show t < w by omega) (io x) (io y)]
          by_cases q2 : lo t = io y
          · have hy : y = lo t := p5 _ _ (by rw [hiol]; exact q2.symm)
            have hx : ¬ x < n := fun z => q ⟨hy, z⟩
            have hr : R (io x) t = false := by
              cases h5 : R (io x) t
              · rfl
              · exact absurd ((p4 x).mpr (ok.2.1 _ _ h5).1) hx
            rw [hr, Bool.and_false, Bool.or_false]
          · rw [decide_eq_false q2, Bool.false_and, Bool.or_false]
      refine k_runG (N := 1000) (a0 := (0, u.2.2.1)) (fun (o : K5) => ∃ a', (a'.1 = nI t - 1 ∧ a'.2.1 = nI (shr lo w (k + 1)).1 ∧ ba a'.2.2.1 (fun x y => bent w R lo t ((shr lo w (k + 1)).2 x) ((shr lo w (k + 1)).2 y)) ∧ mks a'.2.2.2 (fun x => P ((shr lo w (k + 1)).2 x)) (fun x => Q ((shr lo w (k + 1)).2 x))) ∧ o = rc a') n (fun (m : Nat) (v : Int32 × (Nat → Int32)) => v.1 = nI m ∧ ba v.2 (bnd (fun x y => bent w R lo (t + 1) (io x) (io y)) (lo t) t m)) (by omega) ⟨rfl, ba_congr (fun x y _ _ => by unfold bnd; rw [if_neg (fun q => absurd q.2 (Nat.not_lt_zero x))]) g3⟩ ?_ ?_ ?_
      · intro rc2 m v hm hI2
        obtain ⟨e3, e4⟩ := hI2
        refine ⟨(nI (m + 1), upd v.2 (4 * m + lo t) (bi (bent w R lo (t + 1) (io m) (io (lo t)) || bent w R lo (t + 1) (io m) (io t)))), ⟨rfl, ba_mk (fun x y hx hy => ?_)⟩, ?_⟩
        · try dsimp only
          by_cases q : x = m ∧ y = lo t
          · rw [q.1, q.2, pk_us]
            unfold bnd
            rw [if_pos ⟨rfl, by omega⟩]
          · rw [pk_un (show 4 * x + y ≠ 4 * m + lo t by omega), ba_get e4 hx hy]
            unfold bnd
            by_cases q2 : y = lo t ∧ x < m
            · rw [if_pos q2, if_pos ⟨q2.1, by omega⟩]
            · rw [if_neg q2, if_neg (fun z => q2 ⟨z.1, by
                have h6 := z.2
                by_cases q3 : x = m
                · exact absurd ⟨q3, z.1⟩ q
                · omega⟩)]
        · have v1 : v.2 (4 * m + lo t) = bi (bent w R lo (t + 1) (io m) (io (lo t))) := by
            rw [ba_get e4 (show m < 4 by omega) (show lo t < 4 by omega)]
            unfold bnd
            rw [if_neg (fun q => absurd q.2 (Nat.lt_irrefl m))]
          have v2 : v.2 (4 * m + t) = bi (bent w R lo (t + 1) (io m) (io t)) := by
            rw [ba_get e4 (show m < 4 by omega) (show t < 4 by omega)]
            unfold bnd
            rw [if_neg (fun q => absurd q.2 (Nat.lt_irrefl m))]
          try dsimp only
          rw [e3, if_neg (nI_nge4 (by omega) (by omega) hm), nI_mul4, nI_mul4, chk_e (show 4 * m + lo t < 16 by omega) (by omega), chk_e (show 4 * m + t < 16 by omega) (by omega), chk_e (show 4 * m + lo t < 16 by omega) (by omega), chk_e (show 4 * m + lo t < 16 by omega) (by omega), cl_e (show 4 * m + lo t < 2 ^ 31 by omega), cl_e (show 4 * m + t < 2 ^ 31 by omega), v1, v2, nI_1, show vp_nar .boolean 0 = bi false from rfl, show vp_nar .boolean 1 = bi true from rfl]
          cases bent w R lo (t + 1) (io m) (io (lo t)) <;> cases bent w R lo (t + 1) (io m) (io t) <;> rfl
      · intro rc2 v hI2
        try dsimp only
        rw [hI2.1, if_pos (nI_ge4 (by omega) (by omega) (Nat.le_refl n))]
      · intro v hI2
        obtain ⟨e3, e4⟩ := hI2
        have e4' : ba v.2 (fun x y => bent w R lo t (io x) (io y)) := ba_congr (fun x y _ _ => hbend x y) e4
        obtain ⟨arr', mk', e5, e6, e7⟩ := takeOut_e okn htn e4' g4
        try dsimp only
        rw [e5, Option.bind_some]
        have hss := shr_s2 (lo := lo) (w := w) (k := k) (by rw [ht]; exact h)
        rw [hn, hio, ht] at hss
        refine ⟨(nI t + -1, nI (n - 1), arr', mk'), ⟨hnext, ?_, ?_, ?_⟩, rfl⟩
        · try dsimp only
          rw [hss]
        · try dsimp only
          rw [hss]
          exact e6
        · try dsimp only
          rw [hss]
          exact e7
  · intro rc u hI
    try dsimp only
    rw [hI.1, if_pos (show nI (w - w) - 1 < 0 by rw [Nat.sub_self]; decide)]
  · intro u hI
    obtain ⟨g1, g2, g3, g4⟩ := hI
    try dsimp only
    rw [g2]
    rw [Nat.sub_self] at g3
    exact ⟨_, _, _, rfl, g3, g4⟩
theorem st_shrink {k1 w1 A p q k2 w2 : Int32} {arr mk : Nat → Int32} (h : RF k1 w1 A p q k2 w2 arr mk) (ap : Nat → Int32) : ∃ r w1' A' p' q' w2' arr' mk' ap', f_X8_shrink w1 A p q = some (r, w1', A', p', q') ∧ f_X9_shrink w2 arr mk ap = some (r, w2', arr', mk', ap') ∧ RF k1 w1' A' p' q' k2 w2' arr' mk' := by
  have h0 := h
  obtain ⟨kk, w, R, P, Q, hk, ok, rfl, rfl, rfl, rfl, rfl, rfl, rfl, hb, hm⟩ := h
  unfold f_X8_shrink
  rw [hasFrame_e (w_lt ok.1)]
  by_cases hw : w = 0
  · rw [if_pos hw]; simp only [i00, if_true]
    unfold f_X9_shrink
    rw [isFrame_e (w_lt ok.1), if_pos hw]
    exact ⟨_, _, _, _, _, _, _, _, _, rfl, rfl, h0⟩
  · rw [if_neg hw]; simp only [i10, if_false]
    obtain ⟨arr', mk', ap', e1, e2, e3⟩ := shrink9_e hw ok hb hm ap
    rw [merge_e ok, Option.bind_some, e1]
    have hP := shr_p (lwb w R P Q) w w (Nat.le_refl w)
    have hlo := lwb_p ok.1 P Q ok.2.1
    generalize shr (lwb w R P Q) w w = Z at hP e1 e2 e3 ⊢
    obtain ⟨n, io⟩ := Z
    obtain ⟨p1, p2, p3, p4, p5⟩ := hP
    dsimp only at p1 p2 p3 p4 p5 e2 e3 ⊢
    have ok3 : okF n (fun x y => bent w R (lwb w R P Q) 0 (io x) (io y)) (fun x => P (io x)) (fun x => Q (io x)) := ⟨by have := ok.1; omega, fun a b z => by
      have := bent_in hlo ok.2.1 _ _ z
      exact ⟨(p4 a).mpr this.1, (p4 b).mpr this.2⟩, fun a z => (p4 a).mpr (ok.2.2.1 _ z), fun a z => (p4 a).mpr (ok.2.2.2 _ z)⟩
    exact ⟨_, _, _, _, _, _, arr', mk', ap', rfl, rfl, kk, n, _, _, _, hk, ok3, rfl, rfl, rfl, rfl, rfl, rfl, rfl, e2, e3⟩
