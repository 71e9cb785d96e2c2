/-! shrink, both ways -/
def shr (lo : Nat → Nat) (w : Nat) : Nat → Nat × (Nat → Nat)
  | 0 => (w, fun z => z)
  | k + 1 => if lo (w - k - 1) = w - k - 1 then shr lo w k else ((shr lo w k).1 - 1, fun z => (shr lo w k).2 (sh (w - k - 1) z))
theorem shr_s1 {lo : Nat → Nat} {w k : Nat} (h : lo (w - k - 1) = w - k - 1) : shr lo w (k + 1) = shr lo w k := if_pos h
theorem shr_s2 {lo : Nat → Nat} {w k : Nat} (h : ¬ lo (w - k - 1) = w - k - 1) : shr lo w (k + 1) = ((shr lo w k).1 - 1, fun z => (shr lo w k).2 (sh (w - k - 1) z)) := if_neg h
def shrP (w k n : Nat) (io : Nat → Nat) : Prop := (∀ z, z < w - k → io z = z) ∧ w - k ≤ n ∧ n ≤ w ∧ (∀ z, z < n ↔ io z < w) ∧ ∀ x y, io x = io y → x = y
theorem sh_inj {t x y : Nat} (h : sh t x = sh t y) : x = y := by
  unfold sh at h
  by_cases h1 : x < t
  · rw [if_pos h1] at h
    by_cases h2 : y < t
    · rw [if_pos h2] at h; exact h
    · rw [if_neg h2] at h; omega
  · rw [if_neg h1] at h
    by_cases h2 : y < t
    · rw [if_pos h2] at h; omega
    · rw [if_neg h2] at h; omega
theorem shr_p (lo : Nat → Nat) (w : Nat) : ∀ k, k ≤ w → shrP w k (shr lo w k).1 (shr lo w k).2
  | 0, _ => ⟨fun _ _ => rfl, Nat.le_refl w, Nat.le_refl w, fun _ => Iff.rfl, fun _ _ h => h⟩
  | k + 1, hk => by
    obtain ⟨h1, h2, h3, h4, h5⟩ := shr_p lo w k (by omega)
    by_cases h : lo (w - k - 1) = w - k - 1
    · rw [shr_s1 h]
      exact ⟨fun z hz => h1 z (by omega), by omega, h3, h4, h5⟩
    · rw [shr_s2 h]
      refine ⟨fun z hz => ?_, by show w - (k + 1) ≤ (shr lo w k).1 - 1; omega, by show (shr lo w k).1 - 1 ≤ w; omega, fun z => ?_, fun x y hxy => sh_inj (h5 _ _ hxy)⟩
      · show (shr lo w k).2 (sh (w - k - 1) z) = z
        unfold sh
        rw [if_pos (by omega)]
        exact h1 z (by omega)
      · show z < (shr lo w k).1 - 1 ↔ (shr lo w k).2 (sh (w - k - 1) z) < w
        rw [← h4]
        unfold sh
        by_cases hz : z < w - k - 1
        · rw [if_pos hz]; omega
        · rw [if_neg hz]; omega
def bent (w : Nat) (R : Nat → Nat → Bool) (lo : Nat → Nat) (s : Nat) : Nat → Nat → Bool := fun u v => R u v || (List.range w).any (fun b => decide (s ≤ b) && (decide (lo b = v) && R u b))
theorem bent_e {w : Nat} {R : Nat → Nat → Bool} {lo : Nat → Nat} {s u v : Nat} : bent w R lo s u v = true ↔ R u v = true ∨ ∃ b, b < w ∧ s ≤ b ∧ lo b = v ∧ R u b = true := by
  unfold bent
  rw [Bool.or_eq_true, any_i]
  constructor
  · rintro (h | ⟨b, hb, h⟩)
    · exact .inl h
    · rw [Bool.and_eq_true, Bool.and_eq_true, decide_eq_true_eq, decide_eq_true_eq] at h
      exact .inr ⟨b, hb, h.1, h.2.1, h.2.2⟩
  · rintro (h | ⟨b, hb, h1, h2, h3⟩)
    · exact .inl h
    · exact .inr ⟨b, hb, by rw [decide_eq_true h1, decide_eq_true h2, h3]; rfl⟩
def loP (w : Nat) (lo : Nat → Nat) : Prop := ∀ a, a < w → lo a ≤ a ∧ lo (lo a) = lo a
theorem lwb_p {w : Nat} (hw : w ≤ 4) {R : Nat → Nat → Bool} (P Q : Nat → Bool) (hR : ∀ a b, R a b = true → a < w ∧ b < w) : loP w (lwb w R P Q) := fun a ha => by
  obtain ⟨h1, h2, h3⟩ := lwb_spec hw R P Q ha
  obtain ⟨g1, g2, g3⟩ := lwb_spec hw R P Q (show lwb w R P Q a < w by omega)
  refine ⟨h1, ?_⟩
  have h4 : bsm w R P Q a (lwb w R P Q (lwb w R P Q a)) = true := bsk_trans hw R P Q (fun a b h => (hR a b h).2) w _ _ _ h2 g2
  rcases Nat.lt_or_ge (lwb w R P Q (lwb w R P Q a)) (lwb w R P Q a) with q | q
  · rw [h3 _ q] at h4; cases h4
  · omega
theorem bent_in {w : Nat} {R : Nat → Nat → Bool} {lo : Nat → Nat} (hlo : loP w lo) (hR : ∀ a b, R a b = true → a < w ∧ b < w) {s : Nat} : ∀ a b, bent w R lo s a b = true → a < w ∧ b < w := fun a b h => by
  rcases bent_e.mp h with h5 | ⟨c, hc, _, rfl, h5⟩
  · exact hR a b h5
  · have := (hlo c hc).1
    exact ⟨(hR _ _ h5).1, by omega⟩
theorem bent_same {w : Nat} {R : Nat → Nat → Bool} {lo : Nat → Nat} {t : Nat} (h : lo t = t) (u v : Nat) : bent w R lo t u v = bent w R lo (t + 1) u v := by
  rw [Bool.eq_iff_iff, bent_e, bent_e]
  constructor
  · rintro (q | ⟨b, q1, q2, q3, q4⟩)
    · exact .inl q
    · by_cases g : b = t
      · subst g; rw [h] at q3; rw [← q3]; exact .inl q4
      · exact .inr ⟨b, q1, by omega, q3, q4⟩
  · rintro (q | ⟨b, q1, q2, q3, q4⟩)
    · exact .inl q
    · exact .inr ⟨b, q1, by omega, q3, q4⟩
theorem bent_t {w : Nat} {R : Nat → Nat → Bool} {lo : Nat → Nat} (hlo : loP w lo) {t : Nat} (h : ¬ lo t = t) (s u : Nat) : bent w R lo s u t = R u t := by
  rw [Bool.eq_iff_iff, bent_e]
  constructor
  · rintro (q | ⟨b, q1, q2, q3, q4⟩)
    · exact q
    · have := (hlo b q1).2
      rw [q3] at this
      exact absurd this h
  · exact fun q => .inl q
theorem bent_put {w : Nat} {R : Nat → Nat → Bool} {lo : Nat → Nat} {t : Nat} (ht : t < w) (u v : Nat) : bent w R lo t u v = (bent w R lo (t + 1) u v || (decide (lo t = v) && R u t)) := by
  rw [Bool.eq_iff_iff, Bool.or_eq_true, bent_e, bent_e, Bool.and_eq_true, decide_eq_true_eq]
  constructor
  · rintro (q | ⟨b, q1, q2, q3, q4⟩)
    · exact .inl (.inl q)
    · by_cases g : b = t
      · subst g; exact .inr ⟨q3, q4⟩
      · exact .inl (.inr ⟨b, q1, by omega, q3, q4⟩)
  · rintro ((q | ⟨b, q1, q2, q3, q4⟩) | ⟨q1, q2⟩)
    · exact .inl q
    · exact .inr ⟨b, q1, by omega, q3, q4⟩
    · exact .inr ⟨t, ht, Nat.le_refl t, q1, q2⟩
/-- the class's bending: rows before k, and row k so far as m -/
def mrg (w : Nat) (R : Nat → Nat → Bool) (lo : Nat → Nat) (k m : Nat) : Nat → Nat → Bool := fun u v => R u v || (List.range w).any (fun b => (decide (u < k) || (decide (u = k) && decide (b < m))) && (decide (lo b = v) && R u b))
theorem mrg_e {w : Nat} {R : Nat → Nat → Bool} {lo : Nat → Nat} {k m u v : Nat} : mrg w R lo k m u v = true ↔ R u v = true ∨ ∃ b, b < w ∧ (u < k ∨ (u = k ∧ b < m)) ∧ lo b = v ∧ R u b = true := by
  unfold mrg
  rw [Bool.or_eq_true, any_i]
  constructor
  · rintro (h | ⟨b, hb, h⟩)
    · exact .inl h
    · rw [Bool.and_eq_true, Bool.and_eq_true, Bool.or_eq_true, Bool.and_eq_true, decide_eq_true_eq, decide_eq_true_eq, decide_eq_true_eq, decide_eq_true_eq] at h
      exact .inr ⟨b, hb, h.1, h.2.1, h.2.2⟩
  · rintro (h | ⟨b, hb, h1, h2, h3⟩)
    · exact .inl h
    · refine .inr ⟨b, hb, ?_⟩
      rw [Bool.and_eq_true, Bool.and_eq_true, Bool.or_eq_true, Bool.and_eq_true, decide_eq_true_eq, decide_eq_true_eq, decide_eq_true_eq, decide_eq_true_eq]
      exact ⟨h1, h2, h3⟩
theorem b_eq {a b : Bool} (h : a = true ↔ b = true) : a = b := Bool.eq_iff_iff.mpr h
theorem merge_e {w : Nat} {R : Nat → Nat → Bool} {P Q : Nat → Bool} (ok : okF w R P Q) : f_X2_merge (nI w) (eA R) (bI 4 P) (bI 4 Q) = some (nI (shr (lwb w R P Q) w w).1, eA (fun x y => bent w R (lwb w R P Q) 0 ((shr (lwb w R P Q) w w).2 x) ((shr (lwb w R P Q) w w).2 y)), bI 4 (fun x => P ((shr (lwb w R P Q) w w).2 x)), bI 4 (fun x => Q ((shr (lwb w R P Q) w w).2 x))) := by
  have hw := ok.1
  have hlo := lwb_p hw P Q ok.2.1
  unfold f_X2_merge
  rw [bisim_e hw, Option.bind_some]
  have hlow : ∀ a, a < w → f_X8_lowest (Int32.toInt64 (f_X2_rowOf (eA (bsm w R P Q)) (nI a))) = nI (lwb w R P Q a) := fun a ha => lowRow_e hw R P Q ha
  generalize hl : lwb w R P Q = lo at hlo hlow ⊢
  generalize eA (bsm w R P Q) = BB at hlow ⊢
  refine k_runG (N := 1000) (fun (o : Option (Int32 × Int32 × Int32 × Int32)) => o = some (nI (shr lo w w).1, eA (fun x y => bent w R lo 0 ((shr lo w w).2 x) ((shr lo w w).2 y)), bI 4 (fun x => P ((shr lo w w).2 x)), bI 4 (fun x => Q ((shr lo w w).2 x)))) w (fun (k : Nat) (s : Int32 × Int32) => s.1 = nI k ∧ s.2 = eA (mrg w R lo k 0)) (by omega) ⟨rfl, eA_congr (fun a b _ _ => b_eq (by
      rw [mrg_e]
      exact ⟨fun h => .inl h, fun h => h.resolve_right (fun ⟨b, _, h, _⟩ => by omega)⟩))⟩ ?_ ?_ ?_
  · intro rc k s hk hI
    obtain ⟨h1, h2⟩ := hI
    try dsimp only
    rw [h1, h2, if_neg (nI_nge4 (by omega) (by omega) hk)]
    refine k_runG (N := 1000) (a0 := (0, eA (mrg w R lo k 0))) (fun (o : Option (Int32 × Int32 × Int32 × Int32)) => ∃ a', (a'.1 = nI (k + 1) ∧ a'.2 = eA (mrg w R lo (k + 1) 0)) ∧ o = rc a') w (fun (m : Nat) (u : Int32 × Int32) => u.1 = nI m ∧ u.2 = eA (mrg w R lo k m)) (by omega) ⟨rfl, rfl⟩ ?_ ?_ ?_
    · intro rc2 m u hm hI2
      obtain ⟨g1, g2⟩ := hI2
      refine ⟨(nI (m + 1), eA (mrg w R lo k (m + 1))), ⟨rfl, rfl⟩, ?_⟩
      try dsimp only
      rw [g1, g2, if_neg (nI_nge4 (by omega) (by omega) hm), has_e _ (show k < 4 by omega) (show m < 4 by omega), hlow m hm, nI_1]
      simp only [k_let]
      have hlm := (hlo m hm).1
      rw [join_one _ (show k < 4 by omega) (show lo m < 4 by omega)]
      have hm2 : mrg w R lo k m k m = R k m := b_eq (by
        rw [mrg_e]
        exact ⟨fun h => h.resolve_right (fun ⟨b, q1, q2, q3, q4⟩ => by have := (hlo b q1).1; omega), fun h => .inl h⟩)
      rw [hm2]
      cases hr : R k m
      · rw [if_neg (show ¬ false = true by decide), if_pos rfl]
        congr 2
        refine eA_congr (fun a b _ _ => b_eq ?_)
        rw [mrg_e, mrg_e]
        constructor
        · rintro (h | ⟨c, q1, q2, q3, q4⟩)
          · exact .inl h
          · exact .inr ⟨c, q1, by omega, q3, q4⟩
        · rintro (h | ⟨c, q1, q2, q3, q4⟩)
          · exact .inl h
          · by_cases g : a = k ∧ c = m
            · rw [g.1, g.2, hr] at q4; cases q4
            · exact .inr ⟨c, q1, by omega, q3, q4⟩
      · rw [if_pos rfl, if_neg (by decide)]
        congr 2
        refine eA_congr (fun a b _ _ => b_eq ?_)
        rw [Bool.or_eq_true, Bool.and_eq_true, decide_eq_true_eq, decide_eq_true_eq, mrg_e, mrg_e]
        constructor
        · rintro ((h | ⟨c, q1, q2, q3, q4⟩) | ⟨rfl, rfl⟩)
          · exact .inl h
          · exact .inr ⟨c, q1, by omega, q3, q4⟩
          · exact .inr ⟨m, hm, by omega, rfl, hr⟩
        · rintro (h | ⟨c, q1, q2, q3, q4⟩)
          · exact .inl (.inl h)
          · by_cases g : a = k ∧ c = m
            · rw [g.2] at q3; exact .inr ⟨g.1, q3.symm⟩
            · exact .inl (.inr ⟨c, q1, by omega, q3, q4⟩)
    · intro rc2 u hI2
      try dsimp only
      rw [hI2.1, if_pos (nI_ge4 (by omega) (by omega) (Nat.le_refl w))]
    · intro u hI2
      obtain ⟨g1, g2⟩ := hI2
      refine ⟨_, ⟨?_, ?_⟩, rfl⟩
      · try dsimp only
        rw [nI_1]
      · try dsimp only
        rw [g2]
        refine eA_congr (fun a b _ _ => b_eq ?_)
        rw [mrg_e, mrg_e]
        constructor
        · rintro (h | ⟨c, q1, q2, q3, q4⟩)
          · exact .inl h
          · exact .inr ⟨c, q1, by omega, q3, q4⟩
        · rintro (h | ⟨c, q1, q2, q3, q4⟩)
          · exact .inl h
          · exact .inr ⟨c, q1, by omega, q3, q4⟩
  · intro rc s hI
    try dsimp only
    rw [hI.1, if_pos (nI_ge4 (by omega) (by omega) (Nat.le_refl w))]
  · intro s hI
    have hM : s.2 = eA (bent w R lo 0) := hI.2.trans (eA_congr (fun a b _ _ => b_eq (by
      rw [mrg_e, bent_e]
      constructor
      · rintro (h | ⟨c, q1, q2, q3, q4⟩)
        · exact .inl h
        · exact .inr ⟨c, q1, by omega, q3, q4⟩
      · rintro (h | ⟨c, q1, q2, q3, q4⟩)
        · exact .inl h
        · exact .inr ⟨c, q1, .inl (ok.2.1 _ _ q4).1, q3, q4⟩)))
    try dsimp only
    rw [hM]
    refine k_runG (N := 1000) (fun (o : Option (Int32 × Int32 × Int32 × Int32)) => o = some (nI (shr lo w w).1, eA (fun x y => bent w R lo 0 ((shr lo w w).2 x) ((shr lo w w).2 y)), bI 4 (fun x => P ((shr lo w w).2 x)), bI 4 (fun x => Q ((shr lo w w).2 x)))) w (fun (k : Nat) (u : Int32 × Int32 × Int32 × Int32 × Int32) => u.1 = nI (w - k) - 1 ∧ u.2.1 = nI (shr lo w k).1 ∧ u.2.2.1 = eA (fun x y => bent w R lo 0 ((shr lo w k).2 x) ((shr lo w k).2 y)) ∧ u.2.2.2.1 = bI 4 (fun x => P ((shr lo w k).2 x)) ∧ u.2.2.2.2 = bI 4 (fun x => Q ((shr lo w k).2 x))) (by omega) ⟨rfl, rfl, rfl, rfl, rfl⟩ ?_ ?_ ?_
    · intro rc k u hk hI2
      obtain ⟨g1, g2, g3, g4, g5⟩ := hI2
      have hj : u.1 = nI (w - k - 1) := by rw [g1, show w - k = (w - k - 1) + 1 by omega, dn_1]; rfl
      have hlt : lo (w - k - 1) ≤ w - k - 1 := (hlo _ (by omega)).1
      have hP := shr_p lo w k (by omega)
      obtain ⟨p1, p2, p3, p4, p5⟩ := hP
      try dsimp only
      rw [hj, if_neg (nI_pos (show w - k - 1 < 2 ^ 31 by omega)), hlow _ (by omega), g2, g3, g4, g5]
      have hnext : nI (w - k - 1) + -1 = nI (w - (k + 1)) - 1 := by rw [dn_2]; rfl
      by_cases h : lo (w - k - 1) = w - k - 1
      · rw [if_pos (congrArg nI h)]
        refine ⟨(nI (w - k - 1) + -1, _, _, _, _), ⟨hnext, ?_, ?_, ?_, ?_⟩, rfl⟩ <;> (try dsimp only) <;> rw [shr_s1 h]
      · rw [if_neg (nI_ne (by omega) (by omega) h)]
        have ok2 : okF (shr lo w k).1 (fun x y => bent w R lo 0 ((shr lo w k).2 x) ((shr lo w k).2 y)) (fun x => P ((shr lo w k).2 x)) (fun x => Q ((shr lo w k).2 x)) := ⟨by omega, fun a b q => by
          have := bent_in hlo ok.2.1 _ _ q
          exact ⟨(p4 a).mpr this.1, (p4 b).mpr this.2⟩, fun a q => (p4 a).mpr (ok.2.2.1 _ q), fun a q => (p4 a).mpr (ok.2.2.2 _ q)⟩
        rw [drop_e ok2 (show w - k - 1 < (shr lo w k).1 by omega), Option.bind_some]
        refine ⟨(nI (w - k - 1) + -1, _, _, _, _), ⟨hnext, ?_, ?_, ?_, ?_⟩, rfl⟩ <;> (try dsimp only) <;> rw [shr_s2 h] <;> rfl
    · intro rc u hI2
      try dsimp only
      rw [hI2.1, if_pos (show nI (w - w) - 1 < 0 by rw [Nat.sub_self]; decide)]
    · intro u hI2
      obtain ⟨g1, g2, g3, g4, g5⟩ := hI2
      rw [g2, g3, g4, g5]
