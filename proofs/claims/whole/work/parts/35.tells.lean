abbrev K6 := Option (Int32 × Int32 × Int32 × Int32 × (Nat → Int32) × (Nat → Int32))
def fnG (kk : Nat) (g : Nat → Int32) (e : Nat → Nat) (n y : Nat) (o : K6) : Prop :=
  (∃ a b c d f, o = some (-1, a, b, c, d, f) ∧ ∀ x, x < 2 ^ (n * n) → gd kk g e n x = true) ∨
  (∃ x n0 a0 a b c d f, o = some (nI (if y = 0 then x else if y = 1 then n0 else a0), a, b, c, d, f) ∧ x < 2 ^ (n * n) ∧ gd kk g e n x = false ∧ (∀ y, y < x → gd kk g e n y = true) ∧ n0 < 2 ^ (2 * n) ∧ val g e (gr n x) n n0 = false ∧ (∀ m, m < n0 → val g e (gr n x) n m = true) ∧ a0 < n ∧ vl g e (gr n x) n n0 a0 = false ∧ ∀ b, b < a0 → vl g e (gr n x) n n0 b = true)
theorem nm1 {n : Nat} (h : n < 2 ^ 31) : ¬ nI n = -1 := fun q => by
  have h9 := nI_pos h
  rw [q] at h9
  exact h9 (by decide)
theorem failNow_e {kk : Nat} (hk : kk < 5) {L : Nat} {g : Nat → Int32} {e : Nat → Nat} {signAt behind : Nat → Int32} (hf : RMo L g e signAt behind) (hL : 0 < L) {n y : Nat} (hn : n < 4) (hn0 : 0 < n) (hy : y < 3) (m p q : Int32) (to holds : Nat → Int32) :
    fnG kk g e n y (f_X9_failNow (nI kk) (nI L) m p q signAt behind to holds (nI n) (nI y)) := by
  unfold f_X9_failNow
  have hnn := nn_k n hn
  rw [hnn.1]
  have h5 := hnn.2
  generalize hM : 2 ^ (n * n) = M at h5
  refine k_runE (N := 1000) (fnG kk g e n y) M
    (fun (k : Nat) (s : Int32 × Int32 × Int32 × Int32 × (Nat → Int32) × (Nat → Int32)) => s.1 = nI k ∧ ∀ x, x < k → gd kk g e n x = true) (by omega) ⟨rfl, fun x h => absurd h (Nat.not_lt_zero x)⟩ ?_ ?_ ?_
  · intro rc k s hk2 hI
    obtain ⟨h1, h2⟩ := hI
    have hnext : gd kk g e n k = true → ∀ x, x < k + 1 → gd kk g e n x = true := fun h x hx => by
      by_cases q : x = k
      · rw [q]; exact h
      · exact h2 x (by omega)
    try dsimp only
    rw [h1, if_neg (nI_nge4 (by omega) (by omega) hk2), layNumber_e hn (show k < 512 by omega), Option.bind_some]
    try dsimp only
    rw [fitsNow_e hk (rows_lk n (gr n k) s.2.2.2.2.1) (show n ≤ 4 by omega), Option.bind_some, nI_1]
    cases hft : ftk kk n (gr n k)
    · exact Or.inl ⟨_, ⟨rfl, hnext (by unfold gd; rw [hft]; rfl)⟩, rfl⟩
    · simp only [if_true, i10, if_false]
      rcases failing_e hf hL (show n ≤ 4 by omega) (gr_in n k) (rows_lk n (gr n k) s.2.2.2.2.1) s.2.2.1 s.2.2.2.1 s.2.2.2.2.2 with ⟨p', q', holds', e1, e2⟩ | ⟨n0, p', q', holds', e1, e2, e3, e4, e5⟩
      · rw [e1]
        exact Or.inl ⟨_, ⟨rfl, hnext (by unfold gd; rw [vall_t e2, Bool.or_true])⟩, rfl⟩
      · have h256 := two_w (show n ≤ 4 by omega)
        rw [e1, Option.bind_some, Option.bind_some]
        try dsimp only
        rw [if_neg (nm1 (show n0 < 2 ^ 31 by omega)), show nI n - 1 = nI (n - 1) by rw [show (1 : Int32) = nI 1 from rfl, pk_sub (show 1 ≤ n by omega)]]
        refine Or.inr ⟨_, rfl, ?_⟩
        have fin : ∀ a0, a0 < n → vl g e (gr n k) n n0 a0 = false → (∀ b, b < a0 → vl g e (gr n k) n n0 b = true) → fnG kk g e n y (if nI y = 0 then some (nI k, nI n, p', q', rows_ n (gr n k) s.2.2.2.2.1, holds') else if nI y = 1 then some (nI n0, nI n, p', q', rows_ n (gr n k) s.2.2.2.2.1, holds') else some (nI a0, nI n, p', q', rows_ n (gr n k) s.2.2.2.2.1, holds')) := by
          intro a0 g1 g2 g3
          refine Or.inr ⟨k, n0, a0, nI n, p', q', rows_ n (gr n k) s.2.2.2.2.1, holds', ?_, by rw [hM]; exact hk2, by unfold gd; rw [hft, vall_f e2 e3]; rfl, h2, e2, e3, e4, g1, g2, g3⟩
          rcases (by omega : y = 0 ∨ y = 1 ∨ y = 2) with rfl | rfl | rfl <;> rfl
        have hz : ∀ a, a < n → f_X9_isIn (holds' 0) (nI a) = if vl g e (gr n k) n n0 a then 1 else 0 := fun a ha => by
          rw [e5, isIn_e (by omega) _ (show a < 4 by omega) (by omega), decide_eq_true ha]
          rfl
        obtain ⟨a1, a2, a3, a4⟩ := first_w (val_w e3)
        refine k_srchG (N := 1000) (fnG kk g e n y) (n - 1) (fun k => nI k) (fun j => vl g e (gr n k) n n0 j) (fun j => if nI y = 0 then some (nI k, nI n, p', q', rows_ n (gr n k) s.2.2.2.2.1, holds') else if nI y = 1 then some (nI n0, nI n, p', q', rows_ n (gr n k) s.2.2.2.2.1, holds') else some (nI j, nI n, p', q', rows_ n (gr n k) s.2.2.2.2.1, holds')) (by omega) rfl ?_ ?_ ?_ ?_
        · intro rc2 j hj
          try dsimp only
          rw [if_neg (nI_nge4 (by omega) (by omega) hj), show (0 : Int32) = nI 0 from rfl, chk_e (show 0 < 16 by omega) (by omega), cl_e (show 0 < 2 ^ 31 by omega), hz j (by omega), nI_1]
          cases vl g e (gr n k) n n0 j <;> rfl
        · intro rc2
          try dsimp only
          rw [if_pos (nI_ge4 (by omega) (by omega) (Nat.le_refl _))]
        · intro j hj h6 h7
          exact fin j (by omega) h6 h7
        · intro h6
          refine fin (n - 1) (by omega) ?_ h6
          have : a1 = n - 1 := by
            rcases Nat.lt_or_ge a1 (n - 1) with q | q
            · have := h6 a1 q; rw [a3] at this; cases this
            · omega
          rw [← this]; exact a3
  · intro rc s hI
    try dsimp only
    rw [hI.1, if_pos (nI_ge4 (by omega) (by omega) (Nat.le_refl _))]
  · intro s hI
    exact Or.inl ⟨_, _, _, _, _, rfl, fun x hx => hI.2 x (by rw [hM] at hx; exact hx)⟩
/-- from one to three -/
theorem w13_e (x : Int32) : (∃ n, 0 < n ∧ n < 4 ∧ x = nI n ∧ ¬ x < 1 ∧ ¬ 3 < x ∧ f_X9_within x 1 3 = 1) ∨ ((x < 1 ∨ 3 < x) ∧ f_X9_within x 1 3 = 0) := by
  unfold f_X9_within
  by_cases h1 : x < 1
  · exact Or.inr ⟨.inl h1, if_pos h1⟩
  · by_cases h3 : 3 < x
    · exact Or.inr ⟨.inr h3, by rw [if_neg h1, if_pos h3]⟩
    · have h0 : ¬ x < 0 := fun q => h1 (by
        rw [Int32.lt_iff_toInt_lt] at q ⊢
        have e1 : (1 : Int32).toInt = 1 := rfl
        have e0 : (0 : Int32).toInt = 0 := rfl
        omega)
      obtain ⟨n, hn, rfl⟩ := nI_of h0
      have a1 : ¬ n < 1 := fun q => h1 ((nI_ltI hn (show 1 < 2 ^ 31 by omega)).mpr q)
      have a3 : ¬ 3 < n := fun q => h3 ((nI_ltI (show 3 < 2 ^ 31 by omega) hn).mpr q)
      exact Or.inl ⟨n, by omega, by omega, rfl, h1, h3, by rw [if_neg h1, if_neg h3]⟩
theorem lt12_e {c : Nat} (h : c ≤ 12) : (nI c < 12 ↔ c ≠ 12) ∧ (nI c = 12 ↔ c = 12) := by
  constructor
  · rw [show (12 : Int32) = nI 12 from rfl, nI_ltI (by omega) (by omega)]; omega
  · rw [show (12 : Int32) = nI 12 from rfl, nI_eq (by omega) (by omega)]
theorem st_fail {k1 w1 A p q k2 w2 : Int32} {arr mk : Nat → Int32} (h : RF k1 w1 A p q k2 w2 arr mk) {L : Nat} {g : Nat → Int32} {e : Nat → Nat} {signs ends signAt behind : Nat → Int32} (hf : RFo L g e signs ends) (hf2 : RMo L g e signAt behind) {c : Nat} (hc : c ≤ 12) (ck cw ca cp cq : Int32) (vp vq held : Nat → Int64) (m a b : Int32) (to holds : Nat → Int32) (x y : Int32) :
    ∃ r c' ck' cw' ca' cp' cq' vp' vq' held' m' a' b' to' holds', f_X8_fail (nI c) k1 w1 (nI L) signs ends ck cw ca cp cq vp vq held x y = some (r, nI c', ck', cw', ca', cp', cq', vp', vq', held') ∧ f_X9_fail k2 w2 (nI L) (nI c) m a b signAt behind to holds x y = some (r, nI c', m', a', b', to', holds') ∧ c' ≤ 12 := by
  obtain ⟨kk, w, R, P, Q, hk, ok, rfl, rfl, rfl, rfl, rfl, rfl, rfl, hb, hm⟩ := h
  have h16 := hf.1.1
  unfold f_X9_fail f_X8_fail
  rw [hasFrame_e (w_lt ok.1), isFrame_e (w_lt ok.1), hasFormula_e h16, isFormula_e h16]
  rcases w13_e x with ⟨n, n0, n4, rfl, h1, h2, h3⟩ | ⟨h1, h3⟩
  · rw [if_neg h1, if_neg h2]
    simp only [h3, i10, if_false]
    rcases idx_k y 3 2 (by omega) (by decide) with ⟨j, g1, rfl, g2, g3⟩ | ⟨g2, g3⟩
    · simp only [show f_X8_isBelow (nI j) 3 = 1 from g2, g3, i10, if_false]
      by_cases hw : w = 0
      · rw [if_pos hw]; simp only [i00, if_true]
        exact ⟨_, _, _, _, _, _, _, _, _, _, _, _, _, _, _, rfl, rfl, hc⟩
      · rw [if_neg hw]; simp only [i10, if_false]
        by_cases hL : L = 0
        · rw [if_pos hL]; simp only [i00, if_true]
          exact ⟨_, _, _, _, _, _, _, _, _, _, _, _, _, _, _, rfl, rfl, hc⟩
        · rw [if_neg hL]; simp only [i10, if_false]
          by_cases h12 : c = 12
          · rw [if_neg (fun q => (lt12_e hc).1.mp q h12), if_pos ((lt12_e hc).2.mpr h12)]
            exact ⟨_, _, _, _, _, _, _, _, _, _, _, _, _, _, _, rfl, rfl, hc⟩
          · rw [if_pos ((lt12_e hc).1.mpr h12), if_neg (fun q => h12 ((lt12_e hc).2.mp q)), nI_1]
            rcases firstRefuting_e hk hf (show 0 < L by omega) n4 ck cw ca cp cq vp vq held with ⟨t1, t2, t3, t4, t5, t6, t7, t8, e1, e2⟩ | ⟨z, t1, t2, t3, t4, t5, t6, t7, t8, e1, e2, e3, e4, e5⟩
            · rcases failNow_e hk hf2 (show 0 < L by omega) n4 n0 g1 m a b to holds with ⟨u1, u2, u3, u4, u5, f1, f2⟩ | ⟨z', n', a', u1, u2, u3, u4, u5, f1, f2, f3, f4, f5, f6, f7, f8, f9, f10⟩
              · rw [e1, f1]
                exact ⟨_, c + 1, _, _, _, _, _, _, _, _, _, _, _, _, _, rfl, rfl, by omega⟩
              · rw [e2 z' f2] at f3; cases f3
            · rcases failNow_e hk hf2 (show 0 < L by omega) n4 n0 g1 m a b to holds with ⟨u1, u2, u3, u4, u5, f1, f2⟩ | ⟨z', n', a', u1, u2, u3, u4, u5, f1, f2, f3, f4, f5, f6, f7, f8, f9, f10⟩
              · rw [f2 z e2] at e3; cases e3
              · have hz := first_u e3 e4 f3 f4
                subst hz
                have h512 := (nn_k n n4).2
                rw [e1, f1, Option.bind_some, Option.bind_some]
                try dsimp only
                rw [if_neg (nm1 (show z < 2 ^ 31 by omega))]
                obtain ⟨x9, r1, r2⟩ := refuting_e t8 (show n ≤ 4 by omega)
                have h64 : 2 ^ (2 * n) ≤ 64 := Nat.pow_le_pow_right (n := 2) (i := 2 * n) (j := 6) (by omega) (by omega)
                have hx9 : ∀ l, l < 64 → bL x9 l = !val g e (gr n z) n l := fun l hl => by
                  rw [r2 l hl, any_nall]
                  congr 1
                  rw [Bool.eq_iff_iff, val_iff, List.all_eq_true]
                  exact ⟨fun h a ha => by rw [← e5 l a hl ha]; exact h a (List.mem_range.mpr ha), fun h a ha => by rw [e5 l a hl (List.mem_range.mp ha)]; exact h a (List.mem_range.mp ha)⟩
                have hlow : f_X8_lowest x9 = nI n' := lowest64_e (show n' < 64 by omega) (by rw [hx9 _ (by omega), f6]; rfl) (fun j hj => by rw [hx9 _ (by omega), f7 j hj]; rfl)
                have hwo : f_X7_lowestWithout t8 (nI n') (nI n) = some (nI a') := lowestWithout_e (show n ≤ 4 by omega) (show n' < 64 by omega) f8 (by rw [e5 _ _ (by omega) f8]; exact f9) (fun b hb => by rw [e5 _ _ (by omega) (by omega)]; exact f10 b hb)
                rw [r1, Option.bind_some, hlow, hwo]
                rcases (by omega : j = 0 ∨ j = 1 ∨ j = 2) with rfl | rfl | rfl
                · exact ⟨_, c + 1, _, _, _, _, _, _, _, _, _, _, _, _, _, rfl, rfl, by omega⟩
                · exact ⟨_, c + 1, _, _, _, _, _, _, _, _, _, _, _, _, _, rfl, rfl, by omega⟩
                · exact ⟨_, c + 1, _, _, _, _, _, _, _, _, _, _, _, _, _, rfl, rfl, by omega⟩
    · simp only [show f_X8_isBelow y 3 = 0 from g2, g3, i00, if_true]
      exact ⟨_, _, _, _, _, _, _, _, _, _, _, _, _, _, _, rfl, rfl, hc⟩
  · simp only [h3, i00, if_true]
    by_cases h5 : x < 1
    · rw [if_pos h5]
      exact ⟨_, _, _, _, _, _, _, _, _, _, _, _, _, _, _, rfl, rfl, hc⟩
    · rw [if_neg h5, if_pos (h1.resolve_left h5)]
      exact ⟨_, _, _, _, _, _, _, _, _, _, _, _, _, _, _, rfl, rfl, hc⟩
/-- what tells: the law holds on just the frames where the formula is valid -/
def tld (law : Nat) (g : Nat → Int32) (e : Nat → Nat) (x : Nat) : Bool := obs law 3 (gr 3 x) == vall g e (gr 3 x) 3
def dfG (law : Nat) (g : Nat → Int32) (e : Nat → Nat) (o : K9) : Prop := ∃ a b c d f p q h, o = some ((if (List.range 512).all (tld law g e) then 1 else 0), a, b, c, d, f, p, q, h)
theorem all_t {n : Nat} {f : Nat → Bool} (h : ∀ k, k < n → f k = true) : (List.range n).all f = true := by
  rw [List.all_eq_true]
  exact fun k hk => h k (List.mem_range.mp hk)
theorem all_f {n : Nat} {f : Nat → Bool} {k : Nat} (hk : k < n) (h : f k = false) : (List.range n).all f = false := by
  cases hc : (List.range n).all f
  · rfl
  · rw [List.all_eq_true] at hc
    rw [hc k (List.mem_range.mpr hk)] at h
    cases h
theorem defines_e {law : Nat} (hl : law < 5) {L : Nat} {g : Nat → Int32} {e : Nat → Nat} {signs ends : Nat → Int32} (hf : RFo L g e signs ends) (hL : 0 < L) (a b c d f : Int32) (vp vq held : Nat → Int64) :
    dfG law g e (f_X8_defines (nI L) signs ends a b c d f vp vq held (nI law)) := by
  unfold f_X8_defines
  refine k_runE (N := 1000) (dfG law g e) 512
    (fun (k : Nat) (s : Int32 × Int32 × Int32 × Int32 × Int32 × Int32 × (Nat → Int64) × (Nat → Int64) × (Nat → Int64)) => s.1 = nI k ∧ ∀ x, x < k → tld law g e x = true) (by omega) ⟨rfl, fun x h => absurd h (Nat.not_lt_zero x)⟩ ?_ ?_ ?_
  · intro rc k s hk2 hI
    obtain ⟨h1, h2⟩ := hI
    have hnext : tld law g e k = true → ∀ x, x < k + 1 → tld law g e x = true := fun h x hx => by
      by_cases q : x = k
      · rw [q]; exact h
      · exact h2 x (by omega)
    try dsimp only
    rw [h1, if_neg (show ¬ (512 : Int32) ≤ nI k from nI_nge4 (a := 512) (by omega) (by omega) hk2), show (3 : Int32) = nI 3 from rfl, build_e (show 3 < 4 by omega) hk2, Option.bind_some]
    try dsimp only
    rw [obeys_e hl (show 3 ≤ 4 by omega) (gr_in 3 k), Option.bind_some, nI_1]
    rcases isValid_e hf hL (show 3 ≤ 4 by omega) (gr_in 3 k) s.2.2.2.2.2.2.1 s.2.2.2.2.2.2.2.1 s.2.2.2.2.2.2.2.2 with ⟨vp', vq', held', e1, e2⟩ | ⟨vp', vq', held', e1, ⟨n, e2, e3⟩, -⟩
    · rw [e1, Option.bind_some]
      cases ho : obs law 3 (gr 3 k)
      · exact Or.inr ⟨_, rfl, _, _, _, _, _, _, _, _, by rw [all_f hk2 (show tld law g e k = false by unfold tld; rw [ho, vall_t e2]; rfl)]; rfl⟩
      · exact Or.inl ⟨_, ⟨rfl, hnext (by unfold tld; rw [ho, vall_t e2]; rfl)⟩, rfl⟩
    · rw [e1, Option.bind_some]
      cases ho : obs law 3 (gr 3 k)
      · exact Or.inl ⟨_, ⟨rfl, hnext (by unfold tld; rw [ho, vall_f e2 e3]; rfl)⟩, rfl⟩
      · exact Or.inr ⟨_, rfl, _, _, _, _, _, _, _, _, by rw [all_f hk2 (show tld law g e k = false by unfold tld; rw [ho, vall_f e2 e3]; rfl)]; rfl⟩
  · intro rc s hI
    try dsimp only
    rw [hI.1, if_pos (show (512 : Int32) ≤ nI 512 from nI_ge4 (a := 512) (by omega) (by omega) (Nat.le_refl _))]
  · intro s hI
    exact ⟨_, _, _, _, _, _, _, _, by rw [all_t hI.2]; rfl⟩
def tnG (law : Nat) (g : Nat → Int32) (e : Nat → Nat) (o : K6) : Prop := ∃ a b c d f, o = some ((if (List.range 512).all (tld law g e) then 1 else 0), a, b, c, d, f)
theorem tellsNow_e {law : Nat} (hl : law < 5) {L : Nat} {g : Nat → Int32} {e : Nat → Nat} {signAt behind : Nat → Int32} (hf : RMo L g e signAt behind) (hL : 0 < L) (m p q : Int32) (to holds : Nat → Int32) :
    tnG law g e (f_X9_tellsNow (nI L) m p q signAt behind to holds (nI law)) := by
  unfold f_X9_tellsNow
  refine k_runE (N := 1000) (tnG law g e) 512
    (fun (k : Nat) (s : Int32 × Int32 × Int32 × Int32 × (Nat → Int32) × (Nat → Int32)) => s.1 = nI k ∧ ∀ x, x < k → tld law g e x = true) (by omega) ⟨rfl, fun x h => absurd h (Nat.not_lt_zero x)⟩ ?_ ?_ ?_
  · intro rc k s hk2 hI
    obtain ⟨h1, h2⟩ := hI
    have hnext : tld law g e k = true → ∀ x, x < k + 1 → tld law g e x = true := fun h x hx => by
      by_cases q : x = k
      · rw [q]; exact h
      · exact h2 x (by omega)
    try dsimp only
    rw [h1, if_neg (show ¬ (512 : Int32) ≤ nI k from nI_nge4 (a := 512) (by omega) (by omega) hk2), show (3 : Int32) = nI 3 from rfl, layNumber_e (show 3 < 4 by omega) hk2, Option.bind_some]
    try dsimp only
    rw [keepsNow_e hl (rows_lk 3 (gr 3 k) s.2.2.2.2.1) (show 3 ≤ 4 by omega), Option.bind_some, nI_1]
    rcases failing_e hf hL (show 3 ≤ 4 by omega) (gr_in 3 k) (rows_lk 3 (gr 3 k) s.2.2.2.2.1) s.2.2.1 s.2.2.2.1 s.2.2.2.2.2 with ⟨p', q', holds', e1, e2⟩ | ⟨n0, p', q', holds', e1, e2, e3, e4, e5⟩
    · rw [e1, Option.bind_some]
      cases ho : obs law 3 (gr 3 k)
      · exact Or.inr ⟨_, rfl, _, _, _, _, _, by rw [all_f hk2 (show tld law g e k = false by unfold tld; rw [ho, vall_t e2]; rfl)]; rfl⟩
      · exact Or.inl ⟨_, ⟨rfl, hnext (by unfold tld; rw [ho, vall_t e2]; rfl)⟩, rfl⟩
    · have h256 := two_w (show 3 ≤ 4 by omega)
      rw [e1, Option.bind_some]
      try dsimp only
      rw [if_neg (nm1 (show n0 < 2 ^ 31 by omega))]
      cases ho : obs law 3 (gr 3 k)
      · exact Or.inl ⟨_, ⟨rfl, hnext (by unfold tld; rw [ho, vall_f e2 e3]; rfl)⟩, rfl⟩
      · exact Or.inr ⟨_, rfl, _, _, _, _, _, by rw [all_f hk2 (show tld law g e k = false by unfold tld; rw [ho, vall_f e2 e3]; rfl)]; rfl⟩
  · intro rc s hI
    try dsimp only
    rw [hI.1, if_pos (show (512 : Int32) ≤ nI 512 from nI_ge4 (a := 512) (by omega) (by omega) (Nat.le_refl _))]
  · intro s hI
    exact ⟨_, _, _, _, _, by rw [all_t hI.2]; rfl⟩
theorem st_tells {L : Nat} {g : Nat → Int32} {e : Nat → Nat} {signs ends signAt behind : Nat → Int32} (hf : RFo L g e signs ends) (hf2 : RMo L g e signAt behind) {c : Nat} (hc : c ≤ 12) (ck cw ca cp cq : Int32) (vp vq held : Nat → Int64) (m a b : Int32) (to holds : Nat → Int32) (x : Int32) :
    ∃ r c' ck' cw' ca' cp' cq' vp' vq' held' m' a' b' to' holds', f_X8_tells (nI c) (nI L) signs ends ck cw ca cp cq vp vq held x = some (r, nI c', ck', cw', ca', cp', cq', vp', vq', held') ∧ f_X9_tells (nI L) (nI c) m a b signAt behind to holds x = some (r, nI c', m', a', b', to', holds') ∧ c' ≤ 12 := by
  have h16 := hf.1.1
  unfold f_X9_tells f_X8_tells
  rw [hasFormula_e h16, isFormula_e h16]
  rcases idx_k x 5 4 (by omega) (by decide) with ⟨j, g1, rfl, g2, g3⟩ | ⟨g2, g3⟩
  · simp only [show f_X8_isBelow (nI j) 5 = 1 from g2, g3, i10, if_false]
    by_cases hL : L = 0
    · rw [if_pos hL]; simp only [i00, if_true]
      exact ⟨_, _, _, _, _, _, _, _, _, _, _, _, _, _, _, rfl, rfl, hc⟩
    · rw [if_neg hL]; simp only [i10, if_false]
      by_cases h12 : c = 12
      · rw [if_neg (fun q => (lt12_e hc).1.mp q h12), if_pos ((lt12_e hc).2.mpr h12)]
        exact ⟨_, _, _, _, _, _, _, _, _, _, _, _, _, _, _, rfl, rfl, hc⟩
      · rw [if_pos ((lt12_e hc).1.mpr h12), if_neg (fun q => h12 ((lt12_e hc).2.mp q)), nI_1]
        obtain ⟨t1, t2, t3, t4, t5, t6, t7, t8, e1⟩ := defines_e g1 hf (show 0 < L by omega) ck cw ca cp cq vp vq held
        obtain ⟨u1, u2, u3, u4, u5, f1⟩ := tellsNow_e g1 hf2 (show 0 < L by omega) m a b to holds
        rw [e1, f1, Option.bind_some, Option.bind_some, toInt_e]
        clear e1 f1
        generalize (List.range 512).all (tld j g e) = T
        exact ⟨_, c + 1, _, _, _, _, _, _, _, _, _, _, _, _, _, rfl, rfl, by omega⟩
  · simp only [show f_X8_isBelow x 5 = 0 from g2, g3, i00, if_true]
    exact ⟨_, _, _, _, _, _, _, _, _, _, _, _, _, _, _, rfl, rfl, hc⟩
