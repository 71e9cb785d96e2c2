/-! the properties of frames, both ways -/
def obh (law : Nat) (R : Nat → Nat → Bool) (a b c : Nat) : Bool := if law = 0 then R a a else if law = 1 then !R a b || (!R b c || R a c) else if law = 2 then !R a b || R b a else if law = 3 then (List.range 4).any (R a) else !R a b || (!R a c || R b c)
def obs (law w : Nat) (R : Nat → Nat → Bool) : Bool := (List.range w).all (fun a => (List.range w).all (fun b => (List.range w).all (fun c => obh law R a b c)))
theorem obs_iff {law w : Nat} {R : Nat → Nat → Bool} : obs law w R = true ↔ ∀ a b c, a < w → b < w → c < w → obh law R a b c = true := by
  unfold obs
  simp only [List.all_eq_true, List.mem_range]
  exact ⟨fun h a b c ha hb hc => h a ha b hb c hc, fun h a ha b hb c hc => h a b c ha hb hc⟩
theorem bool_if {b : Bool} {x y : Option Int32} (c : Prop) [Decidable c] (h : b = true ↔ c) : (if c then x else y) = if b then x else y := by
  cases b
  · rw [if_neg (fun q => by have := h.mpr q; cases this), if_neg (by decide)]
  · rw [if_pos (h.mp rfl), if_pos rfl]
theorem bl_b {β : Type} (b : Bool) (e : Option β) : k_bl (if b then 1 else 0) e = e := by
  unfold k_bl
  cases b <;> rfl
def obl (law : Nat) (R : Nat → Nat → Bool) (a b : Nat) : Bool := if law = 1 then (List.range 4).all (fun c => !R b c || R a c) else if law = 2 then R b a else (List.range 4).all (fun c => !R a c || R b c)
theorem bI4_sub (f g : Nat → Bool) : bI 4 f &&& (bI 4 g ^^^ (-1)) = 0 ↔ (List.range 4).all (fun c => !f c || g c) = true := by
  rw [bI_andnot (by omega), bI_eq0 (by omega), List.all_eq_true]
  constructor
  · intro h x hx
    have := h x (List.mem_range.mp hx)
    cases hf : f x <;> cases hg : g x <;> simp_all
  · intro h i hi
    have := h i (List.mem_range.mpr hi)
    cases hf : f i <;> cases hg : g i <;> simp_all
theorem nI_ne {a b : Nat} (ha : a < 2 ^ 31) (hb : b < 2 ^ 31) (h : a ≠ b) : ¬ nI a = nI b := fun q => h ((nI_eq ha hb).mp q)
theorem obeysAlong_e {law : Nat} (hl : law < 5) (R : Nat → Nat → Bool) {a b : Nat} (ha : a < 4) (hb : b < 4) : f_X2_obeysAlong (eA R) (nI law) (nI a) (nI b) = some (if obl law R a b then 1 else 0) := by
  unfold f_X2_obeysAlong obl
  rw [row_e R ha, row_e R hb, has_e R hb ha]
  by_cases h1 : law = 1
  · subst h1
    rw [if_pos (show nI 1 = 1 from rfl), if_pos rfl]
    cases h : (List.range 4).all (fun c => !R b c || R a c)
    · rw [if_neg (fun q => by rw [(bI4_sub _ _).mp q] at h; cases h)]
      rfl
    · rw [if_pos ((bI4_sub _ _).mpr h)]
      rfl
  · rw [if_neg (show ¬ nI law = 1 from nI_ne (show law < 2 ^ 31 by omega) (show 1 < 2 ^ 31 by omega) h1), if_neg h1]
    by_cases h2 : law = 2
    · subst h2
      rw [if_pos (show nI 2 = 2 from rfl), if_pos rfl, bl_b]
    · rw [if_neg (show ¬ nI law = 2 from nI_ne (show law < 2 ^ 31 by omega) (show 2 < 2 ^ 31 by omega) h2), if_neg h2]
      cases h : (List.range 4).all (fun c => !R a c || R b c)
      · rw [if_neg (fun q => by rw [(bI4_sub _ _).mp q] at h; cases h)]
        rfl
      · rw [if_pos ((bI4_sub _ _).mpr h)]
        rfl
def oba (law w : Nat) (R : Nat → Nat → Bool) (a : Nat) : Bool := if law = 0 then R a a else if law = 3 then (List.range 4).any (R a) else (List.range w).all (fun b => !R a b || obl law R a b)
theorem ite_some (b : Bool) : (if b then some 1 else some 0 : Option Int32) = some (if b then 1 else 0) := by cases b <;> rfl
theorem obeysAt_e {law w : Nat} (hl : law < 5) (hw : w ≤ 4) (R : Nat → Nat → Bool) {a : Nat} (ha : a < 4) : f_X2_obeysAt (nI w) (eA R) (nI law) (nI a) = some (if oba law w R a then 1 else 0) := by
  unfold f_X2_obeysAt oba
  rw [row_e R ha, has_e R ha ha]
  by_cases h0 : law = 0
  · subst h0
    rw [if_pos (show nI 0 = 0 from rfl), if_pos rfl, bl_b]
  · rw [if_neg (show ¬ nI law = 0 from nI_ne (show law < 2 ^ 31 by omega) (show 0 < 2 ^ 31 by omega) h0), if_neg h0]
    by_cases h3 : law = 3
    · subst h3
      rw [if_pos (show nI 3 = 3 from rfl), if_pos rfl]
      cases h : (List.range 4).any (R a)
      · rw [if_pos ((bI4_0 _).mpr h)]
        rfl
      · rw [if_neg (fun q => by rw [(bI4_0 _).mp q] at h; cases h)]
        rfl
    · rw [if_neg (show ¬ nI law = 3 from nI_ne (show law < 2 ^ 31 by omega) (show 3 < 2 ^ 31 by omega) h3), if_neg h3]
      refine (k_all_ w (fun k => nI k) (fun b => !R a b || obl law R a b) (some 0) ?_ ?_ (by omega)).trans ?_
      · intro rc k hk
        dsimp only
        rw [if_neg (nI_nge4 (by omega) (by omega) hk), has_e R ha (by omega), obeysAlong_e hl R ha (by omega), nI_1]
        cases hR : R a k
        · rw [if_pos (by decide)]
          rfl
        · rw [if_neg (by decide)]
          cases ho : obl law R a k <;> rfl
      · intro rc
        dsimp only
        rw [if_pos (nI_ge4 (by omega) (by omega) (Nat.le_refl w))]
      · exact ite_some _
theorem oba_obs {law w : Nat} (hl : law < 5) (hw : w ≤ 4) {R : Nat → Nat → Bool} (hR : ∀ a b, R a b = true → a < w ∧ b < w) : (List.range w).all (oba law w R) = obs law w R := by
  have all4 : ∀ f g : Nat → Bool, (∀ x, f x = true → x < w) → ((List.range 4).all (fun c => !f c || g c) = true ↔ ∀ c, c < w → f c = true → g c = true) := by
    intro f g hf
    rw [List.all_eq_true]
    constructor
    · intro h c hc hfc
      have := h c (List.mem_range.mpr (by omega))
      rw [hfc] at this
      simpa using this
    · intro h c hc
      cases hfc : f c
      · rfl
      · rw [h c (hf c hfc) hfc]
        rfl
  have key : (List.range w).all (oba law w R) = true ↔ obs law w R = true := by
    rw [obs_iff, List.all_eq_true]
    rcases (show law = 0 ∨ law = 1 ∨ law = 2 ∨ law = 3 ∨ law = 4 by omega) with rfl | rfl | rfl | rfl | rfl
    · exact ⟨fun h a b c ha hb hc => h a (List.mem_range.mpr ha), fun h a ha => h a a a (List.mem_range.mp ha) (List.mem_range.mp ha) (List.mem_range.mp ha)⟩
    · constructor
      · intro h a b c ha hb hc
        have h1 : (List.range w).all (fun b => !R a b || (List.range 4).all (fun c => !R b c || R a c)) = true := h a (List.mem_range.mpr ha)
        rw [List.all_eq_true] at h1
        have h2 := h1 b (List.mem_range.mpr hb)
        show (!R a b || (!R b c || R a c)) = true
        cases g1 : R a b
        · rfl
        · rw [g1, Bool.not_true, Bool.false_or] at h2
          rw [List.all_eq_true] at h2
          have h3 := h2 c (List.mem_range.mpr (by omega))
          rw [h3]; rfl
      · intro h a ha
        show (List.range w).all (fun b => !R a b || (List.range 4).all (fun c => !R b c || R a c)) = true
        rw [List.all_eq_true]
        intro b hb
        cases g1 : R a b
        · rfl
        · rw [Bool.not_true, Bool.false_or, all4 (R b) (R a) (fun x hx => (hR _ _ hx).2)]
          intro c hc h5
          have h6 : (!R a b || (!R b c || R a c)) = true := h a b c (List.mem_range.mp ha) (List.mem_range.mp hb) hc
          rw [g1, h5] at h6
          simpa using h6
    · constructor
      · intro h a b c ha hb hc
        have h1 : (List.range w).all (fun b => !R a b || R b a) = true := h a (List.mem_range.mpr ha)
        rw [List.all_eq_true] at h1
        exact h1 b (List.mem_range.mpr hb)
      · intro h a ha
        show (List.range w).all (fun b => !R a b || R b a) = true
        rw [List.all_eq_true]
        intro b hb
        exact h a b a (List.mem_range.mp ha) (List.mem_range.mp hb) (List.mem_range.mp ha)
    · exact ⟨fun h a b c ha hb hc => h a (List.mem_range.mpr ha), fun h a ha => h a a a (List.mem_range.mp ha) (List.mem_range.mp ha) (List.mem_range.mp ha)⟩
    · constructor
      · intro h a b c ha hb hc
        have h1 : (List.range w).all (fun b => !R a b || (List.range 4).all (fun c => !R a c || R b c)) = true := h a (List.mem_range.mpr ha)
        rw [List.all_eq_true] at h1
        have h2 := h1 b (List.mem_range.mpr hb)
        show (!R a b || (!R a c || R b c)) = true
        cases g1 : R a b
        · rfl
        · rw [g1, Bool.not_true, Bool.false_or] at h2
          rw [List.all_eq_true] at h2
          have h3 := h2 c (List.mem_range.mpr (by omega))
          rw [h3]; rfl
      · intro h a ha
        show (List.range w).all (fun b => !R a b || (List.range 4).all (fun c => !R a c || R b c)) = true
        rw [List.all_eq_true]
        intro b hb
        cases g1 : R a b
        · rfl
        · rw [Bool.not_true, Bool.false_or, all4 (R a) (R b) (fun x hx => (hR _ _ hx).2)]
          intro c hc h5
          have h6 : (!R a b || (!R a c || R b c)) = true := h a b c (List.mem_range.mp ha) (List.mem_range.mp hb) hc
          rw [g1, h5] at h6
          simpa using h6
  cases h1 : (List.range w).all (oba law w R) <;> cases h2 : obs law w R <;> simp_all
theorem obeys_e {law w : Nat} (hl : law < 5) (hw : w ≤ 4) {R : Nat → Nat → Bool} (hR : ∀ a b, R a b = true → a < w ∧ b < w) : f_X2_obeys (nI w) (eA R) (nI law) = some (if obs law w R then 1 else 0) := by
  unfold f_X2_obeys
  rw [← oba_obs hl hw hR]
  refine (k_all_ w (fun k => nI k) (oba law w R) (some 0) ?_ ?_ (by omega)).trans ?_
  · intro rc k hk
    dsimp only
    rw [if_neg (nI_nge4 (by omega) (by omega) hk), obeysAt_e hl hw R (by omega), nI_1]
    cases ho : oba law w R k <;> rfl
  · intro rc
    dsimp only
    rw [if_pos (nI_ge4 (by omega) (by omega) (Nat.le_refl w))]
  · exact ite_some _
/-- whether a frame fits a kind -/
def ftk (kind w : Nat) (R : Nat → Nat → Bool) : Bool := if kind = 0 then true else if kind = 1 then obs 0 w R else if kind = 2 then obs 0 w R && obs 1 w R else if kind = 3 then obs 2 w R else obs 3 w R
theorem fits_e {kind w : Nat} (hk : kind < 5) (hw : w ≤ 4) {R : Nat → Nat → Bool} (hR : ∀ a b, R a b = true → a < w ∧ b < w) : f_X2_fits (nI w) (eA R) (nI kind) = some (if ftk kind w R then 1 else 0) := by
  unfold f_X2_fits ftk
  have e0 := obeys_e (law := 0) (by omega) hw hR
  have e1 := obeys_e (law := 1) (by omega) hw hR
  have e2 := obeys_e (law := 2) (by omega) hw hR
  have e3 := obeys_e (law := 3) (by omega) hw hR
  rw [show f_X2_obeys (nI w) (eA R) 0 = _ from e0, show f_X2_obeys (nI w) (eA R) 1 = _ from e1, show f_X2_obeys (nI w) (eA R) 2 = _ from e2, show f_X2_obeys (nI w) (eA R) 3 = _ from e3]
  rcases (show kind = 0 ∨ kind = 1 ∨ kind = 2 ∨ kind = 3 ∨ kind = 4 by omega) with rfl | rfl | rfl | rfl | rfl
  · rfl
  · show k_bl _ _ = _
    rw [bl_b]
    rfl
  · cases obs 0 w R <;> cases obs 1 w R <;> rfl
  · show k_bl _ _ = _
    rw [bl_b]
    rfl
  · show k_bl _ _ = _
    rw [bl_b]
    rfl
